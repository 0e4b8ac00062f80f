section
-- ===== PART A: goes FIRST, ahead of the names: the tables' words, and 'selects' of the private methods out of them =====
/-- a private method of a class that the tables say can be made, by its rows of tables_1 -/
def lw_okq (q : MethodName × Nat) : Prop := (q.1.cls ≠ "java/lang/invoke/MethodHandle" ∧ q.1.cls ≠ "java/lang/invoke/VarHandle") ∧ Cond.instantiable q.1.cls q.2 ∈ tables_1 ∧ Cond.privateMethod q.1 ∈ tables_1 ∧ Cond.instanceMethod q.1 ∈ tables_1
theorem lw_p0 : lw_okq (⟨"ThreeOfThem$Reader", "split", "()V"⟩, 8) := ⟨⟨by decide +kernel, by decide +kernel⟩, List.mem_of_getElem? (i := 161) (by decide +kernel), List.mem_of_getElem? (i := 273) (by decide +kernel), List.mem_of_getElem? (i := 274) (by decide +kernel)⟩
theorem lw_p1 : lw_okq (⟨"ThreeOfThem$Reader", "behind", "(I)I"⟩, 8) := ⟨⟨by decide +kernel, by decide +kernel⟩, List.mem_of_getElem? (i := 161) (by decide +kernel), List.mem_of_getElem? (i := 277) (by decide +kernel), List.mem_of_getElem? (i := 278) (by decide +kernel)⟩
theorem lw_p2 : lw_okq (⟨"ThreeOfThem$Reader", "tokenOf", "(II)I"⟩, 8) := ⟨⟨by decide +kernel, by decide +kernel⟩, List.mem_of_getElem? (i := 161) (by decide +kernel), List.mem_of_getElem? (i := 287) (by decide +kernel), List.mem_of_getElem? (i := 288) (by decide +kernel)⟩
theorem lw_p3 : lw_okq (⟨"ThreeOfThem$Reader", "wordOf", "(II)I"⟩, 8) := ⟨⟨by decide +kernel, by decide +kernel⟩, List.mem_of_getElem? (i := 161) (by decide +kernel), List.mem_of_getElem? (i := 291) (by decide +kernel), List.mem_of_getElem? (i := 292) (by decide +kernel)⟩
theorem lw_p4 : lw_okq (⟨"ThreeOfThem$Reader", "spells", "(Ljava/lang/String;II)Z"⟩, 8) := ⟨⟨by decide +kernel, by decide +kernel⟩, List.mem_of_getElem? (i := 161) (by decide +kernel), List.mem_of_getElem? (i := 296) (by decide +kernel), List.mem_of_getElem? (i := 297) (by decide +kernel)⟩
theorem lw_p5 : lw_okq (⟨"ThreeOfThem$Reader", "numberOf", "(II)I"⟩, 8) := ⟨⟨by decide +kernel, by decide +kernel⟩, List.mem_of_getElem? (i := 161) (by decide +kernel), List.mem_of_getElem? (i := 313) (by decide +kernel), List.mem_of_getElem? (i := 314) (by decide +kernel)⟩
theorem lw_p6 : lw_okq (⟨"ThreeOfThem$Reader", "readPart", "(I)Z"⟩, 8) := ⟨⟨by decide +kernel, by decide +kernel⟩, List.mem_of_getElem? (i := 161) (by decide +kernel), List.mem_of_getElem? (i := 320) (by decide +kernel), List.mem_of_getElem? (i := 321) (by decide +kernel)⟩
theorem lw_p7 : lw_okq (⟨"ThreeOfThem$Reader", "pass", "(I)Z"⟩, 8) := ⟨⟨by decide +kernel, by decide +kernel⟩, List.mem_of_getElem? (i := 161) (by decide +kernel), List.mem_of_getElem? (i := 324) (by decide +kernel), List.mem_of_getElem? (i := 325) (by decide +kernel)⟩
theorem lw_p8 : lw_okq (⟨"ThreeOfThem$Reader", "current", "()I"⟩, 8) := ⟨⟨by decide +kernel, by decide +kernel⟩, List.mem_of_getElem? (i := 161) (by decide +kernel), List.mem_of_getElem? (i := 328) (by decide +kernel), List.mem_of_getElem? (i := 329) (by decide +kernel)⟩
theorem lw_p9 : lw_okq (⟨"ThreeOfThem$Reader", "readLevel", "(II)Z"⟩, 8) := ⟨⟨by decide +kernel, by decide +kernel⟩, List.mem_of_getElem? (i := 161) (by decide +kernel), List.mem_of_getElem? (i := 332) (by decide +kernel), List.mem_of_getElem? (i := 333) (by decide +kernel)⟩
theorem lw_p10 : lw_okq (⟨"ThreeOfThem$Reader", "readOne", "(I)Z"⟩, 8) := ⟨⟨by decide +kernel, by decide +kernel⟩, List.mem_of_getElem? (i := 161) (by decide +kernel), List.mem_of_getElem? (i := 336) (by decide +kernel), List.mem_of_getElem? (i := 337) (by decide +kernel)⟩
theorem lw_p11 : lw_okq (⟨"ThreeOfThem$Reader", "emit", "(I)V"⟩, 8) := ⟨⟨by decide +kernel, by decide +kernel⟩, List.mem_of_getElem? (i := 161) (by decide +kernel), List.mem_of_getElem? (i := 340) (by decide +kernel), List.mem_of_getElem? (i := 341) (by decide +kernel)⟩
theorem lw_p12 : lw_okq (⟨"ThreeOfThem$Reader", "readOpened", "(III)Z"⟩, 8) := ⟨⟨by decide +kernel, by decide +kernel⟩, List.mem_of_getElem? (i := 161) (by decide +kernel), List.mem_of_getElem? (i := 344) (by decide +kernel), List.mem_of_getElem? (i := 345) (by decide +kernel)⟩
theorem lw_p13 : lw_okq (⟨"ThreeOfThem", "setRent", "(I)I"⟩, 8) := ⟨⟨by decide +kernel, by decide +kernel⟩, List.mem_of_getElem? (i := 17) (by decide +kernel), List.mem_of_getElem? (i := 442) (by decide +kernel), List.mem_of_getElem? (i := 443) (by decide +kernel)⟩
theorem lw_p14 : lw_okq (⟨"ThreeOfThem", "setNeeded", "(I)I"⟩, 8) := ⟨⟨by decide +kernel, by decide +kernel⟩, List.mem_of_getElem? (i := 17) (by decide +kernel), List.mem_of_getElem? (i := 446) (by decide +kernel), List.mem_of_getElem? (i := 447) (by decide +kernel)⟩
theorem lw_p15 : lw_okq (⟨"ThreeOfThem", "setDay", "(I)I"⟩, 8) := ⟨⟨by decide +kernel, by decide +kernel⟩, List.mem_of_getElem? (i := 17) (by decide +kernel), List.mem_of_getElem? (i := 450) (by decide +kernel), List.mem_of_getElem? (i := 451) (by decide +kernel)⟩
def lw_privs_1 : List (MethodName × Nat) := [(⟨"ThreeOfThem$Reader", "split", "()V"⟩, 8), (⟨"ThreeOfThem$Reader", "behind", "(I)I"⟩, 8), (⟨"ThreeOfThem$Reader", "tokenOf", "(II)I"⟩, 8), (⟨"ThreeOfThem$Reader", "wordOf", "(II)I"⟩, 8), (⟨"ThreeOfThem$Reader", "spells", "(Ljava/lang/String;II)Z"⟩, 8), (⟨"ThreeOfThem$Reader", "numberOf", "(II)I"⟩, 8), (⟨"ThreeOfThem$Reader", "readPart", "(I)Z"⟩, 8), (⟨"ThreeOfThem$Reader", "pass", "(I)Z"⟩, 8), (⟨"ThreeOfThem$Reader", "current", "()I"⟩, 8), (⟨"ThreeOfThem$Reader", "readLevel", "(II)Z"⟩, 8), (⟨"ThreeOfThem$Reader", "readOne", "(I)Z"⟩, 8), (⟨"ThreeOfThem$Reader", "emit", "(I)V"⟩, 8), (⟨"ThreeOfThem$Reader", "readOpened", "(III)Z"⟩, 8), (⟨"ThreeOfThem", "setRent", "(I)I"⟩, 8), (⟨"ThreeOfThem", "setNeeded", "(I)I"⟩, 8), (⟨"ThreeOfThem", "setDay", "(I)I"⟩, 8)]
theorem lw_r1 : ∀ q ∈ lw_privs_1, lw_okq q := List.forall_mem_cons.mpr ⟨lw_p0, List.forall_mem_cons.mpr ⟨lw_p1, List.forall_mem_cons.mpr ⟨lw_p2, List.forall_mem_cons.mpr ⟨lw_p3, List.forall_mem_cons.mpr ⟨lw_p4, List.forall_mem_cons.mpr ⟨lw_p5, List.forall_mem_cons.mpr ⟨lw_p6, List.forall_mem_cons.mpr ⟨lw_p7, List.forall_mem_cons.mpr ⟨lw_p8, List.forall_mem_cons.mpr ⟨lw_p9, List.forall_mem_cons.mpr ⟨lw_p10, List.forall_mem_cons.mpr ⟨lw_p11, List.forall_mem_cons.mpr ⟨lw_p12, List.forall_mem_cons.mpr ⟨lw_p13, List.forall_mem_cons.mpr ⟨lw_p14, List.forall_mem_cons.mpr ⟨lw_p15, fun _ h => absurd h List.not_mem_nil⟩⟩⟩⟩⟩⟩⟩⟩⟩⟩⟩⟩⟩⟩⟩⟩
theorem lw_p16 : lw_okq (⟨"ThreeOfThem", "setNumber", "(II)I"⟩, 8) := ⟨⟨by decide +kernel, by decide +kernel⟩, List.mem_of_getElem? (i := 17) (by decide +kernel), List.mem_of_getElem? (i := 454) (by decide +kernel), List.mem_of_getElem? (i := 455) (by decide +kernel)⟩
theorem lw_p17 : lw_okq (⟨"ThreeOfThem", "setIn", "(II)I"⟩, 8) := ⟨⟨by decide +kernel, by decide +kernel⟩, List.mem_of_getElem? (i := 17) (by decide +kernel), List.mem_of_getElem? (i := 459) (by decide +kernel), List.mem_of_getElem? (i := 460) (by decide +kernel)⟩
theorem lw_p18 : lw_okq (⟨"ThreeOfThem", "thinking", "()LThreeOfThem$Judge;"⟩, 8) := ⟨⟨by decide +kernel, by decide +kernel⟩, List.mem_of_getElem? (i := 17) (by decide +kernel), List.mem_of_getElem? (i := 498) (by decide +kernel), List.mem_of_getElem? (i := 499) (by decide +kernel)⟩
theorem lw_p19 : lw_okq (⟨"ThreeOfThem$Judge", "worthOf", "(III)I"⟩, 16) := ⟨⟨by decide +kernel, by decide +kernel⟩, List.mem_of_getElem? (i := 81) (by decide +kernel), List.mem_of_getElem? (i := 516) (by decide +kernel), List.mem_of_getElem? (i := 517) (by decide +kernel)⟩
theorem lw_p20 : lw_okq (⟨"ThreeOfThem$Judge", "factsOf", "(III)[I"⟩, 16) := ⟨⟨by decide +kernel, by decide +kernel⟩, List.mem_of_getElem? (i := 81) (by decide +kernel), List.mem_of_getElem? (i := 520) (by decide +kernel), List.mem_of_getElem? (i := 521) (by decide +kernel)⟩
theorem lw_p21 : lw_okq (⟨"ThreeOfThem", "mayMeet", "(II)Z"⟩, 8) := ⟨⟨by decide +kernel, by decide +kernel⟩, List.mem_of_getElem? (i := 17) (by decide +kernel), List.mem_of_getElem? (i := 557) (by decide +kernel), List.mem_of_getElem? (i := 558) (by decide +kernel)⟩
theorem lw_p22 : lw_okq (⟨"ThreeOfThem", "thinkingOfHouse", "()LThreeOfThem$Judge;"⟩, 8) := ⟨⟨by decide +kernel, by decide +kernel⟩, List.mem_of_getElem? (i := 17) (by decide +kernel), List.mem_of_getElem? (i := 561) (by decide +kernel), List.mem_of_getElem? (i := 562) (by decide +kernel)⟩
theorem lw_p23 : lw_okq (⟨"ThreeOfThem$Judge", "compare", "()V"⟩, 16) := ⟨⟨by decide +kernel, by decide +kernel⟩, List.mem_of_getElem? (i := 81) (by decide +kernel), List.mem_of_getElem? (i := 569) (by decide +kernel), List.mem_of_getElem? (i := 570) (by decide +kernel)⟩
theorem lw_p24 : lw_okq (⟨"ThreeOfThem$Judge", "isLookedPair", "(II)Z"⟩, 16) := ⟨⟨by decide +kernel, by decide +kernel⟩, List.mem_of_getElem? (i := 81) (by decide +kernel), List.mem_of_getElem? (i := 574) (by decide +kernel), List.mem_of_getElem? (i := 575) (by decide +kernel)⟩
theorem lw_p25 : lw_okq (⟨"ThreeOfThem$Judge", "weigh", "()V"⟩, 16) := ⟨⟨by decide +kernel, by decide +kernel⟩, List.mem_of_getElem? (i := 81) (by decide +kernel), List.mem_of_getElem? (i := 578) (by decide +kernel), List.mem_of_getElem? (i := 579) (by decide +kernel)⟩
theorem lw_p26 : lw_okq (⟨"ThreeOfThem$Judge", "moves", "(IIIIZ)Z"⟩, 16) := ⟨⟨by decide +kernel, by decide +kernel⟩, List.mem_of_getElem? (i := 81) (by decide +kernel), List.mem_of_getElem? (i := 583) (by decide +kernel), List.mem_of_getElem? (i := 584) (by decide +kernel)⟩
theorem lw_p27 : lw_okq (⟨"ThreeOfThem$Judge", "against", "(I)I"⟩, 16) := ⟨⟨by decide +kernel, by decide +kernel⟩, List.mem_of_getElem? (i := 81) (by decide +kernel), List.mem_of_getElem? (i := 593) (by decide +kernel), List.mem_of_getElem? (i := 594) (by decide +kernel)⟩
theorem lw_p28 : lw_okq (⟨"ThreeOfThem$Judge", "against", "(II)I"⟩, 16) := ⟨⟨by decide +kernel, by decide +kernel⟩, List.mem_of_getElem? (i := 81) (by decide +kernel), List.mem_of_getElem? (i := 597) (by decide +kernel), List.mem_of_getElem? (i := 598) (by decide +kernel)⟩
theorem lw_p29 : lw_okq (⟨"ThreeOfThem$Judge", "bandsAgainst", "(I)I"⟩, 16) := ⟨⟨by decide +kernel, by decide +kernel⟩, List.mem_of_getElem? (i := 81) (by decide +kernel), List.mem_of_getElem? (i := 621) (by decide +kernel), List.mem_of_getElem? (i := 622) (by decide +kernel)⟩
theorem lw_p30 : lw_okq (⟨"ThreeOfThem$Judge", "foreseeSet", "(II)V"⟩, 16) := ⟨⟨by decide +kernel, by decide +kernel⟩, List.mem_of_getElem? (i := 81) (by decide +kernel), List.mem_of_getElem? (i := 665) (by decide +kernel), List.mem_of_getElem? (i := 666) (by decide +kernel)⟩
theorem lw_p31 : lw_okq (⟨"ThreeOfThem$Judge", "foreseers", "(III)I"⟩, 16) := ⟨⟨by decide +kernel, by decide +kernel⟩, List.mem_of_getElem? (i := 81) (by decide +kernel), List.mem_of_getElem? (i := 670) (by decide +kernel), List.mem_of_getElem? (i := 671) (by decide +kernel)⟩
def lw_privs_2 : List (MethodName × Nat) := [(⟨"ThreeOfThem", "setNumber", "(II)I"⟩, 8), (⟨"ThreeOfThem", "setIn", "(II)I"⟩, 8), (⟨"ThreeOfThem", "thinking", "()LThreeOfThem$Judge;"⟩, 8), (⟨"ThreeOfThem$Judge", "worthOf", "(III)I"⟩, 16), (⟨"ThreeOfThem$Judge", "factsOf", "(III)[I"⟩, 16), (⟨"ThreeOfThem", "mayMeet", "(II)Z"⟩, 8), (⟨"ThreeOfThem", "thinkingOfHouse", "()LThreeOfThem$Judge;"⟩, 8), (⟨"ThreeOfThem$Judge", "compare", "()V"⟩, 16), (⟨"ThreeOfThem$Judge", "isLookedPair", "(II)Z"⟩, 16), (⟨"ThreeOfThem$Judge", "weigh", "()V"⟩, 16), (⟨"ThreeOfThem$Judge", "moves", "(IIIIZ)Z"⟩, 16), (⟨"ThreeOfThem$Judge", "against", "(I)I"⟩, 16), (⟨"ThreeOfThem$Judge", "against", "(II)I"⟩, 16), (⟨"ThreeOfThem$Judge", "bandsAgainst", "(I)I"⟩, 16), (⟨"ThreeOfThem$Judge", "foreseeSet", "(II)V"⟩, 16), (⟨"ThreeOfThem$Judge", "foreseers", "(III)I"⟩, 16)]
theorem lw_r2 : ∀ q ∈ lw_privs_2, lw_okq q := List.forall_mem_cons.mpr ⟨lw_p16, List.forall_mem_cons.mpr ⟨lw_p17, List.forall_mem_cons.mpr ⟨lw_p18, List.forall_mem_cons.mpr ⟨lw_p19, List.forall_mem_cons.mpr ⟨lw_p20, List.forall_mem_cons.mpr ⟨lw_p21, List.forall_mem_cons.mpr ⟨lw_p22, List.forall_mem_cons.mpr ⟨lw_p23, List.forall_mem_cons.mpr ⟨lw_p24, List.forall_mem_cons.mpr ⟨lw_p25, List.forall_mem_cons.mpr ⟨lw_p26, List.forall_mem_cons.mpr ⟨lw_p27, List.forall_mem_cons.mpr ⟨lw_p28, List.forall_mem_cons.mpr ⟨lw_p29, List.forall_mem_cons.mpr ⟨lw_p30, List.forall_mem_cons.mpr ⟨lw_p31, fun _ h => absurd h List.not_mem_nil⟩⟩⟩⟩⟩⟩⟩⟩⟩⟩⟩⟩⟩⟩⟩⟩
theorem lw_p32 : lw_okq (⟨"ThreeOfThem$Judge", "atRest", "()Z"⟩, 16) := ⟨⟨by decide +kernel, by decide +kernel⟩, List.mem_of_getElem? (i := 81) (by decide +kernel), List.mem_of_getElem? (i := 698) (by decide +kernel), List.mem_of_getElem? (i := 699) (by decide +kernel)⟩
theorem lw_p33 : lw_okq (⟨"ThreeOfThem$Judge", "findOath", "(II)Z"⟩, 16) := ⟨⟨by decide +kernel, by decide +kernel⟩, List.mem_of_getElem? (i := 81) (by decide +kernel), List.mem_of_getElem? (i := 703) (by decide +kernel), List.mem_of_getElem? (i := 704) (by decide +kernel)⟩
theorem lw_p34 : lw_okq (⟨"ThreeOfThem$Judge", "isFreePair", "(I)Z"⟩, 16) := ⟨⟨by decide +kernel, by decide +kernel⟩, List.mem_of_getElem? (i := 81) (by decide +kernel), List.mem_of_getElem? (i := 707) (by decide +kernel), List.mem_of_getElem? (i := 708) (by decide +kernel)⟩
theorem lw_p35 : lw_okq (⟨"ThreeOfThem$Judge", "bindPair", "(IZ)V"⟩, 16) := ⟨⟨by decide +kernel, by decide +kernel⟩, List.mem_of_getElem? (i := 81) (by decide +kernel), List.mem_of_getElem? (i := 711) (by decide +kernel), List.mem_of_getElem? (i := 712) (by decide +kernel)⟩
theorem lw_p36 : lw_okq (⟨"ThreeOfThem$Judge", "findTwoOaths", "()V"⟩, 16) := ⟨⟨by decide +kernel, by decide +kernel⟩, List.mem_of_getElem? (i := 81) (by decide +kernel), List.mem_of_getElem? (i := 719) (by decide +kernel), List.mem_of_getElem? (i := 720) (by decide +kernel)⟩
theorem lw_p37 : lw_okq (⟨"ThreeOfThem$Judge", "listMeetings", "()V"⟩, 16) := ⟨⟨by decide +kernel, by decide +kernel⟩, List.mem_of_getElem? (i := 81) (by decide +kernel), List.mem_of_getElem? (i := 767) (by decide +kernel), List.mem_of_getElem? (i := 768) (by decide +kernel)⟩
theorem lw_p38 : lw_okq (⟨"ThreeOfThem$Judge", "loserOf", "(I)I"⟩, 16) := ⟨⟨by decide +kernel, by decide +kernel⟩, List.mem_of_getElem? (i := 81) (by decide +kernel), List.mem_of_getElem? (i := 772) (by decide +kernel), List.mem_of_getElem? (i := 773) (by decide +kernel)⟩
theorem lw_p39 : lw_okq (⟨"ThreeOfThem", "likeByTriples", "(LThreeOfThem$Sheet;II)I"⟩, 8) := ⟨⟨by decide +kernel, by decide +kernel⟩, List.mem_of_getElem? (i := 17) (by decide +kernel), List.mem_of_getElem? (i := 832) (by decide +kernel), List.mem_of_getElem? (i := 833) (by decide +kernel)⟩
theorem lw_p40 : lw_okq (⟨"ThreeOfThemModel", "spell", "(IIIIIIIII)V"⟩, 58) := ⟨⟨by decide +kernel, by decide +kernel⟩, List.mem_of_getElem? (i := 846) (by decide +kernel), List.mem_of_getElem? (i := 852) (by decide +kernel), List.mem_of_getElem? (i := 853) (by decide +kernel)⟩
theorem lw_p41 : lw_okq (⟨"ThreeOfThemModel", "isOne", "(I)Z"⟩, 58) := ⟨⟨by decide +kernel, by decide +kernel⟩, List.mem_of_getElem? (i := 846) (by decide +kernel), List.mem_of_getElem? (i := 1044) (by decide +kernel), List.mem_of_getElem? (i := 1045) (by decide +kernel)⟩
theorem lw_p42 : lw_okq (⟨"ThreeOfThemModel", "areSworn", "(II)Z"⟩, 58) := ⟨⟨by decide +kernel, by decide +kernel⟩, List.mem_of_getElem? (i := 846) (by decide +kernel), List.mem_of_getElem? (i := 1052) (by decide +kernel), List.mem_of_getElem? (i := 1053) (by decide +kernel)⟩
theorem lw_p43 : lw_okq (⟨"ThreeOfThemModel", "swears", "(III)V"⟩, 58) := ⟨⟨by decide +kernel, by decide +kernel⟩, List.mem_of_getElem? (i := 846) (by decide +kernel), List.mem_of_getElem? (i := 1056) (by decide +kernel), List.mem_of_getElem? (i := 1057) (by decide +kernel)⟩
theorem lw_p44 : lw_okq (⟨"ThreeOfThemModel", "read", "(II)I"⟩, 58) := ⟨⟨by decide +kernel, by decide +kernel⟩, List.mem_of_getElem? (i := 846) (by decide +kernel), List.mem_of_getElem? (i := 1077) (by decide +kernel), List.mem_of_getElem? (i := 1078) (by decide +kernel)⟩
theorem lw_p45 : lw_okq (⟨"ThreeOfThemModel", "next", "()V"⟩, 58) := ⟨⟨by decide +kernel, by decide +kernel⟩, List.mem_of_getElem? (i := 846) (by decide +kernel), List.mem_of_getElem? (i := 1081) (by decide +kernel), List.mem_of_getElem? (i := 1082) (by decide +kernel)⟩
theorem lw_p46 : lw_okq (⟨"ThreeOfThemModel", "byteAt", "(I)I"⟩, 58) := ⟨⟨by decide +kernel, by decide +kernel⟩, List.mem_of_getElem? (i := 846) (by decide +kernel), List.mem_of_getElem? (i := 1085) (by decide +kernel), List.mem_of_getElem? (i := 1086) (by decide +kernel)⟩
theorem lw_p47 : lw_okq (⟨"ThreeOfThemModel", "isWord", "(IIIIIIII)Z"⟩, 58) := ⟨⟨by decide +kernel, by decide +kernel⟩, List.mem_of_getElem? (i := 846) (by decide +kernel), List.mem_of_getElem? (i := 1094) (by decide +kernel), List.mem_of_getElem? (i := 1095) (by decide +kernel)⟩
def lw_privs_3 : List (MethodName × Nat) := [(⟨"ThreeOfThem$Judge", "atRest", "()Z"⟩, 16), (⟨"ThreeOfThem$Judge", "findOath", "(II)Z"⟩, 16), (⟨"ThreeOfThem$Judge", "isFreePair", "(I)Z"⟩, 16), (⟨"ThreeOfThem$Judge", "bindPair", "(IZ)V"⟩, 16), (⟨"ThreeOfThem$Judge", "findTwoOaths", "()V"⟩, 16), (⟨"ThreeOfThem$Judge", "listMeetings", "()V"⟩, 16), (⟨"ThreeOfThem$Judge", "loserOf", "(I)I"⟩, 16), (⟨"ThreeOfThem", "likeByTriples", "(LThreeOfThem$Sheet;II)I"⟩, 8), (⟨"ThreeOfThemModel", "spell", "(IIIIIIIII)V"⟩, 58), (⟨"ThreeOfThemModel", "isOne", "(I)Z"⟩, 58), (⟨"ThreeOfThemModel", "areSworn", "(II)Z"⟩, 58), (⟨"ThreeOfThemModel", "swears", "(III)V"⟩, 58), (⟨"ThreeOfThemModel", "read", "(II)I"⟩, 58), (⟨"ThreeOfThemModel", "next", "()V"⟩, 58), (⟨"ThreeOfThemModel", "byteAt", "(I)I"⟩, 58), (⟨"ThreeOfThemModel", "isWord", "(IIIIIIII)Z"⟩, 58)]
theorem lw_r3 : ∀ q ∈ lw_privs_3, lw_okq q := List.forall_mem_cons.mpr ⟨lw_p32, List.forall_mem_cons.mpr ⟨lw_p33, List.forall_mem_cons.mpr ⟨lw_p34, List.forall_mem_cons.mpr ⟨lw_p35, List.forall_mem_cons.mpr ⟨lw_p36, List.forall_mem_cons.mpr ⟨lw_p37, List.forall_mem_cons.mpr ⟨lw_p38, List.forall_mem_cons.mpr ⟨lw_p39, List.forall_mem_cons.mpr ⟨lw_p40, List.forall_mem_cons.mpr ⟨lw_p41, List.forall_mem_cons.mpr ⟨lw_p42, List.forall_mem_cons.mpr ⟨lw_p43, List.forall_mem_cons.mpr ⟨lw_p44, List.forall_mem_cons.mpr ⟨lw_p45, List.forall_mem_cons.mpr ⟨lw_p46, List.forall_mem_cons.mpr ⟨lw_p47, fun _ h => absurd h List.not_mem_nil⟩⟩⟩⟩⟩⟩⟩⟩⟩⟩⟩⟩⟩⟩⟩⟩
theorem lw_p48 : lw_okq (⟨"ThreeOfThemModel", "isLetter", "(II)Z"⟩, 58) := ⟨⟨by decide +kernel, by decide +kernel⟩, List.mem_of_getElem? (i := 846) (by decide +kernel), List.mem_of_getElem? (i := 1098) (by decide +kernel), List.mem_of_getElem? (i := 1099) (by decide +kernel)⟩
theorem lw_p49 : lw_okq (⟨"ThreeOfThemModel", "part", "(Z)I"⟩, 58) := ⟨⟨by decide +kernel, by decide +kernel⟩, List.mem_of_getElem? (i := 846) (by decide +kernel), List.mem_of_getElem? (i := 1102) (by decide +kernel), List.mem_of_getElem? (i := 1103) (by decide +kernel)⟩
theorem lw_p50 : lw_okq (⟨"ThreeOfThemModel", "fail", "()V"⟩, 58) := ⟨⟨by decide +kernel, by decide +kernel⟩, List.mem_of_getElem? (i := 846) (by decide +kernel), List.mem_of_getElem? (i := 1106) (by decide +kernel), List.mem_of_getElem? (i := 1107) (by decide +kernel)⟩
theorem lw_p51 : lw_okq (⟨"ThreeOfThemModel", "either0", "()I"⟩, 58) := ⟨⟨by decide +kernel, by decide +kernel⟩, List.mem_of_getElem? (i := 846) (by decide +kernel), List.mem_of_getElem? (i := 1110) (by decide +kernel), List.mem_of_getElem? (i := 1111) (by decide +kernel)⟩
theorem lw_p52 : lw_okq (⟨"ThreeOfThemModel", "both0", "()I"⟩, 58) := ⟨⟨by decide +kernel, by decide +kernel⟩, List.mem_of_getElem? (i := 846) (by decide +kernel), List.mem_of_getElem? (i := 1114) (by decide +kernel), List.mem_of_getElem? (i := 1115) (by decide +kernel)⟩
theorem lw_p53 : lw_okq (⟨"ThreeOfThemModel", "not0", "()I"⟩, 58) := ⟨⟨by decide +kernel, by decide +kernel⟩, List.mem_of_getElem? (i := 846) (by decide +kernel), List.mem_of_getElem? (i := 1118) (by decide +kernel), List.mem_of_getElem? (i := 1119) (by decide +kernel)⟩
theorem lw_p54 : lw_okq (⟨"ThreeOfThemModel", "opens", "()Z"⟩, 58) := ⟨⟨by decide +kernel, by decide +kernel⟩, List.mem_of_getElem? (i := 846) (by decide +kernel), List.mem_of_getElem? (i := 1122) (by decide +kernel), List.mem_of_getElem? (i := 1123) (by decide +kernel)⟩
theorem lw_p55 : lw_okq (⟨"ThreeOfThemModel", "not1", "()I"⟩, 58) := ⟨⟨by decide +kernel, by decide +kernel⟩, List.mem_of_getElem? (i := 846) (by decide +kernel), List.mem_of_getElem? (i := 1126) (by decide +kernel), List.mem_of_getElem? (i := 1127) (by decide +kernel)⟩
theorem lw_p56 : lw_okq (⟨"ThreeOfThemModel", "not2", "()I"⟩, 58) := ⟨⟨by decide +kernel, by decide +kernel⟩, List.mem_of_getElem? (i := 846) (by decide +kernel), List.mem_of_getElem? (i := 1130) (by decide +kernel), List.mem_of_getElem? (i := 1131) (by decide +kernel)⟩
theorem lw_p57 : lw_okq (⟨"ThreeOfThemModel", "not3", "()I"⟩, 58) := ⟨⟨by decide +kernel, by decide +kernel⟩, List.mem_of_getElem? (i := 846) (by decide +kernel), List.mem_of_getElem? (i := 1134) (by decide +kernel), List.mem_of_getElem? (i := 1135) (by decide +kernel)⟩
theorem lw_p58 : lw_okq (⟨"ThreeOfThemModel", "not4", "()I"⟩, 58) := ⟨⟨by decide +kernel, by decide +kernel⟩, List.mem_of_getElem? (i := 846) (by decide +kernel), List.mem_of_getElem? (i := 1138) (by decide +kernel), List.mem_of_getElem? (i := 1139) (by decide +kernel)⟩
theorem lw_p59 : lw_okq (⟨"ThreeOfThemModel", "not5", "()I"⟩, 58) := ⟨⟨by decide +kernel, by decide +kernel⟩, List.mem_of_getElem? (i := 846) (by decide +kernel), List.mem_of_getElem? (i := 1142) (by decide +kernel), List.mem_of_getElem? (i := 1143) (by decide +kernel)⟩
theorem lw_p60 : lw_okq (⟨"ThreeOfThemModel", "added5", "()I"⟩, 58) := ⟨⟨by decide +kernel, by decide +kernel⟩, List.mem_of_getElem? (i := 846) (by decide +kernel), List.mem_of_getElem? (i := 1146) (by decide +kernel), List.mem_of_getElem? (i := 1147) (by decide +kernel)⟩
theorem lw_p61 : lw_okq (⟨"ThreeOfThemModel", "term5", "()I"⟩, 58) := ⟨⟨by decide +kernel, by decide +kernel⟩, List.mem_of_getElem? (i := 846) (by decide +kernel), List.mem_of_getElem? (i := 1150) (by decide +kernel), List.mem_of_getElem? (i := 1151) (by decide +kernel)⟩
theorem lw_p62 : lw_okq (⟨"ThreeOfThemModel", "atom5", "()I"⟩, 58) := ⟨⟨by decide +kernel, by decide +kernel⟩, List.mem_of_getElem? (i := 846) (by decide +kernel), List.mem_of_getElem? (i := 1154) (by decide +kernel), List.mem_of_getElem? (i := 1155) (by decide +kernel)⟩
theorem lw_p63 : lw_okq (⟨"ThreeOfThemModel", "isSign", "(I)Z"⟩, 58) := ⟨⟨by decide +kernel, by decide +kernel⟩, List.mem_of_getElem? (i := 846) (by decide +kernel), List.mem_of_getElem? (i := 1158) (by decide +kernel), List.mem_of_getElem? (i := 1159) (by decide +kernel)⟩
def lw_privs_4 : List (MethodName × Nat) := [(⟨"ThreeOfThemModel", "isLetter", "(II)Z"⟩, 58), (⟨"ThreeOfThemModel", "part", "(Z)I"⟩, 58), (⟨"ThreeOfThemModel", "fail", "()V"⟩, 58), (⟨"ThreeOfThemModel", "either0", "()I"⟩, 58), (⟨"ThreeOfThemModel", "both0", "()I"⟩, 58), (⟨"ThreeOfThemModel", "not0", "()I"⟩, 58), (⟨"ThreeOfThemModel", "opens", "()Z"⟩, 58), (⟨"ThreeOfThemModel", "not1", "()I"⟩, 58), (⟨"ThreeOfThemModel", "not2", "()I"⟩, 58), (⟨"ThreeOfThemModel", "not3", "()I"⟩, 58), (⟨"ThreeOfThemModel", "not4", "()I"⟩, 58), (⟨"ThreeOfThemModel", "not5", "()I"⟩, 58), (⟨"ThreeOfThemModel", "added5", "()I"⟩, 58), (⟨"ThreeOfThemModel", "term5", "()I"⟩, 58), (⟨"ThreeOfThemModel", "atom5", "()I"⟩, 58), (⟨"ThreeOfThemModel", "isSign", "(I)Z"⟩, 58)]
theorem lw_r4 : ∀ q ∈ lw_privs_4, lw_okq q := List.forall_mem_cons.mpr ⟨lw_p48, List.forall_mem_cons.mpr ⟨lw_p49, List.forall_mem_cons.mpr ⟨lw_p50, List.forall_mem_cons.mpr ⟨lw_p51, List.forall_mem_cons.mpr ⟨lw_p52, List.forall_mem_cons.mpr ⟨lw_p53, List.forall_mem_cons.mpr ⟨lw_p54, List.forall_mem_cons.mpr ⟨lw_p55, List.forall_mem_cons.mpr ⟨lw_p56, List.forall_mem_cons.mpr ⟨lw_p57, List.forall_mem_cons.mpr ⟨lw_p58, List.forall_mem_cons.mpr ⟨lw_p59, List.forall_mem_cons.mpr ⟨lw_p60, List.forall_mem_cons.mpr ⟨lw_p61, List.forall_mem_cons.mpr ⟨lw_p62, List.forall_mem_cons.mpr ⟨lw_p63, fun _ h => absurd h List.not_mem_nil⟩⟩⟩⟩⟩⟩⟩⟩⟩⟩⟩⟩⟩⟩⟩⟩
theorem lw_p64 : lw_okq (⟨"ThreeOfThemModel", "name", "()I"⟩, 58) := ⟨⟨by decide +kernel, by decide +kernel⟩, List.mem_of_getElem? (i := 846) (by decide +kernel), List.mem_of_getElem? (i := 1162) (by decide +kernel), List.mem_of_getElem? (i := 1163) (by decide +kernel)⟩
theorem lw_p65 : lw_okq (⟨"ThreeOfThemModel", "added4", "()I"⟩, 58) := ⟨⟨by decide +kernel, by decide +kernel⟩, List.mem_of_getElem? (i := 846) (by decide +kernel), List.mem_of_getElem? (i := 1168) (by decide +kernel), List.mem_of_getElem? (i := 1169) (by decide +kernel)⟩
theorem lw_p66 : lw_okq (⟨"ThreeOfThemModel", "term4", "()I"⟩, 58) := ⟨⟨by decide +kernel, by decide +kernel⟩, List.mem_of_getElem? (i := 846) (by decide +kernel), List.mem_of_getElem? (i := 1172) (by decide +kernel), List.mem_of_getElem? (i := 1173) (by decide +kernel)⟩
theorem lw_p67 : lw_okq (⟨"ThreeOfThemModel", "atom4", "()I"⟩, 58) := ⟨⟨by decide +kernel, by decide +kernel⟩, List.mem_of_getElem? (i := 846) (by decide +kernel), List.mem_of_getElem? (i := 1176) (by decide +kernel), List.mem_of_getElem? (i := 1177) (by decide +kernel)⟩
theorem lw_p68 : lw_okq (⟨"ThreeOfThemModel", "either5", "()I"⟩, 58) := ⟨⟨by decide +kernel, by decide +kernel⟩, List.mem_of_getElem? (i := 846) (by decide +kernel), List.mem_of_getElem? (i := 1180) (by decide +kernel), List.mem_of_getElem? (i := 1181) (by decide +kernel)⟩
theorem lw_p69 : lw_okq (⟨"ThreeOfThemModel", "both5", "()I"⟩, 58) := ⟨⟨by decide +kernel, by decide +kernel⟩, List.mem_of_getElem? (i := 846) (by decide +kernel), List.mem_of_getElem? (i := 1184) (by decide +kernel), List.mem_of_getElem? (i := 1185) (by decide +kernel)⟩
theorem lw_p70 : lw_okq (⟨"ThreeOfThemModel", "added3", "()I"⟩, 58) := ⟨⟨by decide +kernel, by decide +kernel⟩, List.mem_of_getElem? (i := 846) (by decide +kernel), List.mem_of_getElem? (i := 1188) (by decide +kernel), List.mem_of_getElem? (i := 1189) (by decide +kernel)⟩
theorem lw_p71 : lw_okq (⟨"ThreeOfThemModel", "term3", "()I"⟩, 58) := ⟨⟨by decide +kernel, by decide +kernel⟩, List.mem_of_getElem? (i := 846) (by decide +kernel), List.mem_of_getElem? (i := 1192) (by decide +kernel), List.mem_of_getElem? (i := 1193) (by decide +kernel)⟩
theorem lw_p72 : lw_okq (⟨"ThreeOfThemModel", "atom3", "()I"⟩, 58) := ⟨⟨by decide +kernel, by decide +kernel⟩, List.mem_of_getElem? (i := 846) (by decide +kernel), List.mem_of_getElem? (i := 1196) (by decide +kernel), List.mem_of_getElem? (i := 1197) (by decide +kernel)⟩
theorem lw_p73 : lw_okq (⟨"ThreeOfThemModel", "either4", "()I"⟩, 58) := ⟨⟨by decide +kernel, by decide +kernel⟩, List.mem_of_getElem? (i := 846) (by decide +kernel), List.mem_of_getElem? (i := 1200) (by decide +kernel), List.mem_of_getElem? (i := 1201) (by decide +kernel)⟩
theorem lw_p74 : lw_okq (⟨"ThreeOfThemModel", "both4", "()I"⟩, 58) := ⟨⟨by decide +kernel, by decide +kernel⟩, List.mem_of_getElem? (i := 846) (by decide +kernel), List.mem_of_getElem? (i := 1204) (by decide +kernel), List.mem_of_getElem? (i := 1205) (by decide +kernel)⟩
theorem lw_p75 : lw_okq (⟨"ThreeOfThemModel", "added2", "()I"⟩, 58) := ⟨⟨by decide +kernel, by decide +kernel⟩, List.mem_of_getElem? (i := 846) (by decide +kernel), List.mem_of_getElem? (i := 1208) (by decide +kernel), List.mem_of_getElem? (i := 1209) (by decide +kernel)⟩
theorem lw_p76 : lw_okq (⟨"ThreeOfThemModel", "term2", "()I"⟩, 58) := ⟨⟨by decide +kernel, by decide +kernel⟩, List.mem_of_getElem? (i := 846) (by decide +kernel), List.mem_of_getElem? (i := 1212) (by decide +kernel), List.mem_of_getElem? (i := 1213) (by decide +kernel)⟩
theorem lw_p77 : lw_okq (⟨"ThreeOfThemModel", "atom2", "()I"⟩, 58) := ⟨⟨by decide +kernel, by decide +kernel⟩, List.mem_of_getElem? (i := 846) (by decide +kernel), List.mem_of_getElem? (i := 1216) (by decide +kernel), List.mem_of_getElem? (i := 1217) (by decide +kernel)⟩
theorem lw_p78 : lw_okq (⟨"ThreeOfThemModel", "either3", "()I"⟩, 58) := ⟨⟨by decide +kernel, by decide +kernel⟩, List.mem_of_getElem? (i := 846) (by decide +kernel), List.mem_of_getElem? (i := 1220) (by decide +kernel), List.mem_of_getElem? (i := 1221) (by decide +kernel)⟩
theorem lw_p79 : lw_okq (⟨"ThreeOfThemModel", "both3", "()I"⟩, 58) := ⟨⟨by decide +kernel, by decide +kernel⟩, List.mem_of_getElem? (i := 846) (by decide +kernel), List.mem_of_getElem? (i := 1224) (by decide +kernel), List.mem_of_getElem? (i := 1225) (by decide +kernel)⟩
def lw_privs_5 : List (MethodName × Nat) := [(⟨"ThreeOfThemModel", "name", "()I"⟩, 58), (⟨"ThreeOfThemModel", "added4", "()I"⟩, 58), (⟨"ThreeOfThemModel", "term4", "()I"⟩, 58), (⟨"ThreeOfThemModel", "atom4", "()I"⟩, 58), (⟨"ThreeOfThemModel", "either5", "()I"⟩, 58), (⟨"ThreeOfThemModel", "both5", "()I"⟩, 58), (⟨"ThreeOfThemModel", "added3", "()I"⟩, 58), (⟨"ThreeOfThemModel", "term3", "()I"⟩, 58), (⟨"ThreeOfThemModel", "atom3", "()I"⟩, 58), (⟨"ThreeOfThemModel", "either4", "()I"⟩, 58), (⟨"ThreeOfThemModel", "both4", "()I"⟩, 58), (⟨"ThreeOfThemModel", "added2", "()I"⟩, 58), (⟨"ThreeOfThemModel", "term2", "()I"⟩, 58), (⟨"ThreeOfThemModel", "atom2", "()I"⟩, 58), (⟨"ThreeOfThemModel", "either3", "()I"⟩, 58), (⟨"ThreeOfThemModel", "both3", "()I"⟩, 58)]
theorem lw_r5 : ∀ q ∈ lw_privs_5, lw_okq q := List.forall_mem_cons.mpr ⟨lw_p64, List.forall_mem_cons.mpr ⟨lw_p65, List.forall_mem_cons.mpr ⟨lw_p66, List.forall_mem_cons.mpr ⟨lw_p67, List.forall_mem_cons.mpr ⟨lw_p68, List.forall_mem_cons.mpr ⟨lw_p69, List.forall_mem_cons.mpr ⟨lw_p70, List.forall_mem_cons.mpr ⟨lw_p71, List.forall_mem_cons.mpr ⟨lw_p72, List.forall_mem_cons.mpr ⟨lw_p73, List.forall_mem_cons.mpr ⟨lw_p74, List.forall_mem_cons.mpr ⟨lw_p75, List.forall_mem_cons.mpr ⟨lw_p76, List.forall_mem_cons.mpr ⟨lw_p77, List.forall_mem_cons.mpr ⟨lw_p78, List.forall_mem_cons.mpr ⟨lw_p79, fun _ h => absurd h List.not_mem_nil⟩⟩⟩⟩⟩⟩⟩⟩⟩⟩⟩⟩⟩⟩⟩⟩
theorem lw_p80 : lw_okq (⟨"ThreeOfThemModel", "added1", "()I"⟩, 58) := ⟨⟨by decide +kernel, by decide +kernel⟩, List.mem_of_getElem? (i := 846) (by decide +kernel), List.mem_of_getElem? (i := 1228) (by decide +kernel), List.mem_of_getElem? (i := 1229) (by decide +kernel)⟩
theorem lw_p81 : lw_okq (⟨"ThreeOfThemModel", "term1", "()I"⟩, 58) := ⟨⟨by decide +kernel, by decide +kernel⟩, List.mem_of_getElem? (i := 846) (by decide +kernel), List.mem_of_getElem? (i := 1232) (by decide +kernel), List.mem_of_getElem? (i := 1233) (by decide +kernel)⟩
theorem lw_p82 : lw_okq (⟨"ThreeOfThemModel", "atom1", "()I"⟩, 58) := ⟨⟨by decide +kernel, by decide +kernel⟩, List.mem_of_getElem? (i := 846) (by decide +kernel), List.mem_of_getElem? (i := 1236) (by decide +kernel), List.mem_of_getElem? (i := 1237) (by decide +kernel)⟩
theorem lw_p83 : lw_okq (⟨"ThreeOfThemModel", "either2", "()I"⟩, 58) := ⟨⟨by decide +kernel, by decide +kernel⟩, List.mem_of_getElem? (i := 846) (by decide +kernel), List.mem_of_getElem? (i := 1240) (by decide +kernel), List.mem_of_getElem? (i := 1241) (by decide +kernel)⟩
theorem lw_p84 : lw_okq (⟨"ThreeOfThemModel", "both2", "()I"⟩, 58) := ⟨⟨by decide +kernel, by decide +kernel⟩, List.mem_of_getElem? (i := 846) (by decide +kernel), List.mem_of_getElem? (i := 1244) (by decide +kernel), List.mem_of_getElem? (i := 1245) (by decide +kernel)⟩
theorem lw_p85 : lw_okq (⟨"ThreeOfThemModel", "added0", "()I"⟩, 58) := ⟨⟨by decide +kernel, by decide +kernel⟩, List.mem_of_getElem? (i := 846) (by decide +kernel), List.mem_of_getElem? (i := 1248) (by decide +kernel), List.mem_of_getElem? (i := 1249) (by decide +kernel)⟩
theorem lw_p86 : lw_okq (⟨"ThreeOfThemModel", "term0", "()I"⟩, 58) := ⟨⟨by decide +kernel, by decide +kernel⟩, List.mem_of_getElem? (i := 846) (by decide +kernel), List.mem_of_getElem? (i := 1252) (by decide +kernel), List.mem_of_getElem? (i := 1253) (by decide +kernel)⟩
theorem lw_p87 : lw_okq (⟨"ThreeOfThemModel", "atom0", "()I"⟩, 58) := ⟨⟨by decide +kernel, by decide +kernel⟩, List.mem_of_getElem? (i := 846) (by decide +kernel), List.mem_of_getElem? (i := 1256) (by decide +kernel), List.mem_of_getElem? (i := 1257) (by decide +kernel)⟩
theorem lw_p88 : lw_okq (⟨"ThreeOfThemModel", "either1", "()I"⟩, 58) := ⟨⟨by decide +kernel, by decide +kernel⟩, List.mem_of_getElem? (i := 846) (by decide +kernel), List.mem_of_getElem? (i := 1260) (by decide +kernel), List.mem_of_getElem? (i := 1261) (by decide +kernel)⟩
theorem lw_p89 : lw_okq (⟨"ThreeOfThemModel", "both1", "()I"⟩, 58) := ⟨⟨by decide +kernel, by decide +kernel⟩, List.mem_of_getElem? (i := 846) (by decide +kernel), List.mem_of_getElem? (i := 1264) (by decide +kernel), List.mem_of_getElem? (i := 1265) (by decide +kernel)⟩
theorem lw_p90 : lw_okq (⟨"ThreeOfThemModel", "brings", "(II)I"⟩, 58) := ⟨⟨by decide +kernel, by decide +kernel⟩, List.mem_of_getElem? (i := 846) (by decide +kernel), List.mem_of_getElem? (i := 1281) (by decide +kernel), List.mem_of_getElem? (i := 1282) (by decide +kernel)⟩
theorem lw_p91 : lw_okq (⟨"ThreeOfThemModel", "wants", "(IIZ)I"⟩, 58) := ⟨⟨by decide +kernel, by decide +kernel⟩, List.mem_of_getElem? (i := 846) (by decide +kernel), List.mem_of_getElem? (i := 1285) (by decide +kernel), List.mem_of_getElem? (i := 1286) (by decide +kernel)⟩
theorem lw_p92 : lw_okq (⟨"ThreeOfThemModel", "isIn", "(I)Z"⟩, 58) := ⟨⟨by decide +kernel, by decide +kernel⟩, List.mem_of_getElem? (i := 846) (by decide +kernel), List.mem_of_getElem? (i := 1289) (by decide +kernel), List.mem_of_getElem? (i := 1290) (by decide +kernel)⟩
theorem lw_p93 : lw_okq (⟨"ThreeOfThemModel", "goodOf", "(II)I"⟩, 58) := ⟨⟨by decide +kernel, by decide +kernel⟩, List.mem_of_getElem? (i := 846) (by decide +kernel), List.mem_of_getElem? (i := 1293) (by decide +kernel), List.mem_of_getElem? (i := 1294) (by decide +kernel)⟩
theorem lw_p94 : lw_okq (⟨"ThreeOfThemModel", "says", "(IIII)I"⟩, 58) := ⟨⟨by decide +kernel, by decide +kernel⟩, List.mem_of_getElem? (i := 846) (by decide +kernel), List.mem_of_getElem? (i := 1297) (by decide +kernel), List.mem_of_getElem? (i := 1298) (by decide +kernel)⟩
theorem lw_p95 : lw_okq (⟨"ThreeOfThemModel", "isBand", "(III)Z"⟩, 58) := ⟨⟨by decide +kernel, by decide +kernel⟩, List.mem_of_getElem? (i := 846) (by decide +kernel), List.mem_of_getElem? (i := 1308) (by decide +kernel), List.mem_of_getElem? (i := 1309) (by decide +kernel)⟩
def lw_privs_6 : List (MethodName × Nat) := [(⟨"ThreeOfThemModel", "added1", "()I"⟩, 58), (⟨"ThreeOfThemModel", "term1", "()I"⟩, 58), (⟨"ThreeOfThemModel", "atom1", "()I"⟩, 58), (⟨"ThreeOfThemModel", "either2", "()I"⟩, 58), (⟨"ThreeOfThemModel", "both2", "()I"⟩, 58), (⟨"ThreeOfThemModel", "added0", "()I"⟩, 58), (⟨"ThreeOfThemModel", "term0", "()I"⟩, 58), (⟨"ThreeOfThemModel", "atom0", "()I"⟩, 58), (⟨"ThreeOfThemModel", "either1", "()I"⟩, 58), (⟨"ThreeOfThemModel", "both1", "()I"⟩, 58), (⟨"ThreeOfThemModel", "brings", "(II)I"⟩, 58), (⟨"ThreeOfThemModel", "wants", "(IIZ)I"⟩, 58), (⟨"ThreeOfThemModel", "isIn", "(I)Z"⟩, 58), (⟨"ThreeOfThemModel", "goodOf", "(II)I"⟩, 58), (⟨"ThreeOfThemModel", "says", "(IIII)I"⟩, 58), (⟨"ThreeOfThemModel", "isBand", "(III)Z"⟩, 58)]
theorem lw_r6 : ∀ q ∈ lw_privs_6, lw_okq q := List.forall_mem_cons.mpr ⟨lw_p80, List.forall_mem_cons.mpr ⟨lw_p81, List.forall_mem_cons.mpr ⟨lw_p82, List.forall_mem_cons.mpr ⟨lw_p83, List.forall_mem_cons.mpr ⟨lw_p84, List.forall_mem_cons.mpr ⟨lw_p85, List.forall_mem_cons.mpr ⟨lw_p86, List.forall_mem_cons.mpr ⟨lw_p87, List.forall_mem_cons.mpr ⟨lw_p88, List.forall_mem_cons.mpr ⟨lw_p89, List.forall_mem_cons.mpr ⟨lw_p90, List.forall_mem_cons.mpr ⟨lw_p91, List.forall_mem_cons.mpr ⟨lw_p92, List.forall_mem_cons.mpr ⟨lw_p93, List.forall_mem_cons.mpr ⟨lw_p94, List.forall_mem_cons.mpr ⟨lw_p95, fun _ h => absurd h List.not_mem_nil⟩⟩⟩⟩⟩⟩⟩⟩⟩⟩⟩⟩⟩⟩⟩⟩
theorem lw_p96 : lw_okq (⟨"ThreeOfThemModel", "looks", "(I)V"⟩, 58) := ⟨⟨by decide +kernel, by decide +kernel⟩, List.mem_of_getElem? (i := 846) (by decide +kernel), List.mem_of_getElem? (i := 1312) (by decide +kernel), List.mem_of_getElem? (i := 1313) (by decide +kernel)⟩
theorem lw_p97 : lw_okq (⟨"ThreeOfThemModel", "allWould", "(II)Z"⟩, 58) := ⟨⟨by decide +kernel, by decide +kernel⟩, List.mem_of_getElem? (i := 846) (by decide +kernel), List.mem_of_getElem? (i := 1316) (by decide +kernel), List.mem_of_getElem? (i := 1317) (by decide +kernel)⟩
theorem lw_p98 : lw_okq (⟨"ThreeOfThemModel", "wouldJoin", "(II)Z"⟩, 58) := ⟨⟨by decide +kernel, by decide +kernel⟩, List.mem_of_getElem? (i := 846) (by decide +kernel), List.mem_of_getElem? (i := 1320) (by decide +kernel), List.mem_of_getElem? (i := 1321) (by decide +kernel)⟩
theorem lw_p99 : lw_okq (⟨"ThreeOfThemModel", "goesThrough", "()V"⟩, 58) := ⟨⟨by decide +kernel, by decide +kernel⟩, List.mem_of_getElem? (i := 846) (by decide +kernel), List.mem_of_getElem? (i := 1328) (by decide +kernel), List.mem_of_getElem? (i := 1329) (by decide +kernel)⟩
theorem lw_p100 : lw_okq (⟨"ThreeOfThemModel", "dayMore", "()V"⟩, 58) := ⟨⟨by decide +kernel, by decide +kernel⟩, List.mem_of_getElem? (i := 846) (by decide +kernel), List.mem_of_getElem? (i := 1337) (by decide +kernel), List.mem_of_getElem? (i := 1338) (by decide +kernel)⟩
theorem lw_p101 : lw_okq (⟨"ThreeOfThemModel", "isRest", "()Z"⟩, 58) := ⟨⟨by decide +kernel, by decide +kernel⟩, List.mem_of_getElem? (i := 846) (by decide +kernel), List.mem_of_getElem? (i := 1346) (by decide +kernel), List.mem_of_getElem? (i := 1347) (by decide +kernel)⟩
theorem lw_p102 : lw_okq (⟨"ThreeOfThemModel", "foresees", "(I)V"⟩, 58) := ⟨⟨by decide +kernel, by decide +kernel⟩, List.mem_of_getElem? (i := 846) (by decide +kernel), List.mem_of_getElem? (i := 1354) (by decide +kernel), List.mem_of_getElem? (i := 1355) (by decide +kernel)⟩
theorem lw_p103 : lw_okq (⟨"ThreeOfThemModel", "endOf", "(I)V"⟩, 58) := ⟨⟨by decide +kernel, by decide +kernel⟩, List.mem_of_getElem? (i := 846) (by decide +kernel), List.mem_of_getElem? (i := 1358) (by decide +kernel), List.mem_of_getElem? (i := 1359) (by decide +kernel)⟩
theorem lw_p104 : lw_okq (⟨"ThreeOfThemModel", "foreseen", "(IIII)Z"⟩, 58) := ⟨⟨by decide +kernel, by decide +kernel⟩, List.mem_of_getElem? (i := 846) (by decide +kernel), List.mem_of_getElem? (i := 1362) (by decide +kernel), List.mem_of_getElem? (i := 1363) (by decide +kernel)⟩
theorem lw_p105 : lw_okq (⟨"ThreeOfThemModel", "allJoin", "(II)Z"⟩, 58) := ⟨⟨by decide +kernel, by decide +kernel⟩, List.mem_of_getElem? (i := 846) (by decide +kernel), List.mem_of_getElem? (i := 1366) (by decide +kernel), List.mem_of_getElem? (i := 1367) (by decide +kernel)⟩
theorem lw_p106 : lw_okq (⟨"ThreeOfThemModel", "isSafe", "(I)Z"⟩, 58) := ⟨⟨by decide +kernel, by decide +kernel⟩, List.mem_of_getElem? (i := 846) (by decide +kernel), List.mem_of_getElem? (i := 1374) (by decide +kernel), List.mem_of_getElem? (i := 1375) (by decide +kernel)⟩
theorem lw_p107 : lw_okq (⟨"ThreeOfThemModel", "findsOaths", "()V"⟩, 58) := ⟨⟨by decide +kernel, by decide +kernel⟩, List.mem_of_getElem? (i := 846) (by decide +kernel), List.mem_of_getElem? (i := 1386) (by decide +kernel), List.mem_of_getElem? (i := 1387) (by decide +kernel)⟩
theorem lw_p108 : lw_okq (⟨"ThreeOfThemModel", "canSwear", "(I)Z"⟩, 58) := ⟨⟨by decide +kernel, by decide +kernel⟩, List.mem_of_getElem? (i := 846) (by decide +kernel), List.mem_of_getElem? (i := 1390) (by decide +kernel), List.mem_of_getElem? (i := 1391) (by decide +kernel)⟩
theorem lw_p109 : lw_okq (⟨"ThreeOfThemModel", "draws", "(II)I"⟩, 58) := ⟨⟨by decide +kernel, by decide +kernel⟩, List.mem_of_getElem? (i := 846) (by decide +kernel), List.mem_of_getElem? (i := 1415) (by decide +kernel), List.mem_of_getElem? (i := 1416) (by decide +kernel)⟩
theorem lw_p110 : lw_okq (⟨"ThreeOfThemModel", "meets", "(I)V"⟩, 58) := ⟨⟨by decide +kernel, by decide +kernel⟩, List.mem_of_getElem? (i := 846) (by decide +kernel), List.mem_of_getElem? (i := 1420) (by decide +kernel), List.mem_of_getElem? (i := 1421) (by decide +kernel)⟩
def lw_privs_7 : List (MethodName × Nat) := [(⟨"ThreeOfThemModel", "looks", "(I)V"⟩, 58), (⟨"ThreeOfThemModel", "allWould", "(II)Z"⟩, 58), (⟨"ThreeOfThemModel", "wouldJoin", "(II)Z"⟩, 58), (⟨"ThreeOfThemModel", "goesThrough", "()V"⟩, 58), (⟨"ThreeOfThemModel", "dayMore", "()V"⟩, 58), (⟨"ThreeOfThemModel", "isRest", "()Z"⟩, 58), (⟨"ThreeOfThemModel", "foresees", "(I)V"⟩, 58), (⟨"ThreeOfThemModel", "endOf", "(I)V"⟩, 58), (⟨"ThreeOfThemModel", "foreseen", "(IIII)Z"⟩, 58), (⟨"ThreeOfThemModel", "allJoin", "(II)Z"⟩, 58), (⟨"ThreeOfThemModel", "isSafe", "(I)Z"⟩, 58), (⟨"ThreeOfThemModel", "findsOaths", "()V"⟩, 58), (⟨"ThreeOfThemModel", "canSwear", "(I)Z"⟩, 58), (⟨"ThreeOfThemModel", "draws", "(II)I"⟩, 58), (⟨"ThreeOfThemModel", "meets", "(I)V"⟩, 58)]
theorem lw_r7 : ∀ q ∈ lw_privs_7, lw_okq q := List.forall_mem_cons.mpr ⟨lw_p96, List.forall_mem_cons.mpr ⟨lw_p97, List.forall_mem_cons.mpr ⟨lw_p98, List.forall_mem_cons.mpr ⟨lw_p99, List.forall_mem_cons.mpr ⟨lw_p100, List.forall_mem_cons.mpr ⟨lw_p101, List.forall_mem_cons.mpr ⟨lw_p102, List.forall_mem_cons.mpr ⟨lw_p103, List.forall_mem_cons.mpr ⟨lw_p104, List.forall_mem_cons.mpr ⟨lw_p105, List.forall_mem_cons.mpr ⟨lw_p106, List.forall_mem_cons.mpr ⟨lw_p107, List.forall_mem_cons.mpr ⟨lw_p108, List.forall_mem_cons.mpr ⟨lw_p109, List.forall_mem_cons.mpr ⟨lw_p110, fun _ h => absurd h List.not_mem_nil⟩⟩⟩⟩⟩⟩⟩⟩⟩⟩⟩⟩⟩⟩⟩
def lw_privs : List (MethodName × Nat) := lw_privs_1 ++ (lw_privs_2 ++ (lw_privs_3 ++ (lw_privs_4 ++ (lw_privs_5 ++ (lw_privs_6 ++ (lw_privs_7))))))
def lw_tbl : List Cond := k2_sels lw_privs ++ tables_1
theorem lw_privs_ok : ∀ q ∈ lw_privs, lw_okq q := by
  show ∀ q ∈ lw_privs_1 ++ (lw_privs_2 ++ (lw_privs_3 ++ (lw_privs_4 ++ (lw_privs_5 ++ (lw_privs_6 ++ (lw_privs_7)))))), lw_okq q
  exact List.forall_mem_append.mpr ⟨lw_r1, List.forall_mem_append.mpr ⟨lw_r2, List.forall_mem_append.mpr ⟨lw_r3, List.forall_mem_append.mpr ⟨lw_r4, List.forall_mem_append.mpr ⟨lw_r5, List.forall_mem_append.mpr ⟨lw_r6, lw_r7⟩⟩⟩⟩⟩⟩
end
section
def RX0 : String := "ThreeOfThem$House"
def TX0 : u_T := fun k => match k with
  | 0 => ("ThreeOfThem$House", "kinds", "[I", true)
  | 1 => ("ThreeOfThem$House", "numbers", "[I", true)
  | 2 => ("ThreeOfThem$House", "likes", "[I", true)
  | 3 => ("ThreeOfThem$House", "oaths", "[I", true)
  | 4 => ("ThreeOfThem$House", "inmates", "I", false)
  | 5 => ("ThreeOfThem$House", "in", "I", false)
  | 6 => ("ThreeOfThem$House", "rent", "I", false)
  | 7 => ("ThreeOfThem$House", "needed", "I", false)
  | 8 => ("ThreeOfThem$House", "day", "I", false)
  | _ => ("ThreeOfThem$House", "rule", "I", false)
def tyX0 : Nat → FieldType := fun k => match k with
  | 0 => .array .int
  | 1 => .array .int
  | 2 => .array .int
  | 3 => .array .int
  | 4 => .int
  | 5 => .int
  | 6 => .int
  | 7 => .int
  | 8 => .int
  | _ => .int
abbrev wsX00 : List Cond := u_ws RX0 TX0 10
theorem nmX0 : ∀ a, a < 10 → ∀ b, b < 10 → a ≠ b → (TX0 a).2.1 ≠ (TX0 b).2.1 := by decide +kernel
theorem tyX0_ok : ∀ k, k < 10 → parseFieldDescriptor (TX0 k).2.2.1 = some (tyX0 k) := by decide +kernel
abbrev cX0_init : ByteArray := prog_2_method_1_code
def yX0_init : MethodName := ⟨RX0, "<init>", "()V"⟩
abbrev cX0_become : ByteArray := prog_2_method_2_code
def yX0_become : MethodName := ⟨RX0, "become", "(LThreeOfThem$House;)V"⟩
abbrev cX0_welcome : ByteArray := prog_2_method_3_code
def yX0_welcome : MethodName := ⟨RX0, "welcome", "(II)I"⟩
abbrev cX0_knows : ByteArray := prog_2_method_4_code
def yX0_knows : MethodName := ⟨RX0, "knows", "(I)Z"⟩
abbrev cX0_knowsPair : ByteArray := prog_2_method_5_code
def yX0_knowsPair : MethodName := ⟨RX0, "knowsPair", "(II)Z"⟩
abbrev cX0_isIn : ByteArray := prog_2_method_6_code
def yX0_isIn : MethodName := ⟨RX0, "isIn", "(I)Z"⟩
abbrev cX0_everyone : ByteArray := prog_2_method_7_code
def yX0_everyone : MethodName := ⟨RX0, "everyone", "()I"⟩
abbrev cX0_changeLike : ByteArray := prog_2_method_8_code
def yX0_changeLike : MethodName := ⟨RX0, "changeLike", "(III)I"⟩
abbrev cX0_bind : ByteArray := prog_2_method_9_code
def yX0_bind : MethodName := ⟨RX0, "bind", "(IIZ)V"⟩
abbrev cX0_oathPairs : ByteArray := prog_2_method_10_code
def yX0_oathPairs : MethodName := ⟨RX0, "oathPairs", "()I"⟩
abbrev cX0_leave : ByteArray := prog_2_method_11_code
def yX0_leave : MethodName := ⟨RX0, "leave", "(I)V"⟩
abbrev cX0_passDay : ByteArray := prog_2_method_12_code
def yX0_passDay : MethodName := ⟨RX0, "passDay", "()V"⟩
abbrev cX0_share : ByteArray := prog_2_method_13_code
def yX0_share : MethodName := ⟨RX0, "share", "(I)I"⟩
abbrev cX0_bringsOf : ByteArray := prog_2_method_14_code
def yX0_bringsOf : MethodName := ⟨RX0, "bringsOf", "(II)I"⟩
abbrev cX0_wantsOf : ByteArray := prog_2_method_15_code
def yX0_wantsOf : MethodName := ⟨RX0, "wantsOf", "(IIZ)I"⟩
def RX1 : String := "ThreeOfThem$Judge"
def TX1 : u_T := fun k => match k with
  | 0 => ("ThreeOfThem$Judge", "house", "LThreeOfThem$House;", true)
  | 1 => ("ThreeOfThem$Judge", "rule", "LThreeOfThem$Text;", false)
  | 2 => ("ThreeOfThem$Judge", "facts", "[I", true)
  | 3 => ("ThreeOfThem$Judge", "stack", "[I", true)
  | 4 => ("ThreeOfThem$Judge", "looked", "I", false)
  | 5 => ("ThreeOfThem$Judge", "gains", "[I", true)
  | 6 => ("ThreeOfThem$Judge", "freeAgainst", "[I", true)
  | 7 => ("ThreeOfThem$Judge", "swornAgainst", "[I", true)
  | 8 => ("ThreeOfThem$Judge", "goods", "[I", true)
  | 9 => ("ThreeOfThem$Judge", "left", "[I", true)
  | 10 => ("ThreeOfThem$Judge", "goesFirst", "[I", true)
  | 11 => ("ThreeOfThem$Judge", "meetings", "[I", true)
  | 12 => ("ThreeOfThem$Judge", "meetingCount", "I", false)
  | 13 => ("ThreeOfThem$Judge", "went", "[I", true)
  | 14 => ("ThreeOfThem$Judge", "oathsFound", "[I", true)
  | _ => ("ThreeOfThem$Judge", "followed", "[I", true)
def tyX1 : Nat → FieldType := fun k => match k with
  | 0 => .object "ThreeOfThem$House"
  | 1 => .object "ThreeOfThem$Text"
  | 2 => .array .int
  | 3 => .array .int
  | 4 => .int
  | 5 => .array .int
  | 6 => .array .int
  | 7 => .array .int
  | 8 => .array .int
  | 9 => .array .int
  | 10 => .array .int
  | 11 => .array .int
  | 12 => .int
  | 13 => .array .int
  | 14 => .array .int
  | _ => .array .int
abbrev wsX10 : List Cond := u_ws RX1 TX1 16
theorem nmX1 : ∀ a, a < 16 → ∀ b, b < 16 → a ≠ b → (TX1 a).2.1 ≠ (TX1 b).2.1 := by decide +kernel
theorem tyX1_ok : ∀ k, k < 16 → parseFieldDescriptor (TX1 k).2.2.1 = some (tyX1 k) := by decide +kernel
abbrev cX1_init : ByteArray := prog_3_method_1_code
def yX1_init : MethodName := ⟨RX1, "<init>", "()V"⟩
abbrev cX1_factsOf : ByteArray := prog_3_method_2_code
def yX1_factsOf : MethodName := ⟨RX1, "factsOf", "(III)[I"⟩
abbrev cX1_worthOf : ByteArray := prog_3_method_3_code
def yX1_worthOf : MethodName := ⟨RX1, "worthOf", "(III)I"⟩
abbrev cX1_goodOf : ByteArray := prog_3_method_4_code
def yX1_goodOf : MethodName := ⟨RX1, "goodOf", "(III)I"⟩
abbrev cX1_moves : ByteArray := prog_3_method_5_code
def yX1_moves : MethodName := ⟨RX1, "moves", "(IIIIZ)Z"⟩
abbrev cX1_lookAt : ByteArray := prog_3_method_6_code
def yX1_lookAt : MethodName := ⟨RX1, "lookAt", "(I)V"⟩
abbrev cX1_compare : ByteArray := prog_3_method_7_code
def yX1_compare : MethodName := ⟨RX1, "compare", "()V"⟩
abbrev cX1_weigh : ByteArray := prog_3_method_8_code
def yX1_weigh : MethodName := ⟨RX1, "weigh", "()V"⟩
abbrev cX1_isLookedPair : ByteArray := prog_3_method_9_code
def yX1_isLookedPair : MethodName := ⟨RX1, "isLookedPair", "(II)Z"⟩
abbrev cX1_against : ByteArray := prog_3_method_10_code
def yX1_against : MethodName := ⟨RX1, "against", "(II)I"⟩
abbrev cX1_against_ : ByteArray := prog_3_method_11_code
def yX1_against_ : MethodName := ⟨RX1, "against", "(I)I"⟩
abbrev cX1_wouldTurnOut : ByteArray := prog_3_method_12_code
def yX1_wouldTurnOut : MethodName := ⟨RX1, "wouldTurnOut", "(II)Z"⟩
abbrev cX1_firstBand : ByteArray := prog_3_method_13_code
def yX1_firstBand : MethodName := ⟨RX1, "firstBand", "(I)I"⟩
abbrev cX1_bandsAgainst : ByteArray := prog_3_method_14_code
def yX1_bandsAgainst : MethodName := ⟨RX1, "bandsAgainst", "(I)I"⟩
abbrev cX1_allBands : ByteArray := prog_3_method_15_code
def yX1_allBands : MethodName := ⟨RX1, "allBands", "()I"⟩
abbrev cX1_firstOther : ByteArray := prog_3_method_16_code
def yX1_firstOther : MethodName := ⟨RX1, "firstOther", "()I"⟩
abbrev cX1_atRest : ByteArray := prog_3_method_17_code
def yX1_atRest : MethodName := ⟨RX1, "atRest", "()Z"⟩
abbrev cX1_isSafe : ByteArray := prog_3_method_18_code
def yX1_isSafe : MethodName := ⟨RX1, "isSafe", "(I)Z"⟩
abbrev cX1_runOn : ByteArray := prog_3_method_19_code
def yX1_runOn : MethodName := ⟨RX1, "runOn", "()I"⟩
abbrev cX1_foresee : ByteArray := prog_3_method_20_code
def yX1_foresee : MethodName := ⟨RX1, "foresee", "(I)V"⟩
abbrev cX1_foreseeSet : ByteArray := prog_3_method_21_code
def yX1_foreseeSet : MethodName := ⟨RX1, "foreseeSet", "(II)V"⟩
abbrev cX1_foreseers : ByteArray := prog_3_method_22_code
def yX1_foreseers : MethodName := ⟨RX1, "foreseers", "(III)I"⟩
abbrev cX1_savingOath : ByteArray := prog_3_method_23_code
def yX1_savingOath : MethodName := ⟨RX1, "savingOath", "(I)I"⟩
abbrev cX1_findOaths : ByteArray := prog_3_method_24_code
def yX1_findOaths : MethodName := ⟨RX1, "findOaths", "()V"⟩
abbrev cX1_findTwoOaths : ByteArray := prog_3_method_25_code
def yX1_findTwoOaths : MethodName := ⟨RX1, "findTwoOaths", "()V"⟩
abbrev cX1_findOath : ByteArray := prog_3_method_26_code
def yX1_findOath : MethodName := ⟨RX1, "findOath", "(II)Z"⟩
abbrev cX1_isFreePair : ByteArray := prog_3_method_27_code
def yX1_isFreePair : MethodName := ⟨RX1, "isFreePair", "(I)Z"⟩
abbrev cX1_bindPair : ByteArray := prog_3_method_28_code
def yX1_bindPair : MethodName := ⟨RX1, "bindPair", "(IZ)V"⟩
abbrev cX1_pairName : ByteArray := prog_3_method_29_code
def yX1_pairName : MethodName := ⟨RX1, "pairName", "(I)I"⟩
abbrev cX1_leastNeeded : ByteArray := prog_3_method_30_code
def yX1_leastNeeded : MethodName := ⟨RX1, "leastNeeded", "()I"⟩
abbrev cX1_leastRent : ByteArray := prog_3_method_31_code
def yX1_leastRent : MethodName := ⟨RX1, "leastRent", "()I"⟩
abbrev cX1_follow : ByteArray := prog_3_method_32_code
def yX1_follow : MethodName := ⟨RX1, "follow", "(LThreeOfThem$Sheet;)Z"⟩
abbrev cX1_draw : ByteArray := prog_3_method_33_code
def yX1_draw : MethodName := ⟨RX1, "draw", "(II)I"⟩
abbrev cX1_listMeetings : ByteArray := prog_3_method_34_code
def yX1_listMeetings : MethodName := ⟨RX1, "listMeetings", "()V"⟩
abbrev cX1_loserOf : ByteArray := prog_3_method_35_code
def yX1_loserOf : MethodName := ⟨RX1, "loserOf", "(I)I"⟩
def RX2 : String := "ThreeOfThem$Reader"
def TX2 : u_T := fun k => match k with
  | 0 => ("ThreeOfThem$Reader", "bytes", "[I", true)
  | 1 => ("ThreeOfThem$Reader", "size", "I", false)
  | 2 => ("ThreeOfThem$Reader", "tokens", "[I", true)
  | 3 => ("ThreeOfThem$Reader", "places", "[I", true)
  | 4 => ("ThreeOfThem$Reader", "tokenCount", "I", false)
  | 5 => ("ThreeOfThem$Reader", "at", "I", false)
  | 6 => ("ThreeOfThem$Reader", "code", "[I", true)
  | _ => ("ThreeOfThem$Reader", "length", "I", false)
def tyX2 : Nat → FieldType := fun k => match k with
  | 0 => .array .int
  | 1 => .int
  | 2 => .array .int
  | 3 => .array .int
  | 4 => .int
  | 5 => .int
  | 6 => .array .int
  | _ => .int
abbrev wsX20 : List Cond := u_ws RX2 TX2 8
theorem nmX2 : ∀ a, a < 8 → ∀ b, b < 8 → a ≠ b → (TX2 a).2.1 ≠ (TX2 b).2.1 := by decide +kernel
theorem tyX2_ok : ∀ k, k < 8 → parseFieldDescriptor (TX2 k).2.2.1 = some (tyX2 k) := by decide +kernel
abbrev cX2_init : ByteArray := prog_4_method_1_code
def yX2_init : MethodName := ⟨RX2, "<init>", "()V"⟩
abbrev cX2_put : ByteArray := prog_4_method_2_code
def yX2_put : MethodName := ⟨RX2, "put", "(I)V"⟩
abbrev cX2_clear : ByteArray := prog_4_method_3_code
def yX2_clear : MethodName := ⟨RX2, "clear", "()V"⟩
abbrev cX2_place : ByteArray := prog_4_method_4_code
def yX2_place : MethodName := ⟨RX2, "place", "()I"⟩
abbrev cX2_compile : ByteArray := prog_4_method_5_code
def yX2_compile : MethodName := ⟨RX2, "compile", "()LThreeOfThem$Text;"⟩
abbrev cX2_split : ByteArray := prog_4_method_6_code
def yX2_split : MethodName := ⟨RX2, "split", "()V"⟩
abbrev cX2_behind : ByteArray := prog_4_method_7_code
def yX2_behind : MethodName := ⟨RX2, "behind", "(I)I"⟩
abbrev cX2_tokenOf : ByteArray := prog_4_method_8_code
def yX2_tokenOf : MethodName := ⟨RX2, "tokenOf", "(II)I"⟩
abbrev cX2_numberOf : ByteArray := prog_4_method_9_code
def yX2_numberOf : MethodName := ⟨RX2, "numberOf", "(II)I"⟩
abbrev cX2_wordOf : ByteArray := prog_4_method_10_code
def yX2_wordOf : MethodName := ⟨RX2, "wordOf", "(II)I"⟩
abbrev cX2_spells : ByteArray := prog_4_method_11_code
def yX2_spells : MethodName := ⟨RX2, "spells", "(Ljava/lang/String;II)Z"⟩
abbrev cX2_signOf : ByteArray := prog_4_method_12_code
def yX2_signOf : MethodName := ⟨RX2, "signOf", "(I)I"⟩
abbrev cX2_isLetter : ByteArray := prog_4_method_13_code
def yX2_isLetter : MethodName := ⟨RX2, "isLetter", "(I)Z"⟩
abbrev cX2_isDigit : ByteArray := prog_4_method_14_code
def yX2_isDigit : MethodName := ⟨RX2, "isDigit", "(I)Z"⟩
abbrev cX2_current : ByteArray := prog_4_method_15_code
def yX2_current : MethodName := ⟨RX2, "current", "()I"⟩
abbrev cX2_pass : ByteArray := prog_4_method_16_code
def yX2_pass : MethodName := ⟨RX2, "pass", "(I)Z"⟩
abbrev cX2_emit : ByteArray := prog_4_method_17_code
def yX2_emit : MethodName := ⟨RX2, "emit", "(I)V"⟩
abbrev cX2_readPart : ByteArray := prog_4_method_18_code
def yX2_readPart : MethodName := ⟨RX2, "readPart", "(I)Z"⟩
abbrev cX2_readLevel : ByteArray := prog_4_method_19_code
def yX2_readLevel : MethodName := ⟨RX2, "readLevel", "(II)Z"⟩
abbrev cX2_readOne : ByteArray := prog_4_method_20_code
def yX2_readOne : MethodName := ⟨RX2, "readOne", "(I)Z"⟩
abbrev cX2_readOpened : ByteArray := prog_4_method_21_code
def yX2_readOpened : MethodName := ⟨RX2, "readOpened", "(III)Z"⟩
abbrev cX2_levelOf : ByteArray := prog_4_method_22_code
def yX2_levelOf : MethodName := ⟨RX2, "levelOf", "(I)I"⟩
def RX3 : String := "ThreeOfThem$Sheet"
def TX3 : u_T := fun k => match k with
  | 0 => ("ThreeOfThem$Sheet", "row", "[I", true)
  | 1 => ("ThreeOfThem$Sheet", "sort", "I", false)
  | _ => ("ThreeOfThem$Sheet", "size", "I", false)
def tyX3 : Nat → FieldType := fun k => match k with
  | 0 => .array .int
  | 1 => .int
  | _ => .int
abbrev wsX30 : List Cond := u_ws RX3 TX3 3
theorem nmX3 : ∀ a, a < 3 → ∀ b, b < 3 → a ≠ b → (TX3 a).2.1 ≠ (TX3 b).2.1 := by decide +kernel
theorem tyX3_ok : ∀ k, k < 3 → parseFieldDescriptor (TX3 k).2.2.1 = some (tyX3 k) := by decide +kernel
abbrev cX3_init : ByteArray := prog_5_method_1_code
def yX3_init : MethodName := ⟨RX3, "<init>", "()V"⟩
abbrev cX3_begin : ByteArray := prog_5_method_2_code
def yX3_begin : MethodName := ⟨RX3, "begin", "(II)V"⟩
abbrev cX3_isMissing : ByteArray := prog_5_method_3_code
def yX3_isMissing : MethodName := ⟨RX3, "isMissing", "()Z"⟩
abbrev cX3_reaches : ByteArray := prog_5_method_4_code
def yX3_reaches : MethodName := ⟨RX3, "reaches", "(II)Z"⟩
abbrev cX3_write : ByteArray := prog_5_method_5_code
def yX3_write : MethodName := ⟨RX3, "write", "(II)V"⟩
def RX4 : String := "ThreeOfThem$Text"
def TX4 : u_T := fun k => match k with
  | 0 => ("ThreeOfThem$Text", "code", "[I", true)
  | 1 => ("ThreeOfThem$Text", "oathFrom", "I", true)
  | _ => ("ThreeOfThem$Text", "joinsFrom", "I", true)
def tyX4 : Nat → FieldType := fun k => match k with
  | 0 => .array .int
  | 1 => .int
  | _ => .int
abbrev wsX40 : List Cond := u_ws RX4 TX4 3
theorem nmX4 : ∀ a, a < 3 → ∀ b, b < 3 → a ≠ b → (TX4 a).2.1 ≠ (TX4 b).2.1 := by decide +kernel
theorem tyX4_ok : ∀ k, k < 3 → parseFieldDescriptor (TX4 k).2.2.1 = some (tyX4 k) := by decide +kernel
abbrev cX4_init : ByteArray := prog_6_method_1_code
def yX4_init : MethodName := ⟨RX4, "<init>", "([III)V"⟩
abbrev cX4_names : ByteArray := prog_6_method_2_code
def yX4_names : MethodName := ⟨RX4, "names", "(I)Z"⟩
abbrev cX4_value : ByteArray := prog_6_method_3_code
def yX4_value : MethodName := ⟨RX4, "value", "(I[I[I)I"⟩
abbrev cX4_join : ByteArray := prog_6_method_4_code
def yX4_join : MethodName := ⟨RX4, "join", "(III)I"⟩
def RX5 : String := "ThreeOfThem"
def TX5 : u_T := fun k => match k with
  | 0 => ("ThreeOfThem", "house", "LThreeOfThem$House;", true)
  | 1 => ("ThreeOfThem", "kept", "LThreeOfThem$House;", true)
  | 2 => ("ThreeOfThem", "judge", "LThreeOfThem$Judge;", true)
  | 3 => ("ThreeOfThem", "reader", "LThreeOfThem$Reader;", true)
  | 4 => ("ThreeOfThem", "texts", "[LThreeOfThem$Text;", true)
  | 5 => ("ThreeOfThem", "sheets", "[LThreeOfThem$Sheet;", true)
  | 6 => ("ThreeOfThem", "textCount", "I", false)
  | _ => ("ThreeOfThem", "hasImage", "Z", false)
def tyX5 : Nat → FieldType := fun k => match k with
  | 0 => .object "ThreeOfThem$House"
  | 1 => .object "ThreeOfThem$House"
  | 2 => .object "ThreeOfThem$Judge"
  | 3 => .object "ThreeOfThem$Reader"
  | 4 => .array (.object "ThreeOfThem$Text")
  | 5 => .array (.object "ThreeOfThem$Sheet")
  | 6 => .int
  | _ => .boolean
abbrev wsX50 : List Cond := u_ws RX5 TX5 8
theorem nmX5 : ∀ a, a < 8 → ∀ b, b < 8 → a ≠ b → (TX5 a).2.1 ≠ (TX5 b).2.1 := by decide +kernel
theorem tyX5_ok : ∀ k, k < 8 → parseFieldDescriptor (TX5 k).2.2.1 = some (tyX5 k) := by decide +kernel
abbrev cX5_init : ByteArray := prog_1_method_1_code
def yX5_init : MethodName := ⟨RX5, "<init>", "()V"⟩
abbrev cX5_inmate : ByteArray := prog_1_method_2_code
def yX5_inmate : MethodName := ⟨RX5, "inmate", "(II)I"⟩
abbrev cX5_like : ByteArray := prog_1_method_3_code
def yX5_like : MethodName := ⟨RX5, "like", "(III)I"⟩
abbrev cX5_swear : ByteArray := prog_1_method_4_code
def yX5_swear : MethodName := ⟨RX5, "swear", "(III)I"⟩
abbrev cX5_set : ByteArray := prog_1_method_5_code
def yX5_set : MethodName := ⟨RX5, "set", "(III)I"⟩
abbrev cX5_setRent : ByteArray := prog_1_method_6_code
def yX5_setRent : MethodName := ⟨RX5, "setRent", "(I)I"⟩
abbrev cX5_setNeeded : ByteArray := prog_1_method_7_code
def yX5_setNeeded : MethodName := ⟨RX5, "setNeeded", "(I)I"⟩
abbrev cX5_setDay : ByteArray := prog_1_method_8_code
def yX5_setDay : MethodName := ⟨RX5, "setDay", "(I)I"⟩
abbrev cX5_setNumber : ByteArray := prog_1_method_9_code
def yX5_setNumber : MethodName := ⟨RX5, "setNumber", "(II)I"⟩
abbrev cX5_setIn : ByteArray := prog_1_method_10_code
def yX5_setIn : MethodName := ⟨RX5, "setIn", "(II)I"⟩
abbrev cX5_told : ByteArray := prog_1_method_11_code
def yX5_told : MethodName := ⟨RX5, "told", "(II)I"⟩
abbrev cX5_feed : ByteArray := prog_1_method_12_code
def yX5_feed : MethodName := ⟨RX5, "feed", "(I)I"⟩
abbrev cX5_text : ByteArray := prog_1_method_13_code
def yX5_text : MethodName := ⟨RX5, "text", "()I"⟩
abbrev cX5_force : ByteArray := prog_1_method_14_code
def yX5_force : MethodName := ⟨RX5, "force", "(I)I"⟩
abbrev cX5_would : ByteArray := prog_1_method_15_code
def yX5_would : MethodName := ⟨RX5, "would", "(II)I"⟩
abbrev cX5_now : ByteArray := prog_1_method_16_code
def yX5_now : MethodName := ⟨RX5, "now", "(I)I"⟩
abbrev cX5_turnOut : ByteArray := prog_1_method_17_code
def yX5_turnOut : MethodName := ⟨RX5, "turnOut", "(II)I"⟩
abbrev cX5_goOn : ByteArray := prog_1_method_18_code
def yX5_goOn : MethodName := ⟨RX5, "goOn", "(I)I"⟩
abbrev cX5_end : ByteArray := prog_1_method_19_code
def yX5_end : MethodName := ⟨RX5, "end", "(II)I"⟩
abbrev cX5_mayMeet : ByteArray := prog_1_method_20_code
def yX5_mayMeet : MethodName := ⟨RX5, "mayMeet", "(II)Z"⟩
abbrev cX5_safe : ByteArray := prog_1_method_21_code
def yX5_safe : MethodName := ⟨RX5, "safe", "()I"⟩
abbrev cX5_sworn : ByteArray := prog_1_method_22_code
def yX5_sworn : MethodName := ⟨RX5, "sworn", "(I)I"⟩
abbrev cX5_oaths : ByteArray := prog_1_method_23_code
def yX5_oaths : MethodName := ⟨RX5, "oaths", "(I)I"⟩
abbrev cX5_shield : ByteArray := prog_1_method_24_code
def yX5_shield : MethodName := ⟨RX5, "shield", "(II)I"⟩
abbrev cX5_holds : ByteArray := prog_1_method_25_code
def yX5_holds : MethodName := ⟨RX5, "holds", "(I)I"⟩
abbrev cX5_who : ByteArray := prog_1_method_26_code
def yX5_who : MethodName := ⟨RX5, "who", "(II)I"⟩
abbrev cX5_drawn : ByteArray := prog_1_method_27_code
def yX5_drawn : MethodName := ⟨RX5, "drawn", "(II)I"⟩
abbrev cX5_chance : ByteArray := prog_1_method_28_code
def yX5_chance : MethodName := ⟨RX5, "chance", "(IIIII)J"⟩
abbrev cX5_image : ByteArray := prog_1_method_29_code
def yX5_image : MethodName := ⟨RX5, "image", "()I"⟩
abbrev cX5_back : ByteArray := prog_1_method_30_code
def yX5_back : MethodName := ⟨RX5, "back", "()I"⟩
abbrev cX5_count : ByteArray := prog_1_method_31_code
def yX5_count : MethodName := ⟨RX5, "count", "(I)I"⟩
abbrev cX5_sheet : ByteArray := prog_1_method_32_code
def yX5_sheet : MethodName := ⟨RX5, "sheet", "(III)I"⟩
abbrev cX5_cell : ByteArray := prog_1_method_33_code
def yX5_cell : MethodName := ⟨RX5, "cell", "(III)I"⟩
abbrev cX5_copy : ByteArray := prog_1_method_34_code
def yX5_copy : MethodName := ⟨RX5, "copy", "(IIIII)I"⟩
abbrev cX5_likes : ByteArray := prog_1_method_35_code
def yX5_likes : MethodName := ⟨RX5, "likes", "(IIII)I"⟩
abbrev cX5_likeByTriples : ByteArray := prog_1_method_36_code
def yX5_likeByTriples : MethodName := ⟨RX5, "likeByTriples", "(LThreeOfThem$Sheet;II)I"⟩
abbrev cX5_taken : ByteArray := prog_1_method_37_code
def yX5_taken : MethodName := ⟨RX5, "taken", "(II)I"⟩
abbrev cX5_thinking : ByteArray := prog_1_method_38_code
def yX5_thinking : MethodName := ⟨RX5, "thinking", "()LThreeOfThem$Judge;"⟩
abbrev cX5_thinkingOfHouse : ByteArray := prog_1_method_39_code
def yX5_thinkingOfHouse : MethodName := ⟨RX5, "thinkingOfHouse", "()LThreeOfThem$Judge;"⟩
abbrev cX5_isSheet : ByteArray := prog_1_method_40_code
def yX5_isSheet : MethodName := ⟨RX5, "isSheet", "(I)Z"⟩
abbrev cX5_bit : ByteArray := prog_1_method_41_code
def yX5_bit : MethodName := ⟨RX5, "bit", "(I)I"⟩
abbrev cX5_has : ByteArray := prog_1_method_42_code
def yX5_has : MethodName := ⟨RX5, "has", "(II)Z"⟩
abbrev cX5_clamp : ByteArray := prog_1_method_43_code
def yX5_clamp : MethodName := ⟨RX5, "clamp", "(III)I"⟩
abbrev cX5_lowest : ByteArray := prog_1_method_44_code
def yX5_lowest : MethodName := ⟨RX5, "lowest", "(II)I"⟩
abbrev cX5_choose : ByteArray := prog_1_method_45_code
def yX5_choose : MethodName := ⟨RX5, "choose", "(II)I"⟩
abbrev cX5_commonDivisor : ByteArray := prog_1_method_46_code
def yX5_commonDivisor : MethodName := ⟨RX5, "commonDivisor", "(II)I"⟩
abbrev cX5_isUnder : ByteArray := prog_1_method_47_code
def yX5_isUnder : MethodName := ⟨RX5, "isUnder", "(II)Z"⟩
abbrev cX5_bringsAs : ByteArray := prog_1_method_48_code
def yX5_bringsAs : MethodName := ⟨RX5, "bringsAs", "(III)I"⟩
abbrev cX5_wantsAs : ByteArray := prog_1_method_49_code
def yX5_wantsAs : MethodName := ⟨RX5, "wantsAs", "(IIIZ)I"⟩
def RX6 : String := "ThreeOfThemModel"
def TX6 : u_T := fun k => match k with
  | 0 => ("ThreeOfThemModel", "thrown", "I", false)
  | 1 => ("ThreeOfThemModel", "texts", "[I", true)
  | 2 => ("ThreeOfThemModel", "textSize", "[I", true)
  | 3 => ("ThreeOfThemModel", "textCount", "I", false)
  | 4 => ("ThreeOfThemModel", "rule", "I", false)
  | 5 => ("ThreeOfThemModel", "tape", "[I", true)
  | 6 => ("ThreeOfThemModel", "taped", "I", false)
  | 7 => ("ThreeOfThemModel", "kinds", "[I", true)
  | 8 => ("ThreeOfThemModel", "numbers", "[I", true)
  | 9 => ("ThreeOfThemModel", "likeRow", "[I", true)
  | 10 => ("ThreeOfThemModel", "swornWith", "[I", true)
  | 11 => ("ThreeOfThemModel", "inmates", "I", false)
  | 12 => ("ThreeOfThemModel", "house", "I", false)
  | 13 => ("ThreeOfThemModel", "rent", "I", false)
  | 14 => ("ThreeOfThemModel", "needed", "I", false)
  | 15 => ("ThreeOfThemModel", "day", "I", false)
  | 16 => ("ThreeOfThemModel", "ofLike", "I", false)
  | 17 => ("ThreeOfThemModel", "ofMany", "I", false)
  | 18 => ("ThreeOfThemModel", "ofShare", "I", false)
  | 19 => ("ThreeOfThemModel", "ofDays", "I", false)
  | 20 => ("ThreeOfThemModel", "ofOne", "I", false)
  | 21 => ("ThreeOfThemModel", "ofOther", "I", false)
  | 22 => ("ThreeOfThemModel", "from", "I", false)
  | 23 => ("ThreeOfThemModel", "size", "I", false)
  | 24 => ("ThreeOfThemModel", "here", "I", false)
  | 25 => ("ThreeOfThemModel", "token", "I", false)
  | 26 => ("ThreeOfThemModel", "tokenAt", "I", false)
  | 27 => ("ThreeOfThemModel", "tokenWorth", "J", false)
  | 28 => ("ThreeOfThemModel", "open", "I", false)
  | 29 => ("ThreeOfThemModel", "bad", "Z", false)
  | 30 => ("ThreeOfThemModel", "fault", "I", false)
  | 31 => ("ThreeOfThemModel", "seen", "I", false)
  | 32 => ("ThreeOfThemModel", "gains", "[I", true)
  | 33 => ("ThreeOfThemModel", "oathCost", "[I", true)
  | 34 => ("ThreeOfThemModel", "joining", "[I", true)
  | 35 => ("ThreeOfThemModel", "firstBand", "I", false)
  | 36 => ("ThreeOfThemModel", "firstOther", "I", false)
  | 37 => ("ThreeOfThemModel", "bandsMany", "I", false)
  | 38 => ("ThreeOfThemModel", "went", "[I", true)
  | 39 => ("ThreeOfThemModel", "ends", "[I", true)
  | 40 => ("ThreeOfThemModel", "goods", "[I", true)
  | 41 => ("ThreeOfThemModel", "firstGoes", "[I", true)
  | 42 => ("ThreeOfThemModel", "oathsMany", "I", false)
  | 43 => ("ThreeOfThemModel", "oathFirst", "I", false)
  | 44 => ("ThreeOfThemModel", "oathSecond", "I", false)
  | 45 => ("ThreeOfThemModel", "likeKept", "[I", true)
  | 46 => ("ThreeOfThemModel", "swornKept", "[I", true)
  | 47 => ("ThreeOfThemModel", "numbersKept", "[I", true)
  | 48 => ("ThreeOfThemModel", "inmatesKept", "I", false)
  | 49 => ("ThreeOfThemModel", "houseKept", "I", false)
  | 50 => ("ThreeOfThemModel", "rentKept", "I", false)
  | 51 => ("ThreeOfThemModel", "neededKept", "I", false)
  | 52 => ("ThreeOfThemModel", "dayKept", "I", false)
  | 53 => ("ThreeOfThemModel", "ruleKept", "I", false)
  | 54 => ("ThreeOfThemModel", "isThere", "[Z", true)
  | 55 => ("ThreeOfThemModel", "sorts", "[I", true)
  | 56 => ("ThreeOfThemModel", "sheetSize", "[I", true)
  | _ => ("ThreeOfThemModel", "items", "[I", true)
def tyX6 : Nat → FieldType := fun k => match k with
  | 0 => .int
  | 1 => .array .int
  | 2 => .array .int
  | 3 => .int
  | 4 => .int
  | 5 => .array .int
  | 6 => .int
  | 7 => .array .int
  | 8 => .array .int
  | 9 => .array .int
  | 10 => .array .int
  | 11 => .int
  | 12 => .int
  | 13 => .int
  | 14 => .int
  | 15 => .int
  | 16 => .int
  | 17 => .int
  | 18 => .int
  | 19 => .int
  | 20 => .int
  | 21 => .int
  | 22 => .int
  | 23 => .int
  | 24 => .int
  | 25 => .int
  | 26 => .int
  | 27 => .long
  | 28 => .int
  | 29 => .boolean
  | 30 => .int
  | 31 => .int
  | 32 => .array .int
  | 33 => .array .int
  | 34 => .array .int
  | 35 => .int
  | 36 => .int
  | 37 => .int
  | 38 => .array .int
  | 39 => .array .int
  | 40 => .array .int
  | 41 => .array .int
  | 42 => .int
  | 43 => .int
  | 44 => .int
  | 45 => .array .int
  | 46 => .array .int
  | 47 => .array .int
  | 48 => .int
  | 49 => .int
  | 50 => .int
  | 51 => .int
  | 52 => .int
  | 53 => .int
  | 54 => .array .boolean
  | 55 => .array .int
  | 56 => .array .int
  | _ => .array .int
abbrev wsX60 : List Cond := u_ws RX6 TX6 58
theorem nmX6 : ∀ a, a < 58 → ∀ b, b < 58 → a ≠ b → (TX6 a).2.1 ≠ (TX6 b).2.1 := by decide +kernel
theorem tyX6_ok : ∀ k, k < 58 → parseFieldDescriptor (TX6 k).2.2.1 = some (tyX6 k) := by decide +kernel
abbrev cX6_in : ByteArray := prog_8_method_2_code
def yX6_in : MethodName := ⟨RX6, "in", "(JJJ)Z"⟩
abbrev cX6_within : ByteArray := prog_8_method_3_code
def yX6_within : MethodName := ⟨RX6, "within", "(III)I"⟩
abbrev cX6_bitsOf : ByteArray := prog_8_method_4_code
def yX6_bitsOf : MethodName := ⟨RX6, "bitsOf", "(I)I"⟩
abbrev cX6_init : ByteArray := prog_8_method_5_code
def yX6_init : MethodName := ⟨RX6, "<init>", "()V"⟩
abbrev cX6_spell : ByteArray := prog_8_method_6_code
def yX6_spell : MethodName := ⟨RX6, "spell", "(IIIIIIIII)V"⟩
abbrev cX6_isOne : ByteArray := prog_8_method_7_code
def yX6_isOne : MethodName := ⟨RX6, "isOne", "(I)Z"⟩
abbrev cX6_isIn : ByteArray := prog_8_method_8_code
def yX6_isIn : MethodName := ⟨RX6, "isIn", "(I)Z"⟩
abbrev cX6_inmate : ByteArray := prog_8_method_9_code
def yX6_inmate : MethodName := ⟨RX6, "inmate", "(II)I"⟩
abbrev cX6_like : ByteArray := prog_8_method_10_code
def yX6_like : MethodName := ⟨RX6, "like", "(III)I"⟩
abbrev cX6_areSworn : ByteArray := prog_8_method_11_code
def yX6_areSworn : MethodName := ⟨RX6, "areSworn", "(II)Z"⟩
abbrev cX6_swears : ByteArray := prog_8_method_12_code
def yX6_swears : MethodName := ⟨RX6, "swears", "(III)V"⟩
abbrev cX6_swear : ByteArray := prog_8_method_13_code
def yX6_swear : MethodName := ⟨RX6, "swear", "(III)I"⟩
abbrev cX6_set : ByteArray := prog_8_method_14_code
def yX6_set : MethodName := ⟨RX6, "set", "(III)I"⟩
abbrev cX6_brings : ByteArray := prog_8_method_15_code
def yX6_brings : MethodName := ⟨RX6, "brings", "(II)I"⟩
abbrev cX6_wants : ByteArray := prog_8_method_16_code
def yX6_wants : MethodName := ⟨RX6, "wants", "(IIZ)I"⟩
abbrev cX6_feed : ByteArray := prog_8_method_17_code
def yX6_feed : MethodName := ⟨RX6, "feed", "(I)I"⟩
abbrev cX6_byteAt : ByteArray := prog_8_method_18_code
def yX6_byteAt : MethodName := ⟨RX6, "byteAt", "(I)I"⟩
abbrev cX6_next : ByteArray := prog_8_method_19_code
def yX6_next : MethodName := ⟨RX6, "next", "()V"⟩
abbrev cX6_fail : ByteArray := prog_8_method_20_code
def yX6_fail : MethodName := ⟨RX6, "fail", "()V"⟩
abbrev cX6_isLetter : ByteArray := prog_8_method_21_code
def yX6_isLetter : MethodName := ⟨RX6, "isLetter", "(II)Z"⟩
abbrev cX6_isWord : ByteArray := prog_8_method_22_code
def yX6_isWord : MethodName := ⟨RX6, "isWord", "(IIIIIIII)Z"⟩
abbrev cX6_isSign : ByteArray := prog_8_method_23_code
def yX6_isSign : MethodName := ⟨RX6, "isSign", "(I)Z"⟩
abbrev cX6_opens : ByteArray := prog_8_method_24_code
def yX6_opens : MethodName := ⟨RX6, "opens", "()Z"⟩
abbrev cX6_name : ByteArray := prog_8_method_25_code
def yX6_name : MethodName := ⟨RX6, "name", "()I"⟩
abbrev cX6_atom5 : ByteArray := prog_8_method_26_code
def yX6_atom5 : MethodName := ⟨RX6, "atom5", "()I"⟩
abbrev cX6_term5 : ByteArray := prog_8_method_27_code
def yX6_term5 : MethodName := ⟨RX6, "term5", "()I"⟩
abbrev cX6_added5 : ByteArray := prog_8_method_28_code
def yX6_added5 : MethodName := ⟨RX6, "added5", "()I"⟩
abbrev cX6_not5 : ByteArray := prog_8_method_29_code
def yX6_not5 : MethodName := ⟨RX6, "not5", "()I"⟩
abbrev cX6_both5 : ByteArray := prog_8_method_30_code
def yX6_both5 : MethodName := ⟨RX6, "both5", "()I"⟩
abbrev cX6_either5 : ByteArray := prog_8_method_31_code
def yX6_either5 : MethodName := ⟨RX6, "either5", "()I"⟩
abbrev cX6_atom4 : ByteArray := prog_8_method_32_code
def yX6_atom4 : MethodName := ⟨RX6, "atom4", "()I"⟩
abbrev cX6_term4 : ByteArray := prog_8_method_33_code
def yX6_term4 : MethodName := ⟨RX6, "term4", "()I"⟩
abbrev cX6_added4 : ByteArray := prog_8_method_34_code
def yX6_added4 : MethodName := ⟨RX6, "added4", "()I"⟩
abbrev cX6_not4 : ByteArray := prog_8_method_35_code
def yX6_not4 : MethodName := ⟨RX6, "not4", "()I"⟩
abbrev cX6_both4 : ByteArray := prog_8_method_36_code
def yX6_both4 : MethodName := ⟨RX6, "both4", "()I"⟩
abbrev cX6_either4 : ByteArray := prog_8_method_37_code
def yX6_either4 : MethodName := ⟨RX6, "either4", "()I"⟩
abbrev cX6_atom3 : ByteArray := prog_8_method_38_code
def yX6_atom3 : MethodName := ⟨RX6, "atom3", "()I"⟩
abbrev cX6_term3 : ByteArray := prog_8_method_39_code
def yX6_term3 : MethodName := ⟨RX6, "term3", "()I"⟩
abbrev cX6_added3 : ByteArray := prog_8_method_40_code
def yX6_added3 : MethodName := ⟨RX6, "added3", "()I"⟩
abbrev cX6_not3 : ByteArray := prog_8_method_41_code
def yX6_not3 : MethodName := ⟨RX6, "not3", "()I"⟩
abbrev cX6_both3 : ByteArray := prog_8_method_42_code
def yX6_both3 : MethodName := ⟨RX6, "both3", "()I"⟩
abbrev cX6_either3 : ByteArray := prog_8_method_43_code
def yX6_either3 : MethodName := ⟨RX6, "either3", "()I"⟩
abbrev cX6_atom2 : ByteArray := prog_8_method_44_code
def yX6_atom2 : MethodName := ⟨RX6, "atom2", "()I"⟩
abbrev cX6_term2 : ByteArray := prog_8_method_45_code
def yX6_term2 : MethodName := ⟨RX6, "term2", "()I"⟩
abbrev cX6_added2 : ByteArray := prog_8_method_46_code
def yX6_added2 : MethodName := ⟨RX6, "added2", "()I"⟩
abbrev cX6_not2 : ByteArray := prog_8_method_47_code
def yX6_not2 : MethodName := ⟨RX6, "not2", "()I"⟩
abbrev cX6_both2 : ByteArray := prog_8_method_48_code
def yX6_both2 : MethodName := ⟨RX6, "both2", "()I"⟩
abbrev cX6_either2 : ByteArray := prog_8_method_49_code
def yX6_either2 : MethodName := ⟨RX6, "either2", "()I"⟩
abbrev cX6_atom1 : ByteArray := prog_8_method_50_code
def yX6_atom1 : MethodName := ⟨RX6, "atom1", "()I"⟩
abbrev cX6_term1 : ByteArray := prog_8_method_51_code
def yX6_term1 : MethodName := ⟨RX6, "term1", "()I"⟩
abbrev cX6_added1 : ByteArray := prog_8_method_52_code
def yX6_added1 : MethodName := ⟨RX6, "added1", "()I"⟩
abbrev cX6_not1 : ByteArray := prog_8_method_53_code
def yX6_not1 : MethodName := ⟨RX6, "not1", "()I"⟩
abbrev cX6_both1 : ByteArray := prog_8_method_54_code
def yX6_both1 : MethodName := ⟨RX6, "both1", "()I"⟩
abbrev cX6_either1 : ByteArray := prog_8_method_55_code
def yX6_either1 : MethodName := ⟨RX6, "either1", "()I"⟩
abbrev cX6_atom0 : ByteArray := prog_8_method_56_code
def yX6_atom0 : MethodName := ⟨RX6, "atom0", "()I"⟩
abbrev cX6_term0 : ByteArray := prog_8_method_57_code
def yX6_term0 : MethodName := ⟨RX6, "term0", "()I"⟩
abbrev cX6_added0 : ByteArray := prog_8_method_58_code
def yX6_added0 : MethodName := ⟨RX6, "added0", "()I"⟩
abbrev cX6_not0 : ByteArray := prog_8_method_59_code
def yX6_not0 : MethodName := ⟨RX6, "not0", "()I"⟩
abbrev cX6_both0 : ByteArray := prog_8_method_60_code
def yX6_both0 : MethodName := ⟨RX6, "both0", "()I"⟩
abbrev cX6_either0 : ByteArray := prog_8_method_61_code
def yX6_either0 : MethodName := ⟨RX6, "either0", "()I"⟩
abbrev cX6_part : ByteArray := prog_8_method_62_code
def yX6_part : MethodName := ⟨RX6, "part", "(Z)I"⟩
abbrev cX6_read : ByteArray := prog_8_method_63_code
def yX6_read : MethodName := ⟨RX6, "read", "(II)I"⟩
abbrev cX6_text : ByteArray := prog_8_method_64_code
def yX6_text : MethodName := ⟨RX6, "text", "()I"⟩
abbrev cX6_force : ByteArray := prog_8_method_65_code
def yX6_force : MethodName := ⟨RX6, "force", "(I)I"⟩
abbrev cX6_says : ByteArray := prog_8_method_66_code
def yX6_says : MethodName := ⟨RX6, "says", "(IIII)I"⟩
abbrev cX6_goodOf : ByteArray := prog_8_method_67_code
def yX6_goodOf : MethodName := ⟨RX6, "goodOf", "(II)I"⟩
abbrev cX6_told : ByteArray := prog_8_method_68_code
def yX6_told : MethodName := ⟨RX6, "told", "(II)I"⟩
abbrev cX6_looks : ByteArray := prog_8_method_69_code
def yX6_looks : MethodName := ⟨RX6, "looks", "(I)V"⟩
abbrev cX6_wouldJoin : ByteArray := prog_8_method_70_code
def yX6_wouldJoin : MethodName := ⟨RX6, "wouldJoin", "(II)Z"⟩
abbrev cX6_isBand : ByteArray := prog_8_method_71_code
def yX6_isBand : MethodName := ⟨RX6, "isBand", "(III)Z"⟩
abbrev cX6_allWould : ByteArray := prog_8_method_72_code
def yX6_allWould : MethodName := ⟨RX6, "allWould", "(II)Z"⟩
abbrev cX6_goesThrough : ByteArray := prog_8_method_73_code
def yX6_goesThrough : MethodName := ⟨RX6, "goesThrough", "()V"⟩
abbrev cX6_isSafe : ByteArray := prog_8_method_74_code
def yX6_isSafe : MethodName := ⟨RX6, "isSafe", "(I)Z"⟩
abbrev cX6_isRest : ByteArray := prog_8_method_75_code
def yX6_isRest : MethodName := ⟨RX6, "isRest", "()Z"⟩
abbrev cX6_would : ByteArray := prog_8_method_76_code
def yX6_would : MethodName := ⟨RX6, "would", "(II)I"⟩
abbrev cX6_now : ByteArray := prog_8_method_77_code
def yX6_now : MethodName := ⟨RX6, "now", "(I)I"⟩
abbrev cX6_dayMore : ByteArray := prog_8_method_78_code
def yX6_dayMore : MethodName := ⟨RX6, "dayMore", "()V"⟩
abbrev cX6_turnOut : ByteArray := prog_8_method_79_code
def yX6_turnOut : MethodName := ⟨RX6, "turnOut", "(II)I"⟩
abbrev cX6_goOn : ByteArray := prog_8_method_80_code
def yX6_goOn : MethodName := ⟨RX6, "goOn", "(I)I"⟩
abbrev cX6_foresees : ByteArray := prog_8_method_81_code
def yX6_foresees : MethodName := ⟨RX6, "foresees", "(I)V"⟩
abbrev cX6_endOf : ByteArray := prog_8_method_82_code
def yX6_endOf : MethodName := ⟨RX6, "endOf", "(I)V"⟩
abbrev cX6_allJoin : ByteArray := prog_8_method_83_code
def yX6_allJoin : MethodName := ⟨RX6, "allJoin", "(II)Z"⟩
abbrev cX6_foreseen : ByteArray := prog_8_method_84_code
def yX6_foreseen : MethodName := ⟨RX6, "foreseen", "(IIII)Z"⟩
abbrev cX6_end : ByteArray := prog_8_method_85_code
def yX6_end : MethodName := ⟨RX6, "end", "(II)I"⟩
abbrev cX6_safe : ByteArray := prog_8_method_86_code
def yX6_safe : MethodName := ⟨RX6, "safe", "()I"⟩
abbrev cX6_sworn : ByteArray := prog_8_method_87_code
def yX6_sworn : MethodName := ⟨RX6, "sworn", "(I)I"⟩
abbrev cX6_canSwear : ByteArray := prog_8_method_88_code
def yX6_canSwear : MethodName := ⟨RX6, "canSwear", "(I)Z"⟩
abbrev cX6_findsOaths : ByteArray := prog_8_method_89_code
def yX6_findsOaths : MethodName := ⟨RX6, "findsOaths", "()V"⟩
abbrev cX6_oaths : ByteArray := prog_8_method_90_code
def yX6_oaths : MethodName := ⟨RX6, "oaths", "(I)I"⟩
abbrev cX6_shield : ByteArray := prog_8_method_91_code
def yX6_shield : MethodName := ⟨RX6, "shield", "(II)I"⟩
abbrev cX6_holds : ByteArray := prog_8_method_92_code
def yX6_holds : MethodName := ⟨RX6, "holds", "(I)I"⟩
abbrev cX6_who : ByteArray := prog_8_method_93_code
def yX6_who : MethodName := ⟨RX6, "who", "(II)I"⟩
abbrev cX6_draws : ByteArray := prog_8_method_94_code
def yX6_draws : MethodName := ⟨RX6, "draws", "(II)I"⟩
abbrev cX6_meets : ByteArray := prog_8_method_95_code
def yX6_meets : MethodName := ⟨RX6, "meets", "(I)V"⟩
abbrev cX6_drawn : ByteArray := prog_8_method_96_code
def yX6_drawn : MethodName := ⟨RX6, "drawn", "(II)I"⟩
abbrev cX6_chance : ByteArray := prog_8_method_97_code
def yX6_chance : MethodName := ⟨RX6, "chance", "(IIIII)J"⟩
abbrev cX6_image : ByteArray := prog_8_method_98_code
def yX6_image : MethodName := ⟨RX6, "image", "()I"⟩
abbrev cX6_back : ByteArray := prog_8_method_99_code
def yX6_back : MethodName := ⟨RX6, "back", "()I"⟩
abbrev cX6_count : ByteArray := prog_8_method_100_code
def yX6_count : MethodName := ⟨RX6, "count", "(I)I"⟩
abbrev cX6_isSheet : ByteArray := prog_8_method_101_code
def yX6_isSheet : MethodName := ⟨RX6, "isSheet", "(I)Z"⟩
abbrev cX6_sheet : ByteArray := prog_8_method_102_code
def yX6_sheet : MethodName := ⟨RX6, "sheet", "(III)I"⟩
abbrev cX6_cell : ByteArray := prog_8_method_103_code
def yX6_cell : MethodName := ⟨RX6, "cell", "(III)I"⟩
abbrev cX6_copy : ByteArray := prog_8_method_104_code
def yX6_copy : MethodName := ⟨RX6, "copy", "(IIIII)I"⟩
abbrev cX6_likes : ByteArray := prog_8_method_105_code
def yX6_likes : MethodName := ⟨RX6, "likes", "(IIII)I"⟩
abbrev cX6_over : ByteArray := prog_8_method_106_code
def yX6_over : MethodName := ⟨RX6, "over", "(I)I"⟩
abbrev cX6_taken : ByteArray := prog_8_method_107_code
def yX6_taken : MethodName := ⟨RX6, "taken", "(II)I"⟩
def RJx145de : String := "java/io/Serializable"
def TJx145de : u_T := fun k => match k with
  | _ => ("", "", "", false)
def tyJx145de : Nat → FieldType := fun k => match k with
  | _ => .int
def RJx9f9b0 : String := "java/lang/CharSequence"
def TJx9f9b0 : u_T := fun k => match k with
  | _ => ("", "", "", false)
def tyJx9f9b0 : Nat → FieldType := fun k => match k with
  | _ => .int
def RJx8e188 : String := "java/lang/Cloneable"
def TJx8e188 : u_T := fun k => match k with
  | _ => ("", "", "", false)
def tyJx8e188 : Nat → FieldType := fun k => match k with
  | _ => .int
def RJxb160c : String := "java/lang/Comparable"
def TJxb160c : u_T := fun k => match k with
  | _ => ("", "", "", false)
def tyJxb160c : Nat → FieldType := fun k => match k with
  | _ => .int
def RJ6 : String := "java/lang/Integer"
def TJ6 : u_T := fun k => match k with
  | _ => ("", "", "", false)
def tyJ6 : Nat → FieldType := fun k => match k with
  | _ => .int
abbrev cJ6_bitCount_0f7a4 : ByteArray := prog_10_method_49_code
def yJ6_bitCount_0f7a4 : MethodName := ⟨RJ6, "bitCount", "(I)I"⟩
def RJ9 : String := "java/lang/Math"
def TJ9 : u_T := fun k => match k with
  | _ => ("", "", "", false)
def tyJ9 : Nat → FieldType := fun k => match k with
  | _ => .int
abbrev cJ9_max_7cf53 : ByteArray := prog_11_method_65_code
def yJ9_max_7cf53 : MethodName := ⟨RJ9, "max", "(II)I"⟩
abbrev cJ9_min_7cf53 : ByteArray := prog_11_method_69_code
def yJ9_min_7cf53 : MethodName := ⟨RJ9, "min", "(II)I"⟩
def RJ0 : String := "java/lang/String"
def TJ0 : u_T := fun k => match k with
  | _ => ("", "", "", false)
def tyJ0 : Nat → FieldType := fun k => match k with
  | _ => .int
abbrev cJ0_length_8abf5 : ByteArray := prog_12_method_54_code
def yJ0_length_8abf5 : MethodName := ⟨RJ0, "length", "()I"⟩
abbrev cJ0_charAt_5068e : ByteArray := prog_12_method_56_code
def yJ0_charAt_5068e : MethodName := ⟨RJ0, "charAt", "(I)C"⟩
abbrev cJ0_coder_7d493 : ByteArray := prog_12_method_152_code
def yJ0_coder_7d493 : MethodName := ⟨RJ0, "coder", "()B"⟩
abbrev cJ0_isLatin1_aae02 : ByteArray := prog_12_method_154_code
def yJ0_isLatin1_aae02 : MethodName := ⟨RJ0, "isLatin1", "()Z"⟩
abbrev cJ0_checkIndex_df160 : ByteArray := prog_12_method_155_code
def yJ0_checkIndex_df160 : MethodName := ⟨RJ0, "checkIndex", "(II)V"⟩
def RJ1 : String := "java/lang/StringLatin1"
def TJ1 : u_T := fun k => match k with
  | _ => ("", "", "", false)
def tyJ1 : Nat → FieldType := fun k => match k with
  | _ => .int
abbrev cJ1_charAt_3b067 : ByteArray := prog_13_method_2_code
def yJ1_charAt_3b067 : MethodName := ⟨RJ1, "charAt", "([BI)C"⟩
def RJ2 : String := "java/lang/StringUTF16"
def TJ2 : u_T := fun k => match k with
  | _ => ("", "", "", false)
def tyJ2 : Nat → FieldType := fun k => match k with
  | _ => .int
abbrev cJ2_getChar_3b067 : ByteArray := prog_14_method_5_code
def yJ2_getChar_3b067 : MethodName := ⟨RJ2, "getChar", "([BI)C"⟩
abbrev cJ2_length_9d52b : ByteArray := prog_14_method_6_code
def yJ2_length_9d52b : MethodName := ⟨RJ2, "length", "([B)I"⟩
abbrev cJ2_charAt_3b067 : ByteArray := prog_14_method_83_code
def yJ2_charAt_3b067 : MethodName := ⟨RJ2, "charAt", "([BI)C"⟩
abbrev cJ2_checkIndex_2214a : ByteArray := prog_14_method_91_code
def yJ2_checkIndex_2214a : MethodName := ⟨RJ2, "checkIndex", "(I[B)V"⟩
def RJ10 : String := "java/lang/System"
def TJ10 : u_T := fun k => match k with
  | _ => ("", "", "", false)
def tyJ10 : Nat → FieldType := fun k => match k with
  | _ => .int
def RJxfd54e : String := "java/lang/constant/Constable"
def TJxfd54e : u_T := fun k => match k with
  | _ => ("", "", "", false)
def tyJxfd54e : Nat → FieldType := fun k => match k with
  | _ => .int
def RJx3cf43 : String := "java/lang/constant/ConstantDesc"
def TJx3cf43 : u_T := fun k => match k with
  | _ => ("", "", "", false)
def tyJx3cf43 : Nat → FieldType := fun k => match k with
  | _ => .int
def RJ7 : String := "java/util/Arrays"
def TJ7 : u_T := fun k => match k with
  | _ => ("", "", "", false)
def tyJ7 : Nat → FieldType := fun k => match k with
  | _ => .int
abbrev cJ7_fill_53178 : ByteArray := prog_16_method_103_code
def yJ7_fill_53178 : MethodName := ⟨RJ7, "fill", "([II)V"⟩
abbrev cJ7_copyOf_59c91 : ByteArray := prog_16_method_123_code
def yJ7_copyOf_59c91 : MethodName := ⟨RJ7, "copyOf", "([II)[I"⟩
def RJ3 : String := "jdk/internal/util/Preconditions"
def TJ3 : u_T := fun k => match k with
  | _ => ("", "", "", false)
def tyJ3 : Nat → FieldType := fun k => match k with
  | _ => .int
abbrev cJ3_checkIndex_8e157 : ByteArray := prog_17_method_11_code
def yJ3_checkIndex_8e157 : MethodName := ⟨RJ3, "checkIndex", "(IILjava/util/function/BiFunction;)I"⟩
def RL : String := "ThreeOfThemLaw"
abbrev cL_law : ByteArray := code
def yL_law : MethodName := ⟨RL, "law", "([I)Z"⟩
end
section
/-! THE PURE PICTURE: a heap is a list of cells, a reference is a place in it; 'px_O' says that the machine, standing at a place of a method with such a heap, comes to the method's end with the answer and the heap that a pure term 'res' tells (nothing is said where it tells none). -/
abbrev px_C : Type := (Nat × List Value) ⊕ ((Nat × Nat × (Nat → Int32)) ⊕ (Nat × Nat × (Nat → Option Nat)))
def px_v (r : Nat → Nat) (v : Value) : Value := match v with
  | .ref k => .ref (r k)
  | w => w
theorem px_v_int (r : Nat → Nat) (x : Int32) : px_v r (.int x) = .int x := rfl
theorem px_v_long (r : Nat → Nat) (x : Int64) : px_v r (.long x) = .long x := rfl
theorem px_v_null (r : Nat → Nat) : px_v r .null = .null := rfl
theorem px_v_ref (r : Nat → Nat) (k : Nat) : px_v r (.ref k) = .ref (r k) := rfl
theorem px_v_cat (r : Nat → Nat) (v : Value) : (px_v r v).category = v.category := by cases v <;> rfl
def px_c (r : Nat → Nat) (ty : Nat → ClassId) (c : px_C) : va_E := match c with
  | .inl (ci, fs) => .inr (ci, fs.map (px_v r))
  | .inr (.inl (t, n, f)) => .inl (ty t, n, .inl f)
  | .inr (.inr (t, n, f)) => .inl (ty t, n, .inr (.inr (.inr (.inr (fun j => (f j).map r)))))
def px_w (r : Nat → Nat) (ty : Nat → ClassId) (h : List px_C) : va_W := h.mapIdx (fun k c => (r k, px_c r ty c))
theorem px_w_len (r : Nat → Nat) (ty : Nat → ClassId) (h : List px_C) : (px_w r ty h).length = h.length := by simp [px_w]
theorem px_w_get {r : Nat → Nat} {ty : Nat → ClassId} {h : List px_C} {k : Nat} {c : px_C} (hc : h[k]? = some c) : (px_w r ty h)[k]? = some (r k, px_c r ty c) := by
  simp [px_w, List.getElem?_mapIdx, hc]
theorem px_w_at {r : Nat → Nat} {ty : Nat → ClassId} {h : List px_C} {k : Nat} {q : Nat × va_E} (hq : (px_w r ty h)[k]? = some q) : ∃ c, h[k]? = some c ∧ q = (r k, px_c r ty c) := by
  simp only [px_w, List.getElem?_mapIdx] at hq
  cases hc : h[k]? with
  | none => rw [hc] at hq; cases hq
  | some c => rw [hc] at hq; exact ⟨c, rfl, (Option.some.inj hq).symm⟩
theorem px_w_set (r : Nat → Nat) (ty : Nat → ClassId) (h : List px_C) (k : Nat) (c : px_C) : (px_w r ty h).set k (r k, px_c r ty c) = px_w r ty (h.set k c) := by
  apply List.ext_getElem?
  intro i
  simp only [px_w, List.getElem?_mapIdx, List.getElem?_set, List.length_mapIdx]
  by_cases hi : k = i
  · subst hi
    by_cases hl : k < h.length
    · simp [hl]
    · simp [hl]
  · simp [hi]
/-- no reference to place n -/
def px_fv (n : Nat) (v : Value) : Prop := ∀ k, v = .ref k → k ≠ n
def px_fr (n : Nat) (c : px_C) : Prop := match c with
  | .inl (_, fs) => ∀ v ∈ fs, px_fv n v
  | .inr (.inl _) => True
  | .inr (.inr (_, _, f)) => ∀ j k, f j = some k → k ≠ n
theorem px_v_up {r : Nat → Nat} {n q : Nat} {v : Value} (h : px_fv n v) : px_v (va_up r n q) v = px_v r v := by
  cases v with
  | ref k => simp only [px_v, va_up_ne _ _ (h k rfl)]
  | _ => rfl
theorem px_c_up {r : Nat → Nat} {ty : Nat → ClassId} {n q : Nat} {c : px_C} (h : px_fr n c) : px_c (va_up r n q) ty c = px_c r ty c := by
  match c, h with
  | .inl (ci, fs), h =>
    simp only [px_c]
    congr 2
    exact List.map_congr_left (fun v hv => px_v_up (h v hv))
  | .inr (.inl (t, n0, f)), h => rfl
  | .inr (.inr (t, n0, f)), h =>
    have e : (fun j => (f j).map (va_up r n q)) = fun j => (f j).map r := by
      funext j
      cases hf : f j with
      | none => rfl
      | some k => simp only [Option.map_some, va_up_ne _ _ (h j k hf)]
    simp only [px_c, e]
theorem px_w_push {r : Nat → Nat} {ty : Nat → ClassId} {h : List px_C} {q : Nat} {c : px_C} (hf : ∀ x ∈ h, px_fr h.length x) (hc : px_fr h.length c) : px_w r ty h ++ [(q, px_c r ty c)] = px_w (va_up r h.length q) ty (h ++ [c]) := by
  apply List.ext_getElem?
  intro i
  by_cases hi : i < h.length
  · rw [List.getElem?_append_left (by rw [px_w_len]; exact hi)]
    have h1 : (h ++ [c])[i]? = some h[i] := by rw [List.getElem?_append_left hi]; exact List.getElem?_eq_getElem hi
    rw [px_w_get (List.getElem?_eq_getElem hi), px_w_get h1, px_c_up (hf _ (List.getElem_mem hi)), va_up_ne _ _ (Nat.ne_of_lt hi)]
  · rw [List.getElem?_append_right (by rw [px_w_len]; omega), px_w_len]
    by_cases he : i = h.length
    · subst he
      have h1 : (h ++ [c])[h.length]? = some c := by rw [List.getElem?_append_right (Nat.le_refl _)]; simp
      rw [px_w_get h1, px_c_up hc]
      simp [va_up]
    · rw [List.getElem?_eq_none (by simp; omega), List.getElem?_eq_none (by rw [px_w_len]; simp; omega)]
def px_tys (ty : Nat → ClassId) : List (ClassId × FieldType) := [(ty 0, .int), (ty 1, .boolean), (ty 2, .object "ThreeOfThem$Text"), (ty 3, .object "ThreeOfThem$Sheet")]
abbrev vwCl : List vw_C := [(RX0, TX0, 10), (RX1, TX1, 16), (RX2, TX2, 8), (RX3, TX3, 3), (RX4, TX4, 3), (RX5, TX5, 8), (RX6, TX6, 58)]
/-- the cells that a method may change: the first n places, and what comes -/
def px_A (r : Nat → Nat) (n sz : Nat) : Nat → Prop := fun q => (∃ k, k < n ∧ q = r k) ∨ sz ≤ q
theorem px_A_eq (r : Nat → Nat) (ty : Nat → ClassId) (h : List px_C) (sz : Nat) : va_A (px_w r ty h) sz = px_A r h.length sz := by
  funext q
  apply propext
  constructor
  · rintro (⟨k, e, hk⟩ | hq)
    · obtain ⟨c, hc, he⟩ := px_w_at hk
      exact Or.inl ⟨k, (List.getElem?_eq_some_iff.mp hc).1, congrArg Prod.fst he⟩
    · exact Or.inr hq
  · rintro (⟨k, hk, e⟩ | hq)
    · exact Or.inl ⟨k, _, by rw [px_w_get (List.getElem?_eq_getElem hk), e]⟩
    · exact Or.inr hq
/-- what stands outside the picture: words of nest mates, text constants, statics -/
def px_isNest (w : Cond) : Bool := match w with
  | .methodLinkNest .. => true
  | _ => false
def px_Nt : List Cond := tables_1.filter px_isNest
def px_own (i : Nat) : String := if i = 0 then "ThreeOfThem" else "ThreeOfThem$Reader"
def px_idx (i : Nat) : Nat := [46, 82, 88, 90, 92, 94, 96, 98, 100, 102, 104, 106, 108].getD i 0
def px_tx (i : Nat) : String := ["company like ; oath 20 ; joins like < 9 ;", "like", "many", "share", "days", "one", "other", "or", "and", "not", "company", "oath", "joins"].getD i ""
def px_byt : List (List Int32) := [[99, 111, 109, 112, 97, 110, 121, 32, 108, 105, 107, 101, 32, 59, 32, 111, 97, 116, 104, 32, 50, 48, 32, 59, 32, 106, 111, 105, 110, 115, 32, 108, 105, 107, 101, 32, 60, 32, 57, 32, 59], [108, 105, 107, 101], [109, 97, 110, 121], [115, 104, 97, 114, 101], [100, 97, 121, 115], [111, 110, 101], [111, 116, 104, 101, 114], [111, 114], [97, 110, 100], [110, 111, 116], [99, 111, 109, 112, 97, 110, 121], [111, 97, 116, 104], [106, 111, 105, 110, 115]]
def px_len : List Nat := [41, 4, 4, 5, 4, 3, 5, 2, 3, 3, 7, 4, 5]
def px_und (j : Nat) : Int32 := [-1, 0, 0, 1, 2, 1].getD j 0
def px_E (r adV : Nat → Nat) (A : Nat → Prop) (U : State) (H : Heap) : Prop :=
  (∀ w ∈ px_Nt, va_Nw w U) ∧ vk_S 13 px_len px_byt (fun i => r (1000 + i)) (fun i => r (3000 + i)) A U H ∧ (∀ i : Nat, i < 13 → vk_R (px_own i) (px_idx i) (px_tx i) (r (1000 + i)) U) ∧
  va_Z "ThreeOfThem" "UNDER" "[I" (.ref (r 2000)) A U H ∧ va_T .int (r 2000) 6 (fun j => .int (px_und j)) A U H ∧ va_Z "java/lang/String" "COMPACT_STRINGS" "Z" (.int 1) A U H ∧
  (va_Z "jdk/internal/util/Preconditions" "SIOOBE_FORMATTER" "Ljava/util/function/BiFunction;" .null A U H ∨ va_Z "jdk/internal/util/Preconditions" "SIOOBE_FORMATTER" "Ljava/util/function/BiFunction;" (.ref (r 2001)) A U H) ∧ va_AO "ThreeOfThem$Text" U ∧ va_AO "ThreeOfThem$Sheet" U
theorem px_nest_warm {w : Cond} (hw : px_isNest w = true) {s U : State} (hW : s.WarmedH U.vm) (h : va_Nw w s) : va_Nw w U := by
  cases w <;> first | (simp [px_isNest] at hw; done) | exact va_Nw.warmM hW h
theorem px_nest_same {w : Cond} (hw : px_isNest w = true) {s U : State} (hv : s.vm = U.vm) (h : va_Nw w s) : va_Nw w U := by
  cases w <;> first | (simp [px_isNest] at hw; done) | exact va_Nw.same rfl hv h
theorem px_E.warm {r adV : Nat → Nat} {A : Nat → Prop} {s U : State} {H : Heap} (hW : s.WarmedH U.vm) (h : px_E r adV A s H) : px_E r adV A U H := by
  obtain ⟨h1, h2, h3, h4, h5, h6, h7, h8, h9⟩ := h
  have hv := hW.alike
  exact ⟨fun w hw => px_nest_warm (List.mem_filter.mp hw).2 hW (h1 w hw), h2.moved hv, fun i hi => (h3 i hi).warm hW, h4.moved hv, h5.moved hv, h6.moved hv, h7.imp (fun z => z.moved hv) (fun z => z.moved hv), h8.moved hv, h9.moved hv⟩
theorem px_E.same {r adV : Nat → Nat} {A : Nat → Prop} {s U : State} {H : Heap} (hv : s.vm = U.vm) (h : px_E r adV A s H) : px_E r adV A U H := by
  obtain ⟨h1, h2, h3, h4, h5, h6, h7, h8, h9⟩ := h
  have ha : s.vm.Alike U.vm := by rw [hv]; exact Vm.Alike.refl _
  exact ⟨fun w hw => px_nest_same (List.mem_filter.mp hw).2 hv (h1 w hw), h2.moved ha, fun i hi => (h3 i hi).same hv.symm, h4.moved ha, h5.moved ha, h6.moved ha, h7.imp (fun z => z.moved ha) (fun z => z.moved ha), h8.moved ha, h9.moved ha⟩
theorem px_E.kept {r adV : Nat → Nat} {A : Nat → Prop} {U : State} {H H1 : Heap} (h : px_E r adV A U H) (hq : ∀ a : Nat, a < H.size → ¬ A a → H1[a]? = H[a]?) : px_E r adV A U H1 := by
  obtain ⟨h1, h2, h3, h4, h5, h6, h7, h8, h9⟩ := h
  exact ⟨h1, h2.kept hq, h3, h4.kept hq, h5.kept hq, h6.kept hq, h7.imp (fun z => z.kept hq) (fun z => z.kept hq), h8, h9⟩
theorem px_E.narrow {r adV : Nat → Nat} {A B : Nat → Prop} {U : State} {H : Heap} (h : px_E r adV A U H) (hAB : ∀ q, B q → A q) : px_E r adV B U H := by
  obtain ⟨h1, h2, h3, h4, h5, h6, h7, h8, h9⟩ := h
  exact ⟨h1, h2.narrow hAB, h3, h4.narrow hAB, h5.narrow hAB, h6.narrow hAB, h7.imp (fun z => z.narrow hAB) (fun z => z.narrow hAB), h8, h9⟩
theorem px_E.places {r r' adV : Nat → Nat} {A : Nat → Prop} {U : State} {H : Heap} (h : px_E r adV A U H) (hr : ∀ k, 1000 ≤ k → r' k = r k) : px_E r' adV A U H := by
  have e1 : (fun i => r' (1000 + i)) = fun i => r (1000 + i) := funext fun i => hr _ (Nat.le_add_right _ _)
  obtain ⟨h1, h2, h3, h4, h5, h6, h7, h8, h9⟩ := h
  have e2 : (fun i => r' (3000 + i)) = fun i => r (3000 + i) := funext fun i => hr _ (by omega)
  refine ⟨h1, by rw [e1, e2]; exact h2, fun i hi => by rw [hr _ (Nat.le_add_right _ _)]; exact h3 i hi, ?_, ?_, h6, ?_, h8, h9⟩
  · rw [hr 2000 (by decide)]; exact h4
  · rw [hr 2000 (by decide)]; exact h5
  · rw [hr 2001 (by decide)]; exact h7
abbrev px_M : Type := MethodName × ByteArray × Nat × Option FieldType
def px_T : List Cond := lw_tbl.filter goodWord
theorem px_T_good {w : Cond} (h : w ∈ px_T) : w ∈ lw_tbl ∧ ((w.onTables && w.keeps) = true ∨ ∃ ty, w = .arrayClass ty) := ⟨(List.mem_filter.mp h).1, good_of_word (List.mem_filter.mp h).2⟩
def px_ws (M : px_M) : List Cond := Cond.code M.1 M.2.1 M.2.2.1 M.2.2.2 :: px_T
def px_rm (d mc ms : Nat) : Room := { frames := d, cells := mc, slots := ms, locals := 80 * d }
/-- the locals: those that are known -/
def px_L (r : Nat → Nat) (ls : Array Slot) (nL : Nat) (L : List (Option Value)) : Prop := ls.size = nL ∧ lv_wf ls ∧ ∀ (i : Nat) (v : Value), L[i]? = some (some v) → ls[i]? = some (.val (px_v r v))
def px_ll (r : Nat → Nat) (L : List (Option Value)) : List (Nat × Value) := (L.zipIdx).filterMap (fun q => q.1.map (fun v => (q.2, px_v r v)))
theorem px_ll_mem {r : Nat → Nat} {L : List (Option Value)} {i : Nat} {v : Value} (h : L[i]? = some (some v)) : (i, px_v r v) ∈ px_ll r L := by
  refine List.mem_filterMap.mpr ⟨(some v, i), ?_, rfl⟩
  rw [List.mem_iff_getElem?]
  exact ⟨i, by simp [h]⟩
theorem px_ll_of {r : Nat → Nat} {L : List (Option Value)} {q : Nat × Value} (h : q ∈ px_ll r L) : ∃ v, L[q.1]? = some (some v) ∧ q.2 = px_v r v := by
  obtain ⟨x, hx, he⟩ := List.mem_filterMap.mp h
  obtain ⟨o, i⟩ := x
  cases o with
  | none => cases he
  | some v =>
    cases he
    rw [List.mem_iff_getElem?] at hx
    obtain ⟨j, hj⟩ := hx
    simp only [List.getElem?_zipIdx] at hj
    cases hl : L[j]? with
    | none => rw [hl] at hj; cases hj
    | some o =>
      rw [hl] at hj
      simp at hj
      obtain ⟨rfl, rfl⟩ := hj
      exact ⟨v, hl, rfl⟩
theorem px_L_has {r : Nat → Nat} {ls : Array Slot} {nL : Nat} {L : List (Option Value)} (h : px_L r ls nL L) : lv_has ls nL (px_ll r L) := by
  refine ⟨h.1, h.2.1, fun q hq => ?_⟩
  obtain ⟨v, h1, h2⟩ := px_ll_of hq
  rw [h2]
  exact h.2.2 _ _ h1
/-- no long just ahead of place i -/
def px_nl (L : List (Option Value)) (i : Nat) : Bool := match i with
  | 0 => true
  | j + 1 => match L[j]? with
    | some (some v) => v.category == 1
    | _ => true
theorem px_nl_spec {L : List (Option Value)} {i j : Nat} {v : Value} (h : px_nl L i = true) (hj : L[j]? = some (some v)) (e : j + 1 = i) : v.category = 1 := by
  subst e
  simp only [px_nl, hj] at h
  simpa using h
theorem px_L_set1 {r : Nat → Nat} {ls' : Array Slot} {nL i : Nat} {L : List (Option Value)} {v : Value} (hn : px_nl L i = true)
    (h : lv_has ls' nL ((i, px_v r v) :: (px_ll r L).filter (fun q => !(q.1 == i) && !(q.1 + 1 == i && q.2.category == 2)))) : px_L r ls' nL (L.set i (some v)) := by
  refine ⟨h.1, h.2.1, fun j w hj => ?_⟩
  by_cases e : j = i
  · subst e
    rw [List.getElem?_set] at hj
    simp at hj
    obtain ⟨-, rfl⟩ := hj
    exact h.2.2 (j, px_v r v) List.mem_cons_self
  · rw [List.getElem?_set_ne (Ne.symm e)] at hj
    refine h.2.2 (j, px_v r w) (List.mem_cons_of_mem _ (List.mem_filter.mpr ⟨px_ll_mem hj, ?_⟩))
    by_cases e2 : j + 1 = i
    · have := px_nl_spec hn hj e2
      simp [e, px_v_cat, this]
    · simp [e, e2]
theorem px_L_set2 {r : Nat → Nat} {ls' : Array Slot} {nL i : Nat} {L : List (Option Value)} {v : Value} (hn : px_nl L i = true)
    (h : lv_has ls' nL ((i, px_v r v) :: (px_ll r L).filter (fun q => !(q.1 == i) && (!(q.1 == i + 1) && !(q.1 + 1 == i && q.2.category == 2))))) : px_L r ls' nL ((L.set i (some v)).set (i + 1) none) := by
  refine ⟨h.1, h.2.1, fun j w hj => ?_⟩
  by_cases e1 : j = i + 1
  · subst e1
    rw [List.getElem?_set] at hj
    simp at hj
  · rw [List.getElem?_set_ne (Ne.symm e1)] at hj
    by_cases e : j = i
    · subst e
      rw [List.getElem?_set] at hj
      simp at hj
      obtain ⟨-, rfl⟩ := hj
      exact h.2.2 (j, px_v r v) List.mem_cons_self
    · rw [List.getElem?_set_ne (Ne.symm e)] at hj
      refine h.2.2 (j, px_v r w) (List.mem_cons_of_mem _ (List.mem_filter.mpr ⟨px_ll_mem hj, ?_⟩))
      by_cases e2 : j + 1 = i
      · have := px_nl_spec hn hj e2
        simp [e, e1, px_v_cat, this]
      · simp [e, e1, e2]
/-- what a method leaves behind -/
def px_Q (D : va_G) (ty : Nat → ClassId) (r : Nat → Nat) (n : Nat) (rv : Option Value) (hF : List px_C) (sz : Nat) : Array Value → State → Outcome → State → Prop := fun _ st oc t =>
  (∃ r' : Nat → Nat, (∀ k, k < n ∨ hF.length ≤ k → r' k = r k) ∧ (n ≤ hF.length ∧ hF.length ≤ 1000) ∧ oc = .returned (rv.map (px_v r')) ∧ va_P D vwCl (px_w r' ty hF) t.heap ∧ va_K D vwCl (px_tys ty) t ∧ va_D (px_A r n sz) (px_w r' ty hF)) ∧ va_F (px_A r n sz) st t
/-- what it finds -/
def px_P (D : va_G) (ty : Nat → ClassId) (r adV : Nat → Nat) (as : List Value) (h : List px_C) (sz : Nat) : Array Value → State → Prop := va_Pc (as.map (px_v r)) (fun U =>
  (U.heap.size = sz ∧ h.length ≤ 1000) ∧ va_P D vwCl (px_w r ty h) U.heap ∧ va_K D vwCl (px_tys ty) U ∧ va_D (fun _ => True) (px_w r ty h) ∧ px_E r adV (px_A r h.length sz) U U.heap)
/-- A CONTRACT: depth, cells and slots that it may take, the method, arguments and heap; its answer and heap -/
def px_K (d mc ms : Nat) (M : px_M) (as : List Value) (h : List px_C) (rv : Option Value) (hF : List px_C) : Prop :=
  ∀ (l : Launch) (D : va_G) (ty : Nat → ClassId) (r adV : Nat → Nat) (sz : Nat), Met l M.1 (px_ws M) (px_rm d mc ms) (px_P D ty r adV as h sz) (px_Q D ty r h.length rv hF sz) mc ms (px_A r h.length sz)
theorem px_P_blind (D : va_G) (ty : Nat → ClassId) (r adV : Nat → Nat) (as : List Value) (h : List px_C) (sz : Nat) : FrameBlind (px_P D ty r adV as h sz) := by
  rintro a U g mk ⟨q0, q1, qP, qK, qD, qE⟩
  exact ⟨q0, q1, qP, va_K.moved (u := U) (U := U.calling g mk a) (Vm.Alike.refl U.vm) qK, qD, px_E.same (s := U) (U := U.calling g mk a) rfl qE⟩
def px_ctx (M : px_M) (p : Program) (s : State) (m : MethodId) (args : Array Value) (meth : Method) (c : Code) : Prop :=
  p.tables.exec = Jvm.exec ∧ c.code = M.2.1 ∧ meth.sig.returnType = M.2.2.2 ∧ c.maxLocals = M.2.2.1 ∧ s.vm.findClass M.1.cls = some m.cls ∧ (∀ w ∈ px_ws M, w.before args s = true) ∧ meth.locks = false ∧ meth.name = M.1.name
/-- the method's own: depth, cells, slots, how many places there were at its entry, the method -/
abbrev px_Z : Type := Nat × Nat × Nat × Nat × px_M
def px_wd (D : va_G) (ty : Nat → ClassId) (r0 adV r : Nat → Nat) (n0 : Nat) (s : State) (h : List px_C) (H : Heap) (locs : List Loc) : Prop :=
  ((∀ k, k < n0 ∨ h.length ≤ k → r k = r0 k) ∧ n0 ≤ h.length ∧ h.length ≤ 1000) ∧ va_K D vwCl (px_tys ty) s ∧ px_E r0 adV (px_A r0 n0 s.heap.size) s s.heap ∧ va_P D vwCl (px_w r ty h) H ∧ va_D (px_A r0 n0 s.heap.size) (px_w r ty h) ∧ va_S (px_A r0 n0 s.heap.size) s.heap H locs
def px_O {β : Type} (Z : px_Z) (g : β → Option Value × List px_C) (res : Option β) (pc : Nat) (L : List (Option Value)) (S : List Value) (h : List px_C) (kc ks : Nat) : Prop :=
  ∀ b, res = some b → ∀ (p : Program) (l : Launch) (e : Env) (s : State) (m : MethodId) (args : Array Value) (below : List Frame) (meth : Method) (c : Code) (D : va_G) (ty : Nat → ClassId) (r0 adV r : Nat → Nat) (H : Heap) (locs : List Loc) (ls : Array Slot),
    px_ctx Z.2.2.2.2 p s m args meth c → px_wd D ty r0 adV r Z.2.2.2.1 s h H locs → px_L r ls Z.2.2.2.2.2.2.1 L →
    W p l e (px_rm Z.1 Z.2.1 Z.2.2.1) s m args below meth c H locs kc ks (MQ below (px_Q D ty r0 Z.2.2.2.1 (g b).1 (g b).2 s.heap.size) args s Z.2.1 Z.2.2.1 (px_A r0 Z.2.2.2.1 s.heap.size)) (F0 m pc ls (S.map (px_v r)))
end
section
theorem px_in0 : ∀ w ∈ u_ws RX0 TX0 10, w ∈ px_T := by decide +kernel
theorem px_in1 : ∀ w ∈ u_ws RX1 TX1 16, w ∈ px_T := by decide +kernel
theorem px_in2 : ∀ w ∈ u_ws RX2 TX2 8, w ∈ px_T := by decide +kernel
theorem px_in3 : ∀ w ∈ u_ws RX3 TX3 3, w ∈ px_T := by decide +kernel
theorem px_in4 : ∀ w ∈ u_ws RX4 TX4 3, w ∈ px_T := by decide +kernel
theorem px_in5 : ∀ w ∈ u_ws RX5 TX5 8, w ∈ px_T := by decide +kernel
theorem px_in6 : ∀ w ∈ u_ws RX6 TX6 58, w ∈ px_T := by decide +kernel
end
section
section PXO
variable {β : Type} {Z : px_Z} {g : β → Option Value × List px_C} {res A B : Option β} {pc : Nat} {L : List (Option Value)} {S : List Value} {h : List px_C} {kc ks : Nat}
theorem o_none : px_O Z g (none : Option β) pc L S h kc ks := fun b hb => by cases hb
theorem o_ite {c : Prop} {i : Decidable c} (ht : c → px_O Z g A pc L S h kc ks) (hf : ¬ c → px_O Z g B pc L S h kc ks) : px_O Z g (@ite _ c i A B) pc L S h kc ks := by
  by_cases hc : c
  · rw [if_pos hc]; exact ht hc
  · rw [if_neg hc]; exact hf hc
theorem o_bindv {α : Type} {x : Option α} {F : α → Option β} (k : ∀ a, x = some a → px_O Z g (F a) pc L S h kc ks) : px_O Z g (x.bind F) pc L S h kc ks := by
  cases hx : x with
  | none => exact fun b hb => by cases hb
  | some a => exact k a hx
theorem o_iconst {n : Int} {v : Int32} (hd : decode Z.2.2.2.2.2.1 pc = .ok (.iconst n, 1)) (hv : Int32.ofInt n = v) (K : px_O Z g res (pc + 1) L (.int v :: S) h kc ks) : px_O Z g res pc L S h kc ks := by
  intro b hb p l e s m args below meth c D ty r0 adV r H locs ls C X Lc
  exact lv_iconst C.1 C.2.1 hd hv (K b hb _ _ _ _ _ _ _ _ _ _ _ _ _ _ _ _ _ C X Lc)
theorem o_bipush {n : Int} {v : Int32} (hd : decode Z.2.2.2.2.2.1 pc = .ok (.bipush n, 2)) (hv : (Int8.ofInt n).toInt32 = v) (K : px_O Z g res (pc + 2) L (.int v :: S) h kc ks) : px_O Z g res pc L S h kc ks := by
  intro b hb p l e s m args below meth c D ty r0 adV r H locs ls C X Lc
  exact lv_bipush C.1 C.2.1 hd hv (K b hb _ _ _ _ _ _ _ _ _ _ _ _ _ _ _ _ _ C X Lc)
theorem o_sipush {n : Int} {v : Int32} (hd : decode Z.2.2.2.2.2.1 pc = .ok (.sipush n, 3)) (hv : (Int16.ofInt n).toInt32 = v) (K : px_O Z g res (pc + 3) L (.int v :: S) h kc ks) : px_O Z g res pc L S h kc ks := by
  intro b hb p l e s m args below meth c D ty r0 adV r H locs ls C X Lc
  exact lv_sipush C.1 C.2.1 hd hv (K b hb _ _ _ _ _ _ _ _ _ _ _ _ _ _ _ _ _ C X Lc)
theorem o_lconst {n : Fin 2} {v : Int64} (hd : decode Z.2.2.2.2.2.1 pc = .ok (.lconst n, 1)) (hv : Int64.ofNat (n : Nat) = v) (K : px_O Z g res (pc + 1) L (.long v :: S) h kc ks) : px_O Z g res pc L S h kc ks := by
  intro b hb p l e s m args below meth c D ty r0 adV r H locs ls C X Lc
  exact lv_lconst C.1 C.2.1 hd hv (K b hb _ _ _ _ _ _ _ _ _ _ _ _ _ _ _ _ _ C X Lc)
theorem o_ldc {i : Nat} {v : Int32} (hd : decode Z.2.2.2.2.2.1 pc = .ok (.ldc i, 2)) (hv : Cond.constant Z.2.2.2.2.1.cls i v ∈ px_T) (K : px_O Z g res (pc + 2) L (.int v :: S) h kc ks) : px_O Z g res pc L S h kc ks := by
  intro b hb p l e s m args below meth c D ty r0 adV r H locs ls C X Lc
  exact lv_ldc C.1 C.2.1 C.2.2.2.2.1 (C.2.2.2.2.2.1 _ (List.mem_cons_of_mem _ hv)) hd (K b hb _ _ _ _ _ _ _ _ _ _ _ _ _ _ _ _ _ C X Lc)
theorem o_ldcw {i : Nat} {v : Int32} (hd : decode Z.2.2.2.2.2.1 pc = .ok (.ldc_w i, 3)) (hv : Cond.constant Z.2.2.2.2.1.cls i v ∈ px_T) (K : px_O Z g res (pc + 3) L (.int v :: S) h kc ks) : px_O Z g res pc L S h kc ks := by
  intro b hb p l e s m args below meth c D ty r0 adV r H locs ls C X Lc
  exact lv_ldcw C.1 C.2.1 C.2.2.2.2.1 (C.2.2.2.2.2.1 _ (List.mem_cons_of_mem _ hv)) hd (K b hb _ _ _ _ _ _ _ _ _ _ _ _ _ _ _ _ _ C X Lc)
theorem o_ldc2 {i : Nat} {v : Int64} (hd : decode Z.2.2.2.2.2.1 pc = .ok (.ldc2_w i, 3)) (hv : Cond.constantLong Z.2.2.2.2.1.cls i v ∈ px_T) (K : px_O Z g res (pc + 3) L (.long v :: S) h kc ks) : px_O Z g res pc L S h kc ks := by
  intro b hb p l e s m args below meth c D ty r0 adV r H locs ls C X Lc
  exact lv_ldc2 C.1 C.2.1 C.2.2.2.2.1 (C.2.2.2.2.2.1 _ (List.mem_cons_of_mem _ hv)) hd (K b hb _ _ _ _ _ _ _ _ _ _ _ _ _ _ _ _ _ C X Lc)
theorem o_null (hd : decode Z.2.2.2.2.2.1 pc = .ok (.aconst_null, 1)) (K : px_O Z g res (pc + 1) L (.null :: S) h kc ks) : px_O Z g res pc L S h kc ks := by
  intro b hb p l e s m args below meth c D ty r0 adV r H locs ls C X Lc
  exact lv_null C.1 C.2.1 hd (K b hb _ _ _ _ _ _ _ _ _ _ _ _ _ _ _ _ _ C X Lc)
theorem o_iload_n {k : Fin 4} {x : Int32} (hd : decode Z.2.2.2.2.2.1 pc = .ok (.iload_n k, 1)) (hl : L[(k : Nat)]? = some (some (.int x))) (K : px_O Z g res (pc + 1) L (.int x :: S) h kc ks) : px_O Z g res pc L S h kc ks := by
  intro b hb p l e s m args below meth c D ty r0 adV r H locs ls C X Lc
  exact lv_iload_n C.1 C.2.1 hd rfl (Lc.2.2 _ _ hl) (K b hb _ _ _ _ _ _ _ _ _ _ _ _ _ _ _ _ _ C X Lc)
theorem o_iload {k : Nat} {x : Int32} (hd : decode Z.2.2.2.2.2.1 pc = .ok (.iload k, 2)) (hl : L[k]? = some (some (.int x))) (K : px_O Z g res (pc + 2) L (.int x :: S) h kc ks) : px_O Z g res pc L S h kc ks := by
  intro b hb p l e s m args below meth c D ty r0 adV r H locs ls C X Lc
  exact lv_iload C.1 C.2.1 hd (Lc.2.2 _ _ hl) (K b hb _ _ _ _ _ _ _ _ _ _ _ _ _ _ _ _ _ C X Lc)
theorem o_lload_n {k : Fin 4} {x : Int64} (hd : decode Z.2.2.2.2.2.1 pc = .ok (.lload_n k, 1)) (hl : L[(k : Nat)]? = some (some (.long x))) (K : px_O Z g res (pc + 1) L (.long x :: S) h kc ks) : px_O Z g res pc L S h kc ks := by
  intro b hb p l e s m args below meth c D ty r0 adV r H locs ls C X Lc
  exact lv_lload_n C.1 C.2.1 hd rfl (Lc.2.2 _ _ hl) (K b hb _ _ _ _ _ _ _ _ _ _ _ _ _ _ _ _ _ C X Lc)
theorem o_lload {k : Nat} {x : Int64} (hd : decode Z.2.2.2.2.2.1 pc = .ok (.lload k, 2)) (hl : L[k]? = some (some (.long x))) (K : px_O Z g res (pc + 2) L (.long x :: S) h kc ks) : px_O Z g res pc L S h kc ks := by
  intro b hb p l e s m args below meth c D ty r0 adV r H locs ls C X Lc
  exact lv_lload C.1 C.2.1 hd (Lc.2.2 _ _ hl) (K b hb _ _ _ _ _ _ _ _ _ _ _ _ _ _ _ _ _ C X Lc)
theorem o_aload_n {k : Fin 4} {x : Nat} (hd : decode Z.2.2.2.2.2.1 pc = .ok (.aload_n k, 1)) (hl : L[(k : Nat)]? = some (some (.ref x))) (K : px_O Z g res (pc + 1) L (.ref x :: S) h kc ks) : px_O Z g res pc L S h kc ks := by
  intro b hb p l e s m args below meth c D ty r0 adV r H locs ls C X Lc
  exact lv_aload_n C.1 C.2.1 hd rfl (Lc.2.2 _ _ hl) (K b hb _ _ _ _ _ _ _ _ _ _ _ _ _ _ _ _ _ C X Lc)
theorem o_aload {k : Nat} {x : Nat} (hd : decode Z.2.2.2.2.2.1 pc = .ok (.aload k, 2)) (hl : L[k]? = some (some (.ref x))) (K : px_O Z g res (pc + 2) L (.ref x :: S) h kc ks) : px_O Z g res pc L S h kc ks := by
  intro b hb p l e s m args below meth c D ty r0 adV r H locs ls C X Lc
  exact lv_aload C.1 C.2.1 hd (Lc.2.2 _ _ hl) (K b hb _ _ _ _ _ _ _ _ _ _ _ _ _ _ _ _ _ C X Lc)
theorem o_aload_nN {k : Fin 4} (hd : decode Z.2.2.2.2.2.1 pc = .ok (.aload_n k, 1)) (hl : L[(k : Nat)]? = some (some .null)) (K : px_O Z g res (pc + 1) L (.null :: S) h kc ks) : px_O Z g res pc L S h kc ks := by
  intro b hb p l e s m args below meth c D ty r0 adV r H locs ls C X Lc
  exact lv_aload_nN C.1 C.2.1 hd rfl (Lc.2.2 _ _ hl) (K b hb _ _ _ _ _ _ _ _ _ _ _ _ _ _ _ _ _ C X Lc)
theorem o_istore_n {k : Fin 4} {x : Int32} {L' : List (Option Value)} (hd : decode Z.2.2.2.2.2.1 pc = .ok (.istore_n k, 1)) (hn : (k : Nat) < Z.2.2.2.2.2.2.1) (hw : px_nl L k = true) (hL : L.set k (some (.int x)) = L') (K : px_O Z g res (pc + 1) L' S h kc ks) : px_O Z g res pc L (.int x :: S) h kc ks := by
  intro b hb p l e s m args below meth c D ty r0 adV r H locs ls C X Lc
  subst hL
  exact lv_istore_n C.1 C.2.1 hd rfl (px_L_has Lc) hn rfl (fun ls' h' => K b hb _ _ _ _ _ _ _ _ _ _ _ _ _ _ _ _ _ C X (px_L_set1 (v := .int x) hw h'))
theorem o_istore {k : Nat} {x : Int32} {L' : List (Option Value)} (hd : decode Z.2.2.2.2.2.1 pc = .ok (.istore k, 2)) (hn : k < Z.2.2.2.2.2.2.1) (hw : px_nl L k = true) (hL : L.set k (some (.int x)) = L') (K : px_O Z g res (pc + 2) L' S h kc ks) : px_O Z g res pc L (.int x :: S) h kc ks := by
  intro b hb p l e s m args below meth c D ty r0 adV r H locs ls C X Lc
  subst hL
  exact lv_istore C.1 C.2.1 hd (px_L_has Lc) hn rfl (fun ls' h' => K b hb _ _ _ _ _ _ _ _ _ _ _ _ _ _ _ _ _ C X (px_L_set1 (v := .int x) hw h'))
theorem o_astore_n {k : Fin 4} {x : Nat} {L' : List (Option Value)} (hd : decode Z.2.2.2.2.2.1 pc = .ok (.astore_n k, 1)) (hn : (k : Nat) < Z.2.2.2.2.2.2.1) (hw : px_nl L k = true) (hL : L.set k (some (.ref x)) = L') (K : px_O Z g res (pc + 1) L' S h kc ks) : px_O Z g res pc L (.ref x :: S) h kc ks := by
  intro b hb p l e s m args below meth c D ty r0 adV r H locs ls C X Lc
  subst hL
  exact lv_astore_n C.1 C.2.1 hd rfl (px_L_has Lc) hn rfl (fun ls' h' => K b hb _ _ _ _ _ _ _ _ _ _ _ _ _ _ _ _ _ C X (px_L_set1 (v := .ref x) hw h'))
theorem o_astore {k : Nat} {x : Nat} {L' : List (Option Value)} (hd : decode Z.2.2.2.2.2.1 pc = .ok (.astore k, 2)) (hn : k < Z.2.2.2.2.2.2.1) (hw : px_nl L k = true) (hL : L.set k (some (.ref x)) = L') (K : px_O Z g res (pc + 2) L' S h kc ks) : px_O Z g res pc L (.ref x :: S) h kc ks := by
  intro b hb p l e s m args below meth c D ty r0 adV r H locs ls C X Lc
  subst hL
  exact lv_astore C.1 C.2.1 hd (px_L_has Lc) hn rfl (fun ls' h' => K b hb _ _ _ _ _ _ _ _ _ _ _ _ _ _ _ _ _ C X (px_L_set1 (v := .ref x) hw h'))
theorem o_astore_nN {k : Fin 4} {L' : List (Option Value)} (hd : decode Z.2.2.2.2.2.1 pc = .ok (.astore_n k, 1)) (hn : (k : Nat) < Z.2.2.2.2.2.2.1) (hw : px_nl L k = true) (hL : L.set k (some .null) = L') (K : px_O Z g res (pc + 1) L' S h kc ks) : px_O Z g res pc L (.null :: S) h kc ks := by
  intro b hb p l e s m args below meth c D ty r0 adV r H locs ls C X Lc
  subst hL
  exact lv_astore_nN C.1 C.2.1 hd rfl (px_L_has Lc) hn rfl (fun ls' h' => K b hb _ _ _ _ _ _ _ _ _ _ _ _ _ _ _ _ _ C X (px_L_set1 (v := .null) hw h'))
theorem o_lstore_n {k : Fin 4} {x : Int64} {L' : List (Option Value)} (hd : decode Z.2.2.2.2.2.1 pc = .ok (.lstore_n k, 1)) (hn : (k : Nat) + 1 < Z.2.2.2.2.2.2.1) (hw : px_nl L k = true) (hL : (L.set k (some (.long x))).set (k + 1) none = L') (K : px_O Z g res (pc + 1) L' S h kc ks) : px_O Z g res pc L (.long x :: S) h kc ks := by
  intro b hb p l e s m args below meth c D ty r0 adV r H locs ls C X Lc
  subst hL
  exact lv_lstore_n C.1 C.2.1 hd rfl (px_L_has Lc) hn rfl (fun ls' h' => K b hb _ _ _ _ _ _ _ _ _ _ _ _ _ _ _ _ _ C X (px_L_set2 (v := .long x) hw h'))
theorem o_lstore {k : Nat} {x : Int64} {L' : List (Option Value)} (hd : decode Z.2.2.2.2.2.1 pc = .ok (.lstore k, 2)) (hn : k + 1 < Z.2.2.2.2.2.2.1) (hw : px_nl L k = true) (hL : (L.set k (some (.long x))).set (k + 1) none = L') (K : px_O Z g res (pc + 2) L' S h kc ks) : px_O Z g res pc L (.long x :: S) h kc ks := by
  intro b hb p l e s m args below meth c D ty r0 adV r H locs ls C X Lc
  subst hL
  exact lv_lstore C.1 C.2.1 hd (px_L_has Lc) hn rfl (fun ls' h' => K b hb _ _ _ _ _ _ _ _ _ _ _ _ _ _ _ _ _ C X (px_L_set2 (v := .long x) hw h'))
theorem o_iinc {k : Nat} {n : Int} {x v : Int32} {L' : List (Option Value)} (hd : decode Z.2.2.2.2.2.1 pc = .ok (.iinc k n, 3)) (hx : L[k]? = some (some (.int x))) (hv : x + Int32.ofInt n = v) (hn : k < Z.2.2.2.2.2.2.1) (hw : px_nl L k = true) (hL : L.set k (some (.int v)) = L') (K : px_O Z g res (pc + 3) L' S h kc ks) : px_O Z g res pc L S h kc ks := by
  intro b hb p l e s m args below meth c D ty r0 adV r H locs ls C X Lc
  subst hL
  have hh : lv_has ls Z.2.2.2.2.2.2.1 ((k, .int x) :: px_ll r L) := ⟨(px_L_has Lc).1, (px_L_has Lc).2.1, fun q hq => by
    rcases List.mem_cons.mp hq with e | e
    · rw [e]; exact Lc.2.2 _ _ hx
    · exact (px_L_has Lc).2.2 q e⟩
  exact lv_iinc (lv' := (k, .int v) :: (px_ll r L).filter (fun q => !(q.1 == k) && !(q.1 + 1 == k && q.2.category == 2))) C.1 C.2.1 hd hh (k := 0) rfl hv hn (by simp) (fun ls' h' => K b hb _ _ _ _ _ _ _ _ _ _ _ _ _ _ _ _ _ C X (px_L_set1 (v := .int v) hw h'))
theorem o_iadd {x y : Int32} (hd : decode Z.2.2.2.2.2.1 pc = .ok (.iadd, 1)) (K : px_O Z g res (pc + 1) L (.int (x + y) :: S) h kc ks) : px_O Z g res pc L (.int y :: .int x :: S) h kc ks := by
  intro b hb p l e s m args below meth c D ty r0 adV r H locs ls C X Lc
  exact lv_iadd C.1 C.2.1 hd (K b hb _ _ _ _ _ _ _ _ _ _ _ _ _ _ _ _ _ C X Lc)
theorem o_isub {x y : Int32} (hd : decode Z.2.2.2.2.2.1 pc = .ok (.isub, 1)) (K : px_O Z g res (pc + 1) L (.int (x - y) :: S) h kc ks) : px_O Z g res pc L (.int y :: .int x :: S) h kc ks := by
  intro b hb p l e s m args below meth c D ty r0 adV r H locs ls C X Lc
  exact lv_isub C.1 C.2.1 hd (K b hb _ _ _ _ _ _ _ _ _ _ _ _ _ _ _ _ _ C X Lc)
theorem o_imul {x y : Int32} (hd : decode Z.2.2.2.2.2.1 pc = .ok (.imul, 1)) (K : px_O Z g res (pc + 1) L (.int (x * y) :: S) h kc ks) : px_O Z g res pc L (.int y :: .int x :: S) h kc ks := by
  intro b hb p l e s m args below meth c D ty r0 adV r H locs ls C X Lc
  exact lv_imul C.1 C.2.1 hd (K b hb _ _ _ _ _ _ _ _ _ _ _ _ _ _ _ _ _ C X Lc)
theorem o_iand {x y : Int32} (hd : decode Z.2.2.2.2.2.1 pc = .ok (.iand, 1)) (K : px_O Z g res (pc + 1) L (.int (x &&& y) :: S) h kc ks) : px_O Z g res pc L (.int y :: .int x :: S) h kc ks := by
  intro b hb p l e s m args below meth c D ty r0 adV r H locs ls C X Lc
  exact lv_iand C.1 C.2.1 hd (K b hb _ _ _ _ _ _ _ _ _ _ _ _ _ _ _ _ _ C X Lc)
theorem o_ior {x y : Int32} (hd : decode Z.2.2.2.2.2.1 pc = .ok (.ior, 1)) (K : px_O Z g res (pc + 1) L (.int (x ||| y) :: S) h kc ks) : px_O Z g res pc L (.int y :: .int x :: S) h kc ks := by
  intro b hb p l e s m args below meth c D ty r0 adV r H locs ls C X Lc
  exact lv_ior C.1 C.2.1 hd (K b hb _ _ _ _ _ _ _ _ _ _ _ _ _ _ _ _ _ C X Lc)
theorem o_ixor {x y : Int32} (hd : decode Z.2.2.2.2.2.1 pc = .ok (.ixor, 1)) (K : px_O Z g res (pc + 1) L (.int (x ^^^ y) :: S) h kc ks) : px_O Z g res pc L (.int y :: .int x :: S) h kc ks := by
  intro b hb p l e s m args below meth c D ty r0 adV r H locs ls C X Lc
  exact lv_ixor C.1 C.2.1 hd (K b hb _ _ _ _ _ _ _ _ _ _ _ _ _ _ _ _ _ C X Lc)
theorem o_ishl {x y : Int32} (hd : decode Z.2.2.2.2.2.1 pc = .ok (.ishl, 1)) (K : px_O Z g res (pc + 1) L (.int (x <<< (y &&& 31)) :: S) h kc ks) : px_O Z g res pc L (.int y :: .int x :: S) h kc ks := by
  intro b hb p l e s m args below meth c D ty r0 adV r H locs ls C X Lc
  exact lv_ishl C.1 C.2.1 hd (K b hb _ _ _ _ _ _ _ _ _ _ _ _ _ _ _ _ _ C X Lc)
theorem o_ishr {x y : Int32} (hd : decode Z.2.2.2.2.2.1 pc = .ok (.ishr, 1)) (K : px_O Z g res (pc + 1) L (.int (x >>> (y &&& 31)) :: S) h kc ks) : px_O Z g res pc L (.int y :: .int x :: S) h kc ks := by
  intro b hb p l e s m args below meth c D ty r0 adV r H locs ls C X Lc
  exact lv_ishr C.1 C.2.1 hd (K b hb _ _ _ _ _ _ _ _ _ _ _ _ _ _ _ _ _ C X Lc)
theorem o_iushr {x y : Int32} (hd : decode Z.2.2.2.2.2.1 pc = .ok (.iushr, 1)) (K : px_O Z g res (pc + 1) L (.int ((x.toUInt32 >>> (y.toUInt32 &&& Int32.toUInt32 31)).toInt32) :: S) h kc ks) : px_O Z g res pc L (.int y :: .int x :: S) h kc ks := by
  intro b hb p l e s m args below meth c D ty r0 adV r H locs ls C X Lc
  exact lv_iushr C.1 C.2.1 hd rfl (K b hb _ _ _ _ _ _ _ _ _ _ _ _ _ _ _ _ _ C X Lc)
theorem o_ineg {x : Int32} (hd : decode Z.2.2.2.2.2.1 pc = .ok (.ineg, 1)) (K : px_O Z g res (pc + 1) L (.int (-x) :: S) h kc ks) : px_O Z g res pc L (.int x :: S) h kc ks := by
  intro b hb p l e s m args below meth c D ty r0 adV r H locs ls C X Lc
  exact lv_ineg C.1 C.2.1 hd (K b hb _ _ _ _ _ _ _ _ _ _ _ _ _ _ _ _ _ C X Lc)
theorem o_ladd {x y : Int64} (hd : decode Z.2.2.2.2.2.1 pc = .ok (.ladd, 1)) (K : px_O Z g res (pc + 1) L (.long (x + y) :: S) h kc ks) : px_O Z g res pc L (.long y :: .long x :: S) h kc ks := by
  intro b hb p l e s m args below meth c D ty r0 adV r H locs ls C X Lc
  exact lv_ladd C.1 C.2.1 hd (K b hb _ _ _ _ _ _ _ _ _ _ _ _ _ _ _ _ _ C X Lc)
theorem o_lsub {x y : Int64} (hd : decode Z.2.2.2.2.2.1 pc = .ok (.lsub, 1)) (K : px_O Z g res (pc + 1) L (.long (x - y) :: S) h kc ks) : px_O Z g res pc L (.long y :: .long x :: S) h kc ks := by
  intro b hb p l e s m args below meth c D ty r0 adV r H locs ls C X Lc
  exact lv_lsub C.1 C.2.1 hd (K b hb _ _ _ _ _ _ _ _ _ _ _ _ _ _ _ _ _ C X Lc)
theorem o_lmul {x y : Int64} (hd : decode Z.2.2.2.2.2.1 pc = .ok (.lmul, 1)) (K : px_O Z g res (pc + 1) L (.long (x * y) :: S) h kc ks) : px_O Z g res pc L (.long y :: .long x :: S) h kc ks := by
  intro b hb p l e s m args below meth c D ty r0 adV r H locs ls C X Lc
  exact lv_lmul C.1 C.2.1 hd (K b hb _ _ _ _ _ _ _ _ _ _ _ _ _ _ _ _ _ C X Lc)
theorem o_lcmp {x y : Int64} (hd : decode Z.2.2.2.2.2.1 pc = .ok (.lcmp, 1)) (K : px_O Z g res (pc + 1) L (.int (lg_cmp x y) :: S) h kc ks) : px_O Z g res pc L (.long y :: .long x :: S) h kc ks := by
  intro b hb p l e s m args below meth c D ty r0 adV r H locs ls C X Lc
  exact W.lcmp C.1 C.2.1 hd (K b hb _ _ _ _ _ _ _ _ _ _ _ _ _ _ _ _ _ C X Lc)
theorem o_i2l {x : Int32} (hd : decode Z.2.2.2.2.2.1 pc = .ok (.i2l, 1)) (K : px_O Z g res (pc + 1) L (.long x.toInt64 :: S) h kc ks) : px_O Z g res pc L (.int x :: S) h kc ks := by
  intro b hb p l e s m args below meth c D ty r0 adV r H locs ls C X Lc
  exact lv_i2l C.1 C.2.1 hd rfl (K b hb _ _ _ _ _ _ _ _ _ _ _ _ _ _ _ _ _ C X Lc)
theorem o_l2i {x : Int64} (hd : decode Z.2.2.2.2.2.1 pc = .ok (.l2i, 1)) (K : px_O Z g res (pc + 1) L (.int x.toInt32 :: S) h kc ks) : px_O Z g res pc L (.long x :: S) h kc ks := by
  intro b hb p l e s m args below meth c D ty r0 adV r H locs ls C X Lc
  exact lv_l2i C.1 C.2.1 hd rfl (K b hb _ _ _ _ _ _ _ _ _ _ _ _ _ _ _ _ _ C X Lc)
theorem o_i2b {x : Int32} (hd : decode Z.2.2.2.2.2.1 pc = .ok (.i2b, 1)) (K : px_O Z g res (pc + 1) L (.int x.toInt8.toInt32 :: S) h kc ks) : px_O Z g res pc L (.int x :: S) h kc ks := by
  intro b hb p l e s m args below meth c D ty r0 adV r H locs ls C X Lc
  exact lv_i2b C.1 C.2.1 hd rfl (K b hb _ _ _ _ _ _ _ _ _ _ _ _ _ _ _ _ _ C X Lc)
theorem o_i2s {x : Int32} (hd : decode Z.2.2.2.2.2.1 pc = .ok (.i2s, 1)) (K : px_O Z g res (pc + 1) L (.int x.toInt16.toInt32 :: S) h kc ks) : px_O Z g res pc L (.int x :: S) h kc ks := by
  intro b hb p l e s m args below meth c D ty r0 adV r H locs ls C X Lc
  exact lv_i2s C.1 C.2.1 hd rfl (K b hb _ _ _ _ _ _ _ _ _ _ _ _ _ _ _ _ _ C X Lc)
theorem o_idiv {x y : Int32} (hd : decode Z.2.2.2.2.2.1 pc = .ok (.idiv, 1)) (hy : ¬ y = 0) (K : px_O Z g res (pc + 1) L (.int (x / y) :: S) h kc ks) : px_O Z g res pc L (.int y :: .int x :: S) h kc ks := by
  intro b hb p l e s m args below meth c D ty r0 adV r H locs ls C X Lc
  exact lv_idiv C.1 C.2.1 hd hy (K b hb _ _ _ _ _ _ _ _ _ _ _ _ _ _ _ _ _ C X Lc)
theorem o_irem {x y : Int32} (hd : decode Z.2.2.2.2.2.1 pc = .ok (.irem, 1)) (hy : ¬ y = 0) (K : px_O Z g res (pc + 1) L (.int (x - x / y * y) :: S) h kc ks) : px_O Z g res pc L (.int y :: .int x :: S) h kc ks := by
  intro b hb p l e s m args below meth c D ty r0 adV r H locs ls C X Lc
  exact lv_irem C.1 C.2.1 hd hy (K b hb _ _ _ _ _ _ _ _ _ _ _ _ _ _ _ _ _ C X Lc)
theorem o_ldiv {x y : Int64} (hd : decode Z.2.2.2.2.2.1 pc = .ok (.ldiv, 1)) (hy : ¬ y = 0) (K : px_O Z g res (pc + 1) L (.long (x / y) :: S) h kc ks) : px_O Z g res pc L (.long y :: .long x :: S) h kc ks := by
  intro b hb p l e s m args below meth c D ty r0 adV r H locs ls C X Lc
  exact lv_ldiv C.1 C.2.1 hd hy (K b hb _ _ _ _ _ _ _ _ _ _ _ _ _ _ _ _ _ C X Lc)
theorem o_lrem {x y : Int64} (hd : decode Z.2.2.2.2.2.1 pc = .ok (.lrem, 1)) (hy : ¬ y = 0) (K : px_O Z g res (pc + 1) L (.long (x - x / y * y) :: S) h kc ks) : px_O Z g res pc L (.long y :: .long x :: S) h kc ks := by
  intro b hb p l e s m args below meth c D ty r0 adV r H locs ls C X Lc
  exact lv_lrem C.1 C.2.1 hd hy (K b hb _ _ _ _ _ _ _ _ _ _ _ _ _ _ _ _ _ C X Lc)
theorem o_dup {v : Value} (hd : decode Z.2.2.2.2.2.1 pc = .ok (.dup, 1)) (hv : v.category = 1) (K : px_O Z g res (pc + 1) L (v :: v :: S) h kc ks) : px_O Z g res pc L (v :: S) h kc ks := by
  intro b hb p l e s m args below meth c D ty r0 adV r H locs ls C X Lc
  exact lv_dup C.1 C.2.1 hd (by rw [px_v_cat]; exact hv) (K b hb _ _ _ _ _ _ _ _ _ _ _ _ _ _ _ _ _ C X Lc)
theorem o_pop {v : Value} (hd : decode Z.2.2.2.2.2.1 pc = .ok (.pop, 1)) (hv : v.category = 1) (K : px_O Z g res (pc + 1) L S h kc ks) : px_O Z g res pc L (v :: S) h kc ks := by
  intro b hb p l e s m args below meth c D ty r0 adV r H locs ls C X Lc
  exact lv_pop C.1 C.2.1 hd (by rw [px_v_cat]; exact hv) (K b hb _ _ _ _ _ _ _ _ _ _ _ _ _ _ _ _ _ C X Lc)
theorem o_dup2 {v u : Value} (hd : decode Z.2.2.2.2.2.1 pc = .ok (.dup2, 1)) (hv : v.category = 1) (hu : u.category = 1) (K : px_O Z g res (pc + 1) L (v :: u :: v :: u :: S) h kc ks) : px_O Z g res pc L (v :: u :: S) h kc ks := by
  intro b hb p l e s m args below meth c D ty r0 adV r H locs ls C X Lc
  exact lv_dup2_11 C.1 C.2.1 hd (by rw [px_v_cat]; exact hv) (by rw [px_v_cat]; exact hu) (K b hb _ _ _ _ _ _ _ _ _ _ _ _ _ _ _ _ _ C X Lc)
theorem o_goto {off : Int} {tgt : Nat} (hd : decode Z.2.2.2.2.2.1 pc = .ok (.goto off, 3)) (ht : (pc : Int) + off = (tgt : Int)) (K : px_O Z g res tgt L S h kc ks) : px_O Z g res pc L S h kc ks := by
  intro b hb p l e s m args below meth c D ty r0 adV r H locs ls C X Lc
  exact lv_goto C.1 C.2.1 hd ht (K b hb _ _ _ _ _ _ _ _ _ _ _ _ _ _ _ _ _ C X Lc)
theorem o_ifnull {x : Nat} {off : Int} (hd : decode Z.2.2.2.2.2.1 pc = .ok (.ifnull off, 3)) (K : px_O Z g res (pc + 3) L S h kc ks) : px_O Z g res pc L (.ref x :: S) h kc ks := by
  intro b hb p l e s m args below meth c D ty r0 adV r H locs ls C X Lc
  exact lv_ifnull C.1 C.2.1 hd (K b hb _ _ _ _ _ _ _ _ _ _ _ _ _ _ _ _ _ C X Lc)
theorem o_ifnonnull {x : Nat} {off : Int} {tgt : Nat} (hd : decode Z.2.2.2.2.2.1 pc = .ok (.ifnonnull off, 3)) (ht : (pc : Int) + off = (tgt : Int)) (K : px_O Z g res tgt L S h kc ks) : px_O Z g res pc L (.ref x :: S) h kc ks := by
  intro b hb p l e s m args below meth c D ty r0 adV r H locs ls C X Lc
  exact lv_ifnonnull C.1 C.2.1 hd ht (K b hb _ _ _ _ _ _ _ _ _ _ _ _ _ _ _ _ _ C X Lc)
theorem o_ifnullN {off : Int} {tgt : Nat} (hd : decode Z.2.2.2.2.2.1 pc = .ok (.ifnull off, 3)) (ht : (pc : Int) + off = (tgt : Int)) (K : px_O Z g res tgt L S h kc ks) : px_O Z g res pc L (.null :: S) h kc ks := by
  intro b hb p l e s m args below meth c D ty r0 adV r H locs ls C X Lc
  exact lv_ifnullN C.1 C.2.1 hd ht (K b hb _ _ _ _ _ _ _ _ _ _ _ _ _ _ _ _ _ C X Lc)
theorem o_ifnonnullN {off : Int} (hd : decode Z.2.2.2.2.2.1 pc = .ok (.ifnonnull off, 3)) (K : px_O Z g res (pc + 3) L S h kc ks) : px_O Z g res pc L (.null :: S) h kc ks := by
  intro b hb p l e s m args below meth c D ty r0 adV r H locs ls C X Lc
  exact lv_ifnonnullN C.1 C.2.1 hd (K b hb _ _ _ _ _ _ _ _ _ _ _ _ _ _ _ _ _ C X Lc)
theorem o_ifeq {x : Int32} {off : Int} {tgt : Nat} (hd : decode Z.2.2.2.2.2.1 pc = .ok (.ifCond .eq off, 3)) (ht : (pc : Int) + off = (tgt : Int)) (KA : x = 0 → px_O Z g A tgt L S h kc ks) (KB : ¬ x = 0 → px_O Z g B (pc + 3) L S h kc ks) : px_O Z g (if x = 0 then A else B) pc L (.int x :: S) h kc ks := by
  intro b hb p l e s m args below meth c D ty r0 adV r H locs ls C X Lc
  refine lv_if_eq C.1 C.2.1 hd ht (fun q => ?_) (fun q => ?_)
  · have q1 : (x = 0) := q
    exact KA q1 b (by rw [if_pos q1] at hb; exact hb) _ _ _ _ _ _ _ _ _ _ _ _ _ _ _ _ _ C X Lc
  · have q1 : ¬ (x = 0) := q
    exact KB q1 b (by rw [if_neg q1] at hb; exact hb) _ _ _ _ _ _ _ _ _ _ _ _ _ _ _ _ _ C X Lc
theorem o_ifeq_t {x : Int32} {off : Int} {tgt : Nat} (hd : decode Z.2.2.2.2.2.1 pc = .ok (.ifCond .eq off, 3)) (ht : (pc : Int) + off = (tgt : Int)) (hq : (x = 0)) (K : px_O Z g res tgt L S h kc ks) : px_O Z g res pc L (.int x :: S) h kc ks := by
  intro b hb p l e s m args below meth c D ty r0 adV r H locs ls C X Lc
  refine lv_if_eq C.1 C.2.1 hd ht (fun q => K b hb _ _ _ _ _ _ _ _ _ _ _ _ _ _ _ _ _ C X Lc) (fun q => absurd hq ?_)
  exact ((q))
theorem o_ifeq_f {x : Int32} {off : Int} {tgt : Nat} (hd : decode Z.2.2.2.2.2.1 pc = .ok (.ifCond .eq off, 3)) (ht : (pc : Int) + off = (tgt : Int)) (hq : ¬ (x = 0)) (K : px_O Z g res (pc + 3) L S h kc ks) : px_O Z g res pc L (.int x :: S) h kc ks := by
  intro b hb p l e s m args below meth c D ty r0 adV r H locs ls C X Lc
  refine lv_if_eq C.1 C.2.1 hd ht (fun q => absurd hq ?_) (fun q => K b hb _ _ _ _ _ _ _ _ _ _ _ _ _ _ _ _ _ C X Lc)
  exact (fun z => z (q))
theorem o_ifne {x : Int32} {off : Int} {tgt : Nat} (hd : decode Z.2.2.2.2.2.1 pc = .ok (.ifCond .ne off, 3)) (ht : (pc : Int) + off = (tgt : Int)) (KA : ¬ x = 0 → px_O Z g A tgt L S h kc ks) (KB : x = 0 → px_O Z g B (pc + 3) L S h kc ks) : px_O Z g (if x = 0 then B else A) pc L (.int x :: S) h kc ks := by
  intro b hb p l e s m args below meth c D ty r0 adV r H locs ls C X Lc
  refine lv_if_ne C.1 C.2.1 hd ht (fun q => ?_) (fun q => ?_)
  · have q1 : ¬ (x = 0) := q
    exact KA q1 b (by rw [if_neg q1] at hb; exact hb) _ _ _ _ _ _ _ _ _ _ _ _ _ _ _ _ _ C X Lc
  · have q1 : (x = 0) := q
    exact KB q1 b (by rw [if_pos q1] at hb; exact hb) _ _ _ _ _ _ _ _ _ _ _ _ _ _ _ _ _ C X Lc
theorem o_ifne_t {x : Int32} {off : Int} {tgt : Nat} (hd : decode Z.2.2.2.2.2.1 pc = .ok (.ifCond .ne off, 3)) (ht : (pc : Int) + off = (tgt : Int)) (hq : ¬ (x = 0)) (K : px_O Z g res tgt L S h kc ks) : px_O Z g res pc L (.int x :: S) h kc ks := by
  intro b hb p l e s m args below meth c D ty r0 adV r H locs ls C X Lc
  refine lv_if_ne C.1 C.2.1 hd ht (fun q => K b hb _ _ _ _ _ _ _ _ _ _ _ _ _ _ _ _ _ C X Lc) (fun q => absurd hq ?_)
  exact (fun z => z (q))
theorem o_ifne_f {x : Int32} {off : Int} {tgt : Nat} (hd : decode Z.2.2.2.2.2.1 pc = .ok (.ifCond .ne off, 3)) (ht : (pc : Int) + off = (tgt : Int)) (hq : (x = 0)) (K : px_O Z g res (pc + 3) L S h kc ks) : px_O Z g res pc L (.int x :: S) h kc ks := by
  intro b hb p l e s m args below meth c D ty r0 adV r H locs ls C X Lc
  refine lv_if_ne C.1 C.2.1 hd ht (fun q => absurd hq ?_) (fun q => K b hb _ _ _ _ _ _ _ _ _ _ _ _ _ _ _ _ _ C X Lc)
  exact ((q))
theorem o_iflt {x : Int32} {off : Int} {tgt : Nat} (hd : decode Z.2.2.2.2.2.1 pc = .ok (.ifCond .lt off, 3)) (ht : (pc : Int) + off = (tgt : Int)) (KA : x < 0 → px_O Z g A tgt L S h kc ks) (KB : ¬ x < 0 → px_O Z g B (pc + 3) L S h kc ks) : px_O Z g (if x < 0 then A else B) pc L (.int x :: S) h kc ks := by
  intro b hb p l e s m args below meth c D ty r0 adV r H locs ls C X Lc
  refine lv_if_lt C.1 C.2.1 hd ht (fun q => ?_) (fun q => ?_)
  · have q1 : (x < 0) := q
    exact KA q1 b (by rw [if_pos q1] at hb; exact hb) _ _ _ _ _ _ _ _ _ _ _ _ _ _ _ _ _ C X Lc
  · have q1 : ¬ (x < 0) := q
    exact KB q1 b (by rw [if_neg q1] at hb; exact hb) _ _ _ _ _ _ _ _ _ _ _ _ _ _ _ _ _ C X Lc
theorem o_iflt_t {x : Int32} {off : Int} {tgt : Nat} (hd : decode Z.2.2.2.2.2.1 pc = .ok (.ifCond .lt off, 3)) (ht : (pc : Int) + off = (tgt : Int)) (hq : (x < 0)) (K : px_O Z g res tgt L S h kc ks) : px_O Z g res pc L (.int x :: S) h kc ks := by
  intro b hb p l e s m args below meth c D ty r0 adV r H locs ls C X Lc
  refine lv_if_lt C.1 C.2.1 hd ht (fun q => K b hb _ _ _ _ _ _ _ _ _ _ _ _ _ _ _ _ _ C X Lc) (fun q => absurd hq ?_)
  exact ((q))
theorem o_iflt_f {x : Int32} {off : Int} {tgt : Nat} (hd : decode Z.2.2.2.2.2.1 pc = .ok (.ifCond .lt off, 3)) (ht : (pc : Int) + off = (tgt : Int)) (hq : ¬ (x < 0)) (K : px_O Z g res (pc + 3) L S h kc ks) : px_O Z g res pc L (.int x :: S) h kc ks := by
  intro b hb p l e s m args below meth c D ty r0 adV r H locs ls C X Lc
  refine lv_if_lt C.1 C.2.1 hd ht (fun q => absurd hq ?_) (fun q => K b hb _ _ _ _ _ _ _ _ _ _ _ _ _ _ _ _ _ C X Lc)
  exact (fun z => z (q))
theorem o_ifge {x : Int32} {off : Int} {tgt : Nat} (hd : decode Z.2.2.2.2.2.1 pc = .ok (.ifCond .ge off, 3)) (ht : (pc : Int) + off = (tgt : Int)) (KA : ¬ x < 0 → px_O Z g A tgt L S h kc ks) (KB : x < 0 → px_O Z g B (pc + 3) L S h kc ks) : px_O Z g (if x < 0 then B else A) pc L (.int x :: S) h kc ks := by
  intro b hb p l e s m args below meth c D ty r0 adV r H locs ls C X Lc
  refine lv_if_ge C.1 C.2.1 hd ht (fun q => ?_) (fun q => ?_)
  · have q1 : ¬ (x < 0) := Int32.not_lt.mpr q
    exact KA q1 b (by rw [if_neg q1] at hb; exact hb) _ _ _ _ _ _ _ _ _ _ _ _ _ _ _ _ _ C X Lc
  · have q1 : (x < 0) := Int32.not_le.mp q
    exact KB q1 b (by rw [if_pos q1] at hb; exact hb) _ _ _ _ _ _ _ _ _ _ _ _ _ _ _ _ _ C X Lc
theorem o_ifge_t {x : Int32} {off : Int} {tgt : Nat} (hd : decode Z.2.2.2.2.2.1 pc = .ok (.ifCond .ge off, 3)) (ht : (pc : Int) + off = (tgt : Int)) (hq : ¬ (x < 0)) (K : px_O Z g res tgt L S h kc ks) : px_O Z g res pc L (.int x :: S) h kc ks := by
  intro b hb p l e s m args below meth c D ty r0 adV r H locs ls C X Lc
  refine lv_if_ge C.1 C.2.1 hd ht (fun q => K b hb _ _ _ _ _ _ _ _ _ _ _ _ _ _ _ _ _ C X Lc) (fun q => absurd hq ?_)
  exact (fun z => z (Int32.not_le.mp q))
theorem o_ifge_f {x : Int32} {off : Int} {tgt : Nat} (hd : decode Z.2.2.2.2.2.1 pc = .ok (.ifCond .ge off, 3)) (ht : (pc : Int) + off = (tgt : Int)) (hq : (x < 0)) (K : px_O Z g res (pc + 3) L S h kc ks) : px_O Z g res pc L (.int x :: S) h kc ks := by
  intro b hb p l e s m args below meth c D ty r0 adV r H locs ls C X Lc
  refine lv_if_ge C.1 C.2.1 hd ht (fun q => absurd hq ?_) (fun q => K b hb _ _ _ _ _ _ _ _ _ _ _ _ _ _ _ _ _ C X Lc)
  exact ((Int32.not_lt.mpr q))
theorem o_ifgt {x : Int32} {off : Int} {tgt : Nat} (hd : decode Z.2.2.2.2.2.1 pc = .ok (.ifCond .gt off, 3)) (ht : (pc : Int) + off = (tgt : Int)) (KA : 0 < x → px_O Z g A tgt L S h kc ks) (KB : ¬ 0 < x → px_O Z g B (pc + 3) L S h kc ks) : px_O Z g (if 0 < x then A else B) pc L (.int x :: S) h kc ks := by
  intro b hb p l e s m args below meth c D ty r0 adV r H locs ls C X Lc
  refine lv_if_gt C.1 C.2.1 hd ht (fun q => ?_) (fun q => ?_)
  · have q1 : (0 < x) := q
    exact KA q1 b (by rw [if_pos q1] at hb; exact hb) _ _ _ _ _ _ _ _ _ _ _ _ _ _ _ _ _ C X Lc
  · have q1 : ¬ (0 < x) := q
    exact KB q1 b (by rw [if_neg q1] at hb; exact hb) _ _ _ _ _ _ _ _ _ _ _ _ _ _ _ _ _ C X Lc
theorem o_ifgt_t {x : Int32} {off : Int} {tgt : Nat} (hd : decode Z.2.2.2.2.2.1 pc = .ok (.ifCond .gt off, 3)) (ht : (pc : Int) + off = (tgt : Int)) (hq : (0 < x)) (K : px_O Z g res tgt L S h kc ks) : px_O Z g res pc L (.int x :: S) h kc ks := by
  intro b hb p l e s m args below meth c D ty r0 adV r H locs ls C X Lc
  refine lv_if_gt C.1 C.2.1 hd ht (fun q => K b hb _ _ _ _ _ _ _ _ _ _ _ _ _ _ _ _ _ C X Lc) (fun q => absurd hq ?_)
  exact ((q))
theorem o_ifgt_f {x : Int32} {off : Int} {tgt : Nat} (hd : decode Z.2.2.2.2.2.1 pc = .ok (.ifCond .gt off, 3)) (ht : (pc : Int) + off = (tgt : Int)) (hq : ¬ (0 < x)) (K : px_O Z g res (pc + 3) L S h kc ks) : px_O Z g res pc L (.int x :: S) h kc ks := by
  intro b hb p l e s m args below meth c D ty r0 adV r H locs ls C X Lc
  refine lv_if_gt C.1 C.2.1 hd ht (fun q => absurd hq ?_) (fun q => K b hb _ _ _ _ _ _ _ _ _ _ _ _ _ _ _ _ _ C X Lc)
  exact (fun z => z (q))
theorem o_ifle {x : Int32} {off : Int} {tgt : Nat} (hd : decode Z.2.2.2.2.2.1 pc = .ok (.ifCond .le off, 3)) (ht : (pc : Int) + off = (tgt : Int)) (KA : ¬ 0 < x → px_O Z g A tgt L S h kc ks) (KB : 0 < x → px_O Z g B (pc + 3) L S h kc ks) : px_O Z g (if 0 < x then B else A) pc L (.int x :: S) h kc ks := by
  intro b hb p l e s m args below meth c D ty r0 adV r H locs ls C X Lc
  refine lv_if_le C.1 C.2.1 hd ht (fun q => ?_) (fun q => ?_)
  · have q1 : ¬ (0 < x) := Int32.not_lt.mpr q
    exact KA q1 b (by rw [if_neg q1] at hb; exact hb) _ _ _ _ _ _ _ _ _ _ _ _ _ _ _ _ _ C X Lc
  · have q1 : (0 < x) := Int32.not_le.mp q
    exact KB q1 b (by rw [if_pos q1] at hb; exact hb) _ _ _ _ _ _ _ _ _ _ _ _ _ _ _ _ _ C X Lc
theorem o_ifle_t {x : Int32} {off : Int} {tgt : Nat} (hd : decode Z.2.2.2.2.2.1 pc = .ok (.ifCond .le off, 3)) (ht : (pc : Int) + off = (tgt : Int)) (hq : ¬ (0 < x)) (K : px_O Z g res tgt L S h kc ks) : px_O Z g res pc L (.int x :: S) h kc ks := by
  intro b hb p l e s m args below meth c D ty r0 adV r H locs ls C X Lc
  refine lv_if_le C.1 C.2.1 hd ht (fun q => K b hb _ _ _ _ _ _ _ _ _ _ _ _ _ _ _ _ _ C X Lc) (fun q => absurd hq ?_)
  exact (fun z => z (Int32.not_le.mp q))
theorem o_ifle_f {x : Int32} {off : Int} {tgt : Nat} (hd : decode Z.2.2.2.2.2.1 pc = .ok (.ifCond .le off, 3)) (ht : (pc : Int) + off = (tgt : Int)) (hq : (0 < x)) (K : px_O Z g res (pc + 3) L S h kc ks) : px_O Z g res pc L (.int x :: S) h kc ks := by
  intro b hb p l e s m args below meth c D ty r0 adV r H locs ls C X Lc
  refine lv_if_le C.1 C.2.1 hd ht (fun q => absurd hq ?_) (fun q => K b hb _ _ _ _ _ _ _ _ _ _ _ _ _ _ _ _ _ C X Lc)
  exact ((Int32.not_lt.mpr q))
theorem o_icmpeq {x y : Int32} {off : Int} {tgt : Nat} (hd : decode Z.2.2.2.2.2.1 pc = .ok (.if_icmp .eq off, 3)) (ht : (pc : Int) + off = (tgt : Int)) (KA : x = y → px_O Z g A tgt L S h kc ks) (KB : ¬ x = y → px_O Z g B (pc + 3) L S h kc ks) : px_O Z g (if x = y then A else B) pc L (.int y :: .int x :: S) h kc ks := by
  intro b hb p l e s m args below meth c D ty r0 adV r H locs ls C X Lc
  refine lv_icmp_eq C.1 C.2.1 hd ht (fun q => ?_) (fun q => ?_)
  · have q1 : (x = y) := q
    exact KA q1 b (by rw [if_pos q1] at hb; exact hb) _ _ _ _ _ _ _ _ _ _ _ _ _ _ _ _ _ C X Lc
  · have q1 : ¬ (x = y) := q
    exact KB q1 b (by rw [if_neg q1] at hb; exact hb) _ _ _ _ _ _ _ _ _ _ _ _ _ _ _ _ _ C X Lc
theorem o_icmpeq_t {x y : Int32} {off : Int} {tgt : Nat} (hd : decode Z.2.2.2.2.2.1 pc = .ok (.if_icmp .eq off, 3)) (ht : (pc : Int) + off = (tgt : Int)) (hq : (x = y)) (K : px_O Z g res tgt L S h kc ks) : px_O Z g res pc L (.int y :: .int x :: S) h kc ks := by
  intro b hb p l e s m args below meth c D ty r0 adV r H locs ls C X Lc
  refine lv_icmp_eq C.1 C.2.1 hd ht (fun q => K b hb _ _ _ _ _ _ _ _ _ _ _ _ _ _ _ _ _ C X Lc) (fun q => absurd hq ?_)
  exact ((q))
theorem o_icmpeq_f {x y : Int32} {off : Int} {tgt : Nat} (hd : decode Z.2.2.2.2.2.1 pc = .ok (.if_icmp .eq off, 3)) (ht : (pc : Int) + off = (tgt : Int)) (hq : ¬ (x = y)) (K : px_O Z g res (pc + 3) L S h kc ks) : px_O Z g res pc L (.int y :: .int x :: S) h kc ks := by
  intro b hb p l e s m args below meth c D ty r0 adV r H locs ls C X Lc
  refine lv_icmp_eq C.1 C.2.1 hd ht (fun q => absurd hq ?_) (fun q => K b hb _ _ _ _ _ _ _ _ _ _ _ _ _ _ _ _ _ C X Lc)
  exact (fun z => z (q))
theorem o_icmpne {x y : Int32} {off : Int} {tgt : Nat} (hd : decode Z.2.2.2.2.2.1 pc = .ok (.if_icmp .ne off, 3)) (ht : (pc : Int) + off = (tgt : Int)) (KA : ¬ x = y → px_O Z g A tgt L S h kc ks) (KB : x = y → px_O Z g B (pc + 3) L S h kc ks) : px_O Z g (if x = y then B else A) pc L (.int y :: .int x :: S) h kc ks := by
  intro b hb p l e s m args below meth c D ty r0 adV r H locs ls C X Lc
  refine lv_icmp_ne C.1 C.2.1 hd ht (fun q => ?_) (fun q => ?_)
  · have q1 : ¬ (x = y) := q
    exact KA q1 b (by rw [if_neg q1] at hb; exact hb) _ _ _ _ _ _ _ _ _ _ _ _ _ _ _ _ _ C X Lc
  · have q1 : (x = y) := q
    exact KB q1 b (by rw [if_pos q1] at hb; exact hb) _ _ _ _ _ _ _ _ _ _ _ _ _ _ _ _ _ C X Lc
theorem o_icmpne_t {x y : Int32} {off : Int} {tgt : Nat} (hd : decode Z.2.2.2.2.2.1 pc = .ok (.if_icmp .ne off, 3)) (ht : (pc : Int) + off = (tgt : Int)) (hq : ¬ (x = y)) (K : px_O Z g res tgt L S h kc ks) : px_O Z g res pc L (.int y :: .int x :: S) h kc ks := by
  intro b hb p l e s m args below meth c D ty r0 adV r H locs ls C X Lc
  refine lv_icmp_ne C.1 C.2.1 hd ht (fun q => K b hb _ _ _ _ _ _ _ _ _ _ _ _ _ _ _ _ _ C X Lc) (fun q => absurd hq ?_)
  exact (fun z => z (q))
theorem o_icmpne_f {x y : Int32} {off : Int} {tgt : Nat} (hd : decode Z.2.2.2.2.2.1 pc = .ok (.if_icmp .ne off, 3)) (ht : (pc : Int) + off = (tgt : Int)) (hq : (x = y)) (K : px_O Z g res (pc + 3) L S h kc ks) : px_O Z g res pc L (.int y :: .int x :: S) h kc ks := by
  intro b hb p l e s m args below meth c D ty r0 adV r H locs ls C X Lc
  refine lv_icmp_ne C.1 C.2.1 hd ht (fun q => absurd hq ?_) (fun q => K b hb _ _ _ _ _ _ _ _ _ _ _ _ _ _ _ _ _ C X Lc)
  exact ((q))
theorem o_icmplt {x y : Int32} {off : Int} {tgt : Nat} (hd : decode Z.2.2.2.2.2.1 pc = .ok (.if_icmp .lt off, 3)) (ht : (pc : Int) + off = (tgt : Int)) (KA : x < y → px_O Z g A tgt L S h kc ks) (KB : ¬ x < y → px_O Z g B (pc + 3) L S h kc ks) : px_O Z g (if x < y then A else B) pc L (.int y :: .int x :: S) h kc ks := by
  intro b hb p l e s m args below meth c D ty r0 adV r H locs ls C X Lc
  refine lv_icmp_lt C.1 C.2.1 hd ht (fun q => ?_) (fun q => ?_)
  · have q1 : (x < y) := q
    exact KA q1 b (by rw [if_pos q1] at hb; exact hb) _ _ _ _ _ _ _ _ _ _ _ _ _ _ _ _ _ C X Lc
  · have q1 : ¬ (x < y) := q
    exact KB q1 b (by rw [if_neg q1] at hb; exact hb) _ _ _ _ _ _ _ _ _ _ _ _ _ _ _ _ _ C X Lc
theorem o_icmplt_t {x y : Int32} {off : Int} {tgt : Nat} (hd : decode Z.2.2.2.2.2.1 pc = .ok (.if_icmp .lt off, 3)) (ht : (pc : Int) + off = (tgt : Int)) (hq : (x < y)) (K : px_O Z g res tgt L S h kc ks) : px_O Z g res pc L (.int y :: .int x :: S) h kc ks := by
  intro b hb p l e s m args below meth c D ty r0 adV r H locs ls C X Lc
  refine lv_icmp_lt C.1 C.2.1 hd ht (fun q => K b hb _ _ _ _ _ _ _ _ _ _ _ _ _ _ _ _ _ C X Lc) (fun q => absurd hq ?_)
  exact ((q))
theorem o_icmplt_f {x y : Int32} {off : Int} {tgt : Nat} (hd : decode Z.2.2.2.2.2.1 pc = .ok (.if_icmp .lt off, 3)) (ht : (pc : Int) + off = (tgt : Int)) (hq : ¬ (x < y)) (K : px_O Z g res (pc + 3) L S h kc ks) : px_O Z g res pc L (.int y :: .int x :: S) h kc ks := by
  intro b hb p l e s m args below meth c D ty r0 adV r H locs ls C X Lc
  refine lv_icmp_lt C.1 C.2.1 hd ht (fun q => absurd hq ?_) (fun q => K b hb _ _ _ _ _ _ _ _ _ _ _ _ _ _ _ _ _ C X Lc)
  exact (fun z => z (q))
theorem o_icmpge {x y : Int32} {off : Int} {tgt : Nat} (hd : decode Z.2.2.2.2.2.1 pc = .ok (.if_icmp .ge off, 3)) (ht : (pc : Int) + off = (tgt : Int)) (KA : ¬ x < y → px_O Z g A tgt L S h kc ks) (KB : x < y → px_O Z g B (pc + 3) L S h kc ks) : px_O Z g (if x < y then B else A) pc L (.int y :: .int x :: S) h kc ks := by
  intro b hb p l e s m args below meth c D ty r0 adV r H locs ls C X Lc
  refine lv_icmp_ge C.1 C.2.1 hd ht (fun q => ?_) (fun q => ?_)
  · have q1 : ¬ (x < y) := Int32.not_lt.mpr q
    exact KA q1 b (by rw [if_neg q1] at hb; exact hb) _ _ _ _ _ _ _ _ _ _ _ _ _ _ _ _ _ C X Lc
  · have q1 : (x < y) := Int32.not_le.mp q
    exact KB q1 b (by rw [if_pos q1] at hb; exact hb) _ _ _ _ _ _ _ _ _ _ _ _ _ _ _ _ _ C X Lc
theorem o_icmpge_t {x y : Int32} {off : Int} {tgt : Nat} (hd : decode Z.2.2.2.2.2.1 pc = .ok (.if_icmp .ge off, 3)) (ht : (pc : Int) + off = (tgt : Int)) (hq : ¬ (x < y)) (K : px_O Z g res tgt L S h kc ks) : px_O Z g res pc L (.int y :: .int x :: S) h kc ks := by
  intro b hb p l e s m args below meth c D ty r0 adV r H locs ls C X Lc
  refine lv_icmp_ge C.1 C.2.1 hd ht (fun q => K b hb _ _ _ _ _ _ _ _ _ _ _ _ _ _ _ _ _ C X Lc) (fun q => absurd hq ?_)
  exact (fun z => z (Int32.not_le.mp q))
theorem o_icmpge_f {x y : Int32} {off : Int} {tgt : Nat} (hd : decode Z.2.2.2.2.2.1 pc = .ok (.if_icmp .ge off, 3)) (ht : (pc : Int) + off = (tgt : Int)) (hq : (x < y)) (K : px_O Z g res (pc + 3) L S h kc ks) : px_O Z g res pc L (.int y :: .int x :: S) h kc ks := by
  intro b hb p l e s m args below meth c D ty r0 adV r H locs ls C X Lc
  refine lv_icmp_ge C.1 C.2.1 hd ht (fun q => absurd hq ?_) (fun q => K b hb _ _ _ _ _ _ _ _ _ _ _ _ _ _ _ _ _ C X Lc)
  exact ((Int32.not_lt.mpr q))
theorem o_icmpgt {x y : Int32} {off : Int} {tgt : Nat} (hd : decode Z.2.2.2.2.2.1 pc = .ok (.if_icmp .gt off, 3)) (ht : (pc : Int) + off = (tgt : Int)) (KA : y < x → px_O Z g A tgt L S h kc ks) (KB : ¬ y < x → px_O Z g B (pc + 3) L S h kc ks) : px_O Z g (if y < x then A else B) pc L (.int y :: .int x :: S) h kc ks := by
  intro b hb p l e s m args below meth c D ty r0 adV r H locs ls C X Lc
  refine lv_icmp_gt C.1 C.2.1 hd ht (fun q => ?_) (fun q => ?_)
  · have q1 : (y < x) := q
    exact KA q1 b (by rw [if_pos q1] at hb; exact hb) _ _ _ _ _ _ _ _ _ _ _ _ _ _ _ _ _ C X Lc
  · have q1 : ¬ (y < x) := q
    exact KB q1 b (by rw [if_neg q1] at hb; exact hb) _ _ _ _ _ _ _ _ _ _ _ _ _ _ _ _ _ C X Lc
theorem o_icmpgt_t {x y : Int32} {off : Int} {tgt : Nat} (hd : decode Z.2.2.2.2.2.1 pc = .ok (.if_icmp .gt off, 3)) (ht : (pc : Int) + off = (tgt : Int)) (hq : (y < x)) (K : px_O Z g res tgt L S h kc ks) : px_O Z g res pc L (.int y :: .int x :: S) h kc ks := by
  intro b hb p l e s m args below meth c D ty r0 adV r H locs ls C X Lc
  refine lv_icmp_gt C.1 C.2.1 hd ht (fun q => K b hb _ _ _ _ _ _ _ _ _ _ _ _ _ _ _ _ _ C X Lc) (fun q => absurd hq ?_)
  exact ((q))
theorem o_icmpgt_f {x y : Int32} {off : Int} {tgt : Nat} (hd : decode Z.2.2.2.2.2.1 pc = .ok (.if_icmp .gt off, 3)) (ht : (pc : Int) + off = (tgt : Int)) (hq : ¬ (y < x)) (K : px_O Z g res (pc + 3) L S h kc ks) : px_O Z g res pc L (.int y :: .int x :: S) h kc ks := by
  intro b hb p l e s m args below meth c D ty r0 adV r H locs ls C X Lc
  refine lv_icmp_gt C.1 C.2.1 hd ht (fun q => absurd hq ?_) (fun q => K b hb _ _ _ _ _ _ _ _ _ _ _ _ _ _ _ _ _ C X Lc)
  exact (fun z => z (q))
theorem o_icmple {x y : Int32} {off : Int} {tgt : Nat} (hd : decode Z.2.2.2.2.2.1 pc = .ok (.if_icmp .le off, 3)) (ht : (pc : Int) + off = (tgt : Int)) (KA : ¬ y < x → px_O Z g A tgt L S h kc ks) (KB : y < x → px_O Z g B (pc + 3) L S h kc ks) : px_O Z g (if y < x then B else A) pc L (.int y :: .int x :: S) h kc ks := by
  intro b hb p l e s m args below meth c D ty r0 adV r H locs ls C X Lc
  refine lv_icmp_le C.1 C.2.1 hd ht (fun q => ?_) (fun q => ?_)
  · have q1 : ¬ (y < x) := Int32.not_lt.mpr q
    exact KA q1 b (by rw [if_neg q1] at hb; exact hb) _ _ _ _ _ _ _ _ _ _ _ _ _ _ _ _ _ C X Lc
  · have q1 : (y < x) := Int32.not_le.mp q
    exact KB q1 b (by rw [if_pos q1] at hb; exact hb) _ _ _ _ _ _ _ _ _ _ _ _ _ _ _ _ _ C X Lc
theorem o_icmple_t {x y : Int32} {off : Int} {tgt : Nat} (hd : decode Z.2.2.2.2.2.1 pc = .ok (.if_icmp .le off, 3)) (ht : (pc : Int) + off = (tgt : Int)) (hq : ¬ (y < x)) (K : px_O Z g res tgt L S h kc ks) : px_O Z g res pc L (.int y :: .int x :: S) h kc ks := by
  intro b hb p l e s m args below meth c D ty r0 adV r H locs ls C X Lc
  refine lv_icmp_le C.1 C.2.1 hd ht (fun q => K b hb _ _ _ _ _ _ _ _ _ _ _ _ _ _ _ _ _ C X Lc) (fun q => absurd hq ?_)
  exact (fun z => z (Int32.not_le.mp q))
theorem o_icmple_f {x y : Int32} {off : Int} {tgt : Nat} (hd : decode Z.2.2.2.2.2.1 pc = .ok (.if_icmp .le off, 3)) (ht : (pc : Int) + off = (tgt : Int)) (hq : (y < x)) (K : px_O Z g res (pc + 3) L S h kc ks) : px_O Z g res pc L (.int y :: .int x :: S) h kc ks := by
  intro b hb p l e s m args below meth c D ty r0 adV r H locs ls C X Lc
  refine lv_icmp_le C.1 C.2.1 hd ht (fun q => absurd hq ?_) (fun q => K b hb _ _ _ _ _ _ _ _ _ _ _ _ _ _ _ _ _ C X Lc)
  exact ((Int32.not_lt.mpr q))
theorem o_tabOut {dflt lo hi : Int} {offs : Array Int} {len : Nat} {x : Int32} {tgt : Nat} (hd : decode Z.2.2.2.2.2.1 pc = .ok (.tableswitch dflt lo hi offs, len)) (hq : x.toInt < lo ∨ hi < x.toInt) (ht : (pc : Int) + dflt = (tgt : Int)) (K : px_O Z g res tgt L S h kc ks) : px_O Z g res pc L (.int x :: S) h kc ks := by
  intro b hb p l e s m args below meth c D ty r0 adV r H locs ls C X Lc
  exact lv_tableOut C.1 C.2.1 hd hq ht (K b hb _ _ _ _ _ _ _ _ _ _ _ _ _ _ _ _ _ C X Lc)
theorem o_tabIn {dflt lo hi : Int} {offs : Array Int} {len : Nat} {x : Int32} {off : Int} {tgt : Nat} (hd : decode Z.2.2.2.2.2.1 pc = .ok (.tableswitch dflt lo hi offs, len)) (h1 : ¬ x.toInt < lo) (h2 : ¬ hi < x.toInt) (ho : offs[(x.toInt - lo).toNat]? = some off) (ht : (pc : Int) + off = (tgt : Int)) (K : px_O Z g res tgt L S h kc ks) : px_O Z g res pc L (.int x :: S) h kc ks := by
  intro b hb p l e s m args below meth c D ty r0 adV r H locs ls C X Lc
  exact lv_tableIn C.1 C.2.1 hd h1 h2 ho ht (K b hb _ _ _ _ _ _ _ _ _ _ _ _ _ _ _ _ _ C X Lc)
theorem px_out {x : Int32} (lo : Int) (n : Nat) (hlo : -2147483648 ≤ lo) (hn : lo + n ≤ 2147483648) (hx : ∀ k : Nat, k < n → x ≠ Int32.ofInt (lo + k)) : x.toInt < lo ∨ lo + n - 1 < x.toInt := by
  by_cases h1 : x.toInt < lo
  · exact Or.inl h1
  · by_cases h2 : lo + n - 1 < x.toInt
    · exact Or.inr h2
    · refine absurd ?_ (hx (x.toInt - lo).toNat (by omega))
      have e : lo + ((x.toInt - lo).toNat : Int) = x.toInt := by omega
      rw [e]
      exact (Int32.ofInt_toInt x).symm
end PXO
/-- what is known of the picture's classes -/
theorem px_cls : ∀ (ci : Nat) (q : vw_C), vwCl[ci]? = some q → (∀ w ∈ u_ws q.1 q.2.1 q.2.2, w ∈ px_T) ∧ (∃ ty0 : Nat → FieldType, ∀ k, k < q.2.2 → parseFieldDescriptor (q.2.1 k).2.2.1 = some (ty0 k)) ∧ (∀ a, a < q.2.2 → ∀ b, b < q.2.2 → a ≠ b → (q.2.1 a).2.1 ≠ (q.2.1 b).2.1) := by
  intro ci q hq
  match ci, hq with
  | 0, hq => cases hq; exact ⟨px_in0, ⟨tyX0, tyX0_ok⟩, nmX0⟩
  | 1, hq => cases hq; exact ⟨px_in1, ⟨tyX1, tyX1_ok⟩, nmX1⟩
  | 2, hq => cases hq; exact ⟨px_in2, ⟨tyX2, tyX2_ok⟩, nmX2⟩
  | 3, hq => cases hq; exact ⟨px_in3, ⟨tyX3, tyX3_ok⟩, nmX3⟩
  | 4, hq => cases hq; exact ⟨px_in4, ⟨tyX4, tyX4_ok⟩, nmX4⟩
  | 5, hq => cases hq; exact ⟨px_in5, ⟨tyX5, tyX5_ok⟩, nmX5⟩
  | 6, hq => cases hq; exact ⟨px_in6, ⟨tyX6, tyX6_ok⟩, nmX6⟩
  | k + 7, hq => simp at hq
def px_FL (own : String) (idx : Nat) (q : vw_C) (k : Nat) : Prop := Cond.fieldLink own idx (q.2.1 k).1 (q.2.1 k).2.1 (q.2.1 k).2.2.1 ∈ px_T
section PXO
variable {β : Type} {Z : px_Z} {g : β → Option Value × List px_C} {res A B : Option β} {pc : Nat} {L : List (Option Value)} {S : List Value} {h : List px_C} {kc ks : Nat}
variable {a ci k idx : Nat} {fs : List Value} {q : vw_C}
theorem o_get {v : Value} (hd : decode Z.2.2.2.2.2.1 pc = .ok (.getfield idx, 3)) (hq : vwCl[ci]? = some q) (hl : px_FL Z.2.2.2.2.1.cls idx q k) (hk : k < q.2.2) (hc : h[a]? = some (.inl (ci, fs))) (hv : fs[k]? = some v) (K : px_O Z g res (pc + 3) L (v :: S) h kc ks) : px_O Z g res pc L (.ref a :: S) h kc ks := by
  intro b hb p l e s m args below meth c D ty r0 adV r H locs ls C X Lc
  obtain ⟨x1, x2, x3, x4, x5, x6⟩ := id X
  exact va_get (C := q.1) (T := q.2.1) (N := q.2.2) (ci := ci) C.1 C.2.1 C.2.2.2.2.2.1 (fun w hw => List.mem_cons_of_mem _ ((px_cls ci q hq).1 w hw)) C.2.2.2.2.1 x2 x4 a (px_w_get hc) hq k hk (C.2.2.2.2.2.1 _ (List.mem_cons_of_mem _ hl)) (fun _ z => z) (v := px_v r v) (by rw [List.getElem?_map, hv]; rfl) hd (K b hb _ _ _ _ _ _ _ _ _ _ _ _ _ _ _ _ _ C X Lc)
theorem o_put {v : Value} {ty0 : FieldType} {h' : List px_C} (hd : decode Z.2.2.2.2.2.1 pc = .ok (.putfield idx, 3)) (hq : vwCl[ci]? = some q) (hl : px_FL Z.2.2.2.2.1.cls idx q k) (hk : k < q.2.2) (hfin : (q.2.1 k).2.2.2 = false) (hty : parseFieldDescriptor (q.2.1 k).2.2.1 = some ty0) (hn : ∀ r, narrow ty0 (px_v r v) = px_v r v) (hf : ∀ r, fits ty0 (px_v r v) = true) (hc : h[a]? = some (.inl (ci, fs))) (hlen : k < fs.length) (hh : h.set a (.inl (ci, fs.set k v)) = h') (K : px_O Z g res (pc + 3) L S h' kc ks) : px_O Z g res pc L (v :: .ref a :: S) h kc ks := by
  intro b hb p l e s m args below meth c D ty r0 adV r H locs ls C X Lc
  obtain ⟨x1, x2, x3, x4, x5, x6⟩ := id X
  obtain ⟨c1, ⟨tyf, c2⟩, c3⟩ := px_cls ci q hq
  subst hh
  have es : (px_w r ty h).set a (r a, .inr (ci, (fs.map (px_v r)).set k (px_v r v))) = px_w r ty (h.set a (.inl (ci, fs.set k v))) := by
    rw [← px_w_set]
    simp only [px_c, List.map_set]
  refine va_put (C := q.1) (T := q.2.1) (N := q.2.2) (ci := ci) C.1 C.2.1 C.2.2.2.2.2.1 (fun w hw => List.mem_cons_of_mem _ (c1 w hw)) tyf c2 c3 C.2.2.2.2.1 x2 x4 x5 x6 a (px_w_get hc) hq k hk (C.2.2.2.2.2.1 _ (List.mem_cons_of_mem _ hl)) (fun _ z => z) hfin hty (hn r) (hf r) (by rw [List.length_map]; exact hlen) hd (fun H1 locs1 y1 y2 y3 => ?_)
  rw [es] at y1 y2
  exact K b hb _ _ _ _ _ _ _ _ _ _ _ _ _ _ _ _ _ C ⟨⟨fun k hk => x1.1 k (by rw [List.length_set] at hk; exact hk), by rw [List.length_set]; exact x1.2⟩, x2, x3, y1, y2, y3⟩ Lc
theorem o_putF {v : Value} {ty0 : FieldType} {h' : List px_C} (hd : decode Z.2.2.2.2.2.1 pc = .ok (.putfield idx, 3)) (hq : vwCl[ci]? = some q) (hl : px_FL Z.2.2.2.2.1.cls idx q k) (hk : k < q.2.2) (hfin : (q.2.1 k).2.2.2 = true) (hini : Z.2.2.2.2.1.name = "<init>") (hdecl : (q.2.1 k).1 = Z.2.2.2.2.1.cls) (hty : parseFieldDescriptor (q.2.1 k).2.2.1 = some ty0) (hn : ∀ r, narrow ty0 (px_v r v) = px_v r v) (hf : ∀ r, fits ty0 (px_v r v) = true) (hc : h[a]? = some (.inl (ci, fs))) (hlen : k < fs.length) (hh : h.set a (.inl (ci, fs.set k v)) = h') (K : px_O Z g res (pc + 3) L S h' kc ks) : px_O Z g res pc L (v :: .ref a :: S) h kc ks := by
  intro b hb p l e s m args below meth c D ty r0 adV r H locs ls C X Lc
  obtain ⟨x1, x2, x3, x4, x5, x6⟩ := id X
  obtain ⟨c1, ⟨tyf, c2⟩, c3⟩ := px_cls ci q hq
  subst hh
  have es : (px_w r ty h).set a (r a, .inr (ci, (fs.map (px_v r)).set k (px_v r v))) = px_w r ty (h.set a (.inl (ci, fs.set k v))) := by
    rw [← px_w_set]
    simp only [px_c, List.map_set]
  refine va_putF (C := q.1) (T := q.2.1) (N := q.2.2) (ci := ci) C.1 C.2.1 C.2.2.2.2.2.1 (fun w hw => List.mem_cons_of_mem _ (c1 w hw)) tyf c2 c3 C.2.2.2.2.1 x2 x4 x5 x6 a (px_w_get hc) hq k hk (C.2.2.2.2.2.1 _ (List.mem_cons_of_mem _ hl)) (fun _ z => z) hfin (C.2.2.2.2.2.2.2.trans hini) hdecl hty (hn r) (hf r) (by rw [List.length_map]; exact hlen) hd (fun H1 locs1 y1 y2 y3 => ?_)
  rw [es] at y1 y2
  exact K b hb _ _ _ _ _ _ _ _ _ _ _ _ _ _ _ _ _ C ⟨⟨fun k hk => x1.1 k (by rw [List.length_set] at hk; exact hk), by rw [List.length_set]; exact x1.2⟩, x2, x3, y1, y2, y3⟩ Lc
theorem px_wd_set {D : va_G} {ty : Nat → ClassId} {r0 adV r : Nat → Nat} {n0 : Nat} {s : State} {h : List px_C} {H H1 : Heap} {locs locs1 : List Loc} {a : Nat} {c : px_C} (X : px_wd D ty r0 adV r n0 s h H locs) (y1 : va_P D vwCl ((px_w r ty h).set a (r a, px_c r ty c)) H1) (y2 : va_D (px_A r0 n0 s.heap.size) ((px_w r ty h).set a (r a, px_c r ty c))) (y3 : va_S (px_A r0 n0 s.heap.size) s.heap H1 locs1) : px_wd D ty r0 adV r n0 s (h.set a c) H1 locs1 := by
  obtain ⟨x1, x2, x3, x4, x5, x6⟩ := X
  rw [px_w_set] at y1 y2
  exact ⟨⟨fun k hk => x1.1 k (by rw [List.length_set] at hk; exact hk), by rw [List.length_set]; exact x1.2⟩, x2, x3, y1, y2, y3⟩
theorem o_iald {n : Nat} {f : Nat → Int32} {i : Int32} (hd : decode Z.2.2.2.2.2.1 pc = .ok (.iaload, 1)) (hc : h[a]? = some (.inr (.inl (0, n, f)))) (hi : vp_in i n) (K : px_O Z g res (pc + 1) L (.int (f i.toNatClampNeg) :: S) h kc ks) : px_O Z g res pc L (.int i :: .ref a :: S) h kc ks := by
  intro b hb p l e s m args below meth c D ty r0 adV r H locs ls C X Lc
  exact va_iald C.1 C.2.1 X.2.1 X.2.2.2.1 a 0 (px_w_get hc) rfl hi hd (K b hb _ _ _ _ _ _ _ _ _ _ _ _ _ _ _ _ _ C X Lc)
theorem o_iast {n : Nat} {f : Nat → Int32} {i x : Int32} {h' : List px_C} (hd : decode Z.2.2.2.2.2.1 pc = .ok (.iastore, 1)) (hc : h[a]? = some (.inr (.inl (0, n, f)))) (hi : vp_in i n) (hh : h.set a (.inr (.inl (0, n, upd f i.toNatClampNeg x))) = h') (K : px_O Z g res (pc + 1) L S h' kc ks) : px_O Z g res pc L (.int x :: .int i :: .ref a :: S) h kc ks := by
  intro b hb p l e s m args below meth c D ty r0 adV r H locs ls C X Lc
  subst hh
  exact va_iast C.1 C.2.1 X.2.1 X.2.2.2.1 X.2.2.2.2.1 X.2.2.2.2.2 a 0 (px_w_get hc) rfl hi hd (fun H1 locs1 y1 y2 y3 => K b hb _ _ _ _ _ _ _ _ _ _ _ _ _ _ _ _ _ C (px_wd_set (c := .inr (.inl (0, n, upd f i.toNatClampNeg x))) X y1 y2 y3) Lc)
theorem o_zald {n : Nat} {f : Nat → Int32} {i : Int32} (hd : decode Z.2.2.2.2.2.1 pc = .ok (.baload, 1)) (hc : h[a]? = some (.inr (.inl (1, n, f)))) (hi : vp_in i n) (K : px_O Z g res (pc + 1) L (.int (f i.toNatClampNeg) :: S) h kc ks) : px_O Z g res pc L (.int i :: .ref a :: S) h kc ks := by
  intro b hb p l e s m args below meth c D ty r0 adV r H locs ls C X Lc
  exact va_zald C.1 C.2.1 X.2.1 X.2.2.2.1 a 1 (px_w_get hc) rfl hi hd (K b hb _ _ _ _ _ _ _ _ _ _ _ _ _ _ _ _ _ C X Lc)
theorem o_zast {n : Nat} {f : Nat → Int32} {i x : Int32} {h' : List px_C} (hd : decode Z.2.2.2.2.2.1 pc = .ok (.bastore, 1)) (hc : h[a]? = some (.inr (.inl (1, n, f)))) (hi : vp_in i n) (hh : h.set a (.inr (.inl (1, n, upd f i.toNatClampNeg (vp_nar .boolean x)))) = h') (K : px_O Z g res (pc + 1) L S h' kc ks) : px_O Z g res pc L (.int x :: .int i :: .ref a :: S) h kc ks := by
  intro b hb p l e s m args below meth c D ty r0 adV r H locs ls C X Lc
  subst hh
  exact va_zast C.1 C.2.1 X.2.1 X.2.2.2.1 X.2.2.2.2.1 X.2.2.2.2.2 a 1 (px_w_get hc) rfl hi hd (fun H1 locs1 y1 y2 y3 => K b hb _ _ _ _ _ _ _ _ _ _ _ _ _ _ _ _ _ C (px_wd_set (c := .inr (.inl (1, n, upd f i.toNatClampNeg (vp_nar .boolean x)))) X y1 y2 y3) Lc)
theorem o_alen {n t : Nat} {f : Nat → Int32} {v : Int32} (ht : t = 0 ∨ t = 1) (hd : decode Z.2.2.2.2.2.1 pc = .ok (.arraylength, 1)) (hc : h[a]? = some (.inr (.inl (t, n, f)))) (hv : Int32.ofNat n = v) (K : px_O Z g res (pc + 1) L (.int v :: S) h kc ks) : px_O Z g res pc L (.ref a :: S) h kc ks := by
  intro b hb p l e s m args below meth c D ty r0 adV r H locs ls C X Lc
  rcases ht with rfl | rfl
  · exact va_alen C.1 C.2.1 X.2.1 X.2.2.2.1 a 0 (px_w_get hc) (ty := .int) rfl hv hd (K b hb _ _ _ _ _ _ _ _ _ _ _ _ _ _ _ _ _ C X Lc)
  · exact va_alen C.1 C.2.1 X.2.1 X.2.2.2.1 a 1 (px_w_get hc) (ty := .boolean) rfl hv hd (K b hb _ _ _ _ _ _ _ _ _ _ _ _ _ _ _ _ _ C X Lc)
theorem px_rf_map (r : Nat → Nat) (o : Option Nat) : va_rf (o.map r) = px_v r (va_rf o) := by cases o <;> rfl
theorem o_aald {n t : Nat} {f : Nat → Option Nat} {i : Int32} {v : Value} (ht : t = 2 ∨ t = 3) (hd : decode Z.2.2.2.2.2.1 pc = .ok (.aaload, 1)) (hc : h[a]? = some (.inr (.inr (t, n, f)))) (hi : vp_in i n) (hv : va_rf (f i.toNatClampNeg) = v) (K : px_O Z g res (pc + 1) L (v :: S) h kc ks) : px_O Z g res pc L (.int i :: .ref a :: S) h kc ks := by
  intro b hb p l e s m args below meth c D ty r0 adV r H locs ls C X Lc
  subst hv
  have K2 := K b hb p l e s m args below meth c D ty r0 adV r H locs ls C X Lc
  rcases ht with rfl | rfl
  · exact va_aldq (C := "ThreeOfThem$Text") C.1 C.2.1 X.2.1 X.2.2.2.1 a 2 (px_w_get hc) rfl hi hd (by rw [px_rf_map]; exact K2)
  · exact va_aldq (C := "ThreeOfThem$Sheet") C.1 C.2.1 X.2.1 X.2.2.2.1 a 3 (px_w_get hc) rfl hi hd (by rw [px_rf_map]; exact K2)
theorem px_up_map (r : Nat → Nat) (f : Nat → Option Nat) (i v : Nat) : va_up (fun j => (f j).map r) i (some (r v)) = fun j => (va_up f i (some v) j).map r := by
  funext j
  by_cases hj : j = i
  · subst hj; simp [va_up]
  · simp [va_up, hj]
theorem o_aast {n t v : Nat} {f : Nat → Option Nat} {i : Int32} {h' : List px_C} (ht : (t = 2 ∧ ci = 4) ∨ (t = 3 ∧ ci = 3)) (hd : decode Z.2.2.2.2.2.1 pc = .ok (.aastore, 1)) (hc : h[a]? = some (.inr (.inr (t, n, f)))) (hv : h[v]? = some (.inl (ci, fs))) (hi : vp_in i n) (hh : h.set a (.inr (.inr (t, n, va_up f i.toNatClampNeg (some v)))) = h') (K : px_O Z g res (pc + 1) L S h' kc ks) : px_O Z g res pc L (.ref v :: .int i :: .ref a :: S) h kc ks := by
  intro b hb p l e s m args below meth c D ty r0 adV r H locs ls C X Lc
  subst hh
  rcases ht with ⟨rfl, rfl⟩ | ⟨rfl, rfl⟩
  · exact va_astq (r := (RX4, TX4, 3)) C.1 C.2.1 X.2.1 X.2.2.2.1 X.2.2.2.2.1 X.2.2.2.2.2 a 2 v 4 (px_w_get hc) rfl (px_w_get hv) rfl hi hd (fun H1 locs1 y1 y2 y3 => K b hb _ _ _ _ _ _ _ _ _ _ _ _ _ _ _ _ _ C (px_wd_set (c := .inr (.inr (2, n, va_up f i.toNatClampNeg (some v)))) X (by rw [px_up_map] at y1; exact y1) (by rw [px_up_map] at y2; exact y2) y3) Lc)
  · exact va_astq (r := (RX3, TX3, 3)) C.1 C.2.1 X.2.1 X.2.2.2.1 X.2.2.2.2.1 X.2.2.2.2.2 a 3 v 3 (px_w_get hc) rfl (px_w_get hv) rfl hi hd (fun H1 locs1 y1 y2 y3 => K b hb _ _ _ _ _ _ _ _ _ _ _ _ _ _ _ _ _ C (px_wd_set (c := .inr (.inr (3, n, va_up f i.toNatClampNeg (some v)))) X (by rw [px_up_map] at y1; exact y1) (by rw [px_up_map] at y2; exact y2) y3) Lc)
end PXO
end
section
/-- the end of a method -/
theorem px_end {D : va_G} {ty : Nat → ClassId} {r0 adV r : Nat → Nat} {n0 : Nat} {s t : State} {h : List px_C} {H : Heap} {locs : List Loc} {args : Array Value} {rv : Option Value} (X : px_wd D ty r0 adV r n0 s h H locs) (ht : t.heap = H) (hW : s.WarmedH t.vm) : px_Q D ty r0 n0 rv h s.heap.size args s (.returned (rv.map (px_v r))) t := by
  obtain ⟨x1, x2, x3, x4, x5, x6⟩ := X
  exact ⟨⟨r, x1.1, x1.2, rfl, by rw [ht]; exact x4, va_K.moved hW.alike x2, x5⟩, x6.F ht⟩
section PXR
variable {β : Type} {Z : px_Z} {g : β → Option Value × List px_C} {res A B : Option β} {pc : Nat} {L : List (Option Value)} {S S1 : List Value} {h : List px_C} {kc ks : Nat}
theorem o_iret {v : Int32} {rt : FieldType} (hr : Z.2.2.2.2.2.2.2 = some rt) (hn : narrow rt (.int v) = .int v) {b : β} (hd : decode Z.2.2.2.2.2.1 pc = .ok (.ireturn, 1)) (hg : g b = (some (.int v), h)) (hkc : kc ≤ Z.2.1) (hks : ks ≤ Z.2.2.1) : px_O Z g (some b) pc L [.int v] h kc ks := by
  intro b' hb p l e s m args below meth c D ty r0 adV r H locs ls C X Lc
  cases hb
  rw [hg]
  refine W.widen hkc hks ?_
  exact W.zret (v := v) C.1 C.2.1 (C.2.2.1.trans hr) hn (fun t ht hW => px_end X ht hW) X.2.2.2.2.2.2.2 hd C.2.2.2.2.2.2.1
theorem o_lret {v : Int64} (hr : Z.2.2.2.2.2.2.2 = some .long) {b : β} (hd : decode Z.2.2.2.2.2.1 pc = .ok (.lreturn, 1)) (hg : g b = (some (.long v), h)) (hkc : kc ≤ Z.2.1) (hks : ks ≤ Z.2.2.1) : px_O Z g (some b) pc L [.long v] h kc ks := by
  intro b' hb p l e s m args below meth c D ty r0 adV r H locs ls C X Lc
  cases hb
  rw [hg]
  refine W.widen hkc hks ?_
  exact W.lret (v := v) C.1 C.2.1 (C.2.2.1.trans hr) (fun t ht hW => px_end X ht hW) X.2.2.2.2.2.2.2 hd C.2.2.2.2.2.2.1
theorem o_vret (hr : Z.2.2.2.2.2.2.2 = none) {b : β} (hd : decode Z.2.2.2.2.2.1 pc = .ok (.return_, 1)) (hg : g b = (none, h)) (hkc : kc ≤ Z.2.1) (hks : ks ≤ Z.2.2.1) : px_O Z g (some b) pc L [] h kc ks := by
  intro b' hb p l e s m args below meth c D ty r0 adV r H locs ls C X Lc
  cases hb
  rw [hg]
  refine W.widen hkc hks ?_
  exact W.vret C.1 C.2.1 (C.2.2.1.trans hr) (fun t ht hW => px_end X ht hW) X.2.2.2.2.2.2.2 hd C.2.2.2.2.2.2.1
theorem o_aret {v : Nat} {rt : FieldType} (hr : Z.2.2.2.2.2.2.2 = some rt) (hrt : (∃ n, rt = .object n) ∨ ∃ t, rt = .array t) {b : β} (hd : decode Z.2.2.2.2.2.1 pc = .ok (.areturn, 1)) (hg : g b = (some (.ref v), h)) (hkc : kc ≤ Z.2.1) (hks : ks ≤ Z.2.2.1) : px_O Z g (some b) pc L [.ref v] h kc ks := by
  intro b' hb p l e s m args below meth c D ty r0 adV r H locs ls C X Lc
  cases hb
  rw [hg]
  refine W.widen hkc hks ?_
  exact W.aret (v := .ref (r v)) C.1 C.2.1 (C.2.2.1.trans hr) hrt (Or.inr ⟨_, rfl⟩) (fun t ht hW => px_end X ht hW) X.2.2.2.2.2.2.2 hd C.2.2.2.2.2.2.1
theorem o_aretN {rt : FieldType} (hr : Z.2.2.2.2.2.2.2 = some rt) (hrt : (∃ n, rt = .object n) ∨ ∃ t, rt = .array t) {b : β} (hd : decode Z.2.2.2.2.2.1 pc = .ok (.areturn, 1)) (hg : g b = (some .null, h)) (hkc : kc ≤ Z.2.1) (hks : ks ≤ Z.2.2.1) : px_O Z g (some b) pc L [.null] h kc ks := by
  intro b' hb p l e s m args below meth c D ty r0 adV r H locs ls C X Lc
  cases hb
  rw [hg]
  refine W.widen hkc hks ?_
  exact W.aret (v := .null) C.1 C.2.1 (C.2.2.1.trans hr) hrt (Or.inl rfl) (fun t ht hW => px_end X ht hW) X.2.2.2.2.2.2.2 hd C.2.2.2.2.2.2.1
end PXR
/-- the locals at the entry -/
def px_ex : List Value → List (Option Value)
  | [] => []
  | v :: vs => if v.category = 2 then some v :: none :: px_ex vs else some v :: px_ex vs
theorem px_ex_len (r : Nat → Nat) (as : List Value) : (lg_sl (as.map (px_v r))).length = (px_ex as).length := by
  induction as with
  | nil => rfl
  | cons v vs ih =>
    have e : lg_sl ((v :: vs).map (px_v r)) = (if (px_v r v).category = 2 then [Slot.val (px_v r v), .second] else [.val (px_v r v)]) ++ lg_sl (vs.map (px_v r)) := by simp [lg_sl]
    rw [e, List.length_append, ih, px_ex, px_v_cat]
    by_cases hc : v.category = 2
    · simp [hc]; omega
    · simp [hc]; omega
theorem px_ex_mem (r : Nat → Nat) (as : List Value) : ∀ (o i : Nat) (v : Value), (px_ex as)[i]? = some (some v) → (o + i, px_v r v) ∈ lv_args o (as.map (px_v r)) := by
  induction as with
  | nil => intro o i v hv; simp [px_ex] at hv
  | cons u vs ih =>
    intro o i v hv
    rw [px_ex] at hv
    simp only [List.map_cons, lv_args, px_v_cat]
    by_cases hc : u.category = 2
    · rw [if_pos hc] at hv ⊢
      match i, hv with
      | 0, hv => simp at hv; subst hv; exact List.mem_cons_self
      | 1, hv => simp at hv
      | j + 2, hv =>
        have h1 := ih (o + 2) j v (by simpa using hv)
        rw [show o + (j + 2) = o + 2 + j by omega]
        exact List.mem_cons_of_mem _ h1
    · rw [if_neg hc] at hv ⊢
      match i, hv with
      | 0, hv => simp at hv; subst hv; exact List.mem_cons_self
      | j + 1, hv =>
        have h1 := ih (o + 1) j v (by simpa using hv)
        rw [show o + (j + 1) = o + 1 + j by omega]
        exact List.mem_cons_of_mem _ h1
theorem px_L_entry (r : Nat → Nat) (as : List Value) {n : Nat} (hn : (px_ex as).length ≤ n) : px_L r ((lg_sl (as.map (px_v r)) ++ List.replicate (n - (lg_sl (as.map (px_v r))).length) Slot.unset).toArray) n (px_ex as ++ List.replicate (n - (px_ex as).length) none) := by
  have hl := lv_entry (as.map (px_v r)) (n := n) (by rw [px_ex_len]; exact hn)
  refine ⟨hl.1, hl.2.1, fun i v hv => ?_⟩
  by_cases hi : i < (px_ex as).length
  · rw [List.getElem?_append_left hi] at hv
    have h1 := px_ex_mem r as 0 i v hv
    rw [Nat.zero_add] at h1
    exact hl.2.2 _ h1
  · rw [List.getElem?_append_right (by omega), List.getElem?_replicate] at hv
    split at hv <;> cases hv
def px_MF (M : px_M) (n : Nat) : Prop := Cond.code M.1 M.2.1 M.2.2.1 M.2.2.2 ∈ px_T ∧ Cond.initialized M.1.cls ∈ px_T ∧ (M.1.cls ≠ "java/lang/invoke/MethodHandle" ∧ M.1.cls ≠ "java/lang/invoke/VarHandle" ∧ (parseMethodDescriptor M.1.desc).map (fun d => d.parameters.length) = some n) ∧ M.2.2.1 ≤ 50 ∧ plainName M.1.cls = true
theorem px_goodT {w : Cond} (h : w ∈ px_T) (M : px_M) : w ∈ px_ws M ∧ ((w.onTables && w.keeps) = true ∨ ∃ ty, w = .arrayClass ty) := ⟨List.mem_cons_of_mem _ h, (px_T_good h).2⟩
theorem px_good {M M' : px_M} {n : Nat} (hm : px_MF M' n) : GoodIn (px_ws M) (px_ws M') := fun w hw => by
  rcases List.mem_cons.mp hw with e | e
  · subst e; exact px_goodT hm.1 M
  · exact px_goodT e M
/-- THE ENTRY: a contract out of the body -/
theorem px_Kof {β : Type} {g : β → Option Value × List px_C} {f : Option β} {b : β} {d mc ms n : Nat} {M : px_M} {as : List Value} {h : List px_C} {L : List (Option Value)} (hf : f = some b) (hm : px_MF M n) (hn : (px_ex as).length ≤ M.2.2.1) (hL : px_ex as ++ List.replicate (M.2.2.1 - (px_ex as).length) none = L) (K : px_O (d, mc, ms, h.length, M) g f 0 L [] h 0 0) : px_K d mc ms M as h (g b).1 (g b).2 := by
  intro l D ty r adV sz
  refine Met.ofW (cc := M.2.1) (maxL := M.2.2.1) (ret := M.2.2.2) hm.2.2.2.2 rfl ?_
  intro p e s m args below meth c s₁ B hml hv
  obtain ⟨hargs, ⟨hsz, hle⟩, hP, hK, hD, hE⟩ := hv
  subst hargs; subst hL; subst hsz
  have hts := atoms_spec (ws := px_ws M) B.pre
  have hown : s.vm.findClass M.1.cls = some m.cls := findClass_of_methodNamed B.named
  rw [lg_entry_eq]
  have hD2 : va_D (px_A r h.length s.heap.size) (px_w r ty h) := by rw [← px_A_eq r ty]; exact hD.self
  exact K b hf p l e s m _ below meth c D ty r adV r s.heap [] _ ⟨B.exec, B.bytes, B.returns, hml, hown, hts, B.notSynchronized, (name_of_methodNamed B.named B.method).1⟩ ⟨⟨fun k _ => rfl, Nat.le_refl _, hle⟩, hK, hE, hP, hD2, va_S.rf⟩ (px_L_entry r as hn)
/-- old places: what a call that makes cells doesn't move -/
def px_ov (n n' : Nat) (v : Value) : Prop := ∀ k, v = .ref k → k < n ∨ n' ≤ k
theorem px_ov_v {r r' : Nat → Nat} {n n' : Nat} {v : Value} (hr : ∀ k, k < n ∨ n' ≤ k → r' k = r k) (h : px_ov n n' v) : px_v r' v = px_v r v := by
  cases v with
  | ref k => simp only [px_v, hr k (h k rfl)]
  | _ => rfl
theorem px_ov_S {r r' : Nat → Nat} {n n' : Nat} {S : List Value} (hr : ∀ k, k < n ∨ n' ≤ k → r' k = r k) (h : ∀ v ∈ S, px_ov n n' v) : S.map (px_v r') = S.map (px_v r) := List.map_congr_left (fun v hv => px_ov_v hr (h v hv))
theorem px_ov_L {r r' : Nat → Nat} {n n' nL : Nat} {L : List (Option Value)} {ls : Array Slot} (hr : ∀ k, k < n ∨ n' ≤ k → r' k = r k) (h : ∀ v, some v ∈ L → px_ov n n' v) (hl : px_L r ls nL L) : px_L r' ls nL L :=
  ⟨hl.1, hl.2.1, fun i v hv => by rw [px_ov_v hr (h v (List.mem_of_getElem? hv))]; exact hl.2.2 i v hv⟩
theorem px_ov_same (n : Nat) (v : Value) : px_ov n n v := fun k _ => Nat.lt_or_ge k n
/-- BEHIND A CALL -/
theorem px_after {p : Program} {l : Launch} {e : Env} {R : Room} {s : State} {m : MethodId} {args : Array Value} {below : List Frame} {meth : Method} {c : Code} {H : Heap} {locs : List Loc} {cells slots mc ms : Nat} {Q : State → Prop} {pc : Nat} {ls : Array Slot} {rest st0 : List Value} {a : Array Value} {D : va_G} {ty : Nat → ClassId} {r0 adV r : Nat → Nat} {n0 : Nat} {h h' : List px_C} {rv : Option Value}
    (hr : va_Run p l e R s m args below meth c H locs cells slots mc ms (F0 m pc ls st0) rest (px_Q D ty r h.length rv h' H.size a) (px_A r h.length H.size)) (X : px_wd D ty r0 adV r n0 s h H locs)
    (kk : ∀ (r' : Nat → Nat) (H1 : Heap) (locs1 : List Loc), (∀ k, k < h.length ∨ h'.length ≤ k → r' k = r k) → px_wd D ty r0 adV r' n0 s h' H1 locs1 → W p l e R s m args below meth c H1 locs1 (cells + mc) (slots + ms) Q (F0 m (pc + 3) ls ((rv.map (px_v r')).toList ++ rest))) : W p l e R s m args below meth c H locs cells slots Q (F0 m pc ls st0) := by
  intro T hT XX
  obtain ⟨v, st₀, t, T', L, h0, X', hL, e1, e2, ⟨⟨r', q1, q2, hv, q3, q4, q5⟩, hz, hk⟩, st⟩ := hr T hT XX
  cases hv
  rw [h0] at hz hk
  obtain ⟨x1, x2, x3, x4, x5, x6⟩ := X
  have hA : ∀ q, px_A r h.length H.size q → px_A r0 n0 s.heap.size q := by
    rintro q (⟨k, hk1, rfl⟩ | hq)
    · exact x5.2 k _ (px_w_get (List.getElem?_eq_getElem hk1))
    · exact Or.inr (Nat.le_trans x6.1 hq)
  obtain ⟨t2, a1, b1⟩ := kk r' T'.heap (locs ++ L) q1 ⟨⟨fun k hk2 => by
      rcases hk2 with h2 | h2
      · rw [q1 k (Or.inl (Nat.lt_of_lt_of_le h2 x1.2.1))]; exact x1.1 k (Or.inl h2)
      · rw [q1 k (Or.inr h2)]; exact x1.1 k (Or.inr (Nat.le_trans q2.1 h2)), Nat.le_trans x1.2.1 q2.1, q2.2⟩, x2, x3, by rw [e1]; exact q3, q5.weaken (fun k q _ hq => hA _ hq),
    ⟨Nat.le_trans x6.1 (by rw [e1]; exact hz), fun q h1 h2 => by rw [e1, hk q (Nat.lt_of_lt_of_le h1 x6.1) (fun z => h2 (hA q z))]; exact x6.2.1 q h1 h2, fun q hq => by
      rcases List.mem_append.mp hq with h | h
      · exact x6.2.2 q h
      · exact hA _ (hL q h)⟩⟩ T' rfl X'
  exact ⟨t2, st t2 a1, b1⟩
theorem px_pre {D : va_G} {ty : Nat → ClassId} {r0 adV r : Nat → Nat} {n0 : Nat} {s : State} {h : List px_C} {H : Heap} {locs : List Loc} {as : List Value} (X : px_wd D ty r0 adV r n0 s h H locs): ∀ U : State, U.heap = H → s.WarmedH U.vm → px_P D ty r adV as h H.size (as.map (px_v r)).toArray U := by
  intro U hU hW
  obtain ⟨x1, x2, x3, x4, x5, x6⟩ := X
  refine ⟨rfl, ⟨by rw [hU], x1.2.2⟩, by rw [hU]; exact x4, va_K.moved hW.alike x2, x5.weaken (fun _ _ _ _ => trivial), ?_⟩
  rw [hU]
  have hA : ∀ q, px_A r h.length H.size q → px_A r0 n0 s.heap.size q := by
    rintro q (⟨k, hk1, rfl⟩ | hq)
    · exact x5.2 k _ (px_w_get (List.getElem?_eq_getElem hk1))
    · exact Or.inr (Nat.le_trans x6.1 hq)
  exact px_E.warm hW (((x3.kept (fun a ha hna => x6.2.1 a ha hna)).narrow hA).places (fun k hk => x1.1 k (Or.inr (Nat.le_trans x1.2.2 hk))))
theorem px_room {d d' mc ms mc' ms' n : Nat} (hd : d' + 1 ≤ d) (hn : n ≤ 50) : (px_rm d' mc' ms').frames + 1 ≤ (px_rm d mc ms).frames ∧ 8 + (n + 11) + (px_rm d' mc' ms').locals ≤ (px_rm d mc ms).locals := by
  refine ⟨hd, ?_⟩
  show 8 + (n + 11) + 80 * d' ≤ 80 * d
  omega
section PXK
variable {β : Type} {Z : px_Z} {g : β → Option Value × List px_C} {res A B : Option β} {pc : Nat} {L : List (Option Value)} {S S1 : List Value} {h : List px_C} {kc ks : Nat}
variable {M' : px_M} {n d' mc' ms' idx : Nat} {as : List Value} {rv : Option Value} {h' : List px_C}
theorem o_callS (hd : decode Z.2.2.2.2.2.1 pc = .ok (.invokestatic idx, 3)) (hm : px_MF M' n) (hl : Cond.methodLink Z.2.2.2.2.1.cls idx M'.1 ∈ px_T) (hst : Cond.static M'.1 ∈ px_T) (hn : as.length = n) (hK : px_K d' mc' ms' M' as h rv h') (hdd : d' + 1 ≤ Z.1) (hS : S = as.reverse ++ S1) (hw : (S1.map fun v => v.category).sum ≤ 8) (hf : kc + mc' ≤ Z.2.1 ∧ ks + ms' ≤ Z.2.2.1) (oL : ∀ v, some v ∈ L → px_ov h.length h'.length v) (oS : ∀ v ∈ S1, px_ov h.length h'.length v) (K : px_O Z g res (pc + 3) L (rv.toList ++ S1) h' (kc + mc') (ks + ms')) : px_O Z g res pc L S h kc ks := by
  intro b hb p l e s m args below meth c D ty r0 adV r H locs ls C X Lc
  subst hS
  have hts := C.2.2.2.2.2.1
  have rest : ((S1.map (px_v r)).map fun v => v.category).sum ≤ 8 := by
    rw [List.map_map]
    have e : ((fun v => v.category) ∘ px_v r) = fun v : Value => v.category := funext fun v => px_v_cat r v
    rw [e]; exact hw
  refine px_after (h' := h') (rv := rv) (rest := S1.map (px_v r)) (va_runS (As := as.map (px_v r)) ⟨C.1, C.2.1, C.2.2.2.1, C.2.2.2.2.1, hts⟩ (hK l D ty r adV H.size) (va_cwS n hts (fun w hw => by
    rcases List.mem_append.mp hw with e | e
    · rcases List.mem_cons.mp e with e | e
      · subst e; exact px_goodT hl _
      · rcases List.mem_cons.mp e with e | e
        · subst e; exact px_goodT hst _
        · rw [List.mem_singleton] at e; subst e; exact px_goodT hm.2.1 _
    · exact px_good hm w e) rfl rfl rfl hm.2.2.1 (px_room hdd hm.2.2.2.1)) ⟨px_P_blind D ty r adV as h H.size, px_pre X⟩ rfl (by rw [List.length_map]; exact hn) Lc.1 (by simp [px_v_ref]) (lv_room rest) hd hf) X (fun r' H1 locs1 hr X' => ?_)
  have e2 : (rv.map (px_v r')).toList ++ S1.map (px_v r) = (rv.toList ++ S1).map (px_v r') := by
    rw [List.map_append, px_ov_S hr oS]
    cases rv <;> rfl
  rw [e2]
  exact K b hb _ _ _ _ _ _ _ _ _ _ _ _ _ _ _ _ _ C X' (px_ov_L hr oL Lc)
theorem o_callSN (hd : decode Z.2.2.2.2.2.1 pc = .ok (.invokestatic idx, 3)) (hm : px_MF M' n) {host : String} (hl : Cond.methodLinkNest Z.2.2.2.2.1.cls idx M'.1 host ∈ px_Nt) (hst : Cond.static M'.1 ∈ px_T) (hn : as.length = n) (hK : px_K d' mc' ms' M' as h rv h') (hdd : d' + 1 ≤ Z.1) (hS : S = as.reverse ++ S1) (hw : (S1.map fun v => v.category).sum ≤ 8) (hf : kc + mc' ≤ Z.2.1 ∧ ks + ms' ≤ Z.2.2.1) (oL : ∀ v, some v ∈ L → px_ov h.length h'.length v) (oS : ∀ v ∈ S1, px_ov h.length h'.length v) (K : px_O Z g res (pc + 3) L (rv.toList ++ S1) h' (kc + mc') (ks + ms')) : px_O Z g res pc L S h kc ks := by
  intro b hb p l e s m args below meth c D ty r0 adV r H locs ls C X Lc
  subst hS
  have hts := C.2.2.2.2.2.1
  have rest : ((S1.map (px_v r)).map fun v => v.category).sum ≤ 8 := by
    rw [List.map_map]
    have e : ((fun v => v.category) ∘ px_v r) = fun v : Value => v.category := funext fun v => px_v_cat r v
    rw [e]; exact hw
  refine px_after (h' := h') (rv := rv) (rest := S1.map (px_v r)) (va_runSN (As := as.map (px_v r)) ⟨C.1, C.2.1, C.2.2.2.1, C.2.2.2.2.1, hts⟩ (hK l D ty r adV H.size) ⟨va_cnB n hts (px_good hm) rfl rfl rfl (X.2.2.1.1 _ hl) (hts _ (List.mem_cons_of_mem _ hm.2.1)) hm.2.2.1 (px_room hdd hm.2.2.2.1), hts _ (List.mem_cons_of_mem _ hst), trivial⟩ ⟨px_P_blind D ty r adV as h H.size, px_pre X⟩ rfl (by rw [List.length_map]; exact hn) Lc.1 (by simp [px_v_ref]) (lv_room rest) hd hf) X (fun r' H1 locs1 hr X' => ?_)
  have e2 : (rv.map (px_v r')).toList ++ S1.map (px_v r) = (rv.toList ++ S1).map (px_v r') := by
    rw [List.map_append, px_ov_S hr oS]
    cases rv <;> rfl
  rw [e2]
  exact K b hb _ _ _ _ _ _ _ _ _ _ _ _ _ _ _ _ _ C X' (px_ov_L hr oL Lc)
theorem o_callV {a ci : Nat} {fs : List Value} (hd : decode Z.2.2.2.2.2.1 pc = .ok (.invokevirtual idx, 3)) (hm : px_MF M' n) (hl : Cond.methodLink Z.2.2.2.2.1.cls idx M'.1 ∈ px_T) (hin : Cond.instanceMethod M'.1 ∈ px_T) (hse : Cond.selects M'.1.cls M'.1 M'.1 ∈ px_T) {q : vw_C} (hq : vwCl[ci]? = some q) (hqc : q.1 = M'.1.cls) (hc : h[a]? = some (.inl (ci, fs))) (hn : as.length = n) (hK : px_K d' mc' ms' M' (.ref a :: as) h rv h') (hdd : d' + 1 ≤ Z.1) (hS : S = as.reverse ++ .ref a :: S1) (hw : (S1.map fun v => v.category).sum ≤ 8) (hf : kc + mc' ≤ Z.2.1 ∧ ks + ms' ≤ Z.2.2.1) (oL : ∀ v, some v ∈ L → px_ov h.length h'.length v) (oS : ∀ v ∈ S1, px_ov h.length h'.length v) (K : px_O Z g res (pc + 3) L (rv.toList ++ S1) h' (kc + mc') (ks + ms')) : px_O Z g res pc L S h kc ks := by
  intro b hb p l e s m args below meth c D ty r0 adV r H locs ls C X Lc
  subst hS
  have hts := C.2.2.2.2.2.1
  have rest : ((S1.map (px_v r)).map fun v => v.category).sum ≤ 8 := by
    rw [List.map_map]
    have e : ((fun v => v.category) ∘ px_v r) = fun v : Value => v.category := funext fun v => px_v_cat r v
    rw [e]; exact hw
  refine px_after (h' := h') (rv := rv) (rest := S1.map (px_v r)) (va_runV (As := as.map (px_v r)) ⟨C.1, C.2.1, C.2.2.2.1, C.2.2.2.2.1, hts⟩ (hK l D ty r adV H.size) (cwV (C := M'.1.cls) n hts (fun w hw => by
    rcases List.mem_append.mp hw with e | e
    · rcases List.mem_cons.mp e with e | e
      · subst e; exact px_goodT hl _
      · rcases List.mem_cons.mp e with e | e
        · subst e; exact px_goodT hin _
        · rcases List.mem_cons.mp e with e | e
          · subst e; exact px_goodT hse _
          · rw [List.mem_singleton] at e; subst e; exact px_goodT hm.2.1 _
    · exact px_good hm w e) rfl rfl rfl ⟨rfl, hm.2.2.1⟩ (px_room hdd hm.2.2.2.1)) ⟨px_P_blind D ty r adV (.ref a :: as) h H.size, (by rw [← hqc]; exact va_recv X.2.1 X.2.2.2.1 hq (px_w_get hc)), px_pre X⟩ rfl (by rw [List.length_map]; exact hn) Lc.1 (by simp [px_v_ref]) (lv_room rest) hd hf) X (fun r' H1 locs1 hr X' => ?_)
  have e2 : (rv.map (px_v r')).toList ++ S1.map (px_v r) = (rv.toList ++ S1).map (px_v r') := by
    rw [List.map_append, px_ov_S hr oS]
    cases rv <;> rfl
  rw [e2]
  exact K b hb _ _ _ _ _ _ _ _ _ _ _ _ _ _ _ _ _ C X' (px_ov_L hr oL Lc)
theorem o_callI {a ci : Nat} {fs : List Value} (hd : decode Z.2.2.2.2.2.1 pc = .ok (.invokespecial idx, 3)) (hm : px_MF M' n) (hl : Cond.methodLink Z.2.2.2.2.1.cls idx M'.1 ∈ px_T) (hin : Cond.instanceMethod M'.1 ∈ px_T) (hini : M'.1.name = "<init>") (hret : M'.2.2.2 = none) (hn : as.length = n) (hK : px_K d' mc' ms' M' (.ref a :: as) h rv h') (hdd : d' + 1 ≤ Z.1) (hS : S = as.reverse ++ .ref a :: S1) (hw : (S1.map fun v => v.category).sum ≤ 8) (hf : kc + mc' ≤ Z.2.1 ∧ ks + ms' ≤ Z.2.2.1) (oL : ∀ v, some v ∈ L → px_ov h.length h'.length v) (oS : ∀ v ∈ S1, px_ov h.length h'.length v) (K : px_O Z g res (pc + 3) L (rv.toList ++ S1) h' (kc + mc') (ks + ms')) : px_O Z g res pc L S h kc ks := by
  intro b hb p l e s m args below meth c D ty r0 adV r H locs ls C X Lc
  subst hS
  have hts := C.2.2.2.2.2.1
  have rest : ((S1.map (px_v r)).map fun v => v.category).sum ≤ 8 := by
    rw [List.map_map]
    have e : ((fun v => v.category) ∘ px_v r) = fun v : Value => v.category := funext fun v => px_v_cat r v
    rw [e]; exact hw
  refine px_after (h' := h') (rv := rv) (rest := S1.map (px_v r)) (va_runI (As := as.map (px_v r)) ⟨C.1, C.2.1, C.2.2.2.1, C.2.2.2.2.1, hts⟩ (hK l D ty r adV H.size) (cwI (bytes := M'.2.1) (maxL := M'.2.2.1) (ws' := px_T) n hts (px_good hm) (by rw [← hret]; rfl) rfl rfl (hts _ (List.mem_cons_of_mem _ hm.2.1)) (hts _ (List.mem_cons_of_mem _ hl)) (hts _ (List.mem_cons_of_mem _ hin)) hini hm.2.2.1 (px_room hdd hm.2.2.2.1)) ⟨px_P_blind D ty r adV (.ref a :: as) h H.size, px_pre X⟩ rfl (by rw [List.length_map]; exact hn) Lc.1 (by simp [px_v_ref]) (lv_room rest) hd hf) X (fun r' H1 locs1 hr X' => ?_)
  have e2 : (rv.map (px_v r')).toList ++ S1.map (px_v r) = (rv.toList ++ S1).map (px_v r') := by
    rw [List.map_append, px_ov_S hr oS]
    cases rv <;> rfl
  rw [e2]
  exact K b hb _ _ _ _ _ _ _ _ _ _ _ _ _ _ _ _ _ C X' (px_ov_L hr oL Lc)
theorem o_callIN {a ci : Nat} {fs : List Value} (hd : decode Z.2.2.2.2.2.1 pc = .ok (.invokespecial idx, 3)) (hm : px_MF M' n) {host : String} (hl : Cond.methodLinkNest Z.2.2.2.2.1.cls idx M'.1 host ∈ px_Nt) (hin : Cond.instanceMethod M'.1 ∈ px_T) (hini : M'.1.name = "<init>") (hret : M'.2.2.2 = none) (hn : as.length = n) (hK : px_K d' mc' ms' M' (.ref a :: as) h rv h') (hdd : d' + 1 ≤ Z.1) (hS : S = as.reverse ++ .ref a :: S1) (hw : (S1.map fun v => v.category).sum ≤ 8) (hf : kc + mc' ≤ Z.2.1 ∧ ks + ms' ≤ Z.2.2.1) (oL : ∀ v, some v ∈ L → px_ov h.length h'.length v) (oS : ∀ v ∈ S1, px_ov h.length h'.length v) (K : px_O Z g res (pc + 3) L (rv.toList ++ S1) h' (kc + mc') (ks + ms')) : px_O Z g res pc L S h kc ks := by
  intro b hb p l e s m args below meth c D ty r0 adV r H locs ls C X Lc
  subst hS
  have hts := C.2.2.2.2.2.1
  have rest : ((S1.map (px_v r)).map fun v => v.category).sum ≤ 8 := by
    rw [List.map_map]
    have e : ((fun v => v.category) ∘ px_v r) = fun v : Value => v.category := funext fun v => px_v_cat r v
    rw [e]; exact hw
  refine px_after (h' := h') (rv := rv) (rest := S1.map (px_v r)) (va_runIN (As := as.map (px_v r)) ⟨C.1, C.2.1, C.2.2.2.1, C.2.2.2.2.1, hts⟩ (hK l D ty r adV H.size) ⟨va_cnB (bytes := M'.2.1) (maxL := M'.2.2.1) (ret := none) (ws' := px_T) n hts (px_good hm) (by rw [← hret]; rfl) rfl rfl (X.2.2.1.1 _ hl) (hts _ (List.mem_cons_of_mem _ hm.2.1)) hm.2.2.1 (px_room hdd hm.2.2.2.1), hini, hts _ (List.mem_cons_of_mem _ hin)⟩ ⟨px_P_blind D ty r adV (.ref a :: as) h H.size, px_pre X⟩ rfl (by rw [List.length_map]; exact hn) Lc.1 (by simp [px_v_ref]) (lv_room rest) hd hf) X (fun r' H1 locs1 hr X' => ?_)
  have e2 : (rv.map (px_v r')).toList ++ S1.map (px_v r) = (rv.toList ++ S1).map (px_v r') := by
    rw [List.map_append, px_ov_S hr oS]
    cases rv <;> rfl
  rw [e2]
  exact K b hb _ _ _ _ _ _ _ _ _ _ _ _ _ _ _ _ _ C X' (px_ov_L hr oL Lc)
end PXK
/-! calls that make nothing, as a term says them -/
section PXL
variable {β : Type} {Z : px_Z} {g : β → Option Value × List px_C} {res A B : Option β} {pc : Nat} {L : List (Option Value)} {S S1 : List Value} {h : List px_C} {kc ks : Nat}
variable {M' : px_M} {n d' idx : Nat} {as : List Value} {α : Type} {g' : α → Option Value × List px_C} {x : Option α} {F : α → Option β}
theorem o_cS (hd : decode Z.2.2.2.2.2.1 pc = .ok (.invokestatic idx, 3)) (hm : px_MF M' n) (hl : Cond.methodLink Z.2.2.2.2.1.cls idx M'.1 ∈ px_T) (hst : Cond.static M'.1 ∈ px_T) (hn : as.length = n) (hK : ∀ b, x = some b → px_K d' 0 0 M' as h (g' b).1 (g' b).2) (hdd : d' + 1 ≤ Z.1) (hS : S = as.reverse ++ S1) (hw : (S1.map fun v => v.category).sum ≤ 8) (hf : kc ≤ Z.2.1 ∧ ks ≤ Z.2.2.1) (hle : ∀ b, x = some b → (g' b).2.length = h.length) (K : ∀ b, x = some b → px_O Z g (F b) (pc + 3) L ((g' b).1.toList ++ S1) (g' b).2 kc ks) : px_O Z g (x.bind F) pc L S h kc ks := by
  refine o_bindv (fun b hb => ?_)
  exact o_callS hd hm hl hst hn (hK b hb) hdd hS hw hf (by rw [hle b hb]; exact fun v _ => px_ov_same _ v) (by rw [hle b hb]; exact fun v _ => px_ov_same _ v) (K b hb)
theorem o_cSN (hd : decode Z.2.2.2.2.2.1 pc = .ok (.invokestatic idx, 3)) (hm : px_MF M' n) {host : String} (hl : Cond.methodLinkNest Z.2.2.2.2.1.cls idx M'.1 host ∈ px_Nt) (hst : Cond.static M'.1 ∈ px_T) (hn : as.length = n) (hK : ∀ b, x = some b → px_K d' 0 0 M' as h (g' b).1 (g' b).2) (hdd : d' + 1 ≤ Z.1) (hS : S = as.reverse ++ S1) (hw : (S1.map fun v => v.category).sum ≤ 8) (hf : kc ≤ Z.2.1 ∧ ks ≤ Z.2.2.1) (hle : ∀ b, x = some b → (g' b).2.length = h.length) (K : ∀ b, x = some b → px_O Z g (F b) (pc + 3) L ((g' b).1.toList ++ S1) (g' b).2 kc ks) : px_O Z g (x.bind F) pc L S h kc ks := by
  refine o_bindv (fun b hb => ?_)
  exact o_callSN hd hm hl hst hn (hK b hb) hdd hS hw hf (by rw [hle b hb]; exact fun v _ => px_ov_same _ v) (by rw [hle b hb]; exact fun v _ => px_ov_same _ v) (K b hb)
theorem o_cV {a ci : Nat} {fs : List Value} (hd : decode Z.2.2.2.2.2.1 pc = .ok (.invokevirtual idx, 3)) (hm : px_MF M' n) (hl : Cond.methodLink Z.2.2.2.2.1.cls idx M'.1 ∈ px_T) (hin : Cond.instanceMethod M'.1 ∈ px_T) (hse : Cond.selects M'.1.cls M'.1 M'.1 ∈ px_T) {q : vw_C} (hq : vwCl[ci]? = some q) (hqc : q.1 = M'.1.cls) (hc : h[a]? = some (.inl (ci, fs))) (hn : as.length = n) (hK : ∀ b, x = some b → px_K d' 0 0 M' (.ref a :: as) h (g' b).1 (g' b).2) (hdd : d' + 1 ≤ Z.1) (hS : S = as.reverse ++ .ref a :: S1) (hw : (S1.map fun v => v.category).sum ≤ 8) (hf : kc ≤ Z.2.1 ∧ ks ≤ Z.2.2.1) (hle : ∀ b, x = some b → (g' b).2.length = h.length) (K : ∀ b, x = some b → px_O Z g (F b) (pc + 3) L ((g' b).1.toList ++ S1) (g' b).2 kc ks) : px_O Z g (x.bind F) pc L S h kc ks := by
  refine o_bindv (fun b hb => ?_)
  exact o_callV hd hm hl hin hse hq hqc hc hn (hK b hb) hdd hS hw hf (by rw [hle b hb]; exact fun v _ => px_ov_same _ v) (by rw [hle b hb]; exact fun v _ => px_ov_same _ v) (K b hb)
end PXL
end
section
theorem px_wd_push {D : va_G} {ty : Nat → ClassId} {r0 adV r : Nat → Nat} {n0 : Nat} {s : State} {h : List px_C} {H H1 : Heap} {locs locs1 : List Loc} {q : Nat} {c : px_C} (X : px_wd D ty r0 adV r n0 s h H locs) (hf : ∀ x ∈ h, px_fr h.length x) (hc : px_fr h.length c) (y1 : va_P D vwCl (px_w r ty h ++ [(q, px_c r ty c)]) H1) (y2 : va_D (px_A r0 n0 s.heap.size) (px_w r ty h ++ [(q, px_c r ty c)])) (y3 : va_S (px_A r0 n0 s.heap.size) s.heap H1 locs1) (hlt : h.length < 1000) : px_wd D ty r0 adV (va_up r h.length q) n0 s (h ++ [c]) H1 locs1 := by
  obtain ⟨x1, x2, x3, x4, x5, x6⟩ := X
  rw [px_w_push hf hc] at y1 y2
  have hl : (h ++ [c]).length = h.length + 1 := by simp
  have hx1 := x1.2.1
  refine ⟨⟨fun k hk => ?_, by rw [hl]; omega, by rw [hl]; omega⟩, x2, x3, y1, y2, y3⟩
  rw [hl] at hk
  have hx := x1.2.1
  rw [va_up_ne _ _ (by omega)]
  exact x1.1 k (by omega)
theorem px_fv_S {r : Nat → Nat} {n q : Nat} {S : List Value} (hS : ∀ v ∈ S, px_fv n v) : S.map (px_v r) = S.map (px_v (va_up r n q)) := List.map_congr_left (fun v hv => (px_v_up (hS v hv)).symm)
theorem px_fv_L {r : Nat → Nat} {n q nL : Nat} {L : List (Option Value)} {ls : Array Slot} (h : ∀ v, some v ∈ L → px_fv n v) (hl : px_L r ls nL L) : px_L (va_up r n q) ls nL L :=
  ⟨hl.1, hl.2.1, fun i v hv => by rw [px_v_up (h v (List.mem_of_getElem? hv))]; exact hl.2.2 i v hv⟩
section PXN
variable {β : Type} {Z : px_Z} {g : β → Option Value × List px_C} {res A B : Option β} {pc idx : Nat} {L : List (Option Value)} {S S1 : List Value} {h : List px_C} {kc ks : Nat}
theorem o_new {ci : Nat} {q : vw_C} {fs : List Value} {ty0 : Nat → FieldType} (hd : decode Z.2.2.2.2.2.1 pc = .ok (.new idx, 3)) (hq : vwCl[ci]? = some q) (hcl : Cond.classLink Z.2.2.2.2.1.cls idx q.1 ∈ px_T) (hin : Cond.instantiable q.1 q.2.2 ∈ px_T) (hini : Cond.initialized q.1 ∈ px_T) (hty : ∀ k, k < q.2.2 → parseFieldDescriptor (q.2.1 k).2.2.1 = some (ty0 k)) (hfs : ∀ j, j < q.2.2 → defaultValue (ty0 j) = vp_V fs j) (hfr : ∀ v ∈ fs, ∀ k, v ≠ .ref k) (hcells : kc + 1 ≤ Z.2.1) (hslots : ks + q.2.2 ≤ Z.2.2.1) (hlt : h.length < 1000) (hh : ∀ x ∈ h, px_fr h.length x) (oL : ∀ v, some v ∈ L → px_fv h.length v) (oS : ∀ v ∈ S, px_fv h.length v) (K : px_O Z g res (pc + 3) L (.ref h.length :: S) (h ++ [.inl (ci, fs)]) (kc + 1) (ks + q.2.2)) : px_O Z g res pc L S h kc ks := by
  intro b hb p l e s m args below meth c D ty r0 adV r H locs ls C X Lc
  have e0 : fs.map (px_v r) = fs := by
    refine (List.map_congr_left (fun v hv => ?_)).trans (List.map_id' fs)
    cases v with
    | ref k => exact absurd rfl (hfr _ hv k)
    | _ => rfl
  refine va_new (C := q.1) (T := q.2.1) (N := q.2.2) (ci := ci) (fs := fs) C.1 C.2.1 C.2.2.2.2.2.1 (fun w hw => List.mem_cons_of_mem _ ((px_cls ci q hq).1 w hw)) ty0 hty C.2.2.2.2.1 (C.2.2.2.2.2.1 _ (List.mem_cons_of_mem _ hcl)) (C.2.2.2.2.2.1 _ (List.mem_cons_of_mem _ hin)) (C.2.2.2.2.2.1 _ (List.mem_cons_of_mem _ hini)) X.2.1 X.2.2.2.1 X.2.2.2.2.1 X.2.2.2.2.2 (fun _ z => Or.inr z) hq hfs hcells hslots hd (fun q1 H1 y1 y2 y3 => ?_)
  have e1 : px_c r ty (.inl (ci, fs)) = .inr (ci, fs) := by simp only [px_c, e0]
  have K2 := K b hb p l e s m args below meth c D ty r0 adV (va_up r h.length q1) H1 locs ls C (px_wd_push (c := .inl (ci, fs)) X hh (fun v hv k hk => absurd hk (hfr v hv k)) (by rw [e1]; exact y1) (by rw [e1]; exact y2) y3 hlt) (px_fv_L oL Lc)
  rw [List.map_cons, ← px_fv_S oS, px_v_ref] at K2
  simp only [va_up_self] at K2
  exact K2
theorem o_newi {n : Int32} {N : Nat} (hd : decode Z.2.2.2.2.2.1 pc = .ok (.newarray .int, 2)) (hw : Cond.arrayClass .int ∈ px_T) (hn : ¬ n < 0) (hN : n.toNatClampNeg = N) (hby : N ≤ 100000) (hcells : kc + 1 ≤ Z.2.1) (hslots : ks + N ≤ Z.2.2.1) (hlt : h.length < 1000) (hh : ∀ x ∈ h, px_fr h.length x) (oL : ∀ v, some v ∈ L → px_fv h.length v) (oS : ∀ v ∈ S, px_fv h.length v) (K : px_O Z g res (pc + 2) L (.ref h.length :: S) (h ++ [.inr (.inl (0, N, fun _ => 0))]) (kc + 1) (ks + N)) : px_O Z g res pc L (.int n :: S) h kc ks := by
  intro b hb p l e s m args below meth c D ty r0 adV r H locs ls C X Lc
  refine va_newa (atype := .int) (ty := .int) (a0 := (N, .inl (fun _ => 0))) C.1 C.2.1 (C.2.2.2.2.2.1 _ (List.mem_cons_of_mem _ hw)) rfl X.2.1 X.2.2.2.1 X.2.2.2.2.1 X.2.2.2.2.2 (fun _ z => Or.inr z) (fun cA => rfl) hn hN (by show N * 4 ≤ _; omega) hcells hslots hd (fun q1 cA H1 y0 y1 y2 y3 => ?_)
  have ec : cA = ty 0 := by
    have z1 := (y0.2 4 (cA, .int) rfl).2
    have z2 := (X.2.1.2 0 (ty 0, .int) rfl).2
    exact Option.some.inj (z1.symm.trans z2)
  subst ec
  have K2 := K b hb p l e s m args below meth c D ty r0 adV (va_up r h.length q1) H1 locs ls C (px_wd_push (c := .inr (.inl (0, N, fun _ => 0))) X hh trivial y1 y2 y3 hlt) (px_fv_L oL Lc)
  rw [List.map_cons, ← px_fv_S oS, px_v_ref] at K2
  simp only [va_up_self] at K2
  exact K2
theorem o_newz {n : Int32} {N : Nat} (hd : decode Z.2.2.2.2.2.1 pc = .ok (.newarray .boolean, 2)) (hw : Cond.arrayClass .boolean ∈ px_T) (hn : ¬ n < 0) (hN : n.toNatClampNeg = N) (hby : N ≤ 100000) (hcells : kc + 1 ≤ Z.2.1) (hslots : ks + N ≤ Z.2.2.1) (hlt : h.length < 1000) (hh : ∀ x ∈ h, px_fr h.length x) (oL : ∀ v, some v ∈ L → px_fv h.length v) (oS : ∀ v ∈ S, px_fv h.length v) (K : px_O Z g res (pc + 2) L (.ref h.length :: S) (h ++ [.inr (.inl (1, N, fun _ => 0))]) (kc + 1) (ks + N)) : px_O Z g res pc L (.int n :: S) h kc ks := by
  intro b hb p l e s m args below meth c D ty r0 adV r H locs ls C X Lc
  refine va_newa (atype := .boolean) (ty := .boolean) (a0 := (N, .inl (fun _ => 0))) C.1 C.2.1 (C.2.2.2.2.2.1 _ (List.mem_cons_of_mem _ hw)) rfl X.2.1 X.2.2.2.1 X.2.2.2.2.1 X.2.2.2.2.2 (fun _ z => Or.inr z) (fun cA => rfl) hn hN (by show N * 1 ≤ _; omega) hcells hslots hd (fun q1 cA H1 y0 y1 y2 y3 => ?_)
  have ec : cA = ty 1 := by
    have z1 := (y0.2 4 (cA, .boolean) rfl).2
    have z2 := (X.2.1.2 1 (ty 1, .boolean) rfl).2
    exact Option.some.inj (z1.symm.trans z2)
  subst ec
  have K2 := K b hb p l e s m args below meth c D ty r0 adV (va_up r h.length q1) H1 locs ls C (px_wd_push (c := .inr (.inl (1, N, fun _ => 0))) X hh trivial y1 y2 y3 hlt) (px_fv_L oL Lc)
  rw [List.map_cons, ← px_fv_S oS, px_v_ref] at K2
  simp only [va_up_self] at K2
  exact K2
theorem o_anew2 {n : Int32} {N : Nat} (hd : decode Z.2.2.2.2.2.1 pc = .ok (.anewarray idx, 3)) (hcl : Cond.classLink Z.2.2.2.2.1.cls idx "ThreeOfThem$Text" ∈ px_T) (hn : ¬ n < 0) (hN : n.toNatClampNeg = N) (hby : N ≤ 100000) (hcells : kc + 1 ≤ Z.2.1) (hslots : ks + N ≤ Z.2.2.1) (hlt : h.length < 1000) (hh : ∀ x ∈ h, px_fr h.length x) (oL : ∀ v, some v ∈ L → px_fv h.length v) (oS : ∀ v ∈ S, px_fv h.length v) (K : px_O Z g res (pc + 3) L (.ref h.length :: S) (h ++ [.inr (.inr (2, N, fun _ => none))]) (kc + 1) (ks + N)) : px_O Z g res pc L (.int n :: S) h kc ks := by
  intro b hb p l e s m args below meth c D ty r0 adV r H locs ls C X Lc
  refine va_newq C.1 C.2.1 C.2.2.2.2.1 (C.2.2.2.2.2.1 _ (List.mem_cons_of_mem _ hcl)) X.2.2.1.2.2.2.2.2.2.2.1 X.2.1 X.2.2.2.1 X.2.2.2.2.1 X.2.2.2.2.2 (fun _ z => Or.inr z) hn hN (by omega) hcells hslots hd (fun q1 cA H1 y0 y1 y2 y3 => ?_)
  have ec : cA = ty 2 := by
    obtain ⟨_, _, _, _, _, z1⟩ := (y0.2 4 (cA, .object "ThreeOfThem$Text") rfl).2
    obtain ⟨_, _, _, _, _, z2⟩ := (X.2.1.2 2 (ty 2, .object "ThreeOfThem$Text") rfl).2
    exact Option.some.inj (z1.symm.trans z2)
  subst ec
  have K2 := K b hb p l e s m args below meth c D ty r0 adV (va_up r h.length q1) H1 locs ls C (px_wd_push (c := .inr (.inr (2, N, fun _ => none))) X hh (fun j k z => by cases z) y1 y2 y3 hlt) (px_fv_L oL Lc)
  rw [List.map_cons, ← px_fv_S oS, px_v_ref] at K2
  simp only [va_up_self] at K2
  exact K2
theorem o_anew3 {n : Int32} {N : Nat} (hd : decode Z.2.2.2.2.2.1 pc = .ok (.anewarray idx, 3)) (hcl : Cond.classLink Z.2.2.2.2.1.cls idx "ThreeOfThem$Sheet" ∈ px_T) (hn : ¬ n < 0) (hN : n.toNatClampNeg = N) (hby : N ≤ 100000) (hcells : kc + 1 ≤ Z.2.1) (hslots : ks + N ≤ Z.2.2.1) (hlt : h.length < 1000) (hh : ∀ x ∈ h, px_fr h.length x) (oL : ∀ v, some v ∈ L → px_fv h.length v) (oS : ∀ v ∈ S, px_fv h.length v) (K : px_O Z g res (pc + 3) L (.ref h.length :: S) (h ++ [.inr (.inr (3, N, fun _ => none))]) (kc + 1) (ks + N)) : px_O Z g res pc L (.int n :: S) h kc ks := by
  intro b hb p l e s m args below meth c D ty r0 adV r H locs ls C X Lc
  refine va_newq C.1 C.2.1 C.2.2.2.2.1 (C.2.2.2.2.2.1 _ (List.mem_cons_of_mem _ hcl)) X.2.2.1.2.2.2.2.2.2.2.2 X.2.1 X.2.2.2.1 X.2.2.2.2.1 X.2.2.2.2.2 (fun _ z => Or.inr z) hn hN (by omega) hcells hslots hd (fun q1 cA H1 y0 y1 y2 y3 => ?_)
  have ec : cA = ty 3 := by
    obtain ⟨_, _, _, _, _, z1⟩ := (y0.2 4 (cA, .object "ThreeOfThem$Sheet") rfl).2
    obtain ⟨_, _, _, _, _, z2⟩ := (X.2.1.2 3 (ty 3, .object "ThreeOfThem$Sheet") rfl).2
    exact Option.some.inj (z1.symm.trans z2)
  subst ec
  have K2 := K b hb p l e s m args below meth c D ty r0 adV (va_up r h.length q1) H1 locs ls C (px_wd_push (c := .inr (.inr (3, N, fun _ => none))) X hh (fun j k z => by cases z) y1 y2 y3 hlt) (px_fv_L oL Lc)
  rw [List.map_cons, ← px_fv_S oS, px_v_ref] at K2
  simp only [va_up_self] at K2
  exact K2
theorem px_sum (r : Nat → Nat) (S : List Value) : ((S.map (px_v r)).map fun v => v.category).sum = (S.map fun v => v.category).sum := by
  rw [List.map_map]
  have e : ((fun v => v.category) ∘ px_v r) = fun v : Value => v.category := funext fun v => px_v_cat r v
  rw [e]
theorem o_obj {a : Nat} (hd : decode Z.2.2.2.2.2.1 pc = .ok (.invokespecial idx, 3)) (h1 : Cond.methodLink Z.2.2.2.2.1.cls idx objectInit ∈ px_T) (h2 : Cond.instanceMethod objectInit ∈ px_T) (h3 : Cond.code objectInit ⟨#[0xb1]⟩ 1 none ∈ px_T) (hz : 1 ≤ Z.1) (hw : (S.map fun v => v.category).sum ≤ 8) (K : px_O Z g res (pc + 3) L S h kc ks) : px_O Z g res pc L (.ref a :: S) h kc ks := by
  intro b hb p l e s m args below meth c D ty r0 adV r H locs ls C X Lc
  refine W.objInit C.1 C.2.1 C.2.2.2.2.1 (C.2.2.2.2.2.1 _ (List.mem_cons_of_mem _ h1)) (C.2.2.2.2.2.1 _ (List.mem_cons_of_mem _ h2)) (C.2.2.2.2.2.1 _ (List.mem_cons_of_mem _ h3)) rfl (by rw [C.2.2.2.1]; exact Lc.1) rfl hd hz ?_ (K b hb _ _ _ _ _ _ _ _ _ _ _ _ _ _ _ _ _ C X Lc)
  show 2 * 0 + _ + 12 ≤ 80 * Z.1
  rw [px_sum]
  omega
theorem o_copy {a a0 n0 n1 : Nat} {f f1 : Nat → Int32} {sp dp n : Int32} {h' : List px_C} (hd : decode Z.2.2.2.2.2.1 pc = .ok (.invokestatic idx, 3)) (w1 : Cond.methodLink Z.2.2.2.2.1.cls idx arraycopyName ∈ px_T) (w2 : Cond.native arraycopyName ∈ px_T) (w3 : Cond.static arraycopyName ∈ px_T) (w4 : Cond.initialized "java/lang/System" ∈ px_T) (hc0 : h[a0]? = some (.inr (.inl (0, n0, f)))) (hc1 : h[a]? = some (.inr (.inl (0, n1, f1)))) (q1 : ¬ sp < 0) (q2 : ¬ dp < 0) (q3 : ¬ n < 0) (q4 : sp.toNatClampNeg + n.toNatClampNeg ≤ n0) (q5 : dp.toNatClampNeg + n.toNatClampNeg ≤ n1) (hz : 1 ≤ Z.1) (hw : (S.map fun v => v.category).sum ≤ 8) (hh : h.set a (.inr (.inl (0, n1, va_cpy f f1 sp.toNatClampNeg dp.toNatClampNeg n.toNatClampNeg))) = h') (K : px_O Z g res (pc + 3) L S h' kc ks) : px_O Z g res pc L (.int n :: .int dp :: .ref a :: .int sp :: .ref a0 :: S) h kc ks := by
  intro b hb p l e s m args below meth c D ty r0 adV r H locs ls C X Lc
  subst hh
  refine va_copyi (ty := .int) C.1 C.2.1 (by rw [C.2.2.2.1]; exact Lc.1.symm) C.2.2.2.2.1 (C.2.2.2.2.2.1 _ (List.mem_cons_of_mem _ w1)) (C.2.2.2.2.2.1 _ (List.mem_cons_of_mem _ w2)) (C.2.2.2.2.2.1 _ (List.mem_cons_of_mem _ w3)) (C.2.2.2.2.2.1 _ (List.mem_cons_of_mem _ w4)) X.2.1 X.2.2.2.1 X.2.2.2.2.1 X.2.2.2.2.2 a0 a 0 0 (px_w_get hc0) (px_w_get hc1) rfl rfl rfl q1 q2 q3 q4 q5 (fun _ _ => rfl) hz ?_ hd (fun H1 locs1 y1 y2 y3 => K b hb _ _ _ _ _ _ _ _ _ _ _ _ _ _ _ _ _ C (px_wd_set (c := .inr (.inl (0, n1, va_cpy f f1 sp.toNatClampNeg dp.toNatClampNeg n.toNatClampNeg))) X y1 y2 y3) Lc)
  show _ ≤ 80 * Z.1
  rw [px_sum]
  have e : nativeFrameWords "java/lang/System" "arraycopy" 5 ≤ 40 := by decide +kernel
  omega
theorem o_max {x y : Int32} (hd : decode Z.2.2.2.2.2.1 pc = .ok (.invokestatic idx, 3)) (w1 : Cond.methodLink Z.2.2.2.2.1.cls idx Lib.Math.max.name ∈ px_T) (w2 : Cond.static Lib.Math.max.name ∈ px_T) (w3 : Cond.initialized "java/lang/Math" ∈ px_T) (w4 : Cond.code Lib.Math.max.name Lib.Math.max.code 2 (some .int) ∈ px_T) (hz : 1 ≤ Z.1) (hw : (S.map fun v => v.category).sum ≤ 8) (hf : kc ≤ Z.2.1 ∧ ks ≤ Z.2.2.1) (K : px_O Z g res (pc + 3) L (.int (if x < y then y else x) :: S) h kc ks) : px_O Z g res pc L (.int y :: .int x :: S) h kc ks := by
  intro b hb p l e s m args below meth c D ty r0 adV r H locs ls C X Lc
  refine va_mmax C.1 C.2.1 (by rw [C.2.2.2.1]; exact Lc.1.symm) C.2.2.2.2.1 (C.2.2.2.2.2.1 _ (List.mem_cons_of_mem _ w1)) (C.2.2.2.2.2.1 _ (List.mem_cons_of_mem _ w2)) (C.2.2.2.2.2.1 _ (List.mem_cons_of_mem _ w3)) (C.2.2.2.2.2.1 _ (List.mem_cons_of_mem _ w4)) hz ?_ hf.1 hf.2 hd (K b hb _ _ _ _ _ _ _ _ _ _ _ _ _ _ _ _ _ C X Lc)
  show _ ≤ 80 * Z.1
  rw [px_sum]
  omega
theorem o_min {x y : Int32} (hd : decode Z.2.2.2.2.2.1 pc = .ok (.invokestatic idx, 3)) (w1 : Cond.methodLink Z.2.2.2.2.1.cls idx Lib.Math.min.name ∈ px_T) (w2 : Cond.static Lib.Math.min.name ∈ px_T) (w3 : Cond.initialized "java/lang/Math" ∈ px_T) (w4 : Cond.code Lib.Math.min.name Lib.Math.min.code 2 (some .int) ∈ px_T) (hz : 1 ≤ Z.1) (hw : (S.map fun v => v.category).sum ≤ 8) (hf : kc ≤ Z.2.1 ∧ ks ≤ Z.2.2.1) (K : px_O Z g res (pc + 3) L (.int (if y < x then y else x) :: S) h kc ks) : px_O Z g res pc L (.int y :: .int x :: S) h kc ks := by
  intro b hb p l e s m args below meth c D ty r0 adV r H locs ls C X Lc
  refine va_mmin C.1 C.2.1 (by rw [C.2.2.2.1]; exact Lc.1.symm) C.2.2.2.2.1 (C.2.2.2.2.2.1 _ (List.mem_cons_of_mem _ w1)) (C.2.2.2.2.2.1 _ (List.mem_cons_of_mem _ w2)) (C.2.2.2.2.2.1 _ (List.mem_cons_of_mem _ w3)) (C.2.2.2.2.2.1 _ (List.mem_cons_of_mem _ w4)) hz ?_ hf.1 hf.2 hd (K b hb _ _ _ _ _ _ _ _ _ _ _ _ _ _ _ _ _ C X Lc)
  show _ ≤ 80 * Z.1
  rw [px_sum]
  omega
theorem o_under (hd : decode Z.2.2.2.2.2.1 pc = .ok (.getstatic idx, 3)) (hl : Cond.fieldLink Z.2.2.2.2.1.cls idx "ThreeOfThem" "UNDER" "[I" ∈ px_T) (K : px_O Z g res (pc + 3) L (.ref 2000 :: S) h kc ks) : px_O Z g res pc L S h kc ks := by
  intro b hb p l e s m args below meth c D ty r0 adV r H locs ls C X Lc
  have K2 := K b hb p l e s m args below meth c D ty r0 adV r H locs ls C X Lc
  rw [List.map_cons, px_v_ref, X.1.1 2000 (Or.inr (Nat.le_trans X.1.2.2 (by decide)))] at K2
  exact va_gets C.1 C.2.1 X.2.2.1.2.2.2.1 X.2.2.2.2.2 C.2.2.2.2.1 (C.2.2.2.2.2.1 _ (List.mem_cons_of_mem _ hl)) (fun _ z => z) hd K2
theorem o_uald {i : Int32} (hd : decode Z.2.2.2.2.2.1 pc = .ok (.iaload, 1)) (hi : vp_in i 6) (K : px_O Z g res (pc + 1) L (.int (px_und i.toNatClampNeg) :: S) h kc ks) : px_O Z g res pc L (.int i :: .ref 2000 :: S) h kc ks := by
  intro b hb p l e s m args below meth c D ty r0 adV r H locs ls C X Lc
  simp only [List.map_cons, px_v_ref, px_v_int, X.1.1 2000 (Or.inr (Nat.le_trans X.1.2.2 (by decide)))]
  exact va_ti C.1 C.2.1 X.2.2.1.2.2.2.2.1 X.2.2.2.2.2 hi rfl hd (K b hb _ _ _ _ _ _ _ _ _ _ _ _ _ _ _ _ _ C X Lc)
end PXN
end
section
/-! THE LAYOUT: the class's object and its parts at the places 0 to 47, the reference's at 48 to 69, each further TEXT at two places behind; what they hold is one function: place, number of the slot -/
def px_nm (n : Nat) (w : Nat → Int32) : Nat → Int32 := fun j => if j < n then w j else 0
abbrev px_ia (n : Nat) (w : Nat → Int32) : px_C := .inr (.inl (0, n, px_nm n w))
abbrev px_za (n : Nat) (w : Nat → Int32) : px_C := .inr (.inl (1, n, px_nm n w))
def px_on (x : Int32) : Option Nat := if x < 0 then none else some x.toNatClampNeg
def px_house (a : Nat) (w : Nat → Int32) : px_C := .inl (0, [.ref (a + 1), .ref (a + 2), .ref (a + 3), .ref (a + 4), .int (w 4), .int (w 5), .int (w 6), .int (w 7), .int (w 8), .int (w 9)])
def px_sheet (a : Nat) (w : Nat → Int32) : px_C := .inl (3, [.ref (a + 1), .int (w 1), .int (w 2)])
def px_text (a : Nat) (w : Nat → Int32) : px_C := .inl (4, [.ref (a + 1), .int (w 1), .int (w 2)])
abbrev px_code (w : Nat → Int32) : px_C := px_ia (w 100000).toNatClampNeg w
def px_f0 (w : Nat → Int32) : List Value := [.ref 1, .ref 6, .ref 11, .ref 31, .ref 36, .ref 37, .int (w 6), .int (w 7)]
def px_f11 (w : Nat → Int32) : List Value := [.ref 12, .ref (w 1).toNatClampNeg, .ref 19, .ref 20, .int (w 4), .ref 21, .ref 22, .ref 23, .ref 24, .ref 25, .ref 26, .ref 27, .int (w 12), .ref 28, .ref 29, .ref 30]
def px_f31 (w : Nat → Int32) : List Value := [.ref 32, .int (w 1), .ref 33, .ref 34, .int (w 4), .int (w 5), .ref 35, .int (w 7)]
def px_f48 (w : Nat → Int32) : List Value := [.int (w 0), .ref 49, .ref 50, .int (w 3), .int (w 4), .ref 51, .int (w 6), .ref 52, .ref 53, .ref 54, .ref 55, .int (w 11), .int (w 12), .int (w 13), .int (w 14), .int (w 15), .int (w 16), .int (w 17), .int (w 18), .int (w 19), .int (w 20), .int (w 21), .int (w 22), .int (w 23), .int (w 24), .int (w 25), .int (w 26), .long (w 27).toInt64, .int (w 28), .int (w 29), .int (w 30), .int (w 31), .ref 56, .ref 57, .ref 58, .int (w 35), .int (w 36), .int (w 37), .ref 59, .ref 60, .ref 61, .ref 62, .int (w 42), .int (w 43), .int (w 44), .ref 63, .ref 64, .ref 65, .int (w 48), .int (w 49), .int (w 50), .int (w 51), .int (w 52), .int (w 53), .ref 66, .ref 67, .ref 68, .ref 69]
def px_cell (k : Nat) (w : Nat → Int32) : px_C := match k with
  | 0 => .inl (5, px_f0 w)
  | 1 => px_house 1 w
  | 2 => px_ia 7 w
  | 3 => px_ia 7 w
  | 4 => px_ia 49 w
  | 5 => px_ia 7 w
  | 6 => px_house 6 w
  | 7 => px_ia 7 w
  | 8 => px_ia 7 w
  | 9 => px_ia 49 w
  | 10 => px_ia 7 w
  | 11 => .inl (1, px_f11 w)
  | 12 => px_house 12 w
  | 13 => px_ia 7 w
  | 14 => px_ia 7 w
  | 15 => px_ia 49 w
  | 16 => px_ia 7 w
  | 17 => px_text 17 w
  | 18 => px_code w
  | 19 => px_ia 6 w
  | 20 => px_ia 160 w
  | 21 => px_ia 49 w
  | 22 => px_ia 7 w
  | 23 => px_ia 7 w
  | 24 => px_ia 896 w
  | 25 => px_ia 128 w
  | 26 => px_ia 128 w
  | 27 => px_ia 35 w
  | 28 => px_ia 7 w
  | 29 => px_ia 3 w
  | 30 => px_ia 3 w
  | 31 => .inl (2, px_f31 w)
  | 32 => px_ia 160 w
  | 33 => px_ia 160 w
  | 34 => px_ia 160 w
  | 35 => px_ia 160 w
  | 36 => .inr (.inr (2, 6, fun j => if j < 6 then px_on (w j) else none))
  | 37 => .inr (.inr (3, 4, fun j => if j < 4 then some (38 + 2 * j) else none))
  | 38 => px_sheet 38 w
  | 39 => px_ia 40 w
  | 40 => px_sheet 40 w
  | 41 => px_ia 40 w
  | 42 => px_sheet 42 w
  | 43 => px_ia 40 w
  | 44 => px_sheet 44 w
  | 45 => px_ia 40 w
  | 46 => px_text 46 w
  | 47 => px_code w
  | 48 => .inl (6, px_f48 w)
  | 49 => px_ia 960 w
  | 50 => px_ia 6 w
  | 51 => px_ia 160 w
  | 52 => px_ia 7 w
  | 53 => px_ia 7 w
  | 54 => px_ia 49 w
  | 55 => px_ia 7 w
  | 56 => px_ia 49 w
  | 57 => px_ia 49 w
  | 58 => px_ia 49 w
  | 59 => px_ia 7 w
  | 60 => px_ia 128 w
  | 61 => px_ia 896 w
  | 62 => px_ia 128 w
  | 63 => px_ia 49 w
  | 64 => px_ia 7 w
  | 65 => px_ia 7 w
  | 66 => px_za 4 w
  | 67 => px_ia 4 w
  | 68 => px_ia 4 w
  | 69 => px_ia 160 w
  | k => if k % 2 = 0 then px_text k w else px_code w
theorem c0 (w : Nat → Int32) : px_cell 0 w = .inl (5, px_f0 w) := rfl
theorem c2 (w : Nat → Int32) : px_cell 2 w = px_ia 7 w := rfl
theorem c3 (w : Nat → Int32) : px_cell 3 w = px_ia 7 w := rfl
theorem c4 (w : Nat → Int32) : px_cell 4 w = px_ia 49 w := rfl
theorem c5 (w : Nat → Int32) : px_cell 5 w = px_ia 7 w := rfl
theorem c7 (w : Nat → Int32) : px_cell 7 w = px_ia 7 w := rfl
theorem c8 (w : Nat → Int32) : px_cell 8 w = px_ia 7 w := rfl
theorem c9 (w : Nat → Int32) : px_cell 9 w = px_ia 49 w := rfl
theorem c10 (w : Nat → Int32) : px_cell 10 w = px_ia 7 w := rfl
theorem c11 (w : Nat → Int32) : px_cell 11 w = .inl (1, px_f11 w) := rfl
theorem c13 (w : Nat → Int32) : px_cell 13 w = px_ia 7 w := rfl
theorem c14 (w : Nat → Int32) : px_cell 14 w = px_ia 7 w := rfl
theorem c15 (w : Nat → Int32) : px_cell 15 w = px_ia 49 w := rfl
theorem c16 (w : Nat → Int32) : px_cell 16 w = px_ia 7 w := rfl
theorem c19 (w : Nat → Int32) : px_cell 19 w = px_ia 6 w := rfl
theorem c20 (w : Nat → Int32) : px_cell 20 w = px_ia 160 w := rfl
theorem c21 (w : Nat → Int32) : px_cell 21 w = px_ia 49 w := rfl
theorem c22 (w : Nat → Int32) : px_cell 22 w = px_ia 7 w := rfl
theorem c23 (w : Nat → Int32) : px_cell 23 w = px_ia 7 w := rfl
theorem c24 (w : Nat → Int32) : px_cell 24 w = px_ia 896 w := rfl
theorem c25 (w : Nat → Int32) : px_cell 25 w = px_ia 128 w := rfl
theorem c26 (w : Nat → Int32) : px_cell 26 w = px_ia 128 w := rfl
theorem c27 (w : Nat → Int32) : px_cell 27 w = px_ia 35 w := rfl
theorem c28 (w : Nat → Int32) : px_cell 28 w = px_ia 7 w := rfl
theorem c29 (w : Nat → Int32) : px_cell 29 w = px_ia 3 w := rfl
theorem c30 (w : Nat → Int32) : px_cell 30 w = px_ia 3 w := rfl
theorem c31 (w : Nat → Int32) : px_cell 31 w = .inl (2, px_f31 w) := rfl
theorem c32 (w : Nat → Int32) : px_cell 32 w = px_ia 160 w := rfl
theorem c33 (w : Nat → Int32) : px_cell 33 w = px_ia 160 w := rfl
theorem c34 (w : Nat → Int32) : px_cell 34 w = px_ia 160 w := rfl
theorem c35 (w : Nat → Int32) : px_cell 35 w = px_ia 160 w := rfl
theorem c39 (w : Nat → Int32) : px_cell 39 w = px_ia 40 w := rfl
theorem c41 (w : Nat → Int32) : px_cell 41 w = px_ia 40 w := rfl
theorem c43 (w : Nat → Int32) : px_cell 43 w = px_ia 40 w := rfl
theorem c45 (w : Nat → Int32) : px_cell 45 w = px_ia 40 w := rfl
theorem c48 (w : Nat → Int32) : px_cell 48 w = .inl (6, px_f48 w) := rfl
theorem c49 (w : Nat → Int32) : px_cell 49 w = px_ia 960 w := rfl
theorem c50 (w : Nat → Int32) : px_cell 50 w = px_ia 6 w := rfl
theorem c51 (w : Nat → Int32) : px_cell 51 w = px_ia 160 w := rfl
theorem c52 (w : Nat → Int32) : px_cell 52 w = px_ia 7 w := rfl
theorem c53 (w : Nat → Int32) : px_cell 53 w = px_ia 7 w := rfl
theorem c54 (w : Nat → Int32) : px_cell 54 w = px_ia 49 w := rfl
theorem c55 (w : Nat → Int32) : px_cell 55 w = px_ia 7 w := rfl
theorem c56 (w : Nat → Int32) : px_cell 56 w = px_ia 49 w := rfl
theorem c57 (w : Nat → Int32) : px_cell 57 w = px_ia 49 w := rfl
theorem c58 (w : Nat → Int32) : px_cell 58 w = px_ia 49 w := rfl
theorem c59 (w : Nat → Int32) : px_cell 59 w = px_ia 7 w := rfl
theorem c60 (w : Nat → Int32) : px_cell 60 w = px_ia 128 w := rfl
theorem c61 (w : Nat → Int32) : px_cell 61 w = px_ia 896 w := rfl
theorem c62 (w : Nat → Int32) : px_cell 62 w = px_ia 128 w := rfl
theorem c63 (w : Nat → Int32) : px_cell 63 w = px_ia 49 w := rfl
theorem c64 (w : Nat → Int32) : px_cell 64 w = px_ia 7 w := rfl
theorem c65 (w : Nat → Int32) : px_cell 65 w = px_ia 7 w := rfl
theorem c67 (w : Nat → Int32) : px_cell 67 w = px_ia 4 w := rfl
theorem c68 (w : Nat → Int32) : px_cell 68 w = px_ia 4 w := rfl
theorem c69 (w : Nat → Int32) : px_cell 69 w = px_ia 160 w := rfl
theorem c66 (w : Nat → Int32) : px_cell 66 w = px_za 4 w := rfl
theorem s0_6 (w : Nat → Int32) (x : Int32) : px_cell 0 (upd w 6 x) = .inl (5, (px_f0 w).set 6 (.int x)) := rfl
theorem s0_7 (w : Nat → Int32) (x : Int32) : px_cell 0 (upd w 7 x) = .inl (5, (px_f0 w).set 7 (.int x)) := rfl
theorem s11_4 (w : Nat → Int32) (x : Int32) : px_cell 11 (upd w 4 x) = .inl (1, (px_f11 w).set 4 (.int x)) := rfl
theorem s11_12 (w : Nat → Int32) (x : Int32) : px_cell 11 (upd w 12 x) = .inl (1, (px_f11 w).set 12 (.int x)) := rfl
theorem s31_1 (w : Nat → Int32) (x : Int32) : px_cell 31 (upd w 1 x) = .inl (2, (px_f31 w).set 1 (.int x)) := rfl
theorem s31_4 (w : Nat → Int32) (x : Int32) : px_cell 31 (upd w 4 x) = .inl (2, (px_f31 w).set 4 (.int x)) := rfl
theorem s31_5 (w : Nat → Int32) (x : Int32) : px_cell 31 (upd w 5 x) = .inl (2, (px_f31 w).set 5 (.int x)) := rfl
theorem s31_7 (w : Nat → Int32) (x : Int32) : px_cell 31 (upd w 7 x) = .inl (2, (px_f31 w).set 7 (.int x)) := rfl
theorem s48_0 (w : Nat → Int32) (x : Int32) : px_cell 48 (upd w 0 x) = .inl (6, (px_f48 w).set 0 (.int x)) := rfl
theorem s48_3 (w : Nat → Int32) (x : Int32) : px_cell 48 (upd w 3 x) = .inl (6, (px_f48 w).set 3 (.int x)) := rfl
theorem s48_4 (w : Nat → Int32) (x : Int32) : px_cell 48 (upd w 4 x) = .inl (6, (px_f48 w).set 4 (.int x)) := rfl
theorem s48_6 (w : Nat → Int32) (x : Int32) : px_cell 48 (upd w 6 x) = .inl (6, (px_f48 w).set 6 (.int x)) := rfl
theorem s48_11 (w : Nat → Int32) (x : Int32) : px_cell 48 (upd w 11 x) = .inl (6, (px_f48 w).set 11 (.int x)) := rfl
theorem s48_12 (w : Nat → Int32) (x : Int32) : px_cell 48 (upd w 12 x) = .inl (6, (px_f48 w).set 12 (.int x)) := rfl
theorem s48_13 (w : Nat → Int32) (x : Int32) : px_cell 48 (upd w 13 x) = .inl (6, (px_f48 w).set 13 (.int x)) := rfl
theorem s48_14 (w : Nat → Int32) (x : Int32) : px_cell 48 (upd w 14 x) = .inl (6, (px_f48 w).set 14 (.int x)) := rfl
theorem s48_15 (w : Nat → Int32) (x : Int32) : px_cell 48 (upd w 15 x) = .inl (6, (px_f48 w).set 15 (.int x)) := rfl
theorem s48_16 (w : Nat → Int32) (x : Int32) : px_cell 48 (upd w 16 x) = .inl (6, (px_f48 w).set 16 (.int x)) := rfl
theorem s48_17 (w : Nat → Int32) (x : Int32) : px_cell 48 (upd w 17 x) = .inl (6, (px_f48 w).set 17 (.int x)) := rfl
theorem s48_18 (w : Nat → Int32) (x : Int32) : px_cell 48 (upd w 18 x) = .inl (6, (px_f48 w).set 18 (.int x)) := rfl
theorem s48_19 (w : Nat → Int32) (x : Int32) : px_cell 48 (upd w 19 x) = .inl (6, (px_f48 w).set 19 (.int x)) := rfl
theorem s48_20 (w : Nat → Int32) (x : Int32) : px_cell 48 (upd w 20 x) = .inl (6, (px_f48 w).set 20 (.int x)) := rfl
theorem s48_21 (w : Nat → Int32) (x : Int32) : px_cell 48 (upd w 21 x) = .inl (6, (px_f48 w).set 21 (.int x)) := rfl
theorem s48_22 (w : Nat → Int32) (x : Int32) : px_cell 48 (upd w 22 x) = .inl (6, (px_f48 w).set 22 (.int x)) := rfl
theorem s48_23 (w : Nat → Int32) (x : Int32) : px_cell 48 (upd w 23 x) = .inl (6, (px_f48 w).set 23 (.int x)) := rfl
theorem s48_24 (w : Nat → Int32) (x : Int32) : px_cell 48 (upd w 24 x) = .inl (6, (px_f48 w).set 24 (.int x)) := rfl
theorem s48_25 (w : Nat → Int32) (x : Int32) : px_cell 48 (upd w 25 x) = .inl (6, (px_f48 w).set 25 (.int x)) := rfl
theorem s48_26 (w : Nat → Int32) (x : Int32) : px_cell 48 (upd w 26 x) = .inl (6, (px_f48 w).set 26 (.int x)) := rfl
theorem s48_27 (w : Nat → Int32) (x : Int32) : px_cell 48 (upd w 27 x) = .inl (6, (px_f48 w).set 27 (.long x.toInt64)) := rfl
theorem s48_28 (w : Nat → Int32) (x : Int32) : px_cell 48 (upd w 28 x) = .inl (6, (px_f48 w).set 28 (.int x)) := rfl
theorem s48_29 (w : Nat → Int32) (x : Int32) : px_cell 48 (upd w 29 x) = .inl (6, (px_f48 w).set 29 (.int x)) := rfl
theorem s48_30 (w : Nat → Int32) (x : Int32) : px_cell 48 (upd w 30 x) = .inl (6, (px_f48 w).set 30 (.int x)) := rfl
theorem s48_31 (w : Nat → Int32) (x : Int32) : px_cell 48 (upd w 31 x) = .inl (6, (px_f48 w).set 31 (.int x)) := rfl
theorem s48_35 (w : Nat → Int32) (x : Int32) : px_cell 48 (upd w 35 x) = .inl (6, (px_f48 w).set 35 (.int x)) := rfl
theorem s48_36 (w : Nat → Int32) (x : Int32) : px_cell 48 (upd w 36 x) = .inl (6, (px_f48 w).set 36 (.int x)) := rfl
theorem s48_37 (w : Nat → Int32) (x : Int32) : px_cell 48 (upd w 37 x) = .inl (6, (px_f48 w).set 37 (.int x)) := rfl
theorem s48_42 (w : Nat → Int32) (x : Int32) : px_cell 48 (upd w 42 x) = .inl (6, (px_f48 w).set 42 (.int x)) := rfl
theorem s48_43 (w : Nat → Int32) (x : Int32) : px_cell 48 (upd w 43 x) = .inl (6, (px_f48 w).set 43 (.int x)) := rfl
theorem s48_44 (w : Nat → Int32) (x : Int32) : px_cell 48 (upd w 44 x) = .inl (6, (px_f48 w).set 44 (.int x)) := rfl
theorem s48_48 (w : Nat → Int32) (x : Int32) : px_cell 48 (upd w 48 x) = .inl (6, (px_f48 w).set 48 (.int x)) := rfl
theorem s48_49 (w : Nat → Int32) (x : Int32) : px_cell 48 (upd w 49 x) = .inl (6, (px_f48 w).set 49 (.int x)) := rfl
theorem s48_50 (w : Nat → Int32) (x : Int32) : px_cell 48 (upd w 50 x) = .inl (6, (px_f48 w).set 50 (.int x)) := rfl
theorem s48_51 (w : Nat → Int32) (x : Int32) : px_cell 48 (upd w 51 x) = .inl (6, (px_f48 w).set 51 (.int x)) := rfl
theorem s48_52 (w : Nat → Int32) (x : Int32) : px_cell 48 (upd w 52 x) = .inl (6, (px_f48 w).set 52 (.int x)) := rfl
theorem s48_53 (w : Nat → Int32) (x : Int32) : px_cell 48 (upd w 53 x) = .inl (6, (px_f48 w).set 53 (.int x)) := rfl
theorem s11_1 (w : Nat → Int32) (x : Int32) : px_cell 11 (upd w 1 x) = .inl (1, (px_f11 w).set 1 (.ref x.toNatClampNeg)) := rfl
abbrev px_isH (a : Nat) : Prop := a = 1 ∨ a = 6 ∨ a = 12
abbrev px_isS (a : Nat) : Prop := a = 38 ∨ a = 40 ∨ a = 42 ∨ a = 44
abbrev px_isT (T a : Nat) : Prop := a = 17 ∨ a = 46 ∨ (70 ≤ a ∧ a < 70 + 2 * T ∧ a % 2 = 0)
theorem cH {a : Nat} (ha : px_isH a) (w : Nat → Int32) : px_cell a w = px_house a w := by rcases ha with rfl | rfl | rfl <;> rfl
theorem cH1 {a : Nat} (ha : px_isH a) (w : Nat → Int32) : px_cell (a + 1) w = px_ia 7 w := by rcases ha with rfl | rfl | rfl <;> rfl
theorem cH2 {a : Nat} (ha : px_isH a) (w : Nat → Int32) : px_cell (a + 2) w = px_ia 7 w := by rcases ha with rfl | rfl | rfl <;> rfl
theorem cH3 {a : Nat} (ha : px_isH a) (w : Nat → Int32) : px_cell (a + 3) w = px_ia 49 w := by rcases ha with rfl | rfl | rfl <;> rfl
theorem cH4 {a : Nat} (ha : px_isH a) (w : Nat → Int32) : px_cell (a + 4) w = px_ia 7 w := by rcases ha with rfl | rfl | rfl <;> rfl
theorem sH_4 {a : Nat} (ha : px_isH a) (w : Nat → Int32) (x : Int32) : px_cell a (upd w 4 x) = .inl (0, ([.ref (a + 1), .ref (a + 2), .ref (a + 3), .ref (a + 4), .int (w 4), .int (w 5), .int (w 6), .int (w 7), .int (w 8), .int (w 9)] : List Value).set 4 (.int x)) := by rcases ha with rfl | rfl | rfl <;> rfl
theorem sH_5 {a : Nat} (ha : px_isH a) (w : Nat → Int32) (x : Int32) : px_cell a (upd w 5 x) = .inl (0, ([.ref (a + 1), .ref (a + 2), .ref (a + 3), .ref (a + 4), .int (w 4), .int (w 5), .int (w 6), .int (w 7), .int (w 8), .int (w 9)] : List Value).set 5 (.int x)) := by rcases ha with rfl | rfl | rfl <;> rfl
theorem sH_6 {a : Nat} (ha : px_isH a) (w : Nat → Int32) (x : Int32) : px_cell a (upd w 6 x) = .inl (0, ([.ref (a + 1), .ref (a + 2), .ref (a + 3), .ref (a + 4), .int (w 4), .int (w 5), .int (w 6), .int (w 7), .int (w 8), .int (w 9)] : List Value).set 6 (.int x)) := by rcases ha with rfl | rfl | rfl <;> rfl
theorem sH_7 {a : Nat} (ha : px_isH a) (w : Nat → Int32) (x : Int32) : px_cell a (upd w 7 x) = .inl (0, ([.ref (a + 1), .ref (a + 2), .ref (a + 3), .ref (a + 4), .int (w 4), .int (w 5), .int (w 6), .int (w 7), .int (w 8), .int (w 9)] : List Value).set 7 (.int x)) := by rcases ha with rfl | rfl | rfl <;> rfl
theorem sH_8 {a : Nat} (ha : px_isH a) (w : Nat → Int32) (x : Int32) : px_cell a (upd w 8 x) = .inl (0, ([.ref (a + 1), .ref (a + 2), .ref (a + 3), .ref (a + 4), .int (w 4), .int (w 5), .int (w 6), .int (w 7), .int (w 8), .int (w 9)] : List Value).set 8 (.int x)) := by rcases ha with rfl | rfl | rfl <;> rfl
theorem sH_9 {a : Nat} (ha : px_isH a) (w : Nat → Int32) (x : Int32) : px_cell a (upd w 9 x) = .inl (0, ([.ref (a + 1), .ref (a + 2), .ref (a + 3), .ref (a + 4), .int (w 4), .int (w 5), .int (w 6), .int (w 7), .int (w 8), .int (w 9)] : List Value).set 9 (.int x)) := by rcases ha with rfl | rfl | rfl <;> rfl
theorem cS {a : Nat} (ha : px_isS a) (w : Nat → Int32) : px_cell a w = px_sheet a w := by rcases ha with rfl | rfl | rfl | rfl <;> rfl
theorem cS1 {a : Nat} (ha : px_isS a) (w : Nat → Int32) : px_cell (a + 1) w = px_ia 40 w := by rcases ha with rfl | rfl | rfl | rfl <;> rfl
theorem sS_1 {a : Nat} (ha : px_isS a) (w : Nat → Int32) (x : Int32) : px_cell a (upd w 1 x) = .inl (3, ([.ref (a + 1), .int (w 1), .int (w 2)] : List Value).set 1 (.int x)) := by rcases ha with rfl | rfl | rfl | rfl <;> rfl
theorem sS_2 {a : Nat} (ha : px_isS a) (w : Nat → Int32) (x : Int32) : px_cell a (upd w 2 x) = .inl (3, ([.ref (a + 1), .int (w 1), .int (w 2)] : List Value).set 2 (.int x)) := by rcases ha with rfl | rfl | rfl | rfl <;> rfl
theorem px_cell_hi (k : Nat) (w : Nat → Int32) : px_cell (k + 70) w = if (k + 70) % 2 = 0 then px_text (k + 70) w else px_code w := rfl
theorem cT {T a : Nat} (ha : px_isT T a) (w : Nat → Int32) : px_cell a w = px_text a w := by
  rcases ha with rfl | rfl | ⟨h1, h2, h3⟩
  · rfl
  · rfl
  · obtain ⟨k, rfl⟩ : ∃ k, a = k + 70 := ⟨a - 70, by omega⟩
    rw [px_cell_hi, if_pos h3]
theorem cT1 {T a : Nat} (ha : px_isT T a) (w : Nat → Int32) : px_cell (a + 1) w = px_code w := by
  rcases ha with rfl | rfl | ⟨h1, h2, h3⟩
  · rfl
  · rfl
  · obtain ⟨k, rfl⟩ : ∃ k, a = k + 70 := ⟨a - 70, by omega⟩
    rw [show k + 70 + 1 = (k + 1) + 70 by omega, px_cell_hi, if_neg (by omega)]
abbrev px_S : Type := Nat → Nat → Int32
def px_n (T : Nat) : Nat := 70 + 2 * T
def HP (T : Nat) (st : px_S) : List px_C := (List.range (px_n T)).map (fun k => px_cell k (st k))
def upr (st : px_S) (a : Nat) (w : Nat → Int32) : px_S := fun b => if b = a then w else st b
def up (st : px_S) (a j : Nat) (x : Int32) : px_S := upr st a (upd (st a) j x)
theorem hp_len (T : Nat) (st : px_S) : (HP T st).length = px_n T := by simp [HP]
theorem hp_get {T a : Nat} (st : px_S) (ha : a < px_n T) : (HP T st)[a]? = some (px_cell a (st a)) := by
  simp [HP, List.getElem?_map, List.getElem?_range ha]
theorem px_map_set (f : Nat → (Nat → Int32) → px_C) (N : Nat) (st : px_S) (a : Nat) (w : Nat → Int32) : ((List.range N).map (fun k => f k (st k))).set a (f a w) = (List.range N).map (fun k => f k (upr st a w k)) := by
  apply List.ext_getElem?
  intro i
  rw [List.getElem?_set]
  by_cases hl : i < N
  · have e1 : ((List.range N).map (fun k => f k (upr st a w k)))[i]? = some (f i (upr st a w i)) := by rw [List.getElem?_map, List.getElem?_range hl]; rfl
    have e2 : ((List.range N).map (fun k => f k (st k)))[i]? = some (f i (st i)) := by rw [List.getElem?_map, List.getElem?_range hl]; rfl
    have e3 : ((List.range N).map (fun k => f k (st k))).length = N := by rw [List.length_map, List.length_range]
    rw [e1, e2, e3]
    by_cases hi : a = i
    · subst hi
      rw [if_pos rfl, if_pos hl]
      simp only [upr, if_true]
    · rw [if_neg hi]
      have e : upr st a w i = st i := by simp only [upr, Ne.symm hi, if_false]
      rw [e]
  · have e1 : ((List.range N).map (fun k => f k (upr st a w k)))[i]? = none := List.getElem?_eq_none (by rw [List.length_map, List.length_range]; omega)
    have e2 : ((List.range N).map (fun k => f k (st k)))[i]? = none := List.getElem?_eq_none (by rw [List.length_map, List.length_range]; omega)
    have e3 : ((List.range N).map (fun k => f k (st k))).length = N := by rw [List.length_map, List.length_range]
    rw [e1, e2, e3]
    by_cases hi : a = i
    · rw [if_pos hi, if_neg (by omega)]
    · rw [if_neg hi]
theorem hp_set (T : Nat) (st : px_S) {a : Nat} {w : Nat → Int32} {c : px_C} (hc : px_cell a w = c) : (HP T st).set a c = HP T (upr st a w) := by
  rw [← hc]
  exact px_map_set px_cell (px_n T) st a w
theorem px_nm_upd {n i : Nat} (w : Nat → Int32) (x : Int32) (hi : i < n) : upd (px_nm n w) i x = px_nm n (upd w i x) := by
  funext j
  by_cases hj : j = i
  · subst hj; simp [upd, px_nm, hi]
  · simp [upd, px_nm, hj]
abbrev px_in (i : Int32) (n : Nat) : Prop := 0 ≤ i ∧ i.toNatClampNeg < n
theorem px_in_vp {i : Int32} {n : Nat} (h : px_in i n) : vp_in i n := by
  rintro (q | q)
  · exact Int32.not_lt.mpr h.1 q
  · exact absurd h.2 (Nat.not_lt.mpr q)
theorem px_nm_at {n i : Nat} (w : Nat → Int32) (hi : i < n) : px_nm n w i = w i := by simp [px_nm, hi]
def px_gi (T : Nat) (b : Int32 × px_S) : Option Value × List px_C := (some (.int b.1), HP T b.2)
def px_gl (T : Nat) (b : Int64 × px_S) : Option Value × List px_C := (some (.long b.1), HP T b.2)
def px_gv (T : Nat) (b : px_S) : Option Value × List px_C := (none, HP T b)
def px_gr (T a : Nat) (b : px_S) : Option Value × List px_C := (some (.ref a), HP T b)
def px_g0 (h : List px_C) (b : Int32) : Option Value × List px_C := (some (.int b), h)
/-- fewer locals known -/
def px_le : List (Option Value) → List (Option Value) → Prop
  | [], _ => True
  | none :: a, [] => px_le a []
  | some _ :: _, [] => False
  | none :: a, _ :: b => px_le a b
  | some v :: a, o :: b => o = some v ∧ px_le a b
theorem px_le_at : ∀ (a b : List (Option Value)) (i : Nat) (v : Value), px_le a b → a[i]? = some (some v) → b[i]? = some (some v)
  | [], _, _, _, _, h => by simp at h
  | none :: a, [], 0, _, _, h => by simp at h
  | none :: a, [], i + 1, v, hl, h => by
    have := px_le_at a [] i v hl (by simpa using h)
    simp at this
  | some _ :: _, [], _, _, hl, _ => by cases hl
  | none :: a, o :: b, 0, v, hl, h => by simp at h
  | none :: a, o :: b, i + 1, v, hl, h => by simpa using px_le_at a b i v hl (by simpa using h)
  | some u :: a, o :: b, 0, v, hl, h => by simp at h; subst h; simpa using hl.1
  | some u :: a, o :: b, i + 1, v, hl, h => by simpa using px_le_at a b i v hl.2 (by simpa using h)
section PXH
variable {β : Type} {Z : px_Z} {g : β → Option Value × List px_C} {res A B : Option β} {pc idx : Nat} {L : List (Option Value)} {S S1 : List Value} {T : Nat} {st : px_S} {kc ks : Nat}
theorem o_weak {L' : List (Option Value)} {h : List px_C} (hl : px_le L' L) (K : px_O Z g res pc L' S h kc ks) : px_O Z g res pc L S h kc ks := by
  intro b hb p l e s m args below meth c D ty r0 adV r H locs ls C X Lc
  exact K b hb _ _ _ _ _ _ _ _ _ _ _ _ _ _ _ _ _ C X ⟨Lc.1, Lc.2.1, fun i v hv => Lc.2.2 i v (px_le_at _ _ i v hl hv)⟩
def px_PF (q : vw_C) (k : Nat) (ty : FieldType) : Prop := k < q.2.2 ∧ (q.2.1 k).2.2.2 = false ∧ parseFieldDescriptor (q.2.1 k).2.2.1 = some ty
variable {a ci k n : Nat} {fs : List Value} {q : vw_C}
theorem h_get {v : Value} (hd : decode Z.2.2.2.2.2.1 pc = .ok (.getfield idx, 3)) (hq : vwCl[ci]? = some q) (hl : px_FL Z.2.2.2.2.1.cls idx q k) (hk : k < q.2.2) (ha : a < px_n T) (hc : px_cell a (st a) = .inl (ci, fs)) (hv : fs[k]? = some v) (K : px_O Z g res (pc + 3) L (v :: S) (HP T st) kc ks) : px_O Z g res pc L (.ref a :: S) (HP T st) kc ks :=
  o_get hd hq hl hk (by rw [hp_get st ha, hc]) hv K
theorem h_puti {x : Int32} (hd : decode Z.2.2.2.2.2.1 pc = .ok (.putfield idx, 3)) (hq : vwCl[ci]? = some q) (hl : px_FL Z.2.2.2.2.1.cls idx q k) (hp : px_PF q k .int) (ha : a < px_n T) (hc : px_cell a (st a) = .inl (ci, fs)) (hlen : k < fs.length) (hs : px_cell a (upd (st a) k x) = .inl (ci, fs.set k (.int x))) (K : px_O Z g res (pc + 3) L S (HP T (up st a k x)) kc ks) : px_O Z g res pc L (.int x :: .ref a :: S) (HP T st) kc ks :=
  o_put hd hq hl hp.1 hp.2.1 hp.2.2 (fun _ => rfl) (fun _ => rfl) (by rw [hp_get st ha, hc]) hlen (hp_set T st hs) K
theorem h_putz {x : Int32} (hd : decode Z.2.2.2.2.2.1 pc = .ok (.putfield idx, 3)) (hq : vwCl[ci]? = some q) (hl : px_FL Z.2.2.2.2.1.cls idx q k) (hp : px_PF q k .boolean) (hx : x = 0 ∨ x = 1) (ha : a < px_n T) (hc : px_cell a (st a) = .inl (ci, fs)) (hlen : k < fs.length) (hs : px_cell a (upd (st a) k x) = .inl (ci, fs.set k (.int x))) (K : px_O Z g res (pc + 3) L S (HP T (up st a k x)) kc ks) : px_O Z g res pc L (.int x :: .ref a :: S) (HP T st) kc ks :=
  o_put hd hq hl hp.1 hp.2.1 hp.2.2 (fun _ => by rcases hx with rfl | rfl <;> rfl) (fun _ => by rcases hx with rfl | rfl <;> rfl) (by rw [hp_get st ha, hc]) hlen (hp_set T st hs) K
theorem h_putl {x : Int32} {v : Int64} (hv : x.toInt64 = v) (hd : decode Z.2.2.2.2.2.1 pc = .ok (.putfield idx, 3)) (hq : vwCl[ci]? = some q) (hl : px_FL Z.2.2.2.2.1.cls idx q k) (hp : px_PF q k .long) (ha : a < px_n T) (hc : px_cell a (st a) = .inl (ci, fs)) (hlen : k < fs.length) (hs : px_cell a (upd (st a) k x) = .inl (ci, fs.set k (.long x.toInt64))) (K : px_O Z g res (pc + 3) L S (HP T (up st a k x)) kc ks) : px_O Z g res pc L (.long v :: .ref a :: S) (HP T st) kc ks := by
  subst hv
  exact o_put hd hq hl hp.1 hp.2.1 hp.2.2 (fun _ => rfl) (fun _ => rfl) (by rw [hp_get st ha, hc]) hlen (hp_set T st hs) K
theorem h_putr {x : Int32} {C : String} (hd : decode Z.2.2.2.2.2.1 pc = .ok (.putfield idx, 3)) (hq : vwCl[ci]? = some q) (hl : px_FL Z.2.2.2.2.1.cls idx q k) (hp : px_PF q k (.object C)) (ha : a < px_n T) (hc : px_cell a (st a) = .inl (ci, fs)) (hlen : k < fs.length) (hs : px_cell a (upd (st a) k x) = .inl (ci, fs.set k (.ref x.toNatClampNeg))) (K : px_O Z g res (pc + 3) L S (HP T (up st a k x)) kc ks) : px_O Z g res pc L (.ref x.toNatClampNeg :: .ref a :: S) (HP T st) kc ks :=
  o_put hd hq hl hp.1 hp.2.1 hp.2.2 (fun _ => rfl) (fun _ => rfl) (by rw [hp_get st ha, hc]) hlen (hp_set T st hs) K
theorem h_ald {i : Int32} (hd : decode Z.2.2.2.2.2.1 pc = .ok (.iaload, 1)) (ha : a < px_n T) (hc : px_cell a (st a) = px_ia n (st a)) (hi : px_in i n) (K : px_O Z g res (pc + 1) L (.int (st a i.toNatClampNeg) :: S) (HP T st) kc ks) : px_O Z g res pc L (.int i :: .ref a :: S) (HP T st) kc ks :=
  o_iald (n := n) (f := px_nm n (st a)) hd (by rw [hp_get st ha, hc]) (px_in_vp hi) (by rw [px_nm_at _ hi.2]; exact K)
theorem h_iald {i : Int32} (hd : decode Z.2.2.2.2.2.1 pc = .ok (.iaload, 1)) (ha : a < px_n T) (hc : px_cell a (st a) = px_ia n (st a)) (K : px_in i n → px_O Z g A (pc + 1) L (.int (st a i.toNatClampNeg) :: S) (HP T st) kc ks) : px_O Z g (if px_in i n then A else none) pc L (.int i :: .ref a :: S) (HP T st) kc ks :=
  o_ite (fun hi => h_ald hd ha hc hi (K hi)) (fun _ => o_none)
theorem h_ast {i x : Int32} (hd : decode Z.2.2.2.2.2.1 pc = .ok (.iastore, 1)) (ha : a < px_n T) (hc : ∀ w, px_cell a w = px_ia n w) (hi : px_in i n) (K : px_O Z g res (pc + 1) L S (HP T (up st a i.toNatClampNeg x)) kc ks) : px_O Z g res pc L (.int x :: .int i :: .ref a :: S) (HP T st) kc ks :=
  o_iast (n := n) (f := px_nm n (st a)) hd (by rw [hp_get st ha, hc]) (px_in_vp hi) (hp_set T st (w := upd (st a) i.toNatClampNeg x) (by rw [hc, px_nm_upd _ _ hi.2])) K
theorem h_iast {i x : Int32} (hd : decode Z.2.2.2.2.2.1 pc = .ok (.iastore, 1)) (ha : a < px_n T) (hc : ∀ w, px_cell a w = px_ia n w) (K : px_in i n → px_O Z g A (pc + 1) L S (HP T (up st a i.toNatClampNeg x)) kc ks) : px_O Z g (if px_in i n then A else none) pc L (.int x :: .int i :: .ref a :: S) (HP T st) kc ks :=
  o_ite (fun hi => h_ast hd ha hc hi (K hi)) (fun _ => o_none)
theorem h_zald {i : Int32} (hd : decode Z.2.2.2.2.2.1 pc = .ok (.baload, 1)) (ha : a < px_n T) (hc : px_cell a (st a) = px_za n (st a)) (K : px_in i n → px_O Z g A (pc + 1) L (.int (st a i.toNatClampNeg) :: S) (HP T st) kc ks) : px_O Z g (if px_in i n then A else none) pc L (.int i :: .ref a :: S) (HP T st) kc ks :=
  o_ite (fun hi => o_zald (n := n) (f := px_nm n (st a)) hd (by rw [hp_get st ha, hc]) (px_in_vp hi) (by rw [px_nm_at _ hi.2]; exact K hi)) (fun _ => o_none)
theorem h_zast {i x : Int32} (hd : decode Z.2.2.2.2.2.1 pc = .ok (.bastore, 1)) (ha : a < px_n T) (hc : ∀ w, px_cell a w = px_za n w) (hx : vp_nar .boolean x = x) (K : px_in i n → px_O Z g A (pc + 1) L S (HP T (up st a i.toNatClampNeg x)) kc ks) : px_O Z g (if px_in i n then A else none) pc L (.int x :: .int i :: .ref a :: S) (HP T st) kc ks :=
  o_ite (fun hi => o_zast (n := n) (f := px_nm n (st a)) hd (by rw [hp_get st ha, hc]) (px_in_vp hi) (hp_set T st (w := upd (st a) i.toNatClampNeg x) (by rw [hc, hx, px_nm_upd _ _ hi.2])) (K hi)) (fun _ => o_none)
theorem h_alen {v : Int32} (hd : decode Z.2.2.2.2.2.1 pc = .ok (.arraylength, 1)) (ha : a < px_n T) (hc : px_cell a (st a) = px_ia n (st a)) (hv : Int32.ofNat n = v) (K : px_O Z g res (pc + 1) L (.int v :: S) (HP T st) kc ks) : px_O Z g res pc L (.ref a :: S) (HP T st) kc ks :=
  o_alen (Or.inl rfl) hd (by rw [hp_get st ha, hc]) hv K
/-- sheets[i] -/
theorem h_sald {i : Int32} (hd : decode Z.2.2.2.2.2.1 pc = .ok (.aaload, 1)) (K : px_in i 4 → px_isS (38 + 2 * i.toNatClampNeg) → px_O Z g A (pc + 1) L (.ref (38 + 2 * i.toNatClampNeg) :: S) (HP T st) kc ks) : px_O Z g (if px_in i 4 then A else none) pc L (.int i :: .ref 37 :: S) (HP T st) kc ks :=
  o_ite (fun hi => o_aald (v := .ref (38 + 2 * i.toNatClampNeg)) (Or.inr rfl) hd (by rw [hp_get st (by unfold px_n; omega)]; rfl) (px_in_vp hi) (by simp [hi.2, va_rf]) (K hi (by have := hi.2; unfold px_isS; omega))) (fun _ => o_none)
/-- texts[i] -/
theorem h_tald {i : Int32} (hd : decode Z.2.2.2.2.2.1 pc = .ok (.aaload, 1)) (K : px_in i 6 → ∀ x, x = st 36 i.toNatClampNeg → px_O Z g A (pc + 1) L (va_rf (px_on x) :: S) (HP T st) kc ks) : px_O Z g (if px_in i 6 then A else none) pc L (.int i :: .ref 36 :: S) (HP T st) kc ks :=
  o_ite (fun hi => o_aald (v := va_rf (px_on (st 36 i.toNatClampNeg))) (Or.inl rfl) hd (by rw [hp_get st (by unfold px_n; omega)]; rfl) (px_in_vp hi) (by simp [hi.2]) (K hi _ rfl)) (fun _ => o_none)
theorem px_nm_cpy {n sp dp m : Nat} (w w1 : Nat → Int32) {n1 : Nat} (h1 : sp + m ≤ n) (h2 : dp + m ≤ n1) : va_cpy (px_nm n w) (px_nm n1 w1) sp dp m = px_nm n1 (va_cpy w w1 sp dp m) := by
  funext j
  simp only [va_cpy, px_nm]
  by_cases hj : dp ≤ j ∧ j < dp + m
  · rw [if_pos hj, if_pos hj, if_pos (by omega), if_pos (by omega)]
  · rw [if_neg hj, if_neg hj]
theorem h_copy {a0 n0 n1 : Nat} {sp dp m : Int32} (hd : decode Z.2.2.2.2.2.1 pc = .ok (.invokestatic idx, 3)) (w1 : Cond.methodLink Z.2.2.2.2.1.cls idx arraycopyName ∈ px_T) (w2 : Cond.native arraycopyName ∈ px_T) (w3 : Cond.static arraycopyName ∈ px_T) (w4 : Cond.initialized "java/lang/System" ∈ px_T) (ha0 : a0 < px_n T) (ha : a < px_n T) (hc0 : px_cell a0 (st a0) = px_ia n0 (st a0)) (hc1 : ∀ w, px_cell a w = px_ia n1 w) (hz : 1 ≤ Z.1) (hw : (S.map fun v => v.category).sum ≤ 8) (K : px_O Z g A (pc + 3) L S (HP T (upr st a (va_cpy (st a0) (st a) sp.toNatClampNeg dp.toNatClampNeg m.toNatClampNeg))) kc ks) : px_O Z g (if (¬ sp < 0 ∧ ¬ dp < 0 ∧ ¬ m < 0) ∧ sp.toNatClampNeg + m.toNatClampNeg ≤ n0 ∧ dp.toNatClampNeg + m.toNatClampNeg ≤ n1 then A else none) pc L (.int m :: .int dp :: .ref a :: .int sp :: .ref a0 :: S) (HP T st) kc ks :=
  o_ite (fun q => o_copy (n0 := n0) (n1 := n1) hd w1 w2 w3 w4 (by rw [hp_get st ha0, hc0]) (by rw [hp_get st ha, hc1]) q.1.1 q.1.2.1 q.1.2.2 q.2.1 q.2.2 hz hw (hp_set T st (by rw [hc1, px_nm_cpy _ _ q.2.1 q.2.2])) K) (fun _ => o_none)
end PXH
theorem px_KofH {β : Type} {g : β → Option Value × List px_C} {f : Option β} {b : β} {d mc ms n T : Nat} {st : px_S} {M : px_M} {as : List Value} {L : List (Option Value)} (hf : f = some b) (hm : px_MF M n) (hn : (px_ex as).length ≤ M.2.2.1) (hL : px_ex as ++ List.replicate (M.2.2.1 - (px_ex as).length) none = L) (K : px_O (d, mc, ms, px_n T, M) g f 0 L [] (HP T st) 0 0) : px_K d mc ms M as (HP T st) (g b).1 (g b).2 :=
  px_Kof hf hm hn hL (by rw [hp_len]; exact K)
theorem px_lt {T a : Nat} (h : a < 70) : a < px_n T := by unfold px_n; omega
theorem px_ltH {T a : Nat} (j : Nat) (hj : j < 5) (h : px_isH a) : a + j < px_n T := by unfold px_n; unfold px_isH at h; omega
theorem px_ltS {T a : Nat} (j : Nat) (hj : j < 2) (h : px_isS a) : a + j < px_n T := by unfold px_n; unfold px_isS at h; omega
theorem px_ltT {T a : Nat} (j : Nat) (hj : j < 2) (h : px_isT T a) : a + j < px_n T := by unfold px_n; unfold px_isT at h; omega
end
section
theorem px_Tm {w : Cond} (i : Nat) (h : tables_1[i]? = some w) (hg : goodWord w = true) : w ∈ px_T := List.mem_filter.mpr ⟨List.mem_append_right _ (List.mem_of_getElem? h), hg⟩
theorem px_Ts {w : Cond} (i : Nat) (h : (k2_sels lw_privs)[i]? = some w) (hg : goodWord w = true) : w ∈ px_T := List.mem_filter.mpr ⟨List.mem_append_left _ (List.mem_of_getElem? h), hg⟩
theorem px_Tn {w : Cond} (i : Nat) (h : tables_1[i]? = some w) (hg : px_isNest w = true) : w ∈ px_Nt := List.mem_filter.mpr ⟨List.mem_of_getElem? h, hg⟩
abbrev Q0 : vw_C := (RX0, TX0, 10)
abbrev Q1 : vw_C := (RX1, TX1, 16)
abbrev Q2 : vw_C := (RX2, TX2, 8)
abbrev Q3 : vw_C := (RX3, TX3, 3)
abbrev Q4 : vw_C := (RX4, TX4, 3)
abbrev Q5 : vw_C := (RX5, TX5, 8)
abbrev Q6 : vw_C := (RX6, TX6, 58)
theorem q0 : vwCl[0]? = some Q0 := rfl
theorem q1 : vwCl[1]? = some Q1 := rfl
theorem q2 : vwCl[2]? = some Q2 := rfl
theorem q3 : vwCl[3]? = some Q3 := rfl
theorem q4 : vwCl[4]? = some Q4 := rfl
theorem q5 : vwCl[5]? = some Q5 := rfl
theorem q6 : vwCl[6]? = some Q6 := rfl
theorem hp_at {T a : Nat} {st : px_S} {c : px_C} (ha : a < px_n T) (hc : px_cell a (st a) = c) : (HP T st)[a]? = some c := by rw [hp_get st ha, hc]
theorem px_ite_some {α : Type} (c : Prop) {i : Decidable c} (a b : α) : (if c then some a else some b) = some (if c then a else b) := by split <;> rfl
/-- what an instance method's call rests on -/
def px_MV (M : px_M) : Prop := Cond.instanceMethod M.1 ∈ px_T ∧ Cond.selects M.1.cls M.1 M.1 ∈ px_T
section PXQ
variable {β : Type} {Z : px_Z} {g : β → Option Value × List px_C} {res A B : Option β} {pc idx : Nat} {L : List (Option Value)} {S S1 : List Value} {T : Nat} {st : px_S} {h : List px_C}
variable {M' : px_M} {n d' : Nat} {as : List Value}
theorem h_cVi {x : Option (Int32 × px_S)} {F : Int32 × px_S → Option β} (hd : decode Z.2.2.2.2.2.1 pc = .ok (.invokevirtual idx, 3)) (hm : px_MF M' n) (hl : Cond.methodLink Z.2.2.2.2.1.cls idx M'.1 ∈ px_T) (hv : px_MV M') {a ci : Nat} {fs : List Value} {q : vw_C} (hq : vwCl[ci]? = some q) (hqc : q.1 = M'.1.cls) (hc : (HP T st)[a]? = some (.inl (ci, fs))) (hn : as.length = n) (hdd : d' + 1 ≤ Z.1) (hS : S = as.reverse ++ .ref a :: S1) (hw : (S1.map fun v => v.category).sum ≤ 8) (hK : ∀ b, x = some b → px_K d' 0 0 M' (.ref a :: as) (HP T st) (px_gi T b).1 (px_gi T b).2) (K : ∀ b, x = some b → px_O Z g (F b) (pc + 3) L (.int b.1 :: S1) (HP T b.2) 0 0) : px_O Z g (x.bind F) pc L S (HP T st) 0 0 :=
  o_cV (g' := px_gi T) hd hm hl hv.1 hv.2 hq hqc hc hn hK hdd hS hw ⟨Nat.zero_le _, Nat.zero_le _⟩ (fun b _ => (hp_len T _).trans (hp_len T _).symm) K
theorem h_cVv {x : Option (px_S)} {F : px_S → Option β} (hd : decode Z.2.2.2.2.2.1 pc = .ok (.invokevirtual idx, 3)) (hm : px_MF M' n) (hl : Cond.methodLink Z.2.2.2.2.1.cls idx M'.1 ∈ px_T) (hv : px_MV M') {a ci : Nat} {fs : List Value} {q : vw_C} (hq : vwCl[ci]? = some q) (hqc : q.1 = M'.1.cls) (hc : (HP T st)[a]? = some (.inl (ci, fs))) (hn : as.length = n) (hdd : d' + 1 ≤ Z.1) (hS : S = as.reverse ++ .ref a :: S1) (hw : (S1.map fun v => v.category).sum ≤ 8) (hK : ∀ b, x = some b → px_K d' 0 0 M' (.ref a :: as) (HP T st) (px_gv T b).1 (px_gv T b).2) (K : ∀ b, x = some b → px_O Z g (F b) (pc + 3) L (S1) (HP T b) 0 0) : px_O Z g (x.bind F) pc L S (HP T st) 0 0 :=
  o_cV (g' := px_gv T) hd hm hl hv.1 hv.2 hq hqc hc hn hK hdd hS hw ⟨Nat.zero_le _, Nat.zero_le _⟩ (fun b _ => (hp_len T _).trans (hp_len T _).symm) K
theorem h_cVl {x : Option (Int64 × px_S)} {F : Int64 × px_S → Option β} (hd : decode Z.2.2.2.2.2.1 pc = .ok (.invokevirtual idx, 3)) (hm : px_MF M' n) (hl : Cond.methodLink Z.2.2.2.2.1.cls idx M'.1 ∈ px_T) (hv : px_MV M') {a ci : Nat} {fs : List Value} {q : vw_C} (hq : vwCl[ci]? = some q) (hqc : q.1 = M'.1.cls) (hc : (HP T st)[a]? = some (.inl (ci, fs))) (hn : as.length = n) (hdd : d' + 1 ≤ Z.1) (hS : S = as.reverse ++ .ref a :: S1) (hw : (S1.map fun v => v.category).sum ≤ 8) (hK : ∀ b, x = some b → px_K d' 0 0 M' (.ref a :: as) (HP T st) (px_gl T b).1 (px_gl T b).2) (K : ∀ b, x = some b → px_O Z g (F b) (pc + 3) L (.long b.1 :: S1) (HP T b.2) 0 0) : px_O Z g (x.bind F) pc L S (HP T st) 0 0 :=
  o_cV (g' := px_gl T) hd hm hl hv.1 hv.2 hq hqc hc hn hK hdd hS hw ⟨Nat.zero_le _, Nat.zero_le _⟩ (fun b _ => (hp_len T _).trans (hp_len T _).symm) K
theorem h_cVr {x : Option px_S} {F : px_S → Option β} {ra : Nat} (hd : decode Z.2.2.2.2.2.1 pc = .ok (.invokevirtual idx, 3)) (hm : px_MF M' n) (hl : Cond.methodLink Z.2.2.2.2.1.cls idx M'.1 ∈ px_T) (hv : px_MV M') {a ci : Nat} {fs : List Value} {q : vw_C} (hq : vwCl[ci]? = some q) (hqc : q.1 = M'.1.cls) (hc : (HP T st)[a]? = some (.inl (ci, fs))) (hn : as.length = n) (hdd : d' + 1 ≤ Z.1) (hS : S = as.reverse ++ .ref a :: S1) (hw : (S1.map fun v => v.category).sum ≤ 8) (hK : ∀ b, x = some b → px_K d' 0 0 M' (.ref a :: as) (HP T st) (px_gr T ra b).1 (px_gr T ra b).2) (K : ∀ b, x = some b → px_O Z g (F b) (pc + 3) L (.ref ra :: S1) (HP T b) 0 0) : px_O Z g (x.bind F) pc L S (HP T st) 0 0 :=
  o_cV (g' := px_gr T ra) hd hm hl hv.1 hv.2 hq hqc hc hn hK hdd hS hw ⟨Nat.zero_le _, Nat.zero_le _⟩ (fun b _ => (hp_len T _).trans (hp_len T _).symm) K
theorem h_cV0 {kc ks : Nat} {x : Option Int32} {F : Int32 → Option β} (hd : decode Z.2.2.2.2.2.1 pc = .ok (.invokevirtual idx, 3)) (hm : px_MF M' n) (hl : Cond.methodLink Z.2.2.2.2.1.cls idx M'.1 ∈ px_T) (hv : px_MV M') {a ci : Nat} {fs : List Value} {q : vw_C} (hq : vwCl[ci]? = some q) (hqc : q.1 = M'.1.cls) (hc : h[a]? = some (.inl (ci, fs))) (hn : as.length = n) (hdd : d' + 1 ≤ Z.1) (hS : S = as.reverse ++ .ref a :: S1) (hw : (S1.map fun v => v.category).sum ≤ 8) (hf : kc ≤ Z.2.1 ∧ ks ≤ Z.2.2.1) (hK : ∀ b, x = some b → px_K d' 0 0 M' (.ref a :: as) h (some (.int b)) h) (K : ∀ b, x = some b → px_O Z g (F b) (pc + 3) L (.int b :: S1) h kc ks) : px_O Z g (x.bind F) pc L S h kc ks :=
  o_cV (g' := px_g0 h) hd hm hl hv.1 hv.2 hq hqc hc hn hK hdd hS hw hf (fun b _ => rfl) K
theorem h_cVP {kc ks : Nat} {v : Int32} (hd : decode Z.2.2.2.2.2.1 pc = .ok (.invokevirtual idx, 3)) (hm : px_MF M' n) (hl : Cond.methodLink Z.2.2.2.2.1.cls idx M'.1 ∈ px_T) (hv : px_MV M') {a ci : Nat} {fs : List Value} {q : vw_C} (hq : vwCl[ci]? = some q) (hqc : q.1 = M'.1.cls) (hc : h[a]? = some (.inl (ci, fs))) (hn : as.length = n) (hdd : d' + 1 ≤ Z.1) (hS : S = as.reverse ++ .ref a :: S1) (hw : (S1.map fun v => v.category).sum ≤ 8) (hf : kc ≤ Z.2.1 ∧ ks ≤ Z.2.2.1) (hK : px_K d' 0 0 M' (.ref a :: as) h (some (.int v)) h) (K : px_O Z g res (pc + 3) L (.int v :: S1) h kc ks) : px_O Z g res pc L S h kc ks :=
  o_cV (x := some v) (F := fun _ => res) (g' := px_g0 h) hd hm hl hv.1 hv.2 hq hqc hc hn (fun b hb => by cases hb; exact hK) hdd hS hw hf (fun b _ => rfl) (fun b hb => by cases hb; exact K)
theorem h_cSi {x : Option (Int32 × px_S)} {F : Int32 × px_S → Option β} (hd : decode Z.2.2.2.2.2.1 pc = .ok (.invokestatic idx, 3)) (hm : px_MF M' n) (hl : Cond.methodLink Z.2.2.2.2.1.cls idx M'.1 ∈ px_T) (hst : Cond.static M'.1 ∈ px_T) (hn : as.length = n) (hdd : d' + 1 ≤ Z.1) (hS : S = as.reverse ++ S1) (hw : (S1.map fun v => v.category).sum ≤ 8) (hK : ∀ b, x = some b → px_K d' 0 0 M' as (HP T st) (px_gi T b).1 (px_gi T b).2) (K : ∀ b, x = some b → px_O Z g (F b) (pc + 3) L (.int b.1 :: S1) (HP T b.2) 0 0) : px_O Z g (x.bind F) pc L S (HP T st) 0 0 :=
  o_cS (g' := px_gi T) hd hm hl hst hn hK hdd hS hw ⟨Nat.zero_le _, Nat.zero_le _⟩ (fun b _ => (hp_len T _).trans (hp_len T _).symm) K
theorem h_cSv {x : Option (px_S)} {F : px_S → Option β} (hd : decode Z.2.2.2.2.2.1 pc = .ok (.invokestatic idx, 3)) (hm : px_MF M' n) (hl : Cond.methodLink Z.2.2.2.2.1.cls idx M'.1 ∈ px_T) (hst : Cond.static M'.1 ∈ px_T) (hn : as.length = n) (hdd : d' + 1 ≤ Z.1) (hS : S = as.reverse ++ S1) (hw : (S1.map fun v => v.category).sum ≤ 8) (hK : ∀ b, x = some b → px_K d' 0 0 M' as (HP T st) (px_gv T b).1 (px_gv T b).2) (K : ∀ b, x = some b → px_O Z g (F b) (pc + 3) L (S1) (HP T b) 0 0) : px_O Z g (x.bind F) pc L S (HP T st) 0 0 :=
  o_cS (g' := px_gv T) hd hm hl hst hn hK hdd hS hw ⟨Nat.zero_le _, Nat.zero_le _⟩ (fun b _ => (hp_len T _).trans (hp_len T _).symm) K
theorem h_cSl {x : Option (Int64 × px_S)} {F : Int64 × px_S → Option β} (hd : decode Z.2.2.2.2.2.1 pc = .ok (.invokestatic idx, 3)) (hm : px_MF M' n) (hl : Cond.methodLink Z.2.2.2.2.1.cls idx M'.1 ∈ px_T) (hst : Cond.static M'.1 ∈ px_T) (hn : as.length = n) (hdd : d' + 1 ≤ Z.1) (hS : S = as.reverse ++ S1) (hw : (S1.map fun v => v.category).sum ≤ 8) (hK : ∀ b, x = some b → px_K d' 0 0 M' as (HP T st) (px_gl T b).1 (px_gl T b).2) (K : ∀ b, x = some b → px_O Z g (F b) (pc + 3) L (.long b.1 :: S1) (HP T b.2) 0 0) : px_O Z g (x.bind F) pc L S (HP T st) 0 0 :=
  o_cS (g' := px_gl T) hd hm hl hst hn hK hdd hS hw ⟨Nat.zero_le _, Nat.zero_le _⟩ (fun b _ => (hp_len T _).trans (hp_len T _).symm) K
theorem h_cSr {x : Option px_S} {F : px_S → Option β} {ra : Nat} (hd : decode Z.2.2.2.2.2.1 pc = .ok (.invokestatic idx, 3)) (hm : px_MF M' n) (hl : Cond.methodLink Z.2.2.2.2.1.cls idx M'.1 ∈ px_T) (hst : Cond.static M'.1 ∈ px_T) (hn : as.length = n) (hdd : d' + 1 ≤ Z.1) (hS : S = as.reverse ++ S1) (hw : (S1.map fun v => v.category).sum ≤ 8) (hK : ∀ b, x = some b → px_K d' 0 0 M' as (HP T st) (px_gr T ra b).1 (px_gr T ra b).2) (K : ∀ b, x = some b → px_O Z g (F b) (pc + 3) L (.ref ra :: S1) (HP T b) 0 0) : px_O Z g (x.bind F) pc L S (HP T st) 0 0 :=
  o_cS (g' := px_gr T ra) hd hm hl hst hn hK hdd hS hw ⟨Nat.zero_le _, Nat.zero_le _⟩ (fun b _ => (hp_len T _).trans (hp_len T _).symm) K
theorem h_cS0 {kc ks : Nat} {x : Option Int32} {F : Int32 → Option β} (hd : decode Z.2.2.2.2.2.1 pc = .ok (.invokestatic idx, 3)) (hm : px_MF M' n) (hl : Cond.methodLink Z.2.2.2.2.1.cls idx M'.1 ∈ px_T) (hst : Cond.static M'.1 ∈ px_T) (hn : as.length = n) (hdd : d' + 1 ≤ Z.1) (hS : S = as.reverse ++ S1) (hw : (S1.map fun v => v.category).sum ≤ 8) (hf : kc ≤ Z.2.1 ∧ ks ≤ Z.2.2.1) (hK : ∀ b, x = some b → px_K d' 0 0 M' as h (some (.int b)) h) (K : ∀ b, x = some b → px_O Z g (F b) (pc + 3) L (.int b :: S1) h kc ks) : px_O Z g (x.bind F) pc L S h kc ks :=
  o_cS (g' := px_g0 h) hd hm hl hst hn hK hdd hS hw hf (fun b _ => rfl) K
theorem h_cSP {kc ks : Nat} {v : Int32} (hd : decode Z.2.2.2.2.2.1 pc = .ok (.invokestatic idx, 3)) (hm : px_MF M' n) (hl : Cond.methodLink Z.2.2.2.2.1.cls idx M'.1 ∈ px_T) (hst : Cond.static M'.1 ∈ px_T) (hn : as.length = n) (hdd : d' + 1 ≤ Z.1) (hS : S = as.reverse ++ S1) (hw : (S1.map fun v => v.category).sum ≤ 8) (hf : kc ≤ Z.2.1 ∧ ks ≤ Z.2.2.1) (hK : px_K d' 0 0 M' as h (some (.int v)) h) (K : px_O Z g res (pc + 3) L (.int v :: S1) h kc ks) : px_O Z g res pc L S h kc ks :=
  o_cS (x := some v) (F := fun _ => res) (g' := px_g0 h) hd hm hl hst hn (fun b hb => by cases hb; exact hK) hdd hS hw hf (fun b _ => rfl) (fun b hb => by cases hb; exact K)
theorem h_cNi {x : Option (Int32 × px_S)} {F : Int32 × px_S → Option β} (hd : decode Z.2.2.2.2.2.1 pc = .ok (.invokestatic idx, 3)) (hm : px_MF M' n) {host : String} (hl : Cond.methodLinkNest Z.2.2.2.2.1.cls idx M'.1 host ∈ px_Nt) (hst : Cond.static M'.1 ∈ px_T) (hn : as.length = n) (hdd : d' + 1 ≤ Z.1) (hS : S = as.reverse ++ S1) (hw : (S1.map fun v => v.category).sum ≤ 8) (hK : ∀ b, x = some b → px_K d' 0 0 M' as (HP T st) (px_gi T b).1 (px_gi T b).2) (K : ∀ b, x = some b → px_O Z g (F b) (pc + 3) L (.int b.1 :: S1) (HP T b.2) 0 0) : px_O Z g (x.bind F) pc L S (HP T st) 0 0 :=
  o_cSN (g' := px_gi T) hd hm hl hst hn hK hdd hS hw ⟨Nat.zero_le _, Nat.zero_le _⟩ (fun b _ => (hp_len T _).trans (hp_len T _).symm) K
theorem h_cNv {x : Option (px_S)} {F : px_S → Option β} (hd : decode Z.2.2.2.2.2.1 pc = .ok (.invokestatic idx, 3)) (hm : px_MF M' n) {host : String} (hl : Cond.methodLinkNest Z.2.2.2.2.1.cls idx M'.1 host ∈ px_Nt) (hst : Cond.static M'.1 ∈ px_T) (hn : as.length = n) (hdd : d' + 1 ≤ Z.1) (hS : S = as.reverse ++ S1) (hw : (S1.map fun v => v.category).sum ≤ 8) (hK : ∀ b, x = some b → px_K d' 0 0 M' as (HP T st) (px_gv T b).1 (px_gv T b).2) (K : ∀ b, x = some b → px_O Z g (F b) (pc + 3) L (S1) (HP T b) 0 0) : px_O Z g (x.bind F) pc L S (HP T st) 0 0 :=
  o_cSN (g' := px_gv T) hd hm hl hst hn hK hdd hS hw ⟨Nat.zero_le _, Nat.zero_le _⟩ (fun b _ => (hp_len T _).trans (hp_len T _).symm) K
theorem h_cNl {x : Option (Int64 × px_S)} {F : Int64 × px_S → Option β} (hd : decode Z.2.2.2.2.2.1 pc = .ok (.invokestatic idx, 3)) (hm : px_MF M' n) {host : String} (hl : Cond.methodLinkNest Z.2.2.2.2.1.cls idx M'.1 host ∈ px_Nt) (hst : Cond.static M'.1 ∈ px_T) (hn : as.length = n) (hdd : d' + 1 ≤ Z.1) (hS : S = as.reverse ++ S1) (hw : (S1.map fun v => v.category).sum ≤ 8) (hK : ∀ b, x = some b → px_K d' 0 0 M' as (HP T st) (px_gl T b).1 (px_gl T b).2) (K : ∀ b, x = some b → px_O Z g (F b) (pc + 3) L (.long b.1 :: S1) (HP T b.2) 0 0) : px_O Z g (x.bind F) pc L S (HP T st) 0 0 :=
  o_cSN (g' := px_gl T) hd hm hl hst hn hK hdd hS hw ⟨Nat.zero_le _, Nat.zero_le _⟩ (fun b _ => (hp_len T _).trans (hp_len T _).symm) K
theorem h_cNr {x : Option px_S} {F : px_S → Option β} {ra : Nat} (hd : decode Z.2.2.2.2.2.1 pc = .ok (.invokestatic idx, 3)) (hm : px_MF M' n) {host : String} (hl : Cond.methodLinkNest Z.2.2.2.2.1.cls idx M'.1 host ∈ px_Nt) (hst : Cond.static M'.1 ∈ px_T) (hn : as.length = n) (hdd : d' + 1 ≤ Z.1) (hS : S = as.reverse ++ S1) (hw : (S1.map fun v => v.category).sum ≤ 8) (hK : ∀ b, x = some b → px_K d' 0 0 M' as (HP T st) (px_gr T ra b).1 (px_gr T ra b).2) (K : ∀ b, x = some b → px_O Z g (F b) (pc + 3) L (.ref ra :: S1) (HP T b) 0 0) : px_O Z g (x.bind F) pc L S (HP T st) 0 0 :=
  o_cSN (g' := px_gr T ra) hd hm hl hst hn hK hdd hS hw ⟨Nat.zero_le _, Nat.zero_le _⟩ (fun b _ => (hp_len T _).trans (hp_len T _).symm) K
theorem h_cN0 {kc ks : Nat} {x : Option Int32} {F : Int32 → Option β} (hd : decode Z.2.2.2.2.2.1 pc = .ok (.invokestatic idx, 3)) (hm : px_MF M' n) {host : String} (hl : Cond.methodLinkNest Z.2.2.2.2.1.cls idx M'.1 host ∈ px_Nt) (hst : Cond.static M'.1 ∈ px_T) (hn : as.length = n) (hdd : d' + 1 ≤ Z.1) (hS : S = as.reverse ++ S1) (hw : (S1.map fun v => v.category).sum ≤ 8) (hf : kc ≤ Z.2.1 ∧ ks ≤ Z.2.2.1) (hK : ∀ b, x = some b → px_K d' 0 0 M' as h (some (.int b)) h) (K : ∀ b, x = some b → px_O Z g (F b) (pc + 3) L (.int b :: S1) h kc ks) : px_O Z g (x.bind F) pc L S h kc ks :=
  o_cSN (g' := px_g0 h) hd hm hl hst hn hK hdd hS hw hf (fun b _ => rfl) K
theorem h_cNP {kc ks : Nat} {v : Int32} (hd : decode Z.2.2.2.2.2.1 pc = .ok (.invokestatic idx, 3)) (hm : px_MF M' n) {host : String} (hl : Cond.methodLinkNest Z.2.2.2.2.1.cls idx M'.1 host ∈ px_Nt) (hst : Cond.static M'.1 ∈ px_T) (hn : as.length = n) (hdd : d' + 1 ≤ Z.1) (hS : S = as.reverse ++ S1) (hw : (S1.map fun v => v.category).sum ≤ 8) (hf : kc ≤ Z.2.1 ∧ ks ≤ Z.2.2.1) (hK : px_K d' 0 0 M' as h (some (.int v)) h) (K : px_O Z g res (pc + 3) L (.int v :: S1) h kc ks) : px_O Z g res pc L S h kc ks :=
  o_cSN (x := some v) (F := fun _ => res) (g' := px_g0 h) hd hm hl hst hn (fun b hb => by cases hb; exact hK) hdd hS hw hf (fun b _ => rfl) (fun b hb => by cases hb; exact K)
end PXQ
section PXJ
variable {β : Type} {Z : px_Z} {g : β → Option Value × List px_C} {res A B : Option β} {pc idx : Nat} {L : List (Option Value)} {S S1 : List Value} {T : Nat} {st : px_S} {h : List px_C}
variable {a n j : Nat} {kc ks : Nat}
theorem h_aldc {i : Int32} (hd : decode Z.2.2.2.2.2.1 pc = .ok (.iaload, 1)) (ha : a < px_n T) (hc : px_cell a (st a) = px_ia n (st a)) (hi : px_in i n) (hj : i.toNatClampNeg = j) (K : px_O Z g res (pc + 1) L (.int (st a j) :: S) (HP T st) kc ks) : px_O Z g res pc L (.int i :: .ref a :: S) (HP T st) kc ks :=
  h_ald hd ha hc hi (by rw [hj]; exact K)
theorem h_astc {i x : Int32} (hd : decode Z.2.2.2.2.2.1 pc = .ok (.iastore, 1)) (ha : a < px_n T) (hc : ∀ w, px_cell a w = px_ia n w) (hi : px_in i n) (hj : i.toNatClampNeg = j) (K : px_O Z g res (pc + 1) L S (HP T (up st a j x)) kc ks) : px_O Z g res pc L (.int x :: .int i :: .ref a :: S) (HP T st) kc ks :=
  h_ast hd ha hc hi (by rw [hj]; exact K)
end PXJ
end
section
abbrev m_X0_init : px_M := (yX0_init, cX0_init, 1, none)
abbrev m_X0_become : px_M := (yX0_become, cX0_become, 2, none)
abbrev m_X0_welcome : px_M := (yX0_welcome, cX0_welcome, 4, (some .int))
abbrev m_X0_knows : px_M := (yX0_knows, cX0_knows, 2, (some .boolean))
abbrev m_X0_knowsPair : px_M := (yX0_knowsPair, cX0_knowsPair, 3, (some .boolean))
abbrev m_X0_isIn : px_M := (yX0_isIn, cX0_isIn, 2, (some .boolean))
abbrev m_X0_everyone : px_M := (yX0_everyone, cX0_everyone, 1, (some .int))
abbrev m_X0_changeLike : px_M := (yX0_changeLike, cX0_changeLike, 5, (some .int))
abbrev m_X0_bind : px_M := (yX0_bind, cX0_bind, 4, none)
abbrev m_X0_oathPairs : px_M := (yX0_oathPairs, cX0_oathPairs, 3, (some .int))
abbrev m_X0_leave : px_M := (yX0_leave, cX0_leave, 2, none)
abbrev m_X0_passDay : px_M := (yX0_passDay, cX0_passDay, 1, none)
abbrev m_X0_share : px_M := (yX0_share, cX0_share, 2, (some .int))
abbrev m_X0_bringsOf : px_M := (yX0_bringsOf, cX0_bringsOf, 3, (some .int))
abbrev m_X0_wantsOf : px_M := (yX0_wantsOf, cX0_wantsOf, 4, (some .int))
abbrev m_X1_init : px_M := (yX1_init, cX1_init, 1, none)
abbrev m_X1_factsOf : px_M := (yX1_factsOf, cX1_factsOf, 4, (some (.array .int)))
abbrev m_X1_worthOf : px_M := (yX1_worthOf, cX1_worthOf, 5, (some .int))
abbrev m_X1_goodOf : px_M := (yX1_goodOf, cX1_goodOf, 6, (some .int))
abbrev m_X1_moves : px_M := (yX1_moves, cX1_moves, 7, (some .boolean))
abbrev m_X1_lookAt : px_M := (yX1_lookAt, cX1_lookAt, 2, none)
abbrev m_X1_compare : px_M := (yX1_compare, cX1_compare, 6, none)
abbrev m_X1_weigh : px_M := (yX1_weigh, cX1_weigh, 6, none)
abbrev m_X1_isLookedPair : px_M := (yX1_isLookedPair, cX1_isLookedPair, 3, (some .boolean))
abbrev m_X1_against : px_M := (yX1_against, cX1_against, 3, (some .int))
abbrev m_X1_against_ : px_M := (yX1_against_, cX1_against_, 2, (some .int))
abbrev m_X1_wouldTurnOut : px_M := (yX1_wouldTurnOut, cX1_wouldTurnOut, 3, (some .boolean))
abbrev m_X1_firstBand : px_M := (yX1_firstBand, cX1_firstBand, 2, (some .int))
abbrev m_X1_bandsAgainst : px_M := (yX1_bandsAgainst, cX1_bandsAgainst, 2, (some .int))
abbrev m_X1_allBands : px_M := (yX1_allBands, cX1_allBands, 3, (some .int))
abbrev m_X1_firstOther : px_M := (yX1_firstOther, cX1_firstOther, 4, (some .int))
abbrev m_X1_atRest : px_M := (yX1_atRest, cX1_atRest, 2, (some .boolean))
abbrev m_X1_isSafe : px_M := (yX1_isSafe, cX1_isSafe, 2, (some .boolean))
abbrev m_X1_runOn : px_M := (yX1_runOn, cX1_runOn, 4, (some .int))
abbrev m_X1_foresee : px_M := (yX1_foresee, cX1_foresee, 3, none)
abbrev m_X1_foreseeSet : px_M := (yX1_foreseeSet, cX1_foreseeSet, 7, none)
abbrev m_X1_foreseers : px_M := (yX1_foreseers, cX1_foreseers, 8, (some .int))
abbrev m_X1_savingOath : px_M := (yX1_savingOath, cX1_savingOath, 4, (some .int))
abbrev m_X1_findOaths : px_M := (yX1_findOaths, cX1_findOaths, 1, none)
abbrev m_X1_findTwoOaths : px_M := (yX1_findTwoOaths, cX1_findTwoOaths, 3, none)
abbrev m_X1_findOath : px_M := (yX1_findOath, cX1_findOath, 5, (some .boolean))
abbrev m_X1_isFreePair : px_M := (yX1_isFreePair, cX1_isFreePair, 4, (some .boolean))
abbrev m_X1_bindPair : px_M := (yX1_bindPair, cX1_bindPair, 3, none)
abbrev m_X1_pairName : px_M := (yX1_pairName, cX1_pairName, 1, (some .int))
abbrev m_X1_leastNeeded : px_M := (yX1_leastNeeded, cX1_leastNeeded, 2, (some .int))
abbrev m_X1_leastRent : px_M := (yX1_leastRent, cX1_leastRent, 3, (some .int))
abbrev m_X1_follow : px_M := (yX1_follow, cX1_follow, 4, (some .boolean))
abbrev m_X1_draw : px_M := (yX1_draw, cX1_draw, 7, (some .int))
abbrev m_X1_listMeetings : px_M := (yX1_listMeetings, cX1_listMeetings, 2, none)
abbrev m_X1_loserOf : px_M := (yX1_loserOf, cX1_loserOf, 3, (some .int))
abbrev m_X2_init : px_M := (yX2_init, cX2_init, 1, none)
abbrev m_X2_put : px_M := (yX2_put, cX2_put, 2, none)
abbrev m_X2_clear : px_M := (yX2_clear, cX2_clear, 1, none)
abbrev m_X2_place : px_M := (yX2_place, cX2_place, 1, (some .int))
abbrev m_X2_compile : px_M := (yX2_compile, cX2_compile, 3, (some (.object "ThreeOfThem$Text")))
abbrev m_X2_split : px_M := (yX2_split, cX2_split, 3, none)
abbrev m_X2_behind : px_M := (yX2_behind, cX2_behind, 3, (some .int))
abbrev m_X2_tokenOf : px_M := (yX2_tokenOf, cX2_tokenOf, 3, (some .int))
abbrev m_X2_numberOf : px_M := (yX2_numberOf, cX2_numberOf, 5, (some .int))
abbrev m_X2_wordOf : px_M := (yX2_wordOf, cX2_wordOf, 3, (some .int))
abbrev m_X2_spells : px_M := (yX2_spells, cX2_spells, 5, (some .boolean))
abbrev m_X2_signOf : px_M := (yX2_signOf, cX2_signOf, 1, (some .int))
abbrev m_X2_isLetter : px_M := (yX2_isLetter, cX2_isLetter, 1, (some .boolean))
abbrev m_X2_isDigit : px_M := (yX2_isDigit, cX2_isDigit, 1, (some .boolean))
abbrev m_X2_current : px_M := (yX2_current, cX2_current, 1, (some .int))
abbrev m_X2_pass : px_M := (yX2_pass, cX2_pass, 3, (some .boolean))
abbrev m_X2_emit : px_M := (yX2_emit, cX2_emit, 2, none)
abbrev m_X2_readPart : px_M := (yX2_readPart, cX2_readPart, 2, (some .boolean))
abbrev m_X2_readLevel : px_M := (yX2_readLevel, cX2_readLevel, 6, (some .boolean))
abbrev m_X2_readOne : px_M := (yX2_readOne, cX2_readOne, 3, (some .boolean))
abbrev m_X2_readOpened : px_M := (yX2_readOpened, cX2_readOpened, 4, (some .boolean))
abbrev m_X2_levelOf : px_M := (yX2_levelOf, cX2_levelOf, 1, (some .int))
abbrev m_X3_init : px_M := (yX3_init, cX3_init, 1, none)
abbrev m_X3_begin : px_M := (yX3_begin, cX3_begin, 3, none)
abbrev m_X3_isMissing : px_M := (yX3_isMissing, cX3_isMissing, 1, (some .boolean))
abbrev m_X3_reaches : px_M := (yX3_reaches, cX3_reaches, 3, (some .boolean))
abbrev m_X3_write : px_M := (yX3_write, cX3_write, 3, none)
abbrev m_X4_init : px_M := (yX4_init, cX4_init, 4, none)
abbrev m_X4_names : px_M := (yX4_names, cX4_names, 6, (some .boolean))
abbrev m_X4_value : px_M := (yX4_value, cX4_value, 10, (some .int))
abbrev m_X4_join : px_M := (yX4_join, cX4_join, 3, (some .int))
abbrev m_X5_init : px_M := (yX5_init, cX5_init, 2, none)
abbrev m_X5_inmate : px_M := (yX5_inmate, cX5_inmate, 3, (some .int))
abbrev m_X5_like : px_M := (yX5_like, cX5_like, 4, (some .int))
abbrev m_X5_swear : px_M := (yX5_swear, cX5_swear, 5, (some .int))
abbrev m_X5_set : px_M := (yX5_set, cX5_set, 4, (some .int))
abbrev m_X5_setRent : px_M := (yX5_setRent, cX5_setRent, 3, (some .int))
abbrev m_X5_setNeeded : px_M := (yX5_setNeeded, cX5_setNeeded, 3, (some .int))
abbrev m_X5_setDay : px_M := (yX5_setDay, cX5_setDay, 3, (some .int))
abbrev m_X5_setNumber : px_M := (yX5_setNumber, cX5_setNumber, 4, (some .int))
abbrev m_X5_setIn : px_M := (yX5_setIn, cX5_setIn, 4, (some .int))
abbrev m_X5_told : px_M := (yX5_told, cX5_told, 4, (some .int))
abbrev m_X5_feed : px_M := (yX5_feed, cX5_feed, 2, (some .int))
abbrev m_X5_text : px_M := (yX5_text, cX5_text, 3, (some .int))
abbrev m_X5_force : px_M := (yX5_force, cX5_force, 3, (some .int))
abbrev m_X5_would : px_M := (yX5_would, cX5_would, 3, (some .int))
abbrev m_X5_now : px_M := (yX5_now, cX5_now, 3, (some .int))
abbrev m_X5_turnOut : px_M := (yX5_turnOut, cX5_turnOut, 3, (some .int))
abbrev m_X5_goOn : px_M := (yX5_goOn, cX5_goOn, 3, (some .int))
abbrev m_X5_end : px_M := (yX5_end, cX5_end, 3, (some .int))
abbrev m_X5_mayMeet : px_M := (yX5_mayMeet, cX5_mayMeet, 3, (some .boolean))
abbrev m_X5_safe : px_M := (yX5_safe, cX5_safe, 3, (some .int))
abbrev m_X5_sworn : px_M := (yX5_sworn, cX5_sworn, 2, (some .int))
abbrev m_X5_oaths : px_M := (yX5_oaths, cX5_oaths, 2, (some .int))
abbrev m_X5_shield : px_M := (yX5_shield, cX5_shield, 3, (some .int))
abbrev m_X5_holds : px_M := (yX5_holds, cX5_holds, 2, (some .int))
abbrev m_X5_who : px_M := (yX5_who, cX5_who, 4, (some .int))
abbrev m_X5_drawn : px_M := (yX5_drawn, cX5_drawn, 3, (some .int))
abbrev m_X5_chance : px_M := (yX5_chance, cX5_chance, 8, (some .long))
abbrev m_X5_image : px_M := (yX5_image, cX5_image, 1, (some .int))
abbrev m_X5_back : px_M := (yX5_back, cX5_back, 1, (some .int))
abbrev m_X5_count : px_M := (yX5_count, cX5_count, 2, (some .int))
abbrev m_X5_sheet : px_M := (yX5_sheet, cX5_sheet, 4, (some .int))
abbrev m_X5_cell : px_M := (yX5_cell, cX5_cell, 5, (some .int))
abbrev m_X5_copy : px_M := (yX5_copy, cX5_copy, 8, (some .int))
abbrev m_X5_likes : px_M := (yX5_likes, cX5_likes, 6, (some .int))
abbrev m_X5_likeByTriples : px_M := (yX5_likeByTriples, cX5_likeByTriples, 7, (some .int))
abbrev m_X5_taken : px_M := (yX5_taken, cX5_taken, 3, (some .int))
abbrev m_X5_thinking : px_M := (yX5_thinking, cX5_thinking, 2, (some (.object "ThreeOfThem$Judge")))
abbrev m_X5_thinkingOfHouse : px_M := (yX5_thinkingOfHouse, cX5_thinkingOfHouse, 1, (some (.object "ThreeOfThem$Judge")))
abbrev m_X5_isSheet : px_M := (yX5_isSheet, cX5_isSheet, 1, (some .boolean))
abbrev m_X5_bit : px_M := (yX5_bit, cX5_bit, 1, (some .int))
abbrev m_X5_has : px_M := (yX5_has, cX5_has, 2, (some .boolean))
abbrev m_X5_clamp : px_M := (yX5_clamp, cX5_clamp, 3, (some .int))
abbrev m_X5_lowest : px_M := (yX5_lowest, cX5_lowest, 4, (some .int))
abbrev m_X5_choose : px_M := (yX5_choose, cX5_choose, 4, (some .int))
abbrev m_X5_commonDivisor : px_M := (yX5_commonDivisor, cX5_commonDivisor, 3, (some .int))
abbrev m_X5_isUnder : px_M := (yX5_isUnder, cX5_isUnder, 4, (some .boolean))
abbrev m_X5_bringsAs : px_M := (yX5_bringsAs, cX5_bringsAs, 3, (some .int))
abbrev m_X5_wantsAs : px_M := (yX5_wantsAs, cX5_wantsAs, 4, (some .int))
abbrev m_X6_in : px_M := (yX6_in, cX6_in, 6, (some .boolean))
abbrev m_X6_within : px_M := (yX6_within, cX6_within, 3, (some .int))
abbrev m_X6_bitsOf : px_M := (yX6_bitsOf, cX6_bitsOf, 3, (some .int))
abbrev m_X6_init : px_M := (yX6_init, cX6_init, 1, none)
abbrev m_X6_spell : px_M := (yX6_spell, cX6_spell, 10, none)
abbrev m_X6_isOne : px_M := (yX6_isOne, cX6_isOne, 2, (some .boolean))
abbrev m_X6_isIn : px_M := (yX6_isIn, cX6_isIn, 2, (some .boolean))
abbrev m_X6_inmate : px_M := (yX6_inmate, cX6_inmate, 4, (some .int))
abbrev m_X6_like : px_M := (yX6_like, cX6_like, 5, (some .int))
abbrev m_X6_areSworn : px_M := (yX6_areSworn, cX6_areSworn, 3, (some .boolean))
abbrev m_X6_swears : px_M := (yX6_swears, cX6_swears, 4, none)
abbrev m_X6_swear : px_M := (yX6_swear, cX6_swear, 5, (some .int))
abbrev m_X6_set : px_M := (yX6_set, cX6_set, 5, (some .int))
abbrev m_X6_brings : px_M := (yX6_brings, cX6_brings, 6, (some .int))
abbrev m_X6_wants : px_M := (yX6_wants, cX6_wants, 6, (some .int))
abbrev m_X6_feed : px_M := (yX6_feed, cX6_feed, 2, (some .int))
abbrev m_X6_byteAt : px_M := (yX6_byteAt, cX6_byteAt, 2, (some .int))
abbrev m_X6_next : px_M := (yX6_next, cX6_next, 3, none)
abbrev m_X6_fail : px_M := (yX6_fail, cX6_fail, 1, none)
abbrev m_X6_isLetter : px_M := (yX6_isLetter, cX6_isLetter, 3, (some .boolean))
abbrev m_X6_isWord : px_M := (yX6_isWord, cX6_isWord, 9, (some .boolean))
abbrev m_X6_isSign : px_M := (yX6_isSign, cX6_isSign, 2, (some .boolean))
abbrev m_X6_opens : px_M := (yX6_opens, cX6_opens, 1, (some .boolean))
abbrev m_X6_name : px_M := (yX6_name, cX6_name, 1, (some .int))
abbrev m_X6_atom5 : px_M := (yX6_atom5, cX6_atom5, 2, (some .int))
abbrev m_X6_term5 : px_M := (yX6_term5, cX6_term5, 2, (some .int))
abbrev m_X6_added5 : px_M := (yX6_added5, cX6_added5, 4, (some .int))
abbrev m_X6_not5 : px_M := (yX6_not5, cX6_not5, 4, (some .int))
abbrev m_X6_both5 : px_M := (yX6_both5, cX6_both5, 3, (some .int))
abbrev m_X6_either5 : px_M := (yX6_either5, cX6_either5, 3, (some .int))
abbrev m_X6_atom4 : px_M := (yX6_atom4, cX6_atom4, 2, (some .int))
abbrev m_X6_term4 : px_M := (yX6_term4, cX6_term4, 2, (some .int))
abbrev m_X6_added4 : px_M := (yX6_added4, cX6_added4, 4, (some .int))
abbrev m_X6_not4 : px_M := (yX6_not4, cX6_not4, 4, (some .int))
abbrev m_X6_both4 : px_M := (yX6_both4, cX6_both4, 3, (some .int))
abbrev m_X6_either4 : px_M := (yX6_either4, cX6_either4, 3, (some .int))
abbrev m_X6_atom3 : px_M := (yX6_atom3, cX6_atom3, 2, (some .int))
abbrev m_X6_term3 : px_M := (yX6_term3, cX6_term3, 2, (some .int))
abbrev m_X6_added3 : px_M := (yX6_added3, cX6_added3, 4, (some .int))
abbrev m_X6_not3 : px_M := (yX6_not3, cX6_not3, 4, (some .int))
abbrev m_X6_both3 : px_M := (yX6_both3, cX6_both3, 3, (some .int))
abbrev m_X6_either3 : px_M := (yX6_either3, cX6_either3, 3, (some .int))
abbrev m_X6_atom2 : px_M := (yX6_atom2, cX6_atom2, 2, (some .int))
abbrev m_X6_term2 : px_M := (yX6_term2, cX6_term2, 2, (some .int))
abbrev m_X6_added2 : px_M := (yX6_added2, cX6_added2, 4, (some .int))
abbrev m_X6_not2 : px_M := (yX6_not2, cX6_not2, 4, (some .int))
abbrev m_X6_both2 : px_M := (yX6_both2, cX6_both2, 3, (some .int))
abbrev m_X6_either2 : px_M := (yX6_either2, cX6_either2, 3, (some .int))
abbrev m_X6_atom1 : px_M := (yX6_atom1, cX6_atom1, 2, (some .int))
abbrev m_X6_term1 : px_M := (yX6_term1, cX6_term1, 2, (some .int))
abbrev m_X6_added1 : px_M := (yX6_added1, cX6_added1, 4, (some .int))
abbrev m_X6_not1 : px_M := (yX6_not1, cX6_not1, 4, (some .int))
abbrev m_X6_both1 : px_M := (yX6_both1, cX6_both1, 3, (some .int))
abbrev m_X6_either1 : px_M := (yX6_either1, cX6_either1, 3, (some .int))
abbrev m_X6_atom0 : px_M := (yX6_atom0, cX6_atom0, 2, (some .int))
abbrev m_X6_term0 : px_M := (yX6_term0, cX6_term0, 2, (some .int))
abbrev m_X6_added0 : px_M := (yX6_added0, cX6_added0, 4, (some .int))
abbrev m_X6_not0 : px_M := (yX6_not0, cX6_not0, 4, (some .int))
abbrev m_X6_both0 : px_M := (yX6_both0, cX6_both0, 3, (some .int))
abbrev m_X6_either0 : px_M := (yX6_either0, cX6_either0, 3, (some .int))
abbrev m_X6_part : px_M := (yX6_part, cX6_part, 3, (some .int))
abbrev m_X6_read : px_M := (yX6_read, cX6_read, 6, (some .int))
abbrev m_X6_text : px_M := (yX6_text, cX6_text, 2, (some .int))
abbrev m_X6_force : px_M := (yX6_force, cX6_force, 3, (some .int))
abbrev m_X6_says : px_M := (yX6_says, cX6_says, 6, (some .int))
abbrev m_X6_goodOf : px_M := (yX6_goodOf, cX6_goodOf, 6, (some .int))
abbrev m_X6_told : px_M := (yX6_told, cX6_told, 4, (some .int))
abbrev m_X6_looks : px_M := (yX6_looks, cX6_looks, 6, none)
abbrev m_X6_wouldJoin : px_M := (yX6_wouldJoin, cX6_wouldJoin, 5, (some .boolean))
abbrev m_X6_isBand : px_M := (yX6_isBand, cX6_isBand, 4, (some .boolean))
abbrev m_X6_allWould : px_M := (yX6_allWould, cX6_allWould, 4, (some .boolean))
abbrev m_X6_goesThrough : px_M := (yX6_goesThrough, cX6_goesThrough, 3, none)
abbrev m_X6_isSafe : px_M := (yX6_isSafe, cX6_isSafe, 3, (some .boolean))
abbrev m_X6_isRest : px_M := (yX6_isRest, cX6_isRest, 1, (some .boolean))
abbrev m_X6_would : px_M := (yX6_would, cX6_would, 3, (some .int))
abbrev m_X6_now : px_M := (yX6_now, cX6_now, 2, (some .int))
abbrev m_X6_dayMore : px_M := (yX6_dayMore, cX6_dayMore, 1, none)
abbrev m_X6_turnOut : px_M := (yX6_turnOut, cX6_turnOut, 4, (some .int))
abbrev m_X6_goOn : px_M := (yX6_goOn, cX6_goOn, 6, (some .int))
abbrev m_X6_foresees : px_M := (yX6_foresees, cX6_foresees, 4, none)
abbrev m_X6_endOf : px_M := (yX6_endOf, cX6_endOf, 6, none)
abbrev m_X6_allJoin : px_M := (yX6_allJoin, cX6_allJoin, 4, (some .boolean))
abbrev m_X6_foreseen : px_M := (yX6_foreseen, cX6_foreseen, 7, (some .boolean))
abbrev m_X6_end : px_M := (yX6_end, cX6_end, 3, (some .int))
abbrev m_X6_safe : px_M := (yX6_safe, cX6_safe, 3, (some .int))
abbrev m_X6_sworn : px_M := (yX6_sworn, cX6_sworn, 4, (some .int))
abbrev m_X6_canSwear : px_M := (yX6_canSwear, cX6_canSwear, 2, (some .boolean))
abbrev m_X6_findsOaths : px_M := (yX6_findsOaths, cX6_findsOaths, 3, none)
abbrev m_X6_oaths : px_M := (yX6_oaths, cX6_oaths, 3, (some .int))
abbrev m_X6_shield : px_M := (yX6_shield, cX6_shield, 3, (some .int))
abbrev m_X6_holds : px_M := (yX6_holds, cX6_holds, 5, (some .int))
abbrev m_X6_who : px_M := (yX6_who, cX6_who, 12, (some .int))
abbrev m_X6_draws : px_M := (yX6_draws, cX6_draws, 9, (some .int))
abbrev m_X6_meets : px_M := (yX6_meets, cX6_meets, 7, none)
abbrev m_X6_drawn : px_M := (yX6_drawn, cX6_drawn, 3, (some .int))
abbrev m_X6_chance : px_M := (yX6_chance, cX6_chance, 14, (some .long))
abbrev m_X6_image : px_M := (yX6_image, cX6_image, 2, (some .int))
abbrev m_X6_back : px_M := (yX6_back, cX6_back, 2, (some .int))
abbrev m_X6_count : px_M := (yX6_count, cX6_count, 4, (some .int))
abbrev m_X6_isSheet : px_M := (yX6_isSheet, cX6_isSheet, 1, (some .boolean))
abbrev m_X6_sheet : px_M := (yX6_sheet, cX6_sheet, 5, (some .int))
abbrev m_X6_cell : px_M := (yX6_cell, cX6_cell, 4, (some .int))
abbrev m_X6_copy : px_M := (yX6_copy, cX6_copy, 9, (some .int))
abbrev m_X6_likes : px_M := (yX6_likes, cX6_likes, 8, (some .int))
abbrev m_X6_over : px_M := (yX6_over, cX6_over, 1, (some .int))
abbrev m_X6_taken : px_M := (yX6_taken, cX6_taken, 4, (some .int))
abbrev m_J6_bitCount_0f7a4 : px_M := (yJ6_bitCount_0f7a4, cJ6_bitCount_0f7a4, 1, (some .int))
abbrev m_J9_max_7cf53 : px_M := (yJ9_max_7cf53, cJ9_max_7cf53, 2, (some .int))
abbrev m_J9_min_7cf53 : px_M := (yJ9_min_7cf53, cJ9_min_7cf53, 2, (some .int))
abbrev m_J0_length_8abf5 : px_M := (yJ0_length_8abf5, cJ0_length_8abf5, 1, (some .int))
abbrev m_J0_charAt_5068e : px_M := (yJ0_charAt_5068e, cJ0_charAt_5068e, 2, (some .char))
abbrev m_J0_coder_7d493 : px_M := (yJ0_coder_7d493, cJ0_coder_7d493, 1, (some .byte))
abbrev m_J0_isLatin1_aae02 : px_M := (yJ0_isLatin1_aae02, cJ0_isLatin1_aae02, 1, (some .boolean))
abbrev m_J0_checkIndex_df160 : px_M := (yJ0_checkIndex_df160, cJ0_checkIndex_df160, 2, none)
abbrev m_J1_charAt_3b067 : px_M := (yJ1_charAt_3b067, cJ1_charAt_3b067, 2, (some .char))
abbrev m_J2_getChar_3b067 : px_M := (yJ2_getChar_3b067, cJ2_getChar_3b067, 2, (some .char))
abbrev m_J2_length_9d52b : px_M := (yJ2_length_9d52b, cJ2_length_9d52b, 1, (some .int))
abbrev m_J2_charAt_3b067 : px_M := (yJ2_charAt_3b067, cJ2_charAt_3b067, 2, (some .char))
abbrev m_J2_checkIndex_2214a : px_M := (yJ2_checkIndex_2214a, cJ2_checkIndex_2214a, 2, none)
abbrev m_J7_fill_53178 : px_M := (yJ7_fill_53178, cJ7_fill_53178, 4, none)
abbrev m_J7_copyOf_59c91 : px_M := (yJ7_copyOf_59c91, cJ7_copyOf_59c91, 3, (some (.array .int)))
abbrev m_J3_checkIndex_8e157 : px_M := (yJ3_checkIndex_8e157, cJ3_checkIndex_8e157, 3, (some .int))
theorem mf_X6_in : px_MF m_X6_in 3 := ⟨px_Tm 1037 (by decide +kernel) rfl, px_Tm 14 (by decide +kernel) rfl, ⟨by decide +kernel, by decide +kernel, by decide +kernel⟩, by decide, by decide +kernel⟩
theorem mf_X6_within : px_MF m_X6_within 3 := ⟨px_Tm 1302 (by decide +kernel) rfl, px_Tm 14 (by decide +kernel) rfl, ⟨by decide +kernel, by decide +kernel, by decide +kernel⟩, by decide, by decide +kernel⟩
theorem mf_X6_bitsOf : px_MF m_X6_bitsOf 1 := ⟨px_Tm 1279 (by decide +kernel) rfl, px_Tm 14 (by decide +kernel) rfl, ⟨by decide +kernel, by decide +kernel, by decide +kernel⟩, by decide, by decide +kernel⟩
theorem cst_X6_473 : Cond.constantLong RX6 473 (3) ∈ px_T := px_Tm 1408 (by decide +kernel) rfl
theorem ml_X6_97 : Cond.methodLink RX6 97 m_X6_in.1 ∈ px_T := px_Tm 1035 (by decide +kernel) rfl
theorem ms_X6_in : Cond.static m_X6_in.1 ∈ px_T := px_Tm 1036 (by decide +kernel) rfl
theorem mf_X6_isSheet : px_MF m_X6_isSheet 1 := ⟨px_Tm 1407 (by decide +kernel) rfl, px_Tm 14 (by decide +kernel) rfl, ⟨by decide +kernel, by decide +kernel, by decide +kernel⟩, by decide, by decide +kernel⟩
theorem mf_X6_over : px_MF m_X6_over 1 := ⟨px_Tm 1466 (by decide +kernel) rfl, px_Tm 14 (by decide +kernel) rfl, ⟨by decide +kernel, by decide +kernel, by decide +kernel⟩, by decide, by decide +kernel⟩
theorem fl_X6_13 : px_FL RX6 13 Q6 1 := px_Tm 855 (by decide +kernel) rfl
theorem mf_X6_spell : px_MF m_X6_spell 9 := ⟨px_Tm 854 (by decide +kernel) rfl, px_Tm 14 (by decide +kernel) rfl, ⟨by decide +kernel, by decide +kernel, by decide +kernel⟩, by decide, by decide +kernel⟩
theorem fl_X6_94 : px_FL RX6 94 Q6 11 := px_Tm 865 (by decide +kernel) rfl
theorem mf_X6_isOne : px_MF m_X6_isOne 1 := ⟨px_Tm 1046 (by decide +kernel) rfl, px_Tm 14 (by decide +kernel) rfl, ⟨by decide +kernel, by decide +kernel, by decide +kernel⟩, by decide, by decide +kernel⟩
theorem ml_X6_101 : Cond.methodLink RX6 101 m_X6_isOne.1 ∈ px_T := px_Tm 1043 (by decide +kernel) rfl
theorem mv_X6_isOne : px_MV m_X6_isOne := ⟨px_Tm 1045 (by decide +kernel) rfl, px_Ts 41 (by decide +kernel) rfl⟩
theorem fl_X6_105 : px_FL RX6 105 Q6 12 := px_Tm 866 (by decide +kernel) rfl
theorem mf_X6_isIn : px_MF m_X6_isIn 1 := ⟨px_Tm 1291 (by decide +kernel) rfl, px_Tm 14 (by decide +kernel) rfl, ⟨by decide +kernel, by decide +kernel, by decide +kernel⟩, by decide, by decide +kernel⟩
theorem pf_X6_12 : px_PF Q6 12 .int := ⟨by decide, rfl, tyX6_ok 12 (by decide)⟩
theorem pf_X6_11 : px_PF Q6 11 .int := ⟨by decide, rfl, tyX6_ok 11 (by decide)⟩
theorem fl_X6_29 : px_FL RX6 29 Q6 9 := px_Tm 863 (by decide +kernel) rfl
theorem fl_X6_32 : px_FL RX6 32 Q6 10 := px_Tm 864 (by decide +kernel) rfl
theorem cst_X6_108 : Cond.constantLong RX6 108 (5) ∈ px_T := px_Tm 1034 (by decide +kernel) rfl
theorem cst_X6_110 : Cond.constantLong RX6 110 (9) ∈ px_T := px_Tm 1038 (by decide +kernel) rfl
theorem fl_X6_23 : px_FL RX6 23 Q6 7 := px_Tm 861 (by decide +kernel) rfl
theorem fl_X6_26 : px_FL RX6 26 Q6 8 := px_Tm 862 (by decide +kernel) rfl
theorem mf_X6_inmate : px_MF m_X6_inmate 2 := ⟨px_Tm 1033 (by decide +kernel) rfl, px_Tm 14 (by decide +kernel) rfl, ⟨by decide +kernel, by decide +kernel, by decide +kernel⟩, by decide, by decide +kernel⟩
theorem mf_X6_like : px_MF m_X6_like 3 := ⟨px_Tm 1042 (by decide +kernel) rfl, px_Tm 14 (by decide +kernel) rfl, ⟨by decide +kernel, by decide +kernel, by decide +kernel⟩, by decide, by decide +kernel⟩
theorem mf_X6_areSworn : px_MF m_X6_areSworn 2 := ⟨px_Tm 1054 (by decide +kernel) rfl, px_Tm 14 (by decide +kernel) rfl, ⟨by decide +kernel, by decide +kernel, by decide +kernel⟩, by decide, by decide +kernel⟩
theorem mf_X6_swears : px_MF m_X6_swears 3 := ⟨px_Tm 1058 (by decide +kernel) rfl, px_Tm 14 (by decide +kernel) rfl, ⟨by decide +kernel, by decide +kernel, by decide +kernel⟩, by decide, by decide +kernel⟩
theorem ml_X6_116 : Cond.methodLink RX6 116 m_X6_swears.1 ∈ px_T := px_Tm 1055 (by decide +kernel) rfl
theorem mv_X6_swears : px_MV m_X6_swears := ⟨px_Tm 1057 (by decide +kernel) rfl, px_Ts 43 (by decide +kernel) rfl⟩
theorem ml_X6_112 : Cond.methodLink RX6 112 m_X6_areSworn.1 ∈ px_T := px_Tm 1051 (by decide +kernel) rfl
theorem mv_X6_areSworn : px_MV m_X6_areSworn := ⟨px_Tm 1053 (by decide +kernel) rfl, px_Ts 42 (by decide +kernel) rfl⟩
theorem mf_X6_swear : px_MF m_X6_swear 3 := ⟨px_Tm 1050 (by decide +kernel) rfl, px_Tm 14 (by decide +kernel) rfl, ⟨by decide +kernel, by decide +kernel, by decide +kernel⟩, by decide, by decide +kernel⟩
theorem fl_X6_128 : px_FL RX6 128 Q6 15 := px_Tm 869 (by decide +kernel) rfl
theorem pf_X6_15 : px_PF Q6 15 .int := ⟨by decide, rfl, tyX6_ok 15 (by decide)⟩
theorem fl_X6_38 : px_FL RX6 38 Q6 14 := px_Tm 868 (by decide +kernel) rfl
theorem pf_X6_14 : px_PF Q6 14 .int := ⟨by decide, rfl, tyX6_ok 14 (by decide)⟩
theorem fl_X6_35 : px_FL RX6 35 Q6 13 := px_Tm 867 (by decide +kernel) rfl
theorem pf_X6_13 : px_PF Q6 13 .int := ⟨by decide, rfl, tyX6_ok 13 (by decide)⟩
theorem cst_X6_126 : Cond.constantLong RX6 126 (999) ∈ px_T := px_Tm 1066 (by decide +kernel) rfl
theorem cst_X6_124 : Cond.constantLong RX6 124 (9999) ∈ px_T := px_Tm 1065 (by decide +kernel) rfl
theorem cst_X6_122 : Cond.constantLong RX6 122 (2) ∈ px_T := px_Tm 1064 (by decide +kernel) rfl
theorem cst_X6_120 : Cond.constantLong RX6 120 (4) ∈ px_T := px_Tm 1063 (by decide +kernel) rfl
theorem mf_X6_set : px_MF m_X6_set 3 := ⟨px_Tm 1062 (by decide +kernel) rfl, px_Tm 14 (by decide +kernel) rfl, ⟨by decide +kernel, by decide +kernel, by decide +kernel⟩, by decide, by decide +kernel⟩
theorem mf_X6_brings : px_MF m_X6_brings 2 := ⟨px_Tm 1283 (by decide +kernel) rfl, px_Tm 14 (by decide +kernel) rfl, ⟨by decide +kernel, by decide +kernel, by decide +kernel⟩, by decide, by decide +kernel⟩
theorem mf_X6_wants : px_MF m_X6_wants 3 := ⟨px_Tm 1287 (by decide +kernel) rfl, px_Tm 14 (by decide +kernel) rfl, ⟨by decide +kernel, by decide +kernel, by decide +kernel⟩, by decide, by decide +kernel⟩
theorem cst_X6_131 : Cond.constantLong RX6 131 (255) ∈ px_T := px_Tm 1071 (by decide +kernel) rfl
theorem fl_X6_133 : px_FL RX6 133 Q6 6 := px_Tm 860 (by decide +kernel) rfl
theorem fl_X6_20 : px_FL RX6 20 Q6 5 := px_Tm 859 (by decide +kernel) rfl
theorem pf_X6_6 : px_PF Q6 6 .int := ⟨by decide, rfl, tyX6_ok 6 (by decide)⟩
theorem mf_X6_feed : px_MF m_X6_feed 1 := ⟨px_Tm 1070 (by decide +kernel) rfl, px_Tm 14 (by decide +kernel) rfl, ⟨by decide +kernel, by decide +kernel, by decide +kernel⟩, by decide, by decide +kernel⟩
theorem fl_X6_136 : px_FL RX6 136 Q6 23 := px_Tm 877 (by decide +kernel) rfl
theorem fl_X6_139 : px_FL RX6 139 Q6 22 := px_Tm 876 (by decide +kernel) rfl
theorem mf_X6_byteAt : px_MF m_X6_byteAt 1 := ⟨px_Tm 1087 (by decide +kernel) rfl, px_Tm 14 (by decide +kernel) rfl, ⟨by decide +kernel, by decide +kernel, by decide +kernel⟩, by decide, by decide +kernel⟩
theorem fl_X6_152 : px_FL RX6 152 Q6 25 := px_Tm 879 (by decide +kernel) rfl
theorem pf_X6_25 : px_PF Q6 25 .int := ⟨by decide, rfl, tyX6_ok 25 (by decide)⟩
theorem fl_X6_163 : px_FL RX6 163 Q6 27 := px_Tm 881 (by decide +kernel) rfl
theorem pf_X6_27 : px_PF Q6 27 .long := ⟨by decide, rfl, tyX6_ok 27 (by decide)⟩
theorem fl_X6_142 : px_FL RX6 142 Q6 24 := px_Tm 878 (by decide +kernel) rfl
theorem pf_X6_24 : px_PF Q6 24 .int := ⟨by decide, rfl, tyX6_ok 24 (by decide)⟩
theorem ml_X6_145 : Cond.methodLink RX6 145 m_X6_byteAt.1 ∈ px_T := px_Tm 1084 (by decide +kernel) rfl
theorem mv_X6_byteAt : px_MV m_X6_byteAt := ⟨px_Tm 1086 (by decide +kernel) rfl, px_Ts 46 (by decide +kernel) rfl⟩
theorem cst_X6_159 : Cond.constantLong RX6 159 (48) ∈ px_T := px_Tm 1090 (by decide +kernel) rfl
theorem cst_X6_161 : Cond.constantLong RX6 161 (57) ∈ px_T := px_Tm 1091 (by decide +kernel) rfl
theorem cst_X6_167 : Cond.constantLong RX6 167 (10) ∈ px_T := px_Tm 1092 (by decide +kernel) rfl
theorem cst_X6_155 : Cond.constantLong RX6 155 (97) ∈ px_T := px_Tm 1088 (by decide +kernel) rfl
theorem cst_X6_157 : Cond.constantLong RX6 157 (122) ∈ px_T := px_Tm 1089 (by decide +kernel) rfl
theorem fl_X6_149 : px_FL RX6 149 Q6 26 := px_Tm 880 (by decide +kernel) rfl
theorem pf_X6_26 : px_PF Q6 26 .int := ⟨by decide, rfl, tyX6_ok 26 (by decide)⟩
theorem mf_X6_next : px_MF m_X6_next 0 := ⟨px_Tm 1083 (by decide +kernel) rfl, px_Tm 14 (by decide +kernel) rfl, ⟨by decide +kernel, by decide +kernel, by decide +kernel⟩, by decide, by decide +kernel⟩
theorem fl_X6_169 : px_FL RX6 169 Q6 29 := px_Tm 883 (by decide +kernel) rfl
theorem pf_X6_29 : px_PF Q6 29 .boolean := ⟨by decide, rfl, tyX6_ok 29 (by decide)⟩
theorem fl_X6_173 : px_FL RX6 173 Q6 30 := px_Tm 884 (by decide +kernel) rfl
theorem pf_X6_30 : px_PF Q6 30 .int := ⟨by decide, rfl, tyX6_ok 30 (by decide)⟩
theorem mf_X6_fail : px_MF m_X6_fail 0 := ⟨px_Tm 1108 (by decide +kernel) rfl, px_Tm 14 (by decide +kernel) rfl, ⟨by decide +kernel, by decide +kernel, by decide +kernel⟩, by decide, by decide +kernel⟩
theorem mf_X6_isLetter : px_MF m_X6_isLetter 2 := ⟨px_Tm 1100 (by decide +kernel) rfl, px_Tm 14 (by decide +kernel) rfl, ⟨by decide +kernel, by decide +kernel, by decide +kernel⟩, by decide, by decide +kernel⟩
theorem ml_X6_176 : Cond.methodLink RX6 176 m_X6_isLetter.1 ∈ px_T := px_Tm 1097 (by decide +kernel) rfl
theorem mv_X6_isLetter : px_MV m_X6_isLetter := ⟨px_Tm 1099 (by decide +kernel) rfl, px_Ts 48 (by decide +kernel) rfl⟩
theorem mf_X6_isWord : px_MF m_X6_isWord 8 := ⟨px_Tm 1096 (by decide +kernel) rfl, px_Tm 14 (by decide +kernel) rfl, ⟨by decide +kernel, by decide +kernel, by decide +kernel⟩, by decide, by decide +kernel⟩
theorem mf_X6_isSign : px_MF m_X6_isSign 1 := ⟨px_Tm 1160 (by decide +kernel) rfl, px_Tm 14 (by decide +kernel) rfl, ⟨by decide +kernel, by decide +kernel, by decide +kernel⟩, by decide, by decide +kernel⟩
end
section
theorem dX6_in_0 : decode cX6_in 0 = .ok (.lload_n 0, 1) := by decide +kernel
theorem dX6_in_1 : decode cX6_in 1 = .ok (.lload_n 2, 1) := by decide +kernel
theorem dX6_in_2 : decode cX6_in 2 = .ok (.lcmp, 1) := by decide +kernel
theorem dX6_in_3 : decode cX6_in 3 = .ok (.ifCond .lt 14, 3) := by decide +kernel
theorem dX6_in_6 : decode cX6_in 6 = .ok (.lload_n 0, 1) := by decide +kernel
theorem dX6_in_7 : decode cX6_in 7 = .ok (.lload 4, 2) := by decide +kernel
theorem dX6_in_9 : decode cX6_in 9 = .ok (.lcmp, 1) := by decide +kernel
theorem dX6_in_10 : decode cX6_in 10 = .ok (.ifCond .gt 7, 3) := by decide +kernel
theorem dX6_in_13 : decode cX6_in 13 = .ok (.iconst 1, 1) := by decide +kernel
theorem dX6_in_14 : decode cX6_in 14 = .ok (.goto 4, 3) := by decide +kernel
theorem dX6_in_17 : decode cX6_in 17 = .ok (.iconst 0, 1) := by decide +kernel
theorem dX6_in_18 : decode cX6_in 18 = .ok (.ireturn, 1) := by decide +kernel
theorem dX6_within_0 : decode cX6_within 0 = .ok (.iload_n 0, 1) := by decide +kernel
theorem dX6_within_1 : decode cX6_within 1 = .ok (.iload_n 1, 1) := by decide +kernel
theorem dX6_within_2 : decode cX6_within 2 = .ok (.if_icmp .ge 7, 3) := by decide +kernel
theorem dX6_within_5 : decode cX6_within 5 = .ok (.iload_n 1, 1) := by decide +kernel
theorem dX6_within_6 : decode cX6_within 6 = .ok (.goto 13, 3) := by decide +kernel
theorem dX6_within_9 : decode cX6_within 9 = .ok (.iload_n 0, 1) := by decide +kernel
theorem dX6_within_10 : decode cX6_within 10 = .ok (.iload_n 2, 1) := by decide +kernel
theorem dX6_within_11 : decode cX6_within 11 = .ok (.if_icmp .le 7, 3) := by decide +kernel
theorem dX6_within_14 : decode cX6_within 14 = .ok (.iload_n 2, 1) := by decide +kernel
theorem dX6_within_15 : decode cX6_within 15 = .ok (.goto 4, 3) := by decide +kernel
theorem dX6_within_18 : decode cX6_within 18 = .ok (.iload_n 0, 1) := by decide +kernel
theorem dX6_within_19 : decode cX6_within 19 = .ok (.ireturn, 1) := by decide +kernel
theorem dX6_bitsOf_0 : decode cX6_bitsOf 0 = .ok (.iconst 0, 1) := by decide +kernel
theorem dX6_bitsOf_1 : decode cX6_bitsOf 1 = .ok (.istore_n 1, 1) := by decide +kernel
theorem dX6_bitsOf_2 : decode cX6_bitsOf 2 = .ok (.iload_n 0, 1) := by decide +kernel
theorem dX6_bitsOf_3 : decode cX6_bitsOf 3 = .ok (.istore_n 2, 1) := by decide +kernel
theorem dX6_bitsOf_4 : decode cX6_bitsOf 4 = .ok (.iload_n 2, 1) := by decide +kernel
theorem dX6_bitsOf_5 : decode cX6_bitsOf 5 = .ok (.ifCond .eq 15, 3) := by decide +kernel
theorem dX6_bitsOf_8 : decode cX6_bitsOf 8 = .ok (.iinc 1 1, 3) := by decide +kernel
theorem dX6_bitsOf_11 : decode cX6_bitsOf 11 = .ok (.iload_n 2, 1) := by decide +kernel
theorem dX6_bitsOf_12 : decode cX6_bitsOf 12 = .ok (.iload_n 2, 1) := by decide +kernel
theorem dX6_bitsOf_13 : decode cX6_bitsOf 13 = .ok (.iconst 1, 1) := by decide +kernel
theorem dX6_bitsOf_14 : decode cX6_bitsOf 14 = .ok (.isub, 1) := by decide +kernel
theorem dX6_bitsOf_15 : decode cX6_bitsOf 15 = .ok (.iand, 1) := by decide +kernel
theorem dX6_bitsOf_16 : decode cX6_bitsOf 16 = .ok (.istore_n 2, 1) := by decide +kernel
theorem dX6_bitsOf_17 : decode cX6_bitsOf 17 = .ok (.goto (-13), 3) := by decide +kernel
theorem dX6_bitsOf_20 : decode cX6_bitsOf 20 = .ok (.iload_n 1, 1) := by decide +kernel
theorem dX6_bitsOf_21 : decode cX6_bitsOf 21 = .ok (.ireturn, 1) := by decide +kernel
theorem dX6_spell_0 : decode cX6_spell 0 = .ok (.aload_n 0, 1) := by decide +kernel
theorem dX6_spell_1 : decode cX6_spell 1 = .ok (.getfield 13, 3) := by decide +kernel
theorem dX6_spell_4 : decode cX6_spell 4 = .ok (.iload_n 1, 1) := by decide +kernel
theorem dX6_spell_5 : decode cX6_spell 5 = .ok (.iload_n 2, 1) := by decide +kernel
theorem dX6_spell_6 : decode cX6_spell 6 = .ok (.iastore, 1) := by decide +kernel
theorem dX6_spell_7 : decode cX6_spell 7 = .ok (.aload_n 0, 1) := by decide +kernel
theorem dX6_spell_8 : decode cX6_spell 8 = .ok (.getfield 13, 3) := by decide +kernel
theorem dX6_spell_11 : decode cX6_spell 11 = .ok (.iload_n 1, 1) := by decide +kernel
theorem dX6_spell_12 : decode cX6_spell 12 = .ok (.iconst 1, 1) := by decide +kernel
theorem dX6_spell_13 : decode cX6_spell 13 = .ok (.iadd, 1) := by decide +kernel
theorem dX6_spell_14 : decode cX6_spell 14 = .ok (.iload_n 3, 1) := by decide +kernel
theorem dX6_spell_15 : decode cX6_spell 15 = .ok (.iastore, 1) := by decide +kernel
theorem dX6_spell_16 : decode cX6_spell 16 = .ok (.aload_n 0, 1) := by decide +kernel
theorem dX6_spell_17 : decode cX6_spell 17 = .ok (.getfield 13, 3) := by decide +kernel
theorem dX6_spell_20 : decode cX6_spell 20 = .ok (.iload_n 1, 1) := by decide +kernel
theorem dX6_spell_21 : decode cX6_spell 21 = .ok (.iconst 2, 1) := by decide +kernel
theorem dX6_spell_22 : decode cX6_spell 22 = .ok (.iadd, 1) := by decide +kernel
theorem dX6_spell_23 : decode cX6_spell 23 = .ok (.iload 4, 2) := by decide +kernel
theorem dX6_spell_25 : decode cX6_spell 25 = .ok (.iastore, 1) := by decide +kernel
theorem dX6_spell_26 : decode cX6_spell 26 = .ok (.aload_n 0, 1) := by decide +kernel
theorem dX6_spell_27 : decode cX6_spell 27 = .ok (.getfield 13, 3) := by decide +kernel
theorem dX6_spell_30 : decode cX6_spell 30 = .ok (.iload_n 1, 1) := by decide +kernel
theorem dX6_spell_31 : decode cX6_spell 31 = .ok (.iconst 3, 1) := by decide +kernel
theorem dX6_spell_32 : decode cX6_spell 32 = .ok (.iadd, 1) := by decide +kernel
theorem dX6_spell_33 : decode cX6_spell 33 = .ok (.iload 5, 2) := by decide +kernel
theorem dX6_spell_35 : decode cX6_spell 35 = .ok (.iastore, 1) := by decide +kernel
theorem dX6_spell_36 : decode cX6_spell 36 = .ok (.aload_n 0, 1) := by decide +kernel
theorem dX6_spell_37 : decode cX6_spell 37 = .ok (.getfield 13, 3) := by decide +kernel
theorem dX6_spell_40 : decode cX6_spell 40 = .ok (.iload_n 1, 1) := by decide +kernel
theorem dX6_spell_41 : decode cX6_spell 41 = .ok (.iconst 4, 1) := by decide +kernel
theorem dX6_spell_42 : decode cX6_spell 42 = .ok (.iadd, 1) := by decide +kernel
theorem dX6_spell_43 : decode cX6_spell 43 = .ok (.iload 6, 2) := by decide +kernel
theorem dX6_spell_45 : decode cX6_spell 45 = .ok (.iastore, 1) := by decide +kernel
theorem dX6_spell_46 : decode cX6_spell 46 = .ok (.aload_n 0, 1) := by decide +kernel
theorem dX6_spell_47 : decode cX6_spell 47 = .ok (.getfield 13, 3) := by decide +kernel
theorem dX6_spell_50 : decode cX6_spell 50 = .ok (.iload_n 1, 1) := by decide +kernel
theorem dX6_spell_51 : decode cX6_spell 51 = .ok (.iconst 5, 1) := by decide +kernel
theorem dX6_spell_52 : decode cX6_spell 52 = .ok (.iadd, 1) := by decide +kernel
theorem dX6_spell_53 : decode cX6_spell 53 = .ok (.iload 7, 2) := by decide +kernel
theorem dX6_spell_55 : decode cX6_spell 55 = .ok (.iastore, 1) := by decide +kernel
theorem dX6_spell_56 : decode cX6_spell 56 = .ok (.aload_n 0, 1) := by decide +kernel
theorem dX6_spell_57 : decode cX6_spell 57 = .ok (.getfield 13, 3) := by decide +kernel
theorem dX6_spell_60 : decode cX6_spell 60 = .ok (.iload_n 1, 1) := by decide +kernel
theorem dX6_spell_61 : decode cX6_spell 61 = .ok (.bipush 6, 2) := by decide +kernel
theorem dX6_spell_63 : decode cX6_spell 63 = .ok (.iadd, 1) := by decide +kernel
theorem dX6_spell_64 : decode cX6_spell 64 = .ok (.iload 8, 2) := by decide +kernel
theorem dX6_spell_66 : decode cX6_spell 66 = .ok (.iastore, 1) := by decide +kernel
theorem dX6_spell_67 : decode cX6_spell 67 = .ok (.aload_n 0, 1) := by decide +kernel
theorem dX6_spell_68 : decode cX6_spell 68 = .ok (.getfield 13, 3) := by decide +kernel
theorem dX6_spell_71 : decode cX6_spell 71 = .ok (.iload_n 1, 1) := by decide +kernel
theorem dX6_spell_72 : decode cX6_spell 72 = .ok (.bipush 7, 2) := by decide +kernel
theorem dX6_spell_74 : decode cX6_spell 74 = .ok (.iadd, 1) := by decide +kernel
theorem dX6_spell_75 : decode cX6_spell 75 = .ok (.iload 9, 2) := by decide +kernel
theorem dX6_spell_77 : decode cX6_spell 77 = .ok (.iastore, 1) := by decide +kernel
theorem dX6_spell_78 : decode cX6_spell 78 = .ok (.return_, 1) := by decide +kernel
theorem dX6_isOne_0 : decode cX6_isOne 0 = .ok (.iload_n 1, 1) := by decide +kernel
theorem dX6_isOne_1 : decode cX6_isOne 1 = .ok (.i2l, 1) := by decide +kernel
theorem dX6_isOne_2 : decode cX6_isOne 2 = .ok (.lconst 0, 1) := by decide +kernel
theorem dX6_isOne_3 : decode cX6_isOne 3 = .ok (.aload_n 0, 1) := by decide +kernel
theorem dX6_isOne_4 : decode cX6_isOne 4 = .ok (.getfield 94, 3) := by decide +kernel
theorem dX6_isOne_7 : decode cX6_isOne 7 = .ok (.iconst 1, 1) := by decide +kernel
theorem dX6_isOne_8 : decode cX6_isOne 8 = .ok (.isub, 1) := by decide +kernel
theorem dX6_isOne_9 : decode cX6_isOne 9 = .ok (.i2l, 1) := by decide +kernel
theorem dX6_isOne_10 : decode cX6_isOne 10 = .ok (.invokestatic 97, 3) := by decide +kernel
theorem dX6_isOne_13 : decode cX6_isOne 13 = .ok (.ireturn, 1) := by decide +kernel
theorem dX6_isIn_0 : decode cX6_isIn 0 = .ok (.aload_n 0, 1) := by decide +kernel
theorem dX6_isIn_1 : decode cX6_isIn 1 = .ok (.iload_n 1, 1) := by decide +kernel
theorem dX6_isIn_2 : decode cX6_isIn 2 = .ok (.invokevirtual 101, 3) := by decide +kernel
theorem dX6_isIn_5 : decode cX6_isIn 5 = .ok (.ifCond .eq 19, 3) := by decide +kernel
theorem dX6_isIn_8 : decode cX6_isIn 8 = .ok (.aload_n 0, 1) := by decide +kernel
theorem dX6_isIn_9 : decode cX6_isIn 9 = .ok (.getfield 105, 3) := by decide +kernel
theorem dX6_isIn_12 : decode cX6_isIn 12 = .ok (.iload_n 1, 1) := by decide +kernel
theorem dX6_isIn_13 : decode cX6_isIn 13 = .ok (.ishr, 1) := by decide +kernel
theorem dX6_isIn_14 : decode cX6_isIn 14 = .ok (.iconst 1, 1) := by decide +kernel
theorem dX6_isIn_15 : decode cX6_isIn 15 = .ok (.iand, 1) := by decide +kernel
theorem dX6_isIn_16 : decode cX6_isIn 16 = .ok (.iconst 1, 1) := by decide +kernel
theorem dX6_isIn_17 : decode cX6_isIn 17 = .ok (.if_icmp .ne 7, 3) := by decide +kernel
theorem dX6_isIn_20 : decode cX6_isIn 20 = .ok (.iconst 1, 1) := by decide +kernel
theorem dX6_isIn_21 : decode cX6_isIn 21 = .ok (.goto 4, 3) := by decide +kernel
theorem dX6_isIn_24 : decode cX6_isIn 24 = .ok (.iconst 0, 1) := by decide +kernel
theorem dX6_isIn_25 : decode cX6_isIn 25 = .ok (.ireturn, 1) := by decide +kernel
theorem dX6_inmate_0 : decode cX6_inmate 0 = .ok (.iload_n 1, 1) := by decide +kernel
theorem dX6_inmate_1 : decode cX6_inmate 1 = .ok (.i2l, 1) := by decide +kernel
theorem dX6_inmate_2 : decode cX6_inmate 2 = .ok (.lconst 0, 1) := by decide +kernel
theorem dX6_inmate_3 : decode cX6_inmate 3 = .ok (.ldc2_w 108, 3) := by decide +kernel
theorem dX6_inmate_6 : decode cX6_inmate 6 = .ok (.invokestatic 97, 3) := by decide +kernel
theorem dX6_inmate_9 : decode cX6_inmate 9 = .ok (.ifCond .eq 15, 3) := by decide +kernel
theorem dX6_inmate_12 : decode cX6_inmate 12 = .ok (.iload_n 2, 1) := by decide +kernel
theorem dX6_inmate_13 : decode cX6_inmate 13 = .ok (.i2l, 1) := by decide +kernel
theorem dX6_inmate_14 : decode cX6_inmate 14 = .ok (.lconst 0, 1) := by decide +kernel
theorem dX6_inmate_15 : decode cX6_inmate 15 = .ok (.ldc2_w 110, 3) := by decide +kernel
theorem dX6_inmate_18 : decode cX6_inmate 18 = .ok (.invokestatic 97, 3) := by decide +kernel
theorem dX6_inmate_21 : decode cX6_inmate 21 = .ok (.ifCond .ne 6, 3) := by decide +kernel
theorem dX6_inmate_24 : decode cX6_inmate 24 = .ok (.bipush (-2), 2) := by decide +kernel
theorem dX6_inmate_26 : decode cX6_inmate 26 = .ok (.ireturn, 1) := by decide +kernel
theorem dX6_inmate_27 : decode cX6_inmate 27 = .ok (.aload_n 0, 1) := by decide +kernel
theorem dX6_inmate_28 : decode cX6_inmate 28 = .ok (.getfield 94, 3) := by decide +kernel
theorem dX6_inmate_31 : decode cX6_inmate 31 = .ok (.bipush 7, 2) := by decide +kernel
theorem dX6_inmate_33 : decode cX6_inmate 33 = .ok (.if_icmp .ne 6, 3) := by decide +kernel
theorem dX6_inmate_36 : decode cX6_inmate 36 = .ok (.bipush (-4), 2) := by decide +kernel
theorem dX6_inmate_38 : decode cX6_inmate 38 = .ok (.ireturn, 1) := by decide +kernel
theorem dX6_inmate_39 : decode cX6_inmate 39 = .ok (.aload_n 0, 1) := by decide +kernel
theorem dX6_inmate_40 : decode cX6_inmate 40 = .ok (.getfield 23, 3) := by decide +kernel
theorem dX6_inmate_43 : decode cX6_inmate 43 = .ok (.aload_n 0, 1) := by decide +kernel
theorem dX6_inmate_44 : decode cX6_inmate 44 = .ok (.getfield 94, 3) := by decide +kernel
theorem dX6_inmate_47 : decode cX6_inmate 47 = .ok (.iload_n 1, 1) := by decide +kernel
theorem dX6_inmate_48 : decode cX6_inmate 48 = .ok (.iastore, 1) := by decide +kernel
theorem dX6_inmate_49 : decode cX6_inmate 49 = .ok (.aload_n 0, 1) := by decide +kernel
theorem dX6_inmate_50 : decode cX6_inmate 50 = .ok (.getfield 26, 3) := by decide +kernel
theorem dX6_inmate_53 : decode cX6_inmate 53 = .ok (.aload_n 0, 1) := by decide +kernel
theorem dX6_inmate_54 : decode cX6_inmate 54 = .ok (.getfield 94, 3) := by decide +kernel
theorem dX6_inmate_57 : decode cX6_inmate 57 = .ok (.iload_n 2, 1) := by decide +kernel
theorem dX6_inmate_58 : decode cX6_inmate 58 = .ok (.iastore, 1) := by decide +kernel
theorem dX6_inmate_59 : decode cX6_inmate 59 = .ok (.aload_n 0, 1) := by decide +kernel
theorem dX6_inmate_60 : decode cX6_inmate 60 = .ok (.getfield 32, 3) := by decide +kernel
theorem dX6_inmate_63 : decode cX6_inmate 63 = .ok (.aload_n 0, 1) := by decide +kernel
theorem dX6_inmate_64 : decode cX6_inmate 64 = .ok (.getfield 94, 3) := by decide +kernel
theorem dX6_inmate_67 : decode cX6_inmate 67 = .ok (.iconst 0, 1) := by decide +kernel
theorem dX6_inmate_68 : decode cX6_inmate 68 = .ok (.iastore, 1) := by decide +kernel
theorem dX6_inmate_69 : decode cX6_inmate 69 = .ok (.iconst 0, 1) := by decide +kernel
theorem dX6_inmate_70 : decode cX6_inmate 70 = .ok (.istore_n 3, 1) := by decide +kernel
theorem dX6_inmate_71 : decode cX6_inmate 71 = .ok (.iload_n 3, 1) := by decide +kernel
theorem dX6_inmate_72 : decode cX6_inmate 72 = .ok (.bipush 7, 2) := by decide +kernel
theorem dX6_inmate_74 : decode cX6_inmate 74 = .ok (.if_icmp .ge 56, 3) := by decide +kernel
theorem dX6_inmate_77 : decode cX6_inmate 77 = .ok (.aload_n 0, 1) := by decide +kernel
theorem dX6_inmate_78 : decode cX6_inmate 78 = .ok (.getfield 29, 3) := by decide +kernel
theorem dX6_inmate_81 : decode cX6_inmate 81 = .ok (.bipush 7, 2) := by decide +kernel
theorem dX6_inmate_83 : decode cX6_inmate 83 = .ok (.aload_n 0, 1) := by decide +kernel
theorem dX6_inmate_84 : decode cX6_inmate 84 = .ok (.getfield 94, 3) := by decide +kernel
theorem dX6_inmate_87 : decode cX6_inmate 87 = .ok (.imul, 1) := by decide +kernel
theorem dX6_inmate_88 : decode cX6_inmate 88 = .ok (.iload_n 3, 1) := by decide +kernel
theorem dX6_inmate_89 : decode cX6_inmate 89 = .ok (.iadd, 1) := by decide +kernel
theorem dX6_inmate_90 : decode cX6_inmate 90 = .ok (.iconst 5, 1) := by decide +kernel
theorem dX6_inmate_91 : decode cX6_inmate 91 = .ok (.iastore, 1) := by decide +kernel
theorem dX6_inmate_92 : decode cX6_inmate 92 = .ok (.aload_n 0, 1) := by decide +kernel
theorem dX6_inmate_93 : decode cX6_inmate 93 = .ok (.getfield 29, 3) := by decide +kernel
theorem dX6_inmate_96 : decode cX6_inmate 96 = .ok (.bipush 7, 2) := by decide +kernel
theorem dX6_inmate_98 : decode cX6_inmate 98 = .ok (.iload_n 3, 1) := by decide +kernel
theorem dX6_inmate_99 : decode cX6_inmate 99 = .ok (.imul, 1) := by decide +kernel
theorem dX6_inmate_100 : decode cX6_inmate 100 = .ok (.aload_n 0, 1) := by decide +kernel
theorem dX6_inmate_101 : decode cX6_inmate 101 = .ok (.getfield 94, 3) := by decide +kernel
theorem dX6_inmate_104 : decode cX6_inmate 104 = .ok (.iadd, 1) := by decide +kernel
theorem dX6_inmate_105 : decode cX6_inmate 105 = .ok (.iconst 5, 1) := by decide +kernel
theorem dX6_inmate_106 : decode cX6_inmate 106 = .ok (.iastore, 1) := by decide +kernel
theorem dX6_inmate_107 : decode cX6_inmate 107 = .ok (.aload_n 0, 1) := by decide +kernel
theorem dX6_inmate_108 : decode cX6_inmate 108 = .ok (.getfield 32, 3) := by decide +kernel
theorem dX6_inmate_111 : decode cX6_inmate 111 = .ok (.iload_n 3, 1) := by decide +kernel
theorem dX6_inmate_112 : decode cX6_inmate 112 = .ok (.dup2, 1) := by decide +kernel
theorem dX6_inmate_113 : decode cX6_inmate 113 = .ok (.iaload, 1) := by decide +kernel
theorem dX6_inmate_114 : decode cX6_inmate 114 = .ok (.iconst 1, 1) := by decide +kernel
theorem dX6_inmate_115 : decode cX6_inmate 115 = .ok (.aload_n 0, 1) := by decide +kernel
theorem dX6_inmate_116 : decode cX6_inmate 116 = .ok (.getfield 94, 3) := by decide +kernel
theorem dX6_inmate_119 : decode cX6_inmate 119 = .ok (.ishl, 1) := by decide +kernel
theorem dX6_inmate_120 : decode cX6_inmate 120 = .ok (.iconst (-1), 1) := by decide +kernel
theorem dX6_inmate_121 : decode cX6_inmate 121 = .ok (.ixor, 1) := by decide +kernel
theorem dX6_inmate_122 : decode cX6_inmate 122 = .ok (.iand, 1) := by decide +kernel
theorem dX6_inmate_123 : decode cX6_inmate 123 = .ok (.iastore, 1) := by decide +kernel
theorem dX6_inmate_124 : decode cX6_inmate 124 = .ok (.iinc 3 1, 3) := by decide +kernel
theorem dX6_inmate_127 : decode cX6_inmate 127 = .ok (.goto (-56), 3) := by decide +kernel
theorem dX6_inmate_130 : decode cX6_inmate 130 = .ok (.aload_n 0, 1) := by decide +kernel
theorem dX6_inmate_131 : decode cX6_inmate 131 = .ok (.dup, 1) := by decide +kernel
theorem dX6_inmate_132 : decode cX6_inmate 132 = .ok (.getfield 105, 3) := by decide +kernel
theorem dX6_inmate_135 : decode cX6_inmate 135 = .ok (.iconst 1, 1) := by decide +kernel
theorem dX6_inmate_136 : decode cX6_inmate 136 = .ok (.aload_n 0, 1) := by decide +kernel
theorem dX6_inmate_137 : decode cX6_inmate 137 = .ok (.getfield 94, 3) := by decide +kernel
theorem dX6_inmate_140 : decode cX6_inmate 140 = .ok (.ishl, 1) := by decide +kernel
theorem dX6_inmate_141 : decode cX6_inmate 141 = .ok (.ior, 1) := by decide +kernel
theorem dX6_inmate_142 : decode cX6_inmate 142 = .ok (.putfield 105, 3) := by decide +kernel
theorem dX6_inmate_145 : decode cX6_inmate 145 = .ok (.aload_n 0, 1) := by decide +kernel
theorem dX6_inmate_146 : decode cX6_inmate 146 = .ok (.dup, 1) := by decide +kernel
theorem dX6_inmate_147 : decode cX6_inmate 147 = .ok (.getfield 94, 3) := by decide +kernel
theorem dX6_inmate_150 : decode cX6_inmate 150 = .ok (.iconst 1, 1) := by decide +kernel
theorem dX6_inmate_151 : decode cX6_inmate 151 = .ok (.iadd, 1) := by decide +kernel
theorem dX6_inmate_152 : decode cX6_inmate 152 = .ok (.putfield 94, 3) := by decide +kernel
theorem dX6_inmate_155 : decode cX6_inmate 155 = .ok (.aload_n 0, 1) := by decide +kernel
theorem dX6_inmate_156 : decode cX6_inmate 156 = .ok (.getfield 94, 3) := by decide +kernel
theorem dX6_inmate_159 : decode cX6_inmate 159 = .ok (.iconst 1, 1) := by decide +kernel
theorem dX6_inmate_160 : decode cX6_inmate 160 = .ok (.isub, 1) := by decide +kernel
theorem dX6_inmate_161 : decode cX6_inmate 161 = .ok (.ireturn, 1) := by decide +kernel
theorem dX6_like_0 : decode cX6_like 0 = .ok (.aload_n 0, 1) := by decide +kernel
theorem dX6_like_1 : decode cX6_like 1 = .ok (.iload_n 1, 1) := by decide +kernel
theorem dX6_like_2 : decode cX6_like 2 = .ok (.invokevirtual 101, 3) := by decide +kernel
theorem dX6_like_5 : decode cX6_like 5 = .ok (.ifCond .eq 28, 3) := by decide +kernel
theorem dX6_like_8 : decode cX6_like 8 = .ok (.aload_n 0, 1) := by decide +kernel
theorem dX6_like_9 : decode cX6_like 9 = .ok (.iload_n 2, 1) := by decide +kernel
theorem dX6_like_10 : decode cX6_like 10 = .ok (.invokevirtual 101, 3) := by decide +kernel
theorem dX6_like_13 : decode cX6_like 13 = .ok (.ifCond .eq 20, 3) := by decide +kernel
theorem dX6_like_16 : decode cX6_like 16 = .ok (.iload_n 1, 1) := by decide +kernel
theorem dX6_like_17 : decode cX6_like 17 = .ok (.iload_n 2, 1) := by decide +kernel
theorem dX6_like_18 : decode cX6_like 18 = .ok (.if_icmp .eq 15, 3) := by decide +kernel
theorem dX6_like_21 : decode cX6_like 21 = .ok (.iload_n 3, 1) := by decide +kernel
theorem dX6_like_22 : decode cX6_like 22 = .ok (.i2l, 1) := by decide +kernel
theorem dX6_like_23 : decode cX6_like 23 = .ok (.lconst 0, 1) := by decide +kernel
theorem dX6_like_24 : decode cX6_like 24 = .ok (.ldc2_w 110, 3) := by decide +kernel
theorem dX6_like_27 : decode cX6_like 27 = .ok (.invokestatic 97, 3) := by decide +kernel
theorem dX6_like_30 : decode cX6_like 30 = .ok (.ifCond .ne 6, 3) := by decide +kernel
theorem dX6_like_33 : decode cX6_like 33 = .ok (.bipush (-2), 2) := by decide +kernel
theorem dX6_like_35 : decode cX6_like 35 = .ok (.ireturn, 1) := by decide +kernel
theorem dX6_like_36 : decode cX6_like 36 = .ok (.aload_n 0, 1) := by decide +kernel
theorem dX6_like_37 : decode cX6_like 37 = .ok (.getfield 29, 3) := by decide +kernel
theorem dX6_like_40 : decode cX6_like 40 = .ok (.bipush 7, 2) := by decide +kernel
theorem dX6_like_42 : decode cX6_like 42 = .ok (.iload_n 1, 1) := by decide +kernel
theorem dX6_like_43 : decode cX6_like 43 = .ok (.imul, 1) := by decide +kernel
theorem dX6_like_44 : decode cX6_like 44 = .ok (.iload_n 2, 1) := by decide +kernel
theorem dX6_like_45 : decode cX6_like 45 = .ok (.iadd, 1) := by decide +kernel
theorem dX6_like_46 : decode cX6_like 46 = .ok (.iaload, 1) := by decide +kernel
theorem dX6_like_47 : decode cX6_like 47 = .ok (.istore 4, 2) := by decide +kernel
theorem dX6_like_49 : decode cX6_like 49 = .ok (.aload_n 0, 1) := by decide +kernel
theorem dX6_like_50 : decode cX6_like 50 = .ok (.getfield 29, 3) := by decide +kernel
theorem dX6_like_53 : decode cX6_like 53 = .ok (.bipush 7, 2) := by decide +kernel
theorem dX6_like_55 : decode cX6_like 55 = .ok (.iload_n 1, 1) := by decide +kernel
theorem dX6_like_56 : decode cX6_like 56 = .ok (.imul, 1) := by decide +kernel
theorem dX6_like_57 : decode cX6_like 57 = .ok (.iload_n 2, 1) := by decide +kernel
theorem dX6_like_58 : decode cX6_like 58 = .ok (.iadd, 1) := by decide +kernel
theorem dX6_like_59 : decode cX6_like 59 = .ok (.iload_n 3, 1) := by decide +kernel
theorem dX6_like_60 : decode cX6_like 60 = .ok (.iastore, 1) := by decide +kernel
theorem dX6_like_61 : decode cX6_like 61 = .ok (.iload 4, 2) := by decide +kernel
theorem dX6_like_63 : decode cX6_like 63 = .ok (.ireturn, 1) := by decide +kernel
theorem dX6_areSworn_0 : decode cX6_areSworn 0 = .ok (.aload_n 0, 1) := by decide +kernel
theorem dX6_areSworn_1 : decode cX6_areSworn 1 = .ok (.getfield 32, 3) := by decide +kernel
theorem dX6_areSworn_4 : decode cX6_areSworn 4 = .ok (.iload_n 1, 1) := by decide +kernel
theorem dX6_areSworn_5 : decode cX6_areSworn 5 = .ok (.iaload, 1) := by decide +kernel
theorem dX6_areSworn_6 : decode cX6_areSworn 6 = .ok (.iload_n 2, 1) := by decide +kernel
theorem dX6_areSworn_7 : decode cX6_areSworn 7 = .ok (.ishr, 1) := by decide +kernel
theorem dX6_areSworn_8 : decode cX6_areSworn 8 = .ok (.iconst 1, 1) := by decide +kernel
theorem dX6_areSworn_9 : decode cX6_areSworn 9 = .ok (.iand, 1) := by decide +kernel
theorem dX6_areSworn_10 : decode cX6_areSworn 10 = .ok (.iconst 1, 1) := by decide +kernel
theorem dX6_areSworn_11 : decode cX6_areSworn 11 = .ok (.if_icmp .ne 7, 3) := by decide +kernel
theorem dX6_areSworn_14 : decode cX6_areSworn 14 = .ok (.iconst 1, 1) := by decide +kernel
theorem dX6_areSworn_15 : decode cX6_areSworn 15 = .ok (.goto 4, 3) := by decide +kernel
theorem dX6_areSworn_18 : decode cX6_areSworn 18 = .ok (.iconst 0, 1) := by decide +kernel
theorem dX6_areSworn_19 : decode cX6_areSworn 19 = .ok (.ireturn, 1) := by decide +kernel
theorem dX6_swears_0 : decode cX6_swears 0 = .ok (.aload_n 0, 1) := by decide +kernel
theorem dX6_swears_1 : decode cX6_swears 1 = .ok (.getfield 32, 3) := by decide +kernel
theorem dX6_swears_4 : decode cX6_swears 4 = .ok (.iload_n 1, 1) := by decide +kernel
theorem dX6_swears_5 : decode cX6_swears 5 = .ok (.aload_n 0, 1) := by decide +kernel
theorem dX6_swears_6 : decode cX6_swears 6 = .ok (.getfield 32, 3) := by decide +kernel
theorem dX6_swears_9 : decode cX6_swears 9 = .ok (.iload_n 1, 1) := by decide +kernel
theorem dX6_swears_10 : decode cX6_swears 10 = .ok (.iaload, 1) := by decide +kernel
theorem dX6_swears_11 : decode cX6_swears 11 = .ok (.iconst 1, 1) := by decide +kernel
theorem dX6_swears_12 : decode cX6_swears 12 = .ok (.iload_n 2, 1) := by decide +kernel
theorem dX6_swears_13 : decode cX6_swears 13 = .ok (.ishl, 1) := by decide +kernel
theorem dX6_swears_14 : decode cX6_swears 14 = .ok (.iconst (-1), 1) := by decide +kernel
theorem dX6_swears_15 : decode cX6_swears 15 = .ok (.ixor, 1) := by decide +kernel
theorem dX6_swears_16 : decode cX6_swears 16 = .ok (.iand, 1) := by decide +kernel
theorem dX6_swears_17 : decode cX6_swears 17 = .ok (.iload_n 3, 1) := by decide +kernel
theorem dX6_swears_18 : decode cX6_swears 18 = .ok (.iload_n 2, 1) := by decide +kernel
theorem dX6_swears_19 : decode cX6_swears 19 = .ok (.ishl, 1) := by decide +kernel
theorem dX6_swears_20 : decode cX6_swears 20 = .ok (.ior, 1) := by decide +kernel
theorem dX6_swears_21 : decode cX6_swears 21 = .ok (.iastore, 1) := by decide +kernel
theorem dX6_swears_22 : decode cX6_swears 22 = .ok (.aload_n 0, 1) := by decide +kernel
theorem dX6_swears_23 : decode cX6_swears 23 = .ok (.getfield 32, 3) := by decide +kernel
theorem dX6_swears_26 : decode cX6_swears 26 = .ok (.iload_n 2, 1) := by decide +kernel
theorem dX6_swears_27 : decode cX6_swears 27 = .ok (.aload_n 0, 1) := by decide +kernel
theorem dX6_swears_28 : decode cX6_swears 28 = .ok (.getfield 32, 3) := by decide +kernel
theorem dX6_swears_31 : decode cX6_swears 31 = .ok (.iload_n 2, 1) := by decide +kernel
theorem dX6_swears_32 : decode cX6_swears 32 = .ok (.iaload, 1) := by decide +kernel
theorem dX6_swears_33 : decode cX6_swears 33 = .ok (.iconst 1, 1) := by decide +kernel
theorem dX6_swears_34 : decode cX6_swears 34 = .ok (.iload_n 1, 1) := by decide +kernel
theorem dX6_swears_35 : decode cX6_swears 35 = .ok (.ishl, 1) := by decide +kernel
theorem dX6_swears_36 : decode cX6_swears 36 = .ok (.iconst (-1), 1) := by decide +kernel
theorem dX6_swears_37 : decode cX6_swears 37 = .ok (.ixor, 1) := by decide +kernel
theorem dX6_swears_38 : decode cX6_swears 38 = .ok (.iand, 1) := by decide +kernel
theorem dX6_swears_39 : decode cX6_swears 39 = .ok (.iload_n 3, 1) := by decide +kernel
theorem dX6_swears_40 : decode cX6_swears 40 = .ok (.iload_n 1, 1) := by decide +kernel
theorem dX6_swears_41 : decode cX6_swears 41 = .ok (.ishl, 1) := by decide +kernel
theorem dX6_swears_42 : decode cX6_swears 42 = .ok (.ior, 1) := by decide +kernel
theorem dX6_swears_43 : decode cX6_swears 43 = .ok (.iastore, 1) := by decide +kernel
theorem dX6_swears_44 : decode cX6_swears 44 = .ok (.return_, 1) := by decide +kernel
theorem dX6_swear_0 : decode cX6_swear 0 = .ok (.aload_n 0, 1) := by decide +kernel
theorem dX6_swear_1 : decode cX6_swear 1 = .ok (.iload_n 1, 1) := by decide +kernel
theorem dX6_swear_2 : decode cX6_swear 2 = .ok (.invokevirtual 101, 3) := by decide +kernel
theorem dX6_swear_5 : decode cX6_swear 5 = .ok (.ifCond .eq 26, 3) := by decide +kernel
theorem dX6_swear_8 : decode cX6_swear 8 = .ok (.aload_n 0, 1) := by decide +kernel
theorem dX6_swear_9 : decode cX6_swear 9 = .ok (.iload_n 2, 1) := by decide +kernel
theorem dX6_swear_10 : decode cX6_swear 10 = .ok (.invokevirtual 101, 3) := by decide +kernel
theorem dX6_swear_13 : decode cX6_swear 13 = .ok (.ifCond .eq 18, 3) := by decide +kernel
theorem dX6_swear_16 : decode cX6_swear 16 = .ok (.iload_n 1, 1) := by decide +kernel
theorem dX6_swear_17 : decode cX6_swear 17 = .ok (.iload_n 2, 1) := by decide +kernel
theorem dX6_swear_18 : decode cX6_swear 18 = .ok (.if_icmp .eq 13, 3) := by decide +kernel
theorem dX6_swear_21 : decode cX6_swear 21 = .ok (.iload_n 3, 1) := by decide +kernel
theorem dX6_swear_22 : decode cX6_swear 22 = .ok (.i2l, 1) := by decide +kernel
theorem dX6_swear_23 : decode cX6_swear 23 = .ok (.lconst 0, 1) := by decide +kernel
theorem dX6_swear_24 : decode cX6_swear 24 = .ok (.lconst 1, 1) := by decide +kernel
theorem dX6_swear_25 : decode cX6_swear 25 = .ok (.invokestatic 97, 3) := by decide +kernel
theorem dX6_swear_28 : decode cX6_swear 28 = .ok (.ifCond .ne 6, 3) := by decide +kernel
theorem dX6_swear_31 : decode cX6_swear 31 = .ok (.bipush (-2), 2) := by decide +kernel
theorem dX6_swear_33 : decode cX6_swear 33 = .ok (.ireturn, 1) := by decide +kernel
theorem dX6_swear_34 : decode cX6_swear 34 = .ok (.aload_n 0, 1) := by decide +kernel
theorem dX6_swear_35 : decode cX6_swear 35 = .ok (.iload_n 1, 1) := by decide +kernel
theorem dX6_swear_36 : decode cX6_swear 36 = .ok (.iload_n 2, 1) := by decide +kernel
theorem dX6_swear_37 : decode cX6_swear 37 = .ok (.invokevirtual 112, 3) := by decide +kernel
theorem dX6_swear_40 : decode cX6_swear 40 = .ok (.ifCond .eq 7, 3) := by decide +kernel
theorem dX6_swear_43 : decode cX6_swear 43 = .ok (.iconst 1, 1) := by decide +kernel
theorem dX6_swear_44 : decode cX6_swear 44 = .ok (.goto 4, 3) := by decide +kernel
theorem dX6_swear_47 : decode cX6_swear 47 = .ok (.iconst 0, 1) := by decide +kernel
theorem dX6_swear_48 : decode cX6_swear 48 = .ok (.istore 4, 2) := by decide +kernel
theorem dX6_swear_50 : decode cX6_swear 50 = .ok (.aload_n 0, 1) := by decide +kernel
theorem dX6_swear_51 : decode cX6_swear 51 = .ok (.iload_n 1, 1) := by decide +kernel
theorem dX6_swear_52 : decode cX6_swear 52 = .ok (.iload_n 2, 1) := by decide +kernel
theorem dX6_swear_53 : decode cX6_swear 53 = .ok (.iload_n 3, 1) := by decide +kernel
theorem dX6_swear_54 : decode cX6_swear 54 = .ok (.invokevirtual 116, 3) := by decide +kernel
theorem dX6_swear_57 : decode cX6_swear 57 = .ok (.iload 4, 2) := by decide +kernel
theorem dX6_swear_59 : decode cX6_swear 59 = .ok (.ireturn, 1) := by decide +kernel
theorem dX6_set_0 : decode cX6_set 0 = .ok (.iload_n 1, 1) := by decide +kernel
theorem dX6_set_1 : decode cX6_set 1 = .ok (.i2l, 1) := by decide +kernel
theorem dX6_set_2 : decode cX6_set 2 = .ok (.lconst 0, 1) := by decide +kernel
theorem dX6_set_3 : decode cX6_set 3 = .ok (.ldc2_w 120, 3) := by decide +kernel
theorem dX6_set_6 : decode cX6_set 6 = .ok (.invokestatic 97, 3) := by decide +kernel
theorem dX6_set_9 : decode cX6_set 9 = .ok (.ifCond .eq 80, 3) := by decide +kernel
theorem dX6_set_12 : decode cX6_set 12 = .ok (.iload_n 1, 1) := by decide +kernel
theorem dX6_set_13 : decode cX6_set 13 = .ok (.iconst 2, 1) := by decide +kernel
theorem dX6_set_14 : decode cX6_set 14 = .ok (.if_icmp .le 11, 3) := by decide +kernel
theorem dX6_set_17 : decode cX6_set 17 = .ok (.aload_n 0, 1) := by decide +kernel
theorem dX6_set_18 : decode cX6_set 18 = .ok (.iload_n 2, 1) := by decide +kernel
theorem dX6_set_19 : decode cX6_set 19 = .ok (.invokevirtual 101, 3) := by decide +kernel
theorem dX6_set_22 : decode cX6_set 22 = .ok (.ifCond .eq 67, 3) := by decide +kernel
theorem dX6_set_25 : decode cX6_set 25 = .ok (.iload_n 3, 1) := by decide +kernel
theorem dX6_set_26 : decode cX6_set 26 = .ok (.i2l, 1) := by decide +kernel
theorem dX6_set_27 : decode cX6_set 27 = .ok (.iload_n 1, 1) := by decide +kernel
theorem dX6_set_28 : decode cX6_set 28 = .ok (.iconst 1, 1) := by decide +kernel
theorem dX6_set_29 : decode cX6_set 29 = .ok (.if_icmp .ne 9, 3) := by decide +kernel
theorem dX6_set_32 : decode cX6_set 32 = .ok (.ldc2_w 122, 3) := by decide +kernel
theorem dX6_set_35 : decode cX6_set 35 = .ok (.goto 4, 3) := by decide +kernel
theorem dX6_set_38 : decode cX6_set 38 = .ok (.lconst 0, 1) := by decide +kernel
theorem dX6_set_39 : decode cX6_set 39 = .ok (.iload_n 1, 1) := by decide +kernel
theorem dX6_set_40 : decode cX6_set 40 = .ok (.ifCond .ne 9, 3) := by decide +kernel
theorem dX6_set_43 : decode cX6_set 43 = .ok (.ldc2_w 124, 3) := by decide +kernel
theorem dX6_set_46 : decode cX6_set 46 = .ok (.goto 37, 3) := by decide +kernel
theorem dX6_set_49 : decode cX6_set 49 = .ok (.iload_n 1, 1) := by decide +kernel
theorem dX6_set_50 : decode cX6_set 50 = .ok (.iconst 1, 1) := by decide +kernel
theorem dX6_set_51 : decode cX6_set 51 = .ok (.if_icmp .ne 9, 3) := by decide +kernel
theorem dX6_set_54 : decode cX6_set 54 = .ok (.ldc2_w 108, 3) := by decide +kernel
theorem dX6_set_57 : decode cX6_set 57 = .ok (.goto 26, 3) := by decide +kernel
theorem dX6_set_60 : decode cX6_set 60 = .ok (.iload_n 1, 1) := by decide +kernel
theorem dX6_set_61 : decode cX6_set 61 = .ok (.iconst 2, 1) := by decide +kernel
theorem dX6_set_62 : decode cX6_set 62 = .ok (.if_icmp .ne 9, 3) := by decide +kernel
theorem dX6_set_65 : decode cX6_set 65 = .ok (.ldc2_w 126, 3) := by decide +kernel
theorem dX6_set_68 : decode cX6_set 68 = .ok (.goto 15, 3) := by decide +kernel
theorem dX6_set_71 : decode cX6_set 71 = .ok (.iload_n 1, 1) := by decide +kernel
theorem dX6_set_72 : decode cX6_set 72 = .ok (.iconst 3, 1) := by decide +kernel
theorem dX6_set_73 : decode cX6_set 73 = .ok (.if_icmp .ne 9, 3) := by decide +kernel
theorem dX6_set_76 : decode cX6_set 76 = .ok (.ldc2_w 110, 3) := by decide +kernel
theorem dX6_set_79 : decode cX6_set 79 = .ok (.goto 4, 3) := by decide +kernel
theorem dX6_set_82 : decode cX6_set 82 = .ok (.lconst 1, 1) := by decide +kernel
theorem dX6_set_83 : decode cX6_set 83 = .ok (.invokestatic 97, 3) := by decide +kernel
theorem dX6_set_86 : decode cX6_set 86 = .ok (.ifCond .ne 6, 3) := by decide +kernel
theorem dX6_set_89 : decode cX6_set 89 = .ok (.bipush (-2), 2) := by decide +kernel
theorem dX6_set_91 : decode cX6_set 91 = .ok (.ireturn, 1) := by decide +kernel
theorem dX6_set_92 : decode cX6_set 92 = .ok (.iload_n 1, 1) := by decide +kernel
theorem dX6_set_93 : decode cX6_set 93 = .ok (.ifCond .ne 10, 3) := by decide +kernel
theorem dX6_set_96 : decode cX6_set 96 = .ok (.aload_n 0, 1) := by decide +kernel
theorem dX6_set_97 : decode cX6_set 97 = .ok (.getfield 35, 3) := by decide +kernel
theorem dX6_set_100 : decode cX6_set 100 = .ok (.goto 49, 3) := by decide +kernel
theorem dX6_set_103 : decode cX6_set 103 = .ok (.iload_n 1, 1) := by decide +kernel
theorem dX6_set_104 : decode cX6_set 104 = .ok (.iconst 1, 1) := by decide +kernel
theorem dX6_set_105 : decode cX6_set 105 = .ok (.if_icmp .ne 10, 3) := by decide +kernel
theorem dX6_set_108 : decode cX6_set 108 = .ok (.aload_n 0, 1) := by decide +kernel
theorem dX6_set_109 : decode cX6_set 109 = .ok (.getfield 38, 3) := by decide +kernel
theorem dX6_set_112 : decode cX6_set 112 = .ok (.goto 37, 3) := by decide +kernel
theorem dX6_set_115 : decode cX6_set 115 = .ok (.iload_n 1, 1) := by decide +kernel
theorem dX6_set_116 : decode cX6_set 116 = .ok (.iconst 2, 1) := by decide +kernel
theorem dX6_set_117 : decode cX6_set 117 = .ok (.if_icmp .ne 10, 3) := by decide +kernel
theorem dX6_set_120 : decode cX6_set 120 = .ok (.aload_n 0, 1) := by decide +kernel
theorem dX6_set_121 : decode cX6_set 121 = .ok (.getfield 128, 3) := by decide +kernel
theorem dX6_set_124 : decode cX6_set 124 = .ok (.goto 25, 3) := by decide +kernel
theorem dX6_set_127 : decode cX6_set 127 = .ok (.iload_n 1, 1) := by decide +kernel
theorem dX6_set_128 : decode cX6_set 128 = .ok (.iconst 3, 1) := by decide +kernel
theorem dX6_set_129 : decode cX6_set 129 = .ok (.if_icmp .ne 12, 3) := by decide +kernel
theorem dX6_set_132 : decode cX6_set 132 = .ok (.aload_n 0, 1) := by decide +kernel
theorem dX6_set_133 : decode cX6_set 133 = .ok (.getfield 26, 3) := by decide +kernel
theorem dX6_set_136 : decode cX6_set 136 = .ok (.iload_n 2, 1) := by decide +kernel
theorem dX6_set_137 : decode cX6_set 137 = .ok (.iaload, 1) := by decide +kernel
theorem dX6_set_138 : decode cX6_set 138 = .ok (.goto 11, 3) := by decide +kernel
theorem dX6_set_141 : decode cX6_set 141 = .ok (.aload_n 0, 1) := by decide +kernel
theorem dX6_set_142 : decode cX6_set 142 = .ok (.getfield 105, 3) := by decide +kernel
theorem dX6_set_145 : decode cX6_set 145 = .ok (.iload_n 2, 1) := by decide +kernel
theorem dX6_set_146 : decode cX6_set 146 = .ok (.ishr, 1) := by decide +kernel
theorem dX6_set_147 : decode cX6_set 147 = .ok (.iconst 1, 1) := by decide +kernel
theorem dX6_set_148 : decode cX6_set 148 = .ok (.iand, 1) := by decide +kernel
theorem dX6_set_149 : decode cX6_set 149 = .ok (.istore 4, 2) := by decide +kernel
theorem dX6_set_151 : decode cX6_set 151 = .ok (.iload_n 1, 1) := by decide +kernel
theorem dX6_set_152 : decode cX6_set 152 = .ok (.ifCond .ne 11, 3) := by decide +kernel
theorem dX6_set_155 : decode cX6_set 155 = .ok (.aload_n 0, 1) := by decide +kernel
theorem dX6_set_156 : decode cX6_set 156 = .ok (.iload_n 3, 1) := by decide +kernel
theorem dX6_set_157 : decode cX6_set 157 = .ok (.putfield 35, 3) := by decide +kernel
theorem dX6_set_160 : decode cX6_set 160 = .ok (.goto 62, 3) := by decide +kernel
theorem dX6_set_163 : decode cX6_set 163 = .ok (.iload_n 1, 1) := by decide +kernel
theorem dX6_set_164 : decode cX6_set 164 = .ok (.iconst 1, 1) := by decide +kernel
theorem dX6_set_165 : decode cX6_set 165 = .ok (.if_icmp .ne 11, 3) := by decide +kernel
theorem dX6_set_168 : decode cX6_set 168 = .ok (.aload_n 0, 1) := by decide +kernel
theorem dX6_set_169 : decode cX6_set 169 = .ok (.iload_n 3, 1) := by decide +kernel
theorem dX6_set_170 : decode cX6_set 170 = .ok (.putfield 38, 3) := by decide +kernel
theorem dX6_set_173 : decode cX6_set 173 = .ok (.goto 49, 3) := by decide +kernel
theorem dX6_set_176 : decode cX6_set 176 = .ok (.iload_n 1, 1) := by decide +kernel
theorem dX6_set_177 : decode cX6_set 177 = .ok (.iconst 2, 1) := by decide +kernel
theorem dX6_set_178 : decode cX6_set 178 = .ok (.if_icmp .ne 11, 3) := by decide +kernel
theorem dX6_set_181 : decode cX6_set 181 = .ok (.aload_n 0, 1) := by decide +kernel
theorem dX6_set_182 : decode cX6_set 182 = .ok (.iload_n 3, 1) := by decide +kernel
theorem dX6_set_183 : decode cX6_set 183 = .ok (.putfield 128, 3) := by decide +kernel
theorem dX6_set_186 : decode cX6_set 186 = .ok (.goto 36, 3) := by decide +kernel
theorem dX6_set_189 : decode cX6_set 189 = .ok (.iload_n 1, 1) := by decide +kernel
theorem dX6_set_190 : decode cX6_set 190 = .ok (.iconst 3, 1) := by decide +kernel
theorem dX6_set_191 : decode cX6_set 191 = .ok (.if_icmp .ne 13, 3) := by decide +kernel
theorem dX6_set_194 : decode cX6_set 194 = .ok (.aload_n 0, 1) := by decide +kernel
theorem dX6_set_195 : decode cX6_set 195 = .ok (.getfield 26, 3) := by decide +kernel
theorem dX6_set_198 : decode cX6_set 198 = .ok (.iload_n 2, 1) := by decide +kernel
theorem dX6_set_199 : decode cX6_set 199 = .ok (.iload_n 3, 1) := by decide +kernel
theorem dX6_set_200 : decode cX6_set 200 = .ok (.iastore, 1) := by decide +kernel
theorem dX6_set_201 : decode cX6_set 201 = .ok (.goto 21, 3) := by decide +kernel
theorem dX6_set_204 : decode cX6_set 204 = .ok (.aload_n 0, 1) := by decide +kernel
theorem dX6_set_205 : decode cX6_set 205 = .ok (.aload_n 0, 1) := by decide +kernel
theorem dX6_set_206 : decode cX6_set 206 = .ok (.getfield 105, 3) := by decide +kernel
theorem dX6_set_209 : decode cX6_set 209 = .ok (.iconst 1, 1) := by decide +kernel
theorem dX6_set_210 : decode cX6_set 210 = .ok (.iload_n 2, 1) := by decide +kernel
theorem dX6_set_211 : decode cX6_set 211 = .ok (.ishl, 1) := by decide +kernel
theorem dX6_set_212 : decode cX6_set 212 = .ok (.iconst (-1), 1) := by decide +kernel
theorem dX6_set_213 : decode cX6_set 213 = .ok (.ixor, 1) := by decide +kernel
theorem dX6_set_214 : decode cX6_set 214 = .ok (.iand, 1) := by decide +kernel
theorem dX6_set_215 : decode cX6_set 215 = .ok (.iload_n 3, 1) := by decide +kernel
theorem dX6_set_216 : decode cX6_set 216 = .ok (.iload_n 2, 1) := by decide +kernel
theorem dX6_set_217 : decode cX6_set 217 = .ok (.ishl, 1) := by decide +kernel
theorem dX6_set_218 : decode cX6_set 218 = .ok (.ior, 1) := by decide +kernel
theorem dX6_set_219 : decode cX6_set 219 = .ok (.putfield 105, 3) := by decide +kernel
theorem dX6_set_222 : decode cX6_set 222 = .ok (.iload 4, 2) := by decide +kernel
theorem dX6_set_224 : decode cX6_set 224 = .ok (.ireturn, 1) := by decide +kernel
theorem dX6_brings_0 : decode cX6_brings 0 = .ok (.aload_n 0, 1) := by decide +kernel
theorem dX6_brings_1 : decode cX6_brings 1 = .ok (.getfield 23, 3) := by decide +kernel
theorem dX6_brings_4 : decode cX6_brings 4 = .ok (.iload_n 1, 1) := by decide +kernel
theorem dX6_brings_5 : decode cX6_brings 5 = .ok (.iaload, 1) := by decide +kernel
theorem dX6_brings_6 : decode cX6_brings 6 = .ok (.istore_n 3, 1) := by decide +kernel
theorem dX6_brings_7 : decode cX6_brings 7 = .ok (.aload_n 0, 1) := by decide +kernel
theorem dX6_brings_8 : decode cX6_brings 8 = .ok (.getfield 26, 3) := by decide +kernel
theorem dX6_brings_11 : decode cX6_brings 11 = .ok (.iload_n 1, 1) := by decide +kernel
theorem dX6_brings_12 : decode cX6_brings 12 = .ok (.iaload, 1) := by decide +kernel
theorem dX6_brings_13 : decode cX6_brings 13 = .ok (.iload_n 2, 1) := by decide +kernel
theorem dX6_brings_14 : decode cX6_brings 14 = .ok (.iadd, 1) := by decide +kernel
theorem dX6_brings_15 : decode cX6_brings 15 = .ok (.istore 4, 2) := by decide +kernel
theorem dX6_brings_17 : decode cX6_brings 17 = .ok (.iload_n 2, 1) := by decide +kernel
theorem dX6_brings_18 : decode cX6_brings 18 = .ok (.iconst 4, 1) := by decide +kernel
theorem dX6_brings_19 : decode cX6_brings 19 = .ok (.if_icmp .ge 12, 3) := by decide +kernel
theorem dX6_brings_22 : decode cX6_brings 22 = .ok (.aload_n 0, 1) := by decide +kernel
theorem dX6_brings_23 : decode cX6_brings 23 = .ok (.getfield 26, 3) := by decide +kernel
theorem dX6_brings_26 : decode cX6_brings 26 = .ok (.iload_n 1, 1) := by decide +kernel
theorem dX6_brings_27 : decode cX6_brings 27 = .ok (.iaload, 1) := by decide +kernel
theorem dX6_brings_28 : decode cX6_brings 28 = .ok (.goto 4, 3) := by decide +kernel
theorem dX6_brings_31 : decode cX6_brings 31 = .ok (.iconst 0, 1) := by decide +kernel
theorem dX6_brings_32 : decode cX6_brings 32 = .ok (.istore 5, 2) := by decide +kernel
theorem dX6_brings_34 : decode cX6_brings 34 = .ok (.iload_n 3, 1) := by decide +kernel
theorem dX6_brings_35 : decode cX6_brings 35 = .ok (.iconst 1, 1) := by decide +kernel
theorem dX6_brings_36 : decode cX6_brings 36 = .ok (.if_icmp .eq 13, 3) := by decide +kernel
theorem dX6_brings_39 : decode cX6_brings 39 = .ok (.iload_n 3, 1) := by decide +kernel
theorem dX6_brings_40 : decode cX6_brings 40 = .ok (.iconst 3, 1) := by decide +kernel
theorem dX6_brings_41 : decode cX6_brings 41 = .ok (.if_icmp .eq 8, 3) := by decide +kernel
theorem dX6_brings_44 : decode cX6_brings 44 = .ok (.iload_n 3, 1) := by decide +kernel
theorem dX6_brings_45 : decode cX6_brings 45 = .ok (.iconst 5, 1) := by decide +kernel
theorem dX6_brings_46 : decode cX6_brings 46 = .ok (.if_icmp .ne 31, 3) := by decide +kernel
theorem dX6_brings_49 : decode cX6_brings 49 = .ok (.iload_n 3, 1) := by decide +kernel
theorem dX6_brings_50 : decode cX6_brings 50 = .ok (.iconst 3, 1) := by decide +kernel
theorem dX6_brings_51 : decode cX6_brings 51 = .ok (.if_icmp .ne 10, 3) := by decide +kernel
theorem dX6_brings_54 : decode cX6_brings 54 = .ok (.iconst 2, 1) := by decide +kernel
theorem dX6_brings_55 : decode cX6_brings 55 = .ok (.iload 4, 2) := by decide +kernel
theorem dX6_brings_57 : decode cX6_brings 57 = .ok (.imul, 1) := by decide +kernel
theorem dX6_brings_58 : decode cX6_brings 58 = .ok (.goto 18, 3) := by decide +kernel
theorem dX6_brings_61 : decode cX6_brings 61 = .ok (.iload_n 3, 1) := by decide +kernel
theorem dX6_brings_62 : decode cX6_brings 62 = .ok (.iconst 5, 1) := by decide +kernel
theorem dX6_brings_63 : decode cX6_brings 63 = .ok (.if_icmp .ne 11, 3) := by decide +kernel
theorem dX6_brings_66 : decode cX6_brings 66 = .ok (.iload 4, 2) := by decide +kernel
theorem dX6_brings_68 : decode cX6_brings 68 = .ok (.bipush 12, 2) := by decide +kernel
theorem dX6_brings_70 : decode cX6_brings 70 = .ok (.isub, 1) := by decide +kernel
theorem dX6_brings_71 : decode cX6_brings 71 = .ok (.goto 5, 3) := by decide +kernel
theorem dX6_brings_74 : decode cX6_brings 74 = .ok (.iload 4, 2) := by decide +kernel
theorem dX6_brings_76 : decode cX6_brings 76 = .ok (.ireturn, 1) := by decide +kernel
theorem dX6_brings_77 : decode cX6_brings 77 = .ok (.iload_n 3, 1) := by decide +kernel
theorem dX6_brings_78 : decode cX6_brings 78 = .ok (.iconst 2, 1) := by decide +kernel
theorem dX6_brings_79 : decode cX6_brings 79 = .ok (.if_icmp .ne 8, 3) := by decide +kernel
theorem dX6_brings_82 : decode cX6_brings 82 = .ok (.iload 5, 2) := by decide +kernel
theorem dX6_brings_84 : decode cX6_brings 84 = .ok (.goto 16, 3) := by decide +kernel
theorem dX6_brings_87 : decode cX6_brings 87 = .ok (.iload_n 3, 1) := by decide +kernel
theorem dX6_brings_88 : decode cX6_brings 88 = .ok (.iconst 4, 1) := by decide +kernel
theorem dX6_brings_89 : decode cX6_brings 89 = .ok (.if_icmp .ne 10, 3) := by decide +kernel
theorem dX6_brings_92 : decode cX6_brings 92 = .ok (.iload 5, 2) := by decide +kernel
theorem dX6_brings_94 : decode cX6_brings 94 = .ok (.iconst 3, 1) := by decide +kernel
theorem dX6_brings_95 : decode cX6_brings 95 = .ok (.isub, 1) := by decide +kernel
theorem dX6_brings_96 : decode cX6_brings 96 = .ok (.goto 4, 3) := by decide +kernel
theorem dX6_brings_99 : decode cX6_brings 99 = .ok (.iconst 0, 1) := by decide +kernel
theorem dX6_brings_100 : decode cX6_brings 100 = .ok (.ireturn, 1) := by decide +kernel
theorem dX6_wants_0 : decode cX6_wants 0 = .ok (.aload_n 0, 1) := by decide +kernel
theorem dX6_wants_1 : decode cX6_wants 1 = .ok (.getfield 23, 3) := by decide +kernel
theorem dX6_wants_4 : decode cX6_wants 4 = .ok (.iload_n 1, 1) := by decide +kernel
theorem dX6_wants_5 : decode cX6_wants 5 = .ok (.iaload, 1) := by decide +kernel
theorem dX6_wants_6 : decode cX6_wants 6 = .ok (.istore 4, 2) := by decide +kernel
theorem dX6_wants_8 : decode cX6_wants 8 = .ok (.iconst 1, 1) := by decide +kernel
theorem dX6_wants_9 : decode cX6_wants 9 = .ok (.istore 5, 2) := by decide +kernel
theorem dX6_wants_11 : decode cX6_wants 11 = .ok (.iload 4, 2) := by decide +kernel
theorem dX6_wants_13 : decode cX6_wants 13 = .ok (.iconst 1, 1) := by decide +kernel
theorem dX6_wants_14 : decode cX6_wants 14 = .ok (.if_icmp .ne 8, 3) := by decide +kernel
theorem dX6_wants_17 : decode cX6_wants 17 = .ok (.iconst 1, 1) := by decide +kernel
theorem dX6_wants_18 : decode cX6_wants 18 = .ok (.iload_n 2, 1) := by decide +kernel
theorem dX6_wants_19 : decode cX6_wants 19 = .ok (.iadd, 1) := by decide +kernel
theorem dX6_wants_20 : decode cX6_wants 20 = .ok (.istore 5, 2) := by decide +kernel
theorem dX6_wants_22 : decode cX6_wants 22 = .ok (.iload 4, 2) := by decide +kernel
theorem dX6_wants_24 : decode cX6_wants 24 = .ok (.iconst 2, 1) := by decide +kernel
theorem dX6_wants_25 : decode cX6_wants 25 = .ok (.if_icmp .ne 13, 3) := by decide +kernel
theorem dX6_wants_28 : decode cX6_wants 28 = .ok (.iconst 1, 1) := by decide +kernel
theorem dX6_wants_29 : decode cX6_wants 29 = .ok (.aload_n 0, 1) := by decide +kernel
theorem dX6_wants_30 : decode cX6_wants 30 = .ok (.getfield 26, 3) := by decide +kernel
theorem dX6_wants_33 : decode cX6_wants 33 = .ok (.iload_n 1, 1) := by decide +kernel
theorem dX6_wants_34 : decode cX6_wants 34 = .ok (.iaload, 1) := by decide +kernel
theorem dX6_wants_35 : decode cX6_wants 35 = .ok (.iadd, 1) := by decide +kernel
theorem dX6_wants_36 : decode cX6_wants 36 = .ok (.istore 5, 2) := by decide +kernel
theorem dX6_wants_38 : decode cX6_wants 38 = .ok (.iload 4, 2) := by decide +kernel
theorem dX6_wants_40 : decode cX6_wants 40 = .ok (.iconst 3, 1) := by decide +kernel
theorem dX6_wants_41 : decode cX6_wants 41 = .ok (.if_icmp .ne 16, 3) := by decide +kernel
theorem dX6_wants_44 : decode cX6_wants 44 = .ok (.iload_n 3, 1) := by decide +kernel
theorem dX6_wants_45 : decode cX6_wants 45 = .ok (.ifCond .eq 9, 3) := by decide +kernel
theorem dX6_wants_48 : decode cX6_wants 48 = .ok (.iconst 1, 1) := by decide +kernel
theorem dX6_wants_49 : decode cX6_wants 49 = .ok (.iload_n 2, 1) := by decide +kernel
theorem dX6_wants_50 : decode cX6_wants 50 = .ok (.iadd, 1) := by decide +kernel
theorem dX6_wants_51 : decode cX6_wants 51 = .ok (.goto 4, 3) := by decide +kernel
theorem dX6_wants_54 : decode cX6_wants 54 = .ok (.iconst 0, 1) := by decide +kernel
theorem dX6_wants_55 : decode cX6_wants 55 = .ok (.istore 5, 2) := by decide +kernel
theorem dX6_wants_57 : decode cX6_wants 57 = .ok (.iload 4, 2) := by decide +kernel
theorem dX6_wants_59 : decode cX6_wants 59 = .ok (.iconst 4, 1) := by decide +kernel
theorem dX6_wants_60 : decode cX6_wants 60 = .ok (.if_icmp .ne 23, 3) := by decide +kernel
theorem dX6_wants_63 : decode cX6_wants 63 = .ok (.iload_n 3, 1) := by decide +kernel
theorem dX6_wants_64 : decode cX6_wants 64 = .ok (.ifCond .eq 7, 3) := by decide +kernel
theorem dX6_wants_67 : decode cX6_wants 67 = .ok (.iconst 2, 1) := by decide +kernel
theorem dX6_wants_68 : decode cX6_wants 68 = .ok (.goto 4, 3) := by decide +kernel
theorem dX6_wants_71 : decode cX6_wants 71 = .ok (.iconst 1, 1) := by decide +kernel
theorem dX6_wants_72 : decode cX6_wants 72 = .ok (.iconst 1, 1) := by decide +kernel
theorem dX6_wants_73 : decode cX6_wants 73 = .ok (.aload_n 0, 1) := by decide +kernel
theorem dX6_wants_74 : decode cX6_wants 74 = .ok (.getfield 26, 3) := by decide +kernel
theorem dX6_wants_77 : decode cX6_wants 77 = .ok (.iload_n 1, 1) := by decide +kernel
theorem dX6_wants_78 : decode cX6_wants 78 = .ok (.iaload, 1) := by decide +kernel
theorem dX6_wants_79 : decode cX6_wants 79 = .ok (.iadd, 1) := by decide +kernel
theorem dX6_wants_80 : decode cX6_wants 80 = .ok (.imul, 1) := by decide +kernel
theorem dX6_wants_81 : decode cX6_wants 81 = .ok (.istore 5, 2) := by decide +kernel
theorem dX6_wants_83 : decode cX6_wants 83 = .ok (.iload 4, 2) := by decide +kernel
theorem dX6_wants_85 : decode cX6_wants 85 = .ok (.iconst 5, 1) := by decide +kernel
theorem dX6_wants_86 : decode cX6_wants 86 = .ok (.if_icmp .ne 8, 3) := by decide +kernel
theorem dX6_wants_89 : decode cX6_wants 89 = .ok (.iload_n 2, 1) := by decide +kernel
theorem dX6_wants_90 : decode cX6_wants 90 = .ok (.iconst 4, 1) := by decide +kernel
theorem dX6_wants_91 : decode cX6_wants 91 = .ok (.isub, 1) := by decide +kernel
theorem dX6_wants_92 : decode cX6_wants 92 = .ok (.istore 5, 2) := by decide +kernel
theorem dX6_wants_94 : decode cX6_wants 94 = .ok (.iload 5, 2) := by decide +kernel
theorem dX6_wants_96 : decode cX6_wants 96 = .ok (.ifCond .ge 7, 3) := by decide +kernel
theorem dX6_wants_99 : decode cX6_wants 99 = .ok (.iconst 0, 1) := by decide +kernel
theorem dX6_wants_100 : decode cX6_wants 100 = .ok (.goto 5, 3) := by decide +kernel
theorem dX6_wants_103 : decode cX6_wants 103 = .ok (.iload 5, 2) := by decide +kernel
theorem dX6_wants_105 : decode cX6_wants 105 = .ok (.ireturn, 1) := by decide +kernel
theorem dX6_feed_0 : decode cX6_feed 0 = .ok (.iload_n 1, 1) := by decide +kernel
theorem dX6_feed_1 : decode cX6_feed 1 = .ok (.i2l, 1) := by decide +kernel
theorem dX6_feed_2 : decode cX6_feed 2 = .ok (.lconst 0, 1) := by decide +kernel
theorem dX6_feed_3 : decode cX6_feed 3 = .ok (.ldc2_w 131, 3) := by decide +kernel
theorem dX6_feed_6 : decode cX6_feed 6 = .ok (.invokestatic 97, 3) := by decide +kernel
theorem dX6_feed_9 : decode cX6_feed 9 = .ok (.ifCond .ne 6, 3) := by decide +kernel
theorem dX6_feed_12 : decode cX6_feed 12 = .ok (.bipush (-2), 2) := by decide +kernel
theorem dX6_feed_14 : decode cX6_feed 14 = .ok (.ireturn, 1) := by decide +kernel
theorem dX6_feed_15 : decode cX6_feed 15 = .ok (.aload_n 0, 1) := by decide +kernel
theorem dX6_feed_16 : decode cX6_feed 16 = .ok (.getfield 133, 3) := by decide +kernel
theorem dX6_feed_19 : decode cX6_feed 19 = .ok (.sipush 160, 3) := by decide +kernel
theorem dX6_feed_22 : decode cX6_feed 22 = .ok (.if_icmp .ne 6, 3) := by decide +kernel
theorem dX6_feed_25 : decode cX6_feed 25 = .ok (.bipush (-4), 2) := by decide +kernel
theorem dX6_feed_27 : decode cX6_feed 27 = .ok (.ireturn, 1) := by decide +kernel
theorem dX6_feed_28 : decode cX6_feed 28 = .ok (.aload_n 0, 1) := by decide +kernel
theorem dX6_feed_29 : decode cX6_feed 29 = .ok (.getfield 20, 3) := by decide +kernel
theorem dX6_feed_32 : decode cX6_feed 32 = .ok (.aload_n 0, 1) := by decide +kernel
theorem dX6_feed_33 : decode cX6_feed 33 = .ok (.getfield 133, 3) := by decide +kernel
theorem dX6_feed_36 : decode cX6_feed 36 = .ok (.iload_n 1, 1) := by decide +kernel
theorem dX6_feed_37 : decode cX6_feed 37 = .ok (.iastore, 1) := by decide +kernel
theorem dX6_feed_38 : decode cX6_feed 38 = .ok (.aload_n 0, 1) := by decide +kernel
theorem dX6_feed_39 : decode cX6_feed 39 = .ok (.dup, 1) := by decide +kernel
theorem dX6_feed_40 : decode cX6_feed 40 = .ok (.getfield 133, 3) := by decide +kernel
theorem dX6_feed_43 : decode cX6_feed 43 = .ok (.iconst 1, 1) := by decide +kernel
theorem dX6_feed_44 : decode cX6_feed 44 = .ok (.iadd, 1) := by decide +kernel
theorem dX6_feed_45 : decode cX6_feed 45 = .ok (.putfield 133, 3) := by decide +kernel
theorem dX6_feed_48 : decode cX6_feed 48 = .ok (.aload_n 0, 1) := by decide +kernel
theorem dX6_feed_49 : decode cX6_feed 49 = .ok (.getfield 133, 3) := by decide +kernel
theorem dX6_feed_52 : decode cX6_feed 52 = .ok (.ireturn, 1) := by decide +kernel
theorem dX6_byteAt_0 : decode cX6_byteAt 0 = .ok (.iload_n 1, 1) := by decide +kernel
theorem dX6_byteAt_1 : decode cX6_byteAt 1 = .ok (.aload_n 0, 1) := by decide +kernel
theorem dX6_byteAt_2 : decode cX6_byteAt 2 = .ok (.getfield 136, 3) := by decide +kernel
theorem dX6_byteAt_5 : decode cX6_byteAt 5 = .ok (.if_icmp .ge 17, 3) := by decide +kernel
theorem dX6_byteAt_8 : decode cX6_byteAt 8 = .ok (.aload_n 0, 1) := by decide +kernel
theorem dX6_byteAt_9 : decode cX6_byteAt 9 = .ok (.getfield 13, 3) := by decide +kernel
theorem dX6_byteAt_12 : decode cX6_byteAt 12 = .ok (.aload_n 0, 1) := by decide +kernel
theorem dX6_byteAt_13 : decode cX6_byteAt 13 = .ok (.getfield 139, 3) := by decide +kernel
theorem dX6_byteAt_16 : decode cX6_byteAt 16 = .ok (.iload_n 1, 1) := by decide +kernel
theorem dX6_byteAt_17 : decode cX6_byteAt 17 = .ok (.iadd, 1) := by decide +kernel
theorem dX6_byteAt_18 : decode cX6_byteAt 18 = .ok (.iaload, 1) := by decide +kernel
theorem dX6_byteAt_19 : decode cX6_byteAt 19 = .ok (.goto 4, 3) := by decide +kernel
theorem dX6_byteAt_22 : decode cX6_byteAt 22 = .ok (.iconst (-1), 1) := by decide +kernel
theorem dX6_byteAt_23 : decode cX6_byteAt 23 = .ok (.ireturn, 1) := by decide +kernel
theorem dX6_next_0 : decode cX6_next 0 = .ok (.aload_n 0, 1) := by decide +kernel
theorem dX6_next_1 : decode cX6_next 1 = .ok (.aload_n 0, 1) := by decide +kernel
theorem dX6_next_2 : decode cX6_next 2 = .ok (.getfield 142, 3) := by decide +kernel
theorem dX6_next_5 : decode cX6_next 5 = .ok (.invokevirtual 145, 3) := by decide +kernel
theorem dX6_next_8 : decode cX6_next 8 = .ok (.bipush 32, 2) := by decide +kernel
theorem dX6_next_10 : decode cX6_next 10 = .ok (.if_icmp .eq 16, 3) := by decide +kernel
theorem dX6_next_13 : decode cX6_next 13 = .ok (.aload_n 0, 1) := by decide +kernel
theorem dX6_next_14 : decode cX6_next 14 = .ok (.aload_n 0, 1) := by decide +kernel
theorem dX6_next_15 : decode cX6_next 15 = .ok (.getfield 142, 3) := by decide +kernel
theorem dX6_next_18 : decode cX6_next 18 = .ok (.invokevirtual 145, 3) := by decide +kernel
theorem dX6_next_21 : decode cX6_next 21 = .ok (.bipush 10, 2) := by decide +kernel
theorem dX6_next_23 : decode cX6_next 23 = .ok (.if_icmp .ne 16, 3) := by decide +kernel
theorem dX6_next_26 : decode cX6_next 26 = .ok (.aload_n 0, 1) := by decide +kernel
theorem dX6_next_27 : decode cX6_next 27 = .ok (.dup, 1) := by decide +kernel
theorem dX6_next_28 : decode cX6_next 28 = .ok (.getfield 142, 3) := by decide +kernel
theorem dX6_next_31 : decode cX6_next 31 = .ok (.iconst 1, 1) := by decide +kernel
theorem dX6_next_32 : decode cX6_next 32 = .ok (.iadd, 1) := by decide +kernel
theorem dX6_next_33 : decode cX6_next 33 = .ok (.putfield 142, 3) := by decide +kernel
theorem dX6_next_36 : decode cX6_next 36 = .ok (.goto (-36), 3) := by decide +kernel
theorem dX6_next_39 : decode cX6_next 39 = .ok (.aload_n 0, 1) := by decide +kernel
theorem dX6_next_40 : decode cX6_next 40 = .ok (.aload_n 0, 1) := by decide +kernel
theorem dX6_next_41 : decode cX6_next 41 = .ok (.getfield 142, 3) := by decide +kernel
theorem dX6_next_44 : decode cX6_next 44 = .ok (.putfield 149, 3) := by decide +kernel
theorem dX6_next_47 : decode cX6_next 47 = .ok (.aload_n 0, 1) := by decide +kernel
theorem dX6_next_48 : decode cX6_next 48 = .ok (.aload_n 0, 1) := by decide +kernel
theorem dX6_next_49 : decode cX6_next 49 = .ok (.getfield 142, 3) := by decide +kernel
theorem dX6_next_52 : decode cX6_next 52 = .ok (.invokevirtual 145, 3) := by decide +kernel
theorem dX6_next_55 : decode cX6_next 55 = .ok (.istore_n 1, 1) := by decide +kernel
theorem dX6_next_56 : decode cX6_next 56 = .ok (.aload_n 0, 1) := by decide +kernel
theorem dX6_next_57 : decode cX6_next 57 = .ok (.iconst 4, 1) := by decide +kernel
theorem dX6_next_58 : decode cX6_next 58 = .ok (.putfield 152, 3) := by decide +kernel
theorem dX6_next_61 : decode cX6_next 61 = .ok (.iload_n 1, 1) := by decide +kernel
theorem dX6_next_62 : decode cX6_next 62 = .ok (.ifCond .ge 19, 3) := by decide +kernel
theorem dX6_next_65 : decode cX6_next 65 = .ok (.aload_n 0, 1) := by decide +kernel
theorem dX6_next_66 : decode cX6_next 66 = .ok (.iconst 0, 1) := by decide +kernel
theorem dX6_next_67 : decode cX6_next 67 = .ok (.putfield 152, 3) := by decide +kernel
theorem dX6_next_70 : decode cX6_next 70 = .ok (.aload_n 0, 1) := by decide +kernel
theorem dX6_next_71 : decode cX6_next 71 = .ok (.aload_n 0, 1) := by decide +kernel
theorem dX6_next_72 : decode cX6_next 72 = .ok (.getfield 136, 3) := by decide +kernel
theorem dX6_next_75 : decode cX6_next 75 = .ok (.putfield 149, 3) := by decide +kernel
theorem dX6_next_78 : decode cX6_next 78 = .ok (.goto 243, 3) := by decide +kernel
theorem dX6_next_81 : decode cX6_next 81 = .ok (.iload_n 1, 1) := by decide +kernel
theorem dX6_next_82 : decode cX6_next 82 = .ok (.i2l, 1) := by decide +kernel
theorem dX6_next_83 : decode cX6_next 83 = .ok (.ldc2_w 155, 3) := by decide +kernel
theorem dX6_next_86 : decode cX6_next 86 = .ok (.ldc2_w 157, 3) := by decide +kernel
theorem dX6_next_89 : decode cX6_next 89 = .ok (.invokestatic 97, 3) := by decide +kernel
theorem dX6_next_92 : decode cX6_next 92 = .ok (.ifCond .eq 42, 3) := by decide +kernel
theorem dX6_next_95 : decode cX6_next 95 = .ok (.aload_n 0, 1) := by decide +kernel
theorem dX6_next_96 : decode cX6_next 96 = .ok (.iconst 1, 1) := by decide +kernel
theorem dX6_next_97 : decode cX6_next 97 = .ok (.putfield 152, 3) := by decide +kernel
theorem dX6_next_100 : decode cX6_next 100 = .ok (.aload_n 0, 1) := by decide +kernel
theorem dX6_next_101 : decode cX6_next 101 = .ok (.aload_n 0, 1) := by decide +kernel
theorem dX6_next_102 : decode cX6_next 102 = .ok (.getfield 142, 3) := by decide +kernel
theorem dX6_next_105 : decode cX6_next 105 = .ok (.invokevirtual 145, 3) := by decide +kernel
theorem dX6_next_108 : decode cX6_next 108 = .ok (.i2l, 1) := by decide +kernel
theorem dX6_next_109 : decode cX6_next 109 = .ok (.ldc2_w 155, 3) := by decide +kernel
theorem dX6_next_112 : decode cX6_next 112 = .ok (.ldc2_w 157, 3) := by decide +kernel
theorem dX6_next_115 : decode cX6_next 115 = .ok (.invokestatic 97, 3) := by decide +kernel
theorem dX6_next_118 : decode cX6_next 118 = .ok (.ifCond .eq 203, 3) := by decide +kernel
theorem dX6_next_121 : decode cX6_next 121 = .ok (.aload_n 0, 1) := by decide +kernel
theorem dX6_next_122 : decode cX6_next 122 = .ok (.dup, 1) := by decide +kernel
theorem dX6_next_123 : decode cX6_next 123 = .ok (.getfield 142, 3) := by decide +kernel
theorem dX6_next_126 : decode cX6_next 126 = .ok (.iconst 1, 1) := by decide +kernel
theorem dX6_next_127 : decode cX6_next 127 = .ok (.iadd, 1) := by decide +kernel
theorem dX6_next_128 : decode cX6_next 128 = .ok (.putfield 142, 3) := by decide +kernel
theorem dX6_next_131 : decode cX6_next 131 = .ok (.goto (-31), 3) := by decide +kernel
theorem dX6_next_134 : decode cX6_next 134 = .ok (.iload_n 1, 1) := by decide +kernel
theorem dX6_next_135 : decode cX6_next 135 = .ok (.i2l, 1) := by decide +kernel
theorem dX6_next_136 : decode cX6_next 136 = .ok (.ldc2_w 159, 3) := by decide +kernel
theorem dX6_next_139 : decode cX6_next 139 = .ok (.ldc2_w 161, 3) := by decide +kernel
theorem dX6_next_142 : decode cX6_next 142 = .ok (.invokestatic 97, 3) := by decide +kernel
theorem dX6_next_145 : decode cX6_next 145 = .ok (.ifCond .eq 107, 3) := by decide +kernel
theorem dX6_next_148 : decode cX6_next 148 = .ok (.aload_n 0, 1) := by decide +kernel
theorem dX6_next_149 : decode cX6_next 149 = .ok (.iconst 2, 1) := by decide +kernel
theorem dX6_next_150 : decode cX6_next 150 = .ok (.putfield 152, 3) := by decide +kernel
theorem dX6_next_153 : decode cX6_next 153 = .ok (.aload_n 0, 1) := by decide +kernel
theorem dX6_next_154 : decode cX6_next 154 = .ok (.lconst 0, 1) := by decide +kernel
theorem dX6_next_155 : decode cX6_next 155 = .ok (.putfield 163, 3) := by decide +kernel
theorem dX6_next_158 : decode cX6_next 158 = .ok (.iconst 0, 1) := by decide +kernel
theorem dX6_next_159 : decode cX6_next 159 = .ok (.istore_n 2, 1) := by decide +kernel
theorem dX6_next_160 : decode cX6_next 160 = .ok (.aload_n 0, 1) := by decide +kernel
theorem dX6_next_161 : decode cX6_next 161 = .ok (.aload_n 0, 1) := by decide +kernel
theorem dX6_next_162 : decode cX6_next 162 = .ok (.getfield 142, 3) := by decide +kernel
theorem dX6_next_165 : decode cX6_next 165 = .ok (.invokevirtual 145, 3) := by decide +kernel
theorem dX6_next_168 : decode cX6_next 168 = .ok (.i2l, 1) := by decide +kernel
theorem dX6_next_169 : decode cX6_next 169 = .ok (.ldc2_w 159, 3) := by decide +kernel
theorem dX6_next_172 : decode cX6_next 172 = .ok (.ldc2_w 161, 3) := by decide +kernel
theorem dX6_next_175 : decode cX6_next 175 = .ok (.invokestatic 97, 3) := by decide +kernel
theorem dX6_next_178 : decode cX6_next 178 = .ok (.ifCond .eq 57, 3) := by decide +kernel
theorem dX6_next_181 : decode cX6_next 181 = .ok (.aload_n 0, 1) := by decide +kernel
theorem dX6_next_182 : decode cX6_next 182 = .ok (.iload_n 2, 1) := by decide +kernel
theorem dX6_next_183 : decode cX6_next 183 = .ok (.iconst 4, 1) := by decide +kernel
theorem dX6_next_184 : decode cX6_next 184 = .ok (.if_icmp .ge 28, 3) := by decide +kernel
theorem dX6_next_187 : decode cX6_next 187 = .ok (.ldc2_w 167, 3) := by decide +kernel
theorem dX6_next_190 : decode cX6_next 190 = .ok (.aload_n 0, 1) := by decide +kernel
theorem dX6_next_191 : decode cX6_next 191 = .ok (.getfield 163, 3) := by decide +kernel
theorem dX6_next_194 : decode cX6_next 194 = .ok (.lmul, 1) := by decide +kernel
theorem dX6_next_195 : decode cX6_next 195 = .ok (.aload_n 0, 1) := by decide +kernel
theorem dX6_next_196 : decode cX6_next 196 = .ok (.aload_n 0, 1) := by decide +kernel
theorem dX6_next_197 : decode cX6_next 197 = .ok (.getfield 142, 3) := by decide +kernel
theorem dX6_next_200 : decode cX6_next 200 = .ok (.invokevirtual 145, 3) := by decide +kernel
theorem dX6_next_203 : decode cX6_next 203 = .ok (.i2l, 1) := by decide +kernel
theorem dX6_next_204 : decode cX6_next 204 = .ok (.ladd, 1) := by decide +kernel
theorem dX6_next_205 : decode cX6_next 205 = .ok (.ldc2_w 159, 3) := by decide +kernel
theorem dX6_next_208 : decode cX6_next 208 = .ok (.lsub, 1) := by decide +kernel
theorem dX6_next_209 : decode cX6_next 209 = .ok (.goto 7, 3) := by decide +kernel
theorem dX6_next_212 : decode cX6_next 212 = .ok (.aload_n 0, 1) := by decide +kernel
theorem dX6_next_213 : decode cX6_next 213 = .ok (.getfield 163, 3) := by decide +kernel
theorem dX6_next_216 : decode cX6_next 216 = .ok (.putfield 163, 3) := by decide +kernel
theorem dX6_next_219 : decode cX6_next 219 = .ok (.iinc 2 1, 3) := by decide +kernel
theorem dX6_next_222 : decode cX6_next 222 = .ok (.aload_n 0, 1) := by decide +kernel
theorem dX6_next_223 : decode cX6_next 223 = .ok (.dup, 1) := by decide +kernel
theorem dX6_next_224 : decode cX6_next 224 = .ok (.getfield 142, 3) := by decide +kernel
theorem dX6_next_227 : decode cX6_next 227 = .ok (.iconst 1, 1) := by decide +kernel
theorem dX6_next_228 : decode cX6_next 228 = .ok (.iadd, 1) := by decide +kernel
theorem dX6_next_229 : decode cX6_next 229 = .ok (.putfield 142, 3) := by decide +kernel
theorem dX6_next_232 : decode cX6_next 232 = .ok (.goto (-72), 3) := by decide +kernel
theorem dX6_next_235 : decode cX6_next 235 = .ok (.aload_n 0, 1) := by decide +kernel
theorem dX6_next_236 : decode cX6_next 236 = .ok (.iload_n 2, 1) := by decide +kernel
theorem dX6_next_237 : decode cX6_next 237 = .ok (.iconst 4, 1) := by decide +kernel
theorem dX6_next_238 : decode cX6_next 238 = .ok (.if_icmp .le 7, 3) := by decide +kernel
theorem dX6_next_241 : decode cX6_next 241 = .ok (.iconst 4, 1) := by decide +kernel
theorem dX6_next_242 : decode cX6_next 242 = .ok (.goto 4, 3) := by decide +kernel
theorem dX6_next_245 : decode cX6_next 245 = .ok (.iconst 2, 1) := by decide +kernel
theorem dX6_next_246 : decode cX6_next 246 = .ok (.putfield 152, 3) := by decide +kernel
theorem dX6_next_249 : decode cX6_next 249 = .ok (.goto 72, 3) := by decide +kernel
theorem dX6_next_252 : decode cX6_next 252 = .ok (.iload_n 1, 1) := by decide +kernel
theorem dX6_next_253 : decode cX6_next 253 = .ok (.bipush 40, 2) := by decide +kernel
theorem dX6_next_255 : decode cX6_next 255 = .ok (.if_icmp .eq 45, 3) := by decide +kernel
theorem dX6_next_258 : decode cX6_next 258 = .ok (.iload_n 1, 1) := by decide +kernel
theorem dX6_next_259 : decode cX6_next 259 = .ok (.bipush 41, 2) := by decide +kernel
theorem dX6_next_261 : decode cX6_next 261 = .ok (.if_icmp .eq 39, 3) := by decide +kernel
theorem dX6_next_264 : decode cX6_next 264 = .ok (.iload_n 1, 1) := by decide +kernel
theorem dX6_next_265 : decode cX6_next 265 = .ok (.bipush 59, 2) := by decide +kernel
theorem dX6_next_267 : decode cX6_next 267 = .ok (.if_icmp .eq 33, 3) := by decide +kernel
theorem dX6_next_270 : decode cX6_next 270 = .ok (.iload_n 1, 1) := by decide +kernel
theorem dX6_next_271 : decode cX6_next 271 = .ok (.bipush 43, 2) := by decide +kernel
theorem dX6_next_273 : decode cX6_next 273 = .ok (.if_icmp .eq 27, 3) := by decide +kernel
theorem dX6_next_276 : decode cX6_next 276 = .ok (.iload_n 1, 1) := by decide +kernel
theorem dX6_next_277 : decode cX6_next 277 = .ok (.bipush 45, 2) := by decide +kernel
theorem dX6_next_279 : decode cX6_next 279 = .ok (.if_icmp .eq 21, 3) := by decide +kernel
theorem dX6_next_282 : decode cX6_next 282 = .ok (.iload_n 1, 1) := by decide +kernel
theorem dX6_next_283 : decode cX6_next 283 = .ok (.bipush 42, 2) := by decide +kernel
theorem dX6_next_285 : decode cX6_next 285 = .ok (.if_icmp .eq 15, 3) := by decide +kernel
theorem dX6_next_288 : decode cX6_next 288 = .ok (.iload_n 1, 1) := by decide +kernel
theorem dX6_next_289 : decode cX6_next 289 = .ok (.bipush 60, 2) := by decide +kernel
theorem dX6_next_291 : decode cX6_next 291 = .ok (.if_icmp .eq 9, 3) := by decide +kernel
theorem dX6_next_294 : decode cX6_next 294 = .ok (.iload_n 1, 1) := by decide +kernel
theorem dX6_next_295 : decode cX6_next 295 = .ok (.bipush 61, 2) := by decide +kernel
theorem dX6_next_297 : decode cX6_next 297 = .ok (.if_icmp .ne 24, 3) := by decide +kernel
theorem dX6_next_300 : decode cX6_next 300 = .ok (.aload_n 0, 1) := by decide +kernel
theorem dX6_next_301 : decode cX6_next 301 = .ok (.iconst 3, 1) := by decide +kernel
theorem dX6_next_302 : decode cX6_next 302 = .ok (.putfield 152, 3) := by decide +kernel
theorem dX6_next_305 : decode cX6_next 305 = .ok (.aload_n 0, 1) := by decide +kernel
theorem dX6_next_306 : decode cX6_next 306 = .ok (.iload_n 1, 1) := by decide +kernel
theorem dX6_next_307 : decode cX6_next 307 = .ok (.i2l, 1) := by decide +kernel
theorem dX6_next_308 : decode cX6_next 308 = .ok (.putfield 163, 3) := by decide +kernel
theorem dX6_next_311 : decode cX6_next 311 = .ok (.aload_n 0, 1) := by decide +kernel
theorem dX6_next_312 : decode cX6_next 312 = .ok (.dup, 1) := by decide +kernel
theorem dX6_next_313 : decode cX6_next 313 = .ok (.getfield 142, 3) := by decide +kernel
theorem dX6_next_316 : decode cX6_next 316 = .ok (.iconst 1, 1) := by decide +kernel
theorem dX6_next_317 : decode cX6_next 317 = .ok (.iadd, 1) := by decide +kernel
theorem dX6_next_318 : decode cX6_next 318 = .ok (.putfield 142, 3) := by decide +kernel
theorem dX6_next_321 : decode cX6_next 321 = .ok (.return_, 1) := by decide +kernel
theorem dX6_fail_0 : decode cX6_fail 0 = .ok (.aload_n 0, 1) := by decide +kernel
theorem dX6_fail_1 : decode cX6_fail 1 = .ok (.getfield 169, 3) := by decide +kernel
theorem dX6_fail_4 : decode cX6_fail 4 = .ok (.ifCond .ne 16, 3) := by decide +kernel
theorem dX6_fail_7 : decode cX6_fail 7 = .ok (.aload_n 0, 1) := by decide +kernel
theorem dX6_fail_8 : decode cX6_fail 8 = .ok (.iconst 1, 1) := by decide +kernel
theorem dX6_fail_9 : decode cX6_fail 9 = .ok (.putfield 169, 3) := by decide +kernel
theorem dX6_fail_12 : decode cX6_fail 12 = .ok (.aload_n 0, 1) := by decide +kernel
theorem dX6_fail_13 : decode cX6_fail 13 = .ok (.aload_n 0, 1) := by decide +kernel
theorem dX6_fail_14 : decode cX6_fail 14 = .ok (.getfield 149, 3) := by decide +kernel
theorem dX6_fail_17 : decode cX6_fail 17 = .ok (.putfield 173, 3) := by decide +kernel
theorem dX6_fail_20 : decode cX6_fail 20 = .ok (.return_, 1) := by decide +kernel
theorem dX6_isLetter_0 : decode cX6_isLetter 0 = .ok (.aload_n 0, 1) := by decide +kernel
theorem dX6_isLetter_1 : decode cX6_isLetter 1 = .ok (.getfield 149, 3) := by decide +kernel
theorem dX6_isLetter_4 : decode cX6_isLetter 4 = .ok (.iload_n 1, 1) := by decide +kernel
theorem dX6_isLetter_5 : decode cX6_isLetter 5 = .ok (.iadd, 1) := by decide +kernel
theorem dX6_isLetter_6 : decode cX6_isLetter 6 = .ok (.aload_n 0, 1) := by decide +kernel
theorem dX6_isLetter_7 : decode cX6_isLetter 7 = .ok (.getfield 142, 3) := by decide +kernel
theorem dX6_isLetter_10 : decode cX6_isLetter 10 = .ok (.if_icmp .ge 25, 3) := by decide +kernel
theorem dX6_isLetter_13 : decode cX6_isLetter 13 = .ok (.aload_n 0, 1) := by decide +kernel
theorem dX6_isLetter_14 : decode cX6_isLetter 14 = .ok (.aload_n 0, 1) := by decide +kernel
theorem dX6_isLetter_15 : decode cX6_isLetter 15 = .ok (.getfield 149, 3) := by decide +kernel
theorem dX6_isLetter_18 : decode cX6_isLetter 18 = .ok (.iload_n 1, 1) := by decide +kernel
theorem dX6_isLetter_19 : decode cX6_isLetter 19 = .ok (.iadd, 1) := by decide +kernel
theorem dX6_isLetter_20 : decode cX6_isLetter 20 = .ok (.invokevirtual 145, 3) := by decide +kernel
theorem dX6_isLetter_23 : decode cX6_isLetter 23 = .ok (.iload_n 2, 1) := by decide +kernel
theorem dX6_isLetter_24 : decode cX6_isLetter 24 = .ok (.if_icmp .ne 7, 3) := by decide +kernel
theorem dX6_isLetter_27 : decode cX6_isLetter 27 = .ok (.iconst 1, 1) := by decide +kernel
theorem dX6_isLetter_28 : decode cX6_isLetter 28 = .ok (.goto 16, 3) := by decide +kernel
theorem dX6_isLetter_31 : decode cX6_isLetter 31 = .ok (.iconst 0, 1) := by decide +kernel
theorem dX6_isLetter_32 : decode cX6_isLetter 32 = .ok (.goto 12, 3) := by decide +kernel
theorem dX6_isLetter_35 : decode cX6_isLetter 35 = .ok (.iload_n 2, 1) := by decide +kernel
theorem dX6_isLetter_36 : decode cX6_isLetter 36 = .ok (.ifCond .ne 7, 3) := by decide +kernel
theorem dX6_isLetter_39 : decode cX6_isLetter 39 = .ok (.iconst 1, 1) := by decide +kernel
theorem dX6_isLetter_40 : decode cX6_isLetter 40 = .ok (.goto 4, 3) := by decide +kernel
theorem dX6_isLetter_43 : decode cX6_isLetter 43 = .ok (.iconst 0, 1) := by decide +kernel
theorem dX6_isLetter_44 : decode cX6_isLetter 44 = .ok (.ireturn, 1) := by decide +kernel
theorem dX6_isWord_0 : decode cX6_isWord 0 = .ok (.aload_n 0, 1) := by decide +kernel
theorem dX6_isWord_1 : decode cX6_isWord 1 = .ok (.getfield 169, 3) := by decide +kernel
theorem dX6_isWord_4 : decode cX6_isWord 4 = .ok (.ifCond .ne 108, 3) := by decide +kernel
theorem dX6_isWord_7 : decode cX6_isWord 7 = .ok (.aload_n 0, 1) := by decide +kernel
theorem dX6_isWord_8 : decode cX6_isWord 8 = .ok (.getfield 152, 3) := by decide +kernel
theorem dX6_isWord_11 : decode cX6_isWord 11 = .ok (.iconst 1, 1) := by decide +kernel
theorem dX6_isWord_12 : decode cX6_isWord 12 = .ok (.if_icmp .ne 100, 3) := by decide +kernel
theorem dX6_isWord_15 : decode cX6_isWord 15 = .ok (.aload_n 0, 1) := by decide +kernel
theorem dX6_isWord_16 : decode cX6_isWord 16 = .ok (.getfield 142, 3) := by decide +kernel
theorem dX6_isWord_19 : decode cX6_isWord 19 = .ok (.aload_n 0, 1) := by decide +kernel
theorem dX6_isWord_20 : decode cX6_isWord 20 = .ok (.getfield 149, 3) := by decide +kernel
theorem dX6_isWord_23 : decode cX6_isWord 23 = .ok (.bipush 8, 2) := by decide +kernel
theorem dX6_isWord_25 : decode cX6_isWord 25 = .ok (.iadd, 1) := by decide +kernel
theorem dX6_isWord_26 : decode cX6_isWord 26 = .ok (.if_icmp .gt 86, 3) := by decide +kernel
theorem dX6_isWord_29 : decode cX6_isWord 29 = .ok (.aload_n 0, 1) := by decide +kernel
theorem dX6_isWord_30 : decode cX6_isWord 30 = .ok (.iconst 0, 1) := by decide +kernel
theorem dX6_isWord_31 : decode cX6_isWord 31 = .ok (.iload_n 1, 1) := by decide +kernel
theorem dX6_isWord_32 : decode cX6_isWord 32 = .ok (.invokevirtual 176, 3) := by decide +kernel
theorem dX6_isWord_35 : decode cX6_isWord 35 = .ok (.ifCond .eq 77, 3) := by decide +kernel
theorem dX6_isWord_38 : decode cX6_isWord 38 = .ok (.aload_n 0, 1) := by decide +kernel
theorem dX6_isWord_39 : decode cX6_isWord 39 = .ok (.iconst 1, 1) := by decide +kernel
theorem dX6_isWord_40 : decode cX6_isWord 40 = .ok (.iload_n 2, 1) := by decide +kernel
theorem dX6_isWord_41 : decode cX6_isWord 41 = .ok (.invokevirtual 176, 3) := by decide +kernel
theorem dX6_isWord_44 : decode cX6_isWord 44 = .ok (.ifCond .eq 68, 3) := by decide +kernel
theorem dX6_isWord_47 : decode cX6_isWord 47 = .ok (.aload_n 0, 1) := by decide +kernel
theorem dX6_isWord_48 : decode cX6_isWord 48 = .ok (.iconst 2, 1) := by decide +kernel
theorem dX6_isWord_49 : decode cX6_isWord 49 = .ok (.iload_n 3, 1) := by decide +kernel
theorem dX6_isWord_50 : decode cX6_isWord 50 = .ok (.invokevirtual 176, 3) := by decide +kernel
theorem dX6_isWord_53 : decode cX6_isWord 53 = .ok (.ifCond .eq 59, 3) := by decide +kernel
theorem dX6_isWord_56 : decode cX6_isWord 56 = .ok (.aload_n 0, 1) := by decide +kernel
theorem dX6_isWord_57 : decode cX6_isWord 57 = .ok (.iconst 3, 1) := by decide +kernel
theorem dX6_isWord_58 : decode cX6_isWord 58 = .ok (.iload 4, 2) := by decide +kernel
theorem dX6_isWord_60 : decode cX6_isWord 60 = .ok (.invokevirtual 176, 3) := by decide +kernel
theorem dX6_isWord_63 : decode cX6_isWord 63 = .ok (.ifCond .eq 49, 3) := by decide +kernel
theorem dX6_isWord_66 : decode cX6_isWord 66 = .ok (.aload_n 0, 1) := by decide +kernel
theorem dX6_isWord_67 : decode cX6_isWord 67 = .ok (.iconst 4, 1) := by decide +kernel
theorem dX6_isWord_68 : decode cX6_isWord 68 = .ok (.iload 5, 2) := by decide +kernel
theorem dX6_isWord_70 : decode cX6_isWord 70 = .ok (.invokevirtual 176, 3) := by decide +kernel
theorem dX6_isWord_73 : decode cX6_isWord 73 = .ok (.ifCond .eq 39, 3) := by decide +kernel
theorem dX6_isWord_76 : decode cX6_isWord 76 = .ok (.aload_n 0, 1) := by decide +kernel
theorem dX6_isWord_77 : decode cX6_isWord 77 = .ok (.iconst 5, 1) := by decide +kernel
theorem dX6_isWord_78 : decode cX6_isWord 78 = .ok (.iload 6, 2) := by decide +kernel
theorem dX6_isWord_80 : decode cX6_isWord 80 = .ok (.invokevirtual 176, 3) := by decide +kernel
theorem dX6_isWord_83 : decode cX6_isWord 83 = .ok (.ifCond .eq 29, 3) := by decide +kernel
theorem dX6_isWord_86 : decode cX6_isWord 86 = .ok (.aload_n 0, 1) := by decide +kernel
theorem dX6_isWord_87 : decode cX6_isWord 87 = .ok (.bipush 6, 2) := by decide +kernel
theorem dX6_isWord_89 : decode cX6_isWord 89 = .ok (.iload 7, 2) := by decide +kernel
theorem dX6_isWord_91 : decode cX6_isWord 91 = .ok (.invokevirtual 176, 3) := by decide +kernel
theorem dX6_isWord_94 : decode cX6_isWord 94 = .ok (.ifCond .eq 18, 3) := by decide +kernel
theorem dX6_isWord_97 : decode cX6_isWord 97 = .ok (.aload_n 0, 1) := by decide +kernel
theorem dX6_isWord_98 : decode cX6_isWord 98 = .ok (.bipush 7, 2) := by decide +kernel
theorem dX6_isWord_100 : decode cX6_isWord 100 = .ok (.iload 8, 2) := by decide +kernel
theorem dX6_isWord_102 : decode cX6_isWord 102 = .ok (.invokevirtual 176, 3) := by decide +kernel
theorem dX6_isWord_105 : decode cX6_isWord 105 = .ok (.ifCond .eq 7, 3) := by decide +kernel
theorem dX6_isWord_108 : decode cX6_isWord 108 = .ok (.iconst 1, 1) := by decide +kernel
theorem dX6_isWord_109 : decode cX6_isWord 109 = .ok (.goto 4, 3) := by decide +kernel
theorem dX6_isWord_112 : decode cX6_isWord 112 = .ok (.iconst 0, 1) := by decide +kernel
theorem dX6_isWord_113 : decode cX6_isWord 113 = .ok (.ireturn, 1) := by decide +kernel
theorem dX6_isSign_0 : decode cX6_isSign 0 = .ok (.aload_n 0, 1) := by decide +kernel
theorem dX6_isSign_1 : decode cX6_isSign 1 = .ok (.getfield 169, 3) := by decide +kernel
theorem dX6_isSign_4 : decode cX6_isSign 4 = .ok (.ifCond .ne 25, 3) := by decide +kernel
theorem dX6_isSign_7 : decode cX6_isSign 7 = .ok (.aload_n 0, 1) := by decide +kernel
theorem dX6_isSign_8 : decode cX6_isSign 8 = .ok (.getfield 152, 3) := by decide +kernel
theorem dX6_isSign_11 : decode cX6_isSign 11 = .ok (.iconst 3, 1) := by decide +kernel
theorem dX6_isSign_12 : decode cX6_isSign 12 = .ok (.if_icmp .ne 17, 3) := by decide +kernel
theorem dX6_isSign_15 : decode cX6_isSign 15 = .ok (.aload_n 0, 1) := by decide +kernel
theorem dX6_isSign_16 : decode cX6_isSign 16 = .ok (.getfield 163, 3) := by decide +kernel
theorem dX6_isSign_19 : decode cX6_isSign 19 = .ok (.iload_n 1, 1) := by decide +kernel
theorem dX6_isSign_20 : decode cX6_isSign 20 = .ok (.i2l, 1) := by decide +kernel
theorem dX6_isSign_21 : decode cX6_isSign 21 = .ok (.lcmp, 1) := by decide +kernel
theorem dX6_isSign_22 : decode cX6_isSign 22 = .ok (.ifCond .ne 7, 3) := by decide +kernel
theorem dX6_isSign_25 : decode cX6_isSign 25 = .ok (.iconst 1, 1) := by decide +kernel
theorem dX6_isSign_26 : decode cX6_isSign 26 = .ok (.goto 4, 3) := by decide +kernel
theorem dX6_isSign_29 : decode cX6_isSign 29 = .ok (.iconst 0, 1) := by decide +kernel
theorem dX6_isSign_30 : decode cX6_isSign 30 = .ok (.ireturn, 1) := by decide +kernel
theorem dX6_isSheet_0 : decode cX6_isSheet 0 = .ok (.iload_n 0, 1) := by decide +kernel
theorem dX6_isSheet_1 : decode cX6_isSheet 1 = .ok (.i2l, 1) := by decide +kernel
theorem dX6_isSheet_2 : decode cX6_isSheet 2 = .ok (.lconst 0, 1) := by decide +kernel
theorem dX6_isSheet_3 : decode cX6_isSheet 3 = .ok (.ldc2_w 473, 3) := by decide +kernel
theorem dX6_isSheet_6 : decode cX6_isSheet 6 = .ok (.invokestatic 97, 3) := by decide +kernel
theorem dX6_isSheet_9 : decode cX6_isSheet 9 = .ok (.ireturn, 1) := by decide +kernel
theorem dX6_over_0 : decode cX6_over 0 = .ok (.iload_n 0, 1) := by decide +kernel
theorem dX6_over_1 : decode cX6_over 1 = .ok (.ifCond .ne 7, 3) := by decide +kernel
theorem dX6_over_4 : decode cX6_over 4 = .ok (.iconst (-1), 1) := by decide +kernel
theorem dX6_over_5 : decode cX6_over 5 = .ok (.goto 27, 3) := by decide +kernel
theorem dX6_over_8 : decode cX6_over 8 = .ok (.iload_n 0, 1) := by decide +kernel
theorem dX6_over_9 : decode cX6_over 9 = .ok (.iconst 3, 1) := by decide +kernel
theorem dX6_over_10 : decode cX6_over 10 = .ok (.if_icmp .eq 8, 3) := by decide +kernel
theorem dX6_over_13 : decode cX6_over 13 = .ok (.iload_n 0, 1) := by decide +kernel
theorem dX6_over_14 : decode cX6_over 14 = .ok (.iconst 5, 1) := by decide +kernel
theorem dX6_over_15 : decode cX6_over 15 = .ok (.if_icmp .ne 7, 3) := by decide +kernel
theorem dX6_over_18 : decode cX6_over 18 = .ok (.iconst 1, 1) := by decide +kernel
theorem dX6_over_19 : decode cX6_over 19 = .ok (.goto 13, 3) := by decide +kernel
theorem dX6_over_22 : decode cX6_over 22 = .ok (.iload_n 0, 1) := by decide +kernel
theorem dX6_over_23 : decode cX6_over 23 = .ok (.iconst 4, 1) := by decide +kernel
theorem dX6_over_24 : decode cX6_over 24 = .ok (.if_icmp .ne 7, 3) := by decide +kernel
theorem dX6_over_27 : decode cX6_over 27 = .ok (.iconst 2, 1) := by decide +kernel
theorem dX6_over_28 : decode cX6_over 28 = .ok (.goto 4, 3) := by decide +kernel
theorem dX6_over_31 : decode cX6_over 31 = .ok (.iconst 0, 1) := by decide +kernel
theorem dX6_over_32 : decode cX6_over 32 = .ok (.ireturn, 1) := by decide +kernel
end
section
/-! ThreeOfThemModel.in(JJJ)Z: P, depth 0 -/
def f_X6_in (x0 : Int64) (x1 : Int64) (x2 : Int64) : Option (Int32) := (if (lg_cmp x0 x1) < 0 then (some 0) else (if 0 < (lg_cmp x0 x2) then (some 0) else (some 1)))
set_option maxRecDepth 20000 in
theorem t_X6_in {h : List px_C} (x0 : Int64) (x1 : Int64) (x2 : Int64) : px_O (0, 0, 0, h.length, m_X6_in) (px_g0 h) (f_X6_in x0 x1 x2) 0 [some (.long x0), none, some (.long x1), none, some (.long x2), none] [] h 0 0 := by
  rw [f_X6_in]
  refine o_lload_n dX6_in_0 rfl ?_
  refine o_lload_n dX6_in_1 rfl ?_
  refine o_lcmp dX6_in_2 ?_
  refine o_iflt (tgt := 17) dX6_in_3 (by decide) (fun c1 => ?_) (fun c1 => ?_)
  · refine o_iconst (v := 0) dX6_in_17 (by decide) ?_
    exact o_iret (rt := .boolean) rfl rfl dX6_in_18 rfl (Nat.zero_le _) (Nat.zero_le _)
  · refine o_lload_n dX6_in_6 rfl ?_
    refine o_lload dX6_in_7 rfl ?_
    refine o_lcmp dX6_in_9 ?_
    refine o_ifgt (tgt := 17) dX6_in_10 (by decide) (fun c2 => ?_) (fun c2 => ?_)
    · refine o_iconst (v := 0) dX6_in_17 (by decide) ?_
      exact o_iret (rt := .boolean) rfl rfl dX6_in_18 rfl (Nat.zero_le _) (Nat.zero_le _)
    · refine o_iconst (v := 1) dX6_in_13 (by decide) ?_
      refine o_goto (tgt := 18) dX6_in_14 (by decide) ?_
      exact o_iret (rt := .boolean) rfl rfl dX6_in_18 rfl (Nat.zero_le _) (Nat.zero_le _)
theorem k_X6_in_o {h : List px_C} {x0 : Int64} {x1 : Int64} {x2 : Int64} {b : Int32} (hf : f_X6_in x0 x1 x2 = some b) : px_K 0 0 0 m_X6_in [.long x0, .long x1, .long x2] h (some (.int b)) h := px_Kof (g := px_g0 h) hf mf_X6_in (Nat.le_of_ble_eq_true rfl) rfl (t_X6_in (h := h) x0 x1 x2)
def p_X6_in (x0 : Int64) (x1 : Int64) (x2 : Int64) : Int32 := (if (lg_cmp x0 x1) < 0 then 0 else (if 0 < (lg_cmp x0 x2) then 0 else 1))
theorem e_X6_in (x0 : Int64) (x1 : Int64) (x2 : Int64) : f_X6_in x0 x1 x2 = some (p_X6_in x0 x1 x2) := by
  unfold f_X6_in p_X6_in
  simp only [px_ite_some]
theorem k_X6_in {h : List px_C} {x0 : Int64} {x1 : Int64} {x2 : Int64} : px_K 0 0 0 m_X6_in [.long x0, .long x1, .long x2] h (some (.int (p_X6_in x0 x1 x2))) h := k_X6_in_o (e_X6_in x0 x1 x2)
/-! ThreeOfThemModel.within(III)I: P, depth 0 -/
def f_X6_within (x0 : Int32) (x1 : Int32) (x2 : Int32) : Option (Int32) := (if x0 < x1 then (some x1) else (if x2 < x0 then (some x2) else (some x0)))
set_option maxRecDepth 20000 in
theorem t_X6_within {h : List px_C} (x0 : Int32) (x1 : Int32) (x2 : Int32) : px_O (0, 0, 0, h.length, m_X6_within) (px_g0 h) (f_X6_within x0 x1 x2) 0 [some (.int x0), some (.int x1), some (.int x2)] [] h 0 0 := by
  rw [f_X6_within]
  refine o_iload_n dX6_within_0 rfl ?_
  refine o_iload_n dX6_within_1 rfl ?_
  refine o_icmpge (tgt := 9) dX6_within_2 (by decide) (fun c1 => ?_) (fun c1 => ?_)
  · refine o_iload_n dX6_within_9 rfl ?_
    refine o_iload_n dX6_within_10 rfl ?_
    refine o_icmple (tgt := 18) dX6_within_11 (by decide) (fun c2 => ?_) (fun c2 => ?_)
    · refine o_iload_n dX6_within_18 rfl ?_
      exact o_iret (rt := .int) rfl rfl dX6_within_19 rfl (Nat.zero_le _) (Nat.zero_le _)
    · refine o_iload_n dX6_within_14 rfl ?_
      refine o_goto (tgt := 19) dX6_within_15 (by decide) ?_
      exact o_iret (rt := .int) rfl rfl dX6_within_19 rfl (Nat.zero_le _) (Nat.zero_le _)
  · refine o_iload_n dX6_within_5 rfl ?_
    refine o_goto (tgt := 19) dX6_within_6 (by decide) ?_
    exact o_iret (rt := .int) rfl rfl dX6_within_19 rfl (Nat.zero_le _) (Nat.zero_le _)
theorem k_X6_within_o {h : List px_C} {x0 : Int32} {x1 : Int32} {x2 : Int32} {b : Int32} (hf : f_X6_within x0 x1 x2 = some b) : px_K 0 0 0 m_X6_within [.int x0, .int x1, .int x2] h (some (.int b)) h := px_Kof (g := px_g0 h) hf mf_X6_within (Nat.le_of_ble_eq_true rfl) rfl (t_X6_within (h := h) x0 x1 x2)
def p_X6_within (x0 : Int32) (x1 : Int32) (x2 : Int32) : Int32 := (if x0 < x1 then x1 else (if x2 < x0 then x2 else x0))
theorem e_X6_within (x0 : Int32) (x1 : Int32) (x2 : Int32) : f_X6_within x0 x1 x2 = some (p_X6_within x0 x1 x2) := by
  unfold f_X6_within p_X6_within
  simp only [px_ite_some]
theorem k_X6_within {h : List px_C} {x0 : Int32} {x1 : Int32} {x2 : Int32} : px_K 0 0 0 m_X6_within [.int x0, .int x1, .int x2] h (some (.int (p_X6_within x0 x1 x2))) h := k_X6_within_o (e_X6_within x0 x1 x2)
/-! ThreeOfThemModel.bitsOf(I)I: L, depth 0 -/
def f_X6_bitsOf_4 : Nat → Int32 → Int32 → Option (Int32)
  | 0, _, _ => none
  | n + 1, y1, y2 => (if y2 = 0 then (some y1) else ((f_X6_bitsOf_4 n) (y1 + 1) (y2 &&& (y2 - 1))))
set_option maxRecDepth 20000 in
theorem t_X6_bitsOf_4 {h : List px_C} : ∀ (n : Nat) (y1 : Int32) (y2 : Int32), px_O (0, 0, 0, h.length, m_X6_bitsOf) (px_g0 h) (f_X6_bitsOf_4 n y1 y2) 4 [none, some (.int y1), some (.int y2)] [] h 0 0 := by
  intro n
  induction n with
  | zero => intro y1 y2; rw [f_X6_bitsOf_4]; exact o_none
  | succ n ih =>
    intro y1 y2
    rw [f_X6_bitsOf_4]
    refine o_iload_n dX6_bitsOf_4 rfl ?_
    refine o_ifeq (tgt := 20) dX6_bitsOf_5 (by decide) (fun c1 => ?_) (fun c1 => ?_)
    · refine o_iload_n dX6_bitsOf_20 rfl ?_
      exact o_iret (rt := .int) rfl rfl dX6_bitsOf_21 rfl (Nat.zero_le _) (Nat.zero_le _)
    · refine o_iinc (v := (y1 + 1)) (L' := [none, some (.int (y1 + 1)), some (.int y2)]) dX6_bitsOf_8 rfl rfl (Nat.le_of_ble_eq_true rfl) rfl rfl ?_
      refine o_iload_n dX6_bitsOf_11 rfl ?_
      refine o_iload_n dX6_bitsOf_12 rfl ?_
      refine o_iconst (v := 1) dX6_bitsOf_13 (by decide) ?_
      refine o_isub dX6_bitsOf_14 ?_
      refine o_iand dX6_bitsOf_15 ?_
      refine o_istore_n (L' := [none, some (.int (y1 + 1)), some (.int (y2 &&& (y2 - 1)))]) dX6_bitsOf_16 (Nat.le_of_ble_eq_true rfl) rfl rfl ?_
      refine o_goto (tgt := 4) dX6_bitsOf_17 (by decide) ?_
      exact (ih (y1 + 1) (y2 &&& (y2 - 1)))
def f_X6_bitsOf (x0 : Int32) : Option (Int32) := (f_X6_bitsOf_4 1000 0 x0)
set_option maxRecDepth 20000 in
theorem t_X6_bitsOf {h : List px_C} (x0 : Int32) : px_O (0, 0, 0, h.length, m_X6_bitsOf) (px_g0 h) (f_X6_bitsOf x0) 0 [some (.int x0), none, none] [] h 0 0 := by
  rw [f_X6_bitsOf]
  refine o_iconst (v := 0) dX6_bitsOf_0 (by decide) ?_
  refine o_istore_n (L' := [some (.int x0), some (.int 0), none]) dX6_bitsOf_1 (Nat.le_of_ble_eq_true rfl) rfl rfl ?_
  refine o_iload_n dX6_bitsOf_2 rfl ?_
  refine o_istore_n (L' := [some (.int x0), some (.int 0), some (.int x0)]) dX6_bitsOf_3 (Nat.le_of_ble_eq_true rfl) rfl rfl ?_
  exact o_weak (L' := [none, some (.int 0), some (.int x0)]) ⟨rfl, ⟨rfl, trivial⟩⟩ (t_X6_bitsOf_4 (h := h) 1000 0 x0)
theorem k_X6_bitsOf_o {h : List px_C} {x0 : Int32} {b : Int32} (hf : f_X6_bitsOf x0 = some b) : px_K 0 0 0 m_X6_bitsOf [.int x0] h (some (.int b)) h := px_Kof (g := px_g0 h) hf mf_X6_bitsOf (Nat.le_of_ble_eq_true rfl) rfl (t_X6_bitsOf (h := h) x0)
theorem k_X6_bitsOf {h : List px_C} {x0 : Int32} {b : Int32} (hf : f_X6_bitsOf x0 = some b) : px_K 0 0 0 m_X6_bitsOf [.int x0] h (some (.int b)) h := k_X6_bitsOf_o hf
/-! ThreeOfThemModel.isSheet(I)Z: L, depth 1 -/
def f_X6_isSheet (x0 : Int32) : Option (Int32) := (if (p_X6_in x0.toInt64 0 3) = 0 ∨ (p_X6_in x0.toInt64 0 3) = 1 then some (p_X6_in x0.toInt64 0 3) else none)
set_option maxRecDepth 20000 in
theorem t_X6_isSheet {h : List px_C} (x0 : Int32) : px_O (1, 0, 0, h.length, m_X6_isSheet) (px_g0 h) (f_X6_isSheet x0) 0 [some (.int x0)] [] h 0 0 := by
  rw [f_X6_isSheet]
  refine o_iload_n dX6_isSheet_0 rfl ?_
  refine o_i2l dX6_isSheet_1 ?_
  refine o_lconst (v := 0) dX6_isSheet_2 (by decide) ?_
  refine o_ldc2 (v := 3) dX6_isSheet_3 cst_X6_473 ?_
  refine h_cSP (as := [.long x0.toInt64, .long 0, .long 3]) (S1 := []) (d' := 0) dX6_isSheet_6 mf_X6_in ml_X6_97 ms_X6_in rfl (Nat.le_of_ble_eq_true rfl) rfl (Nat.le_of_ble_eq_true rfl) ⟨Nat.zero_le _, Nat.zero_le _⟩ (k_X6_in) ?_
  refine o_ite (fun c1 => ?_) (fun _ => o_none)
  exact o_iret (rt := .boolean) rfl (by rcases c1 with c1 | c1 <;> rw [c1] <;> rfl) dX6_isSheet_9 rfl (Nat.zero_le _) (Nat.zero_le _)
theorem k_X6_isSheet_o {h : List px_C} {x0 : Int32} {b : Int32} (hf : f_X6_isSheet x0 = some b) : px_K 1 0 0 m_X6_isSheet [.int x0] h (some (.int b)) h := px_Kof (g := px_g0 h) hf mf_X6_isSheet (Nat.le_of_ble_eq_true rfl) rfl (t_X6_isSheet (h := h) x0)
theorem k_X6_isSheet {h : List px_C} {x0 : Int32} {b : Int32} (hf : f_X6_isSheet x0 = some b) : px_K 1 0 0 m_X6_isSheet [.int x0] h (some (.int b)) h := k_X6_isSheet_o hf
/-! ThreeOfThemModel.over(I)I: P, depth 0 -/
def f_X6_over (x0 : Int32) : Option (Int32) := (if x0 = 0 then (some (-1)) else (if x0 = 3 then (some 1) else (if x0 = 5 then (some 1) else (if x0 = 4 then (some 2) else (some 0)))))
set_option maxRecDepth 20000 in
theorem t_X6_over {h : List px_C} (x0 : Int32) : px_O (0, 0, 0, h.length, m_X6_over) (px_g0 h) (f_X6_over x0) 0 [some (.int x0)] [] h 0 0 := by
  rw [f_X6_over]
  refine o_iload_n dX6_over_0 rfl ?_
  refine o_ifne (tgt := 8) dX6_over_1 (by decide) (fun c1 => ?_) (fun c1 => ?_)
  · refine o_iload_n dX6_over_8 rfl ?_
    refine o_iconst (v := 3) dX6_over_9 (by decide) ?_
    refine o_icmpeq (tgt := 18) dX6_over_10 (by decide) (fun c2 => ?_) (fun c2 => ?_)
    · refine o_iconst (v := 1) dX6_over_18 (by decide) ?_
      refine o_goto (tgt := 32) dX6_over_19 (by decide) ?_
      exact o_iret (rt := .int) rfl rfl dX6_over_32 rfl (Nat.zero_le _) (Nat.zero_le _)
    · refine o_iload_n dX6_over_13 rfl ?_
      refine o_iconst (v := 5) dX6_over_14 (by decide) ?_
      refine o_icmpne (tgt := 22) dX6_over_15 (by decide) (fun c3 => ?_) (fun c3 => ?_)
      · refine o_iload_n dX6_over_22 rfl ?_
        refine o_iconst (v := 4) dX6_over_23 (by decide) ?_
        refine o_icmpne (tgt := 31) dX6_over_24 (by decide) (fun c4 => ?_) (fun c4 => ?_)
        · refine o_iconst (v := 0) dX6_over_31 (by decide) ?_
          exact o_iret (rt := .int) rfl rfl dX6_over_32 rfl (Nat.zero_le _) (Nat.zero_le _)
        · refine o_iconst (v := 2) dX6_over_27 (by decide) ?_
          refine o_goto (tgt := 32) dX6_over_28 (by decide) ?_
          exact o_iret (rt := .int) rfl rfl dX6_over_32 rfl (Nat.zero_le _) (Nat.zero_le _)
      · refine o_iconst (v := 1) dX6_over_18 (by decide) ?_
        refine o_goto (tgt := 32) dX6_over_19 (by decide) ?_
        exact o_iret (rt := .int) rfl rfl dX6_over_32 rfl (Nat.zero_le _) (Nat.zero_le _)
  · refine o_iconst (v := (-1)) dX6_over_4 (by decide) ?_
    refine o_goto (tgt := 32) dX6_over_5 (by decide) ?_
    exact o_iret (rt := .int) rfl rfl dX6_over_32 rfl (Nat.zero_le _) (Nat.zero_le _)
theorem k_X6_over_o {h : List px_C} {x0 : Int32} {b : Int32} (hf : f_X6_over x0 = some b) : px_K 0 0 0 m_X6_over [.int x0] h (some (.int b)) h := px_Kof (g := px_g0 h) hf mf_X6_over (Nat.le_of_ble_eq_true rfl) rfl (t_X6_over (h := h) x0)
def p_X6_over (x0 : Int32) : Int32 := (if x0 = 0 then (-1) else (if x0 = 3 then 1 else (if x0 = 5 then 1 else (if x0 = 4 then 2 else 0))))
theorem e_X6_over (x0 : Int32) : f_X6_over x0 = some (p_X6_over x0) := by
  unfold f_X6_over p_X6_over
  simp only [px_ite_some]
theorem k_X6_over {h : List px_C} {x0 : Int32} : px_K 0 0 0 m_X6_over [.int x0] h (some (.int (p_X6_over x0))) h := k_X6_over_o (e_X6_over x0)
end
section
/-! ThreeOfThemModel.spell(IIIIIIIII)V: S, depth 0 -/
def f_X6_spell (T : Nat) (x0 : Int32) (x1 : Int32) (x2 : Int32) (x3 : Int32) (x4 : Int32) (x5 : Int32) (x6 : Int32) (x7 : Int32) (x8 : Int32) (st : px_S) : Option (px_S) := (if px_in x0 960 then (if px_in (x0 + 1) 960 then (if px_in (x0 + 2) 960 then (if px_in (x0 + 3) 960 then (if px_in (x0 + 4) 960 then (if px_in (x0 + 5) 960 then (if px_in (x0 + 6) 960 then (if px_in (x0 + 7) 960 then (some (up (up (up (up (up (up (up (up st 49 x0.toNatClampNeg x1) 49 (x0 + 1).toNatClampNeg x2) 49 (x0 + 2).toNatClampNeg x3) 49 (x0 + 3).toNatClampNeg x4) 49 (x0 + 4).toNatClampNeg x5) 49 (x0 + 5).toNatClampNeg x6) 49 (x0 + 6).toNatClampNeg x7) 49 (x0 + 7).toNatClampNeg x8)) else none) else none) else none) else none) else none) else none) else none) else none)
set_option maxRecDepth 20000 in
theorem t_X6_spell (T : Nat) (x0 : Int32) (x1 : Int32) (x2 : Int32) (x3 : Int32) (x4 : Int32) (x5 : Int32) (x6 : Int32) (x7 : Int32) (x8 : Int32) (st : px_S) : px_O (0, 0, 0, px_n T, m_X6_spell) (px_gv T) (f_X6_spell T x0 x1 x2 x3 x4 x5 x6 x7 x8 st) 0 [some (.ref 48), some (.int x0), some (.int x1), some (.int x2), some (.int x3), some (.int x4), some (.int x5), some (.int x6), some (.int x7), some (.int x8)] [] (HP T st) 0 0 := by
  rw [f_X6_spell]
  refine o_aload_n dX6_spell_0 rfl ?_
  refine h_get (v := .ref 49) dX6_spell_1 q6 fl_X6_13 (by decide) (px_lt (by decide)) (c48 _) rfl ?_
  refine o_iload_n dX6_spell_4 rfl ?_
  refine o_iload_n dX6_spell_5 rfl ?_
  refine h_iast (n := 960) dX6_spell_6 (px_lt (by decide)) c49 (fun c1 => ?_)
  refine o_aload_n dX6_spell_7 rfl ?_
  refine h_get (v := .ref 49) dX6_spell_8 q6 fl_X6_13 (by decide) (px_lt (by decide)) (c48 _) rfl ?_
  refine o_iload_n dX6_spell_11 rfl ?_
  refine o_iconst (v := 1) dX6_spell_12 (by decide) ?_
  refine o_iadd dX6_spell_13 ?_
  refine o_iload_n dX6_spell_14 rfl ?_
  refine h_iast (n := 960) dX6_spell_15 (px_lt (by decide)) c49 (fun c2 => ?_)
  refine o_aload_n dX6_spell_16 rfl ?_
  refine h_get (v := .ref 49) dX6_spell_17 q6 fl_X6_13 (by decide) (px_lt (by decide)) (c48 _) rfl ?_
  refine o_iload_n dX6_spell_20 rfl ?_
  refine o_iconst (v := 2) dX6_spell_21 (by decide) ?_
  refine o_iadd dX6_spell_22 ?_
  refine o_iload dX6_spell_23 rfl ?_
  refine h_iast (n := 960) dX6_spell_25 (px_lt (by decide)) c49 (fun c3 => ?_)
  refine o_aload_n dX6_spell_26 rfl ?_
  refine h_get (v := .ref 49) dX6_spell_27 q6 fl_X6_13 (by decide) (px_lt (by decide)) (c48 _) rfl ?_
  refine o_iload_n dX6_spell_30 rfl ?_
  refine o_iconst (v := 3) dX6_spell_31 (by decide) ?_
  refine o_iadd dX6_spell_32 ?_
  refine o_iload dX6_spell_33 rfl ?_
  refine h_iast (n := 960) dX6_spell_35 (px_lt (by decide)) c49 (fun c4 => ?_)
  refine o_aload_n dX6_spell_36 rfl ?_
  refine h_get (v := .ref 49) dX6_spell_37 q6 fl_X6_13 (by decide) (px_lt (by decide)) (c48 _) rfl ?_
  refine o_iload_n dX6_spell_40 rfl ?_
  refine o_iconst (v := 4) dX6_spell_41 (by decide) ?_
  refine o_iadd dX6_spell_42 ?_
  refine o_iload dX6_spell_43 rfl ?_
  refine h_iast (n := 960) dX6_spell_45 (px_lt (by decide)) c49 (fun c5 => ?_)
  refine o_aload_n dX6_spell_46 rfl ?_
  refine h_get (v := .ref 49) dX6_spell_47 q6 fl_X6_13 (by decide) (px_lt (by decide)) (c48 _) rfl ?_
  refine o_iload_n dX6_spell_50 rfl ?_
  refine o_iconst (v := 5) dX6_spell_51 (by decide) ?_
  refine o_iadd dX6_spell_52 ?_
  refine o_iload dX6_spell_53 rfl ?_
  refine h_iast (n := 960) dX6_spell_55 (px_lt (by decide)) c49 (fun c6 => ?_)
  refine o_aload_n dX6_spell_56 rfl ?_
  refine h_get (v := .ref 49) dX6_spell_57 q6 fl_X6_13 (by decide) (px_lt (by decide)) (c48 _) rfl ?_
  refine o_iload_n dX6_spell_60 rfl ?_
  refine o_bipush (v := 6) dX6_spell_61 (by decide) ?_
  refine o_iadd dX6_spell_63 ?_
  refine o_iload dX6_spell_64 rfl ?_
  refine h_iast (n := 960) dX6_spell_66 (px_lt (by decide)) c49 (fun c7 => ?_)
  refine o_aload_n dX6_spell_67 rfl ?_
  refine h_get (v := .ref 49) dX6_spell_68 q6 fl_X6_13 (by decide) (px_lt (by decide)) (c48 _) rfl ?_
  refine o_iload_n dX6_spell_71 rfl ?_
  refine o_bipush (v := 7) dX6_spell_72 (by decide) ?_
  refine o_iadd dX6_spell_74 ?_
  refine o_iload dX6_spell_75 rfl ?_
  refine h_iast (n := 960) dX6_spell_77 (px_lt (by decide)) c49 (fun c8 => ?_)
  exact o_vret rfl dX6_spell_78 rfl (Nat.zero_le _) (Nat.zero_le _)
theorem k_X6_spell {T : Nat} {st : px_S} {x0 : Int32} {x1 : Int32} {x2 : Int32} {x3 : Int32} {x4 : Int32} {x5 : Int32} {x6 : Int32} {x7 : Int32} {x8 : Int32} {b : px_S} (hf : f_X6_spell T x0 x1 x2 x3 x4 x5 x6 x7 x8 st = some b) : px_K 0 0 0 m_X6_spell [.ref 48, .int x0, .int x1, .int x2, .int x3, .int x4, .int x5, .int x6, .int x7, .int x8] (HP T st) ((px_gv T) b).1 ((px_gv T) b).2 := px_KofH hf mf_X6_spell (Nat.le_of_ble_eq_true rfl) rfl (t_X6_spell T x0 x1 x2 x3 x4 x5 x6 x7 x8 st)
/-! ThreeOfThemModel.isOne(I)Z: R, depth 1 -/
def f_X6_isOne (T : Nat) (st : px_S) (x0 : Int32) : Option (Int32) := (if (p_X6_in x0.toInt64 0 ((st 48 11) - 1).toInt64) = 0 ∨ (p_X6_in x0.toInt64 0 ((st 48 11) - 1).toInt64) = 1 then some (p_X6_in x0.toInt64 0 ((st 48 11) - 1).toInt64) else none)
set_option maxRecDepth 20000 in
theorem t_X6_isOne (T : Nat) (st : px_S) (x0 : Int32) : px_O (1, 0, 0, px_n T, m_X6_isOne) (px_g0 (HP T st)) (f_X6_isOne T st x0) 0 [some (.ref 48), some (.int x0)] [] (HP T st) 0 0 := by
  rw [f_X6_isOne]
  refine o_iload_n dX6_isOne_0 rfl ?_
  refine o_i2l dX6_isOne_1 ?_
  refine o_lconst (v := 0) dX6_isOne_2 (by decide) ?_
  refine o_aload_n dX6_isOne_3 rfl ?_
  refine h_get (v := .int (st 48 11)) dX6_isOne_4 q6 fl_X6_94 (by decide) (px_lt (by decide)) (c48 _) rfl ?_
  refine o_iconst (v := 1) dX6_isOne_7 (by decide) ?_
  refine o_isub dX6_isOne_8 ?_
  refine o_i2l dX6_isOne_9 ?_
  refine h_cSP (as := [.long x0.toInt64, .long 0, .long ((st 48 11) - 1).toInt64]) (S1 := []) (d' := 0) dX6_isOne_10 mf_X6_in ml_X6_97 ms_X6_in rfl (Nat.le_of_ble_eq_true rfl) rfl (Nat.le_of_ble_eq_true rfl) ⟨Nat.zero_le _, Nat.zero_le _⟩ (k_X6_in) ?_
  refine o_ite (fun c1 => ?_) (fun _ => o_none)
  exact o_iret (rt := .boolean) rfl (by rcases c1 with c1 | c1 <;> rw [c1] <;> rfl) dX6_isOne_13 rfl (Nat.zero_le _) (Nat.zero_le _)
theorem k_X6_isOne_o {T : Nat} {st : px_S} {x0 : Int32} {b : Int32} (hf : f_X6_isOne T st x0 = some b) : px_K 1 0 0 m_X6_isOne [.ref 48, .int x0] (HP T st) (some (.int b)) (HP T st) := px_KofH (g := px_g0 (HP T st)) hf mf_X6_isOne (Nat.le_of_ble_eq_true rfl) rfl (t_X6_isOne T st x0)
theorem k_X6_isOne {T : Nat} {st : px_S} {x0 : Int32} {b : Int32} (hf : f_X6_isOne T st x0 = some b) : px_K 1 0 0 m_X6_isOne [.ref 48, .int x0] (HP T st) (some (.int b)) (HP T st) := k_X6_isOne_o hf
/-! ThreeOfThemModel.isIn(I)Z: R, depth 2 -/
def f_X6_isIn (T : Nat) (st : px_S) (x0 : Int32) : Option (Int32) := ((f_X6_isOne T st x0).bind fun b1 => (if b1 = 0 then (some 0) else (if (((st 48 12) >>> (x0 &&& 31)) &&& 1) = 1 then (some 1) else (some 0))))
set_option maxRecDepth 20000 in
theorem t_X6_isIn (T : Nat) (st : px_S) (x0 : Int32) : px_O (2, 0, 0, px_n T, m_X6_isIn) (px_g0 (HP T st)) (f_X6_isIn T st x0) 0 [some (.ref 48), some (.int x0)] [] (HP T st) 0 0 := by
  rw [f_X6_isIn]
  refine o_aload_n dX6_isIn_0 rfl ?_
  refine o_iload_n dX6_isIn_1 rfl ?_
  refine h_cV0 (as := [.int x0]) (S1 := []) (d' := 1) dX6_isIn_2 mf_X6_isOne ml_X6_101 mv_X6_isOne q6 rfl (hp_at (px_lt (by decide)) (c48 _)) rfl (Nat.le_of_ble_eq_true rfl) rfl (Nat.le_of_ble_eq_true rfl) ⟨Nat.zero_le _, Nat.zero_le _⟩ (fun b hb => k_X6_isOne hb) (fun b1 hb1 => ?_)
  refine o_ifeq (tgt := 24) dX6_isIn_5 (by decide) (fun c2 => ?_) (fun c2 => ?_)
  · refine o_iconst (v := 0) dX6_isIn_24 (by decide) ?_
    exact o_iret (rt := .boolean) rfl rfl dX6_isIn_25 rfl (Nat.zero_le _) (Nat.zero_le _)
  · refine o_aload_n dX6_isIn_8 rfl ?_
    refine h_get (v := .int (st 48 12)) dX6_isIn_9 q6 fl_X6_105 (by decide) (px_lt (by decide)) (c48 _) rfl ?_
    refine o_iload_n dX6_isIn_12 rfl ?_
    refine o_ishr dX6_isIn_13 ?_
    refine o_iconst (v := 1) dX6_isIn_14 (by decide) ?_
    refine o_iand dX6_isIn_15 ?_
    refine o_iconst (v := 1) dX6_isIn_16 (by decide) ?_
    refine o_icmpne (tgt := 24) dX6_isIn_17 (by decide) (fun c3 => ?_) (fun c3 => ?_)
    · refine o_iconst (v := 0) dX6_isIn_24 (by decide) ?_
      exact o_iret (rt := .boolean) rfl rfl dX6_isIn_25 rfl (Nat.zero_le _) (Nat.zero_le _)
    · refine o_iconst (v := 1) dX6_isIn_20 (by decide) ?_
      refine o_goto (tgt := 25) dX6_isIn_21 (by decide) ?_
      exact o_iret (rt := .boolean) rfl rfl dX6_isIn_25 rfl (Nat.zero_le _) (Nat.zero_le _)
theorem k_X6_isIn_o {T : Nat} {st : px_S} {x0 : Int32} {b : Int32} (hf : f_X6_isIn T st x0 = some b) : px_K 2 0 0 m_X6_isIn [.ref 48, .int x0] (HP T st) (some (.int b)) (HP T st) := px_KofH (g := px_g0 (HP T st)) hf mf_X6_isIn (Nat.le_of_ble_eq_true rfl) rfl (t_X6_isIn T st x0)
theorem k_X6_isIn {T : Nat} {st : px_S} {x0 : Int32} {b : Int32} (hf : f_X6_isIn T st x0 = some b) : px_K 2 0 0 m_X6_isIn [.ref 48, .int x0] (HP T st) (some (.int b)) (HP T st) := k_X6_isIn_o hf
/-! ThreeOfThemModel.inmate(II)I: S, depth 1 -/
def f_X6_inmate_71 (T : Nat) : Nat → Int32 → px_S → Option (Int32 × px_S)
  | 0, _, _ => none
  | n + 1, y3, st => (if y3 < 7 then (if px_in ((7 * (st 48 11)) + y3) 49 then (if px_in ((7 * y3) + (st 48 11)) 49 then (if px_in y3 7 then (if px_in y3 7 then ((f_X6_inmate_71 T n) (y3 + 1) (up (up (up st 54 ((7 * (st 48 11)) + y3).toNatClampNeg 5) 54 ((7 * y3) + (st 48 11)).toNatClampNeg 5) 55 y3.toNatClampNeg (((up (up st 54 ((7 * (st 48 11)) + y3).toNatClampNeg 5) 54 ((7 * y3) + (st 48 11)).toNatClampNeg 5) 55 y3.toNatClampNeg) &&& ((1 <<< ((st 48 11) &&& 31)) ^^^ (-1))))) else none) else none) else none) else none) else (some ((((st 48 11) + 1) - 1), (up (up st 48 12 ((st 48 12) ||| (1 <<< ((st 48 11) &&& 31)))) 48 11 ((st 48 11) + 1)))))
set_option maxRecDepth 20000 in
theorem t_X6_inmate_71 (T : Nat) : ∀ (n : Nat) (y3 : Int32) (st : px_S), px_O (1, 0, 0, px_n T, m_X6_inmate) (px_gi T) (f_X6_inmate_71 T n y3 st) 71 [some (.ref 48), none, none, some (.int y3)] [] (HP T st) 0 0 := by
  intro n
  induction n with
  | zero => intro y3 st; rw [f_X6_inmate_71]; exact o_none
  | succ n ih =>
    intro y3 st
    rw [f_X6_inmate_71]
    refine o_iload_n dX6_inmate_71 rfl ?_
    refine o_bipush (v := 7) dX6_inmate_72 (by decide) ?_
    refine o_icmpge (tgt := 130) dX6_inmate_74 (by decide) (fun c1 => ?_) (fun c1 => ?_)
    · refine o_aload_n dX6_inmate_130 rfl ?_
      refine o_dup dX6_inmate_131 rfl ?_
      refine h_get (v := .int (st 48 12)) dX6_inmate_132 q6 fl_X6_105 (by decide) (px_lt (by decide)) (c48 _) rfl ?_
      refine o_iconst (v := 1) dX6_inmate_135 (by decide) ?_
      refine o_aload_n dX6_inmate_136 rfl ?_
      refine h_get (v := .int (st 48 11)) dX6_inmate_137 q6 fl_X6_94 (by decide) (px_lt (by decide)) (c48 _) rfl ?_
      refine o_ishl dX6_inmate_140 ?_
      refine o_ior dX6_inmate_141 ?_
      refine h_puti dX6_inmate_142 q6 fl_X6_105 pf_X6_12 (px_lt (by decide)) (c48 _) (Nat.le_of_ble_eq_true rfl) (s48_12 _ _) ?_
      refine o_aload_n dX6_inmate_145 rfl ?_
      refine o_dup dX6_inmate_146 rfl ?_
      refine h_get (v := .int (st 48 11)) dX6_inmate_147 q6 fl_X6_94 (by decide) (px_lt (by decide)) (c48 _) rfl ?_
      refine o_iconst (v := 1) dX6_inmate_150 (by decide) ?_
      refine o_iadd dX6_inmate_151 ?_
      refine h_puti dX6_inmate_152 q6 fl_X6_94 pf_X6_11 (px_lt (by decide)) (c48 _) (Nat.le_of_ble_eq_true rfl) (s48_11 _ _) ?_
      refine o_aload_n dX6_inmate_155 rfl ?_
      refine h_get (v := .int ((st 48 11) + 1)) dX6_inmate_156 q6 fl_X6_94 (by decide) (px_lt (by decide)) (c48 _) rfl ?_
      refine o_iconst (v := 1) dX6_inmate_159 (by decide) ?_
      refine o_isub dX6_inmate_160 ?_
      exact o_iret (rt := .int) rfl rfl dX6_inmate_161 rfl (Nat.zero_le _) (Nat.zero_le _)
    · refine o_aload_n dX6_inmate_77 rfl ?_
      refine h_get (v := .ref 54) dX6_inmate_78 q6 fl_X6_29 (by decide) (px_lt (by decide)) (c48 _) rfl ?_
      refine o_bipush (v := 7) dX6_inmate_81 (by decide) ?_
      refine o_aload_n dX6_inmate_83 rfl ?_
      refine h_get (v := .int (st 48 11)) dX6_inmate_84 q6 fl_X6_94 (by decide) (px_lt (by decide)) (c48 _) rfl ?_
      refine o_imul dX6_inmate_87 ?_
      refine o_iload_n dX6_inmate_88 rfl ?_
      refine o_iadd dX6_inmate_89 ?_
      refine o_iconst (v := 5) dX6_inmate_90 (by decide) ?_
      refine h_iast (n := 49) dX6_inmate_91 (px_lt (by decide)) c54 (fun c2 => ?_)
      refine o_aload_n dX6_inmate_92 rfl ?_
      refine h_get (v := .ref 54) dX6_inmate_93 q6 fl_X6_29 (by decide) (px_lt (by decide)) (c48 _) rfl ?_
      refine o_bipush (v := 7) dX6_inmate_96 (by decide) ?_
      refine o_iload_n dX6_inmate_98 rfl ?_
      refine o_imul dX6_inmate_99 ?_
      refine o_aload_n dX6_inmate_100 rfl ?_
      refine h_get (v := .int (st 48 11)) dX6_inmate_101 q6 fl_X6_94 (by decide) (px_lt (by decide)) (c48 _) rfl ?_
      refine o_iadd dX6_inmate_104 ?_
      refine o_iconst (v := 5) dX6_inmate_105 (by decide) ?_
      refine h_iast (n := 49) dX6_inmate_106 (px_lt (by decide)) c54 (fun c3 => ?_)
      refine o_aload_n dX6_inmate_107 rfl ?_
      refine h_get (v := .ref 55) dX6_inmate_108 q6 fl_X6_32 (by decide) (px_lt (by decide)) (c48 _) rfl ?_
      refine o_iload_n dX6_inmate_111 rfl ?_
      refine o_dup2 dX6_inmate_112 rfl rfl ?_
      refine h_iald (n := 7) dX6_inmate_113 (px_lt (by decide)) (c55 _) (fun c4 => ?_)
      refine o_iconst (v := 1) dX6_inmate_114 (by decide) ?_
      refine o_aload_n dX6_inmate_115 rfl ?_
      refine h_get (v := .int (st 48 11)) dX6_inmate_116 q6 fl_X6_94 (by decide) (px_lt (by decide)) (c48 _) rfl ?_
      refine o_ishl dX6_inmate_119 ?_
      refine o_iconst (v := (-1)) dX6_inmate_120 (by decide) ?_
      refine o_ixor dX6_inmate_121 ?_
      refine o_iand dX6_inmate_122 ?_
      refine h_iast (n := 7) dX6_inmate_123 (px_lt (by decide)) c55 (fun c5 => ?_)
      refine o_iinc (v := (y3 + 1)) (L' := [some (.ref 48), none, none, some (.int (y3 + 1))]) dX6_inmate_124 rfl rfl (Nat.le_of_ble_eq_true rfl) rfl rfl ?_
      refine o_goto (tgt := 71) dX6_inmate_127 (by decide) ?_
      exact (ih (y3 + 1) (up (up (up st 54 ((7 * (st 48 11)) + y3).toNatClampNeg 5) 54 ((7 * y3) + (st 48 11)).toNatClampNeg 5) 55 y3.toNatClampNeg (((up (up st 54 ((7 * (st 48 11)) + y3).toNatClampNeg 5) 54 ((7 * y3) + (st 48 11)).toNatClampNeg 5) 55 y3.toNatClampNeg) &&& ((1 <<< ((st 48 11) &&& 31)) ^^^ (-1)))))
def f_X6_inmate (T : Nat) (x0 : Int32) (x1 : Int32) (st : px_S) : Option (Int32 × px_S) := (if (p_X6_in x0.toInt64 0 5) = 0 then (some ((-2), st)) else (if (p_X6_in x1.toInt64 0 9) = 0 then (some ((-2), st)) else (if (st 48 11) = 7 then (some ((-4), st)) else (if px_in (st 48 11) 7 then (if px_in (st 48 11) 7 then (if px_in (st 48 11) 7 then (f_X6_inmate_71 T 1000 0 (up (up (up st 52 (st 48 11).toNatClampNeg x0) 53 (st 48 11).toNatClampNeg x1) 55 (st 48 11).toNatClampNeg 0)) else none) else none) else none))))
set_option maxRecDepth 20000 in
theorem t_X6_inmate (T : Nat) (x0 : Int32) (x1 : Int32) (st : px_S) : px_O (1, 0, 0, px_n T, m_X6_inmate) (px_gi T) (f_X6_inmate T x0 x1 st) 0 [some (.ref 48), some (.int x0), some (.int x1), none] [] (HP T st) 0 0 := by
  rw [f_X6_inmate]
  refine o_iload_n dX6_inmate_0 rfl ?_
  refine o_i2l dX6_inmate_1 ?_
  refine o_lconst (v := 0) dX6_inmate_2 (by decide) ?_
  refine o_ldc2 (v := 5) dX6_inmate_3 cst_X6_108 ?_
  refine h_cSP (as := [.long x0.toInt64, .long 0, .long 5]) (S1 := []) (d' := 0) dX6_inmate_6 mf_X6_in ml_X6_97 ms_X6_in rfl (Nat.le_of_ble_eq_true rfl) rfl (Nat.le_of_ble_eq_true rfl) ⟨Nat.zero_le _, Nat.zero_le _⟩ (k_X6_in) ?_
  refine o_ifeq (tgt := 24) dX6_inmate_9 (by decide) (fun c6 => ?_) (fun c6 => ?_)
  · refine o_bipush (v := (-2)) dX6_inmate_24 (by decide) ?_
    exact o_iret (rt := .int) rfl rfl dX6_inmate_26 rfl (Nat.zero_le _) (Nat.zero_le _)
  · refine o_iload_n dX6_inmate_12 rfl ?_
    refine o_i2l dX6_inmate_13 ?_
    refine o_lconst (v := 0) dX6_inmate_14 (by decide) ?_
    refine o_ldc2 (v := 9) dX6_inmate_15 cst_X6_110 ?_
    refine h_cSP (as := [.long x1.toInt64, .long 0, .long 9]) (S1 := []) (d' := 0) dX6_inmate_18 mf_X6_in ml_X6_97 ms_X6_in rfl (Nat.le_of_ble_eq_true rfl) rfl (Nat.le_of_ble_eq_true rfl) ⟨Nat.zero_le _, Nat.zero_le _⟩ (k_X6_in) ?_
    refine o_ifne (tgt := 27) dX6_inmate_21 (by decide) (fun c7 => ?_) (fun c7 => ?_)
    · refine o_aload_n dX6_inmate_27 rfl ?_
      refine h_get (v := .int (st 48 11)) dX6_inmate_28 q6 fl_X6_94 (by decide) (px_lt (by decide)) (c48 _) rfl ?_
      refine o_bipush (v := 7) dX6_inmate_31 (by decide) ?_
      refine o_icmpne (tgt := 39) dX6_inmate_33 (by decide) (fun c8 => ?_) (fun c8 => ?_)
      · refine o_aload_n dX6_inmate_39 rfl ?_
        refine h_get (v := .ref 52) dX6_inmate_40 q6 fl_X6_23 (by decide) (px_lt (by decide)) (c48 _) rfl ?_
        refine o_aload_n dX6_inmate_43 rfl ?_
        refine h_get (v := .int (st 48 11)) dX6_inmate_44 q6 fl_X6_94 (by decide) (px_lt (by decide)) (c48 _) rfl ?_
        refine o_iload_n dX6_inmate_47 rfl ?_
        refine h_iast (n := 7) dX6_inmate_48 (px_lt (by decide)) c52 (fun c9 => ?_)
        refine o_aload_n dX6_inmate_49 rfl ?_
        refine h_get (v := .ref 53) dX6_inmate_50 q6 fl_X6_26 (by decide) (px_lt (by decide)) (c48 _) rfl ?_
        refine o_aload_n dX6_inmate_53 rfl ?_
        refine h_get (v := .int (st 48 11)) dX6_inmate_54 q6 fl_X6_94 (by decide) (px_lt (by decide)) (c48 _) rfl ?_
        refine o_iload_n dX6_inmate_57 rfl ?_
        refine h_iast (n := 7) dX6_inmate_58 (px_lt (by decide)) c53 (fun c10 => ?_)
        refine o_aload_n dX6_inmate_59 rfl ?_
        refine h_get (v := .ref 55) dX6_inmate_60 q6 fl_X6_32 (by decide) (px_lt (by decide)) (c48 _) rfl ?_
        refine o_aload_n dX6_inmate_63 rfl ?_
        refine h_get (v := .int (st 48 11)) dX6_inmate_64 q6 fl_X6_94 (by decide) (px_lt (by decide)) (c48 _) rfl ?_
        refine o_iconst (v := 0) dX6_inmate_67 (by decide) ?_
        refine h_iast (n := 7) dX6_inmate_68 (px_lt (by decide)) c55 (fun c11 => ?_)
        refine o_iconst (v := 0) dX6_inmate_69 (by decide) ?_
        refine o_istore_n (L' := [some (.ref 48), some (.int x0), some (.int x1), some (.int 0)]) dX6_inmate_70 (Nat.le_of_ble_eq_true rfl) rfl rfl ?_
        exact o_weak (L' := [some (.ref 48), none, none, some (.int 0)]) ⟨rfl, ⟨rfl, trivial⟩⟩ (t_X6_inmate_71 T 1000 0 (up (up (up st 52 (st 48 11).toNatClampNeg x0) 53 (st 48 11).toNatClampNeg x1) 55 (st 48 11).toNatClampNeg 0))
      · refine o_bipush (v := (-4)) dX6_inmate_36 (by decide) ?_
        exact o_iret (rt := .int) rfl rfl dX6_inmate_38 rfl (Nat.zero_le _) (Nat.zero_le _)
    · refine o_bipush (v := (-2)) dX6_inmate_24 (by decide) ?_
      exact o_iret (rt := .int) rfl rfl dX6_inmate_26 rfl (Nat.zero_le _) (Nat.zero_le _)
theorem k_X6_inmate {T : Nat} {st : px_S} {x0 : Int32} {x1 : Int32} {b : Int32 × px_S} (hf : f_X6_inmate T x0 x1 st = some b) : px_K 1 0 0 m_X6_inmate [.ref 48, .int x0, .int x1] (HP T st) ((px_gi T) b).1 ((px_gi T) b).2 := px_KofH hf mf_X6_inmate (Nat.le_of_ble_eq_true rfl) rfl (t_X6_inmate T x0 x1 st)
/-! ThreeOfThemModel.like(III)I: S, depth 2 -/
def f_X6_like (T : Nat) (x0 : Int32) (x1 : Int32) (x2 : Int32) (st : px_S) : Option (Int32 × px_S) := ((f_X6_isOne T st x0).bind fun b1 => (if b1 = 0 then (some ((-2), st)) else ((f_X6_isOne T st x1).bind fun b3 => (if b3 = 0 then (some ((-2), st)) else (if x0 = x1 then (some ((-2), st)) else (if (p_X6_in x2.toInt64 0 9) = 0 then (some ((-2), st)) else (if px_in ((7 * x0) + x1) 49 then (if px_in ((7 * x0) + x1) 49 then (some ((st 54 ((7 * x0) + x1).toNatClampNeg), (up st 54 ((7 * x0) + x1).toNatClampNeg x2))) else none) else none)))))))
set_option maxRecDepth 20000 in
theorem t_X6_like (T : Nat) (x0 : Int32) (x1 : Int32) (x2 : Int32) (st : px_S) : px_O (2, 0, 0, px_n T, m_X6_like) (px_gi T) (f_X6_like T x0 x1 x2 st) 0 [some (.ref 48), some (.int x0), some (.int x1), some (.int x2), none] [] (HP T st) 0 0 := by
  rw [f_X6_like]
  refine o_aload_n dX6_like_0 rfl ?_
  refine o_iload_n dX6_like_1 rfl ?_
  refine h_cV0 (as := [.int x0]) (S1 := []) (d' := 1) dX6_like_2 mf_X6_isOne ml_X6_101 mv_X6_isOne q6 rfl (hp_at (px_lt (by decide)) (c48 _)) rfl (Nat.le_of_ble_eq_true rfl) rfl (Nat.le_of_ble_eq_true rfl) ⟨Nat.zero_le _, Nat.zero_le _⟩ (fun b hb => k_X6_isOne hb) (fun b1 hb1 => ?_)
  refine o_ifeq (tgt := 33) dX6_like_5 (by decide) (fun c2 => ?_) (fun c2 => ?_)
  · refine o_bipush (v := (-2)) dX6_like_33 (by decide) ?_
    exact o_iret (rt := .int) rfl rfl dX6_like_35 rfl (Nat.zero_le _) (Nat.zero_le _)
  · refine o_aload_n dX6_like_8 rfl ?_
    refine o_iload_n dX6_like_9 rfl ?_
    refine h_cV0 (as := [.int x1]) (S1 := []) (d' := 1) dX6_like_10 mf_X6_isOne ml_X6_101 mv_X6_isOne q6 rfl (hp_at (px_lt (by decide)) (c48 _)) rfl (Nat.le_of_ble_eq_true rfl) rfl (Nat.le_of_ble_eq_true rfl) ⟨Nat.zero_le _, Nat.zero_le _⟩ (fun b hb => k_X6_isOne hb) (fun b3 hb3 => ?_)
    refine o_ifeq (tgt := 33) dX6_like_13 (by decide) (fun c4 => ?_) (fun c4 => ?_)
    · refine o_bipush (v := (-2)) dX6_like_33 (by decide) ?_
      exact o_iret (rt := .int) rfl rfl dX6_like_35 rfl (Nat.zero_le _) (Nat.zero_le _)
    · refine o_iload_n dX6_like_16 rfl ?_
      refine o_iload_n dX6_like_17 rfl ?_
      refine o_icmpeq (tgt := 33) dX6_like_18 (by decide) (fun c5 => ?_) (fun c5 => ?_)
      · refine o_bipush (v := (-2)) dX6_like_33 (by decide) ?_
        exact o_iret (rt := .int) rfl rfl dX6_like_35 rfl (Nat.zero_le _) (Nat.zero_le _)
      · refine o_iload_n dX6_like_21 rfl ?_
        refine o_i2l dX6_like_22 ?_
        refine o_lconst (v := 0) dX6_like_23 (by decide) ?_
        refine o_ldc2 (v := 9) dX6_like_24 cst_X6_110 ?_
        refine h_cSP (as := [.long x2.toInt64, .long 0, .long 9]) (S1 := []) (d' := 0) dX6_like_27 mf_X6_in ml_X6_97 ms_X6_in rfl (Nat.le_of_ble_eq_true rfl) rfl (Nat.le_of_ble_eq_true rfl) ⟨Nat.zero_le _, Nat.zero_le _⟩ (k_X6_in) ?_
        refine o_ifne (tgt := 36) dX6_like_30 (by decide) (fun c6 => ?_) (fun c6 => ?_)
        · refine o_aload_n dX6_like_36 rfl ?_
          refine h_get (v := .ref 54) dX6_like_37 q6 fl_X6_29 (by decide) (px_lt (by decide)) (c48 _) rfl ?_
          refine o_bipush (v := 7) dX6_like_40 (by decide) ?_
          refine o_iload_n dX6_like_42 rfl ?_
          refine o_imul dX6_like_43 ?_
          refine o_iload_n dX6_like_44 rfl ?_
          refine o_iadd dX6_like_45 ?_
          refine h_iald (n := 49) dX6_like_46 (px_lt (by decide)) (c54 _) (fun c7 => ?_)
          refine o_istore (L' := [some (.ref 48), some (.int x0), some (.int x1), some (.int x2), some (.int (st 54 ((7 * x0) + x1).toNatClampNeg))]) dX6_like_47 (Nat.le_of_ble_eq_true rfl) rfl rfl ?_
          refine o_aload_n dX6_like_49 rfl ?_
          refine h_get (v := .ref 54) dX6_like_50 q6 fl_X6_29 (by decide) (px_lt (by decide)) (c48 _) rfl ?_
          refine o_bipush (v := 7) dX6_like_53 (by decide) ?_
          refine o_iload_n dX6_like_55 rfl ?_
          refine o_imul dX6_like_56 ?_
          refine o_iload_n dX6_like_57 rfl ?_
          refine o_iadd dX6_like_58 ?_
          refine o_iload_n dX6_like_59 rfl ?_
          refine h_iast (n := 49) dX6_like_60 (px_lt (by decide)) c54 (fun c8 => ?_)
          refine o_iload dX6_like_61 rfl ?_
          exact o_iret (rt := .int) rfl rfl dX6_like_63 rfl (Nat.zero_le _) (Nat.zero_le _)
        · refine o_bipush (v := (-2)) dX6_like_33 (by decide) ?_
          exact o_iret (rt := .int) rfl rfl dX6_like_35 rfl (Nat.zero_le _) (Nat.zero_le _)
theorem k_X6_like {T : Nat} {st : px_S} {x0 : Int32} {x1 : Int32} {x2 : Int32} {b : Int32 × px_S} (hf : f_X6_like T x0 x1 x2 st = some b) : px_K 2 0 0 m_X6_like [.ref 48, .int x0, .int x1, .int x2] (HP T st) ((px_gi T) b).1 ((px_gi T) b).2 := px_KofH hf mf_X6_like (Nat.le_of_ble_eq_true rfl) rfl (t_X6_like T x0 x1 x2 st)
/-! ThreeOfThemModel.areSworn(II)Z: R, depth 0 -/
def f_X6_areSworn (T : Nat) (st : px_S) (x0 : Int32) (x1 : Int32) : Option (Int32) := (if px_in x0 7 then (if (((st 55 x0.toNatClampNeg) >>> (x1 &&& 31)) &&& 1) = 1 then (some 1) else (some 0)) else none)
set_option maxRecDepth 20000 in
theorem t_X6_areSworn (T : Nat) (st : px_S) (x0 : Int32) (x1 : Int32) : px_O (0, 0, 0, px_n T, m_X6_areSworn) (px_g0 (HP T st)) (f_X6_areSworn T st x0 x1) 0 [some (.ref 48), some (.int x0), some (.int x1)] [] (HP T st) 0 0 := by
  rw [f_X6_areSworn]
  refine o_aload_n dX6_areSworn_0 rfl ?_
  refine h_get (v := .ref 55) dX6_areSworn_1 q6 fl_X6_32 (by decide) (px_lt (by decide)) (c48 _) rfl ?_
  refine o_iload_n dX6_areSworn_4 rfl ?_
  refine h_iald (n := 7) dX6_areSworn_5 (px_lt (by decide)) (c55 _) (fun c1 => ?_)
  refine o_iload_n dX6_areSworn_6 rfl ?_
  refine o_ishr dX6_areSworn_7 ?_
  refine o_iconst (v := 1) dX6_areSworn_8 (by decide) ?_
  refine o_iand dX6_areSworn_9 ?_
  refine o_iconst (v := 1) dX6_areSworn_10 (by decide) ?_
  refine o_icmpne (tgt := 18) dX6_areSworn_11 (by decide) (fun c2 => ?_) (fun c2 => ?_)
  · refine o_iconst (v := 0) dX6_areSworn_18 (by decide) ?_
    exact o_iret (rt := .boolean) rfl rfl dX6_areSworn_19 rfl (Nat.zero_le _) (Nat.zero_le _)
  · refine o_iconst (v := 1) dX6_areSworn_14 (by decide) ?_
    refine o_goto (tgt := 19) dX6_areSworn_15 (by decide) ?_
    exact o_iret (rt := .boolean) rfl rfl dX6_areSworn_19 rfl (Nat.zero_le _) (Nat.zero_le _)
theorem k_X6_areSworn_o {T : Nat} {st : px_S} {x0 : Int32} {x1 : Int32} {b : Int32} (hf : f_X6_areSworn T st x0 x1 = some b) : px_K 0 0 0 m_X6_areSworn [.ref 48, .int x0, .int x1] (HP T st) (some (.int b)) (HP T st) := px_KofH (g := px_g0 (HP T st)) hf mf_X6_areSworn (Nat.le_of_ble_eq_true rfl) rfl (t_X6_areSworn T st x0 x1)
theorem k_X6_areSworn {T : Nat} {st : px_S} {x0 : Int32} {x1 : Int32} {b : Int32} (hf : f_X6_areSworn T st x0 x1 = some b) : px_K 0 0 0 m_X6_areSworn [.ref 48, .int x0, .int x1] (HP T st) (some (.int b)) (HP T st) := k_X6_areSworn_o hf
/-! ThreeOfThemModel.swears(III)V: S, depth 0 -/
def f_X6_swears (T : Nat) (x0 : Int32) (x1 : Int32) (x2 : Int32) (st : px_S) : Option (px_S) := (if px_in x0 7 then (if px_in x0 7 then (if px_in x1 7 then (if px_in x1 7 then (some (up (up st 55 x0.toNatClampNeg (((st 55 x0.toNatClampNeg) &&& ((1 <<< (x1 &&& 31)) ^^^ (-1))) ||| (x2 <<< (x1 &&& 31)))) 55 x1.toNatClampNeg ((((up st 55 x0.toNatClampNeg (((st 55 x0.toNatClampNeg) &&& ((1 <<< (x1 &&& 31)) ^^^ (-1))) ||| (x2 <<< (x1 &&& 31)))) 55 x1.toNatClampNeg) &&& ((1 <<< (x0 &&& 31)) ^^^ (-1))) ||| (x2 <<< (x0 &&& 31))))) else none) else none) else none) else none)
set_option maxRecDepth 20000 in
theorem t_X6_swears (T : Nat) (x0 : Int32) (x1 : Int32) (x2 : Int32) (st : px_S) : px_O (0, 0, 0, px_n T, m_X6_swears) (px_gv T) (f_X6_swears T x0 x1 x2 st) 0 [some (.ref 48), some (.int x0), some (.int x1), some (.int x2)] [] (HP T st) 0 0 := by
  rw [f_X6_swears]
  refine o_aload_n dX6_swears_0 rfl ?_
  refine h_get (v := .ref 55) dX6_swears_1 q6 fl_X6_32 (by decide) (px_lt (by decide)) (c48 _) rfl ?_
  refine o_iload_n dX6_swears_4 rfl ?_
  refine o_aload_n dX6_swears_5 rfl ?_
  refine h_get (v := .ref 55) dX6_swears_6 q6 fl_X6_32 (by decide) (px_lt (by decide)) (c48 _) rfl ?_
  refine o_iload_n dX6_swears_9 rfl ?_
  refine h_iald (n := 7) dX6_swears_10 (px_lt (by decide)) (c55 _) (fun c1 => ?_)
  refine o_iconst (v := 1) dX6_swears_11 (by decide) ?_
  refine o_iload_n dX6_swears_12 rfl ?_
  refine o_ishl dX6_swears_13 ?_
  refine o_iconst (v := (-1)) dX6_swears_14 (by decide) ?_
  refine o_ixor dX6_swears_15 ?_
  refine o_iand dX6_swears_16 ?_
  refine o_iload_n dX6_swears_17 rfl ?_
  refine o_iload_n dX6_swears_18 rfl ?_
  refine o_ishl dX6_swears_19 ?_
  refine o_ior dX6_swears_20 ?_
  refine h_iast (n := 7) dX6_swears_21 (px_lt (by decide)) c55 (fun c2 => ?_)
  refine o_aload_n dX6_swears_22 rfl ?_
  refine h_get (v := .ref 55) dX6_swears_23 q6 fl_X6_32 (by decide) (px_lt (by decide)) (c48 _) rfl ?_
  refine o_iload_n dX6_swears_26 rfl ?_
  refine o_aload_n dX6_swears_27 rfl ?_
  refine h_get (v := .ref 55) dX6_swears_28 q6 fl_X6_32 (by decide) (px_lt (by decide)) (c48 _) rfl ?_
  refine o_iload_n dX6_swears_31 rfl ?_
  refine h_iald (n := 7) dX6_swears_32 (px_lt (by decide)) (c55 _) (fun c3 => ?_)
  refine o_iconst (v := 1) dX6_swears_33 (by decide) ?_
  refine o_iload_n dX6_swears_34 rfl ?_
  refine o_ishl dX6_swears_35 ?_
  refine o_iconst (v := (-1)) dX6_swears_36 (by decide) ?_
  refine o_ixor dX6_swears_37 ?_
  refine o_iand dX6_swears_38 ?_
  refine o_iload_n dX6_swears_39 rfl ?_
  refine o_iload_n dX6_swears_40 rfl ?_
  refine o_ishl dX6_swears_41 ?_
  refine o_ior dX6_swears_42 ?_
  refine h_iast (n := 7) dX6_swears_43 (px_lt (by decide)) c55 (fun c4 => ?_)
  exact o_vret rfl dX6_swears_44 rfl (Nat.zero_le _) (Nat.zero_le _)
theorem k_X6_swears {T : Nat} {st : px_S} {x0 : Int32} {x1 : Int32} {x2 : Int32} {b : px_S} (hf : f_X6_swears T x0 x1 x2 st = some b) : px_K 0 0 0 m_X6_swears [.ref 48, .int x0, .int x1, .int x2] (HP T st) ((px_gv T) b).1 ((px_gv T) b).2 := px_KofH hf mf_X6_swears (Nat.le_of_ble_eq_true rfl) rfl (t_X6_swears T x0 x1 x2 st)
/-! ThreeOfThemModel.swear(III)I: S, depth 2 -/
def f_X6_swear_48 (T : Nat) (y1 : Int32) (y2 : Int32) (y3 : Int32) (z0 : Int32) (st : px_S) : Option (Int32 × px_S) := ((f_X6_swears T y1 y2 y3 st).bind fun b1 => (some (z0, b1)))
set_option maxRecDepth 20000 in
theorem t_X6_swear_48 (T : Nat) (y1 : Int32) (y2 : Int32) (y3 : Int32) (z0 : Int32) (st : px_S) : px_O (2, 0, 0, px_n T, m_X6_swear) (px_gi T) (f_X6_swear_48 T y1 y2 y3 z0 st) 48 [some (.ref 48), some (.int y1), some (.int y2), some (.int y3), none] [.int z0] (HP T st) 0 0 := by
  rw [f_X6_swear_48]
  refine o_istore (L' := [some (.ref 48), some (.int y1), some (.int y2), some (.int y3), some (.int z0)]) dX6_swear_48 (Nat.le_of_ble_eq_true rfl) rfl rfl ?_
  refine o_aload_n dX6_swear_50 rfl ?_
  refine o_iload_n dX6_swear_51 rfl ?_
  refine o_iload_n dX6_swear_52 rfl ?_
  refine o_iload_n dX6_swear_53 rfl ?_
  refine h_cVv (as := [.int y1, .int y2, .int y3]) (S1 := []) (d' := 0) dX6_swear_54 mf_X6_swears ml_X6_116 mv_X6_swears q6 rfl (hp_at (px_lt (by decide)) (c48 _)) rfl (Nat.le_of_ble_eq_true rfl) rfl (Nat.le_of_ble_eq_true rfl) (fun b hb => k_X6_swears hb) (fun b1 hb1 => ?_)
  refine o_iload dX6_swear_57 rfl ?_
  exact o_iret (rt := .int) rfl rfl dX6_swear_59 rfl (Nat.zero_le _) (Nat.zero_le _)
def f_X6_swear (T : Nat) (x0 : Int32) (x1 : Int32) (x2 : Int32) (st : px_S) : Option (Int32 × px_S) := ((f_X6_isOne T st x0).bind fun b2 => (if b2 = 0 then (some ((-2), st)) else ((f_X6_isOne T st x1).bind fun b4 => (if b4 = 0 then (some ((-2), st)) else (if x0 = x1 then (some ((-2), st)) else (if (p_X6_in x2.toInt64 0 1) = 0 then (some ((-2), st)) else ((f_X6_areSworn T st x0 x1).bind fun b8 => (if b8 = 0 then (f_X6_swear_48 T x0 x1 x2 0 st) else (f_X6_swear_48 T x0 x1 x2 1 st)))))))))
set_option maxRecDepth 20000 in
theorem t_X6_swear (T : Nat) (x0 : Int32) (x1 : Int32) (x2 : Int32) (st : px_S) : px_O (2, 0, 0, px_n T, m_X6_swear) (px_gi T) (f_X6_swear T x0 x1 x2 st) 0 [some (.ref 48), some (.int x0), some (.int x1), some (.int x2), none] [] (HP T st) 0 0 := by
  rw [f_X6_swear]
  refine o_aload_n dX6_swear_0 rfl ?_
  refine o_iload_n dX6_swear_1 rfl ?_
  refine h_cV0 (as := [.int x0]) (S1 := []) (d' := 1) dX6_swear_2 mf_X6_isOne ml_X6_101 mv_X6_isOne q6 rfl (hp_at (px_lt (by decide)) (c48 _)) rfl (Nat.le_of_ble_eq_true rfl) rfl (Nat.le_of_ble_eq_true rfl) ⟨Nat.zero_le _, Nat.zero_le _⟩ (fun b hb => k_X6_isOne hb) (fun b2 hb2 => ?_)
  refine o_ifeq (tgt := 31) dX6_swear_5 (by decide) (fun c3 => ?_) (fun c3 => ?_)
  · refine o_bipush (v := (-2)) dX6_swear_31 (by decide) ?_
    exact o_iret (rt := .int) rfl rfl dX6_swear_33 rfl (Nat.zero_le _) (Nat.zero_le _)
  · refine o_aload_n dX6_swear_8 rfl ?_
    refine o_iload_n dX6_swear_9 rfl ?_
    refine h_cV0 (as := [.int x1]) (S1 := []) (d' := 1) dX6_swear_10 mf_X6_isOne ml_X6_101 mv_X6_isOne q6 rfl (hp_at (px_lt (by decide)) (c48 _)) rfl (Nat.le_of_ble_eq_true rfl) rfl (Nat.le_of_ble_eq_true rfl) ⟨Nat.zero_le _, Nat.zero_le _⟩ (fun b hb => k_X6_isOne hb) (fun b4 hb4 => ?_)
    refine o_ifeq (tgt := 31) dX6_swear_13 (by decide) (fun c5 => ?_) (fun c5 => ?_)
    · refine o_bipush (v := (-2)) dX6_swear_31 (by decide) ?_
      exact o_iret (rt := .int) rfl rfl dX6_swear_33 rfl (Nat.zero_le _) (Nat.zero_le _)
    · refine o_iload_n dX6_swear_16 rfl ?_
      refine o_iload_n dX6_swear_17 rfl ?_
      refine o_icmpeq (tgt := 31) dX6_swear_18 (by decide) (fun c6 => ?_) (fun c6 => ?_)
      · refine o_bipush (v := (-2)) dX6_swear_31 (by decide) ?_
        exact o_iret (rt := .int) rfl rfl dX6_swear_33 rfl (Nat.zero_le _) (Nat.zero_le _)
      · refine o_iload_n dX6_swear_21 rfl ?_
        refine o_i2l dX6_swear_22 ?_
        refine o_lconst (v := 0) dX6_swear_23 (by decide) ?_
        refine o_lconst (v := 1) dX6_swear_24 (by decide) ?_
        refine h_cSP (as := [.long x2.toInt64, .long 0, .long 1]) (S1 := []) (d' := 0) dX6_swear_25 mf_X6_in ml_X6_97 ms_X6_in rfl (Nat.le_of_ble_eq_true rfl) rfl (Nat.le_of_ble_eq_true rfl) ⟨Nat.zero_le _, Nat.zero_le _⟩ (k_X6_in) ?_
        refine o_ifne (tgt := 34) dX6_swear_28 (by decide) (fun c7 => ?_) (fun c7 => ?_)
        · refine o_aload_n dX6_swear_34 rfl ?_
          refine o_iload_n dX6_swear_35 rfl ?_
          refine o_iload_n dX6_swear_36 rfl ?_
          refine h_cV0 (as := [.int x0, .int x1]) (S1 := []) (d' := 0) dX6_swear_37 mf_X6_areSworn ml_X6_112 mv_X6_areSworn q6 rfl (hp_at (px_lt (by decide)) (c48 _)) rfl (Nat.le_of_ble_eq_true rfl) rfl (Nat.le_of_ble_eq_true rfl) ⟨Nat.zero_le _, Nat.zero_le _⟩ (fun b hb => k_X6_areSworn hb) (fun b8 hb8 => ?_)
          refine o_ifeq (tgt := 47) dX6_swear_40 (by decide) (fun c9 => ?_) (fun c9 => ?_)
          · refine o_iconst (v := 0) dX6_swear_47 (by decide) ?_
            exact (t_X6_swear_48 T x0 x1 x2 0 st)
          · refine o_iconst (v := 1) dX6_swear_43 (by decide) ?_
            refine o_goto (tgt := 48) dX6_swear_44 (by decide) ?_
            exact (t_X6_swear_48 T x0 x1 x2 1 st)
        · refine o_bipush (v := (-2)) dX6_swear_31 (by decide) ?_
          exact o_iret (rt := .int) rfl rfl dX6_swear_33 rfl (Nat.zero_le _) (Nat.zero_le _)
theorem k_X6_swear {T : Nat} {st : px_S} {x0 : Int32} {x1 : Int32} {x2 : Int32} {b : Int32 × px_S} (hf : f_X6_swear T x0 x1 x2 st = some b) : px_K 2 0 0 m_X6_swear [.ref 48, .int x0, .int x1, .int x2] (HP T st) ((px_gi T) b).1 ((px_gi T) b).2 := px_KofH hf mf_X6_swear (Nat.le_of_ble_eq_true rfl) rfl (t_X6_swear T x0 x1 x2 st)
/-! ThreeOfThemModel.set(III)I: S, depth 2 -/
def f_X6_set_149 (T : Nat) (y1 : Int32) (y2 : Int32) (y3 : Int32) (z0 : Int32) (st : px_S) : Option (Int32 × px_S) := (if y1 = 0 then (some (z0, (up st 48 13 y3))) else (if y1 = 1 then (some (z0, (up st 48 14 y3))) else (if y1 = 2 then (some (z0, (up st 48 15 y3))) else (if y1 = 3 then (if px_in y2 7 then (some (z0, (up st 53 y2.toNatClampNeg y3))) else none) else (some (z0, (up st 48 12 (((st 48 12) &&& ((1 <<< (y2 &&& 31)) ^^^ (-1))) ||| (y3 <<< (y2 &&& 31))))))))))
set_option maxRecDepth 20000 in
theorem t_X6_set_149 (T : Nat) (y1 : Int32) (y2 : Int32) (y3 : Int32) (z0 : Int32) (st : px_S) : px_O (2, 0, 0, px_n T, m_X6_set) (px_gi T) (f_X6_set_149 T y1 y2 y3 z0 st) 149 [some (.ref 48), some (.int y1), some (.int y2), some (.int y3), none] [.int z0] (HP T st) 0 0 := by
  rw [f_X6_set_149]
  refine o_istore (L' := [some (.ref 48), some (.int y1), some (.int y2), some (.int y3), some (.int z0)]) dX6_set_149 (Nat.le_of_ble_eq_true rfl) rfl rfl ?_
  refine o_iload_n dX6_set_151 rfl ?_
  refine o_ifne (tgt := 163) dX6_set_152 (by decide) (fun c1 => ?_) (fun c1 => ?_)
  · refine o_iload_n dX6_set_163 rfl ?_
    refine o_iconst (v := 1) dX6_set_164 (by decide) ?_
    refine o_icmpne (tgt := 176) dX6_set_165 (by decide) (fun c2 => ?_) (fun c2 => ?_)
    · refine o_iload_n dX6_set_176 rfl ?_
      refine o_iconst (v := 2) dX6_set_177 (by decide) ?_
      refine o_icmpne (tgt := 189) dX6_set_178 (by decide) (fun c3 => ?_) (fun c3 => ?_)
      · refine o_iload_n dX6_set_189 rfl ?_
        refine o_iconst (v := 3) dX6_set_190 (by decide) ?_
        refine o_icmpne (tgt := 204) dX6_set_191 (by decide) (fun c4 => ?_) (fun c4 => ?_)
        · refine o_aload_n dX6_set_204 rfl ?_
          refine o_aload_n dX6_set_205 rfl ?_
          refine h_get (v := .int (st 48 12)) dX6_set_206 q6 fl_X6_105 (by decide) (px_lt (by decide)) (c48 _) rfl ?_
          refine o_iconst (v := 1) dX6_set_209 (by decide) ?_
          refine o_iload_n dX6_set_210 rfl ?_
          refine o_ishl dX6_set_211 ?_
          refine o_iconst (v := (-1)) dX6_set_212 (by decide) ?_
          refine o_ixor dX6_set_213 ?_
          refine o_iand dX6_set_214 ?_
          refine o_iload_n dX6_set_215 rfl ?_
          refine o_iload_n dX6_set_216 rfl ?_
          refine o_ishl dX6_set_217 ?_
          refine o_ior dX6_set_218 ?_
          refine h_puti dX6_set_219 q6 fl_X6_105 pf_X6_12 (px_lt (by decide)) (c48 _) (Nat.le_of_ble_eq_true rfl) (s48_12 _ _) ?_
          refine o_iload dX6_set_222 rfl ?_
          exact o_iret (rt := .int) rfl rfl dX6_set_224 rfl (Nat.zero_le _) (Nat.zero_le _)
        · refine o_aload_n dX6_set_194 rfl ?_
          refine h_get (v := .ref 53) dX6_set_195 q6 fl_X6_26 (by decide) (px_lt (by decide)) (c48 _) rfl ?_
          refine o_iload_n dX6_set_198 rfl ?_
          refine o_iload_n dX6_set_199 rfl ?_
          refine h_iast (n := 7) dX6_set_200 (px_lt (by decide)) c53 (fun c5 => ?_)
          refine o_goto (tgt := 222) dX6_set_201 (by decide) ?_
          refine o_iload dX6_set_222 rfl ?_
          exact o_iret (rt := .int) rfl rfl dX6_set_224 rfl (Nat.zero_le _) (Nat.zero_le _)
      · refine o_aload_n dX6_set_181 rfl ?_
        refine o_iload_n dX6_set_182 rfl ?_
        refine h_puti dX6_set_183 q6 fl_X6_128 pf_X6_15 (px_lt (by decide)) (c48 _) (Nat.le_of_ble_eq_true rfl) (s48_15 _ _) ?_
        refine o_goto (tgt := 222) dX6_set_186 (by decide) ?_
        refine o_iload dX6_set_222 rfl ?_
        exact o_iret (rt := .int) rfl rfl dX6_set_224 rfl (Nat.zero_le _) (Nat.zero_le _)
    · refine o_aload_n dX6_set_168 rfl ?_
      refine o_iload_n dX6_set_169 rfl ?_
      refine h_puti dX6_set_170 q6 fl_X6_38 pf_X6_14 (px_lt (by decide)) (c48 _) (Nat.le_of_ble_eq_true rfl) (s48_14 _ _) ?_
      refine o_goto (tgt := 222) dX6_set_173 (by decide) ?_
      refine o_iload dX6_set_222 rfl ?_
      exact o_iret (rt := .int) rfl rfl dX6_set_224 rfl (Nat.zero_le _) (Nat.zero_le _)
  · refine o_aload_n dX6_set_155 rfl ?_
    refine o_iload_n dX6_set_156 rfl ?_
    refine h_puti dX6_set_157 q6 fl_X6_35 pf_X6_13 (px_lt (by decide)) (c48 _) (Nat.le_of_ble_eq_true rfl) (s48_13 _ _) ?_
    refine o_goto (tgt := 222) dX6_set_160 (by decide) ?_
    refine o_iload dX6_set_222 rfl ?_
    exact o_iret (rt := .int) rfl rfl dX6_set_224 rfl (Nat.zero_le _) (Nat.zero_le _)
def f_X6_set_83 (T : Nat) (y1 : Int32) (y2 : Int32) (y3 : Int32) (z0 : Int64) (z1 : Int64) (z2 : Int64) (st : px_S) : Option (Int32 × px_S) := (if (p_X6_in z2 z1 z0) = 0 then (some ((-2), st)) else (if y1 = 0 then (f_X6_set_149 T y1 y2 y3 (st 48 13) st) else (if y1 = 1 then (f_X6_set_149 T y1 y2 y3 (st 48 14) st) else (if y1 = 2 then (f_X6_set_149 T y1 y2 y3 (st 48 15) st) else (if y1 = 3 then (if px_in y2 7 then (f_X6_set_149 T y1 y2 y3 (st 53 y2.toNatClampNeg) st) else none) else (f_X6_set_149 T y1 y2 y3 (((st 48 12) >>> (y2 &&& 31)) &&& 1) st))))))
set_option maxRecDepth 20000 in
theorem t_X6_set_83 (T : Nat) (y1 : Int32) (y2 : Int32) (y3 : Int32) (z0 : Int64) (z1 : Int64) (z2 : Int64) (st : px_S) : px_O (2, 0, 0, px_n T, m_X6_set) (px_gi T) (f_X6_set_83 T y1 y2 y3 z0 z1 z2 st) 83 [some (.ref 48), some (.int y1), some (.int y2), some (.int y3), none] [.long z0, .long z1, .long z2] (HP T st) 0 0 := by
  rw [f_X6_set_83]
  refine h_cSP (as := [.long z2, .long z1, .long z0]) (S1 := []) (d' := 0) dX6_set_83 mf_X6_in ml_X6_97 ms_X6_in rfl (Nat.le_of_ble_eq_true rfl) rfl (Nat.le_of_ble_eq_true rfl) ⟨Nat.zero_le _, Nat.zero_le _⟩ (k_X6_in) ?_
  refine o_ifne (tgt := 92) dX6_set_86 (by decide) (fun c6 => ?_) (fun c6 => ?_)
  · refine o_iload_n dX6_set_92 rfl ?_
    refine o_ifne (tgt := 103) dX6_set_93 (by decide) (fun c7 => ?_) (fun c7 => ?_)
    · refine o_iload_n dX6_set_103 rfl ?_
      refine o_iconst (v := 1) dX6_set_104 (by decide) ?_
      refine o_icmpne (tgt := 115) dX6_set_105 (by decide) (fun c8 => ?_) (fun c8 => ?_)
      · refine o_iload_n dX6_set_115 rfl ?_
        refine o_iconst (v := 2) dX6_set_116 (by decide) ?_
        refine o_icmpne (tgt := 127) dX6_set_117 (by decide) (fun c9 => ?_) (fun c9 => ?_)
        · refine o_iload_n dX6_set_127 rfl ?_
          refine o_iconst (v := 3) dX6_set_128 (by decide) ?_
          refine o_icmpne (tgt := 141) dX6_set_129 (by decide) (fun c10 => ?_) (fun c10 => ?_)
          · refine o_aload_n dX6_set_141 rfl ?_
            refine h_get (v := .int (st 48 12)) dX6_set_142 q6 fl_X6_105 (by decide) (px_lt (by decide)) (c48 _) rfl ?_
            refine o_iload_n dX6_set_145 rfl ?_
            refine o_ishr dX6_set_146 ?_
            refine o_iconst (v := 1) dX6_set_147 (by decide) ?_
            refine o_iand dX6_set_148 ?_
            exact (t_X6_set_149 T y1 y2 y3 (((st 48 12) >>> (y2 &&& 31)) &&& 1) st)
          · refine o_aload_n dX6_set_132 rfl ?_
            refine h_get (v := .ref 53) dX6_set_133 q6 fl_X6_26 (by decide) (px_lt (by decide)) (c48 _) rfl ?_
            refine o_iload_n dX6_set_136 rfl ?_
            refine h_iald (n := 7) dX6_set_137 (px_lt (by decide)) (c53 _) (fun c11 => ?_)
            refine o_goto (tgt := 149) dX6_set_138 (by decide) ?_
            exact (t_X6_set_149 T y1 y2 y3 (st 53 y2.toNatClampNeg) st)
        · refine o_aload_n dX6_set_120 rfl ?_
          refine h_get (v := .int (st 48 15)) dX6_set_121 q6 fl_X6_128 (by decide) (px_lt (by decide)) (c48 _) rfl ?_
          refine o_goto (tgt := 149) dX6_set_124 (by decide) ?_
          exact (t_X6_set_149 T y1 y2 y3 (st 48 15) st)
      · refine o_aload_n dX6_set_108 rfl ?_
        refine h_get (v := .int (st 48 14)) dX6_set_109 q6 fl_X6_38 (by decide) (px_lt (by decide)) (c48 _) rfl ?_
        refine o_goto (tgt := 149) dX6_set_112 (by decide) ?_
        exact (t_X6_set_149 T y1 y2 y3 (st 48 14) st)
    · refine o_aload_n dX6_set_96 rfl ?_
      refine h_get (v := .int (st 48 13)) dX6_set_97 q6 fl_X6_35 (by decide) (px_lt (by decide)) (c48 _) rfl ?_
      refine o_goto (tgt := 149) dX6_set_100 (by decide) ?_
      exact (t_X6_set_149 T y1 y2 y3 (st 48 13) st)
  · refine o_bipush (v := (-2)) dX6_set_89 (by decide) ?_
    exact o_iret (rt := .int) rfl rfl dX6_set_91 rfl (Nat.zero_le _) (Nat.zero_le _)
def f_X6_set_39 (T : Nat) (y1 : Int32) (y2 : Int32) (y3 : Int32) (z0 : Int64) (z1 : Int64) (st : px_S) : Option (Int32 × px_S) := (if y1 = 0 then (f_X6_set_83 T y1 y2 y3 9999 z0 z1 st) else (if y1 = 1 then (f_X6_set_83 T y1 y2 y3 5 z0 z1 st) else (if y1 = 2 then (f_X6_set_83 T y1 y2 y3 999 z0 z1 st) else (if y1 = 3 then (f_X6_set_83 T y1 y2 y3 9 z0 z1 st) else (f_X6_set_83 T y1 y2 y3 1 z0 z1 st)))))
set_option maxRecDepth 20000 in
theorem t_X6_set_39 (T : Nat) (y1 : Int32) (y2 : Int32) (y3 : Int32) (z0 : Int64) (z1 : Int64) (st : px_S) : px_O (2, 0, 0, px_n T, m_X6_set) (px_gi T) (f_X6_set_39 T y1 y2 y3 z0 z1 st) 39 [some (.ref 48), some (.int y1), some (.int y2), some (.int y3), none] [.long z0, .long z1] (HP T st) 0 0 := by
  rw [f_X6_set_39]
  refine o_iload_n dX6_set_39 rfl ?_
  refine o_ifne (tgt := 49) dX6_set_40 (by decide) (fun c12 => ?_) (fun c12 => ?_)
  · refine o_iload_n dX6_set_49 rfl ?_
    refine o_iconst (v := 1) dX6_set_50 (by decide) ?_
    refine o_icmpne (tgt := 60) dX6_set_51 (by decide) (fun c13 => ?_) (fun c13 => ?_)
    · refine o_iload_n dX6_set_60 rfl ?_
      refine o_iconst (v := 2) dX6_set_61 (by decide) ?_
      refine o_icmpne (tgt := 71) dX6_set_62 (by decide) (fun c14 => ?_) (fun c14 => ?_)
      · refine o_iload_n dX6_set_71 rfl ?_
        refine o_iconst (v := 3) dX6_set_72 (by decide) ?_
        refine o_icmpne (tgt := 82) dX6_set_73 (by decide) (fun c15 => ?_) (fun c15 => ?_)
        · refine o_lconst (v := 1) dX6_set_82 (by decide) ?_
          exact (t_X6_set_83 T y1 y2 y3 1 z0 z1 st)
        · refine o_ldc2 (v := 9) dX6_set_76 cst_X6_110 ?_
          refine o_goto (tgt := 83) dX6_set_79 (by decide) ?_
          exact (t_X6_set_83 T y1 y2 y3 9 z0 z1 st)
      · refine o_ldc2 (v := 999) dX6_set_65 cst_X6_126 ?_
        refine o_goto (tgt := 83) dX6_set_68 (by decide) ?_
        exact (t_X6_set_83 T y1 y2 y3 999 z0 z1 st)
    · refine o_ldc2 (v := 5) dX6_set_54 cst_X6_108 ?_
      refine o_goto (tgt := 83) dX6_set_57 (by decide) ?_
      exact (t_X6_set_83 T y1 y2 y3 5 z0 z1 st)
  · refine o_ldc2 (v := 9999) dX6_set_43 cst_X6_124 ?_
    refine o_goto (tgt := 83) dX6_set_46 (by decide) ?_
    exact (t_X6_set_83 T y1 y2 y3 9999 z0 z1 st)
def f_X6_set_25 (T : Nat) (y1 : Int32) (y2 : Int32) (y3 : Int32) (st : px_S) : Option (Int32 × px_S) := (if y1 = 1 then (f_X6_set_39 T y1 y2 y3 2 y3.toInt64 st) else (f_X6_set_39 T y1 y2 y3 0 y3.toInt64 st))
set_option maxRecDepth 20000 in
theorem t_X6_set_25 (T : Nat) (y1 : Int32) (y2 : Int32) (y3 : Int32) (st : px_S) : px_O (2, 0, 0, px_n T, m_X6_set) (px_gi T) (f_X6_set_25 T y1 y2 y3 st) 25 [some (.ref 48), some (.int y1), some (.int y2), some (.int y3), none] [] (HP T st) 0 0 := by
  rw [f_X6_set_25]
  refine o_iload_n dX6_set_25 rfl ?_
  refine o_i2l dX6_set_26 ?_
  refine o_iload_n dX6_set_27 rfl ?_
  refine o_iconst (v := 1) dX6_set_28 (by decide) ?_
  refine o_icmpne (tgt := 38) dX6_set_29 (by decide) (fun c16 => ?_) (fun c16 => ?_)
  · refine o_lconst (v := 0) dX6_set_38 (by decide) ?_
    exact (t_X6_set_39 T y1 y2 y3 0 y3.toInt64 st)
  · refine o_ldc2 (v := 2) dX6_set_32 cst_X6_122 ?_
    refine o_goto (tgt := 39) dX6_set_35 (by decide) ?_
    exact (t_X6_set_39 T y1 y2 y3 2 y3.toInt64 st)
def f_X6_set (T : Nat) (x0 : Int32) (x1 : Int32) (x2 : Int32) (st : px_S) : Option (Int32 × px_S) := (if (p_X6_in x0.toInt64 0 4) = 0 then (some ((-2), st)) else (if 2 < x0 then ((f_X6_isOne T st x1).bind fun b19 => (if b19 = 0 then (some ((-2), st)) else (f_X6_set_25 T x0 x1 x2 st))) else (f_X6_set_25 T x0 x1 x2 st)))
set_option maxRecDepth 20000 in
theorem t_X6_set (T : Nat) (x0 : Int32) (x1 : Int32) (x2 : Int32) (st : px_S) : px_O (2, 0, 0, px_n T, m_X6_set) (px_gi T) (f_X6_set T x0 x1 x2 st) 0 [some (.ref 48), some (.int x0), some (.int x1), some (.int x2), none] [] (HP T st) 0 0 := by
  rw [f_X6_set]
  refine o_iload_n dX6_set_0 rfl ?_
  refine o_i2l dX6_set_1 ?_
  refine o_lconst (v := 0) dX6_set_2 (by decide) ?_
  refine o_ldc2 (v := 4) dX6_set_3 cst_X6_120 ?_
  refine h_cSP (as := [.long x0.toInt64, .long 0, .long 4]) (S1 := []) (d' := 0) dX6_set_6 mf_X6_in ml_X6_97 ms_X6_in rfl (Nat.le_of_ble_eq_true rfl) rfl (Nat.le_of_ble_eq_true rfl) ⟨Nat.zero_le _, Nat.zero_le _⟩ (k_X6_in) ?_
  refine o_ifeq (tgt := 89) dX6_set_9 (by decide) (fun c17 => ?_) (fun c17 => ?_)
  · refine o_bipush (v := (-2)) dX6_set_89 (by decide) ?_
    exact o_iret (rt := .int) rfl rfl dX6_set_91 rfl (Nat.zero_le _) (Nat.zero_le _)
  · refine o_iload_n dX6_set_12 rfl ?_
    refine o_iconst (v := 2) dX6_set_13 (by decide) ?_
    refine o_icmple (tgt := 25) dX6_set_14 (by decide) (fun c18 => ?_) (fun c18 => ?_)
    · exact (t_X6_set_25 T x0 x1 x2 st)
    · refine o_aload_n dX6_set_17 rfl ?_
      refine o_iload_n dX6_set_18 rfl ?_
      refine h_cV0 (as := [.int x1]) (S1 := []) (d' := 1) dX6_set_19 mf_X6_isOne ml_X6_101 mv_X6_isOne q6 rfl (hp_at (px_lt (by decide)) (c48 _)) rfl (Nat.le_of_ble_eq_true rfl) rfl (Nat.le_of_ble_eq_true rfl) ⟨Nat.zero_le _, Nat.zero_le _⟩ (fun b hb => k_X6_isOne hb) (fun b19 hb19 => ?_)
      refine o_ifeq (tgt := 89) dX6_set_22 (by decide) (fun c20 => ?_) (fun c20 => ?_)
      · refine o_bipush (v := (-2)) dX6_set_89 (by decide) ?_
        exact o_iret (rt := .int) rfl rfl dX6_set_91 rfl (Nat.zero_le _) (Nat.zero_le _)
      · exact (t_X6_set_25 T x0 x1 x2 st)
theorem k_X6_set {T : Nat} {st : px_S} {x0 : Int32} {x1 : Int32} {x2 : Int32} {b : Int32 × px_S} (hf : f_X6_set T x0 x1 x2 st = some b) : px_K 2 0 0 m_X6_set [.ref 48, .int x0, .int x1, .int x2] (HP T st) ((px_gi T) b).1 ((px_gi T) b).2 := px_KofH hf mf_X6_set (Nat.le_of_ble_eq_true rfl) rfl (t_X6_set T x0 x1 x2 st)
/-! ThreeOfThemModel.brings(II)I: R, depth 0 -/
def f_X6_brings_49 (T : Nat) (st : px_S) (y3 : Int32) (y4 : Int32) : Option (Int32) := (if y3 = 3 then (some (2 * y4)) else (if y3 = 5 then (some (y4 - 12)) else (some y4)))
set_option maxRecDepth 20000 in
theorem t_X6_brings_49 (T : Nat) (st : px_S) (y3 : Int32) (y4 : Int32) : px_O (0, 0, 0, px_n T, m_X6_brings) (px_g0 (HP T st)) (f_X6_brings_49 T st y3 y4) 49 [none, none, none, some (.int y3), some (.int y4), none] [] (HP T st) 0 0 := by
  rw [f_X6_brings_49]
  refine o_iload_n dX6_brings_49 rfl ?_
  refine o_iconst (v := 3) dX6_brings_50 (by decide) ?_
  refine o_icmpne (tgt := 61) dX6_brings_51 (by decide) (fun c1 => ?_) (fun c1 => ?_)
  · refine o_iload_n dX6_brings_61 rfl ?_
    refine o_iconst (v := 5) dX6_brings_62 (by decide) ?_
    refine o_icmpne (tgt := 74) dX6_brings_63 (by decide) (fun c2 => ?_) (fun c2 => ?_)
    · refine o_iload dX6_brings_74 rfl ?_
      exact o_iret (rt := .int) rfl rfl dX6_brings_76 rfl (Nat.zero_le _) (Nat.zero_le _)
    · refine o_iload dX6_brings_66 rfl ?_
      refine o_bipush (v := 12) dX6_brings_68 (by decide) ?_
      refine o_isub dX6_brings_70 ?_
      refine o_goto (tgt := 76) dX6_brings_71 (by decide) ?_
      exact o_iret (rt := .int) rfl rfl dX6_brings_76 rfl (Nat.zero_le _) (Nat.zero_le _)
  · refine o_iconst (v := 2) dX6_brings_54 (by decide) ?_
    refine o_iload dX6_brings_55 rfl ?_
    refine o_imul dX6_brings_57 ?_
    refine o_goto (tgt := 76) dX6_brings_58 (by decide) ?_
    exact o_iret (rt := .int) rfl rfl dX6_brings_76 rfl (Nat.zero_le _) (Nat.zero_le _)
def f_X6_brings_32 (T : Nat) (st : px_S) (y3 : Int32) (y4 : Int32) (z0 : Int32) : Option (Int32) := (if y3 = 1 then (f_X6_brings_49 T st y3 y4) else (if y3 = 3 then (f_X6_brings_49 T st y3 y4) else (if y3 = 5 then (f_X6_brings_49 T st y3 y4) else (if y3 = 2 then (some z0) else (if y3 = 4 then (some (z0 - 3)) else (some 0))))))
set_option maxRecDepth 20000 in
theorem t_X6_brings_32 (T : Nat) (st : px_S) (y3 : Int32) (y4 : Int32) (z0 : Int32) : px_O (0, 0, 0, px_n T, m_X6_brings) (px_g0 (HP T st)) (f_X6_brings_32 T st y3 y4 z0) 32 [none, none, none, some (.int y3), some (.int y4), none] [.int z0] (HP T st) 0 0 := by
  rw [f_X6_brings_32]
  refine o_istore (L' := [none, none, none, some (.int y3), some (.int y4), some (.int z0)]) dX6_brings_32 (Nat.le_of_ble_eq_true rfl) rfl rfl ?_
  refine o_iload_n dX6_brings_34 rfl ?_
  refine o_iconst (v := 1) dX6_brings_35 (by decide) ?_
  refine o_icmpeq (tgt := 49) dX6_brings_36 (by decide) (fun c3 => ?_) (fun c3 => ?_)
  · exact o_weak (L' := [none, none, none, some (.int y3), some (.int y4), none]) ⟨rfl, ⟨rfl, trivial⟩⟩ (t_X6_brings_49 T st y3 y4)
  · refine o_iload_n dX6_brings_39 rfl ?_
    refine o_iconst (v := 3) dX6_brings_40 (by decide) ?_
    refine o_icmpeq (tgt := 49) dX6_brings_41 (by decide) (fun c4 => ?_) (fun c4 => ?_)
    · exact o_weak (L' := [none, none, none, some (.int y3), some (.int y4), none]) ⟨rfl, ⟨rfl, trivial⟩⟩ (t_X6_brings_49 T st y3 y4)
    · refine o_iload_n dX6_brings_44 rfl ?_
      refine o_iconst (v := 5) dX6_brings_45 (by decide) ?_
      refine o_icmpne (tgt := 77) dX6_brings_46 (by decide) (fun c5 => ?_) (fun c5 => ?_)
      · refine o_iload_n dX6_brings_77 rfl ?_
        refine o_iconst (v := 2) dX6_brings_78 (by decide) ?_
        refine o_icmpne (tgt := 87) dX6_brings_79 (by decide) (fun c6 => ?_) (fun c6 => ?_)
        · refine o_iload_n dX6_brings_87 rfl ?_
          refine o_iconst (v := 4) dX6_brings_88 (by decide) ?_
          refine o_icmpne (tgt := 99) dX6_brings_89 (by decide) (fun c7 => ?_) (fun c7 => ?_)
          · refine o_iconst (v := 0) dX6_brings_99 (by decide) ?_
            exact o_iret (rt := .int) rfl rfl dX6_brings_100 rfl (Nat.zero_le _) (Nat.zero_le _)
          · refine o_iload dX6_brings_92 rfl ?_
            refine o_iconst (v := 3) dX6_brings_94 (by decide) ?_
            refine o_isub dX6_brings_95 ?_
            refine o_goto (tgt := 100) dX6_brings_96 (by decide) ?_
            exact o_iret (rt := .int) rfl rfl dX6_brings_100 rfl (Nat.zero_le _) (Nat.zero_le _)
        · refine o_iload dX6_brings_82 rfl ?_
          refine o_goto (tgt := 100) dX6_brings_84 (by decide) ?_
          exact o_iret (rt := .int) rfl rfl dX6_brings_100 rfl (Nat.zero_le _) (Nat.zero_le _)
      · exact o_weak (L' := [none, none, none, some (.int y3), some (.int y4), none]) ⟨rfl, ⟨rfl, trivial⟩⟩ (t_X6_brings_49 T st y3 y4)
def f_X6_brings (T : Nat) (st : px_S) (x0 : Int32) (x1 : Int32) : Option (Int32) := (if px_in x0 7 then (if px_in x0 7 then (if x1 < 4 then (if px_in x0 7 then (f_X6_brings_32 T st (st 52 x0.toNatClampNeg) ((st 53 x0.toNatClampNeg) + x1) (st 53 x0.toNatClampNeg)) else none) else (f_X6_brings_32 T st (st 52 x0.toNatClampNeg) ((st 53 x0.toNatClampNeg) + x1) 0)) else none) else none)
set_option maxRecDepth 20000 in
theorem t_X6_brings (T : Nat) (st : px_S) (x0 : Int32) (x1 : Int32) : px_O (0, 0, 0, px_n T, m_X6_brings) (px_g0 (HP T st)) (f_X6_brings T st x0 x1) 0 [some (.ref 48), some (.int x0), some (.int x1), none, none, none] [] (HP T st) 0 0 := by
  rw [f_X6_brings]
  refine o_aload_n dX6_brings_0 rfl ?_
  refine h_get (v := .ref 52) dX6_brings_1 q6 fl_X6_23 (by decide) (px_lt (by decide)) (c48 _) rfl ?_
  refine o_iload_n dX6_brings_4 rfl ?_
  refine h_iald (n := 7) dX6_brings_5 (px_lt (by decide)) (c52 _) (fun c8 => ?_)
  refine o_istore_n (L' := [some (.ref 48), some (.int x0), some (.int x1), some (.int (st 52 x0.toNatClampNeg)), none, none]) dX6_brings_6 (Nat.le_of_ble_eq_true rfl) rfl rfl ?_
  refine o_aload_n dX6_brings_7 rfl ?_
  refine h_get (v := .ref 53) dX6_brings_8 q6 fl_X6_26 (by decide) (px_lt (by decide)) (c48 _) rfl ?_
  refine o_iload_n dX6_brings_11 rfl ?_
  refine h_iald (n := 7) dX6_brings_12 (px_lt (by decide)) (c53 _) (fun c9 => ?_)
  refine o_iload_n dX6_brings_13 rfl ?_
  refine o_iadd dX6_brings_14 ?_
  refine o_istore (L' := [some (.ref 48), some (.int x0), some (.int x1), some (.int (st 52 x0.toNatClampNeg)), some (.int ((st 53 x0.toNatClampNeg) + x1)), none]) dX6_brings_15 (Nat.le_of_ble_eq_true rfl) rfl rfl ?_
  refine o_iload_n dX6_brings_17 rfl ?_
  refine o_iconst (v := 4) dX6_brings_18 (by decide) ?_
  refine o_icmpge (tgt := 31) dX6_brings_19 (by decide) (fun c10 => ?_) (fun c10 => ?_)
  · refine o_iconst (v := 0) dX6_brings_31 (by decide) ?_
    exact o_weak (L' := [none, none, none, some (.int (st 52 x0.toNatClampNeg)), some (.int ((st 53 x0.toNatClampNeg) + x1)), none]) ⟨rfl, ⟨rfl, trivial⟩⟩ (t_X6_brings_32 T st (st 52 x0.toNatClampNeg) ((st 53 x0.toNatClampNeg) + x1) 0)
  · refine o_aload_n dX6_brings_22 rfl ?_
    refine h_get (v := .ref 53) dX6_brings_23 q6 fl_X6_26 (by decide) (px_lt (by decide)) (c48 _) rfl ?_
    refine o_iload_n dX6_brings_26 rfl ?_
    refine h_iald (n := 7) dX6_brings_27 (px_lt (by decide)) (c53 _) (fun c11 => ?_)
    refine o_goto (tgt := 32) dX6_brings_28 (by decide) ?_
    exact o_weak (L' := [none, none, none, some (.int (st 52 x0.toNatClampNeg)), some (.int ((st 53 x0.toNatClampNeg) + x1)), none]) ⟨rfl, ⟨rfl, trivial⟩⟩ (t_X6_brings_32 T st (st 52 x0.toNatClampNeg) ((st 53 x0.toNatClampNeg) + x1) (st 53 x0.toNatClampNeg))
theorem k_X6_brings_o {T : Nat} {st : px_S} {x0 : Int32} {x1 : Int32} {b : Int32} (hf : f_X6_brings T st x0 x1 = some b) : px_K 0 0 0 m_X6_brings [.ref 48, .int x0, .int x1] (HP T st) (some (.int b)) (HP T st) := px_KofH (g := px_g0 (HP T st)) hf mf_X6_brings (Nat.le_of_ble_eq_true rfl) rfl (t_X6_brings T st x0 x1)
theorem k_X6_brings {T : Nat} {st : px_S} {x0 : Int32} {x1 : Int32} {b : Int32} (hf : f_X6_brings T st x0 x1 = some b) : px_K 0 0 0 m_X6_brings [.ref 48, .int x0, .int x1] (HP T st) (some (.int b)) (HP T st) := k_X6_brings_o hf
/-! ThreeOfThemModel.wants(IIZ)I: R, depth 0 -/
def f_X6_wants_83 (T : Nat) (st : px_S) (y2 : Int32) (y4 : Int32) (y5 : Int32) : Option (Int32) := (if y4 = 5 then (if (y2 - 4) < 0 then (some 0) else (some (y2 - 4))) else (if y5 < 0 then (some 0) else (some y5)))
set_option maxRecDepth 20000 in
theorem t_X6_wants_83 (T : Nat) (st : px_S) (y2 : Int32) (y4 : Int32) (y5 : Int32) : px_O (0, 0, 0, px_n T, m_X6_wants) (px_g0 (HP T st)) (f_X6_wants_83 T st y2 y4 y5) 83 [none, none, some (.int y2), none, some (.int y4), some (.int y5)] [] (HP T st) 0 0 := by
  rw [f_X6_wants_83]
  refine o_iload dX6_wants_83 rfl ?_
  refine o_iconst (v := 5) dX6_wants_85 (by decide) ?_
  refine o_icmpne (tgt := 94) dX6_wants_86 (by decide) (fun c1 => ?_) (fun c1 => ?_)
  · refine o_iload dX6_wants_94 rfl ?_
    refine o_ifge (tgt := 103) dX6_wants_96 (by decide) (fun c2 => ?_) (fun c2 => ?_)
    · refine o_iload dX6_wants_103 rfl ?_
      exact o_iret (rt := .int) rfl rfl dX6_wants_105 rfl (Nat.zero_le _) (Nat.zero_le _)
    · refine o_iconst (v := 0) dX6_wants_99 (by decide) ?_
      refine o_goto (tgt := 105) dX6_wants_100 (by decide) ?_
      exact o_iret (rt := .int) rfl rfl dX6_wants_105 rfl (Nat.zero_le _) (Nat.zero_le _)
  · refine o_iload_n dX6_wants_89 rfl ?_
    refine o_iconst (v := 4) dX6_wants_90 (by decide) ?_
    refine o_isub dX6_wants_91 ?_
    refine o_istore (L' := [none, none, some (.int y2), none, some (.int y4), some (.int (y2 - 4))]) dX6_wants_92 (Nat.le_of_ble_eq_true rfl) rfl rfl ?_
    refine o_iload dX6_wants_94 rfl ?_
    refine o_ifge (tgt := 103) dX6_wants_96 (by decide) (fun c3 => ?_) (fun c3 => ?_)
    · refine o_iload dX6_wants_103 rfl ?_
      exact o_iret (rt := .int) rfl rfl dX6_wants_105 rfl (Nat.zero_le _) (Nat.zero_le _)
    · refine o_iconst (v := 0) dX6_wants_99 (by decide) ?_
      refine o_goto (tgt := 105) dX6_wants_100 (by decide) ?_
      exact o_iret (rt := .int) rfl rfl dX6_wants_105 rfl (Nat.zero_le _) (Nat.zero_le _)
def f_X6_wants_72 (T : Nat) (st : px_S) (y1 : Int32) (y2 : Int32) (y4 : Int32) (z0 : Int32) : Option (Int32) := (if px_in y1 7 then (f_X6_wants_83 T st y2 y4 (z0 * (1 + (st 53 y1.toNatClampNeg)))) else none)
set_option maxRecDepth 20000 in
theorem t_X6_wants_72 (T : Nat) (st : px_S) (y1 : Int32) (y2 : Int32) (y4 : Int32) (z0 : Int32) : px_O (0, 0, 0, px_n T, m_X6_wants) (px_g0 (HP T st)) (f_X6_wants_72 T st y1 y2 y4 z0) 72 [some (.ref 48), some (.int y1), some (.int y2), none, some (.int y4), none] [.int z0] (HP T st) 0 0 := by
  rw [f_X6_wants_72]
  refine o_iconst (v := 1) dX6_wants_72 (by decide) ?_
  refine o_aload_n dX6_wants_73 rfl ?_
  refine h_get (v := .ref 53) dX6_wants_74 q6 fl_X6_26 (by decide) (px_lt (by decide)) (c48 _) rfl ?_
  refine o_iload_n dX6_wants_77 rfl ?_
  refine h_iald (n := 7) dX6_wants_78 (px_lt (by decide)) (c53 _) (fun c4 => ?_)
  refine o_iadd dX6_wants_79 ?_
  refine o_imul dX6_wants_80 ?_
  refine o_istore (L' := [some (.ref 48), some (.int y1), some (.int y2), none, some (.int y4), some (.int (z0 * (1 + (st 53 y1.toNatClampNeg))))]) dX6_wants_81 (Nat.le_of_ble_eq_true rfl) rfl rfl ?_
  exact o_weak (L' := [none, none, some (.int y2), none, some (.int y4), some (.int (z0 * (1 + (st 53 y1.toNatClampNeg))))]) ⟨rfl, ⟨rfl, ⟨rfl, trivial⟩⟩⟩ (t_X6_wants_83 T st y2 y4 (z0 * (1 + (st 53 y1.toNatClampNeg))))
def f_X6_wants_57 (T : Nat) (st : px_S) (y1 : Int32) (y2 : Int32) (y3 : Int32) (y4 : Int32) (y5 : Int32) : Option (Int32) := (if y4 = 4 then (if y3 = 0 then (f_X6_wants_72 T st y1 y2 y4 1) else (f_X6_wants_72 T st y1 y2 y4 2)) else (f_X6_wants_83 T st y2 y4 y5))
set_option maxRecDepth 20000 in
theorem t_X6_wants_57 (T : Nat) (st : px_S) (y1 : Int32) (y2 : Int32) (y3 : Int32) (y4 : Int32) (y5 : Int32) : px_O (0, 0, 0, px_n T, m_X6_wants) (px_g0 (HP T st)) (f_X6_wants_57 T st y1 y2 y3 y4 y5) 57 [some (.ref 48), some (.int y1), some (.int y2), some (.int y3), some (.int y4), some (.int y5)] [] (HP T st) 0 0 := by
  rw [f_X6_wants_57]
  refine o_iload dX6_wants_57 rfl ?_
  refine o_iconst (v := 4) dX6_wants_59 (by decide) ?_
  refine o_icmpne (tgt := 83) dX6_wants_60 (by decide) (fun c5 => ?_) (fun c5 => ?_)
  · exact o_weak (L' := [none, none, some (.int y2), none, some (.int y4), some (.int y5)]) ⟨rfl, ⟨rfl, ⟨rfl, trivial⟩⟩⟩ (t_X6_wants_83 T st y2 y4 y5)
  · refine o_iload_n dX6_wants_63 rfl ?_
    refine o_ifeq (tgt := 71) dX6_wants_64 (by decide) (fun c6 => ?_) (fun c6 => ?_)
    · refine o_iconst (v := 1) dX6_wants_71 (by decide) ?_
      exact o_weak (L' := [some (.ref 48), some (.int y1), some (.int y2), none, some (.int y4), none]) ⟨rfl, ⟨rfl, ⟨rfl, ⟨rfl, trivial⟩⟩⟩⟩ (t_X6_wants_72 T st y1 y2 y4 1)
    · refine o_iconst (v := 2) dX6_wants_67 (by decide) ?_
      refine o_goto (tgt := 72) dX6_wants_68 (by decide) ?_
      exact o_weak (L' := [some (.ref 48), some (.int y1), some (.int y2), none, some (.int y4), none]) ⟨rfl, ⟨rfl, ⟨rfl, ⟨rfl, trivial⟩⟩⟩⟩ (t_X6_wants_72 T st y1 y2 y4 2)
def f_X6_wants_55 (T : Nat) (st : px_S) (y1 : Int32) (y2 : Int32) (y3 : Int32) (y4 : Int32) (z0 : Int32) : Option (Int32) := (f_X6_wants_57 T st y1 y2 y3 y4 z0)
set_option maxRecDepth 20000 in
theorem t_X6_wants_55 (T : Nat) (st : px_S) (y1 : Int32) (y2 : Int32) (y3 : Int32) (y4 : Int32) (z0 : Int32) : px_O (0, 0, 0, px_n T, m_X6_wants) (px_g0 (HP T st)) (f_X6_wants_55 T st y1 y2 y3 y4 z0) 55 [some (.ref 48), some (.int y1), some (.int y2), some (.int y3), some (.int y4), none] [.int z0] (HP T st) 0 0 := by
  rw [f_X6_wants_55]
  refine o_istore (L' := [some (.ref 48), some (.int y1), some (.int y2), some (.int y3), some (.int y4), some (.int z0)]) dX6_wants_55 (Nat.le_of_ble_eq_true rfl) rfl rfl ?_
  exact (t_X6_wants_57 T st y1 y2 y3 y4 z0)
def f_X6_wants_38 (T : Nat) (st : px_S) (y1 : Int32) (y2 : Int32) (y3 : Int32) (y4 : Int32) (y5 : Int32) : Option (Int32) := (if y4 = 3 then (if y3 = 0 then (f_X6_wants_55 T st y1 y2 y3 y4 0) else (f_X6_wants_55 T st y1 y2 y3 y4 (1 + y2))) else (f_X6_wants_57 T st y1 y2 y3 y4 y5))
set_option maxRecDepth 20000 in
theorem t_X6_wants_38 (T : Nat) (st : px_S) (y1 : Int32) (y2 : Int32) (y3 : Int32) (y4 : Int32) (y5 : Int32) : px_O (0, 0, 0, px_n T, m_X6_wants) (px_g0 (HP T st)) (f_X6_wants_38 T st y1 y2 y3 y4 y5) 38 [some (.ref 48), some (.int y1), some (.int y2), some (.int y3), some (.int y4), some (.int y5)] [] (HP T st) 0 0 := by
  rw [f_X6_wants_38]
  refine o_iload dX6_wants_38 rfl ?_
  refine o_iconst (v := 3) dX6_wants_40 (by decide) ?_
  refine o_icmpne (tgt := 57) dX6_wants_41 (by decide) (fun c7 => ?_) (fun c7 => ?_)
  · exact (t_X6_wants_57 T st y1 y2 y3 y4 y5)
  · refine o_iload_n dX6_wants_44 rfl ?_
    refine o_ifeq (tgt := 54) dX6_wants_45 (by decide) (fun c8 => ?_) (fun c8 => ?_)
    · refine o_iconst (v := 0) dX6_wants_54 (by decide) ?_
      exact o_weak (L' := [some (.ref 48), some (.int y1), some (.int y2), some (.int y3), some (.int y4), none]) ⟨rfl, ⟨rfl, ⟨rfl, ⟨rfl, ⟨rfl, trivial⟩⟩⟩⟩⟩ (t_X6_wants_55 T st y1 y2 y3 y4 0)
    · refine o_iconst (v := 1) dX6_wants_48 (by decide) ?_
      refine o_iload_n dX6_wants_49 rfl ?_
      refine o_iadd dX6_wants_50 ?_
      refine o_goto (tgt := 55) dX6_wants_51 (by decide) ?_
      exact o_weak (L' := [some (.ref 48), some (.int y1), some (.int y2), some (.int y3), some (.int y4), none]) ⟨rfl, ⟨rfl, ⟨rfl, ⟨rfl, ⟨rfl, trivial⟩⟩⟩⟩⟩ (t_X6_wants_55 T st y1 y2 y3 y4 (1 + y2))
def f_X6_wants_22 (T : Nat) (st : px_S) (y1 : Int32) (y2 : Int32) (y3 : Int32) (y4 : Int32) (y5 : Int32) : Option (Int32) := (if y4 = 2 then (if px_in y1 7 then (f_X6_wants_38 T st y1 y2 y3 y4 (1 + (st 53 y1.toNatClampNeg))) else none) else (f_X6_wants_38 T st y1 y2 y3 y4 y5))
set_option maxRecDepth 20000 in
theorem t_X6_wants_22 (T : Nat) (st : px_S) (y1 : Int32) (y2 : Int32) (y3 : Int32) (y4 : Int32) (y5 : Int32) : px_O (0, 0, 0, px_n T, m_X6_wants) (px_g0 (HP T st)) (f_X6_wants_22 T st y1 y2 y3 y4 y5) 22 [some (.ref 48), some (.int y1), some (.int y2), some (.int y3), some (.int y4), some (.int y5)] [] (HP T st) 0 0 := by
  rw [f_X6_wants_22]
  refine o_iload dX6_wants_22 rfl ?_
  refine o_iconst (v := 2) dX6_wants_24 (by decide) ?_
  refine o_icmpne (tgt := 38) dX6_wants_25 (by decide) (fun c9 => ?_) (fun c9 => ?_)
  · exact (t_X6_wants_38 T st y1 y2 y3 y4 y5)
  · refine o_iconst (v := 1) dX6_wants_28 (by decide) ?_
    refine o_aload_n dX6_wants_29 rfl ?_
    refine h_get (v := .ref 53) dX6_wants_30 q6 fl_X6_26 (by decide) (px_lt (by decide)) (c48 _) rfl ?_
    refine o_iload_n dX6_wants_33 rfl ?_
    refine h_iald (n := 7) dX6_wants_34 (px_lt (by decide)) (c53 _) (fun c10 => ?_)
    refine o_iadd dX6_wants_35 ?_
    refine o_istore (L' := [some (.ref 48), some (.int y1), some (.int y2), some (.int y3), some (.int y4), some (.int (1 + (st 53 y1.toNatClampNeg)))]) dX6_wants_36 (Nat.le_of_ble_eq_true rfl) rfl rfl ?_
    exact (t_X6_wants_38 T st y1 y2 y3 y4 (1 + (st 53 y1.toNatClampNeg)))
def f_X6_wants (T : Nat) (st : px_S) (x0 : Int32) (x1 : Int32) (x2 : Int32) : Option (Int32) := (if px_in x0 7 then (if (st 52 x0.toNatClampNeg) = 1 then (f_X6_wants_22 T st x0 x1 x2 (st 52 x0.toNatClampNeg) (1 + x1)) else (f_X6_wants_22 T st x0 x1 x2 (st 52 x0.toNatClampNeg) 1)) else none)
set_option maxRecDepth 20000 in
theorem t_X6_wants (T : Nat) (st : px_S) (x0 : Int32) (x1 : Int32) (x2 : Int32) : px_O (0, 0, 0, px_n T, m_X6_wants) (px_g0 (HP T st)) (f_X6_wants T st x0 x1 x2) 0 [some (.ref 48), some (.int x0), some (.int x1), some (.int x2), none, none] [] (HP T st) 0 0 := by
  rw [f_X6_wants]
  refine o_aload_n dX6_wants_0 rfl ?_
  refine h_get (v := .ref 52) dX6_wants_1 q6 fl_X6_23 (by decide) (px_lt (by decide)) (c48 _) rfl ?_
  refine o_iload_n dX6_wants_4 rfl ?_
  refine h_iald (n := 7) dX6_wants_5 (px_lt (by decide)) (c52 _) (fun c11 => ?_)
  refine o_istore (L' := [some (.ref 48), some (.int x0), some (.int x1), some (.int x2), some (.int (st 52 x0.toNatClampNeg)), none]) dX6_wants_6 (Nat.le_of_ble_eq_true rfl) rfl rfl ?_
  refine o_iconst (v := 1) dX6_wants_8 (by decide) ?_
  refine o_istore (L' := [some (.ref 48), some (.int x0), some (.int x1), some (.int x2), some (.int (st 52 x0.toNatClampNeg)), some (.int 1)]) dX6_wants_9 (Nat.le_of_ble_eq_true rfl) rfl rfl ?_
  refine o_iload dX6_wants_11 rfl ?_
  refine o_iconst (v := 1) dX6_wants_13 (by decide) ?_
  refine o_icmpne (tgt := 22) dX6_wants_14 (by decide) (fun c12 => ?_) (fun c12 => ?_)
  · exact (t_X6_wants_22 T st x0 x1 x2 (st 52 x0.toNatClampNeg) 1)
  · refine o_iconst (v := 1) dX6_wants_17 (by decide) ?_
    refine o_iload_n dX6_wants_18 rfl ?_
    refine o_iadd dX6_wants_19 ?_
    refine o_istore (L' := [some (.ref 48), some (.int x0), some (.int x1), some (.int x2), some (.int (st 52 x0.toNatClampNeg)), some (.int (1 + x1))]) dX6_wants_20 (Nat.le_of_ble_eq_true rfl) rfl rfl ?_
    exact (t_X6_wants_22 T st x0 x1 x2 (st 52 x0.toNatClampNeg) (1 + x1))
theorem k_X6_wants_o {T : Nat} {st : px_S} {x0 : Int32} {x1 : Int32} {x2 : Int32} {b : Int32} (hf : f_X6_wants T st x0 x1 x2 = some b) : px_K 0 0 0 m_X6_wants [.ref 48, .int x0, .int x1, .int x2] (HP T st) (some (.int b)) (HP T st) := px_KofH (g := px_g0 (HP T st)) hf mf_X6_wants (Nat.le_of_ble_eq_true rfl) rfl (t_X6_wants T st x0 x1 x2)
theorem k_X6_wants {T : Nat} {st : px_S} {x0 : Int32} {x1 : Int32} {x2 : Int32} {b : Int32} (hf : f_X6_wants T st x0 x1 x2 = some b) : px_K 0 0 0 m_X6_wants [.ref 48, .int x0, .int x1, .int x2] (HP T st) (some (.int b)) (HP T st) := k_X6_wants_o hf
/-! ThreeOfThemModel.feed(I)I: S, depth 1 -/
def f_X6_feed (T : Nat) (x0 : Int32) (st : px_S) : Option (Int32 × px_S) := (if (p_X6_in x0.toInt64 0 255) = 0 then (some ((-2), st)) else (if (st 48 6) = 160 then (some ((-4), st)) else (if px_in (st 48 6) 160 then (some (((st 48 6) + 1), (up (up st 51 (st 48 6).toNatClampNeg x0) 48 6 ((st 48 6) + 1)))) else none)))
set_option maxRecDepth 20000 in
theorem t_X6_feed (T : Nat) (x0 : Int32) (st : px_S) : px_O (1, 0, 0, px_n T, m_X6_feed) (px_gi T) (f_X6_feed T x0 st) 0 [some (.ref 48), some (.int x0)] [] (HP T st) 0 0 := by
  rw [f_X6_feed]
  refine o_iload_n dX6_feed_0 rfl ?_
  refine o_i2l dX6_feed_1 ?_
  refine o_lconst (v := 0) dX6_feed_2 (by decide) ?_
  refine o_ldc2 (v := 255) dX6_feed_3 cst_X6_131 ?_
  refine h_cSP (as := [.long x0.toInt64, .long 0, .long 255]) (S1 := []) (d' := 0) dX6_feed_6 mf_X6_in ml_X6_97 ms_X6_in rfl (Nat.le_of_ble_eq_true rfl) rfl (Nat.le_of_ble_eq_true rfl) ⟨Nat.zero_le _, Nat.zero_le _⟩ (k_X6_in) ?_
  refine o_ifne (tgt := 15) dX6_feed_9 (by decide) (fun c1 => ?_) (fun c1 => ?_)
  · refine o_aload_n dX6_feed_15 rfl ?_
    refine h_get (v := .int (st 48 6)) dX6_feed_16 q6 fl_X6_133 (by decide) (px_lt (by decide)) (c48 _) rfl ?_
    refine o_sipush (v := 160) dX6_feed_19 (by decide) ?_
    refine o_icmpne (tgt := 28) dX6_feed_22 (by decide) (fun c2 => ?_) (fun c2 => ?_)
    · refine o_aload_n dX6_feed_28 rfl ?_
      refine h_get (v := .ref 51) dX6_feed_29 q6 fl_X6_20 (by decide) (px_lt (by decide)) (c48 _) rfl ?_
      refine o_aload_n dX6_feed_32 rfl ?_
      refine h_get (v := .int (st 48 6)) dX6_feed_33 q6 fl_X6_133 (by decide) (px_lt (by decide)) (c48 _) rfl ?_
      refine o_iload_n dX6_feed_36 rfl ?_
      refine h_iast (n := 160) dX6_feed_37 (px_lt (by decide)) c51 (fun c3 => ?_)
      refine o_aload_n dX6_feed_38 rfl ?_
      refine o_dup dX6_feed_39 rfl ?_
      refine h_get (v := .int (st 48 6)) dX6_feed_40 q6 fl_X6_133 (by decide) (px_lt (by decide)) (c48 _) rfl ?_
      refine o_iconst (v := 1) dX6_feed_43 (by decide) ?_
      refine o_iadd dX6_feed_44 ?_
      refine h_puti dX6_feed_45 q6 fl_X6_133 pf_X6_6 (px_lt (by decide)) (c48 _) (Nat.le_of_ble_eq_true rfl) (s48_6 _ _) ?_
      refine o_aload_n dX6_feed_48 rfl ?_
      refine h_get (v := .int ((st 48 6) + 1)) dX6_feed_49 q6 fl_X6_133 (by decide) (px_lt (by decide)) (c48 _) rfl ?_
      exact o_iret (rt := .int) rfl rfl dX6_feed_52 rfl (Nat.zero_le _) (Nat.zero_le _)
    · refine o_bipush (v := (-4)) dX6_feed_25 (by decide) ?_
      exact o_iret (rt := .int) rfl rfl dX6_feed_27 rfl (Nat.zero_le _) (Nat.zero_le _)
  · refine o_bipush (v := (-2)) dX6_feed_12 (by decide) ?_
    exact o_iret (rt := .int) rfl rfl dX6_feed_14 rfl (Nat.zero_le _) (Nat.zero_le _)
theorem k_X6_feed {T : Nat} {st : px_S} {x0 : Int32} {b : Int32 × px_S} (hf : f_X6_feed T x0 st = some b) : px_K 1 0 0 m_X6_feed [.ref 48, .int x0] (HP T st) ((px_gi T) b).1 ((px_gi T) b).2 := px_KofH hf mf_X6_feed (Nat.le_of_ble_eq_true rfl) rfl (t_X6_feed T x0 st)
/-! ThreeOfThemModel.byteAt(I)I: R, depth 0 -/
def f_X6_byteAt (T : Nat) (st : px_S) (x0 : Int32) : Option (Int32) := (if x0 < (st 48 23) then (if px_in ((st 48 22) + x0) 960 then (some (st 49 ((st 48 22) + x0).toNatClampNeg)) else none) else (some (-1)))
set_option maxRecDepth 20000 in
theorem t_X6_byteAt (T : Nat) (st : px_S) (x0 : Int32) : px_O (0, 0, 0, px_n T, m_X6_byteAt) (px_g0 (HP T st)) (f_X6_byteAt T st x0) 0 [some (.ref 48), some (.int x0)] [] (HP T st) 0 0 := by
  rw [f_X6_byteAt]
  refine o_iload_n dX6_byteAt_0 rfl ?_
  refine o_aload_n dX6_byteAt_1 rfl ?_
  refine h_get (v := .int (st 48 23)) dX6_byteAt_2 q6 fl_X6_136 (by decide) (px_lt (by decide)) (c48 _) rfl ?_
  refine o_icmpge (tgt := 22) dX6_byteAt_5 (by decide) (fun c1 => ?_) (fun c1 => ?_)
  · refine o_iconst (v := (-1)) dX6_byteAt_22 (by decide) ?_
    exact o_iret (rt := .int) rfl rfl dX6_byteAt_23 rfl (Nat.zero_le _) (Nat.zero_le _)
  · refine o_aload_n dX6_byteAt_8 rfl ?_
    refine h_get (v := .ref 49) dX6_byteAt_9 q6 fl_X6_13 (by decide) (px_lt (by decide)) (c48 _) rfl ?_
    refine o_aload_n dX6_byteAt_12 rfl ?_
    refine h_get (v := .int (st 48 22)) dX6_byteAt_13 q6 fl_X6_139 (by decide) (px_lt (by decide)) (c48 _) rfl ?_
    refine o_iload_n dX6_byteAt_16 rfl ?_
    refine o_iadd dX6_byteAt_17 ?_
    refine h_iald (n := 960) dX6_byteAt_18 (px_lt (by decide)) (c49 _) (fun c2 => ?_)
    refine o_goto (tgt := 23) dX6_byteAt_19 (by decide) ?_
    exact o_iret (rt := .int) rfl rfl dX6_byteAt_23 rfl (Nat.zero_le _) (Nat.zero_le _)
theorem k_X6_byteAt_o {T : Nat} {st : px_S} {x0 : Int32} {b : Int32} (hf : f_X6_byteAt T st x0 = some b) : px_K 0 0 0 m_X6_byteAt [.ref 48, .int x0] (HP T st) (some (.int b)) (HP T st) := px_KofH (g := px_g0 (HP T st)) hf mf_X6_byteAt (Nat.le_of_ble_eq_true rfl) rfl (t_X6_byteAt T st x0)
theorem k_X6_byteAt {T : Nat} {st : px_S} {x0 : Int32} {b : Int32} (hf : f_X6_byteAt T st x0 = some b) : px_K 0 0 0 m_X6_byteAt [.ref 48, .int x0] (HP T st) (some (.int b)) (HP T st) := k_X6_byteAt_o hf
/-! ThreeOfThemModel.next()V: S, depth 1 -/
def f_X6_next_300 (T : Nat) (y1 : Int32) (st : px_S) : Option (px_S) := (some (up (up (up st 48 25 3) 48 27 y1) 48 24 ((st 48 24) + 1)))
set_option maxRecDepth 20000 in
theorem t_X6_next_300 (T : Nat) (y1 : Int32) (st : px_S) : px_O (1, 0, 0, px_n T, m_X6_next) (px_gv T) (f_X6_next_300 T y1 st) 300 [some (.ref 48), some (.int y1), none] [] (HP T st) 0 0 := by
  rw [f_X6_next_300]
  refine o_aload_n dX6_next_300 rfl ?_
  refine o_iconst (v := 3) dX6_next_301 (by decide) ?_
  refine h_puti dX6_next_302 q6 fl_X6_152 pf_X6_25 (px_lt (by decide)) (c48 _) (Nat.le_of_ble_eq_true rfl) (s48_25 _ _) ?_
  refine o_aload_n dX6_next_305 rfl ?_
  refine o_iload_n dX6_next_306 rfl ?_
  refine o_i2l dX6_next_307 ?_
  refine h_putl (x := y1) rfl dX6_next_308 q6 fl_X6_163 pf_X6_27 (px_lt (by decide)) (c48 _) (Nat.le_of_ble_eq_true rfl) (s48_27 _ _) ?_
  refine o_aload_n dX6_next_311 rfl ?_
  refine o_dup dX6_next_312 rfl ?_
  refine h_get (v := .int (st 48 24)) dX6_next_313 q6 fl_X6_142 (by decide) (px_lt (by decide)) (c48 _) rfl ?_
  refine o_iconst (v := 1) dX6_next_316 (by decide) ?_
  refine o_iadd dX6_next_317 ?_
  refine h_puti dX6_next_318 q6 fl_X6_142 pf_X6_24 (px_lt (by decide)) (c48 _) (Nat.le_of_ble_eq_true rfl) (s48_24 _ _) ?_
  exact o_vret rfl dX6_next_321 rfl (Nat.zero_le _) (Nat.zero_le _)
def f_X6_next_216 (T : Nat) (k160 : Int32 → px_S → Option (px_S)) (y2 : Int32) (z0 : Int64) (st : px_S) : Option (px_S) := (if z0.toInt32.toInt64 = z0 then (k160 (y2 + 1) (up (up st 48 27 z0.toInt32) 48 24 ((st 48 24) + 1))) else none)
set_option maxRecDepth 20000 in
theorem t_X6_next_216 (T : Nat) (k160 : Int32 → px_S → Option (px_S)) (hk160 : ∀ (y2 : Int32) (st : px_S), px_O (1, 0, 0, px_n T, m_X6_next) (px_gv T) (k160 y2 st) 160 [some (.ref 48), none, some (.int y2)] [] (HP T st) 0 0) (y2 : Int32) (z0 : Int64) (st : px_S) : px_O (1, 0, 0, px_n T, m_X6_next) (px_gv T) (f_X6_next_216 T k160 y2 z0 st) 216 [some (.ref 48), none, some (.int y2)] [.long z0, .ref 48] (HP T st) 0 0 := by
  rw [f_X6_next_216]
  refine o_ite (fun c1 => ?_) (fun _ => o_none)
  refine h_putl (x := z0.toInt32) c1 dX6_next_216 q6 fl_X6_163 pf_X6_27 (px_lt (by decide)) (c48 _) (Nat.le_of_ble_eq_true rfl) (s48_27 _ _) ?_
  refine o_iinc (v := (y2 + 1)) (L' := [some (.ref 48), none, some (.int (y2 + 1))]) dX6_next_219 rfl rfl (Nat.le_of_ble_eq_true rfl) rfl rfl ?_
  refine o_aload_n dX6_next_222 rfl ?_
  refine o_dup dX6_next_223 rfl ?_
  refine h_get (v := .int (st 48 24)) dX6_next_224 q6 fl_X6_142 (by decide) (px_lt (by decide)) (c48 _) rfl ?_
  refine o_iconst (v := 1) dX6_next_227 (by decide) ?_
  refine o_iadd dX6_next_228 ?_
  refine h_puti dX6_next_229 q6 fl_X6_142 pf_X6_24 (px_lt (by decide)) (c48 _) (Nat.le_of_ble_eq_true rfl) (s48_24 _ _) ?_
  refine o_goto (tgt := 160) dX6_next_232 (by decide) ?_
  exact (hk160 (y2 + 1) (up (up st 48 27 z0.toInt32) 48 24 ((st 48 24) + 1)))
def f_X6_next_160 (T : Nat) : Nat → Int32 → px_S → Option (px_S)
  | 0, _, _ => none
  | n + 1, y2, st => ((f_X6_byteAt T st (st 48 24)).bind fun b2 => (if (p_X6_in b2.toInt64 48 57) = 0 then (if 4 < y2 then (some (up st 48 25 4)) else (some (up st 48 25 2))) else (if y2 < 4 then ((f_X6_byteAt T st (st 48 24)).bind fun b6 => (f_X6_next_216 T (f_X6_next_160 T n) y2 (((10 * (st 48 27).toInt64) + b6.toInt64) - 48) st)) else (f_X6_next_216 T (f_X6_next_160 T n) y2 (st 48 27).toInt64 st))))
set_option maxRecDepth 20000 in
theorem t_X6_next_160 (T : Nat) : ∀ (n : Nat) (y2 : Int32) (st : px_S), px_O (1, 0, 0, px_n T, m_X6_next) (px_gv T) (f_X6_next_160 T n y2 st) 160 [some (.ref 48), none, some (.int y2)] [] (HP T st) 0 0 := by
  intro n
  induction n with
  | zero => intro y2 st; rw [f_X6_next_160]; exact o_none
  | succ n ih =>
    intro y2 st
    rw [f_X6_next_160]
    refine o_aload_n dX6_next_160 rfl ?_
    refine o_aload_n dX6_next_161 rfl ?_
    refine h_get (v := .int (st 48 24)) dX6_next_162 q6 fl_X6_142 (by decide) (px_lt (by decide)) (c48 _) rfl ?_
    refine h_cV0 (as := [.int (st 48 24)]) (S1 := []) (d' := 0) dX6_next_165 mf_X6_byteAt ml_X6_145 mv_X6_byteAt q6 rfl (hp_at (px_lt (by decide)) (c48 _)) rfl (Nat.le_of_ble_eq_true rfl) rfl (Nat.le_of_ble_eq_true rfl) ⟨Nat.zero_le _, Nat.zero_le _⟩ (fun b hb => k_X6_byteAt hb) (fun b2 hb2 => ?_)
    refine o_i2l dX6_next_168 ?_
    refine o_ldc2 (v := 48) dX6_next_169 cst_X6_159 ?_
    refine o_ldc2 (v := 57) dX6_next_172 cst_X6_161 ?_
    refine h_cSP (as := [.long b2.toInt64, .long 48, .long 57]) (S1 := []) (d' := 0) dX6_next_175 mf_X6_in ml_X6_97 ms_X6_in rfl (Nat.le_of_ble_eq_true rfl) rfl (Nat.le_of_ble_eq_true rfl) ⟨Nat.zero_le _, Nat.zero_le _⟩ (k_X6_in) ?_
    refine o_ifeq (tgt := 235) dX6_next_178 (by decide) (fun c3 => ?_) (fun c3 => ?_)
    · refine o_aload_n dX6_next_235 rfl ?_
      refine o_iload_n dX6_next_236 rfl ?_
      refine o_iconst (v := 4) dX6_next_237 (by decide) ?_
      refine o_icmple (tgt := 245) dX6_next_238 (by decide) (fun c4 => ?_) (fun c4 => ?_)
      · refine o_iconst (v := 2) dX6_next_245 (by decide) ?_
        refine h_puti dX6_next_246 q6 fl_X6_152 pf_X6_25 (px_lt (by decide)) (c48 _) (Nat.le_of_ble_eq_true rfl) (s48_25 _ _) ?_
        refine o_goto (tgt := 321) dX6_next_249 (by decide) ?_
        exact o_vret rfl dX6_next_321 rfl (Nat.zero_le _) (Nat.zero_le _)
      · refine o_iconst (v := 4) dX6_next_241 (by decide) ?_
        refine o_goto (tgt := 246) dX6_next_242 (by decide) ?_
        refine h_puti dX6_next_246 q6 fl_X6_152 pf_X6_25 (px_lt (by decide)) (c48 _) (Nat.le_of_ble_eq_true rfl) (s48_25 _ _) ?_
        refine o_goto (tgt := 321) dX6_next_249 (by decide) ?_
        exact o_vret rfl dX6_next_321 rfl (Nat.zero_le _) (Nat.zero_le _)
    · refine o_aload_n dX6_next_181 rfl ?_
      refine o_iload_n dX6_next_182 rfl ?_
      refine o_iconst (v := 4) dX6_next_183 (by decide) ?_
      refine o_icmpge (tgt := 212) dX6_next_184 (by decide) (fun c5 => ?_) (fun c5 => ?_)
      · refine o_aload_n dX6_next_212 rfl ?_
        refine h_get (v := .long (st 48 27).toInt64) dX6_next_213 q6 fl_X6_163 (by decide) (px_lt (by decide)) (c48 _) rfl ?_
        exact (t_X6_next_216 T (f_X6_next_160 T n) ih y2 (st 48 27).toInt64 st)
      · refine o_ldc2 (v := 10) dX6_next_187 cst_X6_167 ?_
        refine o_aload_n dX6_next_190 rfl ?_
        refine h_get (v := .long (st 48 27).toInt64) dX6_next_191 q6 fl_X6_163 (by decide) (px_lt (by decide)) (c48 _) rfl ?_
        refine o_lmul dX6_next_194 ?_
        refine o_aload_n dX6_next_195 rfl ?_
        refine o_aload_n dX6_next_196 rfl ?_
        refine h_get (v := .int (st 48 24)) dX6_next_197 q6 fl_X6_142 (by decide) (px_lt (by decide)) (c48 _) rfl ?_
        refine h_cV0 (as := [.int (st 48 24)]) (S1 := [.long (10 * (st 48 27).toInt64), .ref 48]) (d' := 0) dX6_next_200 mf_X6_byteAt ml_X6_145 mv_X6_byteAt q6 rfl (hp_at (px_lt (by decide)) (c48 _)) rfl (Nat.le_of_ble_eq_true rfl) rfl (Nat.le_of_ble_eq_true rfl) ⟨Nat.zero_le _, Nat.zero_le _⟩ (fun b hb => k_X6_byteAt hb) (fun b6 hb6 => ?_)
        refine o_i2l dX6_next_203 ?_
        refine o_ladd dX6_next_204 ?_
        refine o_ldc2 (v := 48) dX6_next_205 cst_X6_159 ?_
        refine o_lsub dX6_next_208 ?_
        refine o_goto (tgt := 216) dX6_next_209 (by decide) ?_
        exact (t_X6_next_216 T (f_X6_next_160 T n) ih y2 (((10 * (st 48 27).toInt64) + b6.toInt64) - 48) st)
def f_X6_next_100 (T : Nat) : Nat → px_S → Option (px_S)
  | 0, _ => none
  | n + 1, st => ((f_X6_byteAt T st (st 48 24)).bind fun b7 => (if (p_X6_in b7.toInt64 97 122) = 0 then (some st) else ((f_X6_next_100 T n)  (up st 48 24 ((st 48 24) + 1)))))
set_option maxRecDepth 20000 in
theorem t_X6_next_100 (T : Nat) : ∀ (n : Nat) (st : px_S), px_O (1, 0, 0, px_n T, m_X6_next) (px_gv T) (f_X6_next_100 T n st) 100 [some (.ref 48), none, none] [] (HP T st) 0 0 := by
  intro n
  induction n with
  | zero => intro st; rw [f_X6_next_100]; exact o_none
  | succ n ih =>
    intro st
    rw [f_X6_next_100]
    refine o_aload_n dX6_next_100 rfl ?_
    refine o_aload_n dX6_next_101 rfl ?_
    refine h_get (v := .int (st 48 24)) dX6_next_102 q6 fl_X6_142 (by decide) (px_lt (by decide)) (c48 _) rfl ?_
    refine h_cV0 (as := [.int (st 48 24)]) (S1 := []) (d' := 0) dX6_next_105 mf_X6_byteAt ml_X6_145 mv_X6_byteAt q6 rfl (hp_at (px_lt (by decide)) (c48 _)) rfl (Nat.le_of_ble_eq_true rfl) rfl (Nat.le_of_ble_eq_true rfl) ⟨Nat.zero_le _, Nat.zero_le _⟩ (fun b hb => k_X6_byteAt hb) (fun b7 hb7 => ?_)
    refine o_i2l dX6_next_108 ?_
    refine o_ldc2 (v := 97) dX6_next_109 cst_X6_155 ?_
    refine o_ldc2 (v := 122) dX6_next_112 cst_X6_157 ?_
    refine h_cSP (as := [.long b7.toInt64, .long 97, .long 122]) (S1 := []) (d' := 0) dX6_next_115 mf_X6_in ml_X6_97 ms_X6_in rfl (Nat.le_of_ble_eq_true rfl) rfl (Nat.le_of_ble_eq_true rfl) ⟨Nat.zero_le _, Nat.zero_le _⟩ (k_X6_in) ?_
    refine o_ifeq (tgt := 321) dX6_next_118 (by decide) (fun c8 => ?_) (fun c8 => ?_)
    · exact o_vret rfl dX6_next_321 rfl (Nat.zero_le _) (Nat.zero_le _)
    · refine o_aload_n dX6_next_121 rfl ?_
      refine o_dup dX6_next_122 rfl ?_
      refine h_get (v := .int (st 48 24)) dX6_next_123 q6 fl_X6_142 (by decide) (px_lt (by decide)) (c48 _) rfl ?_
      refine o_iconst (v := 1) dX6_next_126 (by decide) ?_
      refine o_iadd dX6_next_127 ?_
      refine h_puti dX6_next_128 q6 fl_X6_142 pf_X6_24 (px_lt (by decide)) (c48 _) (Nat.le_of_ble_eq_true rfl) (s48_24 _ _) ?_
      refine o_goto (tgt := 100) dX6_next_131 (by decide) ?_
      exact (ih  (up st 48 24 ((st 48 24) + 1)))
def f_X6_next_0 (T : Nat) : Nat → px_S → Option (px_S)
  | 0, _ => none
  | n + 1, st => ((f_X6_byteAt T st (st 48 24)).bind fun b9 => (if b9 = 32 then ((f_X6_next_0 T n)  (up st 48 24 ((st 48 24) + 1))) else ((f_X6_byteAt T st (st 48 24)).bind fun b11 => (if b11 = 10 then ((f_X6_next_0 T n)  (up st 48 24 ((st 48 24) + 1))) else ((f_X6_byteAt T (up st 48 26 (st 48 24)) (st 48 24)).bind fun b13 => (if b13 < 0 then (some (up (up (up (up st 48 26 (st 48 24)) 48 25 4) 48 25 0) 48 26 (st 48 23))) else (if (p_X6_in b13.toInt64 97 122) = 0 then (if (p_X6_in b13.toInt64 48 57) = 0 then (if b13 = 40 then (f_X6_next_300 T b13 (up (up st 48 26 (st 48 24)) 48 25 4)) else (if b13 = 41 then (f_X6_next_300 T b13 (up (up st 48 26 (st 48 24)) 48 25 4)) else (if b13 = 59 then (f_X6_next_300 T b13 (up (up st 48 26 (st 48 24)) 48 25 4)) else (if b13 = 43 then (f_X6_next_300 T b13 (up (up st 48 26 (st 48 24)) 48 25 4)) else (if b13 = 45 then (f_X6_next_300 T b13 (up (up st 48 26 (st 48 24)) 48 25 4)) else (if b13 = 42 then (f_X6_next_300 T b13 (up (up st 48 26 (st 48 24)) 48 25 4)) else (if b13 = 60 then (f_X6_next_300 T b13 (up (up st 48 26 (st 48 24)) 48 25 4)) else (if b13 = 61 then (f_X6_next_300 T b13 (up (up st 48 26 (st 48 24)) 48 25 4)) else (some (up (up st 48 26 (st 48 24)) 48 25 4)))))))))) else (f_X6_next_160 T 1000 0 (up (up (up (up st 48 26 (st 48 24)) 48 25 4) 48 25 2) 48 27 0))) else (f_X6_next_100 T 1000  (up (up (up st 48 26 (st 48 24)) 48 25 4) 48 25 1)))))))))
set_option maxRecDepth 20000 in
theorem t_X6_next_0 (T : Nat) : ∀ (n : Nat) (st : px_S), px_O (1, 0, 0, px_n T, m_X6_next) (px_gv T) (f_X6_next_0 T n st) 0 [some (.ref 48), none, none] [] (HP T st) 0 0 := by
  intro n
  induction n with
  | zero => intro st; rw [f_X6_next_0]; exact o_none
  | succ n ih =>
    intro st
    rw [f_X6_next_0]
    refine o_aload_n dX6_next_0 rfl ?_
    refine o_aload_n dX6_next_1 rfl ?_
    refine h_get (v := .int (st 48 24)) dX6_next_2 q6 fl_X6_142 (by decide) (px_lt (by decide)) (c48 _) rfl ?_
    refine h_cV0 (as := [.int (st 48 24)]) (S1 := []) (d' := 0) dX6_next_5 mf_X6_byteAt ml_X6_145 mv_X6_byteAt q6 rfl (hp_at (px_lt (by decide)) (c48 _)) rfl (Nat.le_of_ble_eq_true rfl) rfl (Nat.le_of_ble_eq_true rfl) ⟨Nat.zero_le _, Nat.zero_le _⟩ (fun b hb => k_X6_byteAt hb) (fun b9 hb9 => ?_)
    refine o_bipush (v := 32) dX6_next_8 (by decide) ?_
    refine o_icmpeq (tgt := 26) dX6_next_10 (by decide) (fun c10 => ?_) (fun c10 => ?_)
    · refine o_aload_n dX6_next_26 rfl ?_
      refine o_dup dX6_next_27 rfl ?_
      refine h_get (v := .int (st 48 24)) dX6_next_28 q6 fl_X6_142 (by decide) (px_lt (by decide)) (c48 _) rfl ?_
      refine o_iconst (v := 1) dX6_next_31 (by decide) ?_
      refine o_iadd dX6_next_32 ?_
      refine h_puti dX6_next_33 q6 fl_X6_142 pf_X6_24 (px_lt (by decide)) (c48 _) (Nat.le_of_ble_eq_true rfl) (s48_24 _ _) ?_
      refine o_goto (tgt := 0) dX6_next_36 (by decide) ?_
      exact (ih  (up st 48 24 ((st 48 24) + 1)))
    · refine o_aload_n dX6_next_13 rfl ?_
      refine o_aload_n dX6_next_14 rfl ?_
      refine h_get (v := .int (st 48 24)) dX6_next_15 q6 fl_X6_142 (by decide) (px_lt (by decide)) (c48 _) rfl ?_
      refine h_cV0 (as := [.int (st 48 24)]) (S1 := []) (d' := 0) dX6_next_18 mf_X6_byteAt ml_X6_145 mv_X6_byteAt q6 rfl (hp_at (px_lt (by decide)) (c48 _)) rfl (Nat.le_of_ble_eq_true rfl) rfl (Nat.le_of_ble_eq_true rfl) ⟨Nat.zero_le _, Nat.zero_le _⟩ (fun b hb => k_X6_byteAt hb) (fun b11 hb11 => ?_)
      refine o_bipush (v := 10) dX6_next_21 (by decide) ?_
      refine o_icmpne (tgt := 39) dX6_next_23 (by decide) (fun c12 => ?_) (fun c12 => ?_)
      · refine o_aload_n dX6_next_39 rfl ?_
        refine o_aload_n dX6_next_40 rfl ?_
        refine h_get (v := .int (st 48 24)) dX6_next_41 q6 fl_X6_142 (by decide) (px_lt (by decide)) (c48 _) rfl ?_
        refine h_puti dX6_next_44 q6 fl_X6_149 pf_X6_26 (px_lt (by decide)) (c48 _) (Nat.le_of_ble_eq_true rfl) (s48_26 _ _) ?_
        refine o_aload_n dX6_next_47 rfl ?_
        refine o_aload_n dX6_next_48 rfl ?_
        refine h_get (v := .int (st 48 24)) dX6_next_49 q6 fl_X6_142 (by decide) (px_lt (by decide)) (c48 _) rfl ?_
        refine h_cV0 (as := [.int (st 48 24)]) (S1 := []) (d' := 0) dX6_next_52 mf_X6_byteAt ml_X6_145 mv_X6_byteAt q6 rfl (hp_at (px_lt (by decide)) (c48 _)) rfl (Nat.le_of_ble_eq_true rfl) rfl (Nat.le_of_ble_eq_true rfl) ⟨Nat.zero_le _, Nat.zero_le _⟩ (fun b hb => k_X6_byteAt hb) (fun b13 hb13 => ?_)
        refine o_istore_n (L' := [some (.ref 48), some (.int b13), none]) dX6_next_55 (Nat.le_of_ble_eq_true rfl) rfl rfl ?_
        refine o_aload_n dX6_next_56 rfl ?_
        refine o_iconst (v := 4) dX6_next_57 (by decide) ?_
        refine h_puti dX6_next_58 q6 fl_X6_152 pf_X6_25 (px_lt (by decide)) (c48 _) (Nat.le_of_ble_eq_true rfl) (s48_25 _ _) ?_
        refine o_iload_n dX6_next_61 rfl ?_
        refine o_ifge (tgt := 81) dX6_next_62 (by decide) (fun c14 => ?_) (fun c14 => ?_)
        · refine o_iload_n dX6_next_81 rfl ?_
          refine o_i2l dX6_next_82 ?_
          refine o_ldc2 (v := 97) dX6_next_83 cst_X6_155 ?_
          refine o_ldc2 (v := 122) dX6_next_86 cst_X6_157 ?_
          refine h_cSP (as := [.long b13.toInt64, .long 97, .long 122]) (S1 := []) (d' := 0) dX6_next_89 mf_X6_in ml_X6_97 ms_X6_in rfl (Nat.le_of_ble_eq_true rfl) rfl (Nat.le_of_ble_eq_true rfl) ⟨Nat.zero_le _, Nat.zero_le _⟩ (k_X6_in) ?_
          refine o_ifeq (tgt := 134) dX6_next_92 (by decide) (fun c15 => ?_) (fun c15 => ?_)
          · refine o_iload_n dX6_next_134 rfl ?_
            refine o_i2l dX6_next_135 ?_
            refine o_ldc2 (v := 48) dX6_next_136 cst_X6_159 ?_
            refine o_ldc2 (v := 57) dX6_next_139 cst_X6_161 ?_
            refine h_cSP (as := [.long b13.toInt64, .long 48, .long 57]) (S1 := []) (d' := 0) dX6_next_142 mf_X6_in ml_X6_97 ms_X6_in rfl (Nat.le_of_ble_eq_true rfl) rfl (Nat.le_of_ble_eq_true rfl) ⟨Nat.zero_le _, Nat.zero_le _⟩ (k_X6_in) ?_
            refine o_ifeq (tgt := 252) dX6_next_145 (by decide) (fun c16 => ?_) (fun c16 => ?_)
            · refine o_iload_n dX6_next_252 rfl ?_
              refine o_bipush (v := 40) dX6_next_253 (by decide) ?_
              refine o_icmpeq (tgt := 300) dX6_next_255 (by decide) (fun c17 => ?_) (fun c17 => ?_)
              · exact (t_X6_next_300 T b13 (up (up st 48 26 (st 48 24)) 48 25 4))
              · refine o_iload_n dX6_next_258 rfl ?_
                refine o_bipush (v := 41) dX6_next_259 (by decide) ?_
                refine o_icmpeq (tgt := 300) dX6_next_261 (by decide) (fun c18 => ?_) (fun c18 => ?_)
                · exact (t_X6_next_300 T b13 (up (up st 48 26 (st 48 24)) 48 25 4))
                · refine o_iload_n dX6_next_264 rfl ?_
                  refine o_bipush (v := 59) dX6_next_265 (by decide) ?_
                  refine o_icmpeq (tgt := 300) dX6_next_267 (by decide) (fun c19 => ?_) (fun c19 => ?_)
                  · exact (t_X6_next_300 T b13 (up (up st 48 26 (st 48 24)) 48 25 4))
                  · refine o_iload_n dX6_next_270 rfl ?_
                    refine o_bipush (v := 43) dX6_next_271 (by decide) ?_
                    refine o_icmpeq (tgt := 300) dX6_next_273 (by decide) (fun c20 => ?_) (fun c20 => ?_)
                    · exact (t_X6_next_300 T b13 (up (up st 48 26 (st 48 24)) 48 25 4))
                    · refine o_iload_n dX6_next_276 rfl ?_
                      refine o_bipush (v := 45) dX6_next_277 (by decide) ?_
                      refine o_icmpeq (tgt := 300) dX6_next_279 (by decide) (fun c21 => ?_) (fun c21 => ?_)
                      · exact (t_X6_next_300 T b13 (up (up st 48 26 (st 48 24)) 48 25 4))
                      · refine o_iload_n dX6_next_282 rfl ?_
                        refine o_bipush (v := 42) dX6_next_283 (by decide) ?_
                        refine o_icmpeq (tgt := 300) dX6_next_285 (by decide) (fun c22 => ?_) (fun c22 => ?_)
                        · exact (t_X6_next_300 T b13 (up (up st 48 26 (st 48 24)) 48 25 4))
                        · refine o_iload_n dX6_next_288 rfl ?_
                          refine o_bipush (v := 60) dX6_next_289 (by decide) ?_
                          refine o_icmpeq (tgt := 300) dX6_next_291 (by decide) (fun c23 => ?_) (fun c23 => ?_)
                          · exact (t_X6_next_300 T b13 (up (up st 48 26 (st 48 24)) 48 25 4))
                          · refine o_iload_n dX6_next_294 rfl ?_
                            refine o_bipush (v := 61) dX6_next_295 (by decide) ?_
                            refine o_icmpne (tgt := 321) dX6_next_297 (by decide) (fun c24 => ?_) (fun c24 => ?_)
                            · exact o_vret rfl dX6_next_321 rfl (Nat.zero_le _) (Nat.zero_le _)
                            · exact (t_X6_next_300 T b13 (up (up st 48 26 (st 48 24)) 48 25 4))
            · refine o_aload_n dX6_next_148 rfl ?_
              refine o_iconst (v := 2) dX6_next_149 (by decide) ?_
              refine h_puti dX6_next_150 q6 fl_X6_152 pf_X6_25 (px_lt (by decide)) (c48 _) (Nat.le_of_ble_eq_true rfl) (s48_25 _ _) ?_
              refine o_aload_n dX6_next_153 rfl ?_
              refine o_lconst (v := 0) dX6_next_154 (by decide) ?_
              refine h_putl (x := 0) (by decide) dX6_next_155 q6 fl_X6_163 pf_X6_27 (px_lt (by decide)) (c48 _) (Nat.le_of_ble_eq_true rfl) (s48_27 _ _) ?_
              refine o_iconst (v := 0) dX6_next_158 (by decide) ?_
              refine o_istore_n (L' := [some (.ref 48), some (.int b13), some (.int 0)]) dX6_next_159 (Nat.le_of_ble_eq_true rfl) rfl rfl ?_
              exact o_weak (L' := [some (.ref 48), none, some (.int 0)]) ⟨rfl, ⟨rfl, trivial⟩⟩ (t_X6_next_160 T 1000 0 (up (up (up (up st 48 26 (st 48 24)) 48 25 4) 48 25 2) 48 27 0))
          · refine o_aload_n dX6_next_95 rfl ?_
            refine o_iconst (v := 1) dX6_next_96 (by decide) ?_
            refine h_puti dX6_next_97 q6 fl_X6_152 pf_X6_25 (px_lt (by decide)) (c48 _) (Nat.le_of_ble_eq_true rfl) (s48_25 _ _) ?_
            exact o_weak (L' := [some (.ref 48), none, none]) ⟨rfl, trivial⟩ (t_X6_next_100 T 1000  (up (up (up st 48 26 (st 48 24)) 48 25 4) 48 25 1))
        · refine o_aload_n dX6_next_65 rfl ?_
          refine o_iconst (v := 0) dX6_next_66 (by decide) ?_
          refine h_puti dX6_next_67 q6 fl_X6_152 pf_X6_25 (px_lt (by decide)) (c48 _) (Nat.le_of_ble_eq_true rfl) (s48_25 _ _) ?_
          refine o_aload_n dX6_next_70 rfl ?_
          refine o_aload_n dX6_next_71 rfl ?_
          refine h_get (v := .int (st 48 23)) dX6_next_72 q6 fl_X6_136 (by decide) (px_lt (by decide)) (c48 _) rfl ?_
          refine h_puti dX6_next_75 q6 fl_X6_149 pf_X6_26 (px_lt (by decide)) (c48 _) (Nat.le_of_ble_eq_true rfl) (s48_26 _ _) ?_
          refine o_goto (tgt := 321) dX6_next_78 (by decide) ?_
          exact o_vret rfl dX6_next_321 rfl (Nat.zero_le _) (Nat.zero_le _)
      · refine o_aload_n dX6_next_26 rfl ?_
        refine o_dup dX6_next_27 rfl ?_
        refine h_get (v := .int (st 48 24)) dX6_next_28 q6 fl_X6_142 (by decide) (px_lt (by decide)) (c48 _) rfl ?_
        refine o_iconst (v := 1) dX6_next_31 (by decide) ?_
        refine o_iadd dX6_next_32 ?_
        refine h_puti dX6_next_33 q6 fl_X6_142 pf_X6_24 (px_lt (by decide)) (c48 _) (Nat.le_of_ble_eq_true rfl) (s48_24 _ _) ?_
        refine o_goto (tgt := 0) dX6_next_36 (by decide) ?_
        exact (ih  (up st 48 24 ((st 48 24) + 1)))
def f_X6_next (T : Nat) (st : px_S) : Option (px_S) := (f_X6_next_0 T 1000  st)
set_option maxRecDepth 20000 in
theorem t_X6_next (T : Nat) (st : px_S) : px_O (1, 0, 0, px_n T, m_X6_next) (px_gv T) (f_X6_next T st) 0 [some (.ref 48), none, none] [] (HP T st) 0 0 := by
  rw [f_X6_next]
  exact (t_X6_next_0 T 1000  st)
theorem k_X6_next {T : Nat} {st : px_S} {b : px_S} (hf : f_X6_next T st = some b) : px_K 1 0 0 m_X6_next [.ref 48] (HP T st) ((px_gv T) b).1 ((px_gv T) b).2 := px_KofH hf mf_X6_next (Nat.le_of_ble_eq_true rfl) rfl (t_X6_next T st)
/-! ThreeOfThemModel.fail()V: S, depth 0 -/
def f_X6_fail (T : Nat) (st : px_S) : Option (px_S) := (if (st 48 29) = 0 then (some (up (up st 48 29 1) 48 30 (st 48 26))) else (some st))
set_option maxRecDepth 20000 in
theorem t_X6_fail (T : Nat) (st : px_S) : px_O (0, 0, 0, px_n T, m_X6_fail) (px_gv T) (f_X6_fail T st) 0 [some (.ref 48)] [] (HP T st) 0 0 := by
  rw [f_X6_fail]
  refine o_aload_n dX6_fail_0 rfl ?_
  refine h_get (v := .int (st 48 29)) dX6_fail_1 q6 fl_X6_169 (by decide) (px_lt (by decide)) (c48 _) rfl ?_
  refine o_ifne (tgt := 20) dX6_fail_4 (by decide) (fun c1 => ?_) (fun c1 => ?_)
  · exact o_vret rfl dX6_fail_20 rfl (Nat.zero_le _) (Nat.zero_le _)
  · refine o_aload_n dX6_fail_7 rfl ?_
    refine o_iconst (v := 1) dX6_fail_8 (by decide) ?_
    refine h_putz dX6_fail_9 q6 fl_X6_169 pf_X6_29 (Or.inr rfl) (px_lt (by decide)) (c48 _) (Nat.le_of_ble_eq_true rfl) (s48_29 _ _) ?_
    refine o_aload_n dX6_fail_12 rfl ?_
    refine o_aload_n dX6_fail_13 rfl ?_
    refine h_get (v := .int (st 48 26)) dX6_fail_14 q6 fl_X6_149 (by decide) (px_lt (by decide)) (c48 _) rfl ?_
    refine h_puti dX6_fail_17 q6 fl_X6_173 pf_X6_30 (px_lt (by decide)) (c48 _) (Nat.le_of_ble_eq_true rfl) (s48_30 _ _) ?_
    exact o_vret rfl dX6_fail_20 rfl (Nat.zero_le _) (Nat.zero_le _)
theorem k_X6_fail {T : Nat} {st : px_S} {b : px_S} (hf : f_X6_fail T st = some b) : px_K 0 0 0 m_X6_fail [.ref 48] (HP T st) ((px_gv T) b).1 ((px_gv T) b).2 := px_KofH hf mf_X6_fail (Nat.le_of_ble_eq_true rfl) rfl (t_X6_fail T st)
/-! ThreeOfThemModel.isLetter(II)Z: R, depth 1 -/
def f_X6_isLetter (T : Nat) (st : px_S) (x0 : Int32) (x1 : Int32) : Option (Int32) := (if ((st 48 26) + x0) < (st 48 24) then ((f_X6_byteAt T st ((st 48 26) + x0)).bind fun b3 => (if b3 = x1 then (some 1) else (some 0))) else (if x1 = 0 then (some 1) else (some 0)))
set_option maxRecDepth 20000 in
theorem t_X6_isLetter (T : Nat) (st : px_S) (x0 : Int32) (x1 : Int32) : px_O (1, 0, 0, px_n T, m_X6_isLetter) (px_g0 (HP T st)) (f_X6_isLetter T st x0 x1) 0 [some (.ref 48), some (.int x0), some (.int x1)] [] (HP T st) 0 0 := by
  rw [f_X6_isLetter]
  refine o_aload_n dX6_isLetter_0 rfl ?_
  refine h_get (v := .int (st 48 26)) dX6_isLetter_1 q6 fl_X6_149 (by decide) (px_lt (by decide)) (c48 _) rfl ?_
  refine o_iload_n dX6_isLetter_4 rfl ?_
  refine o_iadd dX6_isLetter_5 ?_
  refine o_aload_n dX6_isLetter_6 rfl ?_
  refine h_get (v := .int (st 48 24)) dX6_isLetter_7 q6 fl_X6_142 (by decide) (px_lt (by decide)) (c48 _) rfl ?_
  refine o_icmpge (tgt := 35) dX6_isLetter_10 (by decide) (fun c1 => ?_) (fun c1 => ?_)
  · refine o_iload_n dX6_isLetter_35 rfl ?_
    refine o_ifne (tgt := 43) dX6_isLetter_36 (by decide) (fun c2 => ?_) (fun c2 => ?_)
    · refine o_iconst (v := 0) dX6_isLetter_43 (by decide) ?_
      exact o_iret (rt := .boolean) rfl rfl dX6_isLetter_44 rfl (Nat.zero_le _) (Nat.zero_le _)
    · refine o_iconst (v := 1) dX6_isLetter_39 (by decide) ?_
      refine o_goto (tgt := 44) dX6_isLetter_40 (by decide) ?_
      exact o_iret (rt := .boolean) rfl rfl dX6_isLetter_44 rfl (Nat.zero_le _) (Nat.zero_le _)
  · refine o_aload_n dX6_isLetter_13 rfl ?_
    refine o_aload_n dX6_isLetter_14 rfl ?_
    refine h_get (v := .int (st 48 26)) dX6_isLetter_15 q6 fl_X6_149 (by decide) (px_lt (by decide)) (c48 _) rfl ?_
    refine o_iload_n dX6_isLetter_18 rfl ?_
    refine o_iadd dX6_isLetter_19 ?_
    refine h_cV0 (as := [.int ((st 48 26) + x0)]) (S1 := []) (d' := 0) dX6_isLetter_20 mf_X6_byteAt ml_X6_145 mv_X6_byteAt q6 rfl (hp_at (px_lt (by decide)) (c48 _)) rfl (Nat.le_of_ble_eq_true rfl) rfl (Nat.le_of_ble_eq_true rfl) ⟨Nat.zero_le _, Nat.zero_le _⟩ (fun b hb => k_X6_byteAt hb) (fun b3 hb3 => ?_)
    refine o_iload_n dX6_isLetter_23 rfl ?_
    refine o_icmpne (tgt := 31) dX6_isLetter_24 (by decide) (fun c4 => ?_) (fun c4 => ?_)
    · refine o_iconst (v := 0) dX6_isLetter_31 (by decide) ?_
      refine o_goto (tgt := 44) dX6_isLetter_32 (by decide) ?_
      exact o_iret (rt := .boolean) rfl rfl dX6_isLetter_44 rfl (Nat.zero_le _) (Nat.zero_le _)
    · refine o_iconst (v := 1) dX6_isLetter_27 (by decide) ?_
      refine o_goto (tgt := 44) dX6_isLetter_28 (by decide) ?_
      exact o_iret (rt := .boolean) rfl rfl dX6_isLetter_44 rfl (Nat.zero_le _) (Nat.zero_le _)
theorem k_X6_isLetter_o {T : Nat} {st : px_S} {x0 : Int32} {x1 : Int32} {b : Int32} (hf : f_X6_isLetter T st x0 x1 = some b) : px_K 1 0 0 m_X6_isLetter [.ref 48, .int x0, .int x1] (HP T st) (some (.int b)) (HP T st) := px_KofH (g := px_g0 (HP T st)) hf mf_X6_isLetter (Nat.le_of_ble_eq_true rfl) rfl (t_X6_isLetter T st x0 x1)
theorem k_X6_isLetter {T : Nat} {st : px_S} {x0 : Int32} {x1 : Int32} {b : Int32} (hf : f_X6_isLetter T st x0 x1 = some b) : px_K 1 0 0 m_X6_isLetter [.ref 48, .int x0, .int x1] (HP T st) (some (.int b)) (HP T st) := k_X6_isLetter_o hf
/-! ThreeOfThemModel.isWord(IIIIIIII)Z: R, depth 2 -/
def f_X6_isWord (T : Nat) (st : px_S) (x0 : Int32) (x1 : Int32) (x2 : Int32) (x3 : Int32) (x4 : Int32) (x5 : Int32) (x6 : Int32) (x7 : Int32) : Option (Int32) := (if (st 48 29) = 0 then (if (st 48 25) = 1 then (if ((st 48 26) + 8) < (st 48 24) then (some 0) else ((f_X6_isLetter T st 0 x0).bind fun b4 => (if b4 = 0 then (some 0) else ((f_X6_isLetter T st 1 x1).bind fun b6 => (if b6 = 0 then (some 0) else ((f_X6_isLetter T st 2 x2).bind fun b8 => (if b8 = 0 then (some 0) else ((f_X6_isLetter T st 3 x3).bind fun b10 => (if b10 = 0 then (some 0) else ((f_X6_isLetter T st 4 x4).bind fun b12 => (if b12 = 0 then (some 0) else ((f_X6_isLetter T st 5 x5).bind fun b14 => (if b14 = 0 then (some 0) else ((f_X6_isLetter T st 6 x6).bind fun b16 => (if b16 = 0 then (some 0) else ((f_X6_isLetter T st 7 x7).bind fun b18 => (if b18 = 0 then (some 0) else (some 1)))))))))))))))))) else (some 0)) else (some 0))
set_option maxRecDepth 20000 in
theorem t_X6_isWord (T : Nat) (st : px_S) (x0 : Int32) (x1 : Int32) (x2 : Int32) (x3 : Int32) (x4 : Int32) (x5 : Int32) (x6 : Int32) (x7 : Int32) : px_O (2, 0, 0, px_n T, m_X6_isWord) (px_g0 (HP T st)) (f_X6_isWord T st x0 x1 x2 x3 x4 x5 x6 x7) 0 [some (.ref 48), some (.int x0), some (.int x1), some (.int x2), some (.int x3), some (.int x4), some (.int x5), some (.int x6), some (.int x7)] [] (HP T st) 0 0 := by
  rw [f_X6_isWord]
  refine o_aload_n dX6_isWord_0 rfl ?_
  refine h_get (v := .int (st 48 29)) dX6_isWord_1 q6 fl_X6_169 (by decide) (px_lt (by decide)) (c48 _) rfl ?_
  refine o_ifne (tgt := 112) dX6_isWord_4 (by decide) (fun c1 => ?_) (fun c1 => ?_)
  · refine o_iconst (v := 0) dX6_isWord_112 (by decide) ?_
    exact o_iret (rt := .boolean) rfl rfl dX6_isWord_113 rfl (Nat.zero_le _) (Nat.zero_le _)
  · refine o_aload_n dX6_isWord_7 rfl ?_
    refine h_get (v := .int (st 48 25)) dX6_isWord_8 q6 fl_X6_152 (by decide) (px_lt (by decide)) (c48 _) rfl ?_
    refine o_iconst (v := 1) dX6_isWord_11 (by decide) ?_
    refine o_icmpne (tgt := 112) dX6_isWord_12 (by decide) (fun c2 => ?_) (fun c2 => ?_)
    · refine o_iconst (v := 0) dX6_isWord_112 (by decide) ?_
      exact o_iret (rt := .boolean) rfl rfl dX6_isWord_113 rfl (Nat.zero_le _) (Nat.zero_le _)
    · refine o_aload_n dX6_isWord_15 rfl ?_
      refine h_get (v := .int (st 48 24)) dX6_isWord_16 q6 fl_X6_142 (by decide) (px_lt (by decide)) (c48 _) rfl ?_
      refine o_aload_n dX6_isWord_19 rfl ?_
      refine h_get (v := .int (st 48 26)) dX6_isWord_20 q6 fl_X6_149 (by decide) (px_lt (by decide)) (c48 _) rfl ?_
      refine o_bipush (v := 8) dX6_isWord_23 (by decide) ?_
      refine o_iadd dX6_isWord_25 ?_
      refine o_icmpgt (tgt := 112) dX6_isWord_26 (by decide) (fun c3 => ?_) (fun c3 => ?_)
      · refine o_iconst (v := 0) dX6_isWord_112 (by decide) ?_
        exact o_iret (rt := .boolean) rfl rfl dX6_isWord_113 rfl (Nat.zero_le _) (Nat.zero_le _)
      · refine o_aload_n dX6_isWord_29 rfl ?_
        refine o_iconst (v := 0) dX6_isWord_30 (by decide) ?_
        refine o_iload_n dX6_isWord_31 rfl ?_
        refine h_cV0 (as := [.int 0, .int x0]) (S1 := []) (d' := 1) dX6_isWord_32 mf_X6_isLetter ml_X6_176 mv_X6_isLetter q6 rfl (hp_at (px_lt (by decide)) (c48 _)) rfl (Nat.le_of_ble_eq_true rfl) rfl (Nat.le_of_ble_eq_true rfl) ⟨Nat.zero_le _, Nat.zero_le _⟩ (fun b hb => k_X6_isLetter hb) (fun b4 hb4 => ?_)
        refine o_ifeq (tgt := 112) dX6_isWord_35 (by decide) (fun c5 => ?_) (fun c5 => ?_)
        · refine o_iconst (v := 0) dX6_isWord_112 (by decide) ?_
          exact o_iret (rt := .boolean) rfl rfl dX6_isWord_113 rfl (Nat.zero_le _) (Nat.zero_le _)
        · refine o_aload_n dX6_isWord_38 rfl ?_
          refine o_iconst (v := 1) dX6_isWord_39 (by decide) ?_
          refine o_iload_n dX6_isWord_40 rfl ?_
          refine h_cV0 (as := [.int 1, .int x1]) (S1 := []) (d' := 1) dX6_isWord_41 mf_X6_isLetter ml_X6_176 mv_X6_isLetter q6 rfl (hp_at (px_lt (by decide)) (c48 _)) rfl (Nat.le_of_ble_eq_true rfl) rfl (Nat.le_of_ble_eq_true rfl) ⟨Nat.zero_le _, Nat.zero_le _⟩ (fun b hb => k_X6_isLetter hb) (fun b6 hb6 => ?_)
          refine o_ifeq (tgt := 112) dX6_isWord_44 (by decide) (fun c7 => ?_) (fun c7 => ?_)
          · refine o_iconst (v := 0) dX6_isWord_112 (by decide) ?_
            exact o_iret (rt := .boolean) rfl rfl dX6_isWord_113 rfl (Nat.zero_le _) (Nat.zero_le _)
          · refine o_aload_n dX6_isWord_47 rfl ?_
            refine o_iconst (v := 2) dX6_isWord_48 (by decide) ?_
            refine o_iload_n dX6_isWord_49 rfl ?_
            refine h_cV0 (as := [.int 2, .int x2]) (S1 := []) (d' := 1) dX6_isWord_50 mf_X6_isLetter ml_X6_176 mv_X6_isLetter q6 rfl (hp_at (px_lt (by decide)) (c48 _)) rfl (Nat.le_of_ble_eq_true rfl) rfl (Nat.le_of_ble_eq_true rfl) ⟨Nat.zero_le _, Nat.zero_le _⟩ (fun b hb => k_X6_isLetter hb) (fun b8 hb8 => ?_)
            refine o_ifeq (tgt := 112) dX6_isWord_53 (by decide) (fun c9 => ?_) (fun c9 => ?_)
            · refine o_iconst (v := 0) dX6_isWord_112 (by decide) ?_
              exact o_iret (rt := .boolean) rfl rfl dX6_isWord_113 rfl (Nat.zero_le _) (Nat.zero_le _)
            · refine o_aload_n dX6_isWord_56 rfl ?_
              refine o_iconst (v := 3) dX6_isWord_57 (by decide) ?_
              refine o_iload dX6_isWord_58 rfl ?_
              refine h_cV0 (as := [.int 3, .int x3]) (S1 := []) (d' := 1) dX6_isWord_60 mf_X6_isLetter ml_X6_176 mv_X6_isLetter q6 rfl (hp_at (px_lt (by decide)) (c48 _)) rfl (Nat.le_of_ble_eq_true rfl) rfl (Nat.le_of_ble_eq_true rfl) ⟨Nat.zero_le _, Nat.zero_le _⟩ (fun b hb => k_X6_isLetter hb) (fun b10 hb10 => ?_)
              refine o_ifeq (tgt := 112) dX6_isWord_63 (by decide) (fun c11 => ?_) (fun c11 => ?_)
              · refine o_iconst (v := 0) dX6_isWord_112 (by decide) ?_
                exact o_iret (rt := .boolean) rfl rfl dX6_isWord_113 rfl (Nat.zero_le _) (Nat.zero_le _)
              · refine o_aload_n dX6_isWord_66 rfl ?_
                refine o_iconst (v := 4) dX6_isWord_67 (by decide) ?_
                refine o_iload dX6_isWord_68 rfl ?_
                refine h_cV0 (as := [.int 4, .int x4]) (S1 := []) (d' := 1) dX6_isWord_70 mf_X6_isLetter ml_X6_176 mv_X6_isLetter q6 rfl (hp_at (px_lt (by decide)) (c48 _)) rfl (Nat.le_of_ble_eq_true rfl) rfl (Nat.le_of_ble_eq_true rfl) ⟨Nat.zero_le _, Nat.zero_le _⟩ (fun b hb => k_X6_isLetter hb) (fun b12 hb12 => ?_)
                refine o_ifeq (tgt := 112) dX6_isWord_73 (by decide) (fun c13 => ?_) (fun c13 => ?_)
                · refine o_iconst (v := 0) dX6_isWord_112 (by decide) ?_
                  exact o_iret (rt := .boolean) rfl rfl dX6_isWord_113 rfl (Nat.zero_le _) (Nat.zero_le _)
                · refine o_aload_n dX6_isWord_76 rfl ?_
                  refine o_iconst (v := 5) dX6_isWord_77 (by decide) ?_
                  refine o_iload dX6_isWord_78 rfl ?_
                  refine h_cV0 (as := [.int 5, .int x5]) (S1 := []) (d' := 1) dX6_isWord_80 mf_X6_isLetter ml_X6_176 mv_X6_isLetter q6 rfl (hp_at (px_lt (by decide)) (c48 _)) rfl (Nat.le_of_ble_eq_true rfl) rfl (Nat.le_of_ble_eq_true rfl) ⟨Nat.zero_le _, Nat.zero_le _⟩ (fun b hb => k_X6_isLetter hb) (fun b14 hb14 => ?_)
                  refine o_ifeq (tgt := 112) dX6_isWord_83 (by decide) (fun c15 => ?_) (fun c15 => ?_)
                  · refine o_iconst (v := 0) dX6_isWord_112 (by decide) ?_
                    exact o_iret (rt := .boolean) rfl rfl dX6_isWord_113 rfl (Nat.zero_le _) (Nat.zero_le _)
                  · refine o_aload_n dX6_isWord_86 rfl ?_
                    refine o_bipush (v := 6) dX6_isWord_87 (by decide) ?_
                    refine o_iload dX6_isWord_89 rfl ?_
                    refine h_cV0 (as := [.int 6, .int x6]) (S1 := []) (d' := 1) dX6_isWord_91 mf_X6_isLetter ml_X6_176 mv_X6_isLetter q6 rfl (hp_at (px_lt (by decide)) (c48 _)) rfl (Nat.le_of_ble_eq_true rfl) rfl (Nat.le_of_ble_eq_true rfl) ⟨Nat.zero_le _, Nat.zero_le _⟩ (fun b hb => k_X6_isLetter hb) (fun b16 hb16 => ?_)
                    refine o_ifeq (tgt := 112) dX6_isWord_94 (by decide) (fun c17 => ?_) (fun c17 => ?_)
                    · refine o_iconst (v := 0) dX6_isWord_112 (by decide) ?_
                      exact o_iret (rt := .boolean) rfl rfl dX6_isWord_113 rfl (Nat.zero_le _) (Nat.zero_le _)
                    · refine o_aload_n dX6_isWord_97 rfl ?_
                      refine o_bipush (v := 7) dX6_isWord_98 (by decide) ?_
                      refine o_iload dX6_isWord_100 rfl ?_
                      refine h_cV0 (as := [.int 7, .int x7]) (S1 := []) (d' := 1) dX6_isWord_102 mf_X6_isLetter ml_X6_176 mv_X6_isLetter q6 rfl (hp_at (px_lt (by decide)) (c48 _)) rfl (Nat.le_of_ble_eq_true rfl) rfl (Nat.le_of_ble_eq_true rfl) ⟨Nat.zero_le _, Nat.zero_le _⟩ (fun b hb => k_X6_isLetter hb) (fun b18 hb18 => ?_)
                      refine o_ifeq (tgt := 112) dX6_isWord_105 (by decide) (fun c19 => ?_) (fun c19 => ?_)
                      · refine o_iconst (v := 0) dX6_isWord_112 (by decide) ?_
                        exact o_iret (rt := .boolean) rfl rfl dX6_isWord_113 rfl (Nat.zero_le _) (Nat.zero_le _)
                      · refine o_iconst (v := 1) dX6_isWord_108 (by decide) ?_
                        refine o_goto (tgt := 113) dX6_isWord_109 (by decide) ?_
                        exact o_iret (rt := .boolean) rfl rfl dX6_isWord_113 rfl (Nat.zero_le _) (Nat.zero_le _)
theorem k_X6_isWord_o {T : Nat} {st : px_S} {x0 : Int32} {x1 : Int32} {x2 : Int32} {x3 : Int32} {x4 : Int32} {x5 : Int32} {x6 : Int32} {x7 : Int32} {b : Int32} (hf : f_X6_isWord T st x0 x1 x2 x3 x4 x5 x6 x7 = some b) : px_K 2 0 0 m_X6_isWord [.ref 48, .int x0, .int x1, .int x2, .int x3, .int x4, .int x5, .int x6, .int x7] (HP T st) (some (.int b)) (HP T st) := px_KofH (g := px_g0 (HP T st)) hf mf_X6_isWord (Nat.le_of_ble_eq_true rfl) rfl (t_X6_isWord T st x0 x1 x2 x3 x4 x5 x6 x7)
theorem k_X6_isWord {T : Nat} {st : px_S} {x0 : Int32} {x1 : Int32} {x2 : Int32} {x3 : Int32} {x4 : Int32} {x5 : Int32} {x6 : Int32} {x7 : Int32} {b : Int32} (hf : f_X6_isWord T st x0 x1 x2 x3 x4 x5 x6 x7 = some b) : px_K 2 0 0 m_X6_isWord [.ref 48, .int x0, .int x1, .int x2, .int x3, .int x4, .int x5, .int x6, .int x7] (HP T st) (some (.int b)) (HP T st) := k_X6_isWord_o hf
/-! ThreeOfThemModel.isSign(I)Z: R, depth 0 -/
def f_X6_isSign (T : Nat) (st : px_S) (x0 : Int32) : Option (Int32) := (if (st 48 29) = 0 then (if (st 48 25) = 3 then (if (lg_cmp (st 48 27).toInt64 x0.toInt64) = 0 then (some 1) else (some 0)) else (some 0)) else (some 0))
set_option maxRecDepth 20000 in
theorem t_X6_isSign (T : Nat) (st : px_S) (x0 : Int32) : px_O (0, 0, 0, px_n T, m_X6_isSign) (px_g0 (HP T st)) (f_X6_isSign T st x0) 0 [some (.ref 48), some (.int x0)] [] (HP T st) 0 0 := by
  rw [f_X6_isSign]
  refine o_aload_n dX6_isSign_0 rfl ?_
  refine h_get (v := .int (st 48 29)) dX6_isSign_1 q6 fl_X6_169 (by decide) (px_lt (by decide)) (c48 _) rfl ?_
  refine o_ifne (tgt := 29) dX6_isSign_4 (by decide) (fun c1 => ?_) (fun c1 => ?_)
  · refine o_iconst (v := 0) dX6_isSign_29 (by decide) ?_
    exact o_iret (rt := .boolean) rfl rfl dX6_isSign_30 rfl (Nat.zero_le _) (Nat.zero_le _)
  · refine o_aload_n dX6_isSign_7 rfl ?_
    refine h_get (v := .int (st 48 25)) dX6_isSign_8 q6 fl_X6_152 (by decide) (px_lt (by decide)) (c48 _) rfl ?_
    refine o_iconst (v := 3) dX6_isSign_11 (by decide) ?_
    refine o_icmpne (tgt := 29) dX6_isSign_12 (by decide) (fun c2 => ?_) (fun c2 => ?_)
    · refine o_iconst (v := 0) dX6_isSign_29 (by decide) ?_
      exact o_iret (rt := .boolean) rfl rfl dX6_isSign_30 rfl (Nat.zero_le _) (Nat.zero_le _)
    · refine o_aload_n dX6_isSign_15 rfl ?_
      refine h_get (v := .long (st 48 27).toInt64) dX6_isSign_16 q6 fl_X6_163 (by decide) (px_lt (by decide)) (c48 _) rfl ?_
      refine o_iload_n dX6_isSign_19 rfl ?_
      refine o_i2l dX6_isSign_20 ?_
      refine o_lcmp dX6_isSign_21 ?_
      refine o_ifne (tgt := 29) dX6_isSign_22 (by decide) (fun c3 => ?_) (fun c3 => ?_)
      · refine o_iconst (v := 0) dX6_isSign_29 (by decide) ?_
        exact o_iret (rt := .boolean) rfl rfl dX6_isSign_30 rfl (Nat.zero_le _) (Nat.zero_le _)
      · refine o_iconst (v := 1) dX6_isSign_25 (by decide) ?_
        refine o_goto (tgt := 30) dX6_isSign_26 (by decide) ?_
        exact o_iret (rt := .boolean) rfl rfl dX6_isSign_30 rfl (Nat.zero_le _) (Nat.zero_le _)
theorem k_X6_isSign_o {T : Nat} {st : px_S} {x0 : Int32} {b : Int32} (hf : f_X6_isSign T st x0 = some b) : px_K 0 0 0 m_X6_isSign [.ref 48, .int x0] (HP T st) (some (.int b)) (HP T st) := px_KofH (g := px_g0 (HP T st)) hf mf_X6_isSign (Nat.le_of_ble_eq_true rfl) rfl (t_X6_isSign T st x0)
theorem k_X6_isSign {T : Nat} {st : px_S} {x0 : Int32} {b : Int32} (hf : f_X6_isSign T st x0 = some b) : px_K 0 0 0 m_X6_isSign [.ref 48, .int x0] (HP T st) (some (.int b)) (HP T st) := k_X6_isSign_o hf
end
section
theorem zz_last : True := trivial
end
