section
-- ===== PART A: goes FIRST, ahead of the names: the tables' words, and 'selects' of the private methods out of them =====
/-- a private method of a class that the tables say can be made, by its rows of tables_1 -/
def lw_okq (q : MethodName × Nat) : Prop := (q.1.cls ≠ "java/lang/invoke/MethodHandle" ∧ q.1.cls ≠ "java/lang/invoke/VarHandle") ∧ Cond.instantiable q.1.cls q.2 ∈ tables_1 ∧ Cond.privateMethod q.1 ∈ tables_1 ∧ Cond.instanceMethod q.1 ∈ tables_1
theorem lw_p0 : lw_okq (⟨"VeilNations$World", "setVeil", "(IZ)V"⟩, 8) := ⟨⟨by decide +kernel, by decide +kernel⟩, List.mem_of_getElem? (i := 28) (by decide +kernel), List.mem_of_getElem? (i := 243) (by decide +kernel), List.mem_of_getElem? (i := 244) (by decide +kernel)⟩
theorem lw_p1 : lw_okq (⟨"VeilNations$Pad", "take", "(II)I"⟩, 6) := ⟨⟨by decide +kernel, by decide +kernel⟩, List.mem_of_getElem? (i := 109) (by decide +kernel), List.mem_of_getElem? (i := 311) (by decide +kernel), List.mem_of_getElem? (i := 312) (by decide +kernel)⟩
theorem lw_p2 : lw_okq (⟨"VeilNations$Pad", "takeFirst", "(I)I"⟩, 6) := ⟨⟨by decide +kernel, by decide +kernel⟩, List.mem_of_getElem? (i := 109) (by decide +kernel), List.mem_of_getElem? (i := 315) (by decide +kernel), List.mem_of_getElem? (i := 316) (by decide +kernel)⟩
theorem lw_p3 : lw_okq (⟨"VeilNations$Pad", "close", "()I"⟩, 6) := ⟨⟨by decide +kernel, by decide +kernel⟩, List.mem_of_getElem? (i := 109) (by decide +kernel), List.mem_of_getElem? (i := 319) (by decide +kernel), List.mem_of_getElem? (i := 320) (by decide +kernel)⟩
theorem lw_p4 : lw_okq (⟨"VeilNations$Pad", "takeDeed", "(I)I"⟩, 6) := ⟨⟨by decide +kernel, by decide +kernel⟩, List.mem_of_getElem? (i := 109) (by decide +kernel), List.mem_of_getElem? (i := 323) (by decide +kernel), List.mem_of_getElem? (i := 324) (by decide +kernel)⟩
theorem lw_p5 : lw_okq (⟨"VeilNations", "follow", "(Z)I"⟩, 8) := ⟨⟨by decide +kernel, by decide +kernel⟩, List.mem_of_getElem? (i := 14) (by decide +kernel), List.mem_of_getElem? (i := 334) (by decide +kernel), List.mem_of_getElem? (i := 335) (by decide +kernel)⟩
theorem lw_p6 : lw_okq (⟨"VeilNations$Course", "begin", "(LVeilNations$World;)V"⟩, 6) := ⟨⟨by decide +kernel, by decide +kernel⟩, List.mem_of_getElem? (i := 137) (by decide +kernel), List.mem_of_getElem? (i := 342) (by decide +kernel), List.mem_of_getElem? (i := 343) (by decide +kernel)⟩
theorem lw_p7 : lw_okq (⟨"VeilNations$World", "whyNotKiss", "(II)I"⟩, 8) := ⟨⟨by decide +kernel, by decide +kernel⟩, List.mem_of_getElem? (i := 28) (by decide +kernel), List.mem_of_getElem? (i := 373) (by decide +kernel), List.mem_of_getElem? (i := 374) (by decide +kernel)⟩
theorem lw_p8 : lw_okq (⟨"VeilNations$World", "annex", "(II)I"⟩, 8) := ⟨⟨by decide +kernel, by decide +kernel⟩, List.mem_of_getElem? (i := 28) (by decide +kernel), List.mem_of_getElem? (i := 390) (by decide +kernel), List.mem_of_getElem? (i := 391) (by decide +kernel)⟩
theorem lw_p9 : lw_okq (⟨"VeilNations$World", "addTears", "(II)V"⟩, 8) := ⟨⟨by decide +kernel, by decide +kernel⟩, List.mem_of_getElem? (i := 28) (by decide +kernel), List.mem_of_getElem? (i := 395) (by decide +kernel), List.mem_of_getElem? (i := 396) (by decide +kernel)⟩
theorem lw_p10 : lw_okq (⟨"VeilNations$World", "blow", "(I)V"⟩, 8) := ⟨⟨by decide +kernel, by decide +kernel⟩, List.mem_of_getElem? (i := 28) (by decide +kernel), List.mem_of_getElem? (i := 399) (by decide +kernel), List.mem_of_getElem? (i := 400) (by decide +kernel)⟩
theorem lw_p11 : lw_okq (⟨"VeilNations$World", "passDay", "()I"⟩, 8) := ⟨⟨by decide +kernel, by decide +kernel⟩, List.mem_of_getElem? (i := 28) (by decide +kernel), List.mem_of_getElem? (i := 410) (by decide +kernel), List.mem_of_getElem? (i := 411) (by decide +kernel)⟩
theorem lw_p12 : lw_okq (⟨"VeilNations$Course", "note", "(II)V"⟩, 6) := ⟨⟨by decide +kernel, by decide +kernel⟩, List.mem_of_getElem? (i := 137) (by decide +kernel), List.mem_of_getElem? (i := 414) (by decide +kernel), List.mem_of_getElem? (i := 415) (by decide +kernel)⟩
theorem lw_p13 : lw_okq (⟨"VeilNations$World", "countFoes", "()V"⟩, 8) := ⟨⟨by decide +kernel, by decide +kernel⟩, List.mem_of_getElem? (i := 28) (by decide +kernel), List.mem_of_getElem? (i := 463) (by decide +kernel), List.mem_of_getElem? (i := 464) (by decide +kernel)⟩
theorem lw_p14 : lw_okq (⟨"VeilNations$Calls", "canBeInTime", "(I)Z"⟩, 2) := ⟨⟨by decide +kernel, by decide +kernel⟩, List.mem_of_getElem? (i := 63) (by decide +kernel), List.mem_of_getElem? (i := 481) (by decide +kernel), List.mem_of_getElem? (i := 482) (by decide +kernel)⟩
theorem lw_p15 : lw_okq (⟨"VeilNations$Calls", "minutesDueBy", "(II)I"⟩, 2) := ⟨⟨by decide +kernel, by decide +kernel⟩, List.mem_of_getElem? (i := 63) (by decide +kernel), List.mem_of_getElem? (i := 486) (by decide +kernel), List.mem_of_getElem? (i := 487) (by decide +kernel)⟩
def lw_privs_1 : List (MethodName × Nat) := [(⟨"VeilNations$World", "setVeil", "(IZ)V"⟩, 8), (⟨"VeilNations$Pad", "take", "(II)I"⟩, 6), (⟨"VeilNations$Pad", "takeFirst", "(I)I"⟩, 6), (⟨"VeilNations$Pad", "close", "()I"⟩, 6), (⟨"VeilNations$Pad", "takeDeed", "(I)I"⟩, 6), (⟨"VeilNations", "follow", "(Z)I"⟩, 8), (⟨"VeilNations$Course", "begin", "(LVeilNations$World;)V"⟩, 6), (⟨"VeilNations$World", "whyNotKiss", "(II)I"⟩, 8), (⟨"VeilNations$World", "annex", "(II)I"⟩, 8), (⟨"VeilNations$World", "addTears", "(II)V"⟩, 8), (⟨"VeilNations$World", "blow", "(I)V"⟩, 8), (⟨"VeilNations$World", "passDay", "()I"⟩, 8), (⟨"VeilNations$Course", "note", "(II)V"⟩, 6), (⟨"VeilNations$World", "countFoes", "()V"⟩, 8), (⟨"VeilNations$Calls", "canBeInTime", "(I)Z"⟩, 2), (⟨"VeilNations$Calls", "minutesDueBy", "(II)I"⟩, 2)]
theorem lw_r1 : ∀ q ∈ lw_privs_1, lw_okq q := List.forall_mem_cons.mpr ⟨lw_p0, List.forall_mem_cons.mpr ⟨lw_p1, List.forall_mem_cons.mpr ⟨lw_p2, List.forall_mem_cons.mpr ⟨lw_p3, List.forall_mem_cons.mpr ⟨lw_p4, List.forall_mem_cons.mpr ⟨lw_p5, List.forall_mem_cons.mpr ⟨lw_p6, List.forall_mem_cons.mpr ⟨lw_p7, List.forall_mem_cons.mpr ⟨lw_p8, List.forall_mem_cons.mpr ⟨lw_p9, List.forall_mem_cons.mpr ⟨lw_p10, List.forall_mem_cons.mpr ⟨lw_p11, List.forall_mem_cons.mpr ⟨lw_p12, List.forall_mem_cons.mpr ⟨lw_p13, List.forall_mem_cons.mpr ⟨lw_p14, List.forall_mem_cons.mpr ⟨lw_p15, fun _ h => absurd h List.not_mem_nil⟩⟩⟩⟩⟩⟩⟩⟩⟩⟩⟩⟩⟩⟩⟩⟩
theorem lw_p16 : lw_okq (⟨"VeilNations$Stamps", "countFewest", "(I)V"⟩, 2) := ⟨⟨by decide +kernel, by decide +kernel⟩, List.mem_of_getElem? (i := 186) (by decide +kernel), List.mem_of_getElem? (i := 503) (by decide +kernel), List.mem_of_getElem? (i := 504) (by decide +kernel)⟩
theorem lw_p17 : lw_okq (⟨"VeilNations$Stamps", "haveCommonDivisor", "()Z"⟩, 2) := ⟨⟨by decide +kernel, by decide +kernel⟩, List.mem_of_getElem? (i := 186) (by decide +kernel), List.mem_of_getElem? (i := 516) (by decide +kernel), List.mem_of_getElem? (i := 517) (by decide +kernel)⟩
theorem lw_p18 : lw_okq (⟨"VeilNations$Rhythms", "gatherOne", "(ILVeilNations$Sights;)V"⟩, 2) := ⟨⟨by decide +kernel, by decide +kernel⟩, List.mem_of_getElem? (i := 172) (by decide +kernel), List.mem_of_getElem? (i := 545) (by decide +kernel), List.mem_of_getElem? (i := 546) (by decide +kernel)⟩
theorem lw_p19 : lw_okq (⟨"VeilNations", "toldOfOne", "(II)I"⟩, 8) := ⟨⟨by decide +kernel, by decide +kernel⟩, List.mem_of_getElem? (i := 14) (by decide +kernel), List.mem_of_getElem? (i := 630) (by decide +kernel), List.mem_of_getElem? (i := 631) (by decide +kernel)⟩
theorem lw_p20 : lw_okq (⟨"VeilNationsModel", "agree", "(IIZ)V"⟩, 34) := ⟨⟨by decide +kernel, by decide +kernel⟩, List.mem_of_getElem? (i := 638) (by decide +kernel), List.mem_of_getElem? (i := 769) (by decide +kernel), List.mem_of_getElem? (i := 770) (by decide +kernel)⟩
theorem lw_p21 : lw_okq (⟨"VeilNationsModel", "treatyMany", "()I"⟩, 34) := ⟨⟨by decide +kernel, by decide +kernel⟩, List.mem_of_getElem? (i := 638) (by decide +kernel), List.mem_of_getElem? (i := 773) (by decide +kernel), List.mem_of_getElem? (i := 774) (by decide +kernel)⟩
theorem lw_p22 : lw_okq (⟨"VeilNationsModel", "readOn", "(II)I"⟩, 34) := ⟨⟨by decide +kernel, by decide +kernel⟩, List.mem_of_getElem? (i := 638) (by decide +kernel), List.mem_of_getElem? (i := 804) (by decide +kernel), List.mem_of_getElem? (i := 805) (by decide +kernel)⟩
theorem lw_p23 : lw_okq (⟨"VeilNationsModel", "begin", "(I)I"⟩, 34) := ⟨⟨by decide +kernel, by decide +kernel⟩, List.mem_of_getElem? (i := 638) (by decide +kernel), List.mem_of_getElem? (i := 808) (by decide +kernel), List.mem_of_getElem? (i := 809) (by decide +kernel)⟩
theorem lw_p24 : lw_okq (⟨"VeilNationsModel", "close", "(II)I"⟩, 34) := ⟨⟨by decide +kernel, by decide +kernel⟩, List.mem_of_getElem? (i := 638) (by decide +kernel), List.mem_of_getElem? (i := 817) (by decide +kernel), List.mem_of_getElem? (i := 818) (by decide +kernel)⟩
theorem lw_p25 : lw_okq (⟨"VeilNationsModel", "deed", "(I)I"⟩, 34) := ⟨⟨by decide +kernel, by decide +kernel⟩, List.mem_of_getElem? (i := 638) (by decide +kernel), List.mem_of_getElem? (i := 821) (by decide +kernel), List.mem_of_getElem? (i := 822) (by decide +kernel)⟩
theorem lw_p26 : lw_okq (⟨"VeilNationsModel", "refusal", "()I"⟩, 34) := ⟨⟨by decide +kernel, by decide +kernel⟩, List.mem_of_getElem? (i := 638) (by decide +kernel), List.mem_of_getElem? (i := 832) (by decide +kernel), List.mem_of_getElem? (i := 833) (by decide +kernel)⟩
theorem lw_p27 : lw_okq (⟨"VeilNationsModel", "keepNow", "()V"⟩, 34) := ⟨⟨by decide +kernel, by decide +kernel⟩, List.mem_of_getElem? (i := 638) (by decide +kernel), List.mem_of_getElem? (i := 836) (by decide +kernel), List.mem_of_getElem? (i := 837) (by decide +kernel)⟩
theorem lw_p28 : lw_okq (⟨"VeilNationsModel", "goDays", "()V"⟩, 34) := ⟨⟨by decide +kernel, by decide +kernel⟩, List.mem_of_getElem? (i := 638) (by decide +kernel), List.mem_of_getElem? (i := 841) (by decide +kernel), List.mem_of_getElem? (i := 842) (by decide +kernel)⟩
theorem lw_p29 : lw_okq (⟨"VeilNationsModel", "whyNot", "(III)I"⟩, 34) := ⟨⟨by decide +kernel, by decide +kernel⟩, List.mem_of_getElem? (i := 638) (by decide +kernel), List.mem_of_getElem? (i := 845) (by decide +kernel), List.mem_of_getElem? (i := 846) (by decide +kernel)⟩
theorem lw_p30 : lw_okq (⟨"VeilNationsModel", "whyNoKiss", "(II)I"⟩, 34) := ⟨⟨by decide +kernel, by decide +kernel⟩, List.mem_of_getElem? (i := 638) (by decide +kernel), List.mem_of_getElem? (i := 852) (by decide +kernel), List.mem_of_getElem? (i := 853) (by decide +kernel)⟩
theorem lw_p31 : lw_okq (⟨"VeilNationsModel", "goOne", "(I)V"⟩, 34) := ⟨⟨by decide +kernel, by decide +kernel⟩, List.mem_of_getElem? (i := 638) (by decide +kernel), List.mem_of_getElem? (i := 856) (by decide +kernel), List.mem_of_getElem? (i := 857) (by decide +kernel)⟩
def lw_privs_2 : List (MethodName × Nat) := [(⟨"VeilNations$Stamps", "countFewest", "(I)V"⟩, 2), (⟨"VeilNations$Stamps", "haveCommonDivisor", "()Z"⟩, 2), (⟨"VeilNations$Rhythms", "gatherOne", "(ILVeilNations$Sights;)V"⟩, 2), (⟨"VeilNations", "toldOfOne", "(II)I"⟩, 8), (⟨"VeilNationsModel", "agree", "(IIZ)V"⟩, 34), (⟨"VeilNationsModel", "treatyMany", "()I"⟩, 34), (⟨"VeilNationsModel", "readOn", "(II)I"⟩, 34), (⟨"VeilNationsModel", "begin", "(I)I"⟩, 34), (⟨"VeilNationsModel", "close", "(II)I"⟩, 34), (⟨"VeilNationsModel", "deed", "(I)I"⟩, 34), (⟨"VeilNationsModel", "refusal", "()I"⟩, 34), (⟨"VeilNationsModel", "keepNow", "()V"⟩, 34), (⟨"VeilNationsModel", "goDays", "()V"⟩, 34), (⟨"VeilNationsModel", "whyNot", "(III)I"⟩, 34), (⟨"VeilNationsModel", "whyNoKiss", "(II)I"⟩, 34), (⟨"VeilNationsModel", "goOne", "(I)V"⟩, 34)]
theorem lw_r2 : ∀ q ∈ lw_privs_2, lw_okq q := List.forall_mem_cons.mpr ⟨lw_p16, List.forall_mem_cons.mpr ⟨lw_p17, List.forall_mem_cons.mpr ⟨lw_p18, List.forall_mem_cons.mpr ⟨lw_p19, List.forall_mem_cons.mpr ⟨lw_p20, List.forall_mem_cons.mpr ⟨lw_p21, List.forall_mem_cons.mpr ⟨lw_p22, List.forall_mem_cons.mpr ⟨lw_p23, List.forall_mem_cons.mpr ⟨lw_p24, List.forall_mem_cons.mpr ⟨lw_p25, List.forall_mem_cons.mpr ⟨lw_p26, List.forall_mem_cons.mpr ⟨lw_p27, List.forall_mem_cons.mpr ⟨lw_p28, List.forall_mem_cons.mpr ⟨lw_p29, List.forall_mem_cons.mpr ⟨lw_p30, List.forall_mem_cons.mpr ⟨lw_p31, fun _ h => absurd h List.not_mem_nil⟩⟩⟩⟩⟩⟩⟩⟩⟩⟩⟩⟩⟩⟩⟩⟩
theorem lw_p32 : lw_okq (⟨"VeilNationsModel", "happen", "(III)V"⟩, 34) := ⟨⟨by decide +kernel, by decide +kernel⟩, List.mem_of_getElem? (i := 638) (by decide +kernel), List.mem_of_getElem? (i := 860) (by decide +kernel), List.mem_of_getElem? (i := 861) (by decide +kernel)⟩
theorem lw_p33 : lw_okq (⟨"VeilNationsModel", "annex", "(II)V"⟩, 34) := ⟨⟨by decide +kernel, by decide +kernel⟩, List.mem_of_getElem? (i := 638) (by decide +kernel), List.mem_of_getElem? (i := 864) (by decide +kernel), List.mem_of_getElem? (i := 865) (by decide +kernel)⟩
theorem lw_p34 : lw_okq (⟨"VeilNationsModel", "mend", "(I)V"⟩, 34) := ⟨⟨by decide +kernel, by decide +kernel⟩, List.mem_of_getElem? (i := 638) (by decide +kernel), List.mem_of_getElem? (i := 868) (by decide +kernel), List.mem_of_getElem? (i := 869) (by decide +kernel)⟩
theorem lw_p35 : lw_okq (⟨"VeilNationsModel", "gust", "(I)V"⟩, 34) := ⟨⟨by decide +kernel, by decide +kernel⟩, List.mem_of_getElem? (i := 638) (by decide +kernel), List.mem_of_getElem? (i := 872) (by decide +kernel), List.mem_of_getElem? (i := 873) (by decide +kernel)⟩
theorem lw_p36 : lw_okq (⟨"VeilNationsModel", "thick", "(I)I"⟩, 34) := ⟨⟨by decide +kernel, by decide +kernel⟩, List.mem_of_getElem? (i := 638) (by decide +kernel), List.mem_of_getElem? (i := 876) (by decide +kernel), List.mem_of_getElem? (i := 877) (by decide +kernel)⟩
theorem lw_p37 : lw_okq (⟨"VeilNationsModel", "passDay", "()V"⟩, 34) := ⟨⟨by decide +kernel, by decide +kernel⟩, List.mem_of_getElem? (i := 638) (by decide +kernel), List.mem_of_getElem? (i := 880) (by decide +kernel), List.mem_of_getElem? (i := 881) (by decide +kernel)⟩
theorem lw_p38 : lw_okq (⟨"VeilNationsModel", "back", "(I)I"⟩, 34) := ⟨⟨by decide +kernel, by decide +kernel⟩, List.mem_of_getElem? (i := 638) (by decide +kernel), List.mem_of_getElem? (i := 884) (by decide +kernel), List.mem_of_getElem? (i := 885) (by decide +kernel)⟩
theorem lw_p39 : lw_okq (⟨"VeilNationsModel", "ofOne", "(II)I"⟩, 34) := ⟨⟨by decide +kernel, by decide +kernel⟩, List.mem_of_getElem? (i := 638) (by decide +kernel), List.mem_of_getElem? (i := 892) (by decide +kernel), List.mem_of_getElem? (i := 893) (by decide +kernel)⟩
theorem lw_p40 : lw_okq (⟨"VeilNationsModel", "ofAll", "(I)I"⟩, 34) := ⟨⟨by decide +kernel, by decide +kernel⟩, List.mem_of_getElem? (i := 638) (by decide +kernel), List.mem_of_getElem? (i := 901) (by decide +kernel), List.mem_of_getElem? (i := 902) (by decide +kernel)⟩
theorem lw_p41 : lw_okq (⟨"VeilNationsModel", "manyOf", "(I)I"⟩, 34) := ⟨⟨by decide +kernel, by decide +kernel⟩, List.mem_of_getElem? (i := 638) (by decide +kernel), List.mem_of_getElem? (i := 905) (by decide +kernel), List.mem_of_getElem? (i := 906) (by decide +kernel)⟩
theorem lw_p42 : lw_okq (⟨"VeilNationsModel", "seenBy", "(III)I"⟩, 34) := ⟨⟨by decide +kernel, by decide +kernel⟩, List.mem_of_getElem? (i := 638) (by decide +kernel), List.mem_of_getElem? (i := 921) (by decide +kernel), List.mem_of_getElem? (i := 922) (by decide +kernel)⟩
theorem lw_p43 : lw_okq (⟨"VeilNationsModel", "quarrels", "(I)I"⟩, 34) := ⟨⟨by decide +kernel, by decide +kernel⟩, List.mem_of_getElem? (i := 638) (by decide +kernel), List.mem_of_getElem? (i := 929) (by decide +kernel), List.mem_of_getElem? (i := 930) (by decide +kernel)⟩
theorem lw_p44 : lw_okq (⟨"VeilNationsModel", "isInTime", "(I)Z"⟩, 34) := ⟨⟨by decide +kernel, by decide +kernel⟩, List.mem_of_getElem? (i := 638) (by decide +kernel), List.mem_of_getElem? (i := 937) (by decide +kernel), List.mem_of_getElem? (i := 938) (by decide +kernel)⟩
theorem lw_p45 : lw_okq (⟨"VeilNationsModel", "nextCall", "(I)I"⟩, 34) := ⟨⟨by decide +kernel, by decide +kernel⟩, List.mem_of_getElem? (i := 638) (by decide +kernel), List.mem_of_getElem? (i := 941) (by decide +kernel), List.mem_of_getElem? (i := 942) (by decide +kernel)⟩
theorem lw_p46 : lw_okq (⟨"VeilNationsModel", "waysFor", "(IIII)I"⟩, 34) := ⟨⟨by decide +kernel, by decide +kernel⟩, List.mem_of_getElem? (i := 638) (by decide +kernel), List.mem_of_getElem? (i := 954) (by decide +kernel), List.mem_of_getElem? (i := 955) (by decide +kernel)⟩
theorem lw_p47 : lw_okq (⟨"VeilNationsModel", "oneMore", "(II)I"⟩, 34) := ⟨⟨by decide +kernel, by decide +kernel⟩, List.mem_of_getElem? (i := 638) (by decide +kernel), List.mem_of_getElem? (i := 958) (by decide +kernel), List.mem_of_getElem? (i := 959) (by decide +kernel)⟩
def lw_privs_3 : List (MethodName × Nat) := [(⟨"VeilNationsModel", "happen", "(III)V"⟩, 34), (⟨"VeilNationsModel", "annex", "(II)V"⟩, 34), (⟨"VeilNationsModel", "mend", "(I)V"⟩, 34), (⟨"VeilNationsModel", "gust", "(I)V"⟩, 34), (⟨"VeilNationsModel", "thick", "(I)I"⟩, 34), (⟨"VeilNationsModel", "passDay", "()V"⟩, 34), (⟨"VeilNationsModel", "back", "(I)I"⟩, 34), (⟨"VeilNationsModel", "ofOne", "(II)I"⟩, 34), (⟨"VeilNationsModel", "ofAll", "(I)I"⟩, 34), (⟨"VeilNationsModel", "manyOf", "(I)I"⟩, 34), (⟨"VeilNationsModel", "seenBy", "(III)I"⟩, 34), (⟨"VeilNationsModel", "quarrels", "(I)I"⟩, 34), (⟨"VeilNationsModel", "isInTime", "(I)Z"⟩, 34), (⟨"VeilNationsModel", "nextCall", "(I)I"⟩, 34), (⟨"VeilNationsModel", "waysFor", "(IIII)I"⟩, 34), (⟨"VeilNationsModel", "oneMore", "(II)I"⟩, 34)]
theorem lw_r3 : ∀ q ∈ lw_privs_3, lw_okq q := List.forall_mem_cons.mpr ⟨lw_p32, List.forall_mem_cons.mpr ⟨lw_p33, List.forall_mem_cons.mpr ⟨lw_p34, List.forall_mem_cons.mpr ⟨lw_p35, List.forall_mem_cons.mpr ⟨lw_p36, List.forall_mem_cons.mpr ⟨lw_p37, List.forall_mem_cons.mpr ⟨lw_p38, List.forall_mem_cons.mpr ⟨lw_p39, List.forall_mem_cons.mpr ⟨lw_p40, List.forall_mem_cons.mpr ⟨lw_p41, List.forall_mem_cons.mpr ⟨lw_p42, List.forall_mem_cons.mpr ⟨lw_p43, List.forall_mem_cons.mpr ⟨lw_p44, List.forall_mem_cons.mpr ⟨lw_p45, List.forall_mem_cons.mpr ⟨lw_p46, List.forall_mem_cons.mpr ⟨lw_p47, fun _ h => absurd h List.not_mem_nil⟩⟩⟩⟩⟩⟩⟩⟩⟩⟩⟩⟩⟩⟩⟩⟩
theorem lw_p48 : lw_okq (⟨"VeilNationsModel", "greatestNot", "()I"⟩, 34) := ⟨⟨by decide +kernel, by decide +kernel⟩, List.mem_of_getElem? (i := 638) (by decide +kernel), List.mem_of_getElem? (i := 965) (by decide +kernel), List.mem_of_getElem? (i := 966) (by decide +kernel)⟩
theorem lw_p49 : lw_okq (⟨"VeilNationsModel", "isFit", "(I)Z"⟩, 34) := ⟨⟨by decide +kernel, by decide +kernel⟩, List.mem_of_getElem? (i := 638) (by decide +kernel), List.mem_of_getElem? (i := 982) (by decide +kernel), List.mem_of_getElem? (i := 983) (by decide +kernel)⟩
theorem lw_p50 : lw_okq (⟨"VeilNationsModel", "leastLift", "(I)I"⟩, 34) := ⟨⟨by decide +kernel, by decide +kernel⟩, List.mem_of_getElem? (i := 638) (by decide +kernel), List.mem_of_getElem? (i := 998) (by decide +kernel), List.mem_of_getElem? (i := 999) (by decide +kernel)⟩
theorem lw_p51 : lw_okq (⟨"VeilNationsModel", "before", "([JII)J"⟩, 34) := ⟨⟨by decide +kernel, by decide +kernel⟩, List.mem_of_getElem? (i := 638) (by decide +kernel), List.mem_of_getElem? (i := 1007) (by decide +kernel), List.mem_of_getElem? (i := 1008) (by decide +kernel)⟩
theorem lw_p52 : lw_okq (⟨"VeilNationsModel", "passAll", "()V"⟩, 34) := ⟨⟨by decide +kernel, by decide +kernel⟩, List.mem_of_getElem? (i := 638) (by decide +kernel), List.mem_of_getElem? (i := 1029) (by decide +kernel), List.mem_of_getElem? (i := 1030) (by decide +kernel)⟩
theorem lw_p53 : lw_okq (⟨"VeilNationsModel", "pass", "(I)I"⟩, 34) := ⟨⟨by decide +kernel, by decide +kernel⟩, List.mem_of_getElem? (i := 638) (by decide +kernel), List.mem_of_getElem? (i := 1033) (by decide +kernel), List.mem_of_getElem? (i := 1034) (by decide +kernel)⟩
theorem lw_p54 : lw_okq (⟨"VeilNationsModel", "passRow", "([II)V"⟩, 34) := ⟨⟨by decide +kernel, by decide +kernel⟩, List.mem_of_getElem? (i := 638) (by decide +kernel), List.mem_of_getElem? (i := 1037) (by decide +kernel), List.mem_of_getElem? (i := 1038) (by decide +kernel)⟩
theorem lw_p55 : lw_okq (⟨"VeilNationsModel", "toldOne", "(II)I"⟩, 34) := ⟨⟨by decide +kernel, by decide +kernel⟩, List.mem_of_getElem? (i := 638) (by decide +kernel), List.mem_of_getElem? (i := 1051) (by decide +kernel), List.mem_of_getElem? (i := 1052) (by decide +kernel)⟩
def lw_privs_4 : List (MethodName × Nat) := [(⟨"VeilNationsModel", "greatestNot", "()I"⟩, 34), (⟨"VeilNationsModel", "isFit", "(I)Z"⟩, 34), (⟨"VeilNationsModel", "leastLift", "(I)I"⟩, 34), (⟨"VeilNationsModel", "before", "([JII)J"⟩, 34), (⟨"VeilNationsModel", "passAll", "()V"⟩, 34), (⟨"VeilNationsModel", "pass", "(I)I"⟩, 34), (⟨"VeilNationsModel", "passRow", "([II)V"⟩, 34), (⟨"VeilNationsModel", "toldOne", "(II)I"⟩, 34)]
theorem lw_r4 : ∀ q ∈ lw_privs_4, lw_okq q := List.forall_mem_cons.mpr ⟨lw_p48, List.forall_mem_cons.mpr ⟨lw_p49, List.forall_mem_cons.mpr ⟨lw_p50, List.forall_mem_cons.mpr ⟨lw_p51, List.forall_mem_cons.mpr ⟨lw_p52, List.forall_mem_cons.mpr ⟨lw_p53, List.forall_mem_cons.mpr ⟨lw_p54, List.forall_mem_cons.mpr ⟨lw_p55, fun _ h => absurd h List.not_mem_nil⟩⟩⟩⟩⟩⟩⟩⟩
def lw_privs : List (MethodName × Nat) := lw_privs_1 ++ (lw_privs_2 ++ (lw_privs_3 ++ (lw_privs_4)))
def lw_tbl : List Cond := k2_sels lw_privs ++ tables_1
theorem lw_privs_ok : ∀ q ∈ lw_privs, lw_okq q := by
  show ∀ q ∈ lw_privs_1 ++ (lw_privs_2 ++ (lw_privs_3 ++ (lw_privs_4))), lw_okq q
  exact List.forall_mem_append.mpr ⟨lw_r1, List.forall_mem_append.mpr ⟨lw_r2, List.forall_mem_append.mpr ⟨lw_r3, lw_r4⟩⟩⟩
-- ===== end of PART A; then your names; then what follows =====
end
section
/-! A pure machine: heap, steps, runs. No word of the Statement's machine here. -/
abbrev pE : Type := (Nat × vp_A) ⊕ (Nat × List Value)
abbrev pH : Type := List pE
abbrev pO : Type := Option Value
abbrev pS : Type := Nat × List pO × List Value × pH
/-- a call: callee, how many values, the answer's kind (0 none, 1 int, 2 long), 0 or 1 + the receiver's class -/
abbrev pC : Type := Nat × Nat × Nat × Nat
abbrev pOp : Type := (pS → Option pS) ⊕ (pC ⊕ Nat)
abbrev pR : Type := Option Value × pH
/-- a method: name, bytes, locals, answer's type, room in frames and locals, program counters -/
abbrev pI : Type := MethodName × ByteArray × Nat × Option FieldType × Nat × Nat × List Nat
abbrev pG : Type := (Nat → Nat → Option pOp) × (Nat → pI)
def pm_nm (G : pG) (k : Nat) : MethodName := (G.2 k).1
def pm_by (G : pG) (k : Nat) : ByteArray := (G.2 k).2.1
def pm_nL (G : pG) (k : Nat) : Nat := (G.2 k).2.2.1
def pm_rt (G : pG) (k : Nat) : Option FieldType := (G.2 k).2.2.2.1
def pm_fr (G : pG) (k : Nat) : Nat := (G.2 k).2.2.2.2.1
def pm_lo (G : pG) (k : Nat) : Nat := (G.2 k).2.2.2.2.2.1
def pm_pc (G : pG) (k i : Nat) : Nat := (G.2 k).2.2.2.2.2.2.getD i 0
/-- a store at place a may be made: within, and no long ends there -/
def pm_ok (ls : List pO) (a : Nat) : Bool := decide (a < ls.length) && (match a with
  | 0 => true
  | j + 1 => match ls[j]? with
    | some (some (.long _)) => false
    | some (some (.double _)) => false
    | _ => true)
/-- an index within -/
def pin (i : Int32) (n : Nat) : Bool := decide (¬ (i < 0 ∨ n ≤ i.toNatClampNeg))
theorem pin_in {i : Int32} {n : Nat} (h : pin i n = true) : vp_in i n := of_decide_eq_true (p := ¬ (i < 0 ∨ n ≤ i.toNatClampNeg)) h
-- the steps
def op_iload (a : Nat) : pS → Option pS := fun s => match s.2.1[a]? with
  | some (some (.int x)) => some (s.1 + 1, s.2.1, .int x :: s.2.2.1, s.2.2.2)
  | _ => none
def op_lload (a : Nat) : pS → Option pS := fun s => match s.2.1[a]? with
  | some (some (.long x)) => some (s.1 + 1, s.2.1, .long x :: s.2.2.1, s.2.2.2)
  | _ => none
def op_aload (a : Nat) : pS → Option pS := fun s => match s.2.1[a]? with
  | some (some (.ref x)) => some (s.1 + 1, s.2.1, .ref x :: s.2.2.1, s.2.2.2)
  | _ => none
def op_istore (a : Nat) : pS → Option pS := fun s => match s.2.2.1 with
  | .int x :: st => if pm_ok s.2.1 a = true then some (s.1 + 1, s.2.1.set a (some (.int x)), st, s.2.2.2) else none
  | _ => none
def op_lstore (a : Nat) : pS → Option pS := fun s => match s.2.2.1 with
  | .long x :: st => if pm_ok s.2.1 a = true ∧ a + 1 < s.2.1.length then some (s.1 + 1, (s.2.1.set a (some (.long x))).set (a + 1) none, st, s.2.2.2) else none
  | _ => none
def op_astore (a : Nat) : pS → Option pS := fun s => match s.2.2.1 with
  | .ref x :: st => if pm_ok s.2.1 a = true then some (s.1 + 1, s.2.1.set a (some (.ref x)), st, s.2.2.2) else none
  | _ => none
def op_ic (x : Int32) : pS → Option pS := fun s => some (s.1 + 1, s.2.1, .int x :: s.2.2.1, s.2.2.2)
def op_lc (x : Int64) : pS → Option pS := fun s => some (s.1 + 1, s.2.1, .long x :: s.2.2.1, s.2.2.2)
def op_iinc (a : Nat) (d : Int32) : pS → Option pS := fun s => match s.2.1[a]? with
  | some (some (.int x)) => if pm_ok s.2.1 a = true then some (s.1 + 1, s.2.1.set a (some (.int (x + d))), s.2.2.1, s.2.2.2) else none
  | _ => none
def op_bin (f : Int32 → Int32 → Int32) : pS → Option pS := fun s => match s.2.2.1 with
  | .int y :: .int x :: st => some (s.1 + 1, s.2.1, .int (f x y) :: st, s.2.2.2)
  | _ => none
def op_div (f : Int32 → Int32 → Int32) : pS → Option pS := fun s => match s.2.2.1 with
  | .int y :: .int x :: st => if y = 0 then none else some (s.1 + 1, s.2.1, .int (f x y) :: st, s.2.2.2)
  | _ => none
def op_lbin (f : Int64 → Int64 → Int64) : pS → Option pS := fun s => match s.2.2.1 with
  | .long y :: .long x :: st => some (s.1 + 1, s.2.1, .long (f x y) :: st, s.2.2.2)
  | _ => none
def op_ldiv (f : Int64 → Int64 → Int64) : pS → Option pS := fun s => match s.2.2.1 with
  | .long y :: .long x :: st => if y = 0 then none else some (s.1 + 1, s.2.1, .long (f x y) :: st, s.2.2.2)
  | _ => none
def op_i2l : pS → Option pS := fun s => match s.2.2.1 with
  | .int x :: st => some (s.1 + 1, s.2.1, .long x.toInt64 :: st, s.2.2.2)
  | _ => none
def op_l2i : pS → Option pS := fun s => match s.2.2.1 with
  | .long x :: st => some (s.1 + 1, s.2.1, .int x.toInt32 :: st, s.2.2.2)
  | _ => none
def op_lcmp : pS → Option pS := fun s => match s.2.2.1 with
  | .long y :: .long x :: st => some (s.1 + 1, s.2.1, .int (lg_cmp x y) :: st, s.2.2.2)
  | _ => none
def op_dup : pS → Option pS := fun s => match s.2.2.1 with
  | .int x :: st => some (s.1 + 1, s.2.1, .int x :: .int x :: st, s.2.2.2)
  | .ref x :: st => some (s.1 + 1, s.2.1, .ref x :: .ref x :: st, s.2.2.2)
  | _ => none
def op_dup2 : pS → Option pS := fun s => match s.2.2.1 with
  | .int x :: .ref y :: st => some (s.1 + 1, s.2.1, .int x :: .ref y :: .int x :: .ref y :: st, s.2.2.2)
  | _ => none
def op_pop : pS → Option pS := fun s => match s.2.2.1 with
  | .int _ :: st => some (s.1 + 1, s.2.1, st, s.2.2.2)
  | .ref _ :: st => some (s.1 + 1, s.2.1, st, s.2.2.2)
  | _ => none
def op_goto (t : Nat) : pS → Option pS := fun s => some (t, s.2.1, s.2.2.1, s.2.2.2)
def op_if (c : Int32 → Bool) (t : Nat) : pS → Option pS := fun s => match s.2.2.1 with
  | .int x :: st => some (if c x = true then t else s.1 + 1, s.2.1, st, s.2.2.2)
  | _ => none
def op_icmp (c : Int32 → Int32 → Bool) (t : Nat) : pS → Option pS := fun s => match s.2.2.1 with
  | .int y :: .int x :: st => some (if c x y = true then t else s.1 + 1, s.2.1, st, s.2.2.2)
  | _ => none
def pm_sw (d : Nat) : List (Int32 × Nat) → Int32 → Nat
  | [], _ => d
  | q :: r, x => if x = q.1 then q.2 else pm_sw d r x
def op_sw (d : Nat) (l : List (Int32 × Nat)) : pS → Option pS := fun s => match s.2.2.1 with
  | .int x :: st => some (pm_sw d l x, s.2.1, st, s.2.2.2)
  | _ => none
def op_getI (ci k : Nat) : pS → Option pS := fun s => match s.2.2.1 with
  | .ref a :: st => match s.2.2.2[a]? with
    | some (.inr (c, fs)) => if c = ci then (match fs[k]? with
      | some (.int x) => some (s.1 + 1, s.2.1, .int x :: st, s.2.2.2)
      | _ => none) else none
    | _ => none
  | _ => none
def op_getA (ci k : Nat) : pS → Option pS := fun s => match s.2.2.1 with
  | .ref a :: st => match s.2.2.2[a]? with
    | some (.inr (c, fs)) => if c = ci then (match fs[k]? with
      | some (.ref x) => some (s.1 + 1, s.2.1, .ref x :: st, s.2.2.2)
      | _ => none) else none
    | _ => none
  | _ => none
def op_putI (ci k : Nat) : pS → Option pS := fun s => match s.2.2.1 with
  | .int x :: .ref a :: st => match s.2.2.2[a]? with
    | some (.inr (c, fs)) => if c = ci ∧ k < fs.length then some (s.1 + 1, s.2.1, st, s.2.2.2.set a (.inr (c, fs.set k (.int x)))) else none
    | _ => none
  | _ => none
def op_putZ (ci k : Nat) : pS → Option pS := fun s => match s.2.2.1 with
  | .int x :: .ref a :: st => match s.2.2.2[a]? with
    | some (.inr (c, fs)) => if (c = ci ∧ k < fs.length) ∧ (x = 0 ∨ x = 1) then some (s.1 + 1, s.2.1, st, s.2.2.2.set a (.inr (c, fs.set k (.int x)))) else none
    | _ => none
  | _ => none
def op_putA (ci k : Nat) : pS → Option pS := fun s => match s.2.2.1 with
  | .ref x :: .ref a :: st => match s.2.2.2[a]? with
    | some (.inr (c, fs)) => if c = ci ∧ k < fs.length then some (s.1 + 1, s.2.1, st, s.2.2.2.set a (.inr (c, fs.set k (.ref x)))) else none
    | _ => none
  | _ => none
/-- arrays: kind 0 of ints, 1 of booleans, 2 of longs, 3 the script -/
def op_iald (t : Nat) : pS → Option pS := fun s => match s.2.2.1 with
  | .int i :: .ref a :: st => match s.2.2.2[a]? with
    | some (.inl (t', n, .inl f)) => if t' = t ∧ pin i n = true then some (s.1 + 1, s.2.1, .int (f i.toNatClampNeg) :: st, s.2.2.2) else none
    | _ => none
  | _ => none
def op_lald : pS → Option pS := fun s => match s.2.2.1 with
  | .int i :: .ref a :: st => match s.2.2.2[a]? with
    | some (.inl (t', n, .inr (.inl f))) => if t' = 2 ∧ pin i n = true then some (s.1 + 1, s.2.1, .long (f i.toNatClampNeg) :: st, s.2.2.2) else none
    | _ => none
  | _ => none
def op_iast : pS → Option pS := fun s => match s.2.2.1 with
  | .int x :: .int i :: .ref a :: st => match s.2.2.2[a]? with
    | some (.inl (t', n, .inl f)) => if t' = 0 ∧ pin i n = true then some (s.1 + 1, s.2.1, st, s.2.2.2.set a (.inl (t', n, .inl (upd f i.toNatClampNeg x)))) else none
    | _ => none
  | _ => none
def op_zast : pS → Option pS := fun s => match s.2.2.1 with
  | .int x :: .int i :: .ref a :: st => match s.2.2.2[a]? with
    | some (.inl (t', n, .inl f)) => if (t' = 1 ∧ pin i n = true) ∧ (x = 0 ∨ x = 1) then some (s.1 + 1, s.2.1, st, s.2.2.2.set a (.inl (t', n, .inl (upd f i.toNatClampNeg x)))) else none
    | _ => none
  | _ => none
def op_last : pS → Option pS := fun s => match s.2.2.1 with
  | .long x :: .int i :: .ref a :: st => match s.2.2.2[a]? with
    | some (.inl (t', n, .inr (.inl f))) => if t' = 2 ∧ pin i n = true then some (s.1 + 1, s.2.1, st, s.2.2.2.set a (.inl (t', n, .inr (.inl (vp_updL f i.toNatClampNeg x))))) else none
    | _ => none
  | _ => none
def op_alen (t : Nat) : pS → Option pS := fun s => match s.2.2.1 with
  | .ref a :: st => match s.2.2.2[a]? with
    | some (.inl (t', n, .inl _)) => if t' = t then some (s.1 + 1, s.2.1, .int (Int32.ofNat n) :: st, s.2.2.2) else none
    | _ => none
  | _ => none
def pm_new (t n : Nat) : pE := .inl (t, n, if t = 2 then .inr (.inl (fun _ => 0)) else .inl (fun _ => 0))
def op_newa (t : Nat) : pS → Option pS := fun s => match s.2.2.1 with
  | .int n :: st => if 0 ≤ n ∧ n ≤ 1000 then some (s.1 + 1, s.2.1, .ref s.2.2.2.length :: st, s.2.2.2 ++ [pm_new t n.toNatClampNeg]) else none
  | _ => none
def op_new (ci : Nat) (fs : List Value) : pS → Option pS := fun s => some (s.1 + 1, s.2.1, .ref s.2.2.2.length :: s.2.2.1, s.2.2.2 ++ [.inr (ci, fs)])
def op_objinit : pS → Option pS := fun s => match s.2.2.1 with
  | .ref _ :: st => if (st.map fun v => v.category).sum ≤ 8 then some (s.1 + 1, s.2.1, st, s.2.2.2) else none
  | _ => none
-- runs
def pm_args (n : Nat) (st : List Value) : Option (List Value × List Value) := if n ≤ st.length then some ((st.take n).reverse, st.drop n) else none
def pm_ent : List Value → List pO
  | [] => []
  | .long x :: vs => some (.long x) :: none :: pm_ent vs
  | .double x :: vs => some (.double x) :: none :: pm_ent vs
  | v :: vs => some v :: pm_ent vs
def pm_entry (nL : Nat) (vs : List Value) : List pO := pm_ent vs ++ List.replicate (nL - (pm_ent vs).length) none
def pm_push : Nat → Option Value → List Value → Option (List Value)
  | 0, none, st => some st
  | 1, some (.int x), st => some (.int x :: st)
  | 2, some (.long x), st => some (.long x :: st)
  | _, _, _ => none
/-- kinds of return: 0 none, 1 int, 2 long, 3 boolean -/
def pm_ret : Nat → List Value → Option (Option Value)
  | 0, [] => some none
  | 1, [.int x] => some (some (.int x))
  | 2, [.long x] => some (some (.long x))
  | 3, [.int x] => if x = 0 ∨ x = 1 then some (some (.int x)) else none
  | _, _ => none
def pm_rcv (rc : Nat) (as : List Value) (hp : pH) : Bool := match rc with
  | 0 => true
  | ci + 1 => match as with
    | .ref a :: _ => match hp[a]? with
      | some (.inr (c, _)) => c == ci
      | _ => false
    | _ => false
def pm_may (c : pC) (nL : Nat) (as rest : List Value) (hp : pH) : Bool := decide ((rest.map fun v => v.category).sum ≤ 8) && (decide ((pm_ent as).length ≤ nL) && pm_rcv c.2.2.2 as hp)
def pm_go (E : Nat → pS → Option pR) (G : pG) (k : Nat) (s : pS) : Option pOp → Option pR
  | none => none
  | some (.inl f) => (f s).bind (fun s' => E k s')
  | some (.inr (.inl c)) => (pm_args c.2.1 s.2.2.1).bind (fun ar => if pm_may c (pm_nL G c.1) ar.1 ar.2 s.2.2.2 = true then
      (E c.1 (0, pm_entry (pm_nL G c.1) ar.1, [], s.2.2.2)).bind (fun r => (pm_push c.2.2.1 r.1 ar.2).bind (fun st => E k (s.1 + 1, s.2.1, st, r.2))) else none)
  | some (.inr (.inr rk)) => (pm_ret rk s.2.2.1).map (fun v => (v, s.2.2.2))
def pm_ex (G : pG) : Nat → Nat → pS → Option pR
  | 0, _, _ => none
  | n + 1, k, s => pm_go (pm_ex G n) G k s (G.1 k s.1)
theorem pm_go_le {E E' : Nat → pS → Option pR} (h : ∀ k s r, E k s = some r → E' k s = some r) {G : pG} {k : Nat} {s : pS} {o : Option pOp} {r : pR} (hr : pm_go E G k s o = some r) : pm_go E' G k s o = some r := by
  match o with
  | none => exact hr
  | some (.inl f) =>
    simp only [pm_go, Option.bind_eq_some_iff] at hr ⊢
    obtain ⟨s', h1, h2⟩ := hr
    exact ⟨s', h1, h _ _ _ h2⟩
  | some (.inr (.inl c)) =>
    simp only [pm_go, Option.bind_eq_some_iff] at hr ⊢
    obtain ⟨ar, h1, h2⟩ := hr
    refine ⟨ar, h1, ?_⟩
    split at h2
    · rename_i hm
      rw [if_pos hm]
      simp only [Option.bind_eq_some_iff] at h2 ⊢
      obtain ⟨r1, h3, st, h4, h5⟩ := h2
      exact ⟨r1, h _ _ _ h3, st, h4, h _ _ _ h5⟩
    · cases h2
  | some (.inr (.inr rk)) => exact hr
theorem pm_ex_succ (G : pG) : ∀ (n k : Nat) (s : pS) (r : pR), pm_ex G n k s = some r → pm_ex G (n + 1) k s = some r
  | 0, _, _, _, h => by cases h
  | n + 1, _, _, _, h => pm_go_le (E := pm_ex G n) (E' := pm_ex G (n + 1)) (pm_ex_succ G n) h
theorem pm_ex_le (G : pG) {n m : Nat} (h : n ≤ m) {k : Nat} {s : pS} {r : pR} (hr : pm_ex G n k s = some r) : pm_ex G m k s = some r := by
  induction h with
  | refl => exact hr
  | step _ ih => exact pm_ex_succ G _ _ _ _ ih
/-- what a run comes to, if it comes to an end -/
noncomputable def pm_dn (G : pG) (k : Nat) (s : pS) : Option pR := @dite _ (∃ n, (pm_ex G n k s).isSome = true) (Classical.propDecidable _) (fun h => pm_ex G (Classical.choose h) k s) (fun _ => none)
theorem pm_dn_iff (G : pG) (k : Nat) (s : pS) (r : pR) : pm_dn G k s = some r ↔ ∃ n, pm_ex G n k s = some r := by
  unfold pm_dn
  constructor
  · intro h
    split at h
    · exact ⟨_, h⟩
    · cases h
  · rintro ⟨n, h⟩
    have hs : ∃ n, (pm_ex G n k s).isSome = true := ⟨n, by rw [h]; rfl⟩
    rw [dif_pos hs]
    have h1 := Classical.choose_spec hs
    obtain ⟨r', hr'⟩ := Option.isSome_iff_exists.mp h1
    have e1 := pm_ex_le G (Nat.le_max_left n (Classical.choose hs)) h
    have e2 := pm_ex_le G (Nat.le_max_right n (Classical.choose hs)) hr'
    rw [hr', ← e2, e1]
theorem pm_dn_eq (G : pG) (k : Nat) (s : pS) : pm_dn G k s = pm_go (pm_dn G) G k s (G.1 k s.1) := by
  apply Option.ext
  intro r
  rw [pm_dn_iff]
  constructor
  · rintro ⟨n, h⟩
    match n, h with
    | n + 1, h => exact pm_go_le (E := pm_ex G n) (fun k s r h => (pm_dn_iff G k s r).mpr ⟨n, h⟩) h
  · intro h
    generalize ho : G.1 k s.1 = o at h
    match o, h with
    | none, h => cases h
    | some (.inl f), h =>
      simp only [pm_go, Option.bind_eq_some_iff] at h
      obtain ⟨s', h1, h2⟩ := h
      obtain ⟨n, h2⟩ := (pm_dn_iff _ _ _ _).mp h2
      refine ⟨n + 1, ?_⟩
      show pm_go (pm_ex G n) G k s (G.1 k s.1) = some r
      rw [ho]
      simp only [pm_go, Option.bind_eq_some_iff]
      exact ⟨s', h1, h2⟩
    | some (.inr (.inl c)), h =>
      simp only [pm_go, Option.bind_eq_some_iff] at h
      obtain ⟨ar, h1, h2⟩ := h
      split at h2
      · rename_i hm
        simp only [Option.bind_eq_some_iff] at h2
        obtain ⟨r1, h3, st, h4, h5⟩ := h2
        obtain ⟨n1, h3⟩ := (pm_dn_iff _ _ _ _).mp h3
        obtain ⟨n2, h5⟩ := (pm_dn_iff _ _ _ _).mp h5
        refine ⟨max n1 n2 + 1, ?_⟩
        show pm_go (pm_ex G (max n1 n2)) G k s (G.1 k s.1) = some r
        rw [ho]
        simp only [pm_go, Option.bind_eq_some_iff]
        refine ⟨ar, h1, ?_⟩
        rw [if_pos hm]
        simp only [Option.bind_eq_some_iff]
        exact ⟨r1, pm_ex_le G (Nat.le_max_left _ _) h3, st, h4, pm_ex_le G (Nat.le_max_right _ _) h5⟩
      · cases h2
    | some (.inr (.inr rk)), h =>
      refine ⟨1, ?_⟩
      show pm_go (pm_ex G 0) G k s (G.1 k s.1) = some r
      rw [ho]
      exact h
/-- a run of method k from instruction i on -/
noncomputable def dn (G : pG) (k i : Nat) (ls : List pO) (st : List Value) (hp : pH) : Option pR := pm_dn G k (i, ls, st, hp)
/-- a call of method y -/
noncomputable def cl (G : pG) (y : Nat) (as : List Value) (hp : pH) : Option pR := pm_dn G y (0, pm_entry (pm_nL G y) as, [], hp)
theorem dn_step {G : pG} {k i : Nat} {f : pS → Option pS} (h : G.1 k i = some (.inl f)) (ls : List pO) (st : List Value) (hp : pH) : dn G k i ls st hp = (f (i, ls, st, hp)).bind (fun s' => pm_dn G k s') := by
  unfold dn
  rw [pm_dn_eq]
  show pm_go (pm_dn G) G k (i, ls, st, hp) (G.1 k i) = _
  rw [h]
  rfl
theorem dn_ret {G : pG} {k i rk : Nat} (h : G.1 k i = some (.inr (.inr rk))) (ls : List pO) (st : List Value) (hp : pH) : dn G k i ls st hp = (pm_ret rk st).map (fun v => (v, hp)) := by
  unfold dn
  rw [pm_dn_eq]
  show pm_go (pm_dn G) G k (i, ls, st, hp) (G.1 k i) = _
  rw [h]
  rfl
theorem dn_call {G : pG} {k i : Nat} {c : pC} (h : G.1 k i = some (.inr (.inl c))) (ls : List pO) (st : List Value) (hp : pH) : dn G k i ls st hp = (pm_args c.2.1 st).bind (fun ar => if pm_may c (pm_nL G c.1) ar.1 ar.2 hp = true then (cl G c.1 ar.1 hp).bind (fun r => (pm_push c.2.2.1 r.1 ar.2).bind (fun st => dn G k (i + 1) ls st r.2)) else none) := by
  unfold dn
  rw [pm_dn_eq]
  show pm_go (pm_dn G) G k (i, ls, st, hp) (G.1 k i) = _
  rw [h]
  rfl
end
section
/-! The Statement's machine goes as the pure one goes: steps. -/
abbrev pN : Type := String × Nat × MethodName × String
def pm_nw (q : pN) : Cond := .methodLinkNest q.1 q.2.1 q.2.2.1 q.2.2.2
/-- the tables: classes, their words, the nest's words -/
abbrev pT : Type := List vw_C × List Cond × List pN
/-- a world: where the script lies, where the new cells begin, the script; the classes' numbers and slots, the arrays' classes -/
abbrev pW : Type := (Nat × Nat × Nat × (Nat → Int32)) × va_G × (Nat → ClassId)
def pm_ad (w : pW) : Nat → Nat
  | 0 => w.1.1
  | i + 1 => w.1.2.1 + i
def pm_em (w : pW) : Value → Value
  | .ref i => .ref (pm_ad w i)
  | v => v
def pm_emE (w : pW) : pE → va_E
  | .inl (t, a) => .inl (w.2.2 t, a)
  | .inr (c, fs) => .inr (c, fs.map (pm_em w))
def pm_HR (T : pT) (w : pW) (hp : pH) (H : Heap) : Prop := hp[0]? = some (.inl (3, w.1.2.2.1, .inl w.1.2.2.2)) ∧ H.size + 1 = w.1.2.1 + hp.length ∧ ∀ (i : Nat) (e : pE), hp[i + 1]? = some e → va_at w.2.1 T.1 (w.1.2.1 + i, pm_emE w e) H ∧ ∀ (t : Nat) (x : vp_A), e = .inl (t, x) → t ≠ 3
def pm_A (w : pW) : Nat → Prop := fun q => w.1.2.1 ≤ q
def pm_tys (w : pW) : List (ClassId × FieldType) := [(w.2.2 0, .int), (w.2.2 1, .boolean), (w.2.2 2, .long)]
/-- what holds of the tables in a state -/
def pm_K (T : pT) (w : pW) (s : State) : Prop := va_K w.2.1 T.1 (pm_tys w) s ∧ (∀ q ∈ T.2.2, va_Nw (pm_nw q) s) ∧ va_X w.1.1 w.1.2.2.1 w.1.2.2.2 s s.heap ∧ w.1.1 < w.1.2.1 ∧ w.1.2.1 ≤ s.heap.size
def pm_Cx (G : pG) (T : pT) (w : pW) (k : Nat) (p : Program) (m : MethodId) (c : Code) (meth : Method) (s : State) (args : Array Value) : Prop :=
  p.tables.exec = Jvm.exec ∧ c.code = pm_by G k ∧ c.maxLocals = pm_nL G k ∧ s.vm.findClass (pm_nm G k).cls = some m.cls ∧ (∀ v ∈ T.2.1, v.before args s = true) ∧ pm_K T w s ∧ meth.locks = false ∧ meth.sig.returnType = pm_rt G k ∧ meth.name = (pm_nm G k).name
def pm_LR (w : pW) (nL : Nat) (mls : Array Slot) (ls : List pO) : Prop := mls.size = nL ∧ ls.length = nL ∧ lv_wf mls ∧ ∀ (j : Nat) (v : Value), ls[j]? = some (some v) → mls[j]? = some (Slot.val (pm_em w v))
theorem pm_em_cat (w : pW) (v : Value) : (pm_em w v).category = v.category := by cases v <;> rfl
def pm_asc (w : pW) (ls : List pO) : List (Nat × Value) := (List.range ls.length).filterMap (fun j => match ls[j]? with
  | some (some v) => some (j, pm_em w v)
  | _ => none)
theorem pm_asc_mem {w : pW} {ls : List pO} {q : Nat × Value} : q ∈ pm_asc w ls ↔ ∃ v, ls[q.1]? = some (some v) ∧ q.2 = pm_em w v := by
  unfold pm_asc
  rw [List.mem_filterMap]
  constructor
  · rintro ⟨j, -, h⟩
    split at h
    · rename_i v hv
      cases h
      exact ⟨v, hv, rfl⟩
    · cases h
  · rintro ⟨v, h1, h2⟩
    refine ⟨q.1, List.mem_range.mpr (List.getElem?_eq_some_iff.mp h1).1, ?_⟩
    rw [h1]
    show some (q.1, pm_em w v) = some q
    rw [← h2]
theorem pm_LR.has {w : pW} {nL : Nat} {mls : Array Slot} {ls : List pO} (h : pm_LR w nL mls ls) : lv_has mls nL (pm_asc w ls) := by
  refine ⟨h.1, h.2.2.1, fun q hq => ?_⟩
  obtain ⟨v, h1, h2⟩ := pm_asc_mem.mp hq
  rw [h2]
  exact h.2.2.2 _ _ h1
theorem pm_ok_lt {ls : List pO} {a : Nat} (h : pm_ok ls a = true) : a < ls.length := by
  unfold pm_ok at h
  simp only [Bool.and_eq_true, decide_eq_true_eq] at h
  exact h.1
theorem pm_ok_no {ls : List pO} {j : Nat} {v : Value} (h : pm_ok ls (j + 1) = true) (hv : ls[j]? = some (some v)) : v.category = 1 := by
  unfold pm_ok at h
  simp only [Bool.and_eq_true, decide_eq_true_eq] at h
  have h2 := h.2
  rw [hv] at h2
  cases v <;> first | rfl | cases h2
theorem pm_LR.set1 {w : pW} {nL a : Nat} {mls mls' : Array Slot} {ls : List pO} {v : Value} (h : pm_LR w nL mls ls) (hok : pm_ok ls a = true)
    (h' : lv_has mls' nL ((a, pm_em w v) :: (pm_asc w ls).filter (fun q => !(q.1 == a) && !(q.1 + 1 == a && q.2.category == 2)))) : pm_LR w nL mls' (ls.set a (some v)) := by
  refine ⟨h'.1, by rw [List.length_set]; exact h.2.1, h'.2.1, fun j u hu => ?_⟩
  by_cases hj : j = a
  · subst hj
    rw [List.getElem?_set_self (pm_ok_lt hok)] at hu
    cases hu
    exact h'.2.2 _ List.mem_cons_self
  · rw [List.getElem?_set_ne (Ne.symm hj)] at hu
    refine h'.2.2 (j, pm_em w u) (List.mem_cons_of_mem _ (List.mem_filter.mpr ⟨pm_asc_mem.mpr ⟨u, hu, rfl⟩, ?_⟩))
    simp only [Bool.and_eq_true, Bool.not_eq_true', beq_eq_false_iff_ne, ne_eq, Bool.and_eq_false_iff]
    refine ⟨hj, ?_⟩
    by_cases hj1 : j + 1 = a
    · subst hj1
      right
      rw [pm_em_cat, pm_ok_no hok hu]
      decide
    · exact Or.inl hj1
theorem pm_LR.set2 {w : pW} {nL a : Nat} {mls mls' : Array Slot} {ls : List pO} {v : Value} (h : pm_LR w nL mls ls) (hok : pm_ok ls a = true) (ha : a + 1 < ls.length)
    (h' : lv_has mls' nL ((a, pm_em w v) :: (pm_asc w ls).filter (fun q => !(q.1 == a) && (!(q.1 == a + 1) && !(q.1 + 1 == a && q.2.category == 2))))) : pm_LR w nL mls' ((ls.set a (some v)).set (a + 1) none) := by
  refine ⟨h'.1, by rw [List.length_set, List.length_set]; exact h.2.1, h'.2.1, fun j u hu => ?_⟩
  by_cases hj2 : j = a + 1
  · subst hj2
    rw [List.getElem?_set_self (by rw [List.length_set]; exact ha)] at hu
    cases hu
  rw [List.getElem?_set_ne (Ne.symm hj2)] at hu
  by_cases hj : j = a
  · subst hj
    rw [List.getElem?_set_self (pm_ok_lt hok)] at hu
    cases hu
    exact h'.2.2 _ List.mem_cons_self
  · rw [List.getElem?_set_ne (Ne.symm hj)] at hu
    refine h'.2.2 (j, pm_em w u) (List.mem_cons_of_mem _ (List.mem_filter.mpr ⟨pm_asc_mem.mpr ⟨u, hu, rfl⟩, ?_⟩))
    simp only [Bool.and_eq_true, Bool.not_eq_true', beq_eq_false_iff_ne, ne_eq, Bool.and_eq_false_iff]
    refine ⟨hj, hj2, ?_⟩
    by_cases hj1 : j + 1 = a
    · subst hj1
      right
      rw [pm_em_cat, pm_ok_no hok hu]
      decide
    · exact Or.inl hj1
def pm_esz : pE → Nat
  | .inl q => q.2.1
  | .inr q => q.2.length
def pm_sz (hp : pH) : Nat := (hp.map pm_esz).sum
/-- the machine does the step f at place i of method k -/
def pm_Sim (G : pG) (T : pT) (k i : Nat) (f : pS → Option pS) : Prop :=
  ∀ (p : Program) (l : Launch) (e : Env) (R : Room) (s : State) (m : MethodId) (args : Array Value) (below : List Frame) (meth : Method) (c : Code) (w : pW), pm_Cx G T w k p m c meth s args → 1 ≤ R.frames → 20 ≤ R.locals →
  ∀ (H : Heap) (locs : List Loc) (cells slots : Nat) (Q : State → Prop) (mls : Array Slot) (ls : List pO) (st : List Value) (hp : pH) (s' : pS), f (i, ls, st, hp) = some s' →
  (hp.length ≤ s'.2.2.2.length ∧ pm_sz hp ≤ pm_sz s'.2.2.2) ∧
  (pm_HR T w hp H → va_S (pm_A w) s.heap H locs → pm_LR w (pm_nL G k) mls ls → cells + (s'.2.2.2.length - hp.length) ≤ R.cells → slots + (pm_sz s'.2.2.2 - pm_sz hp) ≤ R.slots →
  (∀ (H' : Heap) (locs' : List Loc) (mls' : Array Slot), pm_HR T w s'.2.2.2 H' → va_S (pm_A w) s.heap H' locs' → pm_LR w (pm_nL G k) mls' s'.2.1 →
    W p l e R s m args below meth c H' locs' (cells + (s'.2.2.2.length - hp.length)) (slots + (pm_sz s'.2.2.2 - pm_sz hp)) Q (F0 m (pm_pc G k s'.1) mls' (s'.2.2.1.map (pm_em w)))) →
  W p l e R s m args below meth c H locs cells slots Q (F0 m (pm_pc G k i) mls (st.map (pm_em w))))
/-- a step that leaves the heap as it is -/
def pm_Sim0 (G : pG) (T : pT) (k i : Nat) (f : pS → Option pS) : Prop :=
  ∀ (p : Program) (l : Launch) (e : Env) (R : Room) (s : State) (m : MethodId) (args : Array Value) (below : List Frame) (meth : Method) (c : Code) (w : pW), pm_Cx G T w k p m c meth s args → 1 ≤ R.frames → 20 ≤ R.locals →
  ∀ (H : Heap) (locs : List Loc) (cells slots : Nat) (Q : State → Prop) (mls : Array Slot) (ls : List pO) (st : List Value) (hp : pH) (s' : pS), f (i, ls, st, hp) = some s' →
  s'.2.2.2 = hp ∧
  (pm_HR T w hp H → va_S (pm_A w) s.heap H locs → pm_LR w (pm_nL G k) mls ls →
  (∀ (mls' : Array Slot), pm_LR w (pm_nL G k) mls' s'.2.1 → W p l e R s m args below meth c H locs cells slots Q (F0 m (pm_pc G k s'.1) mls' (s'.2.2.1.map (pm_em w)))) →
  W p l e R s m args below meth c H locs cells slots Q (F0 m (pm_pc G k i) mls (st.map (pm_em w))))
theorem pm_Sim0.sim {G : pG} {T : pT} {k i : Nat} {f : pS → Option pS} (h : pm_Sim0 G T k i f) : pm_Sim G T k i f := by
  intro p l e R s m args below meth c w C hR1 hR2 H locs cells slots Q mls ls st hp s' hf
  obtain ⟨h1, h2⟩ := h p l e R s m args below meth c w C hR1 hR2 H locs cells slots Q mls ls st hp s' hf
  rw [h1]
  refine ⟨⟨Nat.le_refl _, Nat.le_refl _⟩, fun hH hS hL hc hs kk => h2 hH hS hL (fun mls' hL' => ?_)⟩
  have := kk H locs mls' hH hS hL'
  rw [Nat.sub_self, Nat.sub_self] at this
  exact this
section Steps0
variable {G : pG} {T : pT} {k i a : Nat}
theorem so_iload_n {n : Fin 4} (hd : decode (pm_by G k) (pm_pc G k i) = .ok (.iload_n n, 1)) (hn : (n : Nat) = a) (hp1 : pm_pc G k (i + 1) = pm_pc G k i + 1) : pm_Sim0 G T k i (op_iload a) := by
  intro p l e R s m args below meth c w C hR1 hR2 H locs cells slots Q mls ls st hp s' hf
  unfold op_iload at hf
  dsimp only at hf
  split at hf
  · rename_i x hx
    cases hf
    refine ⟨rfl, fun hH hS hL kk => ?_⟩
    dsimp only at kk
    rw [hp1] at kk
    exact lv_iload_n C.1 C.2.1 hd hn (hL.2.2.2 _ _ hx) (kk mls hL)
  · cases hf
theorem so_iload (hd : decode (pm_by G k) (pm_pc G k i) = .ok (.iload a, 2)) (hp1 : pm_pc G k (i + 1) = pm_pc G k i + 2) : pm_Sim0 G T k i (op_iload a) := by
  intro p l e R s m args below meth c w C hR1 hR2 H locs cells slots Q mls ls st hp s' hf
  unfold op_iload at hf
  dsimp only at hf
  split at hf
  · rename_i x hx
    cases hf
    refine ⟨rfl, fun hH hS hL kk => ?_⟩
    dsimp only at kk
    rw [hp1] at kk
    exact lv_iload C.1 C.2.1 hd (hL.2.2.2 _ _ hx) (kk mls hL)
  · cases hf
theorem so_lload_n {n : Fin 4} (hd : decode (pm_by G k) (pm_pc G k i) = .ok (.lload_n n, 1)) (hn : (n : Nat) = a) (hp1 : pm_pc G k (i + 1) = pm_pc G k i + 1) : pm_Sim0 G T k i (op_lload a) := by
  intro p l e R s m args below meth c w C hR1 hR2 H locs cells slots Q mls ls st hp s' hf
  unfold op_lload at hf
  dsimp only at hf
  split at hf
  · rename_i x hx
    cases hf
    refine ⟨rfl, fun hH hS hL kk => ?_⟩
    dsimp only at kk
    rw [hp1] at kk
    exact lv_lload_n C.1 C.2.1 hd hn (hL.2.2.2 _ _ hx) (kk mls hL)
  · cases hf
theorem so_lload (hd : decode (pm_by G k) (pm_pc G k i) = .ok (.lload a, 2)) (hp1 : pm_pc G k (i + 1) = pm_pc G k i + 2) : pm_Sim0 G T k i (op_lload a) := by
  intro p l e R s m args below meth c w C hR1 hR2 H locs cells slots Q mls ls st hp s' hf
  unfold op_lload at hf
  dsimp only at hf
  split at hf
  · rename_i x hx
    cases hf
    refine ⟨rfl, fun hH hS hL kk => ?_⟩
    dsimp only at kk
    rw [hp1] at kk
    exact lv_lload C.1 C.2.1 hd (hL.2.2.2 _ _ hx) (kk mls hL)
  · cases hf
theorem so_aload_n {n : Fin 4} (hd : decode (pm_by G k) (pm_pc G k i) = .ok (.aload_n n, 1)) (hn : (n : Nat) = a) (hp1 : pm_pc G k (i + 1) = pm_pc G k i + 1) : pm_Sim0 G T k i (op_aload a) := by
  intro p l e R s m args below meth c w C hR1 hR2 H locs cells slots Q mls ls st hp s' hf
  unfold op_aload at hf
  dsimp only at hf
  split at hf
  · rename_i x hx
    cases hf
    refine ⟨rfl, fun hH hS hL kk => ?_⟩
    dsimp only at kk
    rw [hp1] at kk
    exact lv_aload_n C.1 C.2.1 hd hn (hL.2.2.2 _ _ hx) (kk mls hL)
  · cases hf
theorem so_aload (hd : decode (pm_by G k) (pm_pc G k i) = .ok (.aload a, 2)) (hp1 : pm_pc G k (i + 1) = pm_pc G k i + 2) : pm_Sim0 G T k i (op_aload a) := by
  intro p l e R s m args below meth c w C hR1 hR2 H locs cells slots Q mls ls st hp s' hf
  unfold op_aload at hf
  dsimp only at hf
  split at hf
  · rename_i x hx
    cases hf
    refine ⟨rfl, fun hH hS hL kk => ?_⟩
    dsimp only at kk
    rw [hp1] at kk
    exact lv_aload C.1 C.2.1 hd (hL.2.2.2 _ _ hx) (kk mls hL)
  · cases hf
theorem so_istore_n {n : Fin 4} (hd : decode (pm_by G k) (pm_pc G k i) = .ok (.istore_n n, 1)) (hn : (n : Nat) = a) (hp1 : pm_pc G k (i + 1) = pm_pc G k i + 1) : pm_Sim0 G T k i (op_istore a) := by
  intro p l e R s m args below meth c w C hR1 hR2 H locs cells slots Q mls ls st hp s' hf
  unfold op_istore at hf
  dsimp only at hf
  split at hf
  · rename_i x st'
    split at hf
    · rename_i hok
      cases hf
      refine ⟨rfl, fun hH hS hL kk => ?_⟩
      dsimp only at kk
      rw [hp1] at kk
      exact lv_istore_n C.1 C.2.1 hd hn hL.has (by rw [← hL.2.1]; exact pm_ok_lt hok) rfl (fun mls' h' => kk mls' (hL.set1 (v := .int x) hok h'))
    · cases hf
  · cases hf
theorem so_istore (hd : decode (pm_by G k) (pm_pc G k i) = .ok (.istore a, 2)) (hp1 : pm_pc G k (i + 1) = pm_pc G k i + 2) : pm_Sim0 G T k i (op_istore a) := by
  intro p l e R s m args below meth c w C hR1 hR2 H locs cells slots Q mls ls st hp s' hf
  unfold op_istore at hf
  dsimp only at hf
  split at hf
  · rename_i x st'
    split at hf
    · rename_i hok
      cases hf
      refine ⟨rfl, fun hH hS hL kk => ?_⟩
      dsimp only at kk
      rw [hp1] at kk
      exact lv_istore C.1 C.2.1 hd hL.has (by rw [← hL.2.1]; exact pm_ok_lt hok) rfl (fun mls' h' => kk mls' (hL.set1 (v := .int x) hok h'))
    · cases hf
  · cases hf
theorem so_astore_n {n : Fin 4} (hd : decode (pm_by G k) (pm_pc G k i) = .ok (.astore_n n, 1)) (hn : (n : Nat) = a) (hp1 : pm_pc G k (i + 1) = pm_pc G k i + 1) : pm_Sim0 G T k i (op_astore a) := by
  intro p l e R s m args below meth c w C hR1 hR2 H locs cells slots Q mls ls st hp s' hf
  unfold op_astore at hf
  dsimp only at hf
  split at hf
  · rename_i x st'
    split at hf
    · rename_i hok
      cases hf
      refine ⟨rfl, fun hH hS hL kk => ?_⟩
      dsimp only at kk
      rw [hp1] at kk
      exact lv_astore_n C.1 C.2.1 hd hn hL.has (by rw [← hL.2.1]; exact pm_ok_lt hok) rfl (fun mls' h' => kk mls' (hL.set1 (v := .ref x) hok h'))
    · cases hf
  · cases hf
theorem so_astore (hd : decode (pm_by G k) (pm_pc G k i) = .ok (.astore a, 2)) (hp1 : pm_pc G k (i + 1) = pm_pc G k i + 2) : pm_Sim0 G T k i (op_astore a) := by
  intro p l e R s m args below meth c w C hR1 hR2 H locs cells slots Q mls ls st hp s' hf
  unfold op_astore at hf
  dsimp only at hf
  split at hf
  · rename_i x st'
    split at hf
    · rename_i hok
      cases hf
      refine ⟨rfl, fun hH hS hL kk => ?_⟩
      dsimp only at kk
      rw [hp1] at kk
      exact lv_astore C.1 C.2.1 hd hL.has (by rw [← hL.2.1]; exact pm_ok_lt hok) rfl (fun mls' h' => kk mls' (hL.set1 (v := .ref x) hok h'))
    · cases hf
  · cases hf
theorem so_lstore_n {n : Fin 4} (hd : decode (pm_by G k) (pm_pc G k i) = .ok (.lstore_n n, 1)) (hn : (n : Nat) = a) (hp1 : pm_pc G k (i + 1) = pm_pc G k i + 1) : pm_Sim0 G T k i (op_lstore a) := by
  intro p l e R s m args below meth c w C hR1 hR2 H locs cells slots Q mls ls st hp s' hf
  unfold op_lstore at hf
  dsimp only at hf
  split at hf
  · rename_i x st'
    split at hf
    · rename_i hok
      cases hf
      refine ⟨rfl, fun hH hS hL kk => ?_⟩
      dsimp only at kk
      rw [hp1] at kk
      exact lv_lstore_n C.1 C.2.1 hd hn hL.has (by rw [← hL.2.1]; exact hok.2) rfl (fun mls' h' => kk mls' (hL.set2 (v := .long x) hok.1 hok.2 h'))
    · cases hf
  · cases hf
theorem so_lstore (hd : decode (pm_by G k) (pm_pc G k i) = .ok (.lstore a, 2)) (hp1 : pm_pc G k (i + 1) = pm_pc G k i + 2) : pm_Sim0 G T k i (op_lstore a) := by
  intro p l e R s m args below meth c w C hR1 hR2 H locs cells slots Q mls ls st hp s' hf
  unfold op_lstore at hf
  dsimp only at hf
  split at hf
  · rename_i x st'
    split at hf
    · rename_i hok
      cases hf
      refine ⟨rfl, fun hH hS hL kk => ?_⟩
      dsimp only at kk
      rw [hp1] at kk
      exact lv_lstore C.1 C.2.1 hd hL.has (by rw [← hL.2.1]; exact hok.2) rfl (fun mls' h' => kk mls' (hL.set2 (v := .long x) hok.1 hok.2 h'))
    · cases hf
  · cases hf
theorem so_iinc {n : Int} {d : Int32} (hd : decode (pm_by G k) (pm_pc G k i) = .ok (.iinc a n, 3)) (hn : Int32.ofInt n = d) (hp1 : pm_pc G k (i + 1) = pm_pc G k i + 3) : pm_Sim0 G T k i (op_iinc a d) := by
  intro p l e R s m args below meth c w C hR1 hR2 H locs cells slots Q mls ls st hp s' hf
  unfold op_iinc at hf
  dsimp only at hf
  split at hf
  · rename_i x hx
    split at hf
    · rename_i hok
      cases hf
      refine ⟨rfl, fun hH hS hL kk => ?_⟩
      dsimp only at kk
      rw [hp1] at kk
      obtain ⟨j, hj⟩ := List.getElem?_of_mem (pm_asc_mem (w := w) (ls := ls) (q := (a, .int x)) |>.mpr ⟨.int x, hx, rfl⟩)
      exact lv_iinc C.1 C.2.1 hd hL.has (k := j) hj (by rw [hn]) (by rw [← hL.2.1]; exact pm_ok_lt hok) rfl (fun mls' h' => kk mls' (hL.set1 (v := .int (x + d)) hok h'))
    · cases hf
  · cases hf
theorem so_iconst {n : Int} {x : Int32} (hd : decode (pm_by G k) (pm_pc G k i) = .ok (.iconst n, 1)) (hn : Int32.ofInt n = x) (hp1 : pm_pc G k (i + 1) = pm_pc G k i + 1) : pm_Sim0 G T k i (op_ic x) := by
  intro p l e R s m args below meth c w C hR1 hR2 H locs cells slots Q mls ls st hp s' hf
  cases hf
  refine ⟨rfl, fun hH hS hL kk => ?_⟩
  dsimp only at kk
  rw [hp1] at kk
  exact lv_iconst C.1 C.2.1 hd hn (kk mls hL)
theorem so_bipush {n : Int} {x : Int32} (hd : decode (pm_by G k) (pm_pc G k i) = .ok (.bipush n, 2)) (hn : (Int8.ofInt n).toInt32 = x) (hp1 : pm_pc G k (i + 1) = pm_pc G k i + 2) : pm_Sim0 G T k i (op_ic x) := by
  intro p l e R s m args below meth c w C hR1 hR2 H locs cells slots Q mls ls st hp s' hf
  cases hf
  refine ⟨rfl, fun hH hS hL kk => ?_⟩
  dsimp only at kk
  rw [hp1] at kk
  exact lv_bipush C.1 C.2.1 hd hn (kk mls hL)
theorem so_sipush {n : Int} {x : Int32} (hd : decode (pm_by G k) (pm_pc G k i) = .ok (.sipush n, 3)) (hn : (Int16.ofInt n).toInt32 = x) (hp1 : pm_pc G k (i + 1) = pm_pc G k i + 3) : pm_Sim0 G T k i (op_ic x) := by
  intro p l e R s m args below meth c w C hR1 hR2 H locs cells slots Q mls ls st hp s' hf
  cases hf
  refine ⟨rfl, fun hH hS hL kk => ?_⟩
  dsimp only at kk
  rw [hp1] at kk
  exact lv_sipush C.1 C.2.1 hd hn (kk mls hL)
theorem so_ldc {n : Nat} {x : Int32} (hd : decode (pm_by G k) (pm_pc G k i) = .ok (.ldc n, 2)) (hm : Cond.constant (pm_nm G k).cls n x ∈ T.2.1) (hp1 : pm_pc G k (i + 1) = pm_pc G k i + 2) : pm_Sim0 G T k i (op_ic x) := by
  intro p l e R s m args below meth c w C hR1 hR2 H locs cells slots Q mls ls st hp s' hf
  cases hf
  refine ⟨rfl, fun hH hS hL kk => ?_⟩
  dsimp only at kk
  rw [hp1] at kk
  exact lv_ldc C.1 C.2.1 C.2.2.2.1 (C.2.2.2.2.1 _ hm) hd (kk mls hL)
theorem so_ldcw {n : Nat} {x : Int32} (hd : decode (pm_by G k) (pm_pc G k i) = .ok (.ldc_w n, 3)) (hm : Cond.constant (pm_nm G k).cls n x ∈ T.2.1) (hp1 : pm_pc G k (i + 1) = pm_pc G k i + 3) : pm_Sim0 G T k i (op_ic x) := by
  intro p l e R s m args below meth c w C hR1 hR2 H locs cells slots Q mls ls st hp s' hf
  cases hf
  refine ⟨rfl, fun hH hS hL kk => ?_⟩
  dsimp only at kk
  rw [hp1] at kk
  exact lv_ldcw C.1 C.2.1 C.2.2.2.1 (C.2.2.2.2.1 _ hm) hd (kk mls hL)
theorem so_ldc2 {n : Nat} {x : Int64} (hd : decode (pm_by G k) (pm_pc G k i) = .ok (.ldc2_w n, 3)) (hm : Cond.constantLong (pm_nm G k).cls n x ∈ T.2.1) (hp1 : pm_pc G k (i + 1) = pm_pc G k i + 3) : pm_Sim0 G T k i (op_lc x) := by
  intro p l e R s m args below meth c w C hR1 hR2 H locs cells slots Q mls ls st hp s' hf
  cases hf
  refine ⟨rfl, fun hH hS hL kk => ?_⟩
  dsimp only at kk
  rw [hp1] at kk
  exact lv_ldc2 C.1 C.2.1 C.2.2.2.1 (C.2.2.2.2.1 _ hm) hd (kk mls hL)
theorem so_lconst {n : Fin 2} {x : Int64} (hd : decode (pm_by G k) (pm_pc G k i) = .ok (.lconst n, 1)) (hn : Int64.ofNat (n : Nat) = x) (hp1 : pm_pc G k (i + 1) = pm_pc G k i + 1) : pm_Sim0 G T k i (op_lc x) := by
  intro p l e R s m args below meth c w C hR1 hR2 H locs cells slots Q mls ls st hp s' hf
  cases hf
  refine ⟨rfl, fun hH hS hL kk => ?_⟩
  dsimp only at kk
  rw [hp1] at kk
  exact lv_lconst C.1 C.2.1 hd hn (kk mls hL)
theorem so_iadd (hd : decode (pm_by G k) (pm_pc G k i) = .ok (.iadd, 1)) (hp1 : pm_pc G k (i + 1) = pm_pc G k i + 1) : pm_Sim0 G T k i (op_bin (fun x y => x + y)) := by
  intro p l e R s m args below meth c w C hR1 hR2 H locs cells slots Q mls ls st hp s' hf
  unfold op_bin at hf
  dsimp only at hf
  split at hf
  · rename_i y x st'
    cases hf
    refine ⟨rfl, fun hH hS hL kk => ?_⟩
    dsimp only at kk
    rw [hp1] at kk
    exact lv_iadd C.1 C.2.1 hd (kk mls hL)
  · cases hf
theorem so_isub (hd : decode (pm_by G k) (pm_pc G k i) = .ok (.isub, 1)) (hp1 : pm_pc G k (i + 1) = pm_pc G k i + 1) : pm_Sim0 G T k i (op_bin (fun x y => x - y)) := by
  intro p l e R s m args below meth c w C hR1 hR2 H locs cells slots Q mls ls st hp s' hf
  unfold op_bin at hf
  dsimp only at hf
  split at hf
  · rename_i y x st'
    cases hf
    refine ⟨rfl, fun hH hS hL kk => ?_⟩
    dsimp only at kk
    rw [hp1] at kk
    exact lv_isub C.1 C.2.1 hd (kk mls hL)
  · cases hf
theorem so_imul (hd : decode (pm_by G k) (pm_pc G k i) = .ok (.imul, 1)) (hp1 : pm_pc G k (i + 1) = pm_pc G k i + 1) : pm_Sim0 G T k i (op_bin (fun x y => x * y)) := by
  intro p l e R s m args below meth c w C hR1 hR2 H locs cells slots Q mls ls st hp s' hf
  unfold op_bin at hf
  dsimp only at hf
  split at hf
  · rename_i y x st'
    cases hf
    refine ⟨rfl, fun hH hS hL kk => ?_⟩
    dsimp only at kk
    rw [hp1] at kk
    exact lv_imul C.1 C.2.1 hd (kk mls hL)
  · cases hf
theorem so_iand (hd : decode (pm_by G k) (pm_pc G k i) = .ok (.iand, 1)) (hp1 : pm_pc G k (i + 1) = pm_pc G k i + 1) : pm_Sim0 G T k i (op_bin (fun x y => x &&& y)) := by
  intro p l e R s m args below meth c w C hR1 hR2 H locs cells slots Q mls ls st hp s' hf
  unfold op_bin at hf
  dsimp only at hf
  split at hf
  · rename_i y x st'
    cases hf
    refine ⟨rfl, fun hH hS hL kk => ?_⟩
    dsimp only at kk
    rw [hp1] at kk
    exact lv_iand C.1 C.2.1 hd (kk mls hL)
  · cases hf
theorem so_ior (hd : decode (pm_by G k) (pm_pc G k i) = .ok (.ior, 1)) (hp1 : pm_pc G k (i + 1) = pm_pc G k i + 1) : pm_Sim0 G T k i (op_bin (fun x y => x ||| y)) := by
  intro p l e R s m args below meth c w C hR1 hR2 H locs cells slots Q mls ls st hp s' hf
  unfold op_bin at hf
  dsimp only at hf
  split at hf
  · rename_i y x st'
    cases hf
    refine ⟨rfl, fun hH hS hL kk => ?_⟩
    dsimp only at kk
    rw [hp1] at kk
    exact lv_ior C.1 C.2.1 hd (kk mls hL)
  · cases hf
theorem so_ixor (hd : decode (pm_by G k) (pm_pc G k i) = .ok (.ixor, 1)) (hp1 : pm_pc G k (i + 1) = pm_pc G k i + 1) : pm_Sim0 G T k i (op_bin (fun x y => x ^^^ y)) := by
  intro p l e R s m args below meth c w C hR1 hR2 H locs cells slots Q mls ls st hp s' hf
  unfold op_bin at hf
  dsimp only at hf
  split at hf
  · rename_i y x st'
    cases hf
    refine ⟨rfl, fun hH hS hL kk => ?_⟩
    dsimp only at kk
    rw [hp1] at kk
    exact lv_ixor C.1 C.2.1 hd (kk mls hL)
  · cases hf
theorem so_ishl (hd : decode (pm_by G k) (pm_pc G k i) = .ok (.ishl, 1)) (hp1 : pm_pc G k (i + 1) = pm_pc G k i + 1) : pm_Sim0 G T k i (op_bin (fun x y => x <<< (y &&& 31))) := by
  intro p l e R s m args below meth c w C hR1 hR2 H locs cells slots Q mls ls st hp s' hf
  unfold op_bin at hf
  dsimp only at hf
  split at hf
  · rename_i y x st'
    cases hf
    refine ⟨rfl, fun hH hS hL kk => ?_⟩
    dsimp only at kk
    rw [hp1] at kk
    exact lv_ishl C.1 C.2.1 hd (kk mls hL)
  · cases hf
theorem so_ishr (hd : decode (pm_by G k) (pm_pc G k i) = .ok (.ishr, 1)) (hp1 : pm_pc G k (i + 1) = pm_pc G k i + 1) : pm_Sim0 G T k i (op_bin (fun x y => x >>> (y &&& 31))) := by
  intro p l e R s m args below meth c w C hR1 hR2 H locs cells slots Q mls ls st hp s' hf
  unfold op_bin at hf
  dsimp only at hf
  split at hf
  · rename_i y x st'
    cases hf
    refine ⟨rfl, fun hH hS hL kk => ?_⟩
    dsimp only at kk
    rw [hp1] at kk
    exact lv_ishr C.1 C.2.1 hd (kk mls hL)
  · cases hf
theorem so_idiv (hd : decode (pm_by G k) (pm_pc G k i) = .ok (.idiv, 1)) (hp1 : pm_pc G k (i + 1) = pm_pc G k i + 1) : pm_Sim0 G T k i (op_div (fun x y => x / y)) := by
  intro p l e R s m args below meth c w C hR1 hR2 H locs cells slots Q mls ls st hp s' hf
  unfold op_div at hf
  dsimp only at hf
  split at hf
  · rename_i y x st'
    split at hf
    · cases hf
    rename_i hy
    cases hf
    refine ⟨rfl, fun hH hS hL kk => ?_⟩
    dsimp only at kk
    rw [hp1] at kk
    exact lv_idiv C.1 C.2.1 hd hy (kk mls hL)
  · cases hf
theorem so_irem (hd : decode (pm_by G k) (pm_pc G k i) = .ok (.irem, 1)) (hp1 : pm_pc G k (i + 1) = pm_pc G k i + 1) : pm_Sim0 G T k i (op_div (fun x y => x % y)) := by
  intro p l e R s m args below meth c w C hR1 hR2 H locs cells slots Q mls ls st hp s' hf
  unfold op_div at hf
  dsimp only at hf
  split at hf
  · rename_i y x st'
    split at hf
    · cases hf
    rename_i hy
    cases hf
    refine ⟨rfl, fun hH hS hL kk => ?_⟩
    dsimp only at kk
    rw [hp1] at kk
    have kk := kk mls hL
    rw [← irem_eq_mod] at kk
    exact lv_irem C.1 C.2.1 hd hy kk
  · cases hf
theorem so_ladd (hd : decode (pm_by G k) (pm_pc G k i) = .ok (.ladd, 1)) (hp1 : pm_pc G k (i + 1) = pm_pc G k i + 1) : pm_Sim0 G T k i (op_lbin (fun x y => x + y)) := by
  intro p l e R s m args below meth c w C hR1 hR2 H locs cells slots Q mls ls st hp s' hf
  unfold op_lbin at hf
  dsimp only at hf
  split at hf
  · rename_i y x st'
    cases hf
    refine ⟨rfl, fun hH hS hL kk => ?_⟩
    dsimp only at kk
    rw [hp1] at kk
    exact lv_ladd C.1 C.2.1 hd (kk mls hL)
  · cases hf
theorem so_lmul (hd : decode (pm_by G k) (pm_pc G k i) = .ok (.lmul, 1)) (hp1 : pm_pc G k (i + 1) = pm_pc G k i + 1) : pm_Sim0 G T k i (op_lbin (fun x y => x * y)) := by
  intro p l e R s m args below meth c w C hR1 hR2 H locs cells slots Q mls ls st hp s' hf
  unfold op_lbin at hf
  dsimp only at hf
  split at hf
  · rename_i y x st'
    cases hf
    refine ⟨rfl, fun hH hS hL kk => ?_⟩
    dsimp only at kk
    rw [hp1] at kk
    exact lv_lmul C.1 C.2.1 hd (kk mls hL)
  · cases hf
theorem so_ldiv (hd : decode (pm_by G k) (pm_pc G k i) = .ok (.ldiv, 1)) (hp1 : pm_pc G k (i + 1) = pm_pc G k i + 1) : pm_Sim0 G T k i (op_ldiv (fun x y => x / y)) := by
  intro p l e R s m args below meth c w C hR1 hR2 H locs cells slots Q mls ls st hp s' hf
  unfold op_ldiv at hf
  dsimp only at hf
  split at hf
  · rename_i y x st'
    split at hf
    · cases hf
    rename_i hy
    cases hf
    refine ⟨rfl, fun hH hS hL kk => ?_⟩
    dsimp only at kk
    rw [hp1] at kk
    exact lv_ldiv C.1 C.2.1 hd hy (kk mls hL)
  · cases hf
theorem so_lrem (hd : decode (pm_by G k) (pm_pc G k i) = .ok (.lrem, 1)) (hp1 : pm_pc G k (i + 1) = pm_pc G k i + 1) : pm_Sim0 G T k i (op_ldiv (fun x y => x - x / y * y)) := by
  intro p l e R s m args below meth c w C hR1 hR2 H locs cells slots Q mls ls st hp s' hf
  unfold op_ldiv at hf
  dsimp only at hf
  split at hf
  · rename_i y x st'
    split at hf
    · cases hf
    rename_i hy
    cases hf
    refine ⟨rfl, fun hH hS hL kk => ?_⟩
    dsimp only at kk
    rw [hp1] at kk
    exact lv_lrem C.1 C.2.1 hd hy (kk mls hL)
  · cases hf
theorem so_lcmp (hd : decode (pm_by G k) (pm_pc G k i) = .ok (.lcmp, 1)) (hp1 : pm_pc G k (i + 1) = pm_pc G k i + 1) : pm_Sim0 G T k i (op_lcmp ) := by
  intro p l e R s m args below meth c w C hR1 hR2 H locs cells slots Q mls ls st hp s' hf
  unfold op_lcmp at hf
  dsimp only at hf
  split at hf
  · rename_i y x st'
    cases hf
    refine ⟨rfl, fun hH hS hL kk => ?_⟩
    dsimp only at kk
    rw [hp1] at kk
    exact W.lcmp C.1 C.2.1 hd (kk mls hL)
  · cases hf
theorem so_iushr (hd : decode (pm_by G k) (pm_pc G k i) = .ok (.iushr, 1)) (hp1 : pm_pc G k (i + 1) = pm_pc G k i + 1) : pm_Sim0 G T k i (op_bin (fun x y => (x.toUInt32 >>> (y.toUInt32 &&& Int32.toUInt32 31)).toInt32)) := by
  intro p l e R s m args below meth c w C hR1 hR2 H locs cells slots Q mls ls st hp s' hf
  unfold op_bin at hf
  dsimp only at hf
  split at hf
  · rename_i y x st'
    cases hf
    refine ⟨rfl, fun hH hS hL kk => ?_⟩
    dsimp only at kk
    rw [hp1] at kk
    exact lv_iushr C.1 C.2.1 hd rfl (kk mls hL)
  · cases hf
theorem so_i2l (hd : decode (pm_by G k) (pm_pc G k i) = .ok (.i2l, 1)) (hp1 : pm_pc G k (i + 1) = pm_pc G k i + 1) : pm_Sim0 G T k i op_i2l := by
  intro p l e R s m args below meth c w C hR1 hR2 H locs cells slots Q mls ls st hp s' hf
  unfold op_i2l at hf
  dsimp only at hf
  split at hf
  · rename_i x st'
    cases hf
    refine ⟨rfl, fun hH hS hL kk => ?_⟩
    dsimp only at kk
    rw [hp1] at kk
    exact lv_i2l C.1 C.2.1 hd rfl (kk mls hL)
  · cases hf
theorem so_l2i (hd : decode (pm_by G k) (pm_pc G k i) = .ok (.l2i, 1)) (hp1 : pm_pc G k (i + 1) = pm_pc G k i + 1) : pm_Sim0 G T k i op_l2i := by
  intro p l e R s m args below meth c w C hR1 hR2 H locs cells slots Q mls ls st hp s' hf
  unfold op_l2i at hf
  dsimp only at hf
  split at hf
  · rename_i x st'
    cases hf
    refine ⟨rfl, fun hH hS hL kk => ?_⟩
    dsimp only at kk
    rw [hp1] at kk
    exact lv_l2i C.1 C.2.1 hd rfl (kk mls hL)
  · cases hf
theorem so_dup (hd : decode (pm_by G k) (pm_pc G k i) = .ok (.dup, 1)) (hp1 : pm_pc G k (i + 1) = pm_pc G k i + 1) : pm_Sim0 G T k i op_dup := by
  intro p l e R s m args below meth c w C hR1 hR2 H locs cells slots Q mls ls st hp s' hf
  unfold op_dup at hf
  dsimp only at hf
  split at hf
  · cases hf
    refine ⟨rfl, fun hH hS hL kk => ?_⟩
    dsimp only at kk
    rw [hp1] at kk
    exact lv_dup C.1 C.2.1 hd rfl (kk mls hL)
  · cases hf
    refine ⟨rfl, fun hH hS hL kk => ?_⟩
    dsimp only at kk
    rw [hp1] at kk
    exact lv_dup C.1 C.2.1 hd rfl (kk mls hL)
  · cases hf
theorem so_pop (hd : decode (pm_by G k) (pm_pc G k i) = .ok (.pop, 1)) (hp1 : pm_pc G k (i + 1) = pm_pc G k i + 1) : pm_Sim0 G T k i op_pop := by
  intro p l e R s m args below meth c w C hR1 hR2 H locs cells slots Q mls ls st hp s' hf
  unfold op_pop at hf
  dsimp only at hf
  split at hf
  · cases hf
    refine ⟨rfl, fun hH hS hL kk => ?_⟩
    dsimp only at kk
    rw [hp1] at kk
    exact lv_pop C.1 C.2.1 hd rfl (kk mls hL)
  · cases hf
    refine ⟨rfl, fun hH hS hL kk => ?_⟩
    dsimp only at kk
    rw [hp1] at kk
    exact lv_pop C.1 C.2.1 hd rfl (kk mls hL)
  · cases hf
theorem so_dup2 (hd : decode (pm_by G k) (pm_pc G k i) = .ok (.dup2, 1)) (hp1 : pm_pc G k (i + 1) = pm_pc G k i + 1) : pm_Sim0 G T k i op_dup2 := by
  intro p l e R s m args below meth c w C hR1 hR2 H locs cells slots Q mls ls st hp s' hf
  unfold op_dup2 at hf
  dsimp only at hf
  split at hf
  · cases hf
    refine ⟨rfl, fun hH hS hL kk => ?_⟩
    dsimp only at kk
    rw [hp1] at kk
    exact lv_dup2_11 C.1 C.2.1 hd rfl rfl (kk mls hL)
  · cases hf
theorem so_goto {off : Int} {t : Nat} (hd : decode (pm_by G k) (pm_pc G k i) = .ok (.goto off, 3)) (ht : (pm_pc G k i : Int) + off = (pm_pc G k t : Int)) : pm_Sim0 G T k i (op_goto t) := by
  intro p l e R s m args below meth c w C hR1 hR2 H locs cells slots Q mls ls st hp s' hf
  cases hf
  exact ⟨rfl, fun hH hS hL kk => lv_goto C.1 C.2.1 hd ht (kk mls hL)⟩
theorem so_if_eq {off : Int} {t : Nat} (hd : decode (pm_by G k) (pm_pc G k i) = .ok (.ifCond .eq off, 3)) (ht : (pm_pc G k i : Int) + off = (pm_pc G k t : Int)) (hp1 : pm_pc G k (i + 1) = pm_pc G k i + 3) : pm_Sim0 G T k i (op_if (fun x => decide (x = 0)) t) := by
  intro p l e R s m args below meth c w C hR1 hR2 H locs cells slots Q mls ls st hp s' hf
  unfold op_if at hf
  dsimp only at hf
  split at hf
  · rename_i x st'
    cases hf
    exact ⟨rfl, fun hH hS hL kk => lv_if_eq C.1 C.2.1 hd ht (fun h => by have := kk mls hL; dsimp only at this; rw [if_pos (decide_eq_true h)] at this; exact this) (fun h => by have := kk mls hL; dsimp only at this; rw [if_neg (fun z => h (of_decide_eq_true z)), hp1] at this; exact this)⟩
  · cases hf
theorem so_icmp_eq {off : Int} {t : Nat} (hd : decode (pm_by G k) (pm_pc G k i) = .ok (.if_icmp .eq off, 3)) (ht : (pm_pc G k i : Int) + off = (pm_pc G k t : Int)) (hp1 : pm_pc G k (i + 1) = pm_pc G k i + 3) : pm_Sim0 G T k i (op_icmp (fun x y => decide (x = y)) t) := by
  intro p l e R s m args below meth c w C hR1 hR2 H locs cells slots Q mls ls st hp s' hf
  unfold op_icmp at hf
  dsimp only at hf
  split at hf
  · rename_i y x st'
    cases hf
    exact ⟨rfl, fun hH hS hL kk => lv_icmp_eq C.1 C.2.1 hd ht (fun h => by have := kk mls hL; dsimp only at this; rw [if_pos (decide_eq_true h)] at this; exact this) (fun h => by have := kk mls hL; dsimp only at this; rw [if_neg (fun z => h (of_decide_eq_true z)), hp1] at this; exact this)⟩
  · cases hf
theorem so_if_ne {off : Int} {t : Nat} (hd : decode (pm_by G k) (pm_pc G k i) = .ok (.ifCond .ne off, 3)) (ht : (pm_pc G k i : Int) + off = (pm_pc G k t : Int)) (hp1 : pm_pc G k (i + 1) = pm_pc G k i + 3) : pm_Sim0 G T k i (op_if (fun x => decide (¬ x = 0)) t) := by
  intro p l e R s m args below meth c w C hR1 hR2 H locs cells slots Q mls ls st hp s' hf
  unfold op_if at hf
  dsimp only at hf
  split at hf
  · rename_i x st'
    cases hf
    exact ⟨rfl, fun hH hS hL kk => lv_if_ne C.1 C.2.1 hd ht (fun h => by have := kk mls hL; dsimp only at this; rw [if_pos (decide_eq_true h)] at this; exact this) (fun h => by have := kk mls hL; dsimp only at this; rw [if_neg (fun z => (of_decide_eq_true z) h), hp1] at this; exact this)⟩
  · cases hf
theorem so_icmp_ne {off : Int} {t : Nat} (hd : decode (pm_by G k) (pm_pc G k i) = .ok (.if_icmp .ne off, 3)) (ht : (pm_pc G k i : Int) + off = (pm_pc G k t : Int)) (hp1 : pm_pc G k (i + 1) = pm_pc G k i + 3) : pm_Sim0 G T k i (op_icmp (fun x y => decide (¬ x = y)) t) := by
  intro p l e R s m args below meth c w C hR1 hR2 H locs cells slots Q mls ls st hp s' hf
  unfold op_icmp at hf
  dsimp only at hf
  split at hf
  · rename_i y x st'
    cases hf
    exact ⟨rfl, fun hH hS hL kk => lv_icmp_ne C.1 C.2.1 hd ht (fun h => by have := kk mls hL; dsimp only at this; rw [if_pos (decide_eq_true h)] at this; exact this) (fun h => by have := kk mls hL; dsimp only at this; rw [if_neg (fun z => (of_decide_eq_true z) h), hp1] at this; exact this)⟩
  · cases hf
theorem so_if_lt {off : Int} {t : Nat} (hd : decode (pm_by G k) (pm_pc G k i) = .ok (.ifCond .lt off, 3)) (ht : (pm_pc G k i : Int) + off = (pm_pc G k t : Int)) (hp1 : pm_pc G k (i + 1) = pm_pc G k i + 3) : pm_Sim0 G T k i (op_if (fun x => decide (x < 0)) t) := by
  intro p l e R s m args below meth c w C hR1 hR2 H locs cells slots Q mls ls st hp s' hf
  unfold op_if at hf
  dsimp only at hf
  split at hf
  · rename_i x st'
    cases hf
    exact ⟨rfl, fun hH hS hL kk => lv_if_lt C.1 C.2.1 hd ht (fun h => by have := kk mls hL; dsimp only at this; rw [if_pos (decide_eq_true h)] at this; exact this) (fun h => by have := kk mls hL; dsimp only at this; rw [if_neg (fun z => h (of_decide_eq_true z)), hp1] at this; exact this)⟩
  · cases hf
theorem so_icmp_lt {off : Int} {t : Nat} (hd : decode (pm_by G k) (pm_pc G k i) = .ok (.if_icmp .lt off, 3)) (ht : (pm_pc G k i : Int) + off = (pm_pc G k t : Int)) (hp1 : pm_pc G k (i + 1) = pm_pc G k i + 3) : pm_Sim0 G T k i (op_icmp (fun x y => decide (x < y)) t) := by
  intro p l e R s m args below meth c w C hR1 hR2 H locs cells slots Q mls ls st hp s' hf
  unfold op_icmp at hf
  dsimp only at hf
  split at hf
  · rename_i y x st'
    cases hf
    exact ⟨rfl, fun hH hS hL kk => lv_icmp_lt C.1 C.2.1 hd ht (fun h => by have := kk mls hL; dsimp only at this; rw [if_pos (decide_eq_true h)] at this; exact this) (fun h => by have := kk mls hL; dsimp only at this; rw [if_neg (fun z => h (of_decide_eq_true z)), hp1] at this; exact this)⟩
  · cases hf
theorem so_if_ge {off : Int} {t : Nat} (hd : decode (pm_by G k) (pm_pc G k i) = .ok (.ifCond .ge off, 3)) (ht : (pm_pc G k i : Int) + off = (pm_pc G k t : Int)) (hp1 : pm_pc G k (i + 1) = pm_pc G k i + 3) : pm_Sim0 G T k i (op_if (fun x => decide (0 ≤ x)) t) := by
  intro p l e R s m args below meth c w C hR1 hR2 H locs cells slots Q mls ls st hp s' hf
  unfold op_if at hf
  dsimp only at hf
  split at hf
  · rename_i x st'
    cases hf
    exact ⟨rfl, fun hH hS hL kk => lv_if_ge C.1 C.2.1 hd ht (fun h => by have := kk mls hL; dsimp only at this; rw [if_pos (decide_eq_true h)] at this; exact this) (fun h => by have := kk mls hL; dsimp only at this; rw [if_neg (fun z => h (of_decide_eq_true z)), hp1] at this; exact this)⟩
  · cases hf
theorem so_icmp_ge {off : Int} {t : Nat} (hd : decode (pm_by G k) (pm_pc G k i) = .ok (.if_icmp .ge off, 3)) (ht : (pm_pc G k i : Int) + off = (pm_pc G k t : Int)) (hp1 : pm_pc G k (i + 1) = pm_pc G k i + 3) : pm_Sim0 G T k i (op_icmp (fun x y => decide (y ≤ x)) t) := by
  intro p l e R s m args below meth c w C hR1 hR2 H locs cells slots Q mls ls st hp s' hf
  unfold op_icmp at hf
  dsimp only at hf
  split at hf
  · rename_i y x st'
    cases hf
    exact ⟨rfl, fun hH hS hL kk => lv_icmp_ge C.1 C.2.1 hd ht (fun h => by have := kk mls hL; dsimp only at this; rw [if_pos (decide_eq_true h)] at this; exact this) (fun h => by have := kk mls hL; dsimp only at this; rw [if_neg (fun z => h (of_decide_eq_true z)), hp1] at this; exact this)⟩
  · cases hf
theorem so_if_gt {off : Int} {t : Nat} (hd : decode (pm_by G k) (pm_pc G k i) = .ok (.ifCond .gt off, 3)) (ht : (pm_pc G k i : Int) + off = (pm_pc G k t : Int)) (hp1 : pm_pc G k (i + 1) = pm_pc G k i + 3) : pm_Sim0 G T k i (op_if (fun x => decide (0 < x)) t) := by
  intro p l e R s m args below meth c w C hR1 hR2 H locs cells slots Q mls ls st hp s' hf
  unfold op_if at hf
  dsimp only at hf
  split at hf
  · rename_i x st'
    cases hf
    exact ⟨rfl, fun hH hS hL kk => lv_if_gt C.1 C.2.1 hd ht (fun h => by have := kk mls hL; dsimp only at this; rw [if_pos (decide_eq_true h)] at this; exact this) (fun h => by have := kk mls hL; dsimp only at this; rw [if_neg (fun z => h (of_decide_eq_true z)), hp1] at this; exact this)⟩
  · cases hf
theorem so_icmp_gt {off : Int} {t : Nat} (hd : decode (pm_by G k) (pm_pc G k i) = .ok (.if_icmp .gt off, 3)) (ht : (pm_pc G k i : Int) + off = (pm_pc G k t : Int)) (hp1 : pm_pc G k (i + 1) = pm_pc G k i + 3) : pm_Sim0 G T k i (op_icmp (fun x y => decide (y < x)) t) := by
  intro p l e R s m args below meth c w C hR1 hR2 H locs cells slots Q mls ls st hp s' hf
  unfold op_icmp at hf
  dsimp only at hf
  split at hf
  · rename_i y x st'
    cases hf
    exact ⟨rfl, fun hH hS hL kk => lv_icmp_gt C.1 C.2.1 hd ht (fun h => by have := kk mls hL; dsimp only at this; rw [if_pos (decide_eq_true h)] at this; exact this) (fun h => by have := kk mls hL; dsimp only at this; rw [if_neg (fun z => h (of_decide_eq_true z)), hp1] at this; exact this)⟩
  · cases hf
theorem so_if_le {off : Int} {t : Nat} (hd : decode (pm_by G k) (pm_pc G k i) = .ok (.ifCond .le off, 3)) (ht : (pm_pc G k i : Int) + off = (pm_pc G k t : Int)) (hp1 : pm_pc G k (i + 1) = pm_pc G k i + 3) : pm_Sim0 G T k i (op_if (fun x => decide (x ≤ 0)) t) := by
  intro p l e R s m args below meth c w C hR1 hR2 H locs cells slots Q mls ls st hp s' hf
  unfold op_if at hf
  dsimp only at hf
  split at hf
  · rename_i x st'
    cases hf
    exact ⟨rfl, fun hH hS hL kk => lv_if_le C.1 C.2.1 hd ht (fun h => by have := kk mls hL; dsimp only at this; rw [if_pos (decide_eq_true h)] at this; exact this) (fun h => by have := kk mls hL; dsimp only at this; rw [if_neg (fun z => h (of_decide_eq_true z)), hp1] at this; exact this)⟩
  · cases hf
theorem so_icmp_le {off : Int} {t : Nat} (hd : decode (pm_by G k) (pm_pc G k i) = .ok (.if_icmp .le off, 3)) (ht : (pm_pc G k i : Int) + off = (pm_pc G k t : Int)) (hp1 : pm_pc G k (i + 1) = pm_pc G k i + 3) : pm_Sim0 G T k i (op_icmp (fun x y => decide (x ≤ y)) t) := by
  intro p l e R s m args below meth c w C hR1 hR2 H locs cells slots Q mls ls st hp s' hf
  unfold op_icmp at hf
  dsimp only at hf
  split at hf
  · rename_i y x st'
    cases hf
    exact ⟨rfl, fun hH hS hL kk => lv_icmp_le C.1 C.2.1 hd ht (fun h => by have := kk mls hL; dsimp only at this; rw [if_pos (decide_eq_true h)] at this; exact this) (fun h => by have := kk mls hL; dsimp only at this; rw [if_neg (fun z => h (of_decide_eq_true z)), hp1] at this; exact this)⟩
  · cases hf
end Steps0
end
section
/-! Steps that read or write the heap. -/
theorem pm_P1 {D : va_G} {cl : List vw_C} {q : Nat × va_E} {H : Heap} (h : va_at D cl q H) : va_P D cl [q] H := by
  intro k x hx
  match k, hx with
  | 0, hx => cases hx; exact h
  | k + 1, hx => simp at hx
theorem pm_HR.at {T : pT} {w : pW} {hp : pH} {H : Heap} (h : pm_HR T w hp H) {a : Nat} {c : Nat} {fs : List Value} (ha : hp[a]? = some (.inr (c, fs))) : ∃ j, a = j + 1 ∧ va_at w.2.1 T.1 (w.1.2.1 + j, .inr (c, fs.map (pm_em w))) H := by
  match a, ha with
  | 0, ha => rw [h.1] at ha; cases ha
  | j + 1, ha => exact ⟨j, rfl, (h.2.2 j _ ha).1⟩
theorem pm_HR.arr {T : pT} {w : pW} {hp : pH} {H : Heap} (h : pm_HR T w hp H) {a t : Nat} {x : vp_A} (ht : t ≠ 3) (ha : hp[a]? = some (.inl (t, x))) : ∃ j, a = j + 1 ∧ va_at w.2.1 T.1 (w.1.2.1 + j, .inl (w.2.2 t, x)) H := by
  match a, ha with
  | 0, ha => rw [h.1] at ha; cases ha; exact absurd rfl ht
  | j + 1, ha => exact ⟨j, rfl, (h.2.2 j _ ha).1⟩
theorem pm_HR.zero {T : pT} {w : pW} {hp : pH} {H : Heap} (h : pm_HR T w hp H) {a : Nat} {x : vp_A} (ha : hp[a]? = some (.inl (3, x))) : a = 0 := by
  match a, ha with
  | 0, _ => rfl
  | j + 1, ha => exact absurd rfl ((h.2.2 j _ ha).2 3 x rfl)
theorem pm_HR.set {T : pT} {w : pW} {hp : pH} {H H1 : Heap} (h : pm_HR T w hp H) {j : Nat} {e : pE} (hj : j + 1 < hp.length) (he : va_at w.2.1 T.1 (w.1.2.1 + j, pm_emE w e) H1) (hn : ∀ (t : Nat) (x : vp_A), e = .inl (t, x) → t ≠ 3) (hz : H1.size = H.size) (ho : ∀ q : Nat, q ≠ w.1.2.1 + j → H1[q]? = H[q]?) : pm_HR T w (hp.set (j + 1) e) H1 := by
  refine ⟨?_, ?_, fun i e' hi => ?_⟩
  · rw [List.getElem?_set_ne (by omega)]
    exact h.1
  · rw [hz, List.length_set]
    exact h.2.1
  · by_cases hij : i = j
    · subst hij
      rw [List.getElem?_set_self hj] at hi
      cases hi
      exact ⟨he, hn⟩
    · rw [List.getElem?_set_ne (by omega)] at hi
      exact ⟨(h.2.2 i e' hi).1.kept (ho _ (by show w.1.2.1 + i ≠ _; omega)), (h.2.2 i e' hi).2⟩
theorem pm_HR.push {T : pT} {w : pW} {hp : pH} {H H1 : Heap} (h : pm_HR T w hp H) {e : pE} (he : va_at w.2.1 T.1 (H.size, pm_emE w e) H1) (hn3 : ∀ (t : Nat) (x : vp_A), e = .inl (t, x) → t ≠ 3) (hz : H1.size = H.size + 1) (ho : ∀ q : Nat, q < H.size → H1[q]? = H[q]?) : pm_HR T w (hp ++ [e]) H1 ∧ pm_ad w hp.length = H.size := by
  have hl : 0 < hp.length := (List.getElem?_eq_some_iff.mp h.1).1
  have hs := h.2.1
  obtain ⟨n, hn⟩ : ∃ n, hp.length = n + 1 := ⟨hp.length - 1, by omega⟩
  have hsz : H.size = w.1.2.1 + n := by omega
  refine ⟨⟨?_, ?_, fun i e' hi => ?_⟩, by rw [hn, hsz]; rfl⟩
  · rw [List.getElem?_append_left hl]
    exact h.1
  · rw [hz, List.length_append, List.length_singleton]
    omega
  · by_cases hi2 : i + 1 < hp.length
    · rw [List.getElem?_append_left hi2] at hi
      exact ⟨(h.2.2 i e' hi).1.kept (ho _ (by show w.1.2.1 + i < _; omega)), (h.2.2 i e' hi).2⟩
    · rw [List.getElem?_append_right (by omega)] at hi
      have hk : i + 1 - hp.length < 1 := (List.getElem?_eq_some_iff.mp hi).1
      have hin : i = n := by omega
      subst hin
      rw [show i + 1 - hp.length = 0 by omega] at hi
      cases hi
      rw [← hsz]
      exact ⟨he, hn3⟩
theorem pm_sz_set : ∀ (hp : pH) (a : Nat) (e e0 : pE), hp[a]? = some e0 → pm_esz e = pm_esz e0 → pm_sz (hp.set a e) = pm_sz hp
  | [], a, e, e0, h, _ => by simp at h
  | x :: hp, 0, e, e0, h, hs => by
    rw [List.getElem?_cons_zero] at h
    cases h
    show (pm_esz e :: hp.map pm_esz).sum = (pm_esz x :: hp.map pm_esz).sum
    rw [hs]
  | x :: hp, a + 1, e, e0, h, hs => by
    rw [List.getElem?_cons_succ] at h
    have := pm_sz_set hp a e e0 h hs
    show (pm_esz x :: (hp.set a e).map pm_esz).sum = (pm_esz x :: hp.map pm_esz).sum
    rw [List.sum_cons, List.sum_cons]
    unfold pm_sz at this
    rw [this]
theorem pm_sz_app (hp : pH) (e : pE) : pm_sz (hp ++ [e]) = pm_sz hp + pm_esz e := by
  unfold pm_sz
  rw [List.map_append, List.sum_append]
  simp
/-- a step that writes cells that are there -/
def pm_SimS (G : pG) (T : pT) (k i : Nat) (f : pS → Option pS) : Prop :=
  ∀ (p : Program) (l : Launch) (e : Env) (R : Room) (s : State) (m : MethodId) (args : Array Value) (below : List Frame) (meth : Method) (c : Code) (w : pW), pm_Cx G T w k p m c meth s args → 1 ≤ R.frames → 20 ≤ R.locals →
  ∀ (H : Heap) (locs : List Loc) (cells slots : Nat) (Q : State → Prop) (mls : Array Slot) (ls : List pO) (st : List Value) (hp : pH) (s' : pS), f (i, ls, st, hp) = some s' →
  (s'.2.2.2.length = hp.length ∧ pm_sz s'.2.2.2 = pm_sz hp) ∧
  (pm_HR T w hp H → va_S (pm_A w) s.heap H locs → pm_LR w (pm_nL G k) mls ls →
  (∀ (H' : Heap) (locs' : List Loc) (mls' : Array Slot), pm_HR T w s'.2.2.2 H' → va_S (pm_A w) s.heap H' locs' → pm_LR w (pm_nL G k) mls' s'.2.1 → W p l e R s m args below meth c H' locs' cells slots Q (F0 m (pm_pc G k s'.1) mls' (s'.2.2.1.map (pm_em w)))) →
  W p l e R s m args below meth c H locs cells slots Q (F0 m (pm_pc G k i) mls (st.map (pm_em w))))
theorem pm_SimS.sim {G : pG} {T : pT} {k i : Nat} {f : pS → Option pS} (h : pm_SimS G T k i f) : pm_Sim G T k i f := by
  intro p l e R s m args below meth c w C hR1 hR2 H locs cells slots Q mls ls st hp s' hf
  obtain ⟨⟨h0, h1⟩, h2⟩ := h p l e R s m args below meth c w C hR1 hR2 H locs cells slots Q mls ls st hp s' hf
  rw [h0, h1]
  refine ⟨⟨Nat.le_refl _, Nat.le_refl _⟩, fun hH hS hL hc hs kk => h2 hH hS hL (fun H' locs' mls' hH' hS' hL' => ?_)⟩
  have := kk H' locs' mls' hH' hS' hL'
  rw [Nat.sub_self, Nat.sub_self] at this
  exact this
section StepsH
variable {G : pG} {T : pT} {k i : Nat}
theorem so_getI {n ci j N : Nat} {C : String} {Tb : u_T} (hd : decode (pm_by G k) (pm_pc G k i) = .ok (.getfield n, 3)) (hc : T.1[ci]? = some (C, Tb, N)) (hj : j < N) (hl : Cond.fieldLink (pm_nm G k).cls n (Tb j).1 (Tb j).2.1 (Tb j).2.2.1 ∈ T.2.1) (hin : ∀ v ∈ u_ws C Tb N, v ∈ T.2.1) (hp1 : pm_pc G k (i + 1) = pm_pc G k i + 3) : pm_Sim0 G T k i (op_getI ci j) := by
  intro p l e R s m args below meth c w C0 hR1 hR2 H locs cells slots Q mls ls st hp s' hf
  unfold op_getI at hf
  dsimp only at hf
  split at hf
  · rename_i a st'
    split at hf
    · rename_i c' fs ha
      split at hf
      · rename_i hci
        subst hci
        split at hf
        · rename_i x hx
          cases hf
          refine ⟨rfl, fun hH hS hL kk => ?_⟩
          dsimp only at kk
          rw [hp1] at kk
          obtain ⟨q, rfl, hat⟩ := hH.at ha
          exact va_get C0.1 C0.2.1 C0.2.2.2.2.1 hin C0.2.2.2.1 C0.2.2.2.2.2.1.1 (pm_P1 hat) 0 rfl hc j hj (C0.2.2.2.2.1 _ hl) (fun _ h => h) (by rw [List.getElem?_map, hx]; rfl) hd (kk mls hL)
        · cases hf
      · cases hf
    · cases hf
  · cases hf
theorem so_getA {n ci j N : Nat} {C : String} {Tb : u_T} (hd : decode (pm_by G k) (pm_pc G k i) = .ok (.getfield n, 3)) (hc : T.1[ci]? = some (C, Tb, N)) (hj : j < N) (hl : Cond.fieldLink (pm_nm G k).cls n (Tb j).1 (Tb j).2.1 (Tb j).2.2.1 ∈ T.2.1) (hin : ∀ v ∈ u_ws C Tb N, v ∈ T.2.1) (hp1 : pm_pc G k (i + 1) = pm_pc G k i + 3) : pm_Sim0 G T k i (op_getA ci j) := by
  intro p l e R s m args below meth c w C0 hR1 hR2 H locs cells slots Q mls ls st hp s' hf
  unfold op_getA at hf
  dsimp only at hf
  split at hf
  · rename_i a st'
    split at hf
    · rename_i c' fs ha
      split at hf
      · rename_i hci
        subst hci
        split at hf
        · rename_i x hx
          cases hf
          refine ⟨rfl, fun hH hS hL kk => ?_⟩
          dsimp only at kk
          rw [hp1] at kk
          obtain ⟨q, rfl, hat⟩ := hH.at ha
          exact va_get C0.1 C0.2.1 C0.2.2.2.2.1 hin C0.2.2.2.1 C0.2.2.2.2.2.1.1 (pm_P1 hat) 0 rfl hc j hj (C0.2.2.2.2.1 _ hl) (fun _ h => h) (by rw [List.getElem?_map, hx]; rfl) hd (kk mls hL)
        · cases hf
      · cases hf
    · cases hf
  · cases hf
/-- a store into a field, final or not -/
theorem pm_put {p : Program} {l : Launch} {e : Env} {R : Room} {s : State} {m : MethodId} {args : Array Value} {below : List Frame} {meth : Method} {c : Code} {w : pW} (C0 : pm_Cx G T w k p m c meth s args) {H : Heap} {locs : List Loc} {cells slots : Nat} {Q : State → Prop} {pc : Nat} {mls : Array Slot} {rest : List Value}
    {n ci j N : Nat} {C : String} {Tb : u_T} {ty : Nat → FieldType} (hd : decode (pm_by G k) pc = .ok (.putfield n, 3)) (hc : T.1[ci]? = some (C, Tb, N)) (hj : j < N) (hl : Cond.fieldLink (pm_nm G k).cls n (Tb j).1 (Tb j).2.1 (Tb j).2.2.1 ∈ T.2.1) (hin : ∀ v ∈ u_ws C Tb N, v ∈ T.2.1) (hty : ∀ x, x < N → parseFieldDescriptor (Tb x).2.2.1 = some (ty x)) (hnm : ∀ x, x < N → ∀ y, y < N → x ≠ y → (Tb x).2.1 ≠ (Tb y).2.1)
    (hfin : (Tb j).2.2.2 = false ∨ ((Tb j).2.2.2 = true ∧ (pm_nm G k).name = "<init>" ∧ (Tb j).1 = (pm_nm G k).cls)) {v : Value} (hn : narrow (ty j) v = v) (hfit : fits (ty j) v = true) {q : Nat} {fs : List Value} (hat : va_at w.2.1 T.1 (w.1.2.1 + q, .inr (ci, fs)) H) (hf : j < fs.length) (hS : va_S (pm_A w) s.heap H locs)
    (kk : ∀ (H1 : Heap) (locs1 : List Loc), va_at w.2.1 T.1 (w.1.2.1 + q, .inr (ci, fs.set j v)) H1 → H1.size = H.size → (∀ x : Nat, x ≠ w.1.2.1 + q → H1[x]? = H[x]?) → va_S (pm_A w) s.heap H1 locs1 → W p l e R s m args below meth c H1 locs1 cells slots Q (F0 m (pc + 3) mls rest)) : W p l e R s m args below meth c H locs cells slots Q (F0 m pc mls (v :: .ref (w.1.2.1 + q) :: rest)) := by
  have hts := C0.2.2.2.2.1
  have hK := C0.2.2.2.2.2.1.1
  have hap := va_apart (own := C) hts hin ty hty hnm hK hc
  obtain ⟨r, h1, cell, q1, q2, q3, q4⟩ := hat
  cases h1.symm.trans hc
  obtain ⟨hSl, hfc, kC, hkC, hkind⟩ := hK.1 ci _ hc
  obtain ⟨cf, kf, fi, f, hi, hsl⟩ := hSl j hj
  have hlay := hts _ (hin _ (u_in_lay hj))
  have hst := (u_facts hfc hkC (u_lays hts hin hj) hi).1
  have hAq : pm_A w (w.1.2.1 + q) := Nat.le_add_right _ _
  have fin : ∀ H' : Heap, H'[w.1.2.1 + q]? = some (cell.setSlot f.slot v) → H'.size = H.size → (∀ x : Nat, x ≠ w.1.2.1 + q → H'[x]? = H[x]?) → W p l e R s m args below meth c H' (locs ++ [⟨w.1.2.1 + q, f.slot⟩]) cells slots Q (F0 m (pc + 3) mls rest) := by
    intro H' e1 e2 e3
    rw [hsl] at e1 ⊢
    exact kk H' _ ⟨_, hc, t_OB.to (V := updV (vp_V fs) j v) ⟨_, e1, q2, q3, t_set q4 hap hj v⟩ (fun x _ => vp_updV_set hf v x)⟩ e2 e3 (hS.put e2 e3 hAq)
  rcases hfin with hfin | ⟨hfin, hin2, hdecl⟩
  · unfold u_lay at hlay
    rw [if_neg (by rw [hfin]; decide)] at hlay
    have h6 := u_store hfc hkC hkind hlay hi (hty j hj) hn hfit
    exact W.putK C0.1 C0.2.1 (f := f) ⟨C0.2.2.2.1, hts _ hl, ⟨_, _, _, hi⟩, hst⟩ (by rw [q2]; exact h6) q1 q3 (by rw [hsl]; exact k2_hasslot (q4 j hj)) rfl rfl hd fin
  · unfold u_lay at hlay
    rw [if_pos hfin] at hlay
    have hcf : m.cls = cf := by
      obtain ⟨_, _, c', _, _, _, -, -, hf', -, -, -, hown2, -⟩ := Cond.laysFinal_spec hlay
      have e1 : c' = cf := by have := hi.symm.trans hf'; simp at this; exact this.1.symm
      rw [hdecl] at hown2
      rw [← e1]
      exact Option.some.inj (C0.2.2.2.1.symm.trans hown2)
    have h6 := u_fits hfc hkC hkind (Or.inr hlay) hi (hty j hj) hn hfit
    exact W.putFinK C0.1 C0.2.1 C0.2.2.2.1 (hts _ hl) hi hst hcf (C0.2.2.2.2.2.2.2.2.trans hin2) (by rw [q2]; exact h6) q1 q3 (by rw [hsl]; exact k2_hasslot (q4 j hj)) rfl rfl hd fin
theorem so_putI {n ci j N : Nat} {C : String} {Tb : u_T} {ty : Nat → FieldType} (hd : decode (pm_by G k) (pm_pc G k i) = .ok (.putfield n, 3)) (hc : T.1[ci]? = some (C, Tb, N)) (hj : j < N) (hl : Cond.fieldLink (pm_nm G k).cls n (Tb j).1 (Tb j).2.1 (Tb j).2.2.1 ∈ T.2.1) (hin : ∀ v ∈ u_ws C Tb N, v ∈ T.2.1) (hty : ∀ x, x < N → parseFieldDescriptor (Tb x).2.2.1 = some (ty x)) (hnm : ∀ x, x < N → ∀ y, y < N → x ≠ y → (Tb x).2.1 ≠ (Tb y).2.1) (hfin : (Tb j).2.2.2 = false) (htj : ty j = .int) (hp1 : pm_pc G k (i + 1) = pm_pc G k i + 3) : pm_SimS G T k i (op_putI ci j) := by
  intro p l e R s m args below meth c w C0 hR1 hR2 H locs cells slots Q mls ls st hp s' hf
  unfold op_putI at hf
  dsimp only at hf
  split at hf
  · rename_i x a st'
    split at hf
    · rename_i c' fs ha
      split at hf
      · rename_i hci
        obtain ⟨rfl, hfl⟩ := hci
        cases hf
        refine ⟨⟨List.length_set, pm_sz_set _ _ _ _ ha (by simp [pm_esz])⟩, fun hH hS hL kk => ?_⟩
        dsimp only at kk
        rw [hp1] at kk
        obtain ⟨q, rfl, hat⟩ := hH.at ha
        refine pm_put C0 hd hc hj hl hin hty hnm (Or.inl hfin) (v := .int x) (by rw [htj]; rfl) (by rw [htj]; rfl) hat (by rw [List.length_map]; exact hfl) hS (fun H1 locs1 h1 h2 h3 h4 => kk H1 locs1 mls (hH.set (List.getElem?_eq_some_iff.mp ha).1 ?_ (fun _ _ z => nomatch z) h2 h3) h4 hL)
        show va_at _ _ (_, Sum.inr (_, (fs.set j (.int x)).map (pm_em w))) _
        rw [List.map_set]
        exact h1
      · cases hf
    · cases hf
  · cases hf
theorem pm_narrowZ {x : Int32} (h : x = 0 ∨ x = 1) : narrow .boolean (.int x) = .int x ∧ fits .boolean (.int x) = true := by
  rcases h with rfl | rfl <;> exact ⟨rfl, rfl⟩
theorem so_putZ {n ci j N : Nat} {C : String} {Tb : u_T} {ty : Nat → FieldType} (hd : decode (pm_by G k) (pm_pc G k i) = .ok (.putfield n, 3)) (hc : T.1[ci]? = some (C, Tb, N)) (hj : j < N) (hl : Cond.fieldLink (pm_nm G k).cls n (Tb j).1 (Tb j).2.1 (Tb j).2.2.1 ∈ T.2.1) (hin : ∀ v ∈ u_ws C Tb N, v ∈ T.2.1) (hty : ∀ x, x < N → parseFieldDescriptor (Tb x).2.2.1 = some (ty x)) (hnm : ∀ x, x < N → ∀ y, y < N → x ≠ y → (Tb x).2.1 ≠ (Tb y).2.1) (hfin : (Tb j).2.2.2 = false) (htj : ty j = .boolean) (hp1 : pm_pc G k (i + 1) = pm_pc G k i + 3) : pm_SimS G T k i (op_putZ ci j) := by
  intro p l e R s m args below meth c w C0 hR1 hR2 H locs cells slots Q mls ls st hp s' hf
  unfold op_putZ at hf
  dsimp only at hf
  split at hf
  · rename_i x a st'
    split at hf
    · rename_i c' fs ha
      split at hf
      · rename_i hci
        obtain ⟨⟨rfl, hfl⟩, hz⟩ := hci
        cases hf
        refine ⟨⟨List.length_set, pm_sz_set _ _ _ _ ha (by simp [pm_esz])⟩, fun hH hS hL kk => ?_⟩
        dsimp only at kk
        rw [hp1] at kk
        obtain ⟨q, rfl, hat⟩ := hH.at ha
        refine pm_put C0 hd hc hj hl hin hty hnm (Or.inl hfin) (v := .int x) (by rw [htj]; exact (pm_narrowZ hz).1) (by rw [htj]; exact (pm_narrowZ hz).2) hat (by rw [List.length_map]; exact hfl) hS (fun H1 locs1 h1 h2 h3 h4 => kk H1 locs1 mls (hH.set (List.getElem?_eq_some_iff.mp ha).1 ?_ (fun _ _ z => nomatch z) h2 h3) h4 hL)
        show va_at _ _ (_, Sum.inr (_, (fs.set j (.int x)).map (pm_em w))) _
        rw [List.map_set]
        exact h1
      · cases hf
    · cases hf
  · cases hf
def pm_isRef : FieldType → Bool
  | .object _ => true
  | .array _ => true
  | _ => false
theorem pm_narrowA {t : FieldType} (h : pm_isRef t = true) (a : Nat) : narrow t (.ref a) = .ref a ∧ fits t (.ref a) = true := by
  cases t <;> first | exact ⟨rfl, rfl⟩ | cases h
theorem so_putA {n ci j N : Nat} {C : String} {Tb : u_T} {ty : Nat → FieldType} (hd : decode (pm_by G k) (pm_pc G k i) = .ok (.putfield n, 3)) (hc : T.1[ci]? = some (C, Tb, N)) (hj : j < N) (hl : Cond.fieldLink (pm_nm G k).cls n (Tb j).1 (Tb j).2.1 (Tb j).2.2.1 ∈ T.2.1) (hin : ∀ v ∈ u_ws C Tb N, v ∈ T.2.1) (hty : ∀ x, x < N → parseFieldDescriptor (Tb x).2.2.1 = some (ty x)) (hnm : ∀ x, x < N → ∀ y, y < N → x ≠ y → (Tb x).2.1 ≠ (Tb y).2.1) (hfin : (Tb j).2.2.2 = true) (hin2 : (pm_nm G k).name = "<init>") (hdecl : (Tb j).1 = (pm_nm G k).cls) (htj : pm_isRef (ty j) = true) (hp1 : pm_pc G k (i + 1) = pm_pc G k i + 3) : pm_SimS G T k i (op_putA ci j) := by
  intro p l e R s m args below meth c w C0 hR1 hR2 H locs cells slots Q mls ls st hp s' hf
  unfold op_putA at hf
  dsimp only at hf
  split at hf
  · rename_i x a st'
    split at hf
    · rename_i c' fs ha
      split at hf
      · rename_i hci
        obtain ⟨rfl, hfl⟩ := hci
        cases hf
        refine ⟨⟨List.length_set, pm_sz_set _ _ _ _ ha (by simp [pm_esz])⟩, fun hH hS hL kk => ?_⟩
        dsimp only at kk
        rw [hp1] at kk
        obtain ⟨q, rfl, hat⟩ := hH.at ha
        refine pm_put C0 hd hc hj hl hin hty hnm (Or.inr ⟨hfin, hin2, hdecl⟩) (v := .ref (pm_ad w x)) (pm_narrowA htj _).1 (pm_narrowA htj _).2 hat (by rw [List.length_map]; exact hfl) hS (fun H1 locs1 h1 h2 h3 h4 => kk H1 locs1 mls (hH.set (List.getElem?_eq_some_iff.mp ha).1 ?_ (fun _ _ z => nomatch z) h2 h3) h4 hL)
        show va_at _ _ (_, Sum.inr (_, (fs.set j (.ref x)).map (pm_em w))) _
        rw [List.map_set]
        exact h1
      · cases hf
    · cases hf
  · cases hf
theorem so_iald (hd : decode (pm_by G k) (pm_pc G k i) = .ok (.iaload, 1)) (hp1 : pm_pc G k (i + 1) = pm_pc G k i + 1) : pm_Sim0 G T k i (op_iald 0) := by
  intro p l e R s m args below meth c w C0 hR1 hR2 H locs cells slots Q mls ls st hp s' hf
  unfold op_iald at hf
  dsimp only at hf
  split at hf
  · rename_i x a st'
    split at hf
    · rename_i t' n f ha
      split at hf
      · rename_i hci
        obtain ⟨rfl, hpin⟩ := hci
        cases hf
        refine ⟨rfl, fun hH hS hL kk => ?_⟩
        dsimp only at kk
        rw [hp1] at kk
        obtain ⟨q, rfl, hat⟩ := hH.arr (by decide) ha
        exact va_iald C0.1 C0.2.1 C0.2.2.2.2.2.1.1 (pm_P1 hat) 0 0 rfl rfl (pin_in hpin) hd (kk mls hL)
      · cases hf
    · cases hf
  · cases hf
theorem so_sld (hd : decode (pm_by G k) (pm_pc G k i) = .ok (.iaload, 1)) (hp1 : pm_pc G k (i + 1) = pm_pc G k i + 1) : pm_Sim0 G T k i (op_iald 3) := by
  intro p l e R s m args below meth c w C0 hR1 hR2 H locs cells slots Q mls ls st hp s' hf
  unfold op_iald at hf
  dsimp only at hf
  split at hf
  · rename_i x a st'
    split at hf
    · rename_i t' n f ha
      split at hf
      · rename_i hci
        obtain ⟨rfl, hpin⟩ := hci
        cases hf
        refine ⟨rfl, fun hH hS hL kk => ?_⟩
        dsimp only at kk
        rw [hp1] at kk
        have hz : a = 0 := hH.zero ha
        subst hz
        rw [hH.1] at ha
        cases ha
        exact va_sld C0.1 C0.2.1 C0.2.2.2.2.2.1.2.2.1 (Nat.lt_of_lt_of_le C0.2.2.2.2.2.1.2.2.2.1 C0.2.2.2.2.2.1.2.2.2.2) (Nat.not_le.mpr C0.2.2.2.2.2.1.2.2.2.1) hS (pin_in hpin) hd (kk mls hL)
      · cases hf
    · cases hf
  · cases hf
theorem so_zald (hd : decode (pm_by G k) (pm_pc G k i) = .ok (.baload, 1)) (hp1 : pm_pc G k (i + 1) = pm_pc G k i + 1) : pm_Sim0 G T k i (op_iald 1) := by
  intro p l e R s m args below meth c w C0 hR1 hR2 H locs cells slots Q mls ls st hp s' hf
  unfold op_iald at hf
  dsimp only at hf
  split at hf
  · rename_i x a st'
    split at hf
    · rename_i t' n f ha
      split at hf
      · rename_i hci
        obtain ⟨rfl, hpin⟩ := hci
        cases hf
        refine ⟨rfl, fun hH hS hL kk => ?_⟩
        dsimp only at kk
        rw [hp1] at kk
        obtain ⟨q, rfl, hat⟩ := hH.arr (by decide) ha
        exact va_zald C0.1 C0.2.1 C0.2.2.2.2.2.1.1 (pm_P1 hat) 0 1 rfl rfl (pin_in hpin) hd (kk mls hL)
      · cases hf
    · cases hf
  · cases hf
theorem so_lald (hd : decode (pm_by G k) (pm_pc G k i) = .ok (.laload, 1)) (hp1 : pm_pc G k (i + 1) = pm_pc G k i + 1) : pm_Sim0 G T k i op_lald := by
  intro p l e R s m args below meth c w C0 hR1 hR2 H locs cells slots Q mls ls st hp s' hf
  unfold op_lald at hf
  dsimp only at hf
  split at hf
  · rename_i x a st'
    split at hf
    · rename_i t' n f ha
      split at hf
      · rename_i hci
        obtain ⟨rfl, hpin⟩ := hci
        cases hf
        refine ⟨rfl, fun hH hS hL kk => ?_⟩
        dsimp only at kk
        rw [hp1] at kk
        obtain ⟨q, rfl, hat⟩ := hH.arr (by decide) ha
        exact va_lald C0.1 C0.2.1 C0.2.2.2.2.2.1.1 (pm_P1 hat) 0 2 rfl rfl (pin_in hpin) hd (kk mls hL)
      · cases hf
    · cases hf
  · cases hf
theorem so_iast (hd : decode (pm_by G k) (pm_pc G k i) = .ok (.iastore, 1)) (hp1 : pm_pc G k (i + 1) = pm_pc G k i + 1) : pm_SimS G T k i op_iast := by
  intro p l e R s m args below meth c w C0 hR1 hR2 H locs cells slots Q mls ls st hp s' hf
  unfold op_iast at hf
  dsimp only at hf
  split at hf
  · rename_i x j a st'
    split at hf
    · rename_i t' n f ha
      split at hf
      · rename_i hci
        obtain ⟨rfl, hpin⟩ := hci
        cases hf
        refine ⟨⟨List.length_set, pm_sz_set _ _ _ _ ha rfl⟩, fun hH hS hL kk => ?_⟩
        dsimp only at kk
        rw [hp1] at kk
        obtain ⟨q, rfl, hat⟩ := hH.arr (by decide) ha
        refine W.iast C0.1 C0.2.1 hat ((C0.2.2.2.2.2.1.1.2 0 _ rfl).1 n (fun z => .int (f z))) (fun z => by cases z) (by show ¬ (j < 0 ∨ (arrV _ _ _).slots.size ≤ _); rw [arrV_size]; exact pin_in hpin) rfl rfl hd fun H1 e1 z1 o1 => ?_
        refine kk H1 _ mls (hH.set (List.getElem?_eq_some_iff.mp ha).1 ?_ (fun t y z => by cases z; decide) z1 o1) (hS.put z1 o1 (Nat.le_add_right _ _)) hL
        show H1[_]? = some (vp_cell _ _)
        rw [e1, vp_cell_i, vp_cell_i, arrV_store]
        congr 2
        funext z
        by_cases hz : z = j.toNatClampNeg
        · subst hz
          simp [updV, upd]
        · simp [updV, upd, hz]
      · cases hf
    · cases hf
  · cases hf
theorem so_zast (hd : decode (pm_by G k) (pm_pc G k i) = .ok (.bastore, 1)) (hp1 : pm_pc G k (i + 1) = pm_pc G k i + 1) : pm_SimS G T k i op_zast := by
  intro p l e R s m args below meth c w C0 hR1 hR2 H locs cells slots Q mls ls st hp s' hf
  unfold op_zast at hf
  dsimp only at hf
  split at hf
  · rename_i x j a st'
    split at hf
    · rename_i t' n f ha
      split at hf
      · rename_i hci
        obtain ⟨⟨rfl, hpin⟩, hx01⟩ := hci
        cases hf
        refine ⟨⟨List.length_set, pm_sz_set _ _ _ _ ha rfl⟩, fun hH hS hL kk => ?_⟩
        dsimp only at kk
        rw [hp1] at kk
        obtain ⟨q, rfl, hat⟩ := hH.arr (by decide) ha
        refine W.zast C0.1 C0.2.1 hat ((C0.2.2.2.2.2.1.1.2 1 _ rfl).1 n (fun z => .int (f z))) (fun z => by cases z) (by show ¬ (j < 0 ∨ (arrV _ _ _).slots.size ≤ _); rw [arrV_size]; exact pin_in hpin) rfl rfl hd fun H1 e1 z1 o1 => ?_
        refine kk H1 _ mls (hH.set (List.getElem?_eq_some_iff.mp ha).1 ?_ (fun t y z => by cases z; decide) z1 o1) (hS.put z1 o1 (Nat.le_add_right _ _)) hL
        show H1[_]? = some (vp_cell _ _)
        rw [e1, vp_cell_i, vp_cell_i, arrV_store, (pm_narrowZ hx01).1]
        congr 2
        funext z
        by_cases hz : z = j.toNatClampNeg
        · subst hz
          simp [updV, upd]
        · simp [updV, upd, hz]
      · cases hf
    · cases hf
  · cases hf
theorem so_last (hd : decode (pm_by G k) (pm_pc G k i) = .ok (.lastore, 1)) (hp1 : pm_pc G k (i + 1) = pm_pc G k i + 1) : pm_SimS G T k i op_last := by
  intro p l e R s m args below meth c w C0 hR1 hR2 H locs cells slots Q mls ls st hp s' hf
  unfold op_last at hf
  dsimp only at hf
  split at hf
  · rename_i x j a st'
    split at hf
    · rename_i t' n f ha
      split at hf
      · rename_i hci
        obtain ⟨rfl, hpin⟩ := hci
        cases hf
        refine ⟨⟨List.length_set, pm_sz_set _ _ _ _ ha rfl⟩, fun hH hS hL kk => ?_⟩
        dsimp only at kk
        rw [hp1] at kk
        obtain ⟨q, rfl, hat⟩ := hH.arr (by decide) ha
        refine W.last C0.1 C0.2.1 hat ((C0.2.2.2.2.2.1.1.2 2 _ rfl).1 n (fun z => .long (f z))) (fun z => by cases z) (by show ¬ (j < 0 ∨ (arrV _ _ _).slots.size ≤ _); rw [arrV_size]; exact pin_in hpin) rfl rfl hd fun H1 e1 z1 o1 => ?_
        refine kk H1 _ mls (hH.set (List.getElem?_eq_some_iff.mp ha).1 ?_ (fun t y z => by cases z; decide) z1 o1) (hS.put z1 o1 (Nat.le_add_right _ _)) hL
        show H1[_]? = some (vp_cell _ _)
        rw [e1, vp_cell_l, vp_cell_l, arrV_store]
        congr 2
        funext z
        by_cases hz : z = j.toNatClampNeg
        · subst hz
          simp [updV, vp_updL]
        · simp [updV, vp_updL, hz]
      · cases hf
    · cases hf
  · cases hf
theorem so_alen (hd : decode (pm_by G k) (pm_pc G k i) = .ok (.arraylength, 1)) (hp1 : pm_pc G k (i + 1) = pm_pc G k i + 1) : pm_Sim0 G T k i (op_alen 0) := by
  intro p l e R s m args below meth c w C0 hR1 hR2 H locs cells slots Q mls ls st hp s' hf
  unfold op_alen at hf
  dsimp only at hf
  split at hf
  · rename_i a st'
    split at hf
    · rename_i t' n f ha
      split at hf
      · rename_i hci
        subst hci
        cases hf
        refine ⟨rfl, fun hH hS hL kk => ?_⟩
        dsimp only at kk
        rw [hp1] at kk
        obtain ⟨q, rfl, hat⟩ := hH.arr (by decide) ha
        exact va_alen C0.1 C0.2.1 C0.2.2.2.2.2.1.1 (pm_P1 hat) 0 0 rfl rfl rfl hd (kk mls hL)
      · cases hf
    · cases hf
  · cases hf
theorem so_slen (hd : decode (pm_by G k) (pm_pc G k i) = .ok (.arraylength, 1)) (hp1 : pm_pc G k (i + 1) = pm_pc G k i + 1) : pm_Sim0 G T k i (op_alen 3) := by
  intro p l e R s m args below meth c w C0 hR1 hR2 H locs cells slots Q mls ls st hp s' hf
  unfold op_alen at hf
  dsimp only at hf
  split at hf
  · rename_i a st'
    split at hf
    · rename_i t' n f ha
      split at hf
      · rename_i hci
        subst hci
        cases hf
        refine ⟨rfl, fun hH hS hL kk => ?_⟩
        dsimp only at kk
        rw [hp1] at kk
        have hz : a = 0 := hH.zero ha
        subst hz
        rw [hH.1] at ha
        cases ha
        exact va_slen C0.1 C0.2.1 C0.2.2.2.2.2.1.2.2.1 (Nat.lt_of_lt_of_le C0.2.2.2.2.2.1.2.2.2.1 C0.2.2.2.2.2.1.2.2.2.2) (Nat.not_le.mpr C0.2.2.2.2.2.1.2.2.2.1) hS hd (kk mls hL)
      · cases hf
    · cases hf
  · cases hf
theorem pm_max {n : Int32} (h0 : 0 ≤ n) (h1 : n ≤ 1000) : n.toNatClampNeg ≤ 1000 ∧ ¬ n < 0 := by
  have a := Int32.le_iff_toInt_le.mp h0
  have b := Int32.le_iff_toInt_le.mp h1
  have e : (1000 : Int32).toInt = 1000 := by decide
  rw [e] at b
  refine ⟨?_, fun z => ?_⟩
  · show n.toInt.toNat ≤ 1000
    omega
  · have c := Int32.lt_iff_toInt_lt.mp z
    omega
theorem so_newa {t : Nat} {at' : ArrayType} {ty : FieldType} (hd : decode (pm_by G k) (pm_pc G k i) = .ok (.newarray at', 2)) (hty : newarray.typeOf at' = ty) (ht : (t = 0 ∧ ty = .int) ∨ (t = 1 ∧ ty = .boolean) ∨ (t = 2 ∧ ty = .long)) (hm : Cond.arrayClass ty ∈ T.2.1) (hp1 : pm_pc G k (i + 1) = pm_pc G k i + 2) : pm_Sim G T k i (op_newa t) := by
  intro p l e R s m args below meth c w C0 hR1 hR2 H locs cells slots Q mls ls st hp s' hf
  unfold op_newa at hf
  dsimp only at hf
  split at hf
  · rename_i n st'
    split at hf
    · rename_i hn
      obtain ⟨hn1, hn2⟩ := pm_max hn.1 hn.2
      cases hf
      have e1 : (hp ++ [pm_new t n.toNatClampNeg]).length - hp.length = 1 := by simp
      have e2 : pm_sz (hp ++ [pm_new t n.toNatClampNeg]) - pm_sz hp = n.toNatClampNeg := by
        rw [pm_sz_app]
        show _ + n.toNatClampNeg - _ = _
        omega
      refine ⟨⟨by simp, by rw [pm_sz_app]; exact Nat.le_add_right _ _⟩, fun hH hS hL hc hs kk => ?_⟩
      dsimp only at kk hc hs
      rw [e1] at hc
      rw [e2] at hs
      rw [hp1, e1, e2] at kk
      subst hty
      refine va_newaK C0.1 C0.2.1 (C0.2.2.2.2.1 _ hm) rfl hd rfl hn2 rfl ?_ hc hs rfl fun H1 cA g1 g2 g3 g4 g5 => ?_
      · rcases ht with ⟨-, e⟩ | ⟨-, e⟩ | ⟨-, e⟩ <;> rw [e] <;> simp only [componentBytes] <;> omega
      · have hcA : cA = w.2.2 t := by
          rcases ht with ⟨e0, e⟩ | ⟨e0, e⟩ | ⟨e0, e⟩ <;> subst e0 <;> rw [e] at g5
          · exact Option.some.inj (g5.symm.trans (C0.2.2.2.2.2.1.1.2 0 _ rfl).2)
          · exact Option.some.inj (g5.symm.trans (C0.2.2.2.2.2.1.1.2 1 _ rfl).2)
          · exact Option.some.inj (g5.symm.trans (C0.2.2.2.2.2.1.1.2 2 _ rfl).2)
        subst hcA
        have hat : va_at w.2.1 T.1 (H.size, pm_emE w (pm_new t n.toNatClampNeg)) H1 := by
          show H1[H.size]? = some (vp_cell _ _)
          rw [g1]
          rcases ht with ⟨e0, e⟩ | ⟨e0, e⟩ | ⟨e0, e⟩ <;> subst e0 <;> rw [e] <;> rfl
        obtain ⟨hH', had⟩ := hH.push hat (fun t' x' z => by cases z; rcases ht with ⟨e0, -⟩ | ⟨e0, -⟩ | ⟨e0, -⟩ <;> omega) g2 g3
        have := kk H1 locs mls hH' ⟨Nat.le_trans hS.1 (by omega), fun x h1 h2 => (g3 x (Nat.lt_of_lt_of_le h1 hS.1)).trans (hS.2.1 x h1 h2), hS.2.2⟩ hL
        rw [List.map_cons, show pm_em w (.ref hp.length) = .ref (pm_ad w hp.length) from rfl, had] at this
        exact this
    · cases hf
  · cases hf
theorem so_new {n ci N : Nat} {C : String} {Tb : u_T} {ty : Nat → FieldType} {fs : List Value} (hd : decode (pm_by G k) (pm_pc G k i) = .ok (.new n, 3)) (hc : T.1[ci]? = some (C, Tb, N)) (hin : ∀ v ∈ u_ws C Tb N, v ∈ T.2.1) (hty : ∀ x, x < N → parseFieldDescriptor (Tb x).2.2.1 = some (ty x)) (hcl : Cond.classLink (pm_nm G k).cls n C ∈ T.2.1) (hins : Cond.instantiable C N ∈ T.2.1) (hini : Cond.initialized C ∈ T.2.1) (hfs : ∀ j, j < N → defaultValue (ty j) = vp_V fs j) (hfm : ∀ w : pW, fs.map (pm_em w) = fs) (hN : fs.length = N) (hp1 : pm_pc G k (i + 1) = pm_pc G k i + 3) : pm_Sim G T k i (op_new ci fs) := by
  intro p l e R s m args below meth c w C0 hR1 hR2 H locs cells slots Q mls ls st hp s' hf
  cases hf
  have e1 : (hp ++ [Sum.inr (ci, fs)] : pH).length - hp.length = 1 := by simp
  have e2 : pm_sz (hp ++ [Sum.inr (ci, fs)]) - pm_sz hp = N := by
    rw [pm_sz_app]
    show _ + fs.length - _ = _
    omega
  refine ⟨⟨by simp, by rw [pm_sz_app]; exact Nat.le_add_right _ _⟩, fun hH hS hL hcc hs kk => ?_⟩
  dsimp only at kk hcc hs
  rw [e1] at hcc
  rw [e2] at hs
  rw [hp1, e1, e2] at kk
  have hts := C0.2.2.2.2.1
  have hKn := C0.2.2.2.2.2.1.1.1 ci _ hc
  refine W.newcK C0.1 C0.2.1 C0.2.2.2.1 (hts _ hcl) (hts _ hins) (hts _ hini) rfl hd hcc hs hKn.2.1 rfl fun H1 kC hkC g1 g2 g3 => ?_
  have hat : va_at w.2.1 T.1 (H.size, pm_emE w (.inr (ci, fs))) H1 := by
    refine ⟨_, hc, ?_⟩
    show t_OB _ _ _ _ _ (vp_V (fs.map (pm_em w)))
    rw [hfm]
    exact (u_born ty hts hin hKn hkC g1 hty).to hfs
  obtain ⟨hH', had⟩ := hH.push hat (fun t' x' z => nomatch z) g2 g3
  have := kk H1 locs mls hH' ⟨Nat.le_trans hS.1 (by omega), fun x h1 h2 => (g3 x (Nat.lt_of_lt_of_le h1 hS.1)).trans (hS.2.1 x h1 h2), hS.2.2⟩ hL
  rw [List.map_cons, show pm_em w (.ref hp.length) = .ref (pm_ad w hp.length) from rfl, had] at this
  exact this
theorem pm_cat_map (w : pW) (st : List Value) : ((st.map (pm_em w)).map fun v => v.category).sum = (st.map fun v => v.category).sum := by
  rw [List.map_map]
  congr 1
  apply List.map_congr_left
  intro v _
  exact pm_em_cat w v
theorem so_objinit {n : Nat} (hd : decode (pm_by G k) (pm_pc G k i) = .ok (.invokespecial n, 3)) (h1 : Cond.methodLink (pm_nm G k).cls n Lib.objectInit ∈ T.2.1) (h2 : Cond.instanceMethod Lib.objectInit ∈ T.2.1) (h3 : Cond.code Lib.objectInit ⟨#[0xb1]⟩ 1 none ∈ T.2.1) (hp1 : pm_pc G k (i + 1) = pm_pc G k i + 3) : pm_Sim0 G T k i op_objinit := by
  intro p l e R s m args below meth c w C0 hR1 hR2 H locs cells slots Q mls ls st hp s' hf
  unfold op_objinit at hf
  dsimp only at hf
  split at hf
  · rename_i a st'
    split at hf
    · rename_i hc
      cases hf
      refine ⟨rfl, fun hH hS hL kk => ?_⟩
      dsimp only at kk
      rw [hp1] at kk
      have hts := C0.2.2.2.2.1
      exact W.objInit C0.1 C0.2.1 C0.2.2.2.1 (hts _ h1) (hts _ h2) (hts _ h3) rfl (by rw [C0.2.2.1]; exact hL.1) rfl hd hR1 (by rw [pm_cat_map]; show 2 * 0 + _ + 12 ≤ _; omega) (kk mls hL)
    · cases hf
  · cases hf
end StepsH
end
section
/-! Calls, returns, and whole runs: the Statement's machine comes to what the pure one comes to. -/
theorem pm_ret0 {st : List Value} {v : Option Value} (h : pm_ret 0 st = some v) : st = [] ∧ v = none := by
  rcases st with _ | ⟨a, st⟩
  · exact ⟨rfl, (Option.some.inj h).symm⟩
  · simp [pm_ret] at h
theorem pm_ret1 {st : List Value} {v : Option Value} (h : pm_ret 1 st = some v) : ∃ x, st = [.int x] ∧ v = some (.int x) := by
  rcases st with _ | ⟨a, _ | ⟨b, st⟩⟩
  · simp [pm_ret] at h
  · cases a <;> simp [pm_ret] at h
    exact ⟨_, rfl, h.symm⟩
  · simp [pm_ret] at h
theorem pm_ret2 {st : List Value} {v : Option Value} (h : pm_ret 2 st = some v) : ∃ x, st = [.long x] ∧ v = some (.long x) := by
  rcases st with _ | ⟨a, _ | ⟨b, st⟩⟩
  · simp [pm_ret] at h
  · cases a <;> simp [pm_ret] at h
    exact ⟨_, rfl, h.symm⟩
  · simp [pm_ret] at h
theorem pm_ret3 {st : List Value} {v : Option Value} (h : pm_ret 3 st = some v) : ∃ x, st = [.int x] ∧ v = some (.int x) ∧ (x = 0 ∨ x = 1) := by
  rcases st with _ | ⟨a, _ | ⟨b, st⟩⟩
  · simp [pm_ret] at h
  · cases a <;> simp [pm_ret] at h
    exact ⟨_, rfl, h.2.symm, h.1⟩
  · simp [pm_ret] at h
def pm_RetOK (G : pG) (T : pT) (k i rk : Nat) : Prop :=
  ∀ (p : Program) (l : Launch) (e : Env) (R : Room) (s : State) (m : MethodId) (args : Array Value) (below : List Frame) (meth : Method) (c : Code) (w : pW), pm_Cx G T w k p m c meth s args →
  ∀ (H : Heap) (locs : List Loc) (cells slots : Nat) (Qc : Array Value → State → Outcome → State → Prop) (free : Addr → Prop) (mls : Array Slot) (st : List Value) (v : Option Value), pm_ret rk st = some v →
  (∀ t : State, t.heap = H → s.WarmedH t.vm → Qc args s (.returned (v.map (pm_em w))) t) → (∀ q ∈ locs, free q.base) →
  W p l e R s m args below meth c H locs cells slots (MQ below Qc args s cells slots free) (F0 m (pm_pc G k i) mls (st.map (pm_em w)))
section Rets
variable {G : pG} {T : pT} {k i : Nat}
theorem so_vret (hd : decode (pm_by G k) (pm_pc G k i) = .ok (.return_, 1)) (hr : pm_rt G k = none) : pm_RetOK G T k i 0 := by
  intro p l e R s m args below meth c w C H locs cells slots Qc free mls st v h hq hf
  obtain ⟨rfl, rfl⟩ := pm_ret0 h
  exact W.vret C.1 C.2.1 (C.2.2.2.2.2.2.2.1.trans hr) hq hf hd C.2.2.2.2.2.2.1
theorem so_iret (hd : decode (pm_by G k) (pm_pc G k i) = .ok (.ireturn, 1)) (hr : pm_rt G k = some .int) : pm_RetOK G T k i 1 := by
  intro p l e R s m args below meth c w C H locs cells slots Qc free mls st v h hq hf
  obtain ⟨x, rfl, rfl⟩ := pm_ret1 h
  exact W.iret C.1 C.2.1 (C.2.2.2.2.2.2.2.1.trans hr) hq hf hd C.2.2.2.2.2.2.1
theorem so_lret (hd : decode (pm_by G k) (pm_pc G k i) = .ok (.lreturn, 1)) (hr : pm_rt G k = some .long) : pm_RetOK G T k i 2 := by
  intro p l e R s m args below meth c w C H locs cells slots Qc free mls st v h hq hf
  obtain ⟨x, rfl, rfl⟩ := pm_ret2 h
  exact W.lret C.1 C.2.1 (C.2.2.2.2.2.2.2.1.trans hr) hq hf hd C.2.2.2.2.2.2.1
theorem so_zret (hd : decode (pm_by G k) (pm_pc G k i) = .ok (.ireturn, 1)) (hr : pm_rt G k = some .boolean) : pm_RetOK G T k i 3 := by
  intro p l e R s m args below meth c w C H locs cells slots Qc free mls st v h hq hf
  obtain ⟨x, rfl, rfl, hx⟩ := pm_ret3 h
  exact W.zret C.1 C.2.1 (C.2.2.2.2.2.2.2.1.trans hr) (pm_narrowZ hx).1 hq hf hd C.2.2.2.2.2.2.1
end Rets
/-- a method's words: its code, then all of the tables -/
def pm_ws (G : pG) (T : pT) (y : Nat) : List Cond := Cond.code (pm_nm G y) (pm_by G y) (pm_nL G y) (pm_rt G y) :: T.2.1
def pm_Pc (T : pT) (w : pW) (as : List Value) (hp : pH) : Array Value → State → Prop := fun a U => a = (as.map (pm_em w)).toArray ∧ pm_HR T w hp U.heap ∧ pm_K T w U
def pm_Qc (T : pT) (w : pW) (v : Option Value) (hp' : pH) : Array Value → State → Outcome → State → Prop := fun _ st o t => o = .returned (v.map (pm_em w)) ∧ pm_HR T w hp' t.heap ∧ va_F (pm_A w) st t
theorem pm_Pc_blind (T : pT) (w : pW) (as : List Value) (hp : pH) : FrameBlind (pm_Pc T w as hp) := by
  intro a U g mk h
  obtain ⟨h1, h2, h3, h4, h5, h6⟩ := h
  exact ⟨h1, h2, va_K.moved (u := U) (U := U.calling g mk a) (Vm.Alike.refl U.vm) h3, fun q hq => va_Nw.same rfl rfl (h4 q hq), va_X.moved (Vm.Alike.refl U.vm) h5, h6⟩
theorem pm_K_to {T : pT} {w : pW} {s U : State} {H : Heap} {locs : List Loc} (h : pm_K T w s) (hS : va_S (pm_A w) s.heap H locs) (hU : U.heap = H) (hW : s.WarmedH U.vm) : pm_K T w U := by
  obtain ⟨h3, h4, h5, h6, h7⟩ := h
  refine ⟨h3.moved hW.alike, fun q hq => va_Nw.warmM hW (h4 q hq), ?_, h6, by rw [hU]; exact Nat.le_trans h7 hS.1⟩
  rw [hU]
  exact (h5.kept (hS.2.1 _ (Nat.lt_of_lt_of_le h6 h7) (Nat.not_le.mpr h6))).moved hW.alike
theorem pm_push_eq {rk : Nat} {v : Option Value} {rest st : List Value} (h : pm_push rk v rest = some st) : st = v.toList ++ rest := by
  unfold pm_push at h
  split at h <;> first | (cases h; rfl) | cases h
theorem pm_args_eq {n : Nat} {st as rest : List Value} (h : pm_args n st = some (as, rest)) : st = as.reverse ++ rest ∧ as.length = n := by
  unfold pm_args at h
  split at h
  · rename_i hn
    cases h
    refine ⟨by rw [List.reverse_reverse, List.take_append_drop], ?_⟩
    rw [List.length_reverse, List.length_take]
    omega
  · cases h
theorem pm_may_spec {c : pC} {nL : Nat} {as rest : List Value} {hp : pH} (h : pm_may c nL as rest hp = true) : (rest.map fun v => v.category).sum ≤ 8 ∧ (pm_ent as).length ≤ nL ∧ pm_rcv c.2.2.2 as hp = true := by
  unfold pm_may at h
  simp only [Bool.and_eq_true, decide_eq_true_eq] at h
  exact h
/-- behind a call -/
theorem pm_after {T : pT} {w : pW} {p : Program} {l : Launch} {e : Env} {R : Room} {s : State} {m : MethodId} {args : Array Value} {below : List Frame} {meth : Method} {c : Code} {H : Heap} {locs : List Loc} {cells slots mc ms pc : Nat} {Q : State → Prop} {mls : Array Slot} {st0 rest st' : List Value} {v : Option Value} {hp' : pH} {a : Array Value} {rk : Nat}
    (hr : va_Run p l e R s m args below meth c H locs cells slots mc ms (F0 m pc mls st0) (rest.map (pm_em w)) (pm_Qc T w v hp' a) (pm_A w)) (hpu : pm_push rk v rest = some st') (hS : va_S (pm_A w) s.heap H locs)
    (kk : ∀ (H' : Heap) (locs' : List Loc), pm_HR T w hp' H' → va_S (pm_A w) s.heap H' locs' → W p l e R s m args below meth c H' locs' (cells + mc) (slots + ms) Q (F0 m (pc + 3) mls (st'.map (pm_em w)))) : W p l e R s m args below meth c H locs cells slots Q (F0 m pc mls st0) := by
  intro T0 hT X
  obtain ⟨v', s0, t, T', L, h0, X', hL, e1, e2, ⟨hq1, hq2, hz, hk⟩, stp⟩ := hr T0 hT X
  cases hq1
  rw [h0] at hz hk
  have hS' : va_S (pm_A w) s.heap T'.heap (locs ++ L) := by
    refine ⟨Nat.le_trans hS.1 (by rw [e1]; exact hz), fun q h1 h2 => by rw [e1, hk q (Nat.lt_of_lt_of_le h1 hS.1) h2]; exact hS.2.1 q h1 h2, fun q hq => ?_⟩
    rcases List.mem_append.mp hq with h | h
    · exact hS.2.2 q h
    · exact hL q h
  obtain ⟨t2, a1, b1⟩ := kk T'.heap (locs ++ L) (by rw [e1]; exact hq2) hS' T' rfl X'
  refine ⟨t2, stp t2 ?_, b1⟩
  have e3 := pm_push_eq hpu
  subst e3
  rw [List.map_append] at a1
  cases v <;> exact a1
def pm_CallOK (G : pG) (T : pT) (k i : Nat) (c : pC) : Prop :=
  ∀ (p : Program) (l : Launch) (e : Env) (R : Room) (s : State) (m : MethodId) (args : Array Value) (below : List Frame) (meth : Method) (c0 : Code) (w : pW), pm_Cx G T w k p m c0 meth s args → R.frames = pm_fr G k → R.locals = pm_lo G k →
  ∀ (H : Heap) (locs : List Loc) (cells slots mc ms : Nat) (Q : State → Prop) (mls : Array Slot) (ls : List pO) (st as rest st' : List Value) (hp hp' : pH) (v : Option Value), pm_args c.2.1 st = some (as, rest) → pm_may c (pm_nL G c.1) as rest hp = true → pm_push c.2.2.1 v rest = some st' →
  pm_HR T w hp H → va_S (pm_A w) s.heap H locs → pm_LR w (pm_nL G k) mls ls →
  Met l (pm_nm G c.1) (pm_ws G T c.1) { frames := pm_fr G c.1, cells := mc, slots := ms, locals := pm_lo G c.1 } (pm_Pc T w as hp) (pm_Qc T w v hp') mc ms (pm_A w) → cells + mc ≤ R.cells → slots + ms ≤ R.slots →
  (∀ (H' : Heap) (locs' : List Loc), pm_HR T w hp' H' → va_S (pm_A w) s.heap H' locs' → W p l e R s m args below meth c0 H' locs' (cells + mc) (slots + ms) Q (F0 m (pm_pc G k (i + 1)) mls (st'.map (pm_em w)))) →
  W p l e R s m args below meth c0 H locs cells slots Q (F0 m (pm_pc G k i) mls (st.map (pm_em w)))
/-- all words of the tables are good ones -/
def pm_good (T : pT) : Prop := ∀ v ∈ T.2.1, goodWord v = true
theorem pm_goodIn {T : pT} (hg : pm_good T) {ws : List Cond} (h : ∀ v ∈ ws, v ∈ T.2.1) : GoodIn T.2.1 ws := fun v hv => ⟨h v hv, good_of_word (hg v (h v hv))⟩
theorem pm_goodWs {G : pG} {T : pT} (hg : pm_good T) {y : Nat} (hc : Cond.code (pm_nm G y) (pm_by G y) (pm_nL G y) (pm_rt G y) ∈ T.2.1) : GoodIn T.2.1 (pm_ws G T y) := by
  refine pm_goodIn hg fun v hv => ?_
  rcases List.mem_cons.mp hv with rfl | h
  · exact hc
  · exact h
section CallsK
variable {G : pG} {T : pT} {k i : Nat}
theorem so_callS {n y na rk : Nat} (hg : pm_good T) (hd : decode (pm_by G k) (pm_pc G k i) = .ok (.invokestatic n, 3)) (hc : Cond.code (pm_nm G y) (pm_by G y) (pm_nL G y) (pm_rt G y) ∈ T.2.1) (h1 : Cond.methodLink (pm_nm G k).cls n (pm_nm G y) ∈ T.2.1) (h2 : Cond.static (pm_nm G y) ∈ T.2.1) (h3 : Cond.initialized (pm_nm G y).cls ∈ T.2.1)
    (hy : (pm_nm G y).cls ≠ "java/lang/invoke/MethodHandle" ∧ (pm_nm G y).cls ≠ "java/lang/invoke/VarHandle" ∧ (parseMethodDescriptor (pm_nm G y).desc).map (fun d => d.parameters.length) = some na) (hR : pm_fr G y + 1 ≤ pm_fr G k ∧ 8 + (pm_nL G y + 11) + pm_lo G y ≤ pm_lo G k) (hp1 : pm_pc G k (i + 1) = pm_pc G k i + 3) : pm_CallOK G T k i (y, na, rk, 0) := by
  intro p l e R s m args below meth c0 w C hf hlo H locs cells slots mc ms Q mls ls st as rest st' hp hp' v ha hm hpu hH hS hL hM hcc hss kk
  dsimp only at ha hm hpu hM
  obtain ⟨rfl, hn⟩ := pm_args_eq ha
  have hcat := (pm_may_spec hm).1
  rw [hp1] at kk
  have hT : GoodIn T.2.1 (va_wsS (pm_nm G k).cls n (pm_nm G y) (pm_ws G T y)) := by
    refine pm_goodIn hg fun v hv => ?_
    unfold va_wsS at hv
    rcases List.mem_append.mp hv with h | h
    · simp only [List.mem_cons, List.not_mem_nil, or_false] at h
      rcases h with rfl | rfl | rfl
      · exact h1
      · exact h2
      · exact h3
    · exact (pm_goodWs hg hc v h).1
  refine pm_after (va_runS (As := as.map (pm_em w)) ⟨C.1, C.2.1, C.2.2.1, C.2.2.2.1, C.2.2.2.2.1⟩ hM (va_cwS na C.2.2.2.2.1 hT rfl rfl rfl hy ⟨by rw [hf]; exact hR.1, by rw [hlo]; exact hR.2⟩) ⟨pm_Pc_blind T w as hp, fun U hU hW => ⟨rfl, by rw [hU]; exact hH, pm_K_to C.2.2.2.2.2.1 hS hU hW⟩⟩ rfl (by rw [List.length_map]; exact hn) hL.1 ?_ (lv_room (by rw [pm_cat_map]; exact hcat)) hd ⟨hcc, hss⟩) hpu hS kk
  show (as.reverse ++ rest).map (pm_em w) = _
  rw [List.map_append, List.map_reverse]
theorem so_callSN {n y na rk : Nat} {host : String} (hg : pm_good T) (hd : decode (pm_by G k) (pm_pc G k i) = .ok (.invokestatic n, 3)) (hc : Cond.code (pm_nm G y) (pm_by G y) (pm_nL G y) (pm_rt G y) ∈ T.2.1) (h1 : ((pm_nm G k).cls, n, pm_nm G y, host) ∈ T.2.2) (h2 : Cond.static (pm_nm G y) ∈ T.2.1) (h3 : Cond.initialized (pm_nm G y).cls ∈ T.2.1)
    (hy : (pm_nm G y).cls ≠ "java/lang/invoke/MethodHandle" ∧ (pm_nm G y).cls ≠ "java/lang/invoke/VarHandle" ∧ (parseMethodDescriptor (pm_nm G y).desc).map (fun d => d.parameters.length) = some na) (hR : pm_fr G y + 1 ≤ pm_fr G k ∧ 8 + (pm_nL G y + 11) + pm_lo G y ≤ pm_lo G k) (hp1 : pm_pc G k (i + 1) = pm_pc G k i + 3) : pm_CallOK G T k i (y, na, rk, 0) := by
  intro p l e R s m args below meth c0 w C hf hlo H locs cells slots mc ms Q mls ls st as rest st' hp hp' v ha hm hpu hH hS hL hM hcc hss kk
  dsimp only at ha hm hpu hM
  obtain ⟨rfl, hn⟩ := pm_args_eq ha
  have hcat := (pm_may_spec hm).1
  rw [hp1] at kk
  refine pm_after (va_runSN (host := host) (As := as.map (pm_em w)) ⟨C.1, C.2.1, C.2.2.1, C.2.2.2.1, C.2.2.2.2.1⟩ hM ⟨va_cnB na C.2.2.2.2.1 (pm_goodWs hg hc) rfl rfl rfl (C.2.2.2.2.2.1.2.1 _ h1) (C.2.2.2.2.1 _ h3) hy ⟨by rw [hf]; exact hR.1, by rw [hlo]; exact hR.2⟩, C.2.2.2.2.1 _ h2, trivial⟩ ⟨pm_Pc_blind T w as hp, fun U hU hW => ⟨rfl, by rw [hU]; exact hH, pm_K_to C.2.2.2.2.2.1 hS hU hW⟩⟩ rfl (by rw [List.length_map]; exact hn) hL.1 ?_ (lv_room (by rw [pm_cat_map]; exact hcat)) hd ⟨hcc, hss⟩) hpu hS kk
  show (as.reverse ++ rest).map (pm_em w) = _
  rw [List.map_append, List.map_reverse]
theorem so_callI {n y na rk : Nat} (hg : pm_good T) (hd : decode (pm_by G k) (pm_pc G k i) = .ok (.invokespecial n, 3)) (hc : Cond.code (pm_nm G y) (pm_by G y) (pm_nL G y) (pm_rt G y) ∈ T.2.1) (hrt : pm_rt G y = none) (hini : (pm_nm G y).name = "<init>") (h1 : Cond.methodLink (pm_nm G k).cls n (pm_nm G y) ∈ T.2.1) (h2 : Cond.instanceMethod (pm_nm G y) ∈ T.2.1) (h3 : Cond.initialized (pm_nm G y).cls ∈ T.2.1) {ci N : Nat} {C9 : String} {Tb : u_T} (hcl : T.1[ci]? = some (C9, Tb, N))
    (hy : (pm_nm G y).cls ≠ "java/lang/invoke/MethodHandle" ∧ (pm_nm G y).cls ≠ "java/lang/invoke/VarHandle" ∧ (parseMethodDescriptor (pm_nm G y).desc).map (fun d => d.parameters.length) = some na) (hR : pm_fr G y + 1 ≤ pm_fr G k ∧ 8 + (pm_nL G y + 11) + pm_lo G y ≤ pm_lo G k) (hp1 : pm_pc G k (i + 1) = pm_pc G k i + 3) : pm_CallOK G T k i (y, na + 1, rk, ci + 1) := by
  intro p l e R s m args below meth c0 w C hf hlo H locs cells slots mc ms Q mls ls st as rest st' hp hp' v ha hm hpu hH hS hL hM hcc hss kk
  dsimp only at ha hm hpu hM
  obtain ⟨rfl, hn⟩ := pm_args_eq ha
  obtain ⟨hcat, -, hrc⟩ := pm_may_spec hm
  rw [hp1] at kk
  match as, hn, hrc, hM with
  | .ref b :: As, hn, hrc, hM =>
    refine pm_after (va_runI (As := As.map (pm_em w)) (b := pm_ad w b) ⟨C.1, C.2.1, C.2.2.1, C.2.2.2.1, C.2.2.2.2.1⟩ hM (cwI na C.2.2.2.2.1 (pm_goodWs hg hc) (by rw [← hrt]; rfl) rfl rfl (C.2.2.2.2.1 _ h3) (C.2.2.2.2.1 _ h1) (C.2.2.2.2.1 _ h2) hini hy ⟨by rw [hf]; exact hR.1, by rw [hlo]; exact hR.2⟩) ⟨pm_Pc_blind T w _ hp, fun U hU hW => ⟨rfl, by rw [hU]; exact hH, pm_K_to C.2.2.2.2.2.1 hS hU hW⟩⟩ rfl (by rw [List.length_map]; simpa using hn) hL.1 ?_ (lv_room (by rw [pm_cat_map]; exact hcat)) hd ⟨hcc, hss⟩) hpu hS kk
    show ((Value.ref b :: As).reverse ++ rest).map (pm_em w) = _
    rw [List.map_append, List.map_reverse, List.map_cons, List.reverse_cons, List.append_assoc]
    rfl
theorem so_callV {n y na rk : Nat} (hg : pm_good T) (hd : decode (pm_by G k) (pm_pc G k i) = .ok (.invokevirtual n, 3)) (hc : Cond.code (pm_nm G y) (pm_by G y) (pm_nL G y) (pm_rt G y) ∈ T.2.1) (h1 : Cond.methodLink (pm_nm G k).cls n (pm_nm G y) ∈ T.2.1) (h2 : Cond.instanceMethod (pm_nm G y) ∈ T.2.1) (h3 : Cond.initialized (pm_nm G y).cls ∈ T.2.1) (h4 : Cond.selects (pm_nm G y).cls (pm_nm G y) (pm_nm G y) ∈ T.2.1) {ci N : Nat} {Tb : u_T} (hcl : T.1[ci]? = some ((pm_nm G y).cls, Tb, N))
    (hy : (pm_nm G y).cls ≠ "java/lang/invoke/MethodHandle" ∧ (pm_nm G y).cls ≠ "java/lang/invoke/VarHandle" ∧ (parseMethodDescriptor (pm_nm G y).desc).map (fun d => d.parameters.length) = some na) (hR : pm_fr G y + 1 ≤ pm_fr G k ∧ 8 + (pm_nL G y + 11) + pm_lo G y ≤ pm_lo G k) (hp1 : pm_pc G k (i + 1) = pm_pc G k i + 3) : pm_CallOK G T k i (y, na + 1, rk, ci + 1) := by
  intro p l e R s m args below meth c0 w C hf hlo H locs cells slots mc ms Q mls ls st as rest st' hp hp' v ha hm hpu hH hS hL hM hcc hss kk
  dsimp only at ha hm hpu hM
  obtain ⟨rfl, hn⟩ := pm_args_eq ha
  obtain ⟨hcat, -, hrc⟩ := pm_may_spec hm
  rw [hp1] at kk
  have hT : GoodIn T.2.1 (wsV (pm_nm G k).cls n (pm_nm G y).cls (pm_nm G y) (pm_ws G T y)) := by
    refine pm_goodIn hg fun v hv => ?_
    unfold wsV at hv
    rcases List.mem_append.mp hv with h | h
    · simp only [List.mem_cons, List.not_mem_nil, or_false] at h
      rcases h with rfl | rfl | rfl | rfl
      · exact h1
      · exact h2
      · exact h4
      · exact h3
    · exact (pm_goodWs hg hc v h).1
  match as, hn, hrc, hM with
  | .ref b :: As, hn, hrc, hM =>
    unfold pm_rcv at hrc
    dsimp only at hrc
    split at hrc
    · rename_i c' fs hb
      have hcc' : c' = ci := by simpa using hrc
      subst hcc'
      obtain ⟨q, rfl, hat⟩ := hH.at hb
      refine pm_after (va_runV (As := As.map (pm_em w)) (b := w.1.2.1 + q) ⟨C.1, C.2.1, C.2.2.1, C.2.2.2.1, C.2.2.2.2.1⟩ hM (cwV na C.2.2.2.2.1 hT rfl rfl rfl ⟨rfl, hy⟩ ⟨by rw [hf]; exact hR.1, by rw [hlo]; exact hR.2⟩) ⟨pm_Pc_blind T w _ hp, va_recv C.2.2.2.2.2.1.1 (pm_P1 hat) hcl (q0 := 0) rfl, fun U hU hW => ⟨rfl, by rw [hU]; exact hH, pm_K_to C.2.2.2.2.2.1 hS hU hW⟩⟩ rfl (by rw [List.length_map]; simpa using hn) hL.1 ?_ (lv_room (by rw [pm_cat_map]; exact hcat)) hd ⟨hcc, hss⟩) hpu hS kk
      show ((Value.ref (q + 1) :: As).reverse ++ rest).map (pm_em w) = _
      rw [List.map_append, List.map_reverse, List.map_cons, List.reverse_cons, List.append_assoc]
      rfl
    · cases hrc
end CallsK
end
section
/-! What a step does to the heap's size; whole runs. -/
def pm_Mono (f : pS → Option pS) : Prop := ∀ s s' : pS, f s = some s' → s.2.2.2.length ≤ s'.2.2.2.length ∧ pm_sz s.2.2.2 ≤ pm_sz s'.2.2.2
section Monos
variable {a b : Nat} {x : Int32} {y : Int64} {f : Int32 → Int32 → Int32} {g : Int64 → Int64 → Int64} {c1 : Int32 → Bool} {c2 : Int32 → Int32 → Bool} {sl : List (Int32 × Nat)}
theorem mo_iload : pm_Mono (op_iload a) := by
  intro s s' h
  unfold op_iload at h
  (repeat' split at h) <;> first | (cases h; exact ⟨Nat.le_refl _, Nat.le_refl _⟩) | cases h
theorem mo_lload : pm_Mono (op_lload a) := by
  intro s s' h
  unfold op_lload at h
  (repeat' split at h) <;> first | (cases h; exact ⟨Nat.le_refl _, Nat.le_refl _⟩) | cases h
theorem mo_aload : pm_Mono (op_aload a) := by
  intro s s' h
  unfold op_aload at h
  (repeat' split at h) <;> first | (cases h; exact ⟨Nat.le_refl _, Nat.le_refl _⟩) | cases h
theorem mo_istore : pm_Mono (op_istore a) := by
  intro s s' h
  unfold op_istore at h
  (repeat' split at h) <;> first | (cases h; exact ⟨Nat.le_refl _, Nat.le_refl _⟩) | cases h
theorem mo_lstore : pm_Mono (op_lstore a) := by
  intro s s' h
  unfold op_lstore at h
  (repeat' split at h) <;> first | (cases h; exact ⟨Nat.le_refl _, Nat.le_refl _⟩) | cases h
theorem mo_astore : pm_Mono (op_astore a) := by
  intro s s' h
  unfold op_astore at h
  (repeat' split at h) <;> first | (cases h; exact ⟨Nat.le_refl _, Nat.le_refl _⟩) | cases h
theorem mo_ic : pm_Mono (op_ic x) := by
  intro s s' h
  unfold op_ic at h
  (repeat' split at h) <;> first | (cases h; exact ⟨Nat.le_refl _, Nat.le_refl _⟩) | cases h
theorem mo_lc : pm_Mono (op_lc y) := by
  intro s s' h
  unfold op_lc at h
  (repeat' split at h) <;> first | (cases h; exact ⟨Nat.le_refl _, Nat.le_refl _⟩) | cases h
theorem mo_iinc : pm_Mono (op_iinc a x) := by
  intro s s' h
  unfold op_iinc at h
  (repeat' split at h) <;> first | (cases h; exact ⟨Nat.le_refl _, Nat.le_refl _⟩) | cases h
theorem mo_bin : pm_Mono (op_bin f) := by
  intro s s' h
  unfold op_bin at h
  (repeat' split at h) <;> first | (cases h; exact ⟨Nat.le_refl _, Nat.le_refl _⟩) | cases h
theorem mo_div : pm_Mono (op_div f) := by
  intro s s' h
  unfold op_div at h
  (repeat' split at h) <;> first | (cases h; exact ⟨Nat.le_refl _, Nat.le_refl _⟩) | cases h
theorem mo_lbin : pm_Mono (op_lbin g) := by
  intro s s' h
  unfold op_lbin at h
  (repeat' split at h) <;> first | (cases h; exact ⟨Nat.le_refl _, Nat.le_refl _⟩) | cases h
theorem mo_ldiv : pm_Mono (op_ldiv g) := by
  intro s s' h
  unfold op_ldiv at h
  (repeat' split at h) <;> first | (cases h; exact ⟨Nat.le_refl _, Nat.le_refl _⟩) | cases h
theorem mo_i2l : pm_Mono (op_i2l) := by
  intro s s' h
  unfold op_i2l at h
  (repeat' split at h) <;> first | (cases h; exact ⟨Nat.le_refl _, Nat.le_refl _⟩) | cases h
theorem mo_l2i : pm_Mono (op_l2i) := by
  intro s s' h
  unfold op_l2i at h
  (repeat' split at h) <;> first | (cases h; exact ⟨Nat.le_refl _, Nat.le_refl _⟩) | cases h
theorem mo_lcmp : pm_Mono (op_lcmp) := by
  intro s s' h
  unfold op_lcmp at h
  (repeat' split at h) <;> first | (cases h; exact ⟨Nat.le_refl _, Nat.le_refl _⟩) | cases h
theorem mo_dup : pm_Mono (op_dup) := by
  intro s s' h
  unfold op_dup at h
  (repeat' split at h) <;> first | (cases h; exact ⟨Nat.le_refl _, Nat.le_refl _⟩) | cases h
theorem mo_dup2 : pm_Mono (op_dup2) := by
  intro s s' h
  unfold op_dup2 at h
  (repeat' split at h) <;> first | (cases h; exact ⟨Nat.le_refl _, Nat.le_refl _⟩) | cases h
theorem mo_pop : pm_Mono (op_pop) := by
  intro s s' h
  unfold op_pop at h
  (repeat' split at h) <;> first | (cases h; exact ⟨Nat.le_refl _, Nat.le_refl _⟩) | cases h
theorem mo_goto : pm_Mono (op_goto a) := by
  intro s s' h
  unfold op_goto at h
  (repeat' split at h) <;> first | (cases h; exact ⟨Nat.le_refl _, Nat.le_refl _⟩) | cases h
theorem mo_if : pm_Mono (op_if c1 a) := by
  intro s s' h
  unfold op_if at h
  (repeat' split at h) <;> first | (cases h; exact ⟨Nat.le_refl _, Nat.le_refl _⟩) | cases h
theorem mo_icmp : pm_Mono (op_icmp c2 a) := by
  intro s s' h
  unfold op_icmp at h
  (repeat' split at h) <;> first | (cases h; exact ⟨Nat.le_refl _, Nat.le_refl _⟩) | cases h
theorem mo_sw : pm_Mono (op_sw a sl) := by
  intro s s' h
  unfold op_sw at h
  (repeat' split at h) <;> first | (cases h; exact ⟨Nat.le_refl _, Nat.le_refl _⟩) | cases h
theorem mo_getI : pm_Mono (op_getI a b) := by
  intro s s' h
  unfold op_getI at h
  (repeat' split at h) <;> first | (cases h; exact ⟨Nat.le_refl _, Nat.le_refl _⟩) | cases h
theorem mo_getA : pm_Mono (op_getA a b) := by
  intro s s' h
  unfold op_getA at h
  (repeat' split at h) <;> first | (cases h; exact ⟨Nat.le_refl _, Nat.le_refl _⟩) | cases h
theorem mo_iald : pm_Mono (op_iald a) := by
  intro s s' h
  unfold op_iald at h
  (repeat' split at h) <;> first | (cases h; exact ⟨Nat.le_refl _, Nat.le_refl _⟩) | cases h
theorem mo_lald : pm_Mono (op_lald) := by
  intro s s' h
  unfold op_lald at h
  (repeat' split at h) <;> first | (cases h; exact ⟨Nat.le_refl _, Nat.le_refl _⟩) | cases h
theorem mo_alen : pm_Mono (op_alen a) := by
  intro s s' h
  unfold op_alen at h
  (repeat' split at h) <;> first | (cases h; exact ⟨Nat.le_refl _, Nat.le_refl _⟩) | cases h
theorem mo_objinit : pm_Mono (op_objinit) := by
  intro s s' h
  unfold op_objinit at h
  (repeat' split at h) <;> first | (cases h; exact ⟨Nat.le_refl _, Nat.le_refl _⟩) | cases h
theorem mo_putI : pm_Mono (op_putI a b) := by
  intro s s' h
  unfold op_putI at h
  split at h
  · split at h
    · rename_i ha
      split at h
      · cases h
        exact ⟨Nat.le_of_eq List.length_set.symm, Nat.le_of_eq (pm_sz_set _ _ _ _ ha (by simp [pm_esz])).symm⟩
      · cases h
    · cases h
  · cases h
theorem mo_putZ : pm_Mono (op_putZ a b) := by
  intro s s' h
  unfold op_putZ at h
  split at h
  · split at h
    · rename_i ha
      split at h
      · cases h
        exact ⟨Nat.le_of_eq List.length_set.symm, Nat.le_of_eq (pm_sz_set _ _ _ _ ha (by simp [pm_esz])).symm⟩
      · cases h
    · cases h
  · cases h
theorem mo_putA : pm_Mono (op_putA a b) := by
  intro s s' h
  unfold op_putA at h
  split at h
  · split at h
    · rename_i ha
      split at h
      · cases h
        exact ⟨Nat.le_of_eq List.length_set.symm, Nat.le_of_eq (pm_sz_set _ _ _ _ ha (by simp [pm_esz])).symm⟩
      · cases h
    · cases h
  · cases h
theorem mo_iast : pm_Mono (op_iast) := by
  intro s s' h
  unfold op_iast at h
  split at h
  · split at h
    · rename_i ha
      split at h
      · cases h
        refine ⟨Nat.le_of_eq List.length_set.symm, Nat.le_of_eq (Eq.symm ?_)⟩
        exact pm_sz_set _ _ _ _ ha rfl
      · cases h
    · cases h
  · cases h
theorem mo_zast : pm_Mono (op_zast) := by
  intro s s' h
  unfold op_zast at h
  split at h
  · split at h
    · rename_i ha
      split at h
      · cases h
        refine ⟨Nat.le_of_eq List.length_set.symm, Nat.le_of_eq (Eq.symm ?_)⟩
        exact pm_sz_set _ _ _ _ ha rfl
      · cases h
    · cases h
  · cases h
theorem mo_last : pm_Mono (op_last) := by
  intro s s' h
  unfold op_last at h
  split at h
  · split at h
    · rename_i ha
      split at h
      · cases h
        refine ⟨Nat.le_of_eq List.length_set.symm, Nat.le_of_eq (Eq.symm ?_)⟩
        exact pm_sz_set _ _ _ _ ha rfl
      · cases h
    · cases h
  · cases h
theorem mo_newa : pm_Mono (op_newa a) := by
  intro s s' h
  unfold op_newa at h
  split at h
  · split at h
    · cases h
      exact ⟨by simp, by rw [pm_sz_app]; exact Nat.le_add_right _ _⟩
    · cases h
  · cases h
theorem mo_new {fs : List Value} : pm_Mono (op_new a fs) := by
  intro s s' h
  unfold op_new at h
  cases h
  exact ⟨by simp, by rw [pm_sz_app]; exact Nat.le_add_right _ _⟩
end Monos
def pm_MF (G : pG) (y : Nat) : Prop := plainName (pm_nm G y).cls = true ∧ pm_pc G y 0 = 0 ∧ 1 ≤ pm_fr G y ∧ 20 ≤ pm_lo G y
def pm_OK (G : pG) (T : pT) (k i : Nat) : pOp → Prop
  | .inl f => pm_Mono f ∧ pm_Sim G T k i f
  | .inr (.inl c) => pm_CallOK G T k i c ∧ pm_MF G c.1
  | .inr (.inr rk) => pm_RetOK G T k i rk
def pm_All (G : pG) (T : pT) : Prop := ∀ (k i : Nat) (o : pOp), G.1 k i = some o → pm_OK G T k i o
theorem pm_mono {G : pG} {T : pT} (hA : pm_All G T) : ∀ (n k : Nat) (s : pS) (r : pR), pm_ex G n k s = some r → s.2.2.2.length ≤ r.2.length ∧ pm_sz s.2.2.2 ≤ pm_sz r.2
  | 0, _, _, _, h => by cases h
  | n + 1, k, s, r, h => by
    have ih := pm_mono hA n
    have h : pm_go (pm_ex G n) G k s (G.1 k s.1) = some r := h
    generalize ho : G.1 k s.1 = o at h
    match o, ho, h with
    | none, _, h => cases h
    | some (.inl f), ho, h =>
      simp only [pm_go, Option.bind_eq_some_iff] at h
      obtain ⟨s', h1, h2⟩ := h
      have a1 := (hA _ _ _ ho).1 s s' h1
      have a2 := ih _ _ _ h2
      exact ⟨Nat.le_trans a1.1 a2.1, Nat.le_trans a1.2 a2.2⟩
    | some (.inr (.inl c)), _, h =>
      simp only [pm_go, Option.bind_eq_some_iff] at h
      obtain ⟨ar, h1, h2⟩ := h
      split at h2
      · simp only [Option.bind_eq_some_iff] at h2
        obtain ⟨r1, h3, st, h4, h5⟩ := h2
        have a1 := ih _ _ _ h3
        have a2 := ih _ _ _ h5
        exact ⟨Nat.le_trans a1.1 a2.1, Nat.le_trans a1.2 a2.2⟩
      · cases h2
    | some (.inr (.inr rk)), _, h =>
      simp only [pm_go, Option.map_eq_some_iff] at h
      obtain ⟨v, -, rfl⟩ := h
      exact ⟨Nat.le_refl _, Nat.le_refl _⟩
theorem pm_entry_mem (w : pW) : ∀ (as : List Value) (o j : Nat) (v : Value), (pm_ent as)[j]? = some (some v) → (o + j, pm_em w v) ∈ lv_args o (as.map (pm_em w))
  | [], _, _, _, h => by simp [pm_ent] at h
  | a :: as, o, j, v, h => by
    have two : a.category = 2 → pm_ent (a :: as) = some a :: none :: pm_ent as := by
      intro hc
      cases a <;> first | rfl | cases hc
    have one : a.category = 1 → pm_ent (a :: as) = some a :: pm_ent as := by
      intro hc
      cases a <;> first | rfl | cases hc
    show _ ∈ (o, pm_em w a) :: lv_args (if (pm_em w a).category = 2 then o + 2 else o + 1) (as.map (pm_em w))
    rw [pm_em_cat]
    rcases lv_cat a with hc | hc
    · rw [one hc] at h
      rw [if_neg (by omega)]
      match j, h with
      | 0, h => cases h; exact List.mem_cons_self
      | j + 1, h =>
        have := pm_entry_mem w as (o + 1) j v h
        rw [show o + 1 + j = o + (j + 1) by omega] at this
        exact List.mem_cons_of_mem _ this
    · rw [two hc] at h
      rw [if_pos hc]
      match j, h with
      | 0, h => cases h; exact List.mem_cons_self
      | 1, h => cases h
      | j + 2, h =>
        have := pm_entry_mem w as (o + 2) j v h
        rw [show o + 2 + j = o + (j + 2) by omega] at this
        exact List.mem_cons_of_mem _ this
theorem pm_ent_len : ∀ as : List Value, (pm_ent as).length = (lg_sl as).length
  | [] => rfl
  | a :: as => by
    have ih := pm_ent_len as
    unfold lg_sl at ih ⊢
    rw [List.flatMap_cons, List.length_append, ← ih]
    cases a <;> simp [pm_ent, Value.category] <;> omega
theorem lg_sl_em (w : pW) (as : List Value) : (lg_sl (as.map (pm_em w))).length = (lg_sl as).length := by
  rw [← pm_ent_len, ← pm_ent_len]
  induction as with
  | nil => rfl
  | cons a as ih => cases a <;> simp [pm_ent, pm_em, ih]
theorem pm_LR_entry (w : pW) {nL : Nat} {as : List Value} (h : (pm_ent as).length ≤ nL) : pm_LR w nL ((lg_sl (as.map (pm_em w)) ++ List.replicate (nL - (lg_sl (as.map (pm_em w))).length) Slot.unset).toArray) (pm_entry nL as) := by
  have hl := lv_entry (as.map (pm_em w)) (n := nL) (by rw [lg_sl_em, ← pm_ent_len]; exact h)
  refine ⟨hl.1, by unfold pm_entry; rw [List.length_append, List.length_replicate]; omega, hl.2.1, fun j v hj => ?_⟩
  unfold pm_entry at hj
  by_cases hlt : j < (pm_ent as).length
  · rw [List.getElem?_append_left hlt] at hj
    have := pm_entry_mem w as 0 j v hj
    rw [Nat.zero_add] at this
    exact hl.2.2 _ this
  · rw [List.getElem?_append_right (by omega)] at hj
    have := List.eq_of_mem_replicate (List.mem_of_getElem? hj)
    cases this
/-- THE RUN: from place i of method k, up to a return -/
def pm_SimW (G : pG) (T : pT) (n : Nat) : Prop :=
  ∀ (k i : Nat) (ls : List pO) (st : List Value) (hp hp' : pH) (v : Option Value), pm_ex G n k (i, ls, st, hp) = some (v, hp') →
  ∀ (p : Program) (l : Launch) (e : Env) (R : Room) (s : State) (m : MethodId) (args : Array Value) (below : List Frame) (meth : Method) (c : Code) (w : pW), pm_Cx G T w k p m c meth s args → R.frames = pm_fr G k → R.locals = pm_lo G k → 1 ≤ R.frames → 20 ≤ R.locals →
  ∀ (H : Heap) (locs : List Loc) (cells slots : Nat) (Q : State → Prop) (mls : Array Slot), pm_HR T w hp H → va_S (pm_A w) s.heap H locs → pm_LR w (pm_nL G k) mls ls → cells + (hp'.length - hp.length) ≤ R.cells → slots + (pm_sz hp' - pm_sz hp) ≤ R.slots →
  (∀ (H' : Heap) (locs' : List Loc) (mls' : Array Slot) (i' rk : Nat) (st' : List Value), G.1 k i' = some (.inr (.inr rk)) → pm_ret rk st' = some v → pm_HR T w hp' H' → va_S (pm_A w) s.heap H' locs' → W p l e R s m args below meth c H' locs' (cells + (hp'.length - hp.length)) (slots + (pm_sz hp' - pm_sz hp)) Q (F0 m (pm_pc G k i') mls' (st'.map (pm_em w)))) →
  W p l e R s m args below meth c H locs cells slots Q (F0 m (pm_pc G k i) mls (st.map (pm_em w)))
theorem pm_met {G : pG} {T : pT} (hA : pm_All G T) {n : Nat} (ih : pm_SimW G T n) {y : Nat} (hy : pm_MF G y) {as : List Value} {hp hp' : pH} {v : Option Value} (hlen : (pm_ent as).length ≤ pm_nL G y) (h : pm_ex G n y (0, pm_entry (pm_nL G y) as, [], hp) = some (v, hp')) (l : Launch) (w : pW) :
    Met l (pm_nm G y) (pm_ws G T y) { frames := pm_fr G y, cells := hp'.length - hp.length, slots := pm_sz hp' - pm_sz hp, locals := pm_lo G y } (pm_Pc T w as hp) (pm_Qc T w v hp') (hp'.length - hp.length) (pm_sz hp' - pm_sz hp) (pm_A w) := by
  refine Met.ofW (cc := pm_by G y) (maxL := pm_nL G y) (ret := pm_rt G y) hy.1 rfl ?_
  intro p e s m args below meth c s₁ B hml hv
  obtain ⟨rfl, hH, hK⟩ := hv
  have hts := atoms_spec (ws := pm_ws G T y) B.pre
  have C : pm_Cx G T w y p m c meth s (as.map (pm_em w)).toArray := ⟨B.exec, B.bytes, hml, findClass_of_methodNamed B.named, fun v hv => hts v (List.mem_cons_of_mem _ hv), hK, B.notSynchronized, B.returns, (name_of_methodNamed B.named B.method).1⟩
  rw [lg_entry_eq]
  have := ih y 0 _ _ _ _ _ h p l e { frames := pm_fr G y, cells := hp'.length - hp.length, slots := pm_sz hp' - pm_sz hp, locals := pm_lo G y } s m (as.map (pm_em w)).toArray below meth c w C rfl rfl hy.2.2.1 hy.2.2.2 s.heap [] 0 0 (MQ below (pm_Qc T w v hp') (as.map (pm_em w)).toArray s (hp'.length - hp.length) (pm_sz hp' - pm_sz hp) (pm_A w)) _ hH va_S.rf (pm_LR_entry w hlen) (Nat.le_of_eq (Nat.zero_add _)) (Nat.le_of_eq (Nat.zero_add _)) ?_
  · rw [hy.2.1] at this
    exact this
  · intro H' locs' mls' i' rk st' hrk hret hH' hS'
    rw [Nat.zero_add, Nat.zero_add]
    exact (hA _ _ _ hrk) p l e _ s m _ below meth c w C H' locs' _ _ (pm_Qc T w v hp') (pm_A w) mls' st' v hret (fun t ht hW => ⟨rfl, by rw [ht]; exact hH', hS'.F ht⟩) hS'.2.2
theorem pm_simW {G : pG} {T : pT} (hA : pm_All G T) : ∀ n, pm_SimW G T n
  | 0 => fun k i ls st hp hp' v h => by cases h
  | n + 1 => by
    have ih := pm_simW hA n
    intro k i ls st hp hp' v h p l e R s m args below meth c w C hRf hRl hR1 hR2 H locs cells slots Q mls hH hS hL hc hs fin
    have h : pm_go (pm_ex G n) G k (i, ls, st, hp) (G.1 k i) = some (v, hp') := h
    generalize ho : G.1 k i = o at h
    match o, ho, h with
    | none, _, h => cases h
    | some (.inl f), ho, h =>
      simp only [pm_go, Option.bind_eq_some_iff] at h
      obtain ⟨⟨i', ls', st', hp1⟩, h1, h2⟩ := h
      obtain ⟨hmo, hsim⟩ := hA _ _ _ ho
      have m1 := hmo _ _ h1
      have m2 := pm_mono hA _ _ _ _ h2
      dsimp only at m1 m2
      refine (hsim p l e R s m args below meth c w C hR1 hR2 H locs cells slots Q mls ls st hp _ h1).2 hH hS hL (by dsimp only; omega) (by dsimp only; omega) (fun H' locs' mls' hH' hS' hL' => ?_)
      dsimp only at hH' hL' ⊢
      refine ih k i' ls' st' hp1 hp' v h2 p l e R s m args below meth c w C hRf hRl hR1 hR2 H' locs' _ _ Q mls' hH' hS' hL' (by omega) (by omega) ?_
      intro H2 locs2 mls2 i2 rk st2 b1 b2 b3 b4
      have := fin H2 locs2 mls2 i2 rk st2 b1 b2 b3 b4
      rw [show cells + (hp1.length - hp.length) + (hp'.length - hp1.length) = cells + (hp'.length - hp.length) by omega, show slots + (pm_sz hp1 - pm_sz hp) + (pm_sz hp' - pm_sz hp1) = slots + (pm_sz hp' - pm_sz hp) by omega]
      exact this
    | some (.inr (.inl c')), ho, h =>
      simp only [pm_go, Option.bind_eq_some_iff] at h
      obtain ⟨⟨as, rest⟩, h1, h2⟩ := h
      split at h2
      · rename_i hm
        simp only [Option.bind_eq_some_iff] at h2
        obtain ⟨⟨v1, hp1⟩, h3, st', h4, h5⟩ := h2
        obtain ⟨hcall, hmf⟩ := hA _ _ _ ho
        have m1 := pm_mono hA _ _ _ _ h3
        have m2 := pm_mono hA _ _ _ _ h5
        dsimp only at m1 m2 hm h3 h4 h5
        refine hcall p l e R s m args below meth c w C hRf hRl H locs cells slots (hp1.length - hp.length) (pm_sz hp1 - pm_sz hp) Q mls ls st as rest st' hp hp1 v1 h1 hm h4 hH hS hL (pm_met hA ih hmf (pm_may_spec hm).2.1 h3 l w) (by omega) (by omega) (fun H' locs' hH' hS' => ?_)
        refine ih k (i + 1) ls st' hp1 hp' v h5 p l e R s m args below meth c w C hRf hRl hR1 hR2 H' locs' _ _ Q mls hH' hS' hL (by omega) (by omega) ?_
        intro H2 locs2 mls2 i2 rk st2 b1 b2 b3 b4
        have := fin H2 locs2 mls2 i2 rk st2 b1 b2 b3 b4
        rw [show cells + (hp1.length - hp.length) + (hp'.length - hp1.length) = cells + (hp'.length - hp.length) by omega, show slots + (pm_sz hp1 - pm_sz hp) + (pm_sz hp' - pm_sz hp1) = slots + (pm_sz hp' - pm_sz hp) by omega]
        exact this
      · cases h2
    | some (.inr (.inr rk)), ho, h =>
      simp only [pm_go, Option.map_eq_some_iff] at h
      obtain ⟨v1, h1, h2⟩ := h
      cases h2
      have := fin H locs mls i rk st ho h1 hH hS
      rw [Nat.sub_self, Nat.sub_self] at this
      exact this
end
