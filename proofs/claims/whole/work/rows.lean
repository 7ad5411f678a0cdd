section
-- ===== PART A: goes FIRST, ahead of the names: the tables' words, and 'selects' of the private methods out of them =====
/-- a private method of a class that the tables say can be made, by its rows of tables_1 -/
def lw_okq (q : MethodName × Nat) : Prop := (q.1.cls ≠ "java/lang/invoke/MethodHandle" ∧ q.1.cls ≠ "java/lang/invoke/VarHandle") ∧ Cond.instantiable q.1.cls q.2 ∈ tables_1 ∧ Cond.privateMethod q.1 ∈ tables_1 ∧ Cond.instanceMethod q.1 ∈ tables_1
theorem lw_p0 : lw_okq (⟨"VeilNations$World", "setVeil", "(IZ)V"⟩, 8) := ⟨⟨by decide +kernel, by decide +kernel⟩, List.mem_of_getElem? (i := 28) (by decide +kernel), List.mem_of_getElem? (i := 243) (by decide +kernel), List.mem_of_getElem? (i := 244) (by decide +kernel)⟩
theorem lw_p1 : lw_okq (⟨"VeilNations$Pad", "take", "(II)I"⟩, 6) := ⟨⟨by decide +kernel, by decide +kernel⟩, List.mem_of_getElem? (i := 109) (by decide +kernel), List.mem_of_getElem? (i := 311) (by decide +kernel), List.mem_of_getElem? (i := 312) (by decide +kernel)⟩
theorem lw_p2 : lw_okq (⟨"VeilNations$Pad", "takeFirst", "(I)I"⟩, 6) := ⟨⟨by decide +kernel, by decide +kernel⟩, List.mem_of_getElem? (i := 109) (by decide +kernel), List.mem_of_getElem? (i := 315) (by decide +kernel), List.mem_of_getElem? (i := 316) (by decide +kernel)⟩
theorem lw_p3 : lw_okq (⟨"VeilNations$Pad", "close", "()I"⟩, 6) := ⟨⟨by decide +kernel, by decide +kernel⟩, List.mem_of_getElem? (i := 109) (by decide +kernel), List.mem_of_getElem? (i := 319) (by decide +kernel), List.mem_of_getElem? (i := 320) (by decide +kernel)⟩
theorem lw_p4 : lw_okq (⟨"VeilNations$Pad", "takeDeed", "(I)I"⟩, 6) := ⟨⟨by decide +kernel, by decide +kernel⟩, List.mem_of_getElem? (i := 109) (by decide +kernel), List.mem_of_getElem? (i := 323) (by decide +kernel), List.mem_of_getElem? (i := 324) (by decide +kernel)⟩
theorem lw_p5 : lw_okq (⟨"VeilNations", "follow", "(Z)I"⟩, 8) := ⟨⟨by decide +kernel, by decide +kernel⟩, List.mem_of_getElem? (i := 14) (by decide +kernel), List.mem_of_getElem? (i := 334) (by decide +kernel), List.mem_of_getElem? (i := 335) (by decide +kernel)⟩
theorem lw_p6 : lw_okq (⟨"VeilNations$Course", "begin", "(LVeilNations$World;)V"⟩, 6) := ⟨⟨by decide +kernel, by decide +kernel⟩, List.mem_of_getElem? (i := 137) (by decide +kernel), List.mem_of_getElem? (i := 342) (by decide +kernel), List.mem_of_getElem? (i := 343) (by decide +kernel)⟩
theorem lw_p7 : lw_okq (⟨"VeilNations$World", "whyNotKiss", "(II)I"⟩, 8) := ⟨⟨by decide +kernel, by decide +kernel⟩, List.mem_of_getElem? (i := 28) (by decide +kernel), List.mem_of_getElem? (i := 373) (by decide +kernel), List.mem_of_getElem? (i := 374) (by decide +kernel)⟩
theorem lw_p8 : lw_okq (⟨"VeilNations$World", "annex", "(II)I"⟩, 8) := ⟨⟨by decide +kernel, by decide +kernel⟩, List.mem_of_getElem? (i := 28) (by decide +kernel), List.mem_of_getElem? (i := 390) (by decide +kernel), List.mem_of_getElem? (i := 391) (by decide +kernel)⟩
theorem lw_p9 : lw_okq (⟨"VeilNations$World", "addTears", "(II)V"⟩, 8) := ⟨⟨by decide +kernel, by decide +kernel⟩, List.mem_of_getElem? (i := 28) (by decide +kernel), List.mem_of_getElem? (i := 395) (by decide +kernel), List.mem_of_getElem? (i := 396) (by decide +kernel)⟩
theorem lw_p10 : lw_okq (⟨"VeilNations$World", "blow", "(I)V"⟩, 8) := ⟨⟨by decide +kernel, by decide +kernel⟩, List.mem_of_getElem? (i := 28) (by decide +kernel), List.mem_of_getElem? (i := 399) (by decide +kernel), List.mem_of_getElem? (i := 400) (by decide +kernel)⟩
theorem lw_p11 : lw_okq (⟨"VeilNations$World", "passDay", "()I"⟩, 8) := ⟨⟨by decide +kernel, by decide +kernel⟩, List.mem_of_getElem? (i := 28) (by decide +kernel), List.mem_of_getElem? (i := 410) (by decide +kernel), List.mem_of_getElem? (i := 411) (by decide +kernel)⟩
theorem lw_p12 : lw_okq (⟨"VeilNations$Course", "note", "(II)V"⟩, 6) := ⟨⟨by decide +kernel, by decide +kernel⟩, List.mem_of_getElem? (i := 137) (by decide +kernel), List.mem_of_getElem? (i := 414) (by decide +kernel), List.mem_of_getElem? (i := 415) (by decide +kernel)⟩
theorem lw_p13 : lw_okq (⟨"VeilNations$World", "countFoes", "()V"⟩, 8) := ⟨⟨by decide +kernel, by decide +kernel⟩, List.mem_of_getElem? (i := 28) (by decide +kernel), List.mem_of_getElem? (i := 463) (by decide +kernel), List.mem_of_getElem? (i := 464) (by decide +kernel)⟩
theorem lw_p14 : lw_okq (⟨"VeilNations$Calls", "canBeInTime", "(I)Z"⟩, 2) := ⟨⟨by decide +kernel, by decide +kernel⟩, List.mem_of_getElem? (i := 63) (by decide +kernel), List.mem_of_getElem? (i := 481) (by decide +kernel), List.mem_of_getElem? (i := 482) (by decide +kernel)⟩
theorem lw_p15 : lw_okq (⟨"VeilNations$Calls", "minutesDueBy", "(II)I"⟩, 2) := ⟨⟨by decide +kernel, by decide +kernel⟩, List.mem_of_getElem? (i := 63) (by decide +kernel), List.mem_of_getElem? (i := 486) (by decide +kernel), List.mem_of_getElem? (i := 487) (by decide +kernel)⟩
def lw_privs_1 : List (MethodName × Nat) := [(⟨"VeilNations$World", "setVeil", "(IZ)V"⟩, 8), (⟨"VeilNations$Pad", "take", "(II)I"⟩, 6), (⟨"VeilNations$Pad", "takeFirst", "(I)I"⟩, 6), (⟨"VeilNations$Pad", "close", "()I"⟩, 6), (⟨"VeilNations$Pad", "takeDeed", "(I)I"⟩, 6), (⟨"VeilNations", "follow", "(Z)I"⟩, 8), (⟨"VeilNations$Course", "begin", "(LVeilNations$World;)V"⟩, 6), (⟨"VeilNations$World", "whyNotKiss", "(II)I"⟩, 8), (⟨"VeilNations$World", "annex", "(II)I"⟩, 8), (⟨"VeilNations$World", "addTears", "(II)V"⟩, 8), (⟨"VeilNations$World", "blow", "(I)V"⟩, 8), (⟨"VeilNations$World", "passDay", "()I"⟩, 8), (⟨"VeilNations$Course", "note", "(II)V"⟩, 6), (⟨"VeilNations$World", "countFoes", "()V"⟩, 8), (⟨"VeilNations$Calls", "canBeInTime", "(I)Z"⟩, 2), (⟨"VeilNations$Calls", "minutesDueBy", "(II)I"⟩, 2)]
theorem lw_r1 : ∀ q ∈ lw_privs_1, lw_okq q := List.forall_mem_cons.mpr ⟨lw_p0, List.forall_mem_cons.mpr ⟨lw_p1, List.forall_mem_cons.mpr ⟨lw_p2, List.forall_mem_cons.mpr ⟨lw_p3, List.forall_mem_cons.mpr ⟨lw_p4, List.forall_mem_cons.mpr ⟨lw_p5, List.forall_mem_cons.mpr ⟨lw_p6, List.forall_mem_cons.mpr ⟨lw_p7, List.forall_mem_cons.mpr ⟨lw_p8, List.forall_mem_cons.mpr ⟨lw_p9, List.forall_mem_cons.mpr ⟨lw_p10, List.forall_mem_cons.mpr ⟨lw_p11, List.forall_mem_cons.mpr ⟨lw_p12, List.forall_mem_cons.mpr ⟨lw_p13, List.forall_mem_cons.mpr ⟨lw_p14, List.forall_mem_cons.mpr ⟨lw_p15, fun _ h => absurd h List.not_mem_nil⟩⟩⟩⟩⟩⟩⟩⟩⟩⟩⟩⟩⟩⟩⟩⟩
theorem lw_p16 : lw_okq (⟨"VeilNations$Stamps", "countFewest", "(I)V"⟩, 2) := ⟨⟨by decide +kernel, by decide +kernel⟩, List.mem_of_getElem? (i := 186) (by decide +kernel), List.mem_of_getElem? (i := 503) (by decide +kernel), List.mem_of_getElem? (i := 504) (by decide +kernel)⟩
theorem lw_p17 : lw_okq (⟨"VeilNations$Stamps", "haveCommonDivisor", "()Z"⟩, 2) := ⟨⟨by decide +kernel, by decide +kernel⟩, List.mem_of_getElem? (i := 186) (by decide +kernel), List.mem_of_getElem? (i := 516) (by decide +kernel), List.mem_of_getElem? (i := 517) (by decide +kernel)⟩
theorem lw_p18 : lw_okq (⟨"VeilNations$Rhythms", "gatherOne", "(ILVeilNations$Sights;)V"⟩, 2) := ⟨⟨by decide +kernel, by decide +kernel⟩, List.mem_of_getElem? (i := 172) (by decide +kernel), List.mem_of_getElem? (i := 545) (by decide +kernel), List.mem_of_getElem? (i := 546) (by decide +kernel)⟩
theorem lw_p19 : lw_okq (⟨"VeilNations", "toldOfOne", "(II)I"⟩, 8) := ⟨⟨by decide +kernel, by decide +kernel⟩, List.mem_of_getElem? (i := 14) (by decide +kernel), List.mem_of_getElem? (i := 630) (by decide +kernel), List.mem_of_getElem? (i := 631) (by decide +kernel)⟩
theorem lw_p20 : lw_okq (⟨"VeilNationsModel", "agree", "(IIZ)V"⟩, 34) := ⟨⟨by decide +kernel, by decide +kernel⟩, List.mem_of_getElem? (i := 638) (by decide +kernel), List.mem_of_getElem? (i := 769) (by decide +kernel), List.mem_of_getElem? (i := 770) (by decide +kernel)⟩
theorem lw_p21 : lw_okq (⟨"VeilNationsModel", "treatyMany", "()I"⟩, 34) := ⟨⟨by decide +kernel, by decide +kernel⟩, List.mem_of_getElem? (i := 638) (by decide +kernel), List.mem_of_getElem? (i := 773) (by decide +kernel), List.mem_of_getElem? (i := 774) (by decide +kernel)⟩
theorem lw_p22 : lw_okq (⟨"VeilNationsModel", "readOn", "(II)I"⟩, 34) := ⟨⟨by decide +kernel, by decide +kernel⟩, List.mem_of_getElem? (i := 638) (by decide +kernel), List.mem_of_getElem? (i := 804) (by decide +kernel), List.mem_of_getElem? (i := 805) (by decide +kernel)⟩
theorem lw_p23 : lw_okq (⟨"VeilNationsModel", "begin", "(I)I"⟩, 34) := ⟨⟨by decide +kernel, by decide +kernel⟩, List.mem_of_getElem? (i := 638) (by decide +kernel), List.mem_of_getElem? (i := 808) (by decide +kernel), List.mem_of_getElem? (i := 809) (by decide +kernel)⟩
theorem lw_p24 : lw_okq (⟨"VeilNationsModel", "close", "(II)I"⟩, 34) := ⟨⟨by decide +kernel, by decide +kernel⟩, List.mem_of_getElem? (i := 638) (by decide +kernel), List.mem_of_getElem? (i := 817) (by decide +kernel), List.mem_of_getElem? (i := 818) (by decide +kernel)⟩
theorem lw_p25 : lw_okq (⟨"VeilNationsModel", "deed", "(I)I"⟩, 34) := ⟨⟨by decide +kernel, by decide +kernel⟩, List.mem_of_getElem? (i := 638) (by decide +kernel), List.mem_of_getElem? (i := 821) (by decide +kernel), List.mem_of_getElem? (i := 822) (by decide +kernel)⟩
theorem lw_p26 : lw_okq (⟨"VeilNationsModel", "refusal", "()I"⟩, 34) := ⟨⟨by decide +kernel, by decide +kernel⟩, List.mem_of_getElem? (i := 638) (by decide +kernel), List.mem_of_getElem? (i := 832) (by decide +kernel), List.mem_of_getElem? (i := 833) (by decide +kernel)⟩
theorem lw_p27 : lw_okq (⟨"VeilNationsModel", "keepNow", "()V"⟩, 34) := ⟨⟨by decide +kernel, by decide +kernel⟩, List.mem_of_getElem? (i := 638) (by decide +kernel), List.mem_of_getElem? (i := 836) (by decide +kernel), List.mem_of_getElem? (i := 837) (by decide +kernel)⟩
theorem lw_p28 : lw_okq (⟨"VeilNationsModel", "goDays", "()V"⟩, 34) := ⟨⟨by decide +kernel, by decide +kernel⟩, List.mem_of_getElem? (i := 638) (by decide +kernel), List.mem_of_getElem? (i := 841) (by decide +kernel), List.mem_of_getElem? (i := 842) (by decide +kernel)⟩
theorem lw_p29 : lw_okq (⟨"VeilNationsModel", "whyNot", "(III)I"⟩, 34) := ⟨⟨by decide +kernel, by decide +kernel⟩, List.mem_of_getElem? (i := 638) (by decide +kernel), List.mem_of_getElem? (i := 845) (by decide +kernel), List.mem_of_getElem? (i := 846) (by decide +kernel)⟩
theorem lw_p30 : lw_okq (⟨"VeilNationsModel", "whyNoKiss", "(II)I"⟩, 34) := ⟨⟨by decide +kernel, by decide +kernel⟩, List.mem_of_getElem? (i := 638) (by decide +kernel), List.mem_of_getElem? (i := 852) (by decide +kernel), List.mem_of_getElem? (i := 853) (by decide +kernel)⟩
theorem lw_p31 : lw_okq (⟨"VeilNationsModel", "goOne", "(I)V"⟩, 34) := ⟨⟨by decide +kernel, by decide +kernel⟩, List.mem_of_getElem? (i := 638) (by decide +kernel), List.mem_of_getElem? (i := 856) (by decide +kernel), List.mem_of_getElem? (i := 857) (by decide +kernel)⟩
def lw_privs_2 : List (MethodName × Nat) := [(⟨"VeilNations$Stamps", "countFewest", "(I)V"⟩, 2), (⟨"VeilNations$Stamps", "haveCommonDivisor", "()Z"⟩, 2), (⟨"VeilNations$Rhythms", "gatherOne", "(ILVeilNations$Sights;)V"⟩, 2), (⟨"VeilNations", "toldOfOne", "(II)I"⟩, 8), (⟨"VeilNationsModel", "agree", "(IIZ)V"⟩, 34), (⟨"VeilNationsModel", "treatyMany", "()I"⟩, 34), (⟨"VeilNationsModel", "readOn", "(II)I"⟩, 34), (⟨"VeilNationsModel", "begin", "(I)I"⟩, 34), (⟨"VeilNationsModel", "close", "(II)I"⟩, 34), (⟨"VeilNationsModel", "deed", "(I)I"⟩, 34), (⟨"VeilNationsModel", "refusal", "()I"⟩, 34), (⟨"VeilNationsModel", "keepNow", "()V"⟩, 34), (⟨"VeilNationsModel", "goDays", "()V"⟩, 34), (⟨"VeilNationsModel", "whyNot", "(III)I"⟩, 34), (⟨"VeilNationsModel", "whyNoKiss", "(II)I"⟩, 34), (⟨"VeilNationsModel", "goOne", "(I)V"⟩, 34)]
theorem lw_r2 : ∀ q ∈ lw_privs_2, lw_okq q := List.forall_mem_cons.mpr ⟨lw_p16, List.forall_mem_cons.mpr ⟨lw_p17, List.forall_mem_cons.mpr ⟨lw_p18, List.forall_mem_cons.mpr ⟨lw_p19, List.forall_mem_cons.mpr ⟨lw_p20, List.forall_mem_cons.mpr ⟨lw_p21, List.forall_mem_cons.mpr ⟨lw_p22, List.forall_mem_cons.mpr ⟨lw_p23, List.forall_mem_cons.mpr ⟨lw_p24, List.forall_mem_cons.mpr ⟨lw_p25, List.forall_mem_cons.mpr ⟨lw_p26, List.forall_mem_cons.mpr ⟨lw_p27, List.forall_mem_cons.mpr ⟨lw_p28, List.forall_mem_cons.mpr ⟨lw_p29, List.forall_mem_cons.mpr ⟨lw_p30, List.forall_mem_cons.mpr ⟨lw_p31, fun _ h => absurd h List.not_mem_nil⟩⟩⟩⟩⟩⟩⟩⟩⟩⟩⟩⟩⟩⟩⟩⟩
theorem lw_p32 : lw_okq (⟨"VeilNationsModel", "happen", "(III)V"⟩, 34) := ⟨⟨by decide +kernel, by decide +kernel⟩, List.mem_of_getElem? (i := 638) (by decide +kernel), List.mem_of_getElem? (i := 860) (by decide +kernel), List.mem_of_getElem? (i := 861) (by decide +kernel)⟩
theorem lw_p33 : lw_okq (⟨"VeilNationsModel", "annex", "(II)V"⟩, 34) := ⟨⟨by decide +kernel, by decide +kernel⟩, List.mem_of_getElem? (i := 638) (by decide +kernel), List.mem_of_getElem? (i := 864) (by decide +kernel), List.mem_of_getElem? (i := 865) (by decide +kernel)⟩
theorem lw_p34 : lw_okq (⟨"VeilNationsModel", "mend", "(I)V"⟩, 34) := ⟨⟨by decide +kernel, by decide +kernel⟩, List.mem_of_getElem? (i := 638) (by decide +kernel), List.mem_of_getElem? (i := 868) (by decide +kernel), List.mem_of_getElem? (i := 869) (by decide +kernel)⟩
theorem lw_p35 : lw_okq (⟨"VeilNationsModel", "gust", "(I)V"⟩, 34) := ⟨⟨by decide +kernel, by decide +kernel⟩, List.mem_of_getElem? (i := 638) (by decide +kernel), List.mem_of_getElem? (i := 872) (by decide +kernel), List.mem_of_getElem? (i := 873) (by decide +kernel)⟩
theorem lw_p36 : lw_okq (⟨"VeilNationsModel", "thick", "(I)I"⟩, 34) := ⟨⟨by decide +kernel, by decide +kernel⟩, List.mem_of_getElem? (i := 638) (by decide +kernel), List.mem_of_getElem? (i := 876) (by decide +kernel), List.mem_of_getElem? (i := 877) (by decide +kernel)⟩
theorem lw_p37 : lw_okq (⟨"VeilNationsModel", "passDay", "()V"⟩, 34) := ⟨⟨by decide +kernel, by decide +kernel⟩, List.mem_of_getElem? (i := 638) (by decide +kernel), List.mem_of_getElem? (i := 880) (by decide +kernel), List.mem_of_getElem? (i := 881) (by decide +kernel)⟩
theorem lw_p38 : lw_okq (⟨"VeilNationsModel", "back", "(I)I"⟩, 34) := ⟨⟨by decide +kernel, by decide +kernel⟩, List.mem_of_getElem? (i := 638) (by decide +kernel), List.mem_of_getElem? (i := 884) (by decide +kernel), List.mem_of_getElem? (i := 885) (by decide +kernel)⟩
theorem lw_p39 : lw_okq (⟨"VeilNationsModel", "ofOne", "(II)I"⟩, 34) := ⟨⟨by decide +kernel, by decide +kernel⟩, List.mem_of_getElem? (i := 638) (by decide +kernel), List.mem_of_getElem? (i := 892) (by decide +kernel), List.mem_of_getElem? (i := 893) (by decide +kernel)⟩
theorem lw_p40 : lw_okq (⟨"VeilNationsModel", "ofAll", "(I)I"⟩, 34) := ⟨⟨by decide +kernel, by decide +kernel⟩, List.mem_of_getElem? (i := 638) (by decide +kernel), List.mem_of_getElem? (i := 901) (by decide +kernel), List.mem_of_getElem? (i := 902) (by decide +kernel)⟩
theorem lw_p41 : lw_okq (⟨"VeilNationsModel", "manyOf", "(I)I"⟩, 34) := ⟨⟨by decide +kernel, by decide +kernel⟩, List.mem_of_getElem? (i := 638) (by decide +kernel), List.mem_of_getElem? (i := 905) (by decide +kernel), List.mem_of_getElem? (i := 906) (by decide +kernel)⟩
theorem lw_p42 : lw_okq (⟨"VeilNationsModel", "seenBy", "(III)I"⟩, 34) := ⟨⟨by decide +kernel, by decide +kernel⟩, List.mem_of_getElem? (i := 638) (by decide +kernel), List.mem_of_getElem? (i := 921) (by decide +kernel), List.mem_of_getElem? (i := 922) (by decide +kernel)⟩
theorem lw_p43 : lw_okq (⟨"VeilNationsModel", "quarrels", "(I)I"⟩, 34) := ⟨⟨by decide +kernel, by decide +kernel⟩, List.mem_of_getElem? (i := 638) (by decide +kernel), List.mem_of_getElem? (i := 929) (by decide +kernel), List.mem_of_getElem? (i := 930) (by decide +kernel)⟩
theorem lw_p44 : lw_okq (⟨"VeilNationsModel", "isInTime", "(I)Z"⟩, 34) := ⟨⟨by decide +kernel, by decide +kernel⟩, List.mem_of_getElem? (i := 638) (by decide +kernel), List.mem_of_getElem? (i := 937) (by decide +kernel), List.mem_of_getElem? (i := 938) (by decide +kernel)⟩
theorem lw_p45 : lw_okq (⟨"VeilNationsModel", "nextCall", "(I)I"⟩, 34) := ⟨⟨by decide +kernel, by decide +kernel⟩, List.mem_of_getElem? (i := 638) (by decide +kernel), List.mem_of_getElem? (i := 941) (by decide +kernel), List.mem_of_getElem? (i := 942) (by decide +kernel)⟩
theorem lw_p46 : lw_okq (⟨"VeilNationsModel", "waysFor", "(IIII)I"⟩, 34) := ⟨⟨by decide +kernel, by decide +kernel⟩, List.mem_of_getElem? (i := 638) (by decide +kernel), List.mem_of_getElem? (i := 954) (by decide +kernel), List.mem_of_getElem? (i := 955) (by decide +kernel)⟩
theorem lw_p47 : lw_okq (⟨"VeilNationsModel", "oneMore", "(II)I"⟩, 34) := ⟨⟨by decide +kernel, by decide +kernel⟩, List.mem_of_getElem? (i := 638) (by decide +kernel), List.mem_of_getElem? (i := 958) (by decide +kernel), List.mem_of_getElem? (i := 959) (by decide +kernel)⟩
def lw_privs_3 : List (MethodName × Nat) := [(⟨"VeilNationsModel", "happen", "(III)V"⟩, 34), (⟨"VeilNationsModel", "annex", "(II)V"⟩, 34), (⟨"VeilNationsModel", "mend", "(I)V"⟩, 34), (⟨"VeilNationsModel", "gust", "(I)V"⟩, 34), (⟨"VeilNationsModel", "thick", "(I)I"⟩, 34), (⟨"VeilNationsModel", "passDay", "()V"⟩, 34), (⟨"VeilNationsModel", "back", "(I)I"⟩, 34), (⟨"VeilNationsModel", "ofOne", "(II)I"⟩, 34), (⟨"VeilNationsModel", "ofAll", "(I)I"⟩, 34), (⟨"VeilNationsModel", "manyOf", "(I)I"⟩, 34), (⟨"VeilNationsModel", "seenBy", "(III)I"⟩, 34), (⟨"VeilNationsModel", "quarrels", "(I)I"⟩, 34), (⟨"VeilNationsModel", "isInTime", "(I)Z"⟩, 34), (⟨"VeilNationsModel", "nextCall", "(I)I"⟩, 34), (⟨"VeilNationsModel", "waysFor", "(IIII)I"⟩, 34), (⟨"VeilNationsModel", "oneMore", "(II)I"⟩, 34)]
theorem lw_r3 : ∀ q ∈ lw_privs_3, lw_okq q := List.forall_mem_cons.mpr ⟨lw_p32, List.forall_mem_cons.mpr ⟨lw_p33, List.forall_mem_cons.mpr ⟨lw_p34, List.forall_mem_cons.mpr ⟨lw_p35, List.forall_mem_cons.mpr ⟨lw_p36, List.forall_mem_cons.mpr ⟨lw_p37, List.forall_mem_cons.mpr ⟨lw_p38, List.forall_mem_cons.mpr ⟨lw_p39, List.forall_mem_cons.mpr ⟨lw_p40, List.forall_mem_cons.mpr ⟨lw_p41, List.forall_mem_cons.mpr ⟨lw_p42, List.forall_mem_cons.mpr ⟨lw_p43, List.forall_mem_cons.mpr ⟨lw_p44, List.forall_mem_cons.mpr ⟨lw_p45, List.forall_mem_cons.mpr ⟨lw_p46, List.forall_mem_cons.mpr ⟨lw_p47, fun _ h => absurd h List.not_mem_nil⟩⟩⟩⟩⟩⟩⟩⟩⟩⟩⟩⟩⟩⟩⟩⟩
theorem lw_p48 : lw_okq (⟨"VeilNationsModel", "greatestNot", "()I"⟩, 34) := ⟨⟨by decide +kernel, by decide +kernel⟩, List.mem_of_getElem? (i := 638) (by decide +kernel), List.mem_of_getElem? (i := 965) (by decide +kernel), List.mem_of_getElem? (i := 966) (by decide +kernel)⟩
theorem lw_p49 : lw_okq (⟨"VeilNationsModel", "isFit", "(I)Z"⟩, 34) := ⟨⟨by decide +kernel, by decide +kernel⟩, List.mem_of_getElem? (i := 638) (by decide +kernel), List.mem_of_getElem? (i := 982) (by decide +kernel), List.mem_of_getElem? (i := 983) (by decide +kernel)⟩
theorem lw_p50 : lw_okq (⟨"VeilNationsModel", "leastLift", "(I)I"⟩, 34) := ⟨⟨by decide +kernel, by decide +kernel⟩, List.mem_of_getElem? (i := 638) (by decide +kernel), List.mem_of_getElem? (i := 998) (by decide +kernel), List.mem_of_getElem? (i := 999) (by decide +kernel)⟩
theorem lw_p51 : lw_okq (⟨"VeilNationsModel", "before", "([JII)J"⟩, 34) := ⟨⟨by decide +kernel, by decide +kernel⟩, List.mem_of_getElem? (i := 638) (by decide +kernel), List.mem_of_getElem? (i := 1007) (by decide +kernel), List.mem_of_getElem? (i := 1008) (by decide +kernel)⟩
theorem lw_p52 : lw_okq (⟨"VeilNationsModel", "passAll", "()V"⟩, 34) := ⟨⟨by decide +kernel, by decide +kernel⟩, List.mem_of_getElem? (i := 638) (by decide +kernel), List.mem_of_getElem? (i := 1029) (by decide +kernel), List.mem_of_getElem? (i := 1030) (by decide +kernel)⟩
theorem lw_p53 : lw_okq (⟨"VeilNationsModel", "pass", "(I)I"⟩, 34) := ⟨⟨by decide +kernel, by decide +kernel⟩, List.mem_of_getElem? (i := 638) (by decide +kernel), List.mem_of_getElem? (i := 1033) (by decide +kernel), List.mem_of_getElem? (i := 1034) (by decide +kernel)⟩
theorem lw_p54 : lw_okq (⟨"VeilNationsModel", "passRow", "([II)V"⟩, 34) := ⟨⟨by decide +kernel, by decide +kernel⟩, List.mem_of_getElem? (i := 638) (by decide +kernel), List.mem_of_getElem? (i := 1037) (by decide +kernel), List.mem_of_getElem? (i := 1038) (by decide +kernel)⟩
theorem lw_p55 : lw_okq (⟨"VeilNationsModel", "toldOne", "(II)I"⟩, 34) := ⟨⟨by decide +kernel, by decide +kernel⟩, List.mem_of_getElem? (i := 638) (by decide +kernel), List.mem_of_getElem? (i := 1051) (by decide +kernel), List.mem_of_getElem? (i := 1052) (by decide +kernel)⟩
def lw_privs_4 : List (MethodName × Nat) := [(⟨"VeilNationsModel", "greatestNot", "()I"⟩, 34), (⟨"VeilNationsModel", "isFit", "(I)Z"⟩, 34), (⟨"VeilNationsModel", "leastLift", "(I)I"⟩, 34), (⟨"VeilNationsModel", "before", "([JII)J"⟩, 34), (⟨"VeilNationsModel", "passAll", "()V"⟩, 34), (⟨"VeilNationsModel", "pass", "(I)I"⟩, 34), (⟨"VeilNationsModel", "passRow", "([II)V"⟩, 34), (⟨"VeilNationsModel", "toldOne", "(II)I"⟩, 34)]
theorem lw_r4 : ∀ q ∈ lw_privs_4, lw_okq q := List.forall_mem_cons.mpr ⟨lw_p48, List.forall_mem_cons.mpr ⟨lw_p49, List.forall_mem_cons.mpr ⟨lw_p50, List.forall_mem_cons.mpr ⟨lw_p51, List.forall_mem_cons.mpr ⟨lw_p52, List.forall_mem_cons.mpr ⟨lw_p53, List.forall_mem_cons.mpr ⟨lw_p54, List.forall_mem_cons.mpr ⟨lw_p55, fun _ h => absurd h List.not_mem_nil⟩⟩⟩⟩⟩⟩⟩⟩
def lw_privs : List (MethodName × Nat) := lw_privs_1 ++ (lw_privs_2 ++ (lw_privs_3 ++ (lw_privs_4)))
def lw_tbl : List Cond := k2_sels lw_privs ++ tables_1
theorem lw_privs_ok : ∀ q ∈ lw_privs, lw_okq q := by
  show ∀ q ∈ lw_privs_1 ++ (lw_privs_2 ++ (lw_privs_3 ++ (lw_privs_4))), lw_okq q
  exact List.forall_mem_append.mpr ⟨lw_r1, List.forall_mem_append.mpr ⟨lw_r2, List.forall_mem_append.mpr ⟨lw_r3, lw_r4⟩⟩⟩
-- ===== end of PART A; then your names; then what follows =====
end
section
/-! A pure machine: heap, steps, runs. No word of the Statement's machine here. -/
abbrev pE : Type := (Nat × vp_A) ⊕ (Nat × List Value)
abbrev pH : Type := List pE
abbrev pO : Type := Option Value
abbrev pS : Type := Nat × List pO × List Value × pH
/-- a call: callee, how many values, the answer's kind (0 none, 1 int, 2 long), 0 or 1 + the receiver's class -/
abbrev pC : Type := Nat × Nat × Nat × Nat
abbrev pOp : Type := (pS → Option pS) ⊕ (pC ⊕ Nat)
abbrev pR : Type := Option Value × pH
/-- a method: name, bytes, locals, answer's type, room in frames and locals, program counters -/
abbrev pI : Type := MethodName × ByteArray × Nat × Option FieldType × Nat × Nat × List (List Nat)
/-- tables in rows of sixteen -/
def lk2 {α : Type} (L : List (List α)) (k : Nat) (d : α) : α := (L.getD (k / 16) []).getD (k % 16) d
def lk2o {α : Type} (L : List (List α)) (k : Nat) : Option α := (L.getD (k / 16) [])[k % 16]?
abbrev pG : Type := (Nat → Nat → Option pOp) × (Nat → pI)
def pm_nm (G : pG) (k : Nat) : MethodName := (G.2 k).1
def pm_by (G : pG) (k : Nat) : ByteArray := (G.2 k).2.1
def pm_nL (G : pG) (k : Nat) : Nat := (G.2 k).2.2.1
def pm_rt (G : pG) (k : Nat) : Option FieldType := (G.2 k).2.2.2.1
def pm_fr (G : pG) (k : Nat) : Nat := (G.2 k).2.2.2.2.1
def pm_lo (G : pG) (k : Nat) : Nat := (G.2 k).2.2.2.2.2.1
def pm_pc (G : pG) (k i : Nat) : Nat := lk2 (G.2 k).2.2.2.2.2.2 i 0
/-- a store at place a may be made: within, and no long ends there -/
def pm_ok (ls : List pO) (a : Nat) : Bool := decide (a < ls.length) && (match a with
  | 0 => true
  | j + 1 => match ls[j]? with
    | some (some (.long _)) => false
    | some (some (.double _)) => false
    | _ => true)
/-- an index within -/
def pin (i : Int32) (n : Nat) : Bool := decide (¬ (i < 0 ∨ n ≤ i.toNatClampNeg))
theorem pin_in {i : Int32} {n : Nat} (h : pin i n = true) : vp_in i n := of_decide_eq_true (p := ¬ (i < 0 ∨ n ≤ i.toNatClampNeg)) h
-- the steps
def op_iload (a : Nat) : pS → Option pS := fun s => match s.2.1[a]? with
  | some (some (.int x)) => some (s.1 + 1, s.2.1, .int x :: s.2.2.1, s.2.2.2)
  | _ => none
def op_lload (a : Nat) : pS → Option pS := fun s => match s.2.1[a]? with
  | some (some (.long x)) => some (s.1 + 1, s.2.1, .long x :: s.2.2.1, s.2.2.2)
  | _ => none
def op_aload (a : Nat) : pS → Option pS := fun s => match s.2.1[a]? with
  | some (some (.ref x)) => some (s.1 + 1, s.2.1, .ref x :: s.2.2.1, s.2.2.2)
  | _ => none
def op_istore (a : Nat) : pS → Option pS := fun s => match s.2.2.1 with
  | .int x :: st => if pm_ok s.2.1 a = true then some (s.1 + 1, s.2.1.set a (some (.int x)), st, s.2.2.2) else none
  | _ => none
def op_lstore (a : Nat) : pS → Option pS := fun s => match s.2.2.1 with
  | .long x :: st => if pm_ok s.2.1 a = true ∧ a + 1 < s.2.1.length then some (s.1 + 1, (s.2.1.set a (some (.long x))).set (a + 1) none, st, s.2.2.2) else none
  | _ => none
def op_astore (a : Nat) : pS → Option pS := fun s => match s.2.2.1 with
  | .ref x :: st => if pm_ok s.2.1 a = true then some (s.1 + 1, s.2.1.set a (some (.ref x)), st, s.2.2.2) else none
  | _ => none
def op_ic (x : Int32) : pS → Option pS := fun s => some (s.1 + 1, s.2.1, .int x :: s.2.2.1, s.2.2.2)
def op_lc (x : Int64) : pS → Option pS := fun s => some (s.1 + 1, s.2.1, .long x :: s.2.2.1, s.2.2.2)
def op_iinc (a : Nat) (d : Int32) : pS → Option pS := fun s => match s.2.1[a]? with
  | some (some (.int x)) => if pm_ok s.2.1 a = true then some (s.1 + 1, s.2.1.set a (some (.int (x + d))), s.2.2.1, s.2.2.2) else none
  | _ => none
def op_bin (f : Int32 → Int32 → Int32) : pS → Option pS := fun s => match s.2.2.1 with
  | .int y :: .int x :: st => some (s.1 + 1, s.2.1, .int (f x y) :: st, s.2.2.2)
  | _ => none
def op_div (f : Int32 → Int32 → Int32) : pS → Option pS := fun s => match s.2.2.1 with
  | .int y :: .int x :: st => if y = 0 then none else some (s.1 + 1, s.2.1, .int (f x y) :: st, s.2.2.2)
  | _ => none
def op_max : pS → Option pS := fun s => match s.2.2.1 with
  | .int y :: .int x :: st => if (st.map fun v => v.category).sum ≤ 7 then some (s.1 + 1, s.2.1, .int (if x < y then y else x) :: st, s.2.2.2) else none
  | _ => none
def op_lbin (f : Int64 → Int64 → Int64) : pS → Option pS := fun s => match s.2.2.1 with
  | .long y :: .long x :: st => some (s.1 + 1, s.2.1, .long (f x y) :: st, s.2.2.2)
  | _ => none
def op_ldiv (f : Int64 → Int64 → Int64) : pS → Option pS := fun s => match s.2.2.1 with
  | .long y :: .long x :: st => if y = 0 then none else some (s.1 + 1, s.2.1, .long (f x y) :: st, s.2.2.2)
  | _ => none
def op_i2l : pS → Option pS := fun s => match s.2.2.1 with
  | .int x :: st => some (s.1 + 1, s.2.1, .long x.toInt64 :: st, s.2.2.2)
  | _ => none
def op_l2i : pS → Option pS := fun s => match s.2.2.1 with
  | .long x :: st => some (s.1 + 1, s.2.1, .int x.toInt32 :: st, s.2.2.2)
  | _ => none
def op_lcmp : pS → Option pS := fun s => match s.2.2.1 with
  | .long y :: .long x :: st => some (s.1 + 1, s.2.1, .int (lg_cmp x y) :: st, s.2.2.2)
  | _ => none
def op_dup : pS → Option pS := fun s => match s.2.2.1 with
  | .int x :: st => some (s.1 + 1, s.2.1, .int x :: .int x :: st, s.2.2.2)
  | .ref x :: st => some (s.1 + 1, s.2.1, .ref x :: .ref x :: st, s.2.2.2)
  | _ => none
def op_dup2 : pS → Option pS := fun s => match s.2.2.1 with
  | .int x :: .ref y :: st => some (s.1 + 1, s.2.1, .int x :: .ref y :: .int x :: .ref y :: st, s.2.2.2)
  | _ => none
def op_pop : pS → Option pS := fun s => match s.2.2.1 with
  | .int _ :: st => some (s.1 + 1, s.2.1, st, s.2.2.2)
  | .ref _ :: st => some (s.1 + 1, s.2.1, st, s.2.2.2)
  | _ => none
def op_goto (t : Nat) : pS → Option pS := fun s => some (t, s.2.1, s.2.2.1, s.2.2.2)
def op_if (c : Int32 → Bool) (t : Nat) : pS → Option pS := fun s => match s.2.2.1 with
  | .int x :: st => some (if c x = true then t else s.1 + 1, s.2.1, st, s.2.2.2)
  | _ => none
def op_icmp (c : Int32 → Int32 → Bool) (t : Nat) : pS → Option pS := fun s => match s.2.2.1 with
  | .int y :: .int x :: st => some (if c x y = true then t else s.1 + 1, s.2.1, st, s.2.2.2)
  | _ => none
def pm_sw (d : Nat) : List (Int32 × Nat) → Int32 → Nat
  | [], _ => d
  | q :: r, x => if x = q.1 then q.2 else pm_sw d r x
def op_sw (d : Nat) (l : List (Int32 × Nat)) : pS → Option pS := fun s => match s.2.2.1 with
  | .int x :: st => some (pm_sw d l x, s.2.1, st, s.2.2.2)
  | _ => none
def op_getI (ci k : Nat) : pS → Option pS := fun s => match s.2.2.1 with
  | .ref a :: st => match s.2.2.2[a]? with
    | some (.inr (c, fs)) => if c = ci then (match fs[k]? with
      | some (.int x) => some (s.1 + 1, s.2.1, .int x :: st, s.2.2.2)
      | _ => none) else none
    | _ => none
  | _ => none
def op_getA (ci k : Nat) : pS → Option pS := fun s => match s.2.2.1 with
  | .ref a :: st => match s.2.2.2[a]? with
    | some (.inr (c, fs)) => if c = ci then (match fs[k]? with
      | some (.ref x) => some (s.1 + 1, s.2.1, .ref x :: st, s.2.2.2)
      | _ => none) else none
    | _ => none
  | _ => none
def op_putI (ci k : Nat) : pS → Option pS := fun s => match s.2.2.1 with
  | .int x :: .ref a :: st => match s.2.2.2[a]? with
    | some (.inr (c, fs)) => if c = ci ∧ k < fs.length then some (s.1 + 1, s.2.1, st, s.2.2.2.set a (.inr (c, fs.set k (.int x)))) else none
    | _ => none
  | _ => none
def op_putZ (ci k : Nat) : pS → Option pS := fun s => match s.2.2.1 with
  | .int x :: .ref a :: st => match s.2.2.2[a]? with
    | some (.inr (c, fs)) => if (c = ci ∧ k < fs.length) ∧ (x = 0 ∨ x = 1) then some (s.1 + 1, s.2.1, st, s.2.2.2.set a (.inr (c, fs.set k (.int x)))) else none
    | _ => none
  | _ => none
def op_putA (ci k : Nat) : pS → Option pS := fun s => match s.2.2.1 with
  | .ref x :: .ref a :: st => match s.2.2.2[a]? with
    | some (.inr (c, fs)) => if c = ci ∧ k < fs.length then some (s.1 + 1, s.2.1, st, s.2.2.2.set a (.inr (c, fs.set k (.ref x)))) else none
    | _ => none
  | _ => none
/-- arrays: kind 0 of ints, 1 of booleans, 2 of longs, 3 the script -/
def op_iald (t : Nat) : pS → Option pS := fun s => match s.2.2.1 with
  | .int i :: .ref a :: st => match s.2.2.2[a]? with
    | some (.inl (t', n, .inl f)) => if t' = t ∧ pin i n = true then some (s.1 + 1, s.2.1, .int (f i.toNatClampNeg) :: st, s.2.2.2) else none
    | _ => none
  | _ => none
def op_lald : pS → Option pS := fun s => match s.2.2.1 with
  | .int i :: .ref a :: st => match s.2.2.2[a]? with
    | some (.inl (t', n, .inr (.inl f))) => if t' = 2 ∧ pin i n = true then some (s.1 + 1, s.2.1, .long (f i.toNatClampNeg) :: st, s.2.2.2) else none
    | _ => none
  | _ => none
def op_iast : pS → Option pS := fun s => match s.2.2.1 with
  | .int x :: .int i :: .ref a :: st => match s.2.2.2[a]? with
    | some (.inl (t', n, .inl f)) => if t' = 0 ∧ pin i n = true then some (s.1 + 1, s.2.1, st, s.2.2.2.set a (.inl (t', n, .inl (upd f i.toNatClampNeg x)))) else none
    | _ => none
  | _ => none
def op_zast : pS → Option pS := fun s => match s.2.2.1 with
  | .int x :: .int i :: .ref a :: st => match s.2.2.2[a]? with
    | some (.inl (t', n, .inl f)) => if (t' = 1 ∧ pin i n = true) ∧ (x = 0 ∨ x = 1) then some (s.1 + 1, s.2.1, st, s.2.2.2.set a (.inl (t', n, .inl (upd f i.toNatClampNeg x)))) else none
    | _ => none
  | _ => none
def op_last : pS → Option pS := fun s => match s.2.2.1 with
  | .long x :: .int i :: .ref a :: st => match s.2.2.2[a]? with
    | some (.inl (t', n, .inr (.inl f))) => if t' = 2 ∧ pin i n = true then some (s.1 + 1, s.2.1, st, s.2.2.2.set a (.inl (t', n, .inr (.inl (vp_updL f i.toNatClampNeg x))))) else none
    | _ => none
  | _ => none
def op_alen (t : Nat) : pS → Option pS := fun s => match s.2.2.1 with
  | .ref a :: st => match s.2.2.2[a]? with
    | some (.inl (t', n, .inl _)) => if t' = t then some (s.1 + 1, s.2.1, .int (Int32.ofNat n) :: st, s.2.2.2) else none
    | _ => none
  | _ => none
def pm_new (t n : Nat) : pE := .inl (t, n, if t = 2 then .inr (.inl (fun _ => 0)) else .inl (fun _ => 0))
def op_newa (t : Nat) : pS → Option pS := fun s => match s.2.2.1 with
  | .int n :: st => if 0 ≤ n ∧ n ≤ 1000 then some (s.1 + 1, s.2.1, .ref s.2.2.2.length :: st, s.2.2.2 ++ [pm_new t n.toNatClampNeg]) else none
  | _ => none
def op_new (ci : Nat) (fs : List Value) : pS → Option pS := fun s => some (s.1 + 1, s.2.1, .ref s.2.2.2.length :: s.2.2.1, s.2.2.2 ++ [.inr (ci, fs)])
def op_objinit : pS → Option pS := fun s => match s.2.2.1 with
  | .ref _ :: st => if (st.map fun v => v.category).sum ≤ 8 then some (s.1 + 1, s.2.1, st, s.2.2.2) else none
  | _ => none
-- runs
def pm_args (n : Nat) (st : List Value) : Option (List Value × List Value) := if n ≤ st.length then some ((st.take n).reverse, st.drop n) else none
def pm_ent : List Value → List pO
  | [] => []
  | .long x :: vs => some (.long x) :: none :: pm_ent vs
  | .double x :: vs => some (.double x) :: none :: pm_ent vs
  | v :: vs => some v :: pm_ent vs
def pm_entry (nL : Nat) (vs : List Value) : List pO := pm_ent vs ++ List.replicate (nL - (pm_ent vs).length) none
def pm_push : Nat → Option Value → List Value → Option (List Value)
  | 0, none, st => some st
  | 1, some (.int x), st => some (.int x :: st)
  | 2, some (.long x), st => some (.long x :: st)
  | _, _, _ => none
/-- kinds of return: 0 none, 1 int, 2 long, 3 boolean -/
def pm_ret : Nat → List Value → Option (Option Value)
  | 0, [] => some none
  | 1, [.int x] => some (some (.int x))
  | 2, [.long x] => some (some (.long x))
  | 3, [.int x] => if x = 0 ∨ x = 1 then some (some (.int x)) else none
  | _, _ => none
def pm_rcv (rc : Nat) (as : List Value) (hp : pH) : Bool := match rc with
  | 0 => true
  | ci + 1 => match as with
    | .ref a :: _ => match hp[a]? with
      | some (.inr (c, _)) => c == ci
      | _ => false
    | _ => false
def pm_may (c : pC) (nL : Nat) (as rest : List Value) (hp : pH) : Bool := decide ((rest.map fun v => v.category).sum ≤ 8) && (decide ((pm_ent as).length ≤ nL) && pm_rcv c.2.2.2 as hp)
def pm_go (E : Nat → pS → Option pR) (G : pG) (k : Nat) (s : pS) : Option pOp → Option pR
  | none => none
  | some (.inl f) => (f s).bind (fun s' => E k s')
  | some (.inr (.inl c)) => (pm_args c.2.1 s.2.2.1).bind (fun ar => if pm_may c (pm_nL G c.1) ar.1 ar.2 s.2.2.2 = true then
      (E c.1 (0, pm_entry (pm_nL G c.1) ar.1, [], s.2.2.2)).bind (fun r => (pm_push c.2.2.1 r.1 ar.2).bind (fun st => E k (s.1 + 1, s.2.1, st, r.2))) else none)
  | some (.inr (.inr rk)) => (pm_ret rk s.2.2.1).map (fun v => (v, s.2.2.2))
def pm_ex (G : pG) : Nat → Nat → pS → Option pR
  | 0, _, _ => none
  | n + 1, k, s => pm_go (pm_ex G n) G k s (G.1 k s.1)
theorem pm_go_le {E E' : Nat → pS → Option pR} (h : ∀ k s r, E k s = some r → E' k s = some r) {G : pG} {k : Nat} {s : pS} {o : Option pOp} {r : pR} (hr : pm_go E G k s o = some r) : pm_go E' G k s o = some r := by
  match o with
  | none => exact hr
  | some (.inl f) =>
    simp only [pm_go, Option.bind_eq_some_iff] at hr ⊢
    obtain ⟨s', h1, h2⟩ := hr
    exact ⟨s', h1, h _ _ _ h2⟩
  | some (.inr (.inl c)) =>
    simp only [pm_go, Option.bind_eq_some_iff] at hr ⊢
    obtain ⟨ar, h1, h2⟩ := hr
    refine ⟨ar, h1, ?_⟩
    split at h2
    · rename_i hm
      rw [if_pos hm]
      simp only [Option.bind_eq_some_iff] at h2 ⊢
      obtain ⟨r1, h3, st, h4, h5⟩ := h2
      exact ⟨r1, h _ _ _ h3, st, h4, h _ _ _ h5⟩
    · cases h2
  | some (.inr (.inr rk)) => exact hr
theorem pm_ex_succ (G : pG) : ∀ (n k : Nat) (s : pS) (r : pR), pm_ex G n k s = some r → pm_ex G (n + 1) k s = some r
  | 0, _, _, _, h => by cases h
  | n + 1, _, _, _, h => pm_go_le (E := pm_ex G n) (E' := pm_ex G (n + 1)) (pm_ex_succ G n) h
theorem pm_ex_le (G : pG) {n m : Nat} (h : n ≤ m) {k : Nat} {s : pS} {r : pR} (hr : pm_ex G n k s = some r) : pm_ex G m k s = some r := by
  induction h with
  | refl => exact hr
  | step _ ih => exact pm_ex_succ G _ _ _ _ ih
/-- what a run comes to, if it comes to an end -/
noncomputable def pm_dn (G : pG) (k : Nat) (s : pS) : Option pR := @dite _ (∃ n, (pm_ex G n k s).isSome = true) (Classical.propDecidable _) (fun h => pm_ex G (Classical.choose h) k s) (fun _ => none)
theorem pm_dn_iff (G : pG) (k : Nat) (s : pS) (r : pR) : pm_dn G k s = some r ↔ ∃ n, pm_ex G n k s = some r := by
  unfold pm_dn
  constructor
  · intro h
    split at h
    · exact ⟨_, h⟩
    · cases h
  · rintro ⟨n, h⟩
    have hs : ∃ n, (pm_ex G n k s).isSome = true := ⟨n, by rw [h]; rfl⟩
    rw [dif_pos hs]
    have h1 := Classical.choose_spec hs
    obtain ⟨r', hr'⟩ := Option.isSome_iff_exists.mp h1
    have e1 := pm_ex_le G (Nat.le_max_left n (Classical.choose hs)) h
    have e2 := pm_ex_le G (Nat.le_max_right n (Classical.choose hs)) hr'
    rw [hr', ← e2, e1]
theorem pm_dn_eq (G : pG) (k : Nat) (s : pS) : pm_dn G k s = pm_go (pm_dn G) G k s (G.1 k s.1) := by
  apply Option.ext
  intro r
  rw [pm_dn_iff]
  constructor
  · rintro ⟨n, h⟩
    match n, h with
    | n + 1, h => exact pm_go_le (E := pm_ex G n) (fun k s r h => (pm_dn_iff G k s r).mpr ⟨n, h⟩) h
  · intro h
    generalize ho : G.1 k s.1 = o at h
    match o, h with
    | none, h => cases h
    | some (.inl f), h =>
      simp only [pm_go, Option.bind_eq_some_iff] at h
      obtain ⟨s', h1, h2⟩ := h
      obtain ⟨n, h2⟩ := (pm_dn_iff _ _ _ _).mp h2
      refine ⟨n + 1, ?_⟩
      show pm_go (pm_ex G n) G k s (G.1 k s.1) = some r
      rw [ho]
      simp only [pm_go, Option.bind_eq_some_iff]
      exact ⟨s', h1, h2⟩
    | some (.inr (.inl c)), h =>
      simp only [pm_go, Option.bind_eq_some_iff] at h
      obtain ⟨ar, h1, h2⟩ := h
      split at h2
      · rename_i hm
        simp only [Option.bind_eq_some_iff] at h2
        obtain ⟨r1, h3, st, h4, h5⟩ := h2
        obtain ⟨n1, h3⟩ := (pm_dn_iff _ _ _ _).mp h3
        obtain ⟨n2, h5⟩ := (pm_dn_iff _ _ _ _).mp h5
        refine ⟨max n1 n2 + 1, ?_⟩
        show pm_go (pm_ex G (max n1 n2)) G k s (G.1 k s.1) = some r
        rw [ho]
        simp only [pm_go, Option.bind_eq_some_iff]
        refine ⟨ar, h1, ?_⟩
        rw [if_pos hm]
        simp only [Option.bind_eq_some_iff]
        exact ⟨r1, pm_ex_le G (Nat.le_max_left _ _) h3, st, h4, pm_ex_le G (Nat.le_max_right _ _) h5⟩
      · cases h2
    | some (.inr (.inr rk)), h =>
      refine ⟨1, ?_⟩
      show pm_go (pm_ex G 0) G k s (G.1 k s.1) = some r
      rw [ho]
      exact h
/-- a run of method k from instruction i on -/
noncomputable def dn (G : pG) (k i : Nat) (ls : List pO) (st : List Value) (hp : pH) : Option pR := pm_dn G k (i, ls, st, hp)
/-- a call of method y -/
noncomputable def cl (G : pG) (y : Nat) (as : List Value) (hp : pH) : Option pR := pm_dn G y (0, pm_entry (pm_nL G y) as, [], hp)
theorem dn_step {G : pG} {k i : Nat} {f : pS → Option pS} (h : G.1 k i = some (.inl f)) (ls : List pO) (st : List Value) (hp : pH) : dn G k i ls st hp = (f (i, ls, st, hp)).bind (fun s' => pm_dn G k s') := by
  unfold dn
  rw [pm_dn_eq]
  show pm_go (pm_dn G) G k (i, ls, st, hp) (G.1 k i) = _
  rw [h]
  rfl
theorem dn_ret {G : pG} {k i rk : Nat} (h : G.1 k i = some (.inr (.inr rk))) (ls : List pO) (st : List Value) (hp : pH) : dn G k i ls st hp = (pm_ret rk st).map (fun v => (v, hp)) := by
  unfold dn
  rw [pm_dn_eq]
  show pm_go (pm_dn G) G k (i, ls, st, hp) (G.1 k i) = _
  rw [h]
  rfl
theorem dn_call {G : pG} {k i : Nat} {c : pC} (h : G.1 k i = some (.inr (.inl c))) (ls : List pO) (st : List Value) (hp : pH) : dn G k i ls st hp = (pm_args c.2.1 st).bind (fun ar => if pm_may c (pm_nL G c.1) ar.1 ar.2 hp = true then (cl G c.1 ar.1 hp).bind (fun r => (pm_push c.2.2.1 r.1 ar.2).bind (fun st => dn G k (i + 1) ls st r.2)) else none) := by
  unfold dn
  rw [pm_dn_eq]
  show pm_go (pm_dn G) G k (i, ls, st, hp) (G.1 k i) = _
  rw [h]
  rfl
end
section
/-! The Statement's machine goes as the pure one goes: steps. -/
abbrev pN : Type := String × Nat × MethodName × String
def pm_nw (q : pN) : Cond := .methodLinkNest q.1 q.2.1 q.2.2.1 q.2.2.2
/-- the tables: classes, their words, the nest's words -/
abbrev pT : Type := List vw_C × List Cond × List pN
/-- a world: where the script lies, where the new cells begin, the script; the classes' numbers and slots, the arrays' classes -/
abbrev pW : Type := (Nat × Nat × Nat × (Nat → Int32)) × va_G × (Nat → ClassId)
def pm_ad (w : pW) : Nat → Nat
  | 0 => w.1.1
  | i + 1 => w.1.2.1 + i
def pm_em (w : pW) : Value → Value
  | .ref i => .ref (pm_ad w i)
  | v => v
def pm_emE (w : pW) : pE → va_E
  | .inl (t, a) => .inl (w.2.2 t, a)
  | .inr (c, fs) => .inr (c, fs.map (pm_em w))
def pm_HR (T : pT) (w : pW) (hp : pH) (H : Heap) : Prop := hp[0]? = some (.inl (3, w.1.2.2.1, .inl w.1.2.2.2)) ∧ H.size + 1 = w.1.2.1 + hp.length ∧ ∀ (i : Nat) (e : pE), hp[i + 1]? = some e → va_at w.2.1 T.1 (w.1.2.1 + i, pm_emE w e) H ∧ ∀ (t : Nat) (x : vp_A), e = .inl (t, x) → t ≠ 3
def pm_A (w : pW) : Nat → Prop := fun q => w.1.2.1 ≤ q
def pm_tys (w : pW) : List (ClassId × FieldType) := [(w.2.2 0, .int), (w.2.2 1, .boolean), (w.2.2 2, .long)]
/-- what holds of the tables in a state -/
def pm_K (T : pT) (w : pW) (s : State) : Prop := va_K w.2.1 T.1 (pm_tys w) s ∧ (∀ q ∈ T.2.2, va_Nw (pm_nw q) s) ∧ va_X w.1.1 w.1.2.2.1 w.1.2.2.2 s s.heap ∧ w.1.1 < w.1.2.1 ∧ w.1.2.1 ≤ s.heap.size
def pm_Cx (G : pG) (T : pT) (w : pW) (k : Nat) (p : Program) (m : MethodId) (c : Code) (meth : Method) (s : State) (args : Array Value) : Prop :=
  p.tables.exec = Jvm.exec ∧ c.code = pm_by G k ∧ c.maxLocals = pm_nL G k ∧ s.vm.findClass (pm_nm G k).cls = some m.cls ∧ (∀ v ∈ T.2.1, v.before args s = true) ∧ pm_K T w s ∧ meth.locks = false ∧ meth.sig.returnType = pm_rt G k ∧ meth.name = (pm_nm G k).name
def pm_LR (w : pW) (nL : Nat) (mls : Array Slot) (ls : List pO) : Prop := mls.size = nL ∧ ls.length = nL ∧ lv_wf mls ∧ ∀ (j : Nat) (v : Value), ls[j]? = some (some v) → mls[j]? = some (Slot.val (pm_em w v))
theorem pm_em_cat (w : pW) (v : Value) : (pm_em w v).category = v.category := by cases v <;> rfl
def pm_asc (w : pW) (ls : List pO) : List (Nat × Value) := (List.range ls.length).filterMap (fun j => match ls[j]? with
  | some (some v) => some (j, pm_em w v)
  | _ => none)
theorem pm_asc_mem {w : pW} {ls : List pO} {q : Nat × Value} : q ∈ pm_asc w ls ↔ ∃ v, ls[q.1]? = some (some v) ∧ q.2 = pm_em w v := by
  unfold pm_asc
  rw [List.mem_filterMap]
  constructor
  · rintro ⟨j, -, h⟩
    split at h
    · rename_i v hv
      cases h
      exact ⟨v, hv, rfl⟩
    · cases h
  · rintro ⟨v, h1, h2⟩
    refine ⟨q.1, List.mem_range.mpr (List.getElem?_eq_some_iff.mp h1).1, ?_⟩
    rw [h1]
    show some (q.1, pm_em w v) = some q
    rw [← h2]
theorem pm_LR.has {w : pW} {nL : Nat} {mls : Array Slot} {ls : List pO} (h : pm_LR w nL mls ls) : lv_has mls nL (pm_asc w ls) := by
  refine ⟨h.1, h.2.2.1, fun q hq => ?_⟩
  obtain ⟨v, h1, h2⟩ := pm_asc_mem.mp hq
  rw [h2]
  exact h.2.2.2 _ _ h1
theorem pm_ok_lt {ls : List pO} {a : Nat} (h : pm_ok ls a = true) : a < ls.length := by
  unfold pm_ok at h
  simp only [Bool.and_eq_true, decide_eq_true_eq] at h
  exact h.1
theorem pm_ok_no {ls : List pO} {j : Nat} {v : Value} (h : pm_ok ls (j + 1) = true) (hv : ls[j]? = some (some v)) : v.category = 1 := by
  unfold pm_ok at h
  simp only [Bool.and_eq_true, decide_eq_true_eq] at h
  have h2 := h.2
  rw [hv] at h2
  cases v <;> first | rfl | cases h2
theorem pm_LR.set1 {w : pW} {nL a : Nat} {mls mls' : Array Slot} {ls : List pO} {v : Value} (h : pm_LR w nL mls ls) (hok : pm_ok ls a = true)
    (h' : lv_has mls' nL ((a, pm_em w v) :: (pm_asc w ls).filter (fun q => !(q.1 == a) && !(q.1 + 1 == a && q.2.category == 2)))) : pm_LR w nL mls' (ls.set a (some v)) := by
  refine ⟨h'.1, by rw [List.length_set]; exact h.2.1, h'.2.1, fun j u hu => ?_⟩
  by_cases hj : j = a
  · subst hj
    rw [List.getElem?_set_self (pm_ok_lt hok)] at hu
    cases hu
    exact h'.2.2 _ List.mem_cons_self
  · rw [List.getElem?_set_ne (Ne.symm hj)] at hu
    refine h'.2.2 (j, pm_em w u) (List.mem_cons_of_mem _ (List.mem_filter.mpr ⟨pm_asc_mem.mpr ⟨u, hu, rfl⟩, ?_⟩))
    simp only [Bool.and_eq_true, Bool.not_eq_true', beq_eq_false_iff_ne, ne_eq, Bool.and_eq_false_iff]
    refine ⟨hj, ?_⟩
    by_cases hj1 : j + 1 = a
    · subst hj1
      right
      rw [pm_em_cat, pm_ok_no hok hu]
      decide
    · exact Or.inl hj1
theorem pm_LR.set2 {w : pW} {nL a : Nat} {mls mls' : Array Slot} {ls : List pO} {v : Value} (h : pm_LR w nL mls ls) (hok : pm_ok ls a = true) (ha : a + 1 < ls.length)
    (h' : lv_has mls' nL ((a, pm_em w v) :: (pm_asc w ls).filter (fun q => !(q.1 == a) && (!(q.1 == a + 1) && !(q.1 + 1 == a && q.2.category == 2))))) : pm_LR w nL mls' ((ls.set a (some v)).set (a + 1) none) := by
  refine ⟨h'.1, by rw [List.length_set, List.length_set]; exact h.2.1, h'.2.1, fun j u hu => ?_⟩
  by_cases hj2 : j = a + 1
  · subst hj2
    rw [List.getElem?_set_self (by rw [List.length_set]; exact ha)] at hu
    cases hu
  rw [List.getElem?_set_ne (Ne.symm hj2)] at hu
  by_cases hj : j = a
  · subst hj
    rw [List.getElem?_set_self (pm_ok_lt hok)] at hu
    cases hu
    exact h'.2.2 _ List.mem_cons_self
  · rw [List.getElem?_set_ne (Ne.symm hj)] at hu
    refine h'.2.2 (j, pm_em w u) (List.mem_cons_of_mem _ (List.mem_filter.mpr ⟨pm_asc_mem.mpr ⟨u, hu, rfl⟩, ?_⟩))
    simp only [Bool.and_eq_true, Bool.not_eq_true', beq_eq_false_iff_ne, ne_eq, Bool.and_eq_false_iff]
    refine ⟨hj, hj2, ?_⟩
    by_cases hj1 : j + 1 = a
    · subst hj1
      right
      rw [pm_em_cat, pm_ok_no hok hu]
      decide
    · exact Or.inl hj1
def pm_esz : pE → Nat
  | .inl q => q.2.1
  | .inr q => q.2.length
def pm_sz (hp : pH) : Nat := (hp.map pm_esz).sum
/-- the machine does the step f at place i of method k -/
def pm_Sim (G : pG) (T : pT) (k i : Nat) (f : pS → Option pS) : Prop :=
  ∀ (p : Program) (l : Launch) (e : Env) (R : Room) (s : State) (m : MethodId) (args : Array Value) (below : List Frame) (meth : Method) (c : Code) (w : pW), pm_Cx G T w k p m c meth s args → 1 ≤ R.frames → 20 ≤ R.locals →
  ∀ (H : Heap) (locs : List Loc) (cells slots : Nat) (Q : State → Prop) (mls : Array Slot) (ls : List pO) (st : List Value) (hp : pH) (s' : pS), f (i, ls, st, hp) = some s' →
  (hp.length ≤ s'.2.2.2.length ∧ pm_sz hp ≤ pm_sz s'.2.2.2) ∧
  (pm_HR T w hp H → va_S (pm_A w) s.heap H locs → pm_LR w (pm_nL G k) mls ls → cells + (s'.2.2.2.length - hp.length) ≤ R.cells → slots + (pm_sz s'.2.2.2 - pm_sz hp) ≤ R.slots →
  (∀ (H' : Heap) (locs' : List Loc) (mls' : Array Slot), pm_HR T w s'.2.2.2 H' → va_S (pm_A w) s.heap H' locs' → pm_LR w (pm_nL G k) mls' s'.2.1 →
    W p l e R s m args below meth c H' locs' (cells + (s'.2.2.2.length - hp.length)) (slots + (pm_sz s'.2.2.2 - pm_sz hp)) Q (F0 m (pm_pc G k s'.1) mls' (s'.2.2.1.map (pm_em w)))) →
  W p l e R s m args below meth c H locs cells slots Q (F0 m (pm_pc G k i) mls (st.map (pm_em w))))
/-- a step that leaves the heap as it is -/
def pm_Sim0 (G : pG) (T : pT) (k i : Nat) (f : pS → Option pS) : Prop :=
  ∀ (p : Program) (l : Launch) (e : Env) (R : Room) (s : State) (m : MethodId) (args : Array Value) (below : List Frame) (meth : Method) (c : Code) (w : pW), pm_Cx G T w k p m c meth s args → 1 ≤ R.frames → 20 ≤ R.locals →
  ∀ (H : Heap) (locs : List Loc) (cells slots : Nat) (Q : State → Prop) (mls : Array Slot) (ls : List pO) (st : List Value) (hp : pH) (s' : pS), f (i, ls, st, hp) = some s' →
  s'.2.2.2 = hp ∧
  (pm_HR T w hp H → va_S (pm_A w) s.heap H locs → pm_LR w (pm_nL G k) mls ls →
  (∀ (mls' : Array Slot), pm_LR w (pm_nL G k) mls' s'.2.1 → W p l e R s m args below meth c H locs cells slots Q (F0 m (pm_pc G k s'.1) mls' (s'.2.2.1.map (pm_em w)))) →
  W p l e R s m args below meth c H locs cells slots Q (F0 m (pm_pc G k i) mls (st.map (pm_em w))))
theorem pm_Sim0.sim {G : pG} {T : pT} {k i : Nat} {f : pS → Option pS} (h : pm_Sim0 G T k i f) : pm_Sim G T k i f := by
  intro p l e R s m args below meth c w C hR1 hR2 H locs cells slots Q mls ls st hp s' hf
  obtain ⟨h1, h2⟩ := h p l e R s m args below meth c w C hR1 hR2 H locs cells slots Q mls ls st hp s' hf
  rw [h1]
  refine ⟨⟨Nat.le_refl _, Nat.le_refl _⟩, fun hH hS hL hc hs kk => h2 hH hS hL (fun mls' hL' => ?_)⟩
  have := kk H locs mls' hH hS hL'
  rw [Nat.sub_self, Nat.sub_self] at this
  exact this
section Steps0
variable {G : pG} {T : pT} {k i a : Nat}
theorem so_iload_n {n : Fin 4} (hd : decode (pm_by G k) (pm_pc G k i) = .ok (.iload_n n, 1)) (hn : (n : Nat) = a) (hp1 : pm_pc G k (i + 1) = pm_pc G k i + 1) : pm_Sim0 G T k i (op_iload a) := by
  intro p l e R s m args below meth c w C hR1 hR2 H locs cells slots Q mls ls st hp s' hf
  unfold op_iload at hf
  dsimp only at hf
  split at hf
  · rename_i x hx
    cases hf
    refine ⟨rfl, fun hH hS hL kk => ?_⟩
    dsimp only at kk
    rw [hp1] at kk
    exact lv_iload_n C.1 C.2.1 hd hn (hL.2.2.2 _ _ hx) (kk mls hL)
  · cases hf
theorem so_iload (hd : decode (pm_by G k) (pm_pc G k i) = .ok (.iload a, 2)) (hp1 : pm_pc G k (i + 1) = pm_pc G k i + 2) : pm_Sim0 G T k i (op_iload a) := by
  intro p l e R s m args below meth c w C hR1 hR2 H locs cells slots Q mls ls st hp s' hf
  unfold op_iload at hf
  dsimp only at hf
  split at hf
  · rename_i x hx
    cases hf
    refine ⟨rfl, fun hH hS hL kk => ?_⟩
    dsimp only at kk
    rw [hp1] at kk
    exact lv_iload C.1 C.2.1 hd (hL.2.2.2 _ _ hx) (kk mls hL)
  · cases hf
theorem so_lload_n {n : Fin 4} (hd : decode (pm_by G k) (pm_pc G k i) = .ok (.lload_n n, 1)) (hn : (n : Nat) = a) (hp1 : pm_pc G k (i + 1) = pm_pc G k i + 1) : pm_Sim0 G T k i (op_lload a) := by
  intro p l e R s m args below meth c w C hR1 hR2 H locs cells slots Q mls ls st hp s' hf
  unfold op_lload at hf
  dsimp only at hf
  split at hf
  · rename_i x hx
    cases hf
    refine ⟨rfl, fun hH hS hL kk => ?_⟩
    dsimp only at kk
    rw [hp1] at kk
    exact lv_lload_n C.1 C.2.1 hd hn (hL.2.2.2 _ _ hx) (kk mls hL)
  · cases hf
theorem so_lload (hd : decode (pm_by G k) (pm_pc G k i) = .ok (.lload a, 2)) (hp1 : pm_pc G k (i + 1) = pm_pc G k i + 2) : pm_Sim0 G T k i (op_lload a) := by
  intro p l e R s m args below meth c w C hR1 hR2 H locs cells slots Q mls ls st hp s' hf
  unfold op_lload at hf
  dsimp only at hf
  split at hf
  · rename_i x hx
    cases hf
    refine ⟨rfl, fun hH hS hL kk => ?_⟩
    dsimp only at kk
    rw [hp1] at kk
    exact lv_lload C.1 C.2.1 hd (hL.2.2.2 _ _ hx) (kk mls hL)
  · cases hf
theorem so_aload_n {n : Fin 4} (hd : decode (pm_by G k) (pm_pc G k i) = .ok (.aload_n n, 1)) (hn : (n : Nat) = a) (hp1 : pm_pc G k (i + 1) = pm_pc G k i + 1) : pm_Sim0 G T k i (op_aload a) := by
  intro p l e R s m args below meth c w C hR1 hR2 H locs cells slots Q mls ls st hp s' hf
  unfold op_aload at hf
  dsimp only at hf
  split at hf
  · rename_i x hx
    cases hf
    refine ⟨rfl, fun hH hS hL kk => ?_⟩
    dsimp only at kk
    rw [hp1] at kk
    exact lv_aload_n C.1 C.2.1 hd hn (hL.2.2.2 _ _ hx) (kk mls hL)
  · cases hf
theorem so_aload (hd : decode (pm_by G k) (pm_pc G k i) = .ok (.aload a, 2)) (hp1 : pm_pc G k (i + 1) = pm_pc G k i + 2) : pm_Sim0 G T k i (op_aload a) := by
  intro p l e R s m args below meth c w C hR1 hR2 H locs cells slots Q mls ls st hp s' hf
  unfold op_aload at hf
  dsimp only at hf
  split at hf
  · rename_i x hx
    cases hf
    refine ⟨rfl, fun hH hS hL kk => ?_⟩
    dsimp only at kk
    rw [hp1] at kk
    exact lv_aload C.1 C.2.1 hd (hL.2.2.2 _ _ hx) (kk mls hL)
  · cases hf
theorem so_istore_n {n : Fin 4} (hd : decode (pm_by G k) (pm_pc G k i) = .ok (.istore_n n, 1)) (hn : (n : Nat) = a) (hp1 : pm_pc G k (i + 1) = pm_pc G k i + 1) : pm_Sim0 G T k i (op_istore a) := by
  intro p l e R s m args below meth c w C hR1 hR2 H locs cells slots Q mls ls st hp s' hf
  unfold op_istore at hf
  dsimp only at hf
  split at hf
  · rename_i x st'
    split at hf
    · rename_i hok
      cases hf
      refine ⟨rfl, fun hH hS hL kk => ?_⟩
      dsimp only at kk
      rw [hp1] at kk
      exact lv_istore_n C.1 C.2.1 hd hn hL.has (by rw [← hL.2.1]; exact pm_ok_lt hok) rfl (fun mls' h' => kk mls' (hL.set1 (v := .int x) hok h'))
    · cases hf
  · cases hf
theorem so_istore (hd : decode (pm_by G k) (pm_pc G k i) = .ok (.istore a, 2)) (hp1 : pm_pc G k (i + 1) = pm_pc G k i + 2) : pm_Sim0 G T k i (op_istore a) := by
  intro p l e R s m args below meth c w C hR1 hR2 H locs cells slots Q mls ls st hp s' hf
  unfold op_istore at hf
  dsimp only at hf
  split at hf
  · rename_i x st'
    split at hf
    · rename_i hok
      cases hf
      refine ⟨rfl, fun hH hS hL kk => ?_⟩
      dsimp only at kk
      rw [hp1] at kk
      exact lv_istore C.1 C.2.1 hd hL.has (by rw [← hL.2.1]; exact pm_ok_lt hok) rfl (fun mls' h' => kk mls' (hL.set1 (v := .int x) hok h'))
    · cases hf
  · cases hf
theorem so_astore_n {n : Fin 4} (hd : decode (pm_by G k) (pm_pc G k i) = .ok (.astore_n n, 1)) (hn : (n : Nat) = a) (hp1 : pm_pc G k (i + 1) = pm_pc G k i + 1) : pm_Sim0 G T k i (op_astore a) := by
  intro p l e R s m args below meth c w C hR1 hR2 H locs cells slots Q mls ls st hp s' hf
  unfold op_astore at hf
  dsimp only at hf
  split at hf
  · rename_i x st'
    split at hf
    · rename_i hok
      cases hf
      refine ⟨rfl, fun hH hS hL kk => ?_⟩
      dsimp only at kk
      rw [hp1] at kk
      exact lv_astore_n C.1 C.2.1 hd hn hL.has (by rw [← hL.2.1]; exact pm_ok_lt hok) rfl (fun mls' h' => kk mls' (hL.set1 (v := .ref x) hok h'))
    · cases hf
  · cases hf
theorem so_astore (hd : decode (pm_by G k) (pm_pc G k i) = .ok (.astore a, 2)) (hp1 : pm_pc G k (i + 1) = pm_pc G k i + 2) : pm_Sim0 G T k i (op_astore a) := by
  intro p l e R s m args below meth c w C hR1 hR2 H locs cells slots Q mls ls st hp s' hf
  unfold op_astore at hf
  dsimp only at hf
  split at hf
  · rename_i x st'
    split at hf
    · rename_i hok
      cases hf
      refine ⟨rfl, fun hH hS hL kk => ?_⟩
      dsimp only at kk
      rw [hp1] at kk
      exact lv_astore C.1 C.2.1 hd hL.has (by rw [← hL.2.1]; exact pm_ok_lt hok) rfl (fun mls' h' => kk mls' (hL.set1 (v := .ref x) hok h'))
    · cases hf
  · cases hf
theorem so_lstore_n {n : Fin 4} (hd : decode (pm_by G k) (pm_pc G k i) = .ok (.lstore_n n, 1)) (hn : (n : Nat) = a) (hp1 : pm_pc G k (i + 1) = pm_pc G k i + 1) : pm_Sim0 G T k i (op_lstore a) := by
  intro p l e R s m args below meth c w C hR1 hR2 H locs cells slots Q mls ls st hp s' hf
  unfold op_lstore at hf
  dsimp only at hf
  split at hf
  · rename_i x st'
    split at hf
    · rename_i hok
      cases hf
      refine ⟨rfl, fun hH hS hL kk => ?_⟩
      dsimp only at kk
      rw [hp1] at kk
      exact lv_lstore_n C.1 C.2.1 hd hn hL.has (by rw [← hL.2.1]; exact hok.2) rfl (fun mls' h' => kk mls' (hL.set2 (v := .long x) hok.1 hok.2 h'))
    · cases hf
  · cases hf
theorem so_lstore (hd : decode (pm_by G k) (pm_pc G k i) = .ok (.lstore a, 2)) (hp1 : pm_pc G k (i + 1) = pm_pc G k i + 2) : pm_Sim0 G T k i (op_lstore a) := by
  intro p l e R s m args below meth c w C hR1 hR2 H locs cells slots Q mls ls st hp s' hf
  unfold op_lstore at hf
  dsimp only at hf
  split at hf
  · rename_i x st'
    split at hf
    · rename_i hok
      cases hf
      refine ⟨rfl, fun hH hS hL kk => ?_⟩
      dsimp only at kk
      rw [hp1] at kk
      exact lv_lstore C.1 C.2.1 hd hL.has (by rw [← hL.2.1]; exact hok.2) rfl (fun mls' h' => kk mls' (hL.set2 (v := .long x) hok.1 hok.2 h'))
    · cases hf
  · cases hf
theorem so_iinc {n : Int} {d : Int32} (hd : decode (pm_by G k) (pm_pc G k i) = .ok (.iinc a n, 3)) (hn : Int32.ofInt n = d) (hp1 : pm_pc G k (i + 1) = pm_pc G k i + 3) : pm_Sim0 G T k i (op_iinc a d) := by
  intro p l e R s m args below meth c w C hR1 hR2 H locs cells slots Q mls ls st hp s' hf
  unfold op_iinc at hf
  dsimp only at hf
  split at hf
  · rename_i x hx
    split at hf
    · rename_i hok
      cases hf
      refine ⟨rfl, fun hH hS hL kk => ?_⟩
      dsimp only at kk
      rw [hp1] at kk
      obtain ⟨j, hj⟩ := List.getElem?_of_mem (pm_asc_mem (w := w) (ls := ls) (q := (a, .int x)) |>.mpr ⟨.int x, hx, rfl⟩)
      exact lv_iinc C.1 C.2.1 hd hL.has (k := j) hj (by rw [hn]) (by rw [← hL.2.1]; exact pm_ok_lt hok) rfl (fun mls' h' => kk mls' (hL.set1 (v := .int (x + d)) hok h'))
    · cases hf
  · cases hf
theorem so_iconst {n : Int} {x : Int32} (hd : decode (pm_by G k) (pm_pc G k i) = .ok (.iconst n, 1)) (hn : Int32.ofInt n = x) (hp1 : pm_pc G k (i + 1) = pm_pc G k i + 1) : pm_Sim0 G T k i (op_ic x) := by
  intro p l e R s m args below meth c w C hR1 hR2 H locs cells slots Q mls ls st hp s' hf
  cases hf
  refine ⟨rfl, fun hH hS hL kk => ?_⟩
  dsimp only at kk
  rw [hp1] at kk
  exact lv_iconst C.1 C.2.1 hd hn (kk mls hL)
theorem so_bipush {n : Int} {x : Int32} (hd : decode (pm_by G k) (pm_pc G k i) = .ok (.bipush n, 2)) (hn : (Int8.ofInt n).toInt32 = x) (hp1 : pm_pc G k (i + 1) = pm_pc G k i + 2) : pm_Sim0 G T k i (op_ic x) := by
  intro p l e R s m args below meth c w C hR1 hR2 H locs cells slots Q mls ls st hp s' hf
  cases hf
  refine ⟨rfl, fun hH hS hL kk => ?_⟩
  dsimp only at kk
  rw [hp1] at kk
  exact lv_bipush C.1 C.2.1 hd hn (kk mls hL)
theorem so_sipush {n : Int} {x : Int32} (hd : decode (pm_by G k) (pm_pc G k i) = .ok (.sipush n, 3)) (hn : (Int16.ofInt n).toInt32 = x) (hp1 : pm_pc G k (i + 1) = pm_pc G k i + 3) : pm_Sim0 G T k i (op_ic x) := by
  intro p l e R s m args below meth c w C hR1 hR2 H locs cells slots Q mls ls st hp s' hf
  cases hf
  refine ⟨rfl, fun hH hS hL kk => ?_⟩
  dsimp only at kk
  rw [hp1] at kk
  exact lv_sipush C.1 C.2.1 hd hn (kk mls hL)
theorem so_ldc {n : Nat} {x : Int32} (hd : decode (pm_by G k) (pm_pc G k i) = .ok (.ldc n, 2)) (hm : Cond.constant (pm_nm G k).cls n x ∈ T.2.1) (hp1 : pm_pc G k (i + 1) = pm_pc G k i + 2) : pm_Sim0 G T k i (op_ic x) := by
  intro p l e R s m args below meth c w C hR1 hR2 H locs cells slots Q mls ls st hp s' hf
  cases hf
  refine ⟨rfl, fun hH hS hL kk => ?_⟩
  dsimp only at kk
  rw [hp1] at kk
  exact lv_ldc C.1 C.2.1 C.2.2.2.1 (C.2.2.2.2.1 _ hm) hd (kk mls hL)
theorem so_ldcw {n : Nat} {x : Int32} (hd : decode (pm_by G k) (pm_pc G k i) = .ok (.ldc_w n, 3)) (hm : Cond.constant (pm_nm G k).cls n x ∈ T.2.1) (hp1 : pm_pc G k (i + 1) = pm_pc G k i + 3) : pm_Sim0 G T k i (op_ic x) := by
  intro p l e R s m args below meth c w C hR1 hR2 H locs cells slots Q mls ls st hp s' hf
  cases hf
  refine ⟨rfl, fun hH hS hL kk => ?_⟩
  dsimp only at kk
  rw [hp1] at kk
  exact lv_ldcw C.1 C.2.1 C.2.2.2.1 (C.2.2.2.2.1 _ hm) hd (kk mls hL)
theorem so_ldc2 {n : Nat} {x : Int64} (hd : decode (pm_by G k) (pm_pc G k i) = .ok (.ldc2_w n, 3)) (hm : Cond.constantLong (pm_nm G k).cls n x ∈ T.2.1) (hp1 : pm_pc G k (i + 1) = pm_pc G k i + 3) : pm_Sim0 G T k i (op_lc x) := by
  intro p l e R s m args below meth c w C hR1 hR2 H locs cells slots Q mls ls st hp s' hf
  cases hf
  refine ⟨rfl, fun hH hS hL kk => ?_⟩
  dsimp only at kk
  rw [hp1] at kk
  exact lv_ldc2 C.1 C.2.1 C.2.2.2.1 (C.2.2.2.2.1 _ hm) hd (kk mls hL)
theorem so_lconst {n : Fin 2} {x : Int64} (hd : decode (pm_by G k) (pm_pc G k i) = .ok (.lconst n, 1)) (hn : Int64.ofNat (n : Nat) = x) (hp1 : pm_pc G k (i + 1) = pm_pc G k i + 1) : pm_Sim0 G T k i (op_lc x) := by
  intro p l e R s m args below meth c w C hR1 hR2 H locs cells slots Q mls ls st hp s' hf
  cases hf
  refine ⟨rfl, fun hH hS hL kk => ?_⟩
  dsimp only at kk
  rw [hp1] at kk
  exact lv_lconst C.1 C.2.1 hd hn (kk mls hL)
theorem so_iadd (hd : decode (pm_by G k) (pm_pc G k i) = .ok (.iadd, 1)) (hp1 : pm_pc G k (i + 1) = pm_pc G k i + 1) : pm_Sim0 G T k i (op_bin (fun x y => x + y)) := by
  intro p l e R s m args below meth c w C hR1 hR2 H locs cells slots Q mls ls st hp s' hf
  unfold op_bin at hf
  dsimp only at hf
  split at hf
  · rename_i y x st'
    cases hf
    refine ⟨rfl, fun hH hS hL kk => ?_⟩
    dsimp only at kk
    rw [hp1] at kk
    exact lv_iadd C.1 C.2.1 hd (kk mls hL)
  · cases hf
theorem so_isub (hd : decode (pm_by G k) (pm_pc G k i) = .ok (.isub, 1)) (hp1 : pm_pc G k (i + 1) = pm_pc G k i + 1) : pm_Sim0 G T k i (op_bin (fun x y => x - y)) := by
  intro p l e R s m args below meth c w C hR1 hR2 H locs cells slots Q mls ls st hp s' hf
  unfold op_bin at hf
  dsimp only at hf
  split at hf
  · rename_i y x st'
    cases hf
    refine ⟨rfl, fun hH hS hL kk => ?_⟩
    dsimp only at kk
    rw [hp1] at kk
    exact lv_isub C.1 C.2.1 hd (kk mls hL)
  · cases hf
theorem so_imul (hd : decode (pm_by G k) (pm_pc G k i) = .ok (.imul, 1)) (hp1 : pm_pc G k (i + 1) = pm_pc G k i + 1) : pm_Sim0 G T k i (op_bin (fun x y => x * y)) := by
  intro p l e R s m args below meth c w C hR1 hR2 H locs cells slots Q mls ls st hp s' hf
  unfold op_bin at hf
  dsimp only at hf
  split at hf
  · rename_i y x st'
    cases hf
    refine ⟨rfl, fun hH hS hL kk => ?_⟩
    dsimp only at kk
    rw [hp1] at kk
    exact lv_imul C.1 C.2.1 hd (kk mls hL)
  · cases hf
theorem so_iand (hd : decode (pm_by G k) (pm_pc G k i) = .ok (.iand, 1)) (hp1 : pm_pc G k (i + 1) = pm_pc G k i + 1) : pm_Sim0 G T k i (op_bin (fun x y => x &&& y)) := by
  intro p l e R s m args below meth c w C hR1 hR2 H locs cells slots Q mls ls st hp s' hf
  unfold op_bin at hf
  dsimp only at hf
  split at hf
  · rename_i y x st'
    cases hf
    refine ⟨rfl, fun hH hS hL kk => ?_⟩
    dsimp only at kk
    rw [hp1] at kk
    exact lv_iand C.1 C.2.1 hd (kk mls hL)
  · cases hf
theorem so_ior (hd : decode (pm_by G k) (pm_pc G k i) = .ok (.ior, 1)) (hp1 : pm_pc G k (i + 1) = pm_pc G k i + 1) : pm_Sim0 G T k i (op_bin (fun x y => x ||| y)) := by
  intro p l e R s m args below meth c w C hR1 hR2 H locs cells slots Q mls ls st hp s' hf
  unfold op_bin at hf
  dsimp only at hf
  split at hf
  · rename_i y x st'
    cases hf
    refine ⟨rfl, fun hH hS hL kk => ?_⟩
    dsimp only at kk
    rw [hp1] at kk
    exact lv_ior C.1 C.2.1 hd (kk mls hL)
  · cases hf
theorem so_ixor (hd : decode (pm_by G k) (pm_pc G k i) = .ok (.ixor, 1)) (hp1 : pm_pc G k (i + 1) = pm_pc G k i + 1) : pm_Sim0 G T k i (op_bin (fun x y => x ^^^ y)) := by
  intro p l e R s m args below meth c w C hR1 hR2 H locs cells slots Q mls ls st hp s' hf
  unfold op_bin at hf
  dsimp only at hf
  split at hf
  · rename_i y x st'
    cases hf
    refine ⟨rfl, fun hH hS hL kk => ?_⟩
    dsimp only at kk
    rw [hp1] at kk
    exact lv_ixor C.1 C.2.1 hd (kk mls hL)
  · cases hf
theorem so_ishl (hd : decode (pm_by G k) (pm_pc G k i) = .ok (.ishl, 1)) (hp1 : pm_pc G k (i + 1) = pm_pc G k i + 1) : pm_Sim0 G T k i (op_bin (fun x y => x <<< (y &&& 31))) := by
  intro p l e R s m args below meth c w C hR1 hR2 H locs cells slots Q mls ls st hp s' hf
  unfold op_bin at hf
  dsimp only at hf
  split at hf
  · rename_i y x st'
    cases hf
    refine ⟨rfl, fun hH hS hL kk => ?_⟩
    dsimp only at kk
    rw [hp1] at kk
    exact lv_ishl C.1 C.2.1 hd (kk mls hL)
  · cases hf
theorem so_ishr (hd : decode (pm_by G k) (pm_pc G k i) = .ok (.ishr, 1)) (hp1 : pm_pc G k (i + 1) = pm_pc G k i + 1) : pm_Sim0 G T k i (op_bin (fun x y => x >>> (y &&& 31))) := by
  intro p l e R s m args below meth c w C hR1 hR2 H locs cells slots Q mls ls st hp s' hf
  unfold op_bin at hf
  dsimp only at hf
  split at hf
  · rename_i y x st'
    cases hf
    refine ⟨rfl, fun hH hS hL kk => ?_⟩
    dsimp only at kk
    rw [hp1] at kk
    exact lv_ishr C.1 C.2.1 hd (kk mls hL)
  · cases hf
theorem so_idiv (hd : decode (pm_by G k) (pm_pc G k i) = .ok (.idiv, 1)) (hp1 : pm_pc G k (i + 1) = pm_pc G k i + 1) : pm_Sim0 G T k i (op_div (fun x y => x / y)) := by
  intro p l e R s m args below meth c w C hR1 hR2 H locs cells slots Q mls ls st hp s' hf
  unfold op_div at hf
  dsimp only at hf
  split at hf
  · rename_i y x st'
    split at hf
    · cases hf
    rename_i hy
    cases hf
    refine ⟨rfl, fun hH hS hL kk => ?_⟩
    dsimp only at kk
    rw [hp1] at kk
    exact lv_idiv C.1 C.2.1 hd hy (kk mls hL)
  · cases hf
theorem so_irem (hd : decode (pm_by G k) (pm_pc G k i) = .ok (.irem, 1)) (hp1 : pm_pc G k (i + 1) = pm_pc G k i + 1) : pm_Sim0 G T k i (op_div (fun x y => x % y)) := by
  intro p l e R s m args below meth c w C hR1 hR2 H locs cells slots Q mls ls st hp s' hf
  unfold op_div at hf
  dsimp only at hf
  split at hf
  · rename_i y x st'
    split at hf
    · cases hf
    rename_i hy
    cases hf
    refine ⟨rfl, fun hH hS hL kk => ?_⟩
    dsimp only at kk
    rw [hp1] at kk
    have kk := kk mls hL
    rw [← irem_eq_mod] at kk
    exact lv_irem C.1 C.2.1 hd hy kk
  · cases hf
theorem so_ladd (hd : decode (pm_by G k) (pm_pc G k i) = .ok (.ladd, 1)) (hp1 : pm_pc G k (i + 1) = pm_pc G k i + 1) : pm_Sim0 G T k i (op_lbin (fun x y => x + y)) := by
  intro p l e R s m args below meth c w C hR1 hR2 H locs cells slots Q mls ls st hp s' hf
  unfold op_lbin at hf
  dsimp only at hf
  split at hf
  · rename_i y x st'
    cases hf
    refine ⟨rfl, fun hH hS hL kk => ?_⟩
    dsimp only at kk
    rw [hp1] at kk
    exact lv_ladd C.1 C.2.1 hd (kk mls hL)
  · cases hf
theorem so_lmul (hd : decode (pm_by G k) (pm_pc G k i) = .ok (.lmul, 1)) (hp1 : pm_pc G k (i + 1) = pm_pc G k i + 1) : pm_Sim0 G T k i (op_lbin (fun x y => x * y)) := by
  intro p l e R s m args below meth c w C hR1 hR2 H locs cells slots Q mls ls st hp s' hf
  unfold op_lbin at hf
  dsimp only at hf
  split at hf
  · rename_i y x st'
    cases hf
    refine ⟨rfl, fun hH hS hL kk => ?_⟩
    dsimp only at kk
    rw [hp1] at kk
    exact lv_lmul C.1 C.2.1 hd (kk mls hL)
  · cases hf
theorem so_ldiv (hd : decode (pm_by G k) (pm_pc G k i) = .ok (.ldiv, 1)) (hp1 : pm_pc G k (i + 1) = pm_pc G k i + 1) : pm_Sim0 G T k i (op_ldiv (fun x y => x / y)) := by
  intro p l e R s m args below meth c w C hR1 hR2 H locs cells slots Q mls ls st hp s' hf
  unfold op_ldiv at hf
  dsimp only at hf
  split at hf
  · rename_i y x st'
    split at hf
    · cases hf
    rename_i hy
    cases hf
    refine ⟨rfl, fun hH hS hL kk => ?_⟩
    dsimp only at kk
    rw [hp1] at kk
    exact lv_ldiv C.1 C.2.1 hd hy (kk mls hL)
  · cases hf
theorem so_lrem (hd : decode (pm_by G k) (pm_pc G k i) = .ok (.lrem, 1)) (hp1 : pm_pc G k (i + 1) = pm_pc G k i + 1) : pm_Sim0 G T k i (op_ldiv (fun x y => x - x / y * y)) := by
  intro p l e R s m args below meth c w C hR1 hR2 H locs cells slots Q mls ls st hp s' hf
  unfold op_ldiv at hf
  dsimp only at hf
  split at hf
  · rename_i y x st'
    split at hf
    · cases hf
    rename_i hy
    cases hf
    refine ⟨rfl, fun hH hS hL kk => ?_⟩
    dsimp only at kk
    rw [hp1] at kk
    exact lv_lrem C.1 C.2.1 hd hy (kk mls hL)
  · cases hf
theorem so_lcmp (hd : decode (pm_by G k) (pm_pc G k i) = .ok (.lcmp, 1)) (hp1 : pm_pc G k (i + 1) = pm_pc G k i + 1) : pm_Sim0 G T k i (op_lcmp ) := by
  intro p l e R s m args below meth c w C hR1 hR2 H locs cells slots Q mls ls st hp s' hf
  unfold op_lcmp at hf
  dsimp only at hf
  split at hf
  · rename_i y x st'
    cases hf
    refine ⟨rfl, fun hH hS hL kk => ?_⟩
    dsimp only at kk
    rw [hp1] at kk
    exact W.lcmp C.1 C.2.1 hd (kk mls hL)
  · cases hf
theorem so_iushr (hd : decode (pm_by G k) (pm_pc G k i) = .ok (.iushr, 1)) (hp1 : pm_pc G k (i + 1) = pm_pc G k i + 1) : pm_Sim0 G T k i (op_bin (fun x y => (x.toUInt32 >>> (y.toUInt32 &&& Int32.toUInt32 31)).toInt32)) := by
  intro p l e R s m args below meth c w C hR1 hR2 H locs cells slots Q mls ls st hp s' hf
  unfold op_bin at hf
  dsimp only at hf
  split at hf
  · rename_i y x st'
    cases hf
    refine ⟨rfl, fun hH hS hL kk => ?_⟩
    dsimp only at kk
    rw [hp1] at kk
    exact lv_iushr C.1 C.2.1 hd rfl (kk mls hL)
  · cases hf
theorem so_i2l (hd : decode (pm_by G k) (pm_pc G k i) = .ok (.i2l, 1)) (hp1 : pm_pc G k (i + 1) = pm_pc G k i + 1) : pm_Sim0 G T k i op_i2l := by
  intro p l e R s m args below meth c w C hR1 hR2 H locs cells slots Q mls ls st hp s' hf
  unfold op_i2l at hf
  dsimp only at hf
  split at hf
  · rename_i x st'
    cases hf
    refine ⟨rfl, fun hH hS hL kk => ?_⟩
    dsimp only at kk
    rw [hp1] at kk
    exact lv_i2l C.1 C.2.1 hd rfl (kk mls hL)
  · cases hf
theorem so_l2i (hd : decode (pm_by G k) (pm_pc G k i) = .ok (.l2i, 1)) (hp1 : pm_pc G k (i + 1) = pm_pc G k i + 1) : pm_Sim0 G T k i op_l2i := by
  intro p l e R s m args below meth c w C hR1 hR2 H locs cells slots Q mls ls st hp s' hf
  unfold op_l2i at hf
  dsimp only at hf
  split at hf
  · rename_i x st'
    cases hf
    refine ⟨rfl, fun hH hS hL kk => ?_⟩
    dsimp only at kk
    rw [hp1] at kk
    exact lv_l2i C.1 C.2.1 hd rfl (kk mls hL)
  · cases hf
theorem so_dup (hd : decode (pm_by G k) (pm_pc G k i) = .ok (.dup, 1)) (hp1 : pm_pc G k (i + 1) = pm_pc G k i + 1) : pm_Sim0 G T k i op_dup := by
  intro p l e R s m args below meth c w C hR1 hR2 H locs cells slots Q mls ls st hp s' hf
  unfold op_dup at hf
  dsimp only at hf
  split at hf
  · cases hf
    refine ⟨rfl, fun hH hS hL kk => ?_⟩
    dsimp only at kk
    rw [hp1] at kk
    exact lv_dup C.1 C.2.1 hd rfl (kk mls hL)
  · cases hf
    refine ⟨rfl, fun hH hS hL kk => ?_⟩
    dsimp only at kk
    rw [hp1] at kk
    exact lv_dup C.1 C.2.1 hd rfl (kk mls hL)
  · cases hf
theorem so_pop (hd : decode (pm_by G k) (pm_pc G k i) = .ok (.pop, 1)) (hp1 : pm_pc G k (i + 1) = pm_pc G k i + 1) : pm_Sim0 G T k i op_pop := by
  intro p l e R s m args below meth c w C hR1 hR2 H locs cells slots Q mls ls st hp s' hf
  unfold op_pop at hf
  dsimp only at hf
  split at hf
  · cases hf
    refine ⟨rfl, fun hH hS hL kk => ?_⟩
    dsimp only at kk
    rw [hp1] at kk
    exact lv_pop C.1 C.2.1 hd rfl (kk mls hL)
  · cases hf
    refine ⟨rfl, fun hH hS hL kk => ?_⟩
    dsimp only at kk
    rw [hp1] at kk
    exact lv_pop C.1 C.2.1 hd rfl (kk mls hL)
  · cases hf
theorem so_dup2 (hd : decode (pm_by G k) (pm_pc G k i) = .ok (.dup2, 1)) (hp1 : pm_pc G k (i + 1) = pm_pc G k i + 1) : pm_Sim0 G T k i op_dup2 := by
  intro p l e R s m args below meth c w C hR1 hR2 H locs cells slots Q mls ls st hp s' hf
  unfold op_dup2 at hf
  dsimp only at hf
  split at hf
  · cases hf
    refine ⟨rfl, fun hH hS hL kk => ?_⟩
    dsimp only at kk
    rw [hp1] at kk
    exact lv_dup2_11 C.1 C.2.1 hd rfl rfl (kk mls hL)
  · cases hf
theorem so_goto {off : Int} {t : Nat} (hd : decode (pm_by G k) (pm_pc G k i) = .ok (.goto off, 3)) (ht : (pm_pc G k i : Int) + off = (pm_pc G k t : Int)) : pm_Sim0 G T k i (op_goto t) := by
  intro p l e R s m args below meth c w C hR1 hR2 H locs cells slots Q mls ls st hp s' hf
  cases hf
  exact ⟨rfl, fun hH hS hL kk => lv_goto C.1 C.2.1 hd ht (kk mls hL)⟩
theorem so_if_eq {off : Int} {t : Nat} (hd : decode (pm_by G k) (pm_pc G k i) = .ok (.ifCond .eq off, 3)) (ht : (pm_pc G k i : Int) + off = (pm_pc G k t : Int)) (hp1 : pm_pc G k (i + 1) = pm_pc G k i + 3) : pm_Sim0 G T k i (op_if (fun x => decide (x = 0)) t) := by
  intro p l e R s m args below meth c w C hR1 hR2 H locs cells slots Q mls ls st hp s' hf
  unfold op_if at hf
  dsimp only at hf
  split at hf
  · rename_i x st'
    cases hf
    exact ⟨rfl, fun hH hS hL kk => lv_if_eq C.1 C.2.1 hd ht (fun h => by have := kk mls hL; dsimp only at this; rw [if_pos (decide_eq_true h)] at this; exact this) (fun h => by have := kk mls hL; dsimp only at this; rw [if_neg (fun z => h (of_decide_eq_true z)), hp1] at this; exact this)⟩
  · cases hf
theorem so_icmp_eq {off : Int} {t : Nat} (hd : decode (pm_by G k) (pm_pc G k i) = .ok (.if_icmp .eq off, 3)) (ht : (pm_pc G k i : Int) + off = (pm_pc G k t : Int)) (hp1 : pm_pc G k (i + 1) = pm_pc G k i + 3) : pm_Sim0 G T k i (op_icmp (fun x y => decide (x = y)) t) := by
  intro p l e R s m args below meth c w C hR1 hR2 H locs cells slots Q mls ls st hp s' hf
  unfold op_icmp at hf
  dsimp only at hf
  split at hf
  · rename_i y x st'
    cases hf
    exact ⟨rfl, fun hH hS hL kk => lv_icmp_eq C.1 C.2.1 hd ht (fun h => by have := kk mls hL; dsimp only at this; rw [if_pos (decide_eq_true h)] at this; exact this) (fun h => by have := kk mls hL; dsimp only at this; rw [if_neg (fun z => h (of_decide_eq_true z)), hp1] at this; exact this)⟩
  · cases hf
theorem so_if_ne {off : Int} {t : Nat} (hd : decode (pm_by G k) (pm_pc G k i) = .ok (.ifCond .ne off, 3)) (ht : (pm_pc G k i : Int) + off = (pm_pc G k t : Int)) (hp1 : pm_pc G k (i + 1) = pm_pc G k i + 3) : pm_Sim0 G T k i (op_if (fun x => decide (¬ x = 0)) t) := by
  intro p l e R s m args below meth c w C hR1 hR2 H locs cells slots Q mls ls st hp s' hf
  unfold op_if at hf
  dsimp only at hf
  split at hf
  · rename_i x st'
    cases hf
    exact ⟨rfl, fun hH hS hL kk => lv_if_ne C.1 C.2.1 hd ht (fun h => by have := kk mls hL; dsimp only at this; rw [if_pos (decide_eq_true h)] at this; exact this) (fun h => by have := kk mls hL; dsimp only at this; rw [if_neg (fun z => (of_decide_eq_true z) h), hp1] at this; exact this)⟩
  · cases hf
theorem so_icmp_ne {off : Int} {t : Nat} (hd : decode (pm_by G k) (pm_pc G k i) = .ok (.if_icmp .ne off, 3)) (ht : (pm_pc G k i : Int) + off = (pm_pc G k t : Int)) (hp1 : pm_pc G k (i + 1) = pm_pc G k i + 3) : pm_Sim0 G T k i (op_icmp (fun x y => decide (¬ x = y)) t) := by
  intro p l e R s m args below meth c w C hR1 hR2 H locs cells slots Q mls ls st hp s' hf
  unfold op_icmp at hf
  dsimp only at hf
  split at hf
  · rename_i y x st'
    cases hf
    exact ⟨rfl, fun hH hS hL kk => lv_icmp_ne C.1 C.2.1 hd ht (fun h => by have := kk mls hL; dsimp only at this; rw [if_pos (decide_eq_true h)] at this; exact this) (fun h => by have := kk mls hL; dsimp only at this; rw [if_neg (fun z => (of_decide_eq_true z) h), hp1] at this; exact this)⟩
  · cases hf
theorem so_if_lt {off : Int} {t : Nat} (hd : decode (pm_by G k) (pm_pc G k i) = .ok (.ifCond .lt off, 3)) (ht : (pm_pc G k i : Int) + off = (pm_pc G k t : Int)) (hp1 : pm_pc G k (i + 1) = pm_pc G k i + 3) : pm_Sim0 G T k i (op_if (fun x => decide (x < 0)) t) := by
  intro p l e R s m args below meth c w C hR1 hR2 H locs cells slots Q mls ls st hp s' hf
  unfold op_if at hf
  dsimp only at hf
  split at hf
  · rename_i x st'
    cases hf
    exact ⟨rfl, fun hH hS hL kk => lv_if_lt C.1 C.2.1 hd ht (fun h => by have := kk mls hL; dsimp only at this; rw [if_pos (decide_eq_true h)] at this; exact this) (fun h => by have := kk mls hL; dsimp only at this; rw [if_neg (fun z => h (of_decide_eq_true z)), hp1] at this; exact this)⟩
  · cases hf
theorem so_icmp_lt {off : Int} {t : Nat} (hd : decode (pm_by G k) (pm_pc G k i) = .ok (.if_icmp .lt off, 3)) (ht : (pm_pc G k i : Int) + off = (pm_pc G k t : Int)) (hp1 : pm_pc G k (i + 1) = pm_pc G k i + 3) : pm_Sim0 G T k i (op_icmp (fun x y => decide (x < y)) t) := by
  intro p l e R s m args below meth c w C hR1 hR2 H locs cells slots Q mls ls st hp s' hf
  unfold op_icmp at hf
  dsimp only at hf
  split at hf
  · rename_i y x st'
    cases hf
    exact ⟨rfl, fun hH hS hL kk => lv_icmp_lt C.1 C.2.1 hd ht (fun h => by have := kk mls hL; dsimp only at this; rw [if_pos (decide_eq_true h)] at this; exact this) (fun h => by have := kk mls hL; dsimp only at this; rw [if_neg (fun z => h (of_decide_eq_true z)), hp1] at this; exact this)⟩
  · cases hf
theorem so_if_ge {off : Int} {t : Nat} (hd : decode (pm_by G k) (pm_pc G k i) = .ok (.ifCond .ge off, 3)) (ht : (pm_pc G k i : Int) + off = (pm_pc G k t : Int)) (hp1 : pm_pc G k (i + 1) = pm_pc G k i + 3) : pm_Sim0 G T k i (op_if (fun x => decide (0 ≤ x)) t) := by
  intro p l e R s m args below meth c w C hR1 hR2 H locs cells slots Q mls ls st hp s' hf
  unfold op_if at hf
  dsimp only at hf
  split at hf
  · rename_i x st'
    cases hf
    exact ⟨rfl, fun hH hS hL kk => lv_if_ge C.1 C.2.1 hd ht (fun h => by have := kk mls hL; dsimp only at this; rw [if_pos (decide_eq_true h)] at this; exact this) (fun h => by have := kk mls hL; dsimp only at this; rw [if_neg (fun z => h (of_decide_eq_true z)), hp1] at this; exact this)⟩
  · cases hf
theorem so_icmp_ge {off : Int} {t : Nat} (hd : decode (pm_by G k) (pm_pc G k i) = .ok (.if_icmp .ge off, 3)) (ht : (pm_pc G k i : Int) + off = (pm_pc G k t : Int)) (hp1 : pm_pc G k (i + 1) = pm_pc G k i + 3) : pm_Sim0 G T k i (op_icmp (fun x y => decide (y ≤ x)) t) := by
  intro p l e R s m args below meth c w C hR1 hR2 H locs cells slots Q mls ls st hp s' hf
  unfold op_icmp at hf
  dsimp only at hf
  split at hf
  · rename_i y x st'
    cases hf
    exact ⟨rfl, fun hH hS hL kk => lv_icmp_ge C.1 C.2.1 hd ht (fun h => by have := kk mls hL; dsimp only at this; rw [if_pos (decide_eq_true h)] at this; exact this) (fun h => by have := kk mls hL; dsimp only at this; rw [if_neg (fun z => h (of_decide_eq_true z)), hp1] at this; exact this)⟩
  · cases hf
theorem so_if_gt {off : Int} {t : Nat} (hd : decode (pm_by G k) (pm_pc G k i) = .ok (.ifCond .gt off, 3)) (ht : (pm_pc G k i : Int) + off = (pm_pc G k t : Int)) (hp1 : pm_pc G k (i + 1) = pm_pc G k i + 3) : pm_Sim0 G T k i (op_if (fun x => decide (0 < x)) t) := by
  intro p l e R s m args below meth c w C hR1 hR2 H locs cells slots Q mls ls st hp s' hf
  unfold op_if at hf
  dsimp only at hf
  split at hf
  · rename_i x st'
    cases hf
    exact ⟨rfl, fun hH hS hL kk => lv_if_gt C.1 C.2.1 hd ht (fun h => by have := kk mls hL; dsimp only at this; rw [if_pos (decide_eq_true h)] at this; exact this) (fun h => by have := kk mls hL; dsimp only at this; rw [if_neg (fun z => h (of_decide_eq_true z)), hp1] at this; exact this)⟩
  · cases hf
theorem so_icmp_gt {off : Int} {t : Nat} (hd : decode (pm_by G k) (pm_pc G k i) = .ok (.if_icmp .gt off, 3)) (ht : (pm_pc G k i : Int) + off = (pm_pc G k t : Int)) (hp1 : pm_pc G k (i + 1) = pm_pc G k i + 3) : pm_Sim0 G T k i (op_icmp (fun x y => decide (y < x)) t) := by
  intro p l e R s m args below meth c w C hR1 hR2 H locs cells slots Q mls ls st hp s' hf
  unfold op_icmp at hf
  dsimp only at hf
  split at hf
  · rename_i y x st'
    cases hf
    exact ⟨rfl, fun hH hS hL kk => lv_icmp_gt C.1 C.2.1 hd ht (fun h => by have := kk mls hL; dsimp only at this; rw [if_pos (decide_eq_true h)] at this; exact this) (fun h => by have := kk mls hL; dsimp only at this; rw [if_neg (fun z => h (of_decide_eq_true z)), hp1] at this; exact this)⟩
  · cases hf
theorem so_if_le {off : Int} {t : Nat} (hd : decode (pm_by G k) (pm_pc G k i) = .ok (.ifCond .le off, 3)) (ht : (pm_pc G k i : Int) + off = (pm_pc G k t : Int)) (hp1 : pm_pc G k (i + 1) = pm_pc G k i + 3) : pm_Sim0 G T k i (op_if (fun x => decide (x ≤ 0)) t) := by
  intro p l e R s m args below meth c w C hR1 hR2 H locs cells slots Q mls ls st hp s' hf
  unfold op_if at hf
  dsimp only at hf
  split at hf
  · rename_i x st'
    cases hf
    exact ⟨rfl, fun hH hS hL kk => lv_if_le C.1 C.2.1 hd ht (fun h => by have := kk mls hL; dsimp only at this; rw [if_pos (decide_eq_true h)] at this; exact this) (fun h => by have := kk mls hL; dsimp only at this; rw [if_neg (fun z => h (of_decide_eq_true z)), hp1] at this; exact this)⟩
  · cases hf
theorem so_icmp_le {off : Int} {t : Nat} (hd : decode (pm_by G k) (pm_pc G k i) = .ok (.if_icmp .le off, 3)) (ht : (pm_pc G k i : Int) + off = (pm_pc G k t : Int)) (hp1 : pm_pc G k (i + 1) = pm_pc G k i + 3) : pm_Sim0 G T k i (op_icmp (fun x y => decide (x ≤ y)) t) := by
  intro p l e R s m args below meth c w C hR1 hR2 H locs cells slots Q mls ls st hp s' hf
  unfold op_icmp at hf
  dsimp only at hf
  split at hf
  · rename_i y x st'
    cases hf
    exact ⟨rfl, fun hH hS hL kk => lv_icmp_le C.1 C.2.1 hd ht (fun h => by have := kk mls hL; dsimp only at this; rw [if_pos (decide_eq_true h)] at this; exact this) (fun h => by have := kk mls hL; dsimp only at this; rw [if_neg (fun z => h (of_decide_eq_true z)), hp1] at this; exact this)⟩
  · cases hf
end Steps0
end
section
/-! Steps that read or write the heap. -/
theorem pm_P1 {D : va_G} {cl : List vw_C} {q : Nat × va_E} {H : Heap} (h : va_at D cl q H) : va_P D cl [q] H := by
  intro k x hx
  match k, hx with
  | 0, hx => cases hx; exact h
  | k + 1, hx => simp at hx
theorem pm_HR.at {T : pT} {w : pW} {hp : pH} {H : Heap} (h : pm_HR T w hp H) {a : Nat} {c : Nat} {fs : List Value} (ha : hp[a]? = some (.inr (c, fs))) : ∃ j, a = j + 1 ∧ va_at w.2.1 T.1 (w.1.2.1 + j, .inr (c, fs.map (pm_em w))) H := by
  match a, ha with
  | 0, ha => rw [h.1] at ha; cases ha
  | j + 1, ha => exact ⟨j, rfl, (h.2.2 j _ ha).1⟩
theorem pm_HR.arr {T : pT} {w : pW} {hp : pH} {H : Heap} (h : pm_HR T w hp H) {a t : Nat} {x : vp_A} (ht : t ≠ 3) (ha : hp[a]? = some (.inl (t, x))) : ∃ j, a = j + 1 ∧ va_at w.2.1 T.1 (w.1.2.1 + j, .inl (w.2.2 t, x)) H := by
  match a, ha with
  | 0, ha => rw [h.1] at ha; cases ha; exact absurd rfl ht
  | j + 1, ha => exact ⟨j, rfl, (h.2.2 j _ ha).1⟩
theorem pm_HR.zero {T : pT} {w : pW} {hp : pH} {H : Heap} (h : pm_HR T w hp H) {a : Nat} {x : vp_A} (ha : hp[a]? = some (.inl (3, x))) : a = 0 := by
  match a, ha with
  | 0, _ => rfl
  | j + 1, ha => exact absurd rfl ((h.2.2 j _ ha).2 3 x rfl)
theorem pm_HR.set {T : pT} {w : pW} {hp : pH} {H H1 : Heap} (h : pm_HR T w hp H) {j : Nat} {e : pE} (hj : j + 1 < hp.length) (he : va_at w.2.1 T.1 (w.1.2.1 + j, pm_emE w e) H1) (hn : ∀ (t : Nat) (x : vp_A), e = .inl (t, x) → t ≠ 3) (hz : H1.size = H.size) (ho : ∀ q : Nat, q ≠ w.1.2.1 + j → H1[q]? = H[q]?) : pm_HR T w (hp.set (j + 1) e) H1 := by
  refine ⟨?_, ?_, fun i e' hi => ?_⟩
  · rw [List.getElem?_set_ne (by omega)]
    exact h.1
  · rw [hz, List.length_set]
    exact h.2.1
  · by_cases hij : i = j
    · subst hij
      rw [List.getElem?_set_self hj] at hi
      cases hi
      exact ⟨he, hn⟩
    · rw [List.getElem?_set_ne (by omega)] at hi
      exact ⟨(h.2.2 i e' hi).1.kept (ho _ (by show w.1.2.1 + i ≠ _; omega)), (h.2.2 i e' hi).2⟩
theorem pm_HR.push {T : pT} {w : pW} {hp : pH} {H H1 : Heap} (h : pm_HR T w hp H) {e : pE} (he : va_at w.2.1 T.1 (H.size, pm_emE w e) H1) (hn3 : ∀ (t : Nat) (x : vp_A), e = .inl (t, x) → t ≠ 3) (hz : H1.size = H.size + 1) (ho : ∀ q : Nat, q < H.size → H1[q]? = H[q]?) : pm_HR T w (hp ++ [e]) H1 ∧ pm_ad w hp.length = H.size := by
  have hl : 0 < hp.length := (List.getElem?_eq_some_iff.mp h.1).1
  have hs := h.2.1
  obtain ⟨n, hn⟩ : ∃ n, hp.length = n + 1 := ⟨hp.length - 1, by omega⟩
  have hsz : H.size = w.1.2.1 + n := by omega
  refine ⟨⟨?_, ?_, fun i e' hi => ?_⟩, by rw [hn, hsz]; rfl⟩
  · rw [List.getElem?_append_left hl]
    exact h.1
  · rw [hz, List.length_append, List.length_singleton]
    omega
  · by_cases hi2 : i + 1 < hp.length
    · rw [List.getElem?_append_left hi2] at hi
      exact ⟨(h.2.2 i e' hi).1.kept (ho _ (by show w.1.2.1 + i < _; omega)), (h.2.2 i e' hi).2⟩
    · rw [List.getElem?_append_right (by omega)] at hi
      have hk : i + 1 - hp.length < 1 := (List.getElem?_eq_some_iff.mp hi).1
      have hin : i = n := by omega
      subst hin
      rw [show i + 1 - hp.length = 0 by omega] at hi
      cases hi
      rw [← hsz]
      exact ⟨he, hn3⟩
theorem pm_sz_set : ∀ (hp : pH) (a : Nat) (e e0 : pE), hp[a]? = some e0 → pm_esz e = pm_esz e0 → pm_sz (hp.set a e) = pm_sz hp
  | [], a, e, e0, h, _ => by simp at h
  | x :: hp, 0, e, e0, h, hs => by
    rw [List.getElem?_cons_zero] at h
    cases h
    show (pm_esz e :: hp.map pm_esz).sum = (pm_esz x :: hp.map pm_esz).sum
    rw [hs]
  | x :: hp, a + 1, e, e0, h, hs => by
    rw [List.getElem?_cons_succ] at h
    have := pm_sz_set hp a e e0 h hs
    show (pm_esz x :: (hp.set a e).map pm_esz).sum = (pm_esz x :: hp.map pm_esz).sum
    rw [List.sum_cons, List.sum_cons]
    unfold pm_sz at this
    rw [this]
theorem pm_sz_app (hp : pH) (e : pE) : pm_sz (hp ++ [e]) = pm_sz hp + pm_esz e := by
  unfold pm_sz
  rw [List.map_append, List.sum_append]
  simp
/-- a step that writes cells that are there -/
def pm_SimS (G : pG) (T : pT) (k i : Nat) (f : pS → Option pS) : Prop :=
  ∀ (p : Program) (l : Launch) (e : Env) (R : Room) (s : State) (m : MethodId) (args : Array Value) (below : List Frame) (meth : Method) (c : Code) (w : pW), pm_Cx G T w k p m c meth s args → 1 ≤ R.frames → 20 ≤ R.locals →
  ∀ (H : Heap) (locs : List Loc) (cells slots : Nat) (Q : State → Prop) (mls : Array Slot) (ls : List pO) (st : List Value) (hp : pH) (s' : pS), f (i, ls, st, hp) = some s' →
  (s'.2.2.2.length = hp.length ∧ pm_sz s'.2.2.2 = pm_sz hp) ∧
  (pm_HR T w hp H → va_S (pm_A w) s.heap H locs → pm_LR w (pm_nL G k) mls ls →
  (∀ (H' : Heap) (locs' : List Loc) (mls' : Array Slot), pm_HR T w s'.2.2.2 H' → va_S (pm_A w) s.heap H' locs' → pm_LR w (pm_nL G k) mls' s'.2.1 → W p l e R s m args below meth c H' locs' cells slots Q (F0 m (pm_pc G k s'.1) mls' (s'.2.2.1.map (pm_em w)))) →
  W p l e R s m args below meth c H locs cells slots Q (F0 m (pm_pc G k i) mls (st.map (pm_em w))))
theorem pm_SimS.sim {G : pG} {T : pT} {k i : Nat} {f : pS → Option pS} (h : pm_SimS G T k i f) : pm_Sim G T k i f := by
  intro p l e R s m args below meth c w C hR1 hR2 H locs cells slots Q mls ls st hp s' hf
  obtain ⟨⟨h0, h1⟩, h2⟩ := h p l e R s m args below meth c w C hR1 hR2 H locs cells slots Q mls ls st hp s' hf
  rw [h0, h1]
  refine ⟨⟨Nat.le_refl _, Nat.le_refl _⟩, fun hH hS hL hc hs kk => h2 hH hS hL (fun H' locs' mls' hH' hS' hL' => ?_)⟩
  have := kk H' locs' mls' hH' hS' hL'
  rw [Nat.sub_self, Nat.sub_self] at this
  exact this
section StepsH
variable {G : pG} {T : pT} {k i : Nat}
theorem so_getI {n ci j N : Nat} {C : String} {Tb : u_T} (hd : decode (pm_by G k) (pm_pc G k i) = .ok (.getfield n, 3)) (hc : T.1[ci]? = some (C, Tb, N)) (hj : j < N) (hl : Cond.fieldLink (pm_nm G k).cls n (Tb j).1 (Tb j).2.1 (Tb j).2.2.1 ∈ T.2.1) (hin : ∀ v ∈ u_ws C Tb N, v ∈ T.2.1) (hp1 : pm_pc G k (i + 1) = pm_pc G k i + 3) : pm_Sim0 G T k i (op_getI ci j) := by
  intro p l e R s m args below meth c w C0 hR1 hR2 H locs cells slots Q mls ls st hp s' hf
  unfold op_getI at hf
  dsimp only at hf
  split at hf
  · rename_i a st'
    split at hf
    · rename_i c' fs ha
      split at hf
      · rename_i hci
        subst hci
        split at hf
        · rename_i x hx
          cases hf
          refine ⟨rfl, fun hH hS hL kk => ?_⟩
          dsimp only at kk
          rw [hp1] at kk
          obtain ⟨q, rfl, hat⟩ := hH.at ha
          exact va_get C0.1 C0.2.1 C0.2.2.2.2.1 hin C0.2.2.2.1 C0.2.2.2.2.2.1.1 (pm_P1 hat) 0 rfl hc j hj (C0.2.2.2.2.1 _ hl) (fun _ h => h) (by rw [List.getElem?_map, hx]; rfl) hd (kk mls hL)
        · cases hf
      · cases hf
    · cases hf
  · cases hf
theorem so_getA {n ci j N : Nat} {C : String} {Tb : u_T} (hd : decode (pm_by G k) (pm_pc G k i) = .ok (.getfield n, 3)) (hc : T.1[ci]? = some (C, Tb, N)) (hj : j < N) (hl : Cond.fieldLink (pm_nm G k).cls n (Tb j).1 (Tb j).2.1 (Tb j).2.2.1 ∈ T.2.1) (hin : ∀ v ∈ u_ws C Tb N, v ∈ T.2.1) (hp1 : pm_pc G k (i + 1) = pm_pc G k i + 3) : pm_Sim0 G T k i (op_getA ci j) := by
  intro p l e R s m args below meth c w C0 hR1 hR2 H locs cells slots Q mls ls st hp s' hf
  unfold op_getA at hf
  dsimp only at hf
  split at hf
  · rename_i a st'
    split at hf
    · rename_i c' fs ha
      split at hf
      · rename_i hci
        subst hci
        split at hf
        · rename_i x hx
          cases hf
          refine ⟨rfl, fun hH hS hL kk => ?_⟩
          dsimp only at kk
          rw [hp1] at kk
          obtain ⟨q, rfl, hat⟩ := hH.at ha
          exact va_get C0.1 C0.2.1 C0.2.2.2.2.1 hin C0.2.2.2.1 C0.2.2.2.2.2.1.1 (pm_P1 hat) 0 rfl hc j hj (C0.2.2.2.2.1 _ hl) (fun _ h => h) (by rw [List.getElem?_map, hx]; rfl) hd (kk mls hL)
        · cases hf
      · cases hf
    · cases hf
  · cases hf
/-- a store into a field, final or not -/
theorem pm_put {p : Program} {l : Launch} {e : Env} {R : Room} {s : State} {m : MethodId} {args : Array Value} {below : List Frame} {meth : Method} {c : Code} {w : pW} (C0 : pm_Cx G T w k p m c meth s args) {H : Heap} {locs : List Loc} {cells slots : Nat} {Q : State → Prop} {pc : Nat} {mls : Array Slot} {rest : List Value}
    {n ci j N : Nat} {C : String} {Tb : u_T} {ty : Nat → FieldType} (hd : decode (pm_by G k) pc = .ok (.putfield n, 3)) (hc : T.1[ci]? = some (C, Tb, N)) (hj : j < N) (hl : Cond.fieldLink (pm_nm G k).cls n (Tb j).1 (Tb j).2.1 (Tb j).2.2.1 ∈ T.2.1) (hin : ∀ v ∈ u_ws C Tb N, v ∈ T.2.1) (hty : ∀ x, x < N → parseFieldDescriptor (Tb x).2.2.1 = some (ty x)) (hnm : ∀ x, x < N → ∀ y, y < N → x ≠ y → (Tb x).2.1 ≠ (Tb y).2.1)
    (hfin : (Tb j).2.2.2 = false ∨ ((Tb j).2.2.2 = true ∧ (pm_nm G k).name = "<init>" ∧ (Tb j).1 = (pm_nm G k).cls)) {v : Value} (hn : narrow (ty j) v = v) (hfit : fits (ty j) v = true) {q : Nat} {fs : List Value} (hat : va_at w.2.1 T.1 (w.1.2.1 + q, .inr (ci, fs)) H) (hf : j < fs.length) (hS : va_S (pm_A w) s.heap H locs)
    (kk : ∀ (H1 : Heap) (locs1 : List Loc), va_at w.2.1 T.1 (w.1.2.1 + q, .inr (ci, fs.set j v)) H1 → H1.size = H.size → (∀ x : Nat, x ≠ w.1.2.1 + q → H1[x]? = H[x]?) → va_S (pm_A w) s.heap H1 locs1 → W p l e R s m args below meth c H1 locs1 cells slots Q (F0 m (pc + 3) mls rest)) : W p l e R s m args below meth c H locs cells slots Q (F0 m pc mls (v :: .ref (w.1.2.1 + q) :: rest)) := by
  have hts := C0.2.2.2.2.1
  have hK := C0.2.2.2.2.2.1.1
  have hap := va_apart (own := C) hts hin ty hty hnm hK hc
  obtain ⟨r, h1, cell, q1, q2, q3, q4⟩ := hat
  cases h1.symm.trans hc
  obtain ⟨hSl, hfc, kC, hkC, hkind⟩ := hK.1 ci _ hc
  obtain ⟨cf, kf, fi, f, hi, hsl⟩ := hSl j hj
  have hlay := hts _ (hin _ (u_in_lay hj))
  have hst := (u_facts hfc hkC (u_lays hts hin hj) hi).1
  have hAq : pm_A w (w.1.2.1 + q) := Nat.le_add_right _ _
  have fin : ∀ H' : Heap, H'[w.1.2.1 + q]? = some (cell.setSlot f.slot v) → H'.size = H.size → (∀ x : Nat, x ≠ w.1.2.1 + q → H'[x]? = H[x]?) → W p l e R s m args below meth c H' (locs ++ [⟨w.1.2.1 + q, f.slot⟩]) cells slots Q (F0 m (pc + 3) mls rest) := by
    intro H' e1 e2 e3
    rw [hsl] at e1 ⊢
    exact kk H' _ ⟨_, hc, t_OB.to (V := updV (vp_V fs) j v) ⟨_, e1, q2, q3, t_set q4 hap hj v⟩ (fun x _ => vp_updV_set hf v x)⟩ e2 e3 (hS.put e2 e3 hAq)
  rcases hfin with hfin | ⟨hfin, hin2, hdecl⟩
  · unfold u_lay at hlay
    rw [if_neg (by rw [hfin]; decide)] at hlay
    have h6 := u_store hfc hkC hkind hlay hi (hty j hj) hn hfit
    exact W.putK C0.1 C0.2.1 (f := f) ⟨C0.2.2.2.1, hts _ hl, ⟨_, _, _, hi⟩, hst⟩ (by rw [q2]; exact h6) q1 q3 (by rw [hsl]; exact k2_hasslot (q4 j hj)) rfl rfl hd fin
  · unfold u_lay at hlay
    rw [if_pos hfin] at hlay
    have hcf : m.cls = cf := by
      obtain ⟨_, _, c', _, _, _, -, -, hf', -, -, -, hown2, -⟩ := Cond.laysFinal_spec hlay
      have e1 : c' = cf := by have := hi.symm.trans hf'; simp at this; exact this.1.symm
      rw [hdecl] at hown2
      rw [← e1]
      exact Option.some.inj (C0.2.2.2.1.symm.trans hown2)
    have h6 := u_fits hfc hkC hkind (Or.inr hlay) hi (hty j hj) hn hfit
    exact W.putFinK C0.1 C0.2.1 C0.2.2.2.1 (hts _ hl) hi hst hcf (C0.2.2.2.2.2.2.2.2.trans hin2) (by rw [q2]; exact h6) q1 q3 (by rw [hsl]; exact k2_hasslot (q4 j hj)) rfl rfl hd fin
theorem so_putI {n ci j N : Nat} {C : String} {Tb : u_T} {ty : Nat → FieldType} (hd : decode (pm_by G k) (pm_pc G k i) = .ok (.putfield n, 3)) (hc : T.1[ci]? = some (C, Tb, N)) (hj : j < N) (hl : Cond.fieldLink (pm_nm G k).cls n (Tb j).1 (Tb j).2.1 (Tb j).2.2.1 ∈ T.2.1) (hin : ∀ v ∈ u_ws C Tb N, v ∈ T.2.1) (hty : ∀ x, x < N → parseFieldDescriptor (Tb x).2.2.1 = some (ty x)) (hnm : ∀ x, x < N → ∀ y, y < N → x ≠ y → (Tb x).2.1 ≠ (Tb y).2.1) (hfin : (Tb j).2.2.2 = false) (htj : ty j = .int) (hp1 : pm_pc G k (i + 1) = pm_pc G k i + 3) : pm_SimS G T k i (op_putI ci j) := by
  intro p l e R s m args below meth c w C0 hR1 hR2 H locs cells slots Q mls ls st hp s' hf
  unfold op_putI at hf
  dsimp only at hf
  split at hf
  · rename_i x a st'
    split at hf
    · rename_i c' fs ha
      split at hf
      · rename_i hci
        obtain ⟨rfl, hfl⟩ := hci
        cases hf
        refine ⟨⟨List.length_set, pm_sz_set _ _ _ _ ha (by simp [pm_esz])⟩, fun hH hS hL kk => ?_⟩
        dsimp only at kk
        rw [hp1] at kk
        obtain ⟨q, rfl, hat⟩ := hH.at ha
        refine pm_put C0 hd hc hj hl hin hty hnm (Or.inl hfin) (v := .int x) (by rw [htj]; rfl) (by rw [htj]; rfl) hat (by rw [List.length_map]; exact hfl) hS (fun H1 locs1 h1 h2 h3 h4 => kk H1 locs1 mls (hH.set (List.getElem?_eq_some_iff.mp ha).1 ?_ (fun _ _ z => nomatch z) h2 h3) h4 hL)
        show va_at _ _ (_, Sum.inr (_, (fs.set j (.int x)).map (pm_em w))) _
        rw [List.map_set]
        exact h1
      · cases hf
    · cases hf
  · cases hf
theorem pm_narrowZ {x : Int32} (h : x = 0 ∨ x = 1) : narrow .boolean (.int x) = .int x ∧ fits .boolean (.int x) = true := by
  rcases h with rfl | rfl <;> exact ⟨rfl, rfl⟩
theorem so_putZ {n ci j N : Nat} {C : String} {Tb : u_T} {ty : Nat → FieldType} (hd : decode (pm_by G k) (pm_pc G k i) = .ok (.putfield n, 3)) (hc : T.1[ci]? = some (C, Tb, N)) (hj : j < N) (hl : Cond.fieldLink (pm_nm G k).cls n (Tb j).1 (Tb j).2.1 (Tb j).2.2.1 ∈ T.2.1) (hin : ∀ v ∈ u_ws C Tb N, v ∈ T.2.1) (hty : ∀ x, x < N → parseFieldDescriptor (Tb x).2.2.1 = some (ty x)) (hnm : ∀ x, x < N → ∀ y, y < N → x ≠ y → (Tb x).2.1 ≠ (Tb y).2.1) (hfin : (Tb j).2.2.2 = false) (htj : ty j = .boolean) (hp1 : pm_pc G k (i + 1) = pm_pc G k i + 3) : pm_SimS G T k i (op_putZ ci j) := by
  intro p l e R s m args below meth c w C0 hR1 hR2 H locs cells slots Q mls ls st hp s' hf
  unfold op_putZ at hf
  dsimp only at hf
  split at hf
  · rename_i x a st'
    split at hf
    · rename_i c' fs ha
      split at hf
      · rename_i hci
        obtain ⟨⟨rfl, hfl⟩, hz⟩ := hci
        cases hf
        refine ⟨⟨List.length_set, pm_sz_set _ _ _ _ ha (by simp [pm_esz])⟩, fun hH hS hL kk => ?_⟩
        dsimp only at kk
        rw [hp1] at kk
        obtain ⟨q, rfl, hat⟩ := hH.at ha
        refine pm_put C0 hd hc hj hl hin hty hnm (Or.inl hfin) (v := .int x) (by rw [htj]; exact (pm_narrowZ hz).1) (by rw [htj]; exact (pm_narrowZ hz).2) hat (by rw [List.length_map]; exact hfl) hS (fun H1 locs1 h1 h2 h3 h4 => kk H1 locs1 mls (hH.set (List.getElem?_eq_some_iff.mp ha).1 ?_ (fun _ _ z => nomatch z) h2 h3) h4 hL)
        show va_at _ _ (_, Sum.inr (_, (fs.set j (.int x)).map (pm_em w))) _
        rw [List.map_set]
        exact h1
      · cases hf
    · cases hf
  · cases hf
def pm_isRef : FieldType → Bool
  | .object _ => true
  | .array _ => true
  | _ => false
theorem pm_narrowA {t : FieldType} (h : pm_isRef t = true) (a : Nat) : narrow t (.ref a) = .ref a ∧ fits t (.ref a) = true := by
  cases t <;> first | exact ⟨rfl, rfl⟩ | cases h
theorem so_putA {n ci j N : Nat} {C : String} {Tb : u_T} {ty : Nat → FieldType} (hd : decode (pm_by G k) (pm_pc G k i) = .ok (.putfield n, 3)) (hc : T.1[ci]? = some (C, Tb, N)) (hj : j < N) (hl : Cond.fieldLink (pm_nm G k).cls n (Tb j).1 (Tb j).2.1 (Tb j).2.2.1 ∈ T.2.1) (hin : ∀ v ∈ u_ws C Tb N, v ∈ T.2.1) (hty : ∀ x, x < N → parseFieldDescriptor (Tb x).2.2.1 = some (ty x)) (hnm : ∀ x, x < N → ∀ y, y < N → x ≠ y → (Tb x).2.1 ≠ (Tb y).2.1) (hfin : (Tb j).2.2.2 = true) (hin2 : (pm_nm G k).name = "<init>") (hdecl : (Tb j).1 = (pm_nm G k).cls) (htj : pm_isRef (ty j) = true) (hp1 : pm_pc G k (i + 1) = pm_pc G k i + 3) : pm_SimS G T k i (op_putA ci j) := by
  intro p l e R s m args below meth c w C0 hR1 hR2 H locs cells slots Q mls ls st hp s' hf
  unfold op_putA at hf
  dsimp only at hf
  split at hf
  · rename_i x a st'
    split at hf
    · rename_i c' fs ha
      split at hf
      · rename_i hci
        obtain ⟨rfl, hfl⟩ := hci
        cases hf
        refine ⟨⟨List.length_set, pm_sz_set _ _ _ _ ha (by simp [pm_esz])⟩, fun hH hS hL kk => ?_⟩
        dsimp only at kk
        rw [hp1] at kk
        obtain ⟨q, rfl, hat⟩ := hH.at ha
        refine pm_put C0 hd hc hj hl hin hty hnm (Or.inr ⟨hfin, hin2, hdecl⟩) (v := .ref (pm_ad w x)) (pm_narrowA htj _).1 (pm_narrowA htj _).2 hat (by rw [List.length_map]; exact hfl) hS (fun H1 locs1 h1 h2 h3 h4 => kk H1 locs1 mls (hH.set (List.getElem?_eq_some_iff.mp ha).1 ?_ (fun _ _ z => nomatch z) h2 h3) h4 hL)
        show va_at _ _ (_, Sum.inr (_, (fs.set j (.ref x)).map (pm_em w))) _
        rw [List.map_set]
        exact h1
      · cases hf
    · cases hf
  · cases hf
theorem so_iald (hd : decode (pm_by G k) (pm_pc G k i) = .ok (.iaload, 1)) (hp1 : pm_pc G k (i + 1) = pm_pc G k i + 1) : pm_Sim0 G T k i (op_iald 0) := by
  intro p l e R s m args below meth c w C0 hR1 hR2 H locs cells slots Q mls ls st hp s' hf
  unfold op_iald at hf
  dsimp only at hf
  split at hf
  · rename_i x a st'
    split at hf
    · rename_i t' n f ha
      split at hf
      · rename_i hci
        obtain ⟨rfl, hpin⟩ := hci
        cases hf
        refine ⟨rfl, fun hH hS hL kk => ?_⟩
        dsimp only at kk
        rw [hp1] at kk
        obtain ⟨q, rfl, hat⟩ := hH.arr (by decide) ha
        exact va_iald C0.1 C0.2.1 C0.2.2.2.2.2.1.1 (pm_P1 hat) 0 0 rfl rfl (pin_in hpin) hd (kk mls hL)
      · cases hf
    · cases hf
  · cases hf
theorem so_sld (hd : decode (pm_by G k) (pm_pc G k i) = .ok (.iaload, 1)) (hp1 : pm_pc G k (i + 1) = pm_pc G k i + 1) : pm_Sim0 G T k i (op_iald 3) := by
  intro p l e R s m args below meth c w C0 hR1 hR2 H locs cells slots Q mls ls st hp s' hf
  unfold op_iald at hf
  dsimp only at hf
  split at hf
  · rename_i x a st'
    split at hf
    · rename_i t' n f ha
      split at hf
      · rename_i hci
        obtain ⟨rfl, hpin⟩ := hci
        cases hf
        refine ⟨rfl, fun hH hS hL kk => ?_⟩
        dsimp only at kk
        rw [hp1] at kk
        have hz : a = 0 := hH.zero ha
        subst hz
        rw [hH.1] at ha
        cases ha
        exact va_sld C0.1 C0.2.1 C0.2.2.2.2.2.1.2.2.1 (Nat.lt_of_lt_of_le C0.2.2.2.2.2.1.2.2.2.1 C0.2.2.2.2.2.1.2.2.2.2) (Nat.not_le.mpr C0.2.2.2.2.2.1.2.2.2.1) hS (pin_in hpin) hd (kk mls hL)
      · cases hf
    · cases hf
  · cases hf
theorem so_zald (hd : decode (pm_by G k) (pm_pc G k i) = .ok (.baload, 1)) (hp1 : pm_pc G k (i + 1) = pm_pc G k i + 1) : pm_Sim0 G T k i (op_iald 1) := by
  intro p l e R s m args below meth c w C0 hR1 hR2 H locs cells slots Q mls ls st hp s' hf
  unfold op_iald at hf
  dsimp only at hf
  split at hf
  · rename_i x a st'
    split at hf
    · rename_i t' n f ha
      split at hf
      · rename_i hci
        obtain ⟨rfl, hpin⟩ := hci
        cases hf
        refine ⟨rfl, fun hH hS hL kk => ?_⟩
        dsimp only at kk
        rw [hp1] at kk
        obtain ⟨q, rfl, hat⟩ := hH.arr (by decide) ha
        exact va_zald C0.1 C0.2.1 C0.2.2.2.2.2.1.1 (pm_P1 hat) 0 1 rfl rfl (pin_in hpin) hd (kk mls hL)
      · cases hf
    · cases hf
  · cases hf
theorem so_lald (hd : decode (pm_by G k) (pm_pc G k i) = .ok (.laload, 1)) (hp1 : pm_pc G k (i + 1) = pm_pc G k i + 1) : pm_Sim0 G T k i op_lald := by
  intro p l e R s m args below meth c w C0 hR1 hR2 H locs cells slots Q mls ls st hp s' hf
  unfold op_lald at hf
  dsimp only at hf
  split at hf
  · rename_i x a st'
    split at hf
    · rename_i t' n f ha
      split at hf
      · rename_i hci
        obtain ⟨rfl, hpin⟩ := hci
        cases hf
        refine ⟨rfl, fun hH hS hL kk => ?_⟩
        dsimp only at kk
        rw [hp1] at kk
        obtain ⟨q, rfl, hat⟩ := hH.arr (by decide) ha
        exact va_lald C0.1 C0.2.1 C0.2.2.2.2.2.1.1 (pm_P1 hat) 0 2 rfl rfl (pin_in hpin) hd (kk mls hL)
      · cases hf
    · cases hf
  · cases hf
theorem so_iast (hd : decode (pm_by G k) (pm_pc G k i) = .ok (.iastore, 1)) (hp1 : pm_pc G k (i + 1) = pm_pc G k i + 1) : pm_SimS G T k i op_iast := by
  intro p l e R s m args below meth c w C0 hR1 hR2 H locs cells slots Q mls ls st hp s' hf
  unfold op_iast at hf
  dsimp only at hf
  split at hf
  · rename_i x j a st'
    split at hf
    · rename_i t' n f ha
      split at hf
      · rename_i hci
        obtain ⟨rfl, hpin⟩ := hci
        cases hf
        refine ⟨⟨List.length_set, pm_sz_set _ _ _ _ ha rfl⟩, fun hH hS hL kk => ?_⟩
        dsimp only at kk
        rw [hp1] at kk
        obtain ⟨q, rfl, hat⟩ := hH.arr (by decide) ha
        refine W.iast C0.1 C0.2.1 hat ((C0.2.2.2.2.2.1.1.2 0 _ rfl).1 n (fun z => .int (f z))) (fun z => by cases z) (by show ¬ (j < 0 ∨ (arrV _ _ _).slots.size ≤ _); rw [arrV_size]; exact pin_in hpin) rfl rfl hd fun H1 e1 z1 o1 => ?_
        refine kk H1 _ mls (hH.set (List.getElem?_eq_some_iff.mp ha).1 ?_ (fun t y z => by cases z; decide) z1 o1) (hS.put z1 o1 (Nat.le_add_right _ _)) hL
        show H1[_]? = some (vp_cell _ _)
        rw [e1, vp_cell_i, vp_cell_i, arrV_store]
        congr 2
        funext z
        by_cases hz : z = j.toNatClampNeg
        · subst hz
          simp [updV, upd]
        · simp [updV, upd, hz]
      · cases hf
    · cases hf
  · cases hf
theorem so_zast (hd : decode (pm_by G k) (pm_pc G k i) = .ok (.bastore, 1)) (hp1 : pm_pc G k (i + 1) = pm_pc G k i + 1) : pm_SimS G T k i op_zast := by
  intro p l e R s m args below meth c w C0 hR1 hR2 H locs cells slots Q mls ls st hp s' hf
  unfold op_zast at hf
  dsimp only at hf
  split at hf
  · rename_i x j a st'
    split at hf
    · rename_i t' n f ha
      split at hf
      · rename_i hci
        obtain ⟨⟨rfl, hpin⟩, hx01⟩ := hci
        cases hf
        refine ⟨⟨List.length_set, pm_sz_set _ _ _ _ ha rfl⟩, fun hH hS hL kk => ?_⟩
        dsimp only at kk
        rw [hp1] at kk
        obtain ⟨q, rfl, hat⟩ := hH.arr (by decide) ha
        refine W.zast C0.1 C0.2.1 hat ((C0.2.2.2.2.2.1.1.2 1 _ rfl).1 n (fun z => .int (f z))) (fun z => by cases z) (by show ¬ (j < 0 ∨ (arrV _ _ _).slots.size ≤ _); rw [arrV_size]; exact pin_in hpin) rfl rfl hd fun H1 e1 z1 o1 => ?_
        refine kk H1 _ mls (hH.set (List.getElem?_eq_some_iff.mp ha).1 ?_ (fun t y z => by cases z; decide) z1 o1) (hS.put z1 o1 (Nat.le_add_right _ _)) hL
        show H1[_]? = some (vp_cell _ _)
        rw [e1, vp_cell_i, vp_cell_i, arrV_store, (pm_narrowZ hx01).1]
        congr 2
        funext z
        by_cases hz : z = j.toNatClampNeg
        · subst hz
          simp [updV, upd]
        · simp [updV, upd, hz]
      · cases hf
    · cases hf
  · cases hf
theorem so_last (hd : decode (pm_by G k) (pm_pc G k i) = .ok (.lastore, 1)) (hp1 : pm_pc G k (i + 1) = pm_pc G k i + 1) : pm_SimS G T k i op_last := by
  intro p l e R s m args below meth c w C0 hR1 hR2 H locs cells slots Q mls ls st hp s' hf
  unfold op_last at hf
  dsimp only at hf
  split at hf
  · rename_i x j a st'
    split at hf
    · rename_i t' n f ha
      split at hf
      · rename_i hci
        obtain ⟨rfl, hpin⟩ := hci
        cases hf
        refine ⟨⟨List.length_set, pm_sz_set _ _ _ _ ha rfl⟩, fun hH hS hL kk => ?_⟩
        dsimp only at kk
        rw [hp1] at kk
        obtain ⟨q, rfl, hat⟩ := hH.arr (by decide) ha
        refine W.last C0.1 C0.2.1 hat ((C0.2.2.2.2.2.1.1.2 2 _ rfl).1 n (fun z => .long (f z))) (fun z => by cases z) (by show ¬ (j < 0 ∨ (arrV _ _ _).slots.size ≤ _); rw [arrV_size]; exact pin_in hpin) rfl rfl hd fun H1 e1 z1 o1 => ?_
        refine kk H1 _ mls (hH.set (List.getElem?_eq_some_iff.mp ha).1 ?_ (fun t y z => by cases z; decide) z1 o1) (hS.put z1 o1 (Nat.le_add_right _ _)) hL
        show H1[_]? = some (vp_cell _ _)
        rw [e1, vp_cell_l, vp_cell_l, arrV_store]
        congr 2
        funext z
        by_cases hz : z = j.toNatClampNeg
        · subst hz
          simp [updV, vp_updL]
        · simp [updV, vp_updL, hz]
      · cases hf
    · cases hf
  · cases hf
theorem so_alen (hd : decode (pm_by G k) (pm_pc G k i) = .ok (.arraylength, 1)) (hp1 : pm_pc G k (i + 1) = pm_pc G k i + 1) : pm_Sim0 G T k i (op_alen 0) := by
  intro p l e R s m args below meth c w C0 hR1 hR2 H locs cells slots Q mls ls st hp s' hf
  unfold op_alen at hf
  dsimp only at hf
  split at hf
  · rename_i a st'
    split at hf
    · rename_i t' n f ha
      split at hf
      · rename_i hci
        subst hci
        cases hf
        refine ⟨rfl, fun hH hS hL kk => ?_⟩
        dsimp only at kk
        rw [hp1] at kk
        obtain ⟨q, rfl, hat⟩ := hH.arr (by decide) ha
        exact va_alen C0.1 C0.2.1 C0.2.2.2.2.2.1.1 (pm_P1 hat) 0 0 rfl rfl rfl hd (kk mls hL)
      · cases hf
    · cases hf
  · cases hf
theorem so_slen (hd : decode (pm_by G k) (pm_pc G k i) = .ok (.arraylength, 1)) (hp1 : pm_pc G k (i + 1) = pm_pc G k i + 1) : pm_Sim0 G T k i (op_alen 3) := by
  intro p l e R s m args below meth c w C0 hR1 hR2 H locs cells slots Q mls ls st hp s' hf
  unfold op_alen at hf
  dsimp only at hf
  split at hf
  · rename_i a st'
    split at hf
    · rename_i t' n f ha
      split at hf
      · rename_i hci
        subst hci
        cases hf
        refine ⟨rfl, fun hH hS hL kk => ?_⟩
        dsimp only at kk
        rw [hp1] at kk
        have hz : a = 0 := hH.zero ha
        subst hz
        rw [hH.1] at ha
        cases ha
        exact va_slen C0.1 C0.2.1 C0.2.2.2.2.2.1.2.2.1 (Nat.lt_of_lt_of_le C0.2.2.2.2.2.1.2.2.2.1 C0.2.2.2.2.2.1.2.2.2.2) (Nat.not_le.mpr C0.2.2.2.2.2.1.2.2.2.1) hS hd (kk mls hL)
      · cases hf
    · cases hf
  · cases hf
theorem pm_max {n : Int32} (h0 : 0 ≤ n) (h1 : n ≤ 1000) : n.toNatClampNeg ≤ 1000 ∧ ¬ n < 0 := by
  have a := Int32.le_iff_toInt_le.mp h0
  have b := Int32.le_iff_toInt_le.mp h1
  have e : (1000 : Int32).toInt = 1000 := by decide
  rw [e] at b
  refine ⟨?_, fun z => ?_⟩
  · show n.toInt.toNat ≤ 1000
    omega
  · have c := Int32.lt_iff_toInt_lt.mp z
    omega
theorem so_newa {t : Nat} {at' : ArrayType} {ty : FieldType} (hd : decode (pm_by G k) (pm_pc G k i) = .ok (.newarray at', 2)) (hty : newarray.typeOf at' = ty) (ht : (t = 0 ∧ ty = .int) ∨ (t = 1 ∧ ty = .boolean) ∨ (t = 2 ∧ ty = .long)) (hm : Cond.arrayClass ty ∈ T.2.1) (hp1 : pm_pc G k (i + 1) = pm_pc G k i + 2) : pm_Sim G T k i (op_newa t) := by
  intro p l e R s m args below meth c w C0 hR1 hR2 H locs cells slots Q mls ls st hp s' hf
  unfold op_newa at hf
  dsimp only at hf
  split at hf
  · rename_i n st'
    split at hf
    · rename_i hn
      obtain ⟨hn1, hn2⟩ := pm_max hn.1 hn.2
      cases hf
      have e1 : (hp ++ [pm_new t n.toNatClampNeg]).length - hp.length = 1 := by simp
      have e2 : pm_sz (hp ++ [pm_new t n.toNatClampNeg]) - pm_sz hp = n.toNatClampNeg := by
        rw [pm_sz_app]
        show _ + n.toNatClampNeg - _ = _
        omega
      refine ⟨⟨by simp, by rw [pm_sz_app]; exact Nat.le_add_right _ _⟩, fun hH hS hL hc hs kk => ?_⟩
      dsimp only at kk hc hs
      rw [e1] at hc
      rw [e2] at hs
      rw [hp1, e1, e2] at kk
      subst hty
      refine va_newaK C0.1 C0.2.1 (C0.2.2.2.2.1 _ hm) rfl hd rfl hn2 rfl ?_ hc hs rfl fun H1 cA g1 g2 g3 g4 g5 => ?_
      · rcases ht with ⟨-, e⟩ | ⟨-, e⟩ | ⟨-, e⟩ <;> rw [e] <;> simp only [componentBytes] <;> omega
      · have hcA : cA = w.2.2 t := by
          rcases ht with ⟨e0, e⟩ | ⟨e0, e⟩ | ⟨e0, e⟩ <;> subst e0 <;> rw [e] at g5
          · exact Option.some.inj (g5.symm.trans (C0.2.2.2.2.2.1.1.2 0 _ rfl).2)
          · exact Option.some.inj (g5.symm.trans (C0.2.2.2.2.2.1.1.2 1 _ rfl).2)
          · exact Option.some.inj (g5.symm.trans (C0.2.2.2.2.2.1.1.2 2 _ rfl).2)
        subst hcA
        have hat : va_at w.2.1 T.1 (H.size, pm_emE w (pm_new t n.toNatClampNeg)) H1 := by
          show H1[H.size]? = some (vp_cell _ _)
          rw [g1]
          rcases ht with ⟨e0, e⟩ | ⟨e0, e⟩ | ⟨e0, e⟩ <;> subst e0 <;> rw [e] <;> rfl
        obtain ⟨hH', had⟩ := hH.push hat (fun t' x' z => by cases z; rcases ht with ⟨e0, -⟩ | ⟨e0, -⟩ | ⟨e0, -⟩ <;> omega) g2 g3
        have := kk H1 locs mls hH' ⟨Nat.le_trans hS.1 (by omega), fun x h1 h2 => (g3 x (Nat.lt_of_lt_of_le h1 hS.1)).trans (hS.2.1 x h1 h2), hS.2.2⟩ hL
        rw [List.map_cons, show pm_em w (.ref hp.length) = .ref (pm_ad w hp.length) from rfl, had] at this
        exact this
    · cases hf
  · cases hf
theorem so_new {n ci N : Nat} {C : String} {Tb : u_T} {ty : Nat → FieldType} {fs : List Value} (hd : decode (pm_by G k) (pm_pc G k i) = .ok (.new n, 3)) (hc : T.1[ci]? = some (C, Tb, N)) (hin : ∀ v ∈ u_ws C Tb N, v ∈ T.2.1) (hty : ∀ x, x < N → parseFieldDescriptor (Tb x).2.2.1 = some (ty x)) (hcl : Cond.classLink (pm_nm G k).cls n C ∈ T.2.1) (hins : Cond.instantiable C N ∈ T.2.1) (hini : Cond.initialized C ∈ T.2.1) (hfs : ∀ j, j < N → defaultValue (ty j) = vp_V fs j) (hfm : ∀ w : pW, fs.map (pm_em w) = fs) (hN : fs.length = N) (hp1 : pm_pc G k (i + 1) = pm_pc G k i + 3) : pm_Sim G T k i (op_new ci fs) := by
  intro p l e R s m args below meth c w C0 hR1 hR2 H locs cells slots Q mls ls st hp s' hf
  cases hf
  have e1 : (hp ++ [Sum.inr (ci, fs)] : pH).length - hp.length = 1 := by simp
  have e2 : pm_sz (hp ++ [Sum.inr (ci, fs)]) - pm_sz hp = N := by
    rw [pm_sz_app]
    show _ + fs.length - _ = _
    omega
  refine ⟨⟨by simp, by rw [pm_sz_app]; exact Nat.le_add_right _ _⟩, fun hH hS hL hcc hs kk => ?_⟩
  dsimp only at kk hcc hs
  rw [e1] at hcc
  rw [e2] at hs
  rw [hp1, e1, e2] at kk
  have hts := C0.2.2.2.2.1
  have hKn := C0.2.2.2.2.2.1.1.1 ci _ hc
  refine W.newcK C0.1 C0.2.1 C0.2.2.2.1 (hts _ hcl) (hts _ hins) (hts _ hini) rfl hd hcc hs hKn.2.1 rfl fun H1 kC hkC g1 g2 g3 => ?_
  have hat : va_at w.2.1 T.1 (H.size, pm_emE w (.inr (ci, fs))) H1 := by
    refine ⟨_, hc, ?_⟩
    show t_OB _ _ _ _ _ (vp_V (fs.map (pm_em w)))
    rw [hfm]
    exact (u_born ty hts hin hKn hkC g1 hty).to hfs
  obtain ⟨hH', had⟩ := hH.push hat (fun t' x' z => nomatch z) g2 g3
  have := kk H1 locs mls hH' ⟨Nat.le_trans hS.1 (by omega), fun x h1 h2 => (g3 x (Nat.lt_of_lt_of_le h1 hS.1)).trans (hS.2.1 x h1 h2), hS.2.2⟩ hL
  rw [List.map_cons, show pm_em w (.ref hp.length) = .ref (pm_ad w hp.length) from rfl, had] at this
  exact this
theorem pm_cat_map (w : pW) (st : List Value) : ((st.map (pm_em w)).map fun v => v.category).sum = (st.map fun v => v.category).sum := by
  rw [List.map_map]
  congr 1
  apply List.map_congr_left
  intro v _
  exact pm_em_cat w v
theorem so_objinit {n : Nat} (hd : decode (pm_by G k) (pm_pc G k i) = .ok (.invokespecial n, 3)) (h1 : Cond.methodLink (pm_nm G k).cls n Lib.objectInit ∈ T.2.1) (h2 : Cond.instanceMethod Lib.objectInit ∈ T.2.1) (h3 : Cond.code Lib.objectInit ⟨#[0xb1]⟩ 1 none ∈ T.2.1) (hp1 : pm_pc G k (i + 1) = pm_pc G k i + 3) : pm_Sim0 G T k i op_objinit := by
  intro p l e R s m args below meth c w C0 hR1 hR2 H locs cells slots Q mls ls st hp s' hf
  unfold op_objinit at hf
  dsimp only at hf
  split at hf
  · rename_i a st'
    split at hf
    · rename_i hc
      cases hf
      refine ⟨rfl, fun hH hS hL kk => ?_⟩
      dsimp only at kk
      rw [hp1] at kk
      have hts := C0.2.2.2.2.1
      exact W.objInit C0.1 C0.2.1 C0.2.2.2.1 (hts _ h1) (hts _ h2) (hts _ h3) rfl (by rw [C0.2.2.1]; exact hL.1) rfl hd hR1 (by rw [pm_cat_map]; show 2 * 0 + _ + 12 ≤ _; omega) (kk mls hL)
    · cases hf
  · cases hf
end StepsH
end
section
/-! Calls, returns, and whole runs: the Statement's machine comes to what the pure one comes to. -/
theorem pm_ret0 {st : List Value} {v : Option Value} (h : pm_ret 0 st = some v) : st = [] ∧ v = none := by
  rcases st with _ | ⟨a, st⟩
  · exact ⟨rfl, (Option.some.inj h).symm⟩
  · simp [pm_ret] at h
theorem pm_ret1 {st : List Value} {v : Option Value} (h : pm_ret 1 st = some v) : ∃ x, st = [.int x] ∧ v = some (.int x) := by
  rcases st with _ | ⟨a, _ | ⟨b, st⟩⟩
  · simp [pm_ret] at h
  · cases a <;> simp [pm_ret] at h
    exact ⟨_, rfl, h.symm⟩
  · simp [pm_ret] at h
theorem pm_ret2 {st : List Value} {v : Option Value} (h : pm_ret 2 st = some v) : ∃ x, st = [.long x] ∧ v = some (.long x) := by
  rcases st with _ | ⟨a, _ | ⟨b, st⟩⟩
  · simp [pm_ret] at h
  · cases a <;> simp [pm_ret] at h
    exact ⟨_, rfl, h.symm⟩
  · simp [pm_ret] at h
theorem pm_ret3 {st : List Value} {v : Option Value} (h : pm_ret 3 st = some v) : ∃ x, st = [.int x] ∧ v = some (.int x) ∧ (x = 0 ∨ x = 1) := by
  rcases st with _ | ⟨a, _ | ⟨b, st⟩⟩
  · simp [pm_ret] at h
  · cases a <;> simp [pm_ret] at h
    exact ⟨_, rfl, h.2.symm, h.1⟩
  · simp [pm_ret] at h
def pm_RetOK (G : pG) (T : pT) (k i rk : Nat) : Prop :=
  ∀ (p : Program) (l : Launch) (e : Env) (R : Room) (s : State) (m : MethodId) (args : Array Value) (below : List Frame) (meth : Method) (c : Code) (w : pW), pm_Cx G T w k p m c meth s args →
  ∀ (H : Heap) (locs : List Loc) (cells slots : Nat) (Qc : Array Value → State → Outcome → State → Prop) (free : Addr → Prop) (mls : Array Slot) (st : List Value) (v : Option Value), pm_ret rk st = some v →
  (∀ t : State, t.heap = H → s.WarmedH t.vm → Qc args s (.returned (v.map (pm_em w))) t) → (∀ q ∈ locs, free q.base) →
  W p l e R s m args below meth c H locs cells slots (MQ below Qc args s cells slots free) (F0 m (pm_pc G k i) mls (st.map (pm_em w)))
section Rets
variable {G : pG} {T : pT} {k i : Nat}
theorem so_vret (hd : decode (pm_by G k) (pm_pc G k i) = .ok (.return_, 1)) (hr : pm_rt G k = none) : pm_RetOK G T k i 0 := by
  intro p l e R s m args below meth c w C H locs cells slots Qc free mls st v h hq hf
  obtain ⟨rfl, rfl⟩ := pm_ret0 h
  exact W.vret C.1 C.2.1 (C.2.2.2.2.2.2.2.1.trans hr) hq hf hd C.2.2.2.2.2.2.1
theorem so_iret (hd : decode (pm_by G k) (pm_pc G k i) = .ok (.ireturn, 1)) (hr : pm_rt G k = some .int) : pm_RetOK G T k i 1 := by
  intro p l e R s m args below meth c w C H locs cells slots Qc free mls st v h hq hf
  obtain ⟨x, rfl, rfl⟩ := pm_ret1 h
  exact W.iret C.1 C.2.1 (C.2.2.2.2.2.2.2.1.trans hr) hq hf hd C.2.2.2.2.2.2.1
theorem so_lret (hd : decode (pm_by G k) (pm_pc G k i) = .ok (.lreturn, 1)) (hr : pm_rt G k = some .long) : pm_RetOK G T k i 2 := by
  intro p l e R s m args below meth c w C H locs cells slots Qc free mls st v h hq hf
  obtain ⟨x, rfl, rfl⟩ := pm_ret2 h
  exact W.lret C.1 C.2.1 (C.2.2.2.2.2.2.2.1.trans hr) hq hf hd C.2.2.2.2.2.2.1
theorem so_zret (hd : decode (pm_by G k) (pm_pc G k i) = .ok (.ireturn, 1)) (hr : pm_rt G k = some .boolean) : pm_RetOK G T k i 3 := by
  intro p l e R s m args below meth c w C H locs cells slots Qc free mls st v h hq hf
  obtain ⟨x, rfl, rfl, hx⟩ := pm_ret3 h
  exact W.zret C.1 C.2.1 (C.2.2.2.2.2.2.2.1.trans hr) (pm_narrowZ hx).1 hq hf hd C.2.2.2.2.2.2.1
end Rets
/-- a method's words: its code, then all of the tables -/
def pm_ws (G : pG) (T : pT) (y : Nat) : List Cond := Cond.code (pm_nm G y) (pm_by G y) (pm_nL G y) (pm_rt G y) :: T.2.1
def pm_Pc (T : pT) (w : pW) (as : List Value) (hp : pH) : Array Value → State → Prop := fun a U => a = (as.map (pm_em w)).toArray ∧ pm_HR T w hp U.heap ∧ pm_K T w U
def pm_Qc (T : pT) (w : pW) (v : Option Value) (hp' : pH) : Array Value → State → Outcome → State → Prop := fun _ st o t => o = .returned (v.map (pm_em w)) ∧ pm_HR T w hp' t.heap ∧ va_F (pm_A w) st t
theorem pm_Pc_blind (T : pT) (w : pW) (as : List Value) (hp : pH) : FrameBlind (pm_Pc T w as hp) := by
  intro a U g mk h
  obtain ⟨h1, h2, h3, h4, h5, h6⟩ := h
  exact ⟨h1, h2, va_K.moved (u := U) (U := U.calling g mk a) (Vm.Alike.refl U.vm) h3, fun q hq => va_Nw.same rfl rfl (h4 q hq), va_X.moved (Vm.Alike.refl U.vm) h5, h6⟩
theorem pm_K_to {T : pT} {w : pW} {s U : State} {H : Heap} {locs : List Loc} (h : pm_K T w s) (hS : va_S (pm_A w) s.heap H locs) (hU : U.heap = H) (hW : s.WarmedH U.vm) : pm_K T w U := by
  obtain ⟨h3, h4, h5, h6, h7⟩ := h
  refine ⟨h3.moved hW.alike, fun q hq => va_Nw.warmM hW (h4 q hq), ?_, h6, by rw [hU]; exact Nat.le_trans h7 hS.1⟩
  rw [hU]
  exact (h5.kept (hS.2.1 _ (Nat.lt_of_lt_of_le h6 h7) (Nat.not_le.mpr h6))).moved hW.alike
theorem pm_push_eq {rk : Nat} {v : Option Value} {rest st : List Value} (h : pm_push rk v rest = some st) : st = v.toList ++ rest := by
  unfold pm_push at h
  split at h <;> first | (cases h; rfl) | cases h
theorem pm_args_eq {n : Nat} {st as rest : List Value} (h : pm_args n st = some (as, rest)) : st = as.reverse ++ rest ∧ as.length = n := by
  unfold pm_args at h
  split at h
  · rename_i hn
    cases h
    refine ⟨by rw [List.reverse_reverse, List.take_append_drop], ?_⟩
    rw [List.length_reverse, List.length_take]
    omega
  · cases h
theorem pm_may_spec {c : pC} {nL : Nat} {as rest : List Value} {hp : pH} (h : pm_may c nL as rest hp = true) : (rest.map fun v => v.category).sum ≤ 8 ∧ (pm_ent as).length ≤ nL ∧ pm_rcv c.2.2.2 as hp = true := by
  unfold pm_may at h
  simp only [Bool.and_eq_true, decide_eq_true_eq] at h
  exact h
/-- behind a call -/
theorem pm_after {T : pT} {w : pW} {p : Program} {l : Launch} {e : Env} {R : Room} {s : State} {m : MethodId} {args : Array Value} {below : List Frame} {meth : Method} {c : Code} {H : Heap} {locs : List Loc} {cells slots mc ms pc : Nat} {Q : State → Prop} {mls : Array Slot} {st0 rest st' : List Value} {v : Option Value} {hp' : pH} {a : Array Value} {rk : Nat}
    (hr : va_Run p l e R s m args below meth c H locs cells slots mc ms (F0 m pc mls st0) (rest.map (pm_em w)) (pm_Qc T w v hp' a) (pm_A w)) (hpu : pm_push rk v rest = some st') (hS : va_S (pm_A w) s.heap H locs)
    (kk : ∀ (H' : Heap) (locs' : List Loc), pm_HR T w hp' H' → va_S (pm_A w) s.heap H' locs' → W p l e R s m args below meth c H' locs' (cells + mc) (slots + ms) Q (F0 m (pc + 3) mls (st'.map (pm_em w)))) : W p l e R s m args below meth c H locs cells slots Q (F0 m pc mls st0) := by
  intro T0 hT X
  obtain ⟨v', s0, t, T', L, h0, X', hL, e1, e2, ⟨hq1, hq2, hz, hk⟩, stp⟩ := hr T0 hT X
  cases hq1
  rw [h0] at hz hk
  have hS' : va_S (pm_A w) s.heap T'.heap (locs ++ L) := by
    refine ⟨Nat.le_trans hS.1 (by rw [e1]; exact hz), fun q h1 h2 => by rw [e1, hk q (Nat.lt_of_lt_of_le h1 hS.1) h2]; exact hS.2.1 q h1 h2, fun q hq => ?_⟩
    rcases List.mem_append.mp hq with h | h
    · exact hS.2.2 q h
    · exact hL q h
  obtain ⟨t2, a1, b1⟩ := kk T'.heap (locs ++ L) (by rw [e1]; exact hq2) hS' T' rfl X'
  refine ⟨t2, stp t2 ?_, b1⟩
  have e3 := pm_push_eq hpu
  subst e3
  rw [List.map_append] at a1
  cases v <;> exact a1
def pm_CallOK (G : pG) (T : pT) (k i : Nat) (c : pC) : Prop :=
  ∀ (p : Program) (l : Launch) (e : Env) (R : Room) (s : State) (m : MethodId) (args : Array Value) (below : List Frame) (meth : Method) (c0 : Code) (w : pW), pm_Cx G T w k p m c0 meth s args → R.frames = pm_fr G k → R.locals = pm_lo G k →
  ∀ (H : Heap) (locs : List Loc) (cells slots mc ms : Nat) (Q : State → Prop) (mls : Array Slot) (ls : List pO) (st as rest st' : List Value) (hp hp' : pH) (v : Option Value), pm_args c.2.1 st = some (as, rest) → pm_may c (pm_nL G c.1) as rest hp = true → pm_push c.2.2.1 v rest = some st' →
  pm_HR T w hp H → va_S (pm_A w) s.heap H locs → pm_LR w (pm_nL G k) mls ls →
  Met l (pm_nm G c.1) (pm_ws G T c.1) { frames := pm_fr G c.1, cells := mc, slots := ms, locals := pm_lo G c.1 } (pm_Pc T w as hp) (pm_Qc T w v hp') mc ms (pm_A w) → cells + mc ≤ R.cells → slots + ms ≤ R.slots →
  (∀ (H' : Heap) (locs' : List Loc), pm_HR T w hp' H' → va_S (pm_A w) s.heap H' locs' → W p l e R s m args below meth c0 H' locs' (cells + mc) (slots + ms) Q (F0 m (pm_pc G k (i + 1)) mls (st'.map (pm_em w)))) →
  W p l e R s m args below meth c0 H locs cells slots Q (F0 m (pm_pc G k i) mls (st.map (pm_em w)))
/-- all words of the tables are good ones -/
def pm_good (T : pT) : Prop := ∀ v ∈ T.2.1, goodWord v = true
theorem pm_goodIn {T : pT} (hg : pm_good T) {ws : List Cond} (h : ∀ v ∈ ws, v ∈ T.2.1) : GoodIn T.2.1 ws := fun v hv => ⟨h v hv, good_of_word (hg v (h v hv))⟩
theorem pm_goodWs {G : pG} {T : pT} (hg : pm_good T) {y : Nat} (hc : Cond.code (pm_nm G y) (pm_by G y) (pm_nL G y) (pm_rt G y) ∈ T.2.1) : GoodIn T.2.1 (pm_ws G T y) := by
  refine pm_goodIn hg fun v hv => ?_
  rcases List.mem_cons.mp hv with rfl | h
  · exact hc
  · exact h
section CallsK
variable {G : pG} {T : pT} {k i : Nat}
theorem so_callS {n y na rk : Nat} (hg : pm_good T) (hd : decode (pm_by G k) (pm_pc G k i) = .ok (.invokestatic n, 3)) (hc : Cond.code (pm_nm G y) (pm_by G y) (pm_nL G y) (pm_rt G y) ∈ T.2.1) (h1 : Cond.methodLink (pm_nm G k).cls n (pm_nm G y) ∈ T.2.1) (h2 : Cond.static (pm_nm G y) ∈ T.2.1) (h3 : Cond.initialized (pm_nm G y).cls ∈ T.2.1)
    (hy : (pm_nm G y).cls ≠ "java/lang/invoke/MethodHandle" ∧ (pm_nm G y).cls ≠ "java/lang/invoke/VarHandle" ∧ (parseMethodDescriptor (pm_nm G y).desc).map (fun d => d.parameters.length) = some na) (hR : pm_fr G y + 1 ≤ pm_fr G k ∧ 8 + (pm_nL G y + 11) + pm_lo G y ≤ pm_lo G k) (hp1 : pm_pc G k (i + 1) = pm_pc G k i + 3) : pm_CallOK G T k i (y, na, rk, 0) := by
  intro p l e R s m args below meth c0 w C hf hlo H locs cells slots mc ms Q mls ls st as rest st' hp hp' v ha hm hpu hH hS hL hM hcc hss kk
  dsimp only at ha hm hpu hM
  obtain ⟨rfl, hn⟩ := pm_args_eq ha
  have hcat := (pm_may_spec hm).1
  rw [hp1] at kk
  have hT : GoodIn T.2.1 (va_wsS (pm_nm G k).cls n (pm_nm G y) (pm_ws G T y)) := by
    refine pm_goodIn hg fun v hv => ?_
    unfold va_wsS at hv
    rcases List.mem_append.mp hv with h | h
    · simp only [List.mem_cons, List.not_mem_nil, or_false] at h
      rcases h with rfl | rfl | rfl
      · exact h1
      · exact h2
      · exact h3
    · exact (pm_goodWs hg hc v h).1
  refine pm_after (va_runS (As := as.map (pm_em w)) ⟨C.1, C.2.1, C.2.2.1, C.2.2.2.1, C.2.2.2.2.1⟩ hM (va_cwS na C.2.2.2.2.1 hT rfl rfl rfl hy ⟨by rw [hf]; exact hR.1, by rw [hlo]; exact hR.2⟩) ⟨pm_Pc_blind T w as hp, fun U hU hW => ⟨rfl, by rw [hU]; exact hH, pm_K_to C.2.2.2.2.2.1 hS hU hW⟩⟩ rfl (by rw [List.length_map]; exact hn) hL.1 ?_ (lv_room (by rw [pm_cat_map]; exact hcat)) hd ⟨hcc, hss⟩) hpu hS kk
  show (as.reverse ++ rest).map (pm_em w) = _
  rw [List.map_append, List.map_reverse]
theorem so_callSN {n y na rk : Nat} {host : String} (hg : pm_good T) (hd : decode (pm_by G k) (pm_pc G k i) = .ok (.invokestatic n, 3)) (hc : Cond.code (pm_nm G y) (pm_by G y) (pm_nL G y) (pm_rt G y) ∈ T.2.1) (h1 : ((pm_nm G k).cls, n, pm_nm G y, host) ∈ T.2.2) (h2 : Cond.static (pm_nm G y) ∈ T.2.1) (h3 : Cond.initialized (pm_nm G y).cls ∈ T.2.1)
    (hy : (pm_nm G y).cls ≠ "java/lang/invoke/MethodHandle" ∧ (pm_nm G y).cls ≠ "java/lang/invoke/VarHandle" ∧ (parseMethodDescriptor (pm_nm G y).desc).map (fun d => d.parameters.length) = some na) (hR : pm_fr G y + 1 ≤ pm_fr G k ∧ 8 + (pm_nL G y + 11) + pm_lo G y ≤ pm_lo G k) (hp1 : pm_pc G k (i + 1) = pm_pc G k i + 3) : pm_CallOK G T k i (y, na, rk, 0) := by
  intro p l e R s m args below meth c0 w C hf hlo H locs cells slots mc ms Q mls ls st as rest st' hp hp' v ha hm hpu hH hS hL hM hcc hss kk
  dsimp only at ha hm hpu hM
  obtain ⟨rfl, hn⟩ := pm_args_eq ha
  have hcat := (pm_may_spec hm).1
  rw [hp1] at kk
  refine pm_after (va_runSN (host := host) (As := as.map (pm_em w)) ⟨C.1, C.2.1, C.2.2.1, C.2.2.2.1, C.2.2.2.2.1⟩ hM ⟨va_cnB na C.2.2.2.2.1 (pm_goodWs hg hc) rfl rfl rfl (C.2.2.2.2.2.1.2.1 _ h1) (C.2.2.2.2.1 _ h3) hy ⟨by rw [hf]; exact hR.1, by rw [hlo]; exact hR.2⟩, C.2.2.2.2.1 _ h2, trivial⟩ ⟨pm_Pc_blind T w as hp, fun U hU hW => ⟨rfl, by rw [hU]; exact hH, pm_K_to C.2.2.2.2.2.1 hS hU hW⟩⟩ rfl (by rw [List.length_map]; exact hn) hL.1 ?_ (lv_room (by rw [pm_cat_map]; exact hcat)) hd ⟨hcc, hss⟩) hpu hS kk
  show (as.reverse ++ rest).map (pm_em w) = _
  rw [List.map_append, List.map_reverse]
theorem so_callI {n y na rk : Nat} (hg : pm_good T) (hd : decode (pm_by G k) (pm_pc G k i) = .ok (.invokespecial n, 3)) (hc : Cond.code (pm_nm G y) (pm_by G y) (pm_nL G y) (pm_rt G y) ∈ T.2.1) (hrt : pm_rt G y = none) (hini : (pm_nm G y).name = "<init>") (h1 : Cond.methodLink (pm_nm G k).cls n (pm_nm G y) ∈ T.2.1) (h2 : Cond.instanceMethod (pm_nm G y) ∈ T.2.1) (h3 : Cond.initialized (pm_nm G y).cls ∈ T.2.1) {ci N : Nat} {C9 : String} {Tb : u_T} (hcl : T.1[ci]? = some (C9, Tb, N))
    (hy : (pm_nm G y).cls ≠ "java/lang/invoke/MethodHandle" ∧ (pm_nm G y).cls ≠ "java/lang/invoke/VarHandle" ∧ (parseMethodDescriptor (pm_nm G y).desc).map (fun d => d.parameters.length) = some na) (hR : pm_fr G y + 1 ≤ pm_fr G k ∧ 8 + (pm_nL G y + 11) + pm_lo G y ≤ pm_lo G k) (hp1 : pm_pc G k (i + 1) = pm_pc G k i + 3) : pm_CallOK G T k i (y, na + 1, rk, ci + 1) := by
  intro p l e R s m args below meth c0 w C hf hlo H locs cells slots mc ms Q mls ls st as rest st' hp hp' v ha hm hpu hH hS hL hM hcc hss kk
  dsimp only at ha hm hpu hM
  obtain ⟨rfl, hn⟩ := pm_args_eq ha
  obtain ⟨hcat, -, hrc⟩ := pm_may_spec hm
  rw [hp1] at kk
  match as, hn, hrc, hM with
  | .ref b :: As, hn, hrc, hM =>
    refine pm_after (va_runI (As := As.map (pm_em w)) (b := pm_ad w b) ⟨C.1, C.2.1, C.2.2.1, C.2.2.2.1, C.2.2.2.2.1⟩ hM (cwI na C.2.2.2.2.1 (pm_goodWs hg hc) (by rw [← hrt]; rfl) rfl rfl (C.2.2.2.2.1 _ h3) (C.2.2.2.2.1 _ h1) (C.2.2.2.2.1 _ h2) hini hy ⟨by rw [hf]; exact hR.1, by rw [hlo]; exact hR.2⟩) ⟨pm_Pc_blind T w _ hp, fun U hU hW => ⟨rfl, by rw [hU]; exact hH, pm_K_to C.2.2.2.2.2.1 hS hU hW⟩⟩ rfl (by rw [List.length_map]; simpa using hn) hL.1 ?_ (lv_room (by rw [pm_cat_map]; exact hcat)) hd ⟨hcc, hss⟩) hpu hS kk
    show ((Value.ref b :: As).reverse ++ rest).map (pm_em w) = _
    rw [List.map_append, List.map_reverse, List.map_cons, List.reverse_cons, List.append_assoc]
    rfl
theorem so_callV {n y na rk : Nat} (hg : pm_good T) (hd : decode (pm_by G k) (pm_pc G k i) = .ok (.invokevirtual n, 3)) (hc : Cond.code (pm_nm G y) (pm_by G y) (pm_nL G y) (pm_rt G y) ∈ T.2.1) (h1 : Cond.methodLink (pm_nm G k).cls n (pm_nm G y) ∈ T.2.1) (h2 : Cond.instanceMethod (pm_nm G y) ∈ T.2.1) (h3 : Cond.initialized (pm_nm G y).cls ∈ T.2.1) (h4 : Cond.selects (pm_nm G y).cls (pm_nm G y) (pm_nm G y) ∈ T.2.1) {ci N : Nat} {Tb : u_T} (hcl : T.1[ci]? = some ((pm_nm G y).cls, Tb, N))
    (hy : (pm_nm G y).cls ≠ "java/lang/invoke/MethodHandle" ∧ (pm_nm G y).cls ≠ "java/lang/invoke/VarHandle" ∧ (parseMethodDescriptor (pm_nm G y).desc).map (fun d => d.parameters.length) = some na) (hR : pm_fr G y + 1 ≤ pm_fr G k ∧ 8 + (pm_nL G y + 11) + pm_lo G y ≤ pm_lo G k) (hp1 : pm_pc G k (i + 1) = pm_pc G k i + 3) : pm_CallOK G T k i (y, na + 1, rk, ci + 1) := by
  intro p l e R s m args below meth c0 w C hf hlo H locs cells slots mc ms Q mls ls st as rest st' hp hp' v ha hm hpu hH hS hL hM hcc hss kk
  dsimp only at ha hm hpu hM
  obtain ⟨rfl, hn⟩ := pm_args_eq ha
  obtain ⟨hcat, -, hrc⟩ := pm_may_spec hm
  rw [hp1] at kk
  have hT : GoodIn T.2.1 (wsV (pm_nm G k).cls n (pm_nm G y).cls (pm_nm G y) (pm_ws G T y)) := by
    refine pm_goodIn hg fun v hv => ?_
    unfold wsV at hv
    rcases List.mem_append.mp hv with h | h
    · simp only [List.mem_cons, List.not_mem_nil, or_false] at h
      rcases h with rfl | rfl | rfl | rfl
      · exact h1
      · exact h2
      · exact h4
      · exact h3
    · exact (pm_goodWs hg hc v h).1
  match as, hn, hrc, hM with
  | .ref b :: As, hn, hrc, hM =>
    unfold pm_rcv at hrc
    dsimp only at hrc
    split at hrc
    · rename_i c' fs hb
      have hcc' : c' = ci := by simpa using hrc
      subst hcc'
      obtain ⟨q, rfl, hat⟩ := hH.at hb
      refine pm_after (va_runV (As := As.map (pm_em w)) (b := w.1.2.1 + q) ⟨C.1, C.2.1, C.2.2.1, C.2.2.2.1, C.2.2.2.2.1⟩ hM (cwV na C.2.2.2.2.1 hT rfl rfl rfl ⟨rfl, hy⟩ ⟨by rw [hf]; exact hR.1, by rw [hlo]; exact hR.2⟩) ⟨pm_Pc_blind T w _ hp, va_recv C.2.2.2.2.2.1.1 (pm_P1 hat) hcl (q0 := 0) rfl, fun U hU hW => ⟨rfl, by rw [hU]; exact hH, pm_K_to C.2.2.2.2.2.1 hS hU hW⟩⟩ rfl (by rw [List.length_map]; simpa using hn) hL.1 ?_ (lv_room (by rw [pm_cat_map]; exact hcat)) hd ⟨hcc, hss⟩) hpu hS kk
      show ((Value.ref (q + 1) :: As).reverse ++ rest).map (pm_em w) = _
      rw [List.map_append, List.map_reverse, List.map_cons, List.reverse_cons, List.append_assoc]
      rfl
    · cases hrc
end CallsK
end
section
/-! What a step does to the heap's size; whole runs. -/
def pm_Mono (f : pS → Option pS) : Prop := ∀ s s' : pS, f s = some s' → s.2.2.2.length ≤ s'.2.2.2.length ∧ pm_sz s.2.2.2 ≤ pm_sz s'.2.2.2
section Monos
variable {a b : Nat} {x : Int32} {y : Int64} {f : Int32 → Int32 → Int32} {g : Int64 → Int64 → Int64} {c1 : Int32 → Bool} {c2 : Int32 → Int32 → Bool} {sl : List (Int32 × Nat)}
theorem mo_iload : pm_Mono (op_iload a) := by
  intro s s' h
  unfold op_iload at h
  (repeat' split at h) <;> first | (cases h; exact ⟨Nat.le_refl _, Nat.le_refl _⟩) | cases h
theorem mo_lload : pm_Mono (op_lload a) := by
  intro s s' h
  unfold op_lload at h
  (repeat' split at h) <;> first | (cases h; exact ⟨Nat.le_refl _, Nat.le_refl _⟩) | cases h
theorem mo_aload : pm_Mono (op_aload a) := by
  intro s s' h
  unfold op_aload at h
  (repeat' split at h) <;> first | (cases h; exact ⟨Nat.le_refl _, Nat.le_refl _⟩) | cases h
theorem mo_istore : pm_Mono (op_istore a) := by
  intro s s' h
  unfold op_istore at h
  (repeat' split at h) <;> first | (cases h; exact ⟨Nat.le_refl _, Nat.le_refl _⟩) | cases h
theorem mo_lstore : pm_Mono (op_lstore a) := by
  intro s s' h
  unfold op_lstore at h
  (repeat' split at h) <;> first | (cases h; exact ⟨Nat.le_refl _, Nat.le_refl _⟩) | cases h
theorem mo_astore : pm_Mono (op_astore a) := by
  intro s s' h
  unfold op_astore at h
  (repeat' split at h) <;> first | (cases h; exact ⟨Nat.le_refl _, Nat.le_refl _⟩) | cases h
theorem mo_ic : pm_Mono (op_ic x) := by
  intro s s' h
  unfold op_ic at h
  (repeat' split at h) <;> first | (cases h; exact ⟨Nat.le_refl _, Nat.le_refl _⟩) | cases h
theorem mo_lc : pm_Mono (op_lc y) := by
  intro s s' h
  unfold op_lc at h
  (repeat' split at h) <;> first | (cases h; exact ⟨Nat.le_refl _, Nat.le_refl _⟩) | cases h
theorem mo_iinc : pm_Mono (op_iinc a x) := by
  intro s s' h
  unfold op_iinc at h
  (repeat' split at h) <;> first | (cases h; exact ⟨Nat.le_refl _, Nat.le_refl _⟩) | cases h
theorem mo_bin : pm_Mono (op_bin f) := by
  intro s s' h
  unfold op_bin at h
  (repeat' split at h) <;> first | (cases h; exact ⟨Nat.le_refl _, Nat.le_refl _⟩) | cases h
theorem mo_div : pm_Mono (op_div f) := by
  intro s s' h
  unfold op_div at h
  (repeat' split at h) <;> first | (cases h; exact ⟨Nat.le_refl _, Nat.le_refl _⟩) | cases h
theorem mo_lbin : pm_Mono (op_lbin g) := by
  intro s s' h
  unfold op_lbin at h
  (repeat' split at h) <;> first | (cases h; exact ⟨Nat.le_refl _, Nat.le_refl _⟩) | cases h
theorem mo_ldiv : pm_Mono (op_ldiv g) := by
  intro s s' h
  unfold op_ldiv at h
  (repeat' split at h) <;> first | (cases h; exact ⟨Nat.le_refl _, Nat.le_refl _⟩) | cases h
theorem mo_i2l : pm_Mono (op_i2l) := by
  intro s s' h
  unfold op_i2l at h
  (repeat' split at h) <;> first | (cases h; exact ⟨Nat.le_refl _, Nat.le_refl _⟩) | cases h
theorem mo_l2i : pm_Mono (op_l2i) := by
  intro s s' h
  unfold op_l2i at h
  (repeat' split at h) <;> first | (cases h; exact ⟨Nat.le_refl _, Nat.le_refl _⟩) | cases h
theorem mo_lcmp : pm_Mono (op_lcmp) := by
  intro s s' h
  unfold op_lcmp at h
  (repeat' split at h) <;> first | (cases h; exact ⟨Nat.le_refl _, Nat.le_refl _⟩) | cases h
theorem mo_dup : pm_Mono (op_dup) := by
  intro s s' h
  unfold op_dup at h
  (repeat' split at h) <;> first | (cases h; exact ⟨Nat.le_refl _, Nat.le_refl _⟩) | cases h
theorem mo_dup2 : pm_Mono (op_dup2) := by
  intro s s' h
  unfold op_dup2 at h
  (repeat' split at h) <;> first | (cases h; exact ⟨Nat.le_refl _, Nat.le_refl _⟩) | cases h
theorem mo_pop : pm_Mono (op_pop) := by
  intro s s' h
  unfold op_pop at h
  (repeat' split at h) <;> first | (cases h; exact ⟨Nat.le_refl _, Nat.le_refl _⟩) | cases h
theorem mo_goto : pm_Mono (op_goto a) := by
  intro s s' h
  unfold op_goto at h
  (repeat' split at h) <;> first | (cases h; exact ⟨Nat.le_refl _, Nat.le_refl _⟩) | cases h
theorem mo_if : pm_Mono (op_if c1 a) := by
  intro s s' h
  unfold op_if at h
  (repeat' split at h) <;> first | (cases h; exact ⟨Nat.le_refl _, Nat.le_refl _⟩) | cases h
theorem mo_icmp : pm_Mono (op_icmp c2 a) := by
  intro s s' h
  unfold op_icmp at h
  (repeat' split at h) <;> first | (cases h; exact ⟨Nat.le_refl _, Nat.le_refl _⟩) | cases h
theorem mo_sw : pm_Mono (op_sw a sl) := by
  intro s s' h
  unfold op_sw at h
  (repeat' split at h) <;> first | (cases h; exact ⟨Nat.le_refl _, Nat.le_refl _⟩) | cases h
theorem mo_getI : pm_Mono (op_getI a b) := by
  intro s s' h
  unfold op_getI at h
  (repeat' split at h) <;> first | (cases h; exact ⟨Nat.le_refl _, Nat.le_refl _⟩) | cases h
theorem mo_getA : pm_Mono (op_getA a b) := by
  intro s s' h
  unfold op_getA at h
  (repeat' split at h) <;> first | (cases h; exact ⟨Nat.le_refl _, Nat.le_refl _⟩) | cases h
theorem mo_iald : pm_Mono (op_iald a) := by
  intro s s' h
  unfold op_iald at h
  (repeat' split at h) <;> first | (cases h; exact ⟨Nat.le_refl _, Nat.le_refl _⟩) | cases h
theorem mo_lald : pm_Mono (op_lald) := by
  intro s s' h
  unfold op_lald at h
  (repeat' split at h) <;> first | (cases h; exact ⟨Nat.le_refl _, Nat.le_refl _⟩) | cases h
theorem mo_alen : pm_Mono (op_alen a) := by
  intro s s' h
  unfold op_alen at h
  (repeat' split at h) <;> first | (cases h; exact ⟨Nat.le_refl _, Nat.le_refl _⟩) | cases h
theorem mo_objinit : pm_Mono (op_objinit) := by
  intro s s' h
  unfold op_objinit at h
  (repeat' split at h) <;> first | (cases h; exact ⟨Nat.le_refl _, Nat.le_refl _⟩) | cases h
theorem mo_max : pm_Mono (op_max) := by
  intro s s' h
  unfold op_max at h
  (repeat' split at h) <;> first | (cases h; exact ⟨Nat.le_refl _, Nat.le_refl _⟩) | cases h
theorem mo_putI : pm_Mono (op_putI a b) := by
  intro s s' h
  unfold op_putI at h
  split at h
  · split at h
    · rename_i ha
      split at h
      · cases h
        exact ⟨Nat.le_of_eq List.length_set.symm, Nat.le_of_eq (pm_sz_set _ _ _ _ ha (by simp [pm_esz])).symm⟩
      · cases h
    · cases h
  · cases h
theorem mo_putZ : pm_Mono (op_putZ a b) := by
  intro s s' h
  unfold op_putZ at h
  split at h
  · split at h
    · rename_i ha
      split at h
      · cases h
        exact ⟨Nat.le_of_eq List.length_set.symm, Nat.le_of_eq (pm_sz_set _ _ _ _ ha (by simp [pm_esz])).symm⟩
      · cases h
    · cases h
  · cases h
theorem mo_putA : pm_Mono (op_putA a b) := by
  intro s s' h
  unfold op_putA at h
  split at h
  · split at h
    · rename_i ha
      split at h
      · cases h
        exact ⟨Nat.le_of_eq List.length_set.symm, Nat.le_of_eq (pm_sz_set _ _ _ _ ha (by simp [pm_esz])).symm⟩
      · cases h
    · cases h
  · cases h
theorem mo_iast : pm_Mono (op_iast) := by
  intro s s' h
  unfold op_iast at h
  split at h
  · split at h
    · rename_i ha
      split at h
      · cases h
        refine ⟨Nat.le_of_eq List.length_set.symm, Nat.le_of_eq (Eq.symm ?_)⟩
        exact pm_sz_set _ _ _ _ ha rfl
      · cases h
    · cases h
  · cases h
theorem mo_zast : pm_Mono (op_zast) := by
  intro s s' h
  unfold op_zast at h
  split at h
  · split at h
    · rename_i ha
      split at h
      · cases h
        refine ⟨Nat.le_of_eq List.length_set.symm, Nat.le_of_eq (Eq.symm ?_)⟩
        exact pm_sz_set _ _ _ _ ha rfl
      · cases h
    · cases h
  · cases h
theorem mo_last : pm_Mono (op_last) := by
  intro s s' h
  unfold op_last at h
  split at h
  · split at h
    · rename_i ha
      split at h
      · cases h
        refine ⟨Nat.le_of_eq List.length_set.symm, Nat.le_of_eq (Eq.symm ?_)⟩
        exact pm_sz_set _ _ _ _ ha rfl
      · cases h
    · cases h
  · cases h
theorem mo_newa : pm_Mono (op_newa a) := by
  intro s s' h
  unfold op_newa at h
  split at h
  · split at h
    · cases h
      exact ⟨by simp, by rw [pm_sz_app]; exact Nat.le_add_right _ _⟩
    · cases h
  · cases h
theorem mo_new {fs : List Value} : pm_Mono (op_new a fs) := by
  intro s s' h
  unfold op_new at h
  cases h
  exact ⟨by simp, by rw [pm_sz_app]; exact Nat.le_add_right _ _⟩
end Monos
section Steps9
variable {G : pG} {T : pT} {k i : Nat}
theorem so_max {n : Nat} (hd : decode (pm_by G k) (pm_pc G k i) = .ok (.invokestatic n, 3)) (h1 : Cond.methodLink (pm_nm G k).cls n Lib.Math.max.name ∈ T.2.1) (h2 : Cond.static Lib.Math.max.name ∈ T.2.1) (h3 : Cond.initialized "java/lang/Math" ∈ T.2.1) (h4 : Cond.code Lib.Math.max.name Lib.Math.max.code 2 (some .int) ∈ T.2.1) (hp1 : pm_pc G k (i + 1) = pm_pc G k i + 3) : pm_Sim G T k i op_max := by
  intro p l e R s m args below meth c w C0 hR1 hR2 H locs cells slots Q mls ls st hp s' hf
  unfold op_max at hf
  dsimp only at hf
  split at hf
  · rename_i y x st'
    split at hf
    · rename_i hc
      cases hf
      refine ⟨⟨Nat.le_refl _, Nat.le_refl _⟩, fun hH hS hL hcc hss kk => ?_⟩
      dsimp only at kk hcc hss
      rw [Nat.sub_self, Nat.add_zero] at hcc hss
      rw [hp1, Nat.sub_self, Nat.sub_self] at kk
      have hts := C0.2.2.2.2.1
      exact va_mmax C0.1 C0.2.1 (by rw [C0.2.2.1]; exact hL.1.symm) C0.2.2.2.1 (hts _ h1) (hts _ h2) (hts _ h3) (hts _ h4) hR1 (by rw [pm_cat_map]; omega) hcc hss hd (kk H locs mls hH hS hL)
    · cases hf
  · cases hf
theorem pm_sw_not {d : Nat} : ∀ {l : List (Int32 × Nat)} {x : Int32}, (∀ q ∈ l, ¬ x = q.1) → pm_sw d l x = d
  | [], _, _ => rfl
  | q :: l, x, h => by
    unfold pm_sw
    rw [if_neg (h q List.mem_cons_self)]
    exact pm_sw_not fun q' hq' => h q' (List.mem_cons_of_mem _ hq')
theorem so_tsw {dflt lo hi : Int} {offs : Array Int} {len d : Nat} {l : List (Int32 × Nat)} (hd : decode (pm_by G k) (pm_pc G k i) = .ok (.tableswitch dflt lo hi offs, len)) (hD : (pm_pc G k i : Int) + dflt = (pm_pc G k d : Int)) (hk : l.all (fun q => decide (lo ≤ q.1.toInt) && decide (q.1.toInt ≤ hi)) = true)
    (hj : (List.range offs.size).all (fun j => decide ((pm_pc G k i : Int) + offs.getD j 0 = (pm_pc G k (pm_sw d l (Int32.ofInt (lo + (j : Int)))) : Int))) = true) (hsz : (offs.size : Int) = hi - lo + 1) : pm_Sim0 G T k i (op_sw d l) := by
  intro p l' e R s m args below meth c w C0 hR1 hR2 H locs cells slots Q mls ls st hp s' hf
  unfold op_sw at hf
  dsimp only at hf
  split at hf
  · rename_i x st'
    cases hf
    refine ⟨rfl, fun hH hS hL kk => ?_⟩
    dsimp only at kk
    by_cases hout : x.toInt < lo ∨ hi < x.toInt
    · have hn : pm_sw d l x = d := pm_sw_not fun q hq hx => by
        have := List.all_eq_true.mp hk q hq
        simp only [Bool.and_eq_true, decide_eq_true_eq] at this
        subst hx
        omega
      rw [hn] at kk
      exact lv_tableOut C0.1 C0.2.1 hd hout hD (kk mls hL)
    · have h1 : ¬ x.toInt < lo := fun z => hout (Or.inl z)
      have h2 : ¬ hi < x.toInt := fun z => hout (Or.inr z)
      have hlt : (x.toInt - lo).toNat < offs.size := by omega
      have hjj := of_decide_eq_true (List.all_eq_true.mp hj _ (List.mem_range.mpr hlt))
      rw [show lo + (((x.toInt - lo).toNat : Nat) : Int) = x.toInt by omega, Int32.ofInt_toInt] at hjj
      refine lv_tableIn C0.1 C0.2.1 hd h1 h2 ?_ hjj (kk mls hL)
      rw [Array.getD_eq_getD_getElem?, Array.getElem?_eq_getElem hlt]
      rfl
  · cases hf
theorem pm_lsw {a : Int} {P : Nat → Int} {d : Nat} {dflt : Int} (hD : a + dflt = P d) : ∀ (ps : List (Int × Int)) (l : List (Int32 × Nat)), (ps.length = l.length ∧ (ps.zip l).all (fun q => decide (q.1.1 = q.2.1.toInt) && decide (a + q.1.2 = P q.2.2)) = true) → ∀ x : Int32, a + Op.lookupswitch.offset ps dflt x.toInt = P (pm_sw d l x)
  | [], [], _, _ => hD
  | [], _ :: _, h, _ => by simp at h
  | _ :: _, [], h, _ => by simp at h
  | (m, o) :: ps, (kx, t) :: l, h, x => by
    obtain ⟨h1, h2⟩ := h
    rw [List.zip_cons_cons, List.all_cons] at h2
    simp only [Bool.and_eq_true, decide_eq_true_eq] at h2
    obtain ⟨⟨h3, h4⟩, h5⟩ := h2
    rw [Op.lookupswitch.offset_cons]
    unfold pm_sw
    dsimp only
    by_cases hx : x = kx
    · rw [if_pos hx, if_pos (by rw [h3, hx])]
      exact h4
    · rw [if_neg hx, if_neg (fun z => hx (Int32.toInt_inj.mp (by rw [← z, h3])))]
      exact pm_lsw hD ps l ⟨by simpa using h1, by simpa using h5⟩ x
theorem so_lsw {dflt : Int} {ps : Array (Int × Int)} {len d : Nat} {l : List (Int32 × Nat)} (hd : decode (pm_by G k) (pm_pc G k i) = .ok (.lookupswitch dflt ps, len)) (hp : (ps.toList.zip (ps.toList.drop 1)).all (fun (a, next) => a.1 < next.1) = true) (hD : (pm_pc G k i : Int) + dflt = (pm_pc G k d : Int)) (hl : ps.toList.length = l.length ∧ (ps.toList.zip l).all (fun q => decide (q.1.1 = q.2.1.toInt) && decide ((pm_pc G k i : Int) + q.1.2 = (pm_pc G k q.2.2 : Int))) = true) : pm_Sim0 G T k i (op_sw d l) := by
  intro p l' e R s m args below meth c w C0 hR1 hR2 H locs cells slots Q mls ls st hp' s' hf
  unfold op_sw at hf
  dsimp only at hf
  split at hf
  · rename_i x st'
    cases hf
    refine ⟨rfl, fun hH hS hL kk => ?_⟩
    dsimp only at kk
    exact lv_lookup C0.1 C0.2.1 hd hp rfl (pm_lsw (P := fun j => (pm_pc G k j : Int)) hD _ l hl x) (kk mls hL)
  · cases hf
end Steps9
def pm_MF (G : pG) (y : Nat) : Prop := plainName (pm_nm G y).cls = true ∧ pm_pc G y 0 = 0 ∧ 1 ≤ pm_fr G y ∧ 20 ≤ pm_lo G y
def pm_OK (G : pG) (T : pT) (k i : Nat) : pOp → Prop
  | .inl f => pm_Mono f ∧ pm_Sim G T k i f
  | .inr (.inl c) => pm_CallOK G T k i c ∧ pm_MF G c.1
  | .inr (.inr rk) => pm_RetOK G T k i rk
def pm_All (G : pG) (T : pT) : Prop := ∀ (k i : Nat) (o : pOp), G.1 k i = some o → pm_OK G T k i o
theorem pm_mono {G : pG} {T : pT} (hA : pm_All G T) : ∀ (n k : Nat) (s : pS) (r : pR), pm_ex G n k s = some r → s.2.2.2.length ≤ r.2.length ∧ pm_sz s.2.2.2 ≤ pm_sz r.2
  | 0, _, _, _, h => by cases h
  | n + 1, k, s, r, h => by
    have ih := pm_mono hA n
    have h : pm_go (pm_ex G n) G k s (G.1 k s.1) = some r := h
    generalize ho : G.1 k s.1 = o at h
    match o, ho, h with
    | none, _, h => cases h
    | some (.inl f), ho, h =>
      simp only [pm_go, Option.bind_eq_some_iff] at h
      obtain ⟨s', h1, h2⟩ := h
      have a1 := (hA _ _ _ ho).1 s s' h1
      have a2 := ih _ _ _ h2
      exact ⟨Nat.le_trans a1.1 a2.1, Nat.le_trans a1.2 a2.2⟩
    | some (.inr (.inl c)), _, h =>
      simp only [pm_go, Option.bind_eq_some_iff] at h
      obtain ⟨ar, h1, h2⟩ := h
      split at h2
      · simp only [Option.bind_eq_some_iff] at h2
        obtain ⟨r1, h3, st, h4, h5⟩ := h2
        have a1 := ih _ _ _ h3
        have a2 := ih _ _ _ h5
        exact ⟨Nat.le_trans a1.1 a2.1, Nat.le_trans a1.2 a2.2⟩
      · cases h2
    | some (.inr (.inr rk)), _, h =>
      simp only [pm_go, Option.map_eq_some_iff] at h
      obtain ⟨v, -, rfl⟩ := h
      exact ⟨Nat.le_refl _, Nat.le_refl _⟩
theorem pm_entry_mem (w : pW) : ∀ (as : List Value) (o j : Nat) (v : Value), (pm_ent as)[j]? = some (some v) → (o + j, pm_em w v) ∈ lv_args o (as.map (pm_em w))
  | [], _, _, _, h => by simp [pm_ent] at h
  | a :: as, o, j, v, h => by
    have two : a.category = 2 → pm_ent (a :: as) = some a :: none :: pm_ent as := by
      intro hc
      cases a <;> first | rfl | cases hc
    have one : a.category = 1 → pm_ent (a :: as) = some a :: pm_ent as := by
      intro hc
      cases a <;> first | rfl | cases hc
    show _ ∈ (o, pm_em w a) :: lv_args (if (pm_em w a).category = 2 then o + 2 else o + 1) (as.map (pm_em w))
    rw [pm_em_cat]
    rcases lv_cat a with hc | hc
    · rw [one hc] at h
      rw [if_neg (by omega)]
      match j, h with
      | 0, h => cases h; exact List.mem_cons_self
      | j + 1, h =>
        have := pm_entry_mem w as (o + 1) j v h
        rw [show o + 1 + j = o + (j + 1) by omega] at this
        exact List.mem_cons_of_mem _ this
    · rw [two hc] at h
      rw [if_pos hc]
      match j, h with
      | 0, h => cases h; exact List.mem_cons_self
      | 1, h => cases h
      | j + 2, h =>
        have := pm_entry_mem w as (o + 2) j v h
        rw [show o + 2 + j = o + (j + 2) by omega] at this
        exact List.mem_cons_of_mem _ this
theorem pm_ent_len : ∀ as : List Value, (pm_ent as).length = (lg_sl as).length
  | [] => rfl
  | a :: as => by
    have ih := pm_ent_len as
    unfold lg_sl at ih ⊢
    rw [List.flatMap_cons, List.length_append, ← ih]
    cases a <;> simp [pm_ent, Value.category] <;> omega
theorem lg_sl_em (w : pW) (as : List Value) : (lg_sl (as.map (pm_em w))).length = (lg_sl as).length := by
  rw [← pm_ent_len, ← pm_ent_len]
  induction as with
  | nil => rfl
  | cons a as ih => cases a <;> simp [pm_ent, pm_em, ih]
theorem pm_LR_entry (w : pW) {nL : Nat} {as : List Value} (h : (pm_ent as).length ≤ nL) : pm_LR w nL ((lg_sl (as.map (pm_em w)) ++ List.replicate (nL - (lg_sl (as.map (pm_em w))).length) Slot.unset).toArray) (pm_entry nL as) := by
  have hl := lv_entry (as.map (pm_em w)) (n := nL) (by rw [lg_sl_em, ← pm_ent_len]; exact h)
  refine ⟨hl.1, by unfold pm_entry; rw [List.length_append, List.length_replicate]; omega, hl.2.1, fun j v hj => ?_⟩
  unfold pm_entry at hj
  by_cases hlt : j < (pm_ent as).length
  · rw [List.getElem?_append_left hlt] at hj
    have := pm_entry_mem w as 0 j v hj
    rw [Nat.zero_add] at this
    exact hl.2.2 _ this
  · rw [List.getElem?_append_right (by omega)] at hj
    have := List.eq_of_mem_replicate (List.mem_of_getElem? hj)
    cases this
def pm_okL (G : pG) (T : pT) (k : Nat) : Nat → List pOp → Prop
  | _, [] => True
  | j, o :: os => pm_OK G T k j o ∧ pm_okL G T k (j + 1) os
theorem pm_okL_get {G : pG} {T : pT} {k : Nat} : ∀ (os : List pOp) (j : Nat), pm_okL G T k j os → ∀ (i : Nat) (o : pOp), os[i]? = some o → pm_OK G T k (j + i) o
  | [], _, _, _, _, h => by simp at h
  | q :: os, j, hA, 0, o, h => by cases h; exact hA.1
  | q :: os, j, hA, i + 1, o, h => by
    have := pm_okL_get os (j + 1) hA.2 i o h
    rwa [show j + 1 + i = j + (i + 1) by omega] at this
def pm_okC (G : pG) (T : pT) (k : Nat) : Nat → List (List pOp) → Prop
  | _, [] => True
  | c, os :: r => pm_okL G T k (16 * c) os ∧ pm_okC G T k (c + 1) r
theorem pm_okC_get {G : pG} {T : pT} {k : Nat} : ∀ (r : List (List pOp)) (c : Nat), pm_okC G T k c r → ∀ (a : Nat) (os : List pOp), r[a]? = some os → pm_okL G T k (16 * (c + a)) os
  | [], _, _, _, _, h => by simp at h
  | q :: os, c, hA, 0, o, h => by cases h; exact hA.1
  | q :: os, c, hA, a + 1, o, h => by
    have := pm_okC_get os (c + 1) hA.2 a o h
    rwa [show c + 1 + a = c + (a + 1) by omega] at this
theorem pm_okC_all {G : pG} {T : pT} {k : Nat} {r : List (List pOp)} (h : pm_okC G T k 0 r) (i : Nat) (o : pOp) (hi : lk2o r i = some o) : pm_OK G T k i o := by
  unfold lk2o at hi
  rw [List.getD_eq_getElem?_getD] at hi
  cases hr : r[i / 16]? with
  | none => rw [hr] at hi; simp at hi
  | some os =>
    rw [hr] at hi
    have := pm_okL_get os _ (pm_okC_get r 0 h _ os hr) (i % 16) o hi
    rwa [show 16 * (0 + i / 16) + i % 16 = i by omega] at this
def pm_okB (G : pG) (T : pT) : Nat → List (List (List pOp)) → Prop
  | _, [] => True
  | k, r :: ms => pm_okC G T k 0 r ∧ pm_okB G T (k + 1) ms
theorem pm_okB_get {G : pG} {T : pT} : ∀ (ms : List (List (List pOp))) (k : Nat), pm_okB G T k ms → ∀ (a : Nat) (r : List (List pOp)), ms[a]? = some r → pm_okC G T (k + a) 0 r
  | [], _, _, _, _, h => by simp at h
  | q :: os, c, hA, 0, o, h => by cases h; exact hA.1
  | q :: os, c, hA, a + 1, o, h => by
    have := pm_okB_get os (c + 1) hA.2 a o h
    rwa [show c + 1 + a = c + (a + 1) by omega] at this
def pm_okD (G : pG) (T : pT) : Nat → List (List (List (List pOp))) → Prop
  | _, [] => True
  | c, ms :: r => pm_okB G T (16 * c) ms ∧ pm_okD G T (c + 1) r
theorem pm_okD_get {G : pG} {T : pT} : ∀ (r : List (List (List (List pOp)))) (c : Nat), pm_okD G T c r → ∀ (a : Nat) (ms : List (List (List pOp))), r[a]? = some ms → pm_okB G T (16 * (c + a)) ms
  | [], _, _, _, _, h => by simp at h
  | q :: os, c, hA, 0, o, h => by cases h; exact hA.1
  | q :: os, c, hA, a + 1, o, h => by
    have := pm_okD_get os (c + 1) hA.2 a o h
    rwa [show c + 1 + a = c + (a + 1) by omega] at this
theorem pm_okD_all {G : pG} {T : pT} {r : List (List (List (List pOp)))} (hG : ∀ k i, G.1 k i = lk2o (lk2 r k []) i) (h : pm_okD G T 0 r) : pm_All G T := by
  intro k i o hi
  rw [hG] at hi
  unfold lk2 at hi
  rw [List.getD_eq_getElem?_getD, List.getD_eq_getElem?_getD] at hi
  cases hr : r[k / 16]? with
  | none => rw [hr] at hi; simp [lk2o] at hi
  | some ms =>
    rw [hr] at hi
    dsimp only [Option.getD_some] at hi
    cases hm : ms[k % 16]? with
    | none => rw [hm] at hi; simp [lk2o] at hi
    | some cs =>
      rw [hm] at hi
      have := pm_okB_get ms _ (pm_okD_get r 0 h _ ms hr) (k % 16) cs hm
      rw [show 16 * (0 + k / 16) + k % 16 = k by omega] at this
      exact pm_okC_all this i o hi
/-- THE RUN: from place i of method k, up to a return -/
def pm_SimW (G : pG) (T : pT) (n : Nat) : Prop :=
  ∀ (k i : Nat) (ls : List pO) (st : List Value) (hp hp' : pH) (v : Option Value), pm_ex G n k (i, ls, st, hp) = some (v, hp') →
  ∀ (p : Program) (l : Launch) (e : Env) (R : Room) (s : State) (m : MethodId) (args : Array Value) (below : List Frame) (meth : Method) (c : Code) (w : pW), pm_Cx G T w k p m c meth s args → R.frames = pm_fr G k → R.locals = pm_lo G k → 1 ≤ R.frames → 20 ≤ R.locals →
  ∀ (H : Heap) (locs : List Loc) (cells slots : Nat) (Q : State → Prop) (mls : Array Slot), pm_HR T w hp H → va_S (pm_A w) s.heap H locs → pm_LR w (pm_nL G k) mls ls → cells + (hp'.length - hp.length) ≤ R.cells → slots + (pm_sz hp' - pm_sz hp) ≤ R.slots →
  (∀ (H' : Heap) (locs' : List Loc) (mls' : Array Slot) (i' rk : Nat) (st' : List Value), G.1 k i' = some (.inr (.inr rk)) → pm_ret rk st' = some v → pm_HR T w hp' H' → va_S (pm_A w) s.heap H' locs' → W p l e R s m args below meth c H' locs' (cells + (hp'.length - hp.length)) (slots + (pm_sz hp' - pm_sz hp)) Q (F0 m (pm_pc G k i') mls' (st'.map (pm_em w)))) →
  W p l e R s m args below meth c H locs cells slots Q (F0 m (pm_pc G k i) mls (st.map (pm_em w)))
theorem pm_met {G : pG} {T : pT} (hA : pm_All G T) {n : Nat} (ih : pm_SimW G T n) {y : Nat} (hy : pm_MF G y) {as : List Value} {hp hp' : pH} {v : Option Value} (hlen : (pm_ent as).length ≤ pm_nL G y) (h : pm_ex G n y (0, pm_entry (pm_nL G y) as, [], hp) = some (v, hp')) (l : Launch) (w : pW) :
    Met l (pm_nm G y) (pm_ws G T y) { frames := pm_fr G y, cells := hp'.length - hp.length, slots := pm_sz hp' - pm_sz hp, locals := pm_lo G y } (pm_Pc T w as hp) (pm_Qc T w v hp') (hp'.length - hp.length) (pm_sz hp' - pm_sz hp) (pm_A w) := by
  refine Met.ofW (cc := pm_by G y) (maxL := pm_nL G y) (ret := pm_rt G y) hy.1 rfl ?_
  intro p e s m args below meth c s₁ B hml hv
  obtain ⟨rfl, hH, hK⟩ := hv
  have hts := atoms_spec (ws := pm_ws G T y) B.pre
  have C : pm_Cx G T w y p m c meth s (as.map (pm_em w)).toArray := ⟨B.exec, B.bytes, hml, findClass_of_methodNamed B.named, fun v hv => hts v (List.mem_cons_of_mem _ hv), hK, B.notSynchronized, B.returns, (name_of_methodNamed B.named B.method).1⟩
  rw [lg_entry_eq]
  have := ih y 0 _ _ _ _ _ h p l e { frames := pm_fr G y, cells := hp'.length - hp.length, slots := pm_sz hp' - pm_sz hp, locals := pm_lo G y } s m (as.map (pm_em w)).toArray below meth c w C rfl rfl hy.2.2.1 hy.2.2.2 s.heap [] 0 0 (MQ below (pm_Qc T w v hp') (as.map (pm_em w)).toArray s (hp'.length - hp.length) (pm_sz hp' - pm_sz hp) (pm_A w)) _ hH va_S.rf (pm_LR_entry w hlen) (Nat.le_of_eq (Nat.zero_add _)) (Nat.le_of_eq (Nat.zero_add _)) ?_
  · rw [hy.2.1] at this
    exact this
  · intro H' locs' mls' i' rk st' hrk hret hH' hS'
    rw [Nat.zero_add, Nat.zero_add]
    exact (hA _ _ _ hrk) p l e _ s m _ below meth c w C H' locs' _ _ (pm_Qc T w v hp') (pm_A w) mls' st' v hret (fun t ht hW => ⟨rfl, by rw [ht]; exact hH', hS'.F ht⟩) hS'.2.2
theorem pm_simW {G : pG} {T : pT} (hA : pm_All G T) : ∀ n, pm_SimW G T n
  | 0 => fun k i ls st hp hp' v h => by cases h
  | n + 1 => by
    have ih := pm_simW hA n
    intro k i ls st hp hp' v h p l e R s m args below meth c w C hRf hRl hR1 hR2 H locs cells slots Q mls hH hS hL hc hs fin
    have h : pm_go (pm_ex G n) G k (i, ls, st, hp) (G.1 k i) = some (v, hp') := h
    generalize ho : G.1 k i = o at h
    match o, ho, h with
    | none, _, h => cases h
    | some (.inl f), ho, h =>
      simp only [pm_go, Option.bind_eq_some_iff] at h
      obtain ⟨⟨i', ls', st', hp1⟩, h1, h2⟩ := h
      obtain ⟨hmo, hsim⟩ := hA _ _ _ ho
      have m1 := hmo _ _ h1
      have m2 := pm_mono hA _ _ _ _ h2
      dsimp only at m1 m2
      refine (hsim p l e R s m args below meth c w C hR1 hR2 H locs cells slots Q mls ls st hp _ h1).2 hH hS hL (by dsimp only; omega) (by dsimp only; omega) (fun H' locs' mls' hH' hS' hL' => ?_)
      dsimp only at hH' hL' ⊢
      refine ih k i' ls' st' hp1 hp' v h2 p l e R s m args below meth c w C hRf hRl hR1 hR2 H' locs' _ _ Q mls' hH' hS' hL' (by omega) (by omega) ?_
      intro H2 locs2 mls2 i2 rk st2 b1 b2 b3 b4
      have := fin H2 locs2 mls2 i2 rk st2 b1 b2 b3 b4
      rw [show cells + (hp1.length - hp.length) + (hp'.length - hp1.length) = cells + (hp'.length - hp.length) by omega, show slots + (pm_sz hp1 - pm_sz hp) + (pm_sz hp' - pm_sz hp1) = slots + (pm_sz hp' - pm_sz hp) by omega]
      exact this
    | some (.inr (.inl c')), ho, h =>
      simp only [pm_go, Option.bind_eq_some_iff] at h
      obtain ⟨⟨as, rest⟩, h1, h2⟩ := h
      split at h2
      · rename_i hm
        simp only [Option.bind_eq_some_iff] at h2
        obtain ⟨⟨v1, hp1⟩, h3, st', h4, h5⟩ := h2
        obtain ⟨hcall, hmf⟩ := hA _ _ _ ho
        have m1 := pm_mono hA _ _ _ _ h3
        have m2 := pm_mono hA _ _ _ _ h5
        dsimp only at m1 m2 hm h3 h4 h5
        refine hcall p l e R s m args below meth c w C hRf hRl H locs cells slots (hp1.length - hp.length) (pm_sz hp1 - pm_sz hp) Q mls ls st as rest st' hp hp1 v1 h1 hm h4 hH hS hL (pm_met hA ih hmf (pm_may_spec hm).2.1 h3 l w) (by omega) (by omega) (fun H' locs' hH' hS' => ?_)
        refine ih k (i + 1) ls st' hp1 hp' v h5 p l e R s m args below meth c w C hRf hRl hR1 hR2 H' locs' _ _ Q mls hH' hS' hL (by omega) (by omega) ?_
        intro H2 locs2 mls2 i2 rk st2 b1 b2 b3 b4
        have := fin H2 locs2 mls2 i2 rk st2 b1 b2 b3 b4
        rw [show cells + (hp1.length - hp.length) + (hp'.length - hp1.length) = cells + (hp'.length - hp.length) by omega, show slots + (pm_sz hp1 - pm_sz hp) + (pm_sz hp' - pm_sz hp1) = slots + (pm_sz hp' - pm_sz hp) by omega]
        exact this
      · cases h2
    | some (.inr (.inr rk)), ho, h =>
      simp only [pm_go, Option.map_eq_some_iff] at h
      obtain ⟨v1, h1, h2⟩ := h
      cases h2
      have := fin H locs mls i rk st ho h1 hH hS
      rw [Nat.sub_self, Nat.sub_self] at this
      exact this
end
section
/-! The code of the claim as tables of the pure machine; printed by wip/whole/gen_code.py out of the claim. -/
def pTX0 : u_T := fun k => match k with
  | 0 => ("VeilNations$Calls", "minutes", "[I", true)
  | _ => ("VeilNations$Calls", "dues", "[I", true)
def pty0 : Nat → FieldType := fun k => match k with
  | 0 => .array .int
  | _ => .array .int
theorem pnm0 : ∀ a, a < 2 → ∀ b, b < 2 → a ≠ b → (pTX0 a).2.1 ≠ (pTX0 b).2.1 := by decide +kernel
theorem pty0_ok : ∀ k, k < 2 → parseFieldDescriptor (pTX0 k).2.2.1 = some (pty0 k) := by decide +kernel
theorem pdf0 : ∀ j, j < 2 → defaultValue (pty0 j) = vp_V [.null, .null] j := by decide +kernel
def pTX1 : u_T := fun k => match k with
  | 0 => ("VeilNations$Course", "end", "LVeilNations$World;", true)
  | 1 => ("VeilNations$Course", "stoppedAt", "I", false)
  | 2 => ("VeilNations$Course", "why", "I", false)
  | 3 => ("VeilNations$Course", "times", "I", false)
  | 4 => ("VeilNations$Course", "firstAct", "I", false)
  | _ => ("VeilNations$Course", "firstOne", "I", false)
def pty1 : Nat → FieldType := fun k => match k with
  | 0 => .object "VeilNations$World"
  | 1 => .int
  | 2 => .int
  | 3 => .int
  | 4 => .int
  | _ => .int
theorem pnm1 : ∀ a, a < 6 → ∀ b, b < 6 → a ≠ b → (pTX1 a).2.1 ≠ (pTX1 b).2.1 := by decide +kernel
theorem pty1_ok : ∀ k, k < 6 → parseFieldDescriptor (pTX1 k).2.2.1 = some (pty1 k) := by decide +kernel
theorem pdf1 : ∀ j, j < 6 → defaultValue (pty1 j) = vp_V [.null, .int 0, .int 0, .int 0, .int 0, .int 0] j := by decide +kernel
def pTX2 : u_T := fun k => match k with
  | 0 => ("VeilNations$Pad", "signs", "[I", true)
  | 1 => ("VeilNations$Pad", "kinds", "[I", true)
  | 2 => ("VeilNations$Pad", "whos", "[I", true)
  | 3 => ("VeilNations$Pad", "others", "[I", true)
  | 4 => ("VeilNations$Pad", "length", "I", false)
  | _ => ("VeilNations$Pad", "acts", "I", false)
def pty2 : Nat → FieldType := fun k => match k with
  | 0 => .array .int
  | 1 => .array .int
  | 2 => .array .int
  | 3 => .array .int
  | 4 => .int
  | _ => .int
theorem pnm2 : ∀ a, a < 6 → ∀ b, b < 6 → a ≠ b → (pTX2 a).2.1 ≠ (pTX2 b).2.1 := by decide +kernel
theorem pty2_ok : ∀ k, k < 6 → parseFieldDescriptor (pTX2 k).2.2.1 = some (pty2 k) := by decide +kernel
theorem pdf2 : ∀ j, j < 6 → defaultValue (pty2 j) = vp_V [.null, .null, .null, .null, .int 0, .int 0] j := by decide +kernel
def pTX3 : u_T := fun k => match k with
  | 0 => ("VeilNations$Rhythms", "fitting", "[I", true)
  | _ => ("VeilNations$Rhythms", "count", "I", false)
def pty3 : Nat → FieldType := fun k => match k with
  | 0 => .array .int
  | _ => .int
theorem pnm3 : ∀ a, a < 2 → ∀ b, b < 2 → a ≠ b → (pTX3 a).2.1 ≠ (pTX3 b).2.1 := by decide +kernel
theorem pty3_ok : ∀ k, k < 2 → parseFieldDescriptor (pTX3 k).2.2.1 = some (pty3 k) := by decide +kernel
theorem pdf3 : ∀ j, j < 2 → defaultValue (pty3 j) = vp_V [.null, .int 0] j := by decide +kernel
def pTX4 : u_T := fun k => match k with
  | 0 => ("VeilNations$Sights", "evenings", "[I", true)
  | 1 => ("VeilNations$Sights", "downs", "I", false)
  | _ => ("VeilNations$Sights", "count", "I", false)
def pty4 : Nat → FieldType := fun k => match k with
  | 0 => .array .int
  | 1 => .int
  | _ => .int
theorem pnm4 : ∀ a, a < 3 → ∀ b, b < 3 → a ≠ b → (pTX4 a).2.1 ≠ (pTX4 b).2.1 := by decide +kernel
theorem pty4_ok : ∀ k, k < 3 → parseFieldDescriptor (pTX4 k).2.2.1 = some (pty4 k) := by decide +kernel
theorem pdf4 : ∀ j, j < 3 → defaultValue (pty4 j) = vp_V [.null, .int 0, .int 0] j := by decide +kernel
def pTX5 : u_T := fun k => match k with
  | 0 => ("VeilNations$Stamps", "worths", "[I", true)
  | _ => ("VeilNations$Stamps", "row", "[I", true)
def pty5 : Nat → FieldType := fun k => match k with
  | 0 => .array .int
  | _ => .array .int
theorem pnm5 : ∀ a, a < 2 → ∀ b, b < 2 → a ≠ b → (pTX5 a).2.1 ≠ (pTX5 b).2.1 := by decide +kernel
theorem pty5_ok : ∀ k, k < 2 → parseFieldDescriptor (pTX5 k).2.2.1 = some (pty5 k) := by decide +kernel
theorem pdf5 : ∀ j, j < 2 → defaultValue (pty5 j) = vp_V [.null, .null] j := by decide +kernel
def pTX6 : u_T := fun k => match k with
  | 0 => ("VeilNations$Whole", "world", "LVeilNations$World;", true)
  | 1 => ("VeilNations$Whole", "calls", "LVeilNations$Calls;", true)
  | 2 => ("VeilNations$Whole", "sights", "LVeilNations$Sights;", true)
  | _ => ("VeilNations$Whole", "isKept", "Z", false)
def pty6 : Nat → FieldType := fun k => match k with
  | 0 => .object "VeilNations$World"
  | 1 => .object "VeilNations$Calls"
  | 2 => .object "VeilNations$Sights"
  | _ => .boolean
theorem pnm6 : ∀ a, a < 4 → ∀ b, b < 4 → a ≠ b → (pTX6 a).2.1 ≠ (pTX6 b).2.1 := by decide +kernel
theorem pty6_ok : ∀ k, k < 4 → parseFieldDescriptor (pTX6 k).2.2.1 = some (pty6 k) := by decide +kernel
theorem pdf6 : ∀ j, j < 4 → defaultValue (pty6 j) = vp_V [.null, .null, .null, .int 0] j := by decide +kernel
def pTX7 : u_T := fun k => match k with
  | 0 => ("VeilNations$World", "nations", "[I", true)
  | 1 => ("VeilNations$World", "meshes", "[I", true)
  | 2 => ("VeilNations$World", "tears", "[I", true)
  | 3 => ("VeilNations$World", "friends", "[I", true)
  | 4 => ("VeilNations$World", "foes", "[I", true)
  | 5 => ("VeilNations$World", "veils", "I", false)
  | 6 => ("VeilNations$World", "hair", "I", false)
  | _ => ("VeilNations$World", "day", "I", false)
def pty7 : Nat → FieldType := fun k => match k with
  | 0 => .array .int
  | 1 => .array .int
  | 2 => .array .int
  | 3 => .array .int
  | 4 => .array .int
  | 5 => .int
  | 6 => .int
  | _ => .int
theorem pnm7 : ∀ a, a < 8 → ∀ b, b < 8 → a ≠ b → (pTX7 a).2.1 ≠ (pTX7 b).2.1 := by decide +kernel
theorem pty7_ok : ∀ k, k < 8 → parseFieldDescriptor (pTX7 k).2.2.1 = some (pty7 k) := by decide +kernel
theorem pdf7 : ∀ j, j < 8 → defaultValue (pty7 j) = vp_V [.null, .null, .null, .null, .null, .int 0, .int 0, .int 0] j := by decide +kernel
def pTX8 : u_T := fun k => match k with
  | 0 => ("VeilNations", "whole", "LVeilNations$Whole;", true)
  | 1 => ("VeilNations", "firstImage", "LVeilNations$Whole;", true)
  | 2 => ("VeilNations", "secondImage", "LVeilNations$Whole;", true)
  | 3 => ("VeilNations", "pad", "LVeilNations$Pad;", true)
  | 4 => ("VeilNations", "course", "LVeilNations$Course;", true)
  | 5 => ("VeilNations", "imagined", "LVeilNations$World;", true)
  | 6 => ("VeilNations", "rhythms", "LVeilNations$Rhythms;", true)
  | _ => ("VeilNations", "book", "LVeilNations$Stamps;", true)
def pty8 : Nat → FieldType := fun k => match k with
  | 0 => .object "VeilNations$Whole"
  | 1 => .object "VeilNations$Whole"
  | 2 => .object "VeilNations$Whole"
  | 3 => .object "VeilNations$Pad"
  | 4 => .object "VeilNations$Course"
  | 5 => .object "VeilNations$World"
  | 6 => .object "VeilNations$Rhythms"
  | _ => .object "VeilNations$Stamps"
theorem pnm8 : ∀ a, a < 8 → ∀ b, b < 8 → a ≠ b → (pTX8 a).2.1 ≠ (pTX8 b).2.1 := by decide +kernel
theorem pty8_ok : ∀ k, k < 8 → parseFieldDescriptor (pTX8 k).2.2.1 = some (pty8 k) := by decide +kernel
theorem pdf8 : ∀ j, j < 8 → defaultValue (pty8 j) = vp_V [.null, .null, .null, .null, .null, .null, .null, .null] j := by decide +kernel
def pTX9 : u_T := fun k => match k with
  | 0 => ("VeilNationsModel", "nation", "[I", true)
  | 1 => ("VeilNationsModel", "mesh", "[I", true)
  | 2 => ("VeilNationsModel", "tears", "[I", true)
  | 3 => ("VeilNationsModel", "treaties", "[I", true)
  | 4 => ("VeilNationsModel", "veiled", "I", false)
  | 5 => ("VeilNationsModel", "hair", "I", false)
  | 6 => ("VeilNationsModel", "days", "I", false)
  | 7 => ("VeilNationsModel", "length", "[I", true)
  | 8 => ("VeilNationsModel", "dueAt", "[I", true)
  | 9 => ("VeilNationsModel", "sightEvening", "[I", true)
  | 10 => ("VeilNationsModel", "sightDown", "[I", true)
  | 11 => ("VeilNationsModel", "sights", "I", false)
  | 12 => ("VeilNationsModel", "pad", "[I", true)
  | 13 => ("VeilNationsModel", "padMany", "I", false)
  | 14 => ("VeilNationsModel", "act", "[I", true)
  | 15 => ("VeilNationsModel", "who", "[I", true)
  | 16 => ("VeilNationsModel", "whom", "[I", true)
  | 17 => ("VeilNationsModel", "acts", "I", false)
  | 18 => ("VeilNationsModel", "then", "[I", true)
  | 19 => ("VeilNationsModel", "had", "[I", true)
  | 20 => ("VeilNationsModel", "badAct", "I", false)
  | 21 => ("VeilNationsModel", "badWhy", "I", false)
  | 22 => ("VeilNationsModel", "annexedMany", "I", false)
  | 23 => ("VeilNationsModel", "annexedAct", "I", false)
  | 24 => ("VeilNationsModel", "annexedWho", "I", false)
  | 25 => ("VeilNationsModel", "were", "[I", true)
  | 26 => ("VeilNationsModel", "fewest", "[I", true)
  | 27 => ("VeilNationsModel", "wins", "[Z", true)
  | 28 => ("VeilNationsModel", "orders", "[J", true)
  | 29 => ("VeilNationsModel", "good", "[J", true)
  | 30 => ("VeilNationsModel", "kept", "[I", true)
  | 31 => ("VeilNationsModel", "isKept", "[Z", true)
  | 32 => ("VeilNationsModel", "keptAt", "I", false)
  | _ => ("VeilNationsModel", "isWriting", "Z", false)
def pty9 : Nat → FieldType := fun k => match k with
  | 0 => .array .int
  | 1 => .array .int
  | 2 => .array .int
  | 3 => .array .int
  | 4 => .int
  | 5 => .int
  | 6 => .int
  | 7 => .array .int
  | 8 => .array .int
  | 9 => .array .int
  | 10 => .array .int
  | 11 => .int
  | 12 => .array .int
  | 13 => .int
  | 14 => .array .int
  | 15 => .array .int
  | 16 => .array .int
  | 17 => .int
  | 18 => .array .int
  | 19 => .array .int
  | 20 => .int
  | 21 => .int
  | 22 => .int
  | 23 => .int
  | 24 => .int
  | 25 => .array .int
  | 26 => .array .int
  | 27 => .array .boolean
  | 28 => .array .long
  | 29 => .array .long
  | 30 => .array .int
  | 31 => .array .boolean
  | 32 => .int
  | _ => .boolean
theorem pnm9 : ∀ a, a < 34 → ∀ b, b < 34 → a ≠ b → (pTX9 a).2.1 ≠ (pTX9 b).2.1 := by decide +kernel
theorem pty9_ok : ∀ k, k < 34 → parseFieldDescriptor (pTX9 k).2.2.1 = some (pty9 k) := by decide +kernel
theorem pdf9 : ∀ j, j < 34 → defaultValue (pty9 j) = vp_V [.null, .null, .null, .null, .int 0, .int 0, .int 0, .null, .null, .null, .null, .int 0, .null, .int 0, .null, .null, .null, .int 0, .null, .null, .int 0, .int 0, .int 0, .int 0, .int 0, .null, .null, .null, .null, .null, .null, .null, .int 0, .int 0] j := by decide +kernel
abbrev pg_cl : List vw_C := [("VeilNations$Calls", pTX0, 2), ("VeilNations$Course", pTX1, 6), ("VeilNations$Pad", pTX2, 6), ("VeilNations$Rhythms", pTX3, 2), ("VeilNations$Sights", pTX4, 3), ("VeilNations$Stamps", pTX5, 2), ("VeilNations$Whole", pTX6, 4), ("VeilNations$World", pTX7, 8), ("VeilNations", pTX8, 8), ("VeilNationsModel", pTX9, 34)]
abbrev pg_nests : List pN := [("VeilNations$World", 37, ⟨"VeilNations", "isOne", "(I)Z"⟩, "VeilNations"), ("VeilNations$Calls", 18, ⟨"VeilNations", "within", "(III)Z"⟩, "VeilNations"), ("VeilNations$Pad", 28, ⟨"VeilNations", "within", "(III)Z"⟩, "VeilNations"), ("VeilNations$World", 45, ⟨"VeilNations", "has", "(II)Z"⟩, "VeilNations"), ("VeilNations$Calls", 32, ⟨"VeilNations", "has", "(II)Z"⟩, "VeilNations"), ("VeilNations$Stamps", 22, ⟨"VeilNations", "within", "(III)Z"⟩, "VeilNations"), ("VeilNations$Sights", 22, ⟨"VeilNations", "within", "(III)Z"⟩, "VeilNations"), ("VeilNations$Rhythms", 23, ⟨"VeilNations", "within", "(III)Z"⟩, "VeilNations"), ("VeilNations$Sights", 32, ⟨"VeilNations", "has", "(II)Z"⟩, "VeilNations")]
def pg_T : pT := (pg_cl, lw_tbl.filter goodWord, pg_nests)
/-- VeilNations.<init>()V -/
def pk0 : List (List pOp) := [[.inl (op_aload 0), .inl op_objinit, .inl (op_aload 0), .inl (op_new 6 [.null, .null, .null, .int 0]), .inl op_dup, .inr (.inl (1, 1, 0, 7)), .inl (op_putA 8 0), .inl (op_aload 0), .inl (op_new 6 [.null, .null, .null, .int 0]), .inl op_dup, .inr (.inl (1, 1, 0, 7)), .inl (op_putA 8 1), .inl (op_aload 0), .inl (op_new 6 [.null, .null, .null, .int 0]), .inl op_dup, .inr (.inl (1, 1, 0, 7))],
  [.inl (op_putA 8 2), .inl (op_aload 0), .inl (op_new 2 [.null, .null, .null, .null, .int 0, .int 0]), .inl op_dup, .inr (.inl (5, 1, 0, 3)), .inl (op_putA 8 3), .inl (op_aload 0), .inl (op_new 1 [.null, .int 0, .int 0, .int 0, .int 0, .int 0]), .inl op_dup, .inr (.inl (6, 1, 0, 2)), .inl (op_putA 8 4), .inl (op_aload 0), .inl (op_new 7 [.null, .null, .null, .null, .null, .int 0, .int 0, .int 0]), .inl op_dup, .inr (.inl (2, 1, 0, 8)), .inl (op_putA 8 5)],
  [.inl (op_aload 0), .inl (op_new 3 [.null, .int 0]), .inl op_dup, .inr (.inl (7, 1, 0, 4)), .inl (op_putA 8 6), .inl (op_aload 0), .inl (op_new 5 [.null, .null]), .inl op_dup, .inr (.inl (8, 1, 0, 6)), .inl (op_putA 8 7), .inr (.inr 0)]]
def pi0 : pI := (⟨"VeilNations", "<init>", "()V"⟩, prog_1_method_1_code, 1, none, 3, 61, [[0, 1, 4, 5, 8, 9, 12, 15, 16, 19, 20, 23, 26, 27, 30, 31], [34, 37, 38, 41, 42, 45, 48, 49, 52, 53, 56, 59, 60, 63, 64, 67], [70, 71, 74, 75, 78, 81, 82, 85, 86, 89, 92]])
/-- VeilNations$Whole.<init>()V -/
def pk1 : List (List pOp) := [[.inl (op_aload 0), .inl op_objinit, .inl (op_aload 0), .inl (op_new 7 [.null, .null, .null, .null, .null, .int 0, .int 0, .int 0]), .inl op_dup, .inr (.inl (2, 1, 0, 8)), .inl (op_putA 6 0), .inl (op_aload 0), .inl (op_new 0 [.null, .null]), .inl op_dup, .inr (.inl (3, 1, 0, 1)), .inl (op_putA 6 1), .inl (op_aload 0), .inl (op_new 4 [.null, .int 0, .int 0]), .inl op_dup, .inr (.inl (4, 1, 0, 5))],
  [.inl (op_putA 6 2), .inr (.inr 0)]]
def pi1 : pI := (⟨"VeilNations$Whole", "<init>", "()V"⟩, prog_8_method_1_code, 1, none, 2, 41, [[0, 1, 4, 5, 8, 9, 12, 15, 16, 19, 20, 23, 26, 27, 30, 31], [34, 37]])
/-- VeilNations$World.<init>()V -/
def pk2 : List (List pOp) := [[.inl (op_aload 0), .inl op_objinit, .inl (op_aload 0), .inl (op_ic 8), .inl (op_newa 0), .inl (op_putA 7 0), .inl (op_aload 0), .inl (op_ic 8), .inl (op_newa 0), .inl (op_putA 7 1), .inl (op_aload 0), .inl (op_ic 8), .inl (op_newa 0), .inl (op_putA 7 2), .inl (op_aload 0), .inl (op_ic 8)],
  [.inl (op_newa 0), .inl (op_putA 7 3), .inl (op_aload 0), .inl (op_ic 8), .inl (op_newa 0), .inl (op_putA 7 4), .inl (op_ic 0), .inl (op_istore 1), .inl (op_iload 1), .inl (op_ic 8), .inl (op_icmp (fun x y => decide (y ≤ x)) 34), .inl (op_aload 0), .inl (op_getA 7 1), .inl (op_iload 1), .inl (op_ic 3), .inl op_iast],
  [.inl (op_iinc 1 1), .inl (op_goto 24), .inl (op_aload 0), .inl (op_ic 9), .inl (op_putI 7 6), .inr (.inr 0)]]
def pi2 : pI := (⟨"VeilNations$World", "<init>", "()V"⟩, prog_9_method_1_code, 2, none, 1, 20, [[0, 1, 4, 5, 7, 9, 12, 13, 15, 17, 20, 21, 23, 25, 28, 29], [31, 33, 36, 37, 39, 41, 44, 45, 46, 47, 49, 52, 53, 56, 57, 58], [59, 62, 65, 66, 68, 71]])
/-- VeilNations$Calls.<init>()V -/
def pk3 : List (List pOp) := [[.inl (op_aload 0), .inl op_objinit, .inl (op_aload 0), .inl (op_ic 6), .inl (op_newa 0), .inl (op_putA 0 0), .inl (op_aload 0), .inl (op_ic 6), .inl (op_newa 0), .inl (op_putA 0 1), .inl (op_ic 0), .inl (op_istore 1), .inl (op_iload 1), .inl (op_ic 6), .inl (op_icmp (fun x y => decide (y ≤ x)) 22), .inl (op_aload 0)],
  [.inl (op_getA 0 0), .inl (op_iload 1), .inl (op_ic 1), .inl op_iast, .inl (op_iinc 1 1), .inl (op_goto 12), .inr (.inr 0)]]
def pi3 : pI := (⟨"VeilNations$Calls", "<init>", "()V"⟩, prog_2_method_1_code, 2, none, 1, 20, [[0, 1, 4, 5, 7, 9, 12, 13, 15, 17, 20, 21, 22, 23, 25, 28], [29, 32, 33, 34, 35, 38, 41]])
/-- VeilNations$Sights.<init>()V -/
def pk4 : List (List pOp) := [[.inl (op_aload 0), .inl op_objinit, .inl (op_aload 0), .inl (op_ic 8), .inl (op_newa 0), .inl (op_putA 4 0), .inr (.inr 0)]]
def pi4 : pI := (⟨"VeilNations$Sights", "<init>", "()V"⟩, prog_6_method_1_code, 1, none, 1, 20, [[0, 1, 4, 5, 7, 9, 12]])
/-- VeilNations$Pad.<init>()V -/
def pk5 : List (List pOp) := [[.inl (op_aload 0), .inl op_objinit, .inl (op_aload 0), .inl (op_ic 60), .inl (op_newa 0), .inl (op_putA 2 0), .inl (op_aload 0), .inl (op_ic 60), .inl (op_newa 0), .inl (op_putA 2 1), .inl (op_aload 0), .inl (op_ic 60), .inl (op_newa 0), .inl (op_putA 2 2), .inl (op_aload 0), .inl (op_ic 60)],
  [.inl (op_newa 0), .inl (op_putA 2 3), .inr (.inr 0)]]
def pi5 : pI := (⟨"VeilNations$Pad", "<init>", "()V"⟩, prog_4_method_1_code, 1, none, 1, 20, [[0, 1, 4, 5, 7, 9, 12, 13, 15, 17, 20, 21, 23, 25, 28, 29], [31, 33, 36]])
/-- VeilNations$Course.<init>()V -/
def pk6 : List (List pOp) := [[.inl (op_aload 0), .inl op_objinit, .inl (op_aload 0), .inl (op_new 7 [.null, .null, .null, .null, .null, .int 0, .int 0, .int 0]), .inl op_dup, .inr (.inl (2, 1, 0, 8)), .inl (op_putA 1 0), .inr (.inr 0)]]
def pi6 : pI := (⟨"VeilNations$Course", "<init>", "()V"⟩, prog_3_method_1_code, 1, none, 2, 41, [[0, 1, 4, 5, 8, 9, 12, 15]])
/-- VeilNations$Rhythms.<init>()V -/
def pk7 : List (List pOp) := [[.inl (op_aload 0), .inl op_objinit, .inl (op_aload 0), .inl (op_ic 112), .inl (op_newa 0), .inl (op_putA 3 0), .inr (.inr 0)]]
def pi7 : pI := (⟨"VeilNations$Rhythms", "<init>", "()V"⟩, prog_5_method_1_code, 1, none, 1, 20, [[0, 1, 4, 5, 7, 9, 12]])
/-- VeilNations$Stamps.<init>()V -/
def pk8 : List (List pOp) := [[.inl (op_aload 0), .inl op_objinit, .inl (op_aload 0), .inl (op_ic 3), .inl (op_newa 0), .inl (op_putA 5 0), .inl (op_aload 0), .inl (op_ic 401), .inl (op_newa 0), .inl (op_putA 5 1), .inr (.inr 0)]]
def pi8 : pI := (⟨"VeilNations$Stamps", "<init>", "()V"⟩, prog_7_method_1_code, 1, none, 1, 20, [[0, 1, 4, 5, 6, 8, 11, 12, 15, 17, 20]])
/-- VeilNations.one(IIIII)I -/
def pk9 : List (List pOp) := [[.inl (op_iload 1), .inr (.inl (10, 1, 1, 0)), .inl (op_if (fun x => decide (¬ x = 0)) 5), .inl (op_ic (-1)), .inr (.inr 1), .inl (op_iload 2), .inl (op_ic 0), .inl (op_ic 3), .inr (.inl (11, 3, 1, 0)), .inl (op_if (fun x => decide (x = 0)) 25), .inl (op_iload 3), .inl (op_ic 0), .inl (op_ic 1), .inr (.inl (11, 3, 1, 0)), .inl (op_if (fun x => decide (x = 0)) 25), .inl (op_iload 4)],
  [.inl (op_ic 1), .inl (op_ic 9), .inr (.inl (11, 3, 1, 0)), .inl (op_if (fun x => decide (x = 0)) 25), .inl (op_iload 5), .inl (op_ic 0), .inl (op_ic 9), .inr (.inl (11, 3, 1, 0)), .inl (op_if (fun x => decide (¬ x = 0)) 27), .inl (op_ic (-2)), .inr (.inr 1), .inl (op_aload 0), .inl (op_getA 8 0), .inl (op_getA 6 0), .inl (op_iload 1), .inr (.inl (12, 2, 1, 8))],
  [.inl (op_istore 6), .inl (op_aload 0), .inl (op_getA 8 0), .inl (op_getA 6 0), .inl (op_iload 1), .inl (op_iload 2), .inl (op_iload 3), .inl (op_iload 4), .inl (op_iload 5), .inr (.inl (13, 6, 0, 8)), .inl (op_iload 6), .inr (.inr 1)]]
def pi9 : pI := (⟨"VeilNations", "one", "(IIIII)I"⟩, prog_1_method_2_code, 7, some .int, 3, 67, [[0, 1, 4, 7, 8, 9, 10, 11, 12, 15, 18, 19, 20, 21, 24, 27], [29, 30, 32, 35, 38, 40, 41, 43, 46, 49, 51, 52, 53, 56, 59, 60], [63, 65, 66, 69, 72, 73, 74, 75, 77, 79, 82, 84]])
/-- VeilNations.isOne(I)Z -/
def pk10 : List (List pOp) := [[.inl (op_iload 0), .inl (op_if (fun x => decide (x < 0)) 7), .inl (op_iload 0), .inl (op_ic 8), .inl (op_icmp (fun x y => decide (y ≤ x)) 7), .inl (op_ic 1), .inl (op_goto 8), .inl (op_ic 0), .inr (.inr 3)]]
def pi10 : pI := (⟨"VeilNations", "isOne", "(I)Z"⟩, prog_1_method_34_code, 1, some .boolean, 1, 20, [[0, 1, 4, 5, 7, 10, 11, 14, 15]])
/-- VeilNations.within(III)Z -/
def pk11 : List (List pOp) := [[.inl (op_iload 0), .inl (op_iload 1), .inl (op_icmp (fun x y => decide (x < y)) 8), .inl (op_iload 0), .inl (op_iload 2), .inl (op_icmp (fun x y => decide (y < x)) 8), .inl (op_ic 1), .inl (op_goto 9), .inl (op_ic 0), .inr (.inr 3)]]
def pi11 : pI := (⟨"VeilNations", "within", "(III)Z"⟩, prog_1_method_33_code, 3, some .boolean, 1, 20, [[0, 1, 2, 5, 6, 7, 10, 11, 14, 15]])
/-- VeilNations$World.nationOf(I)I -/
def pk12 : List (List pOp) := [[.inl (op_iload 1), .inr (.inl (10, 1, 1, 0)), .inl (op_if (fun x => decide (x = 0)) 8), .inl (op_aload 0), .inl (op_getA 7 0), .inl (op_iload 1), .inl (op_iald 0), .inl (op_goto 9), .inl (op_ic (-1)), .inr (.inr 1)]]
def pi12 : pI := (⟨"VeilNations$World", "nationOf", "(I)I"⟩, prog_9_method_5_code, 2, some .int, 2, 40, [[0, 1, 4, 7, 8, 11, 12, 13, 16, 17]])
/-- VeilNations$World.dress(IIIII)V -/
def pk13 : List (List pOp) := [[.inl (op_iload 1), .inr (.inl (10, 1, 1, 0)), .inl (op_if (fun x => decide (¬ x = 0)) 4), .inr (.inr 0), .inl (op_aload 0), .inl (op_getA 7 0), .inl (op_iload 1), .inl (op_iload 2), .inl op_iast, .inl (op_aload 0), .inl (op_getA 7 1), .inl (op_iload 1), .inl (op_iload 4), .inl op_iast, .inl (op_aload 0), .inl (op_getA 7 2)],
  [.inl (op_iload 1), .inl (op_iload 5), .inl op_iast, .inl (op_aload 0), .inl (op_iload 1), .inl (op_iload 3), .inl (op_ic 1), .inl (op_icmp (fun x y => decide (¬ x = y)) 26), .inl (op_ic 1), .inl (op_goto 27), .inl (op_ic 0), .inr (.inl (14, 3, 0, 8)), .inr (.inr 0)]]
def pi13 : pI := (⟨"VeilNations$World", "dress", "(IIIII)V"⟩, prog_9_method_3_code, 6, none, 2, 42, [[0, 1, 4, 7, 8, 9, 12, 13, 14, 15, 16, 19, 20, 22, 23, 24], [27, 28, 30, 31, 32, 33, 34, 35, 38, 39, 42, 43, 46]])
/-- VeilNations$World.setVeil(IZ)V -/
def pk14 : List (List pOp) := [[.inl (op_aload 0), .inl (op_iload 2), .inl (op_if (fun x => decide (x = 0)) 10), .inl (op_aload 0), .inl (op_getI 7 5), .inl (op_ic 1), .inl (op_iload 1), .inl (op_bin (fun x y => x <<< (y &&& 31))), .inl (op_bin (fun x y => x ||| y)), .inl (op_goto 18), .inl (op_aload 0), .inl (op_getI 7 5), .inl (op_ic 1), .inl (op_iload 1), .inl (op_bin (fun x y => x <<< (y &&& 31))), .inl (op_ic (-1))],
  [.inl (op_bin (fun x y => x ^^^ y)), .inl (op_bin (fun x y => x &&& y)), .inl (op_putI 7 5), .inr (.inr 0)]]
def pi14 : pI := (⟨"VeilNations$World", "setVeil", "(IZ)V"⟩, prog_9_method_16_code, 3, none, 1, 20, [[0, 1, 2, 5, 6, 9, 10, 11, 12, 13, 16, 17, 20, 21, 22, 23], [24, 25, 26, 29]])
/-- VeilNations.treaty(IIZ)I -/
def pk15 : List (List pOp) := [[.inl (op_iload 1), .inr (.inl (10, 1, 1, 0)), .inl (op_if (fun x => decide (x = 0)) 9), .inl (op_iload 2), .inr (.inl (10, 1, 1, 0)), .inl (op_if (fun x => decide (x = 0)) 9), .inl (op_iload 1), .inl (op_iload 2), .inl (op_icmp (fun x y => decide (¬ x = y)) 11), .inl (op_ic (-1)), .inr (.inr 1), .inl (op_aload 0), .inl (op_getA 8 0), .inl (op_getA 6 0), .inl (op_iload 1), .inl (op_iload 2)],
  [.inl (op_iload 3), .inr (.inl (16, 4, 0, 8)), .inl (op_aload 0), .inl (op_getA 8 0), .inl (op_getA 6 0), .inr (.inl (17, 1, 1, 8)), .inr (.inr 1)]]
def pi15 : pI := (⟨"VeilNations", "treaty", "(IIZ)I"⟩, prog_1_method_3_code, 4, some .int, 3, 63, [[0, 1, 4, 7, 8, 11, 14, 15, 16, 19, 20, 21, 22, 25, 28, 29], [30, 31, 34, 35, 38, 41, 44]])
/-- VeilNations$World.bind(IIZ)V -/
def pk16 : List (List pOp) := [[.inl (op_iload 1), .inr (.inl (10, 1, 1, 0)), .inl (op_if (fun x => decide (x = 0)) 6), .inl (op_iload 2), .inr (.inl (10, 1, 1, 0)), .inl (op_if (fun x => decide (¬ x = 0)) 7), .inr (.inr 0), .inl (op_aload 0), .inl (op_getA 7 3), .inl (op_iload 1), .inl (op_iload 3), .inl (op_if (fun x => decide (x = 0)) 21), .inl (op_aload 0), .inl (op_getA 7 3), .inl (op_iload 1), .inl (op_iald 0)],
  [.inl (op_ic 1), .inl (op_iload 2), .inl (op_bin (fun x y => x <<< (y &&& 31))), .inl (op_bin (fun x y => x ||| y)), .inl (op_goto 31), .inl (op_aload 0), .inl (op_getA 7 3), .inl (op_iload 1), .inl (op_iald 0), .inl (op_ic 1), .inl (op_iload 2), .inl (op_bin (fun x y => x <<< (y &&& 31))), .inl (op_ic (-1)), .inl (op_bin (fun x y => x ^^^ y)), .inl (op_bin (fun x y => x &&& y)), .inl op_iast],
  [.inl (op_aload 0), .inl (op_getA 7 3), .inl (op_iload 2), .inl (op_iload 3), .inl (op_if (fun x => decide (x = 0)) 46), .inl (op_aload 0), .inl (op_getA 7 3), .inl (op_iload 2), .inl (op_iald 0), .inl (op_ic 1), .inl (op_iload 1), .inl (op_bin (fun x y => x <<< (y &&& 31))), .inl (op_bin (fun x y => x ||| y)), .inl (op_goto 56), .inl (op_aload 0), .inl (op_getA 7 3)],
  [.inl (op_iload 2), .inl (op_iald 0), .inl (op_ic 1), .inl (op_iload 1), .inl (op_bin (fun x y => x <<< (y &&& 31))), .inl (op_ic (-1)), .inl (op_bin (fun x y => x ^^^ y)), .inl (op_bin (fun x y => x &&& y)), .inl op_iast, .inr (.inr 0)]]
def pi16 : pI := (⟨"VeilNations$World", "bind", "(IIZ)V"⟩, prog_9_method_4_code, 4, none, 2, 40, [[0, 1, 4, 7, 8, 11, 14, 15, 16, 19, 20, 21, 24, 25, 28, 29], [30, 31, 32, 33, 34, 37, 38, 41, 42, 43, 44, 45, 46, 47, 48, 49], [50, 51, 54, 55, 56, 59, 60, 63, 64, 65, 66, 67, 68, 69, 72, 73], [76, 77, 78, 79, 80, 81, 82, 83, 84, 85]])
/-- VeilNations$World.treaties()I -/
def pk17 : List (List pOp) := [[.inl (op_ic 0), .inl (op_istore 1), .inl (op_ic 0), .inl (op_istore 2), .inl (op_iload 2), .inl (op_ic 8), .inl (op_icmp (fun x y => decide (y ≤ x)) 17), .inl (op_iload 1), .inl (op_aload 0), .inl (op_getA 7 3), .inl (op_iload 2), .inl (op_iald 0), .inr (.inl (18, 1, 1, 0)), .inl (op_bin (fun x y => x + y)), .inl (op_istore 1), .inl (op_iinc 2 1)],
  [.inl (op_goto 4), .inl (op_iload 1), .inl (op_ic 2), .inl (op_div (fun x y => x / y)), .inr (.inr 1)]]
def pi17 : pI := (⟨"VeilNations$World", "treaties", "()I"⟩, prog_9_method_11_code, 3, some .int, 2, 40, [[0, 1, 2, 3, 4, 5, 7, 10, 11, 12, 15, 16, 17, 20, 21, 22], [25, 28, 29, 30, 31]])
/-- java/lang/Integer.bitCount(I)I -/
def pk18 : List (List pOp) := [[.inl (op_iload 0), .inl (op_iload 0), .inl (op_ic 1), .inl (op_bin (fun x y => (x.toUInt32 >>> (y.toUInt32 &&& Int32.toUInt32 31)).toInt32)), .inl (op_ic 1431655765), .inl (op_bin (fun x y => x &&& y)), .inl (op_bin (fun x y => x - y)), .inl (op_istore 0), .inl (op_iload 0), .inl (op_ic 858993459), .inl (op_bin (fun x y => x &&& y)), .inl (op_iload 0), .inl (op_ic 2), .inl (op_bin (fun x y => (x.toUInt32 >>> (y.toUInt32 &&& Int32.toUInt32 31)).toInt32)), .inl (op_ic 858993459), .inl (op_bin (fun x y => x &&& y))],
  [.inl (op_bin (fun x y => x + y)), .inl (op_istore 0), .inl (op_iload 0), .inl (op_iload 0), .inl (op_ic 4), .inl (op_bin (fun x y => (x.toUInt32 >>> (y.toUInt32 &&& Int32.toUInt32 31)).toInt32)), .inl (op_bin (fun x y => x + y)), .inl (op_ic 252645135), .inl (op_bin (fun x y => x &&& y)), .inl (op_istore 0), .inl (op_iload 0), .inl (op_iload 0), .inl (op_ic 8), .inl (op_bin (fun x y => (x.toUInt32 >>> (y.toUInt32 &&& Int32.toUInt32 31)).toInt32)), .inl (op_bin (fun x y => x + y)), .inl (op_istore 0)],
  [.inl (op_iload 0), .inl (op_iload 0), .inl (op_ic 16), .inl (op_bin (fun x y => (x.toUInt32 >>> (y.toUInt32 &&& Int32.toUInt32 31)).toInt32)), .inl (op_bin (fun x y => x + y)), .inl (op_istore 0), .inl (op_iload 0), .inl (op_ic 63), .inl (op_bin (fun x y => x &&& y)), .inr (.inr 1)]]
def pi18 : pI := (⟨"java/lang/Integer", "bitCount", "(I)I"⟩, prog_12_method_49_code, 1, some .int, 1, 20, [[0, 1, 2, 3, 4, 7, 8, 9, 10, 11, 14, 15, 16, 17, 18, 21], [22, 23, 24, 25, 26, 27, 28, 29, 32, 33, 34, 35, 36, 38, 39, 40], [41, 42, 43, 45, 46, 47, 48, 49, 51, 52]])
/-- VeilNations.hair(I)I -/
def pk19 : List (List pOp) := [[.inl (op_iload 1), .inl (op_ic 0), .inl (op_ic 99), .inr (.inl (11, 3, 1, 0)), .inl (op_if (fun x => decide (¬ x = 0)) 7), .inl (op_ic (-2)), .inr (.inr 1), .inl (op_aload 0), .inl (op_getA 8 0), .inl (op_getA 6 0), .inl (op_getI 7 6), .inl (op_istore 2), .inl (op_aload 0), .inl (op_getA 8 0), .inl (op_getA 6 0), .inl (op_iload 1)],
  [.inl (op_putI 7 6), .inl (op_iload 2), .inr (.inr 1)]]
def pi19 : pI := (⟨"VeilNations", "hair", "(I)I"⟩, prog_1_method_4_code, 3, some .int, 2, 42, [[0, 1, 2, 4, 7, 10, 12, 13, 14, 17, 20, 23, 24, 25, 28, 31], [32, 35, 36]])
/-- VeilNations.pay(III)I -/
def pk20 : List (List pOp) := [[.inl (op_iload 1), .inl (op_ic 0), .inl (op_ic 5), .inr (.inl (11, 3, 1, 0)), .inl (op_if (fun x => decide (¬ x = 0)) 7), .inl (op_ic (-1)), .inr (.inr 1), .inl (op_iload 2), .inl (op_ic 1), .inl (op_ic 9), .inr (.inl (11, 3, 1, 0)), .inl (op_if (fun x => decide (x = 0)) 17), .inl (op_iload 3), .inl (op_ic 0), .inl (op_ic 99), .inr (.inl (11, 3, 1, 0))],
  [.inl (op_if (fun x => decide (¬ x = 0)) 19), .inl (op_ic (-2)), .inr (.inr 1), .inl (op_ic 100), .inl (op_aload 0), .inl (op_getA 8 0), .inl (op_getA 6 1), .inl (op_iload 1), .inr (.inl (21, 2, 1, 1)), .inl (op_bin (fun x y => x * y)), .inl (op_aload 0), .inl (op_getA 8 0), .inl (op_getA 6 1), .inl (op_iload 1), .inr (.inl (22, 2, 1, 1)), .inl (op_bin (fun x y => x + y))],
  [.inl (op_istore 4), .inl (op_aload 0), .inl (op_getA 8 0), .inl (op_getA 6 1), .inl (op_iload 1), .inl (op_iload 2), .inl (op_iload 3), .inr (.inl (23, 4, 0, 1)), .inl (op_iload 4), .inr (.inr 1)]]
def pi20 : pI := (⟨"VeilNations", "pay", "(III)I"⟩, prog_1_method_5_code, 5, some .int, 3, 65, [[0, 1, 2, 3, 6, 9, 10, 11, 12, 13, 15, 18, 21, 22, 23, 25], [28, 31, 33, 34, 36, 37, 40, 43, 44, 47, 48, 49, 52, 55, 56, 59], [60, 62, 63, 66, 69, 70, 71, 72, 75, 77]])
/-- VeilNations$Calls.minutesOf(I)I -/
def pk21 : List (List pOp) := [[.inl (op_iload 1), .inl (op_ic 0), .inl (op_ic 5), .inr (.inl (11, 3, 1, 0)), .inl (op_if (fun x => decide (x = 0)) 10), .inl (op_aload 0), .inl (op_getA 0 0), .inl (op_iload 1), .inl (op_iald 0), .inl (op_goto 11), .inl (op_ic (-1)), .inr (.inr 1)]]
def pi21 : pI := (⟨"VeilNations$Calls", "minutesOf", "(I)I"⟩, prog_2_method_4_code, 2, some .int, 2, 42, [[0, 1, 2, 3, 6, 9, 10, 13, 14, 15, 18, 19]])
/-- VeilNations$Calls.dueOf(I)I -/
def pk22 : List (List pOp) := [[.inl (op_iload 1), .inl (op_ic 0), .inl (op_ic 5), .inr (.inl (11, 3, 1, 0)), .inl (op_if (fun x => decide (x = 0)) 10), .inl (op_aload 0), .inl (op_getA 0 1), .inl (op_iload 1), .inl (op_iald 0), .inl (op_goto 11), .inl (op_ic (-1)), .inr (.inr 1)]]
def pi22 : pI := (⟨"VeilNations$Calls", "dueOf", "(I)I"⟩, prog_2_method_5_code, 2, some .int, 2, 42, [[0, 1, 2, 3, 6, 9, 10, 13, 14, 15, 18, 19]])
/-- VeilNations$Calls.put(III)V -/
def pk23 : List (List pOp) := [[.inl (op_iload 1), .inl (op_ic 0), .inl (op_ic 5), .inr (.inl (11, 3, 1, 0)), .inl (op_if (fun x => decide (x = 0)) 15), .inl (op_aload 0), .inl (op_getA 0 0), .inl (op_iload 1), .inl (op_iload 2), .inl op_iast, .inl (op_aload 0), .inl (op_getA 0 1), .inl (op_iload 1), .inl (op_iload 3), .inl op_iast, .inr (.inr 0)]]
def pi23 : pI := (⟨"VeilNations$Calls", "put", "(III)V"⟩, prog_2_method_3_code, 4, none, 2, 42, [[0, 1, 2, 3, 6, 9, 10, 13, 14, 15, 16, 17, 20, 21, 22, 23]])
/-- VeilNations.say(I)I -/
def pk24 : List (List pOp) := [[.inl (op_iload 1), .inl (op_ic 33), .inl (op_ic 126), .inr (.inl (11, 3, 1, 0)), .inl (op_if (fun x => decide (¬ x = 0)) 7), .inl (op_ic (-2)), .inr (.inr 1), .inl (op_aload 0), .inl (op_getA 8 3), .inl (op_iload 1), .inr (.inl (25, 2, 1, 3)), .inl (op_if (fun x => decide (x = 0)) 16), .inl (op_aload 0), .inl (op_getA 8 3), .inl (op_getI 2 4), .inl (op_goto 17)],
  [.inl (op_ic (-4)), .inr (.inr 1)]]
def pi24 : pI := (⟨"VeilNations", "say", "(I)I"⟩, prog_1_method_6_code, 2, some .int, 3, 63, [[0, 1, 3, 5, 8, 11, 13, 14, 15, 18, 19, 22, 25, 26, 29, 32], [35, 37]])
/-- VeilNations$Pad.write(I)Z -/
def pk25 : List (List pOp) := [[.inl (op_aload 0), .inl (op_getI 2 4), .inl (op_ic 0), .inl (op_ic 59), .inr (.inl (11, 3, 1, 0)), .inl (op_if (fun x => decide (¬ x = 0)) 8), .inl (op_ic 0), .inr (.inr 3), .inl (op_aload 0), .inl (op_getA 2 0), .inl (op_aload 0), .inl (op_getI 2 4), .inl (op_iload 1), .inl op_iast, .inl (op_aload 0), .inl op_dup],
  [.inl (op_getI 2 4), .inl (op_ic 1), .inl (op_bin (fun x y => x + y)), .inl (op_putI 2 4), .inl (op_ic 1), .inr (.inr 3)]]
def pi25 : pI := (⟨"VeilNations$Pad", "write", "(I)Z"⟩, prog_4_method_2_code, 2, some .boolean, 2, 42, [[0, 1, 4, 5, 7, 10, 13, 14, 15, 16, 19, 20, 23, 24, 25, 26], [27, 30, 31, 32, 35, 36]])
/-- VeilNations.wipe()I -/
def pk26 : List (List pOp) := [[.inl (op_aload 0), .inl (op_getA 8 3), .inl (op_getI 2 4), .inl (op_istore 1), .inl (op_aload 0), .inl (op_getA 8 3), .inr (.inl (27, 1, 0, 3)), .inl (op_iload 1), .inr (.inr 1)]]
def pi26 : pI := (⟨"VeilNations", "wipe", "()I"⟩, prog_1_method_7_code, 2, some .int, 2, 40, [[0, 1, 4, 7, 8, 9, 12, 15, 16]])
/-- VeilNations$Pad.clear()V -/
def pk27 : List (List pOp) := [[.inl (op_aload 0), .inl (op_ic 0), .inl (op_putI 2 4), .inl (op_aload 0), .inl (op_ic 0), .inl (op_putI 2 5), .inr (.inr 0)]]
def pi27 : pI := (⟨"VeilNations$Pad", "clear", "()V"⟩, prog_4_method_3_code, 1, none, 1, 20, [[0, 1, 2, 5, 6, 7, 10]])
/-- VeilNations.fault()I -/
def pk28 : List (List pOp) := [[.inl (op_aload 0), .inl (op_getA 8 3), .inr (.inl (29, 1, 1, 3)), .inr (.inr 1)]]
def pi28 : pI := (⟨"VeilNations", "fault", "()I"⟩, prog_1_method_8_code, 1, some .int, 5, 107, [[0, 1, 4, 7]])
/-- VeilNations$Pad.read()I -/
def pk29 : List (List pOp) := [[.inl (op_aload 0), .inl (op_ic 0), .inl (op_putI 2 5), .inl (op_ic 0), .inl (op_istore 1), .inl (op_ic 0), .inl (op_istore 2), .inl (op_iload 2), .inl (op_aload 0), .inl (op_getI 2 4), .inl (op_icmp (fun x y => decide (y ≤ x)) 29), .inl (op_iload 2), .inl (op_ic 60), .inl (op_icmp (fun x y => decide (y ≤ x)) 29), .inl (op_aload 0), .inl (op_iload 1)],
  [.inl (op_aload 0), .inl (op_getA 2 0), .inl (op_iload 2), .inl (op_iald 0), .inr (.inl (30, 3, 1, 3)), .inl (op_istore 1), .inl (op_iload 1), .inl (op_ic 4), .inl (op_icmp (fun x y => decide (¬ x = y)) 27), .inl (op_iload 2), .inr (.inr 1), .inl (op_iinc 2 1), .inl (op_goto 7), .inl (op_iload 1), .inl (op_if (fun x => decide (¬ x = 0)) 33), .inl (op_ic (-6))],
  [.inl (op_goto 35), .inl (op_aload 0), .inl (op_getI 2 4), .inr (.inr 1)]]
def pi29 : pI := (⟨"VeilNations$Pad", "read", "()I"⟩, prog_4_method_7_code, 3, some .int, 4, 85, [[0, 1, 2, 5, 6, 7, 8, 9, 10, 11, 14, 17, 18, 20, 23, 24], [25, 26, 29, 30, 31, 34, 35, 36, 37, 40, 41, 42, 45, 48, 49, 52], [54, 57, 58, 61]])
/-- VeilNations$Pad.take(II)I -/
def pk30 : List (List pOp) := [[.inl (op_aload 0), .inl (op_getI 2 5), .inl (op_ic 0), .inl (op_ic 59), .inr (.inl (11, 3, 1, 0)), .inl (op_if (fun x => decide (¬ x = 0)) 8), .inl (op_ic 4), .inr (.inr 1), .inl (op_iload 1), .inl (op_sw 36 [(0, 10), (1, 14), (2, 18)]), .inl (op_aload 0), .inl (op_iload 2), .inr (.inl (31, 2, 1, 3)), .inr (.inr 1), .inl (op_aload 0), .inl (op_iload 2)],
  [.inr (.inl (33, 2, 1, 3)), .inr (.inr 1), .inl (op_aload 0), .inl (op_getA 2 3), .inl (op_aload 0), .inl (op_getI 2 5), .inl (op_iload 2), .inl (op_ic 65), .inl (op_bin (fun x y => x - y)), .inl op_iast, .inl (op_iload 2), .inl (op_ic 65), .inl (op_ic 72), .inr (.inl (11, 3, 1, 0)), .inl (op_if (fun x => decide (x = 0)) 34), .inl (op_aload 0)],
  [.inr (.inl (32, 1, 1, 3)), .inl (op_goto 35), .inl (op_ic 4), .inr (.inr 1), .inl (op_aload 0), .inl (op_getA 2 3), .inl (op_aload 0), .inl (op_getI 2 5), .inl (op_iload 2), .inl (op_ic 48), .inl (op_bin (fun x y => x - y)), .inl op_iast, .inl (op_iload 2), .inl (op_ic 49), .inl (op_ic 57), .inr (.inl (11, 3, 1, 0))],
  [.inl (op_if (fun x => decide (x = 0)) 52), .inl (op_aload 0), .inr (.inl (32, 1, 1, 3)), .inl (op_goto 53), .inl (op_ic 4), .inr (.inr 1)]]
def pi30 : pI := (⟨"VeilNations$Pad", "take", "(II)I"⟩, prog_4_method_8_code, 3, some .int, 3, 63, [[0, 1, 4, 5, 7, 10, 13, 14, 15, 16, 44, 45, 46, 49, 50, 51], [52, 55, 56, 57, 60, 61, 64, 65, 67, 68, 69, 70, 72, 74, 77, 80], [81, 84, 87, 88, 89, 90, 93, 94, 97, 98, 100, 101, 102, 103, 105, 107], [110, 113, 114, 117, 120, 121]])
/-- VeilNations$Pad.takeFirst(I)I -/
def pk31 : List (List pOp) := [[.inl (op_aload 0), .inl (op_getA 2 1), .inl (op_aload 0), .inl (op_getI 2 5), .inl (op_iload 1), .inl (op_ic 103), .inl (op_icmp (fun x y => decide (¬ x = y)) 9), .inl (op_ic 6), .inl (op_goto 10), .inl (op_ic 7), .inl op_iast, .inl (op_aload 0), .inl (op_getA 2 2), .inl (op_aload 0), .inl (op_getI 2 5), .inl (op_iload 1)],
  [.inl (op_ic 65), .inl (op_ic 72), .inr (.inl (11, 3, 1, 0)), .inl (op_if (fun x => decide (x = 0)) 24), .inl (op_iload 1), .inl (op_ic 65), .inl (op_bin (fun x y => x - y)), .inl (op_goto 25), .inl (op_ic 0), .inl op_iast, .inl (op_aload 0), .inl (op_getA 2 3), .inl (op_aload 0), .inl (op_getI 2 5), .inl (op_ic 0), .inl op_iast],
  [.inl (op_iload 1), .inl (op_ic 46), .inl (op_icmp (fun x y => decide (¬ x = y)) 38), .inl (op_aload 0), .inr (.inl (32, 1, 1, 3)), .inr (.inr 1), .inl (op_iload 1), .inl (op_ic 103), .inl (op_icmp (fun x y => decide (¬ x = y)) 43), .inl (op_ic 3), .inr (.inr 1), .inl (op_iload 1), .inl (op_ic 65), .inl (op_ic 72), .inr (.inl (11, 3, 1, 0)), .inl (op_if (fun x => decide (x = 0)) 50)],
  [.inl (op_ic 1), .inl (op_goto 51), .inl (op_ic 4), .inr (.inr 1)]]
def pi31 : pI := (⟨"VeilNations$Pad", "takeFirst", "(I)I"⟩, prog_4_method_9_code, 2, some .int, 2, 42, [[0, 1, 4, 5, 8, 9, 11, 14, 16, 19, 21, 22, 23, 26, 27, 30], [31, 33, 35, 38, 41, 42, 44, 45, 48, 49, 50, 51, 54, 55, 58, 59], [60, 61, 63, 66, 67, 70, 71, 72, 74, 77, 78, 79, 80, 82, 84, 87], [90, 91, 94, 95]])
/-- VeilNations$Pad.close()I -/
def pk32 : List (List pOp) := [[.inl (op_aload 0), .inl op_dup, .inl (op_getI 2 5), .inl (op_ic 1), .inl (op_bin (fun x y => x + y)), .inl (op_putI 2 5), .inl (op_ic 0), .inr (.inr 1)]]
def pi32 : pI := (⟨"VeilNations$Pad", "close", "()I"⟩, prog_4_method_12_code, 1, some .int, 1, 20, [[0, 1, 2, 5, 6, 7, 10, 11]])
/-- VeilNations$Pad.takeDeed(I)I -/
def pk33 : List (List pOp) := [[.inl (op_iload 1), .inr (.inl (34, 1, 1, 0)), .inl (op_istore 2), .inl (op_iload 2), .inl (op_ic (-6)), .inl (op_icmp (fun x y => decide (¬ x = y)) 8), .inl (op_ic 4), .inr (.inr 1), .inl (op_aload 0), .inl (op_getA 2 1), .inl (op_aload 0), .inl (op_getI 2 5), .inl (op_iload 2), .inl op_iast, .inl (op_iload 2), .inl (op_ic 3)],
  [.inl (op_icmp (fun x y => decide (x = y)) 20), .inl (op_iload 2), .inl (op_ic 4), .inl (op_icmp (fun x y => decide (¬ x = y)) 22), .inl (op_ic 2), .inl (op_goto 24), .inl (op_aload 0), .inr (.inl (32, 1, 1, 3)), .inr (.inr 1)]]
def pi33 : pI := (⟨"VeilNations$Pad", "takeDeed", "(I)I"⟩, prog_4_method_10_code, 3, some .int, 2, 40, [[0, 1, 4, 5, 6, 8, 11, 12, 13, 14, 17, 18, 21, 22, 23, 24], [25, 28, 29, 30, 33, 34, 37, 38, 41]])
/-- VeilNations$Pad.deedOf(I)I -/
def pk34 : List (List pOp) := [[.inl (op_iload 0), .inl (op_sw 14 [(37, 12), (47, 10), (94, 4), (95, 2), (120, 6), (126, 8)]), .inl (op_ic 1), .inr (.inr 1), .inl (op_ic 2), .inr (.inr 1), .inl (op_ic 3), .inr (.inr 1), .inl (op_ic 4), .inr (.inr 1), .inl (op_ic 5), .inr (.inr 1), .inl (op_ic 8), .inr (.inr 1), .inl (op_ic (-6)), .inr (.inr 1)]]
def pi34 : pI := (⟨"VeilNations$Pad", "deedOf", "(I)I"⟩, prog_4_method_11_code, 1, some .int, 1, 20, [[0, 1, 60, 61, 62, 63, 64, 65, 66, 67, 68, 69, 70, 72, 73, 75]])
/-- VeilNations.judge(I)I -/
def pk35 : List (List pOp) := [[.inl (op_iload 1), .inl (op_ic 0), .inl (op_ic 2), .inr (.inl (11, 3, 1, 0)), .inl (op_if (fun x => decide (¬ x = 0)) 7), .inl (op_ic (-2)), .inr (.inr 1), .inl (op_aload 0), .inl (op_iload 1), .inl (op_ic 2), .inl (op_icmp (fun x y => decide (¬ x = y)) 13), .inl (op_ic 1), .inl (op_goto 14), .inl (op_ic 0), .inr (.inl (36, 2, 1, 9)), .inl (op_istore 2)],
  [.inl (op_iload 2), .inl (op_if (fun x => decide (x = 0)) 20), .inl (op_iload 2), .inr (.inr 1), .inl (op_iload 1), .inl (op_if (fun x => decide (¬ x = 0)) 26), .inl (op_aload 0), .inl (op_getA 8 4), .inl (op_getI 1 1), .inr (.inr 1), .inl (op_iload 1), .inl (op_ic 1), .inl (op_icmp (fun x y => decide (¬ x = y)) 33), .inl (op_aload 0), .inl (op_getA 8 4), .inl (op_getI 1 2)],
  [.inl (op_goto 36), .inl (op_aload 0), .inl (op_getA 8 4), .inl (op_getI 1 3), .inr (.inr 1)]]
def pi35 : pI := (⟨"VeilNations", "judge", "(I)I"⟩, prog_1_method_9_code, 3, some .int, 7, 154, [[0, 1, 2, 3, 6, 9, 11, 12, 13, 14, 15, 18, 19, 22, 23, 26], [27, 28, 31, 32, 33, 34, 37, 38, 41, 44, 45, 46, 47, 50, 51, 54], [57, 60, 61, 64, 67]])
/-- VeilNations.follow(Z)I -/
def pk36 : List (List pOp) := [[.inl (op_aload 0), .inl (op_getA 8 3), .inr (.inl (29, 1, 1, 3)), .inl (op_ic (-6)), .inl (op_icmp (fun x y => decide (x = y)) 7), .inl (op_ic (-5)), .inr (.inr 1), .inl (op_aload 0), .inl (op_getA 8 4), .inl (op_aload 0), .inl (op_getA 8 0), .inl (op_getA 6 0), .inl (op_aload 0), .inl (op_getA 8 3), .inr (.inl (37, 3, 0, 2)), .inl (op_iload 1)],
  [.inl (op_if (fun x => decide (x = 0)) 24), .inl (op_aload 0), .inl (op_getA 8 4), .inl (op_getI 1 1), .inl (op_ic (-6)), .inl (op_icmp (fun x y => decide (x = y)) 24), .inl (op_ic (-3)), .inl (op_goto 25), .inl (op_ic 0), .inr (.inr 1)]]
def pi36 : pI := (⟨"VeilNations", "follow", "(Z)I"⟩, prog_1_method_29_code, 2, some .int, 6, 133, [[0, 1, 4, 7, 9, 12, 14, 15, 16, 19, 20, 23, 26, 27, 30, 33], [34, 37, 38, 41, 44, 46, 49, 51, 54, 55]])
/-- VeilNations$Course.run(LVeilNations$World;LVeilNations$Pad;)V -/
def pk37 : List (List pOp) := [[.inl (op_aload 0), .inl (op_aload 1), .inr (.inl (38, 2, 0, 2)), .inl (op_ic 0), .inl (op_istore 3), .inl (op_iload 3), .inl (op_aload 2), .inl (op_getI 2 5), .inl (op_icmp (fun x y => decide (y ≤ x)) 52), .inl (op_aload 0), .inl (op_getI 1 1), .inl (op_ic (-6)), .inl (op_icmp (fun x y => decide (¬ x = y)) 52), .inl (op_aload 0), .inl (op_getA 1 0), .inl (op_aload 2)],
  [.inl (op_iload 3), .inr (.inl (40, 2, 1, 3)), .inl (op_aload 2), .inl (op_iload 3), .inr (.inl (41, 2, 1, 3)), .inl (op_aload 2), .inl (op_iload 3), .inr (.inl (42, 2, 1, 3)), .inr (.inl (43, 4, 1, 8)), .inl (op_istore 4), .inl (op_iload 4), .inl (op_if (fun x => decide (¬ x = 0)) 44), .inl (op_aload 0), .inl (op_iload 3), .inl (op_aload 0), .inl (op_getA 1 0)],
  [.inl (op_aload 2), .inl (op_iload 3), .inr (.inl (40, 2, 1, 3)), .inl (op_aload 2), .inl (op_iload 3), .inr (.inl (41, 2, 1, 3)), .inl (op_aload 2), .inl (op_iload 3), .inr (.inl (42, 2, 1, 3)), .inr (.inl (49, 4, 1, 8)), .inr (.inl (55, 3, 0, 2)), .inl (op_goto 50), .inl (op_aload 0), .inl (op_iload 3), .inl (op_putI 1 1), .inl (op_aload 0)],
  [.inl (op_iload 4), .inl (op_putI 1 2), .inl (op_iinc 3 1), .inl (op_goto 5), .inr (.inr 0)]]
def pi37 : pI := (⟨"VeilNations$Course", "run", "(LVeilNations$World;LVeilNations$Pad;)V"⟩, prog_3_method_2_code, 5, none, 5, 109, [[0, 1, 2, 5, 6, 7, 8, 9, 12, 15, 16, 19, 21, 24, 25, 28], [29, 30, 33, 34, 35, 38, 39, 40, 43, 46, 48, 50, 53, 54, 55, 56], [59, 60, 61, 64, 65, 66, 69, 70, 71, 74, 77, 80, 83, 84, 85, 88], [89, 91, 94, 97, 100]])
/-- VeilNations$Course.begin(LVeilNations$World;)V -/
def pk38 : List (List pOp) := [[.inl (op_aload 0), .inl (op_getA 1 0), .inl (op_aload 1), .inr (.inl (39, 2, 0, 8)), .inl (op_aload 0), .inl (op_ic (-6)), .inl (op_putI 1 1), .inl (op_aload 0), .inl (op_ic (-6)), .inl (op_putI 1 2), .inl (op_aload 0), .inl (op_ic 0), .inl (op_putI 1 3), .inl (op_aload 0), .inl (op_ic (-6)), .inl (op_putI 1 4)],
  [.inl (op_aload 0), .inl (op_ic (-6)), .inl (op_putI 1 5), .inr (.inr 0)]]
def pi38 : pI := (⟨"VeilNations$Course", "begin", "(LVeilNations$World;)V"⟩, prog_3_method_3_code, 2, none, 2, 42, [[0, 1, 4, 5, 8, 9, 11, 14, 15, 17, 20, 21, 22, 25, 26, 28], [31, 32, 34, 37]])
/-- VeilNations$World.copy(LVeilNations$World;)V -/
def pk39 : List (List pOp) := [[.inl (op_ic 0), .inl (op_istore 2), .inl (op_iload 2), .inl (op_ic 8), .inl (op_icmp (fun x y => decide (y ≤ x)) 39), .inl (op_aload 0), .inl (op_getA 7 0), .inl (op_iload 2), .inl (op_aload 1), .inl (op_getA 7 0), .inl (op_iload 2), .inl (op_iald 0), .inl op_iast, .inl (op_aload 0), .inl (op_getA 7 1), .inl (op_iload 2)],
  [.inl (op_aload 1), .inl (op_getA 7 1), .inl (op_iload 2), .inl (op_iald 0), .inl op_iast, .inl (op_aload 0), .inl (op_getA 7 2), .inl (op_iload 2), .inl (op_aload 1), .inl (op_getA 7 2), .inl (op_iload 2), .inl (op_iald 0), .inl op_iast, .inl (op_aload 0), .inl (op_getA 7 3), .inl (op_iload 2)],
  [.inl (op_aload 1), .inl (op_getA 7 3), .inl (op_iload 2), .inl (op_iald 0), .inl op_iast, .inl (op_iinc 2 1), .inl (op_goto 2), .inl (op_aload 0), .inl (op_aload 1), .inl (op_getI 7 5), .inl (op_putI 7 5), .inl (op_aload 0), .inl (op_aload 1), .inl (op_getI 7 6), .inl (op_putI 7 6), .inl (op_aload 0)],
  [.inl (op_aload 1), .inl (op_getI 7 7), .inl (op_putI 7 7), .inr (.inr 0)]]
def pi39 : pI := (⟨"VeilNations$World", "copy", "(LVeilNations$World;)V"⟩, prog_9_method_2_code, 3, none, 1, 20, [[0, 1, 2, 3, 5, 8, 9, 12, 13, 14, 17, 18, 19, 20, 21, 24], [25, 26, 29, 30, 31, 32, 33, 36, 37, 38, 41, 42, 43, 44, 45, 48], [49, 50, 53, 54, 55, 56, 59, 62, 63, 64, 67, 70, 71, 72, 75, 78], [79, 80, 83, 86]])
/-- VeilNations$Pad.kindOf(I)I -/
def pk40 : List (List pOp) := [[.inl (op_iload 1), .inl (op_ic 0), .inl (op_ic 59), .inr (.inl (11, 3, 1, 0)), .inl (op_if (fun x => decide (x = 0)) 10), .inl (op_aload 0), .inl (op_getA 2 1), .inl (op_iload 1), .inl (op_iald 0), .inl (op_goto 11), .inl (op_ic (-6)), .inr (.inr 1)]]
def pi40 : pI := (⟨"VeilNations$Pad", "kindOf", "(I)I"⟩, prog_4_method_4_code, 2, some .int, 2, 42, [[0, 1, 2, 4, 7, 10, 11, 14, 15, 16, 19, 21]])
/-- VeilNations$Pad.whoOf(I)I -/
def pk41 : List (List pOp) := [[.inl (op_iload 1), .inl (op_ic 0), .inl (op_ic 59), .inr (.inl (11, 3, 1, 0)), .inl (op_if (fun x => decide (x = 0)) 10), .inl (op_aload 0), .inl (op_getA 2 2), .inl (op_iload 1), .inl (op_iald 0), .inl (op_goto 11), .inl (op_ic (-6)), .inr (.inr 1)]]
def pi41 : pI := (⟨"VeilNations$Pad", "whoOf", "(I)I"⟩, prog_4_method_5_code, 2, some .int, 2, 42, [[0, 1, 2, 4, 7, 10, 11, 14, 15, 16, 19, 21]])
/-- VeilNations$Pad.otherOf(I)I -/
def pk42 : List (List pOp) := [[.inl (op_iload 1), .inl (op_ic 0), .inl (op_ic 59), .inr (.inl (11, 3, 1, 0)), .inl (op_if (fun x => decide (x = 0)) 10), .inl (op_aload 0), .inl (op_getA 2 3), .inl (op_iload 1), .inl (op_iald 0), .inl (op_goto 11), .inl (op_ic (-6)), .inr (.inr 1)]]
def pi42 : pI := (⟨"VeilNations$Pad", "otherOf", "(I)I"⟩, prog_4_method_6_code, 2, some .int, 2, 42, [[0, 1, 2, 4, 7, 10, 11, 14, 15, 16, 19, 21]])
/-- VeilNations$World.whyNot(III)I -/
def pk43 : List (List pOp) := [[.inl (op_iload 1), .inl (op_sw 64 [(1, 2), (2, 10), (3, 18), (4, 31), (5, 36), (7, 56), (8, 45)]), .inl (op_aload 0), .inl (op_iload 2), .inr (.inl (44, 2, 1, 8)), .inl (op_if (fun x => decide (x = 0)) 8), .inl (op_ic 1), .inl (op_goto 9), .inl (op_ic 0), .inr (.inr 1), .inl (op_aload 0), .inl (op_iload 2), .inr (.inl (44, 2, 1, 8)), .inl (op_if (fun x => decide (x = 0)) 16), .inl (op_ic 0), .inl (op_goto 17)],
  [.inl (op_ic 1), .inr (.inr 1), .inl (op_aload 0), .inl (op_iload 3), .inr (.inl (44, 2, 1, 8)), .inl (op_if (fun x => decide (¬ x = 0)) 24), .inl (op_ic 1), .inr (.inr 1), .inl (op_iload 2), .inl (op_iload 3), .inl (op_icmp (fun x y => decide (¬ x = y)) 29), .inl (op_ic 2), .inl (op_goto 30), .inl (op_ic 0), .inr (.inr 1), .inl (op_aload 0)],
  [.inl (op_iload 2), .inl (op_iload 3), .inr (.inl (46, 3, 1, 8)), .inr (.inr 1), .inl (op_aload 0), .inl (op_iload 2), .inr (.inl (48, 2, 1, 8)), .inl (op_ic 9), .inl (op_icmp (fun x y => decide (x < y)) 43), .inl (op_ic 5), .inl (op_goto 44), .inl (op_ic 0), .inr (.inr 1), .inl (op_aload 0), .inl (op_iload 2), .inr (.inl (48, 2, 1, 8))],
  [.inl (op_if (fun x => decide (x ≤ 0)) 52), .inl (op_aload 0), .inl (op_getI 7 6), .inl (op_if (fun x => decide (0 < x)) 54), .inl (op_ic 5), .inl (op_goto 55), .inl (op_ic 0), .inr (.inr 1), .inl (op_aload 0), .inl (op_getI 7 7), .inl (op_ic 99), .inl (op_icmp (fun x y => decide (x < y)) 62), .inl (op_ic 6), .inl (op_goto 63), .inl (op_ic 0), .inr (.inr 1)],
  [.inl (op_ic 0), .inr (.inr 1)]]
def pi43 : pI := (⟨"VeilNations$World", "whyNot", "(III)I"⟩, prog_9_method_13_code, 4, some .int, 4, 84, [[0, 1, 48, 49, 50, 53, 56, 57, 60, 61, 62, 63, 64, 67, 70, 71], [74, 75, 76, 77, 78, 81, 84, 85, 86, 87, 88, 91, 92, 95, 96, 97], [98, 99, 100, 103, 104, 105, 106, 109, 111, 114, 115, 118, 119, 120, 121, 122], [125, 128, 129, 132, 135, 136, 139, 140, 141, 142, 145, 147, 150, 152, 155, 156], [157, 158]])
/-- VeilNations$World.isDown(I)Z -/
def pk44 : List (List pOp) := [[.inl (op_aload 0), .inl (op_getI 7 5), .inl (op_iload 1), .inr (.inl (45, 2, 1, 0)), .inr (.inr 3)]]
def pi44 : pI := (⟨"VeilNations$World", "isDown", "(I)Z"⟩, prog_9_method_9_code, 2, some .boolean, 2, 41, [[0, 1, 4, 5, 8]])
/-- VeilNations.has(II)Z -/
def pk45 : List (List pOp) := [[.inl (op_iload 0), .inl (op_iload 1), .inl (op_bin (fun x y => x >>> (y &&& 31))), .inl (op_ic 1), .inl (op_bin (fun x y => x &&& y)), .inl (op_if (fun x => decide (x = 0)) 8), .inl (op_ic 1), .inl (op_goto 9), .inl (op_ic 0), .inr (.inr 3)]]
def pi45 : pI := (⟨"VeilNations", "has", "(II)Z"⟩, prog_1_method_35_code, 2, some .boolean, 1, 20, [[0, 1, 2, 3, 4, 5, 8, 9, 12, 13]])
/-- VeilNations$World.whyNotKiss(II)I -/
def pk46 : List (List pOp) := [[.inl (op_iload 1), .inl (op_iload 2), .inl (op_icmp (fun x y => decide (¬ x = y)) 5), .inl (op_ic 2), .inr (.inr 1), .inl (op_aload 0), .inl (op_iload 1), .inr (.inl (12, 2, 1, 8)), .inl (op_aload 0), .inl (op_iload 2), .inr (.inl (12, 2, 1, 8)), .inl (op_icmp (fun x y => decide (x = y)) 22), .inl (op_aload 0), .inl (op_iload 1), .inr (.inl (44, 2, 1, 8)), .inl (op_if (fun x => decide (¬ x = 0)) 20)],
  [.inl (op_aload 0), .inl (op_iload 2), .inr (.inl (44, 2, 1, 8)), .inl (op_if (fun x => decide (x = 0)) 22), .inl (op_ic 3), .inr (.inr 1), .inl (op_aload 0), .inl (op_iload 1), .inr (.inl (47, 2, 1, 8)), .inl (op_iload 2), .inr (.inl (45, 2, 1, 0)), .inl (op_if (fun x => decide (x = 0)) 30), .inl (op_ic 4), .inl (op_goto 31), .inl (op_ic 0), .inr (.inr 1)]]
def pi46 : pI := (⟨"VeilNations$World", "whyNotKiss", "(II)I"⟩, prog_9_method_14_code, 3, some .int, 3, 62, [[0, 1, 2, 5, 6, 7, 8, 9, 12, 13, 14, 17, 20, 21, 22, 25], [28, 29, 30, 33, 36, 37, 38, 39, 40, 43, 44, 47, 50, 51, 54, 55]])
/-- VeilNations$World.friendsOf(I)I -/
def pk47 : List (List pOp) := [[.inl (op_iload 1), .inr (.inl (10, 1, 1, 0)), .inl (op_if (fun x => decide (x = 0)) 8), .inl (op_aload 0), .inl (op_getA 7 3), .inl (op_iload 1), .inl (op_iald 0), .inl (op_goto 9), .inl (op_ic (-1)), .inr (.inr 1)]]
def pi47 : pI := (⟨"VeilNations$World", "friendsOf", "(I)I"⟩, prog_9_method_8_code, 2, some .int, 2, 40, [[0, 1, 4, 7, 8, 11, 12, 13, 16, 17]])
/-- VeilNations$World.tearsOf(I)I -/
def pk48 : List (List pOp) := [[.inl (op_iload 1), .inr (.inl (10, 1, 1, 0)), .inl (op_if (fun x => decide (x = 0)) 8), .inl (op_aload 0), .inl (op_getA 7 2), .inl (op_iload 1), .inl (op_iald 0), .inl (op_goto 9), .inl (op_ic (-1)), .inr (.inr 1)]]
def pi48 : pI := (⟨"VeilNations$World", "tearsOf", "(I)I"⟩, prog_9_method_7_code, 2, some .int, 2, 40, [[0, 1, 4, 7, 8, 11, 12, 13, 16, 17]])
/-- VeilNations$World.act(III)I -/
def pk49 : List (List pOp) := [[.inl (op_iload 1), .inl (op_sw 58 [(1, 2), (2, 8), (3, 14), (4, 25), (5, 32), (6, 50), (7, 55), (8, 38)]), .inl (op_aload 0), .inl (op_iload 2), .inl (op_ic 1), .inr (.inl (14, 3, 0, 8)), .inl (op_ic 0), .inr (.inr 1), .inl (op_aload 0), .inl (op_iload 2), .inl (op_ic 0), .inr (.inl (14, 3, 0, 8)), .inl (op_ic 0), .inr (.inr 1), .inl (op_aload 0), .inl (op_iload 3)],
  [.inl (op_ic 0), .inr (.inl (14, 3, 0, 8)), .inl (op_aload 0), .inl (op_iload 3), .inl (op_aload 0), .inl (op_iload 2), .inr (.inl (12, 2, 1, 8)), .inr (.inl (50, 3, 1, 8)), .inr (.inr 1), .inl (op_aload 0), .inl (op_iload 2), .inl (op_iload 3), .inl (op_ic 1), .inr (.inl (16, 4, 0, 8)), .inl (op_ic 0), .inr (.inr 1)],
  [.inl (op_aload 0), .inl (op_iload 2), .inl (op_ic 1), .inr (.inl (51, 3, 0, 8)), .inl (op_ic 0), .inr (.inr 1), .inl (op_aload 0), .inl (op_iload 2), .inl (op_ic (-1)), .inr (.inl (51, 3, 0, 8)), .inl (op_aload 0), .inl op_dup, .inl (op_getI 7 6), .inl (op_ic 1), .inl (op_bin (fun x y => x - y)), .inl (op_putI 7 6)],
  [.inl (op_ic 0), .inr (.inr 1), .inl (op_aload 0), .inl (op_iload 3), .inr (.inl (52, 2, 0, 8)), .inl (op_ic 0), .inr (.inr 1), .inl (op_aload 0), .inr (.inl (54, 1, 1, 8)), .inr (.inr 1), .inl (op_ic 0), .inr (.inr 1)]]
def pi49 : pI := (⟨"VeilNations$World", "act", "(III)I"⟩, prog_9_method_15_code, 4, some .int, 4, 86, [[0, 1, 48, 49, 50, 51, 54, 55, 56, 57, 58, 59, 62, 63, 64, 65], [66, 67, 70, 71, 72, 73, 74, 77, 80, 81, 82, 83, 84, 85, 88, 89], [90, 91, 92, 93, 96, 97, 98, 99, 100, 101, 104, 105, 106, 109, 110, 111], [114, 115, 116, 117, 118, 121, 122, 123, 124, 127, 128, 129]])
/-- VeilNations$World.annex(II)I -/
def pk50 : List (List pOp) := [[.inl (op_iload 1), .inr (.inl (10, 1, 1, 0)), .inl (op_if (fun x => decide (x = 0)) 9), .inl (op_aload 0), .inl (op_getA 7 0), .inl (op_iload 1), .inl (op_iald 0), .inl (op_iload 2), .inl (op_icmp (fun x y => decide (¬ x = y)) 11), .inl (op_ic 0), .inr (.inr 1), .inl (op_aload 0), .inl (op_getA 7 0), .inl (op_iload 1), .inl (op_iload 2), .inl op_iast],
  [.inl (op_ic 1), .inl (op_iload 1), .inl (op_bin (fun x y => x <<< (y &&& 31))), .inr (.inr 1)]]
def pi50 : pI := (⟨"VeilNations$World", "annex", "(II)I"⟩, prog_9_method_20_code, 3, some .int, 2, 40, [[0, 1, 4, 7, 8, 11, 12, 13, 14, 17, 18, 19, 20, 23, 24, 25], [26, 27, 28, 29]])
/-- VeilNations$World.addTears(II)V -/
def pk51 : List (List pOp) := [[.inl (op_iload 1), .inr (.inl (10, 1, 1, 0)), .inl (op_if (fun x => decide (x = 0)) 11), .inl (op_aload 0), .inl (op_getA 7 2), .inl (op_iload 1), .inl op_dup2, .inl (op_iald 0), .inl (op_iload 2), .inl (op_bin (fun x y => x + y)), .inl op_iast, .inr (.inr 0)]]
def pi51 : pI := (⟨"VeilNations$World", "addTears", "(II)V"⟩, prog_9_method_17_code, 3, none, 2, 40, [[0, 1, 4, 7, 8, 11, 12, 13, 14, 15, 16, 17]])
/-- VeilNations$World.blow(I)V -/
def pk52 : List (List pOp) := [[.inl (op_ic 0), .inl (op_istore 2), .inl (op_iload 2), .inl (op_ic 8), .inl (op_icmp (fun x y => decide (y ≤ x)) 16), .inl (op_aload 0), .inl (op_iload 2), .inr (.inl (53, 2, 1, 8)), .inl (op_iload 1), .inl (op_icmp (fun x y => decide (y ≤ x)) 14), .inl (op_aload 0), .inl (op_iload 2), .inl (op_ic 0), .inr (.inl (14, 3, 0, 8)), .inl (op_iinc 2 1), .inl (op_goto 2)],
  [.inr (.inr 0)]]
def pi52 : pI := (⟨"VeilNations$World", "blow", "(I)V"⟩, prog_9_method_18_code, 3, none, 3, 62, [[0, 1, 2, 3, 5, 8, 9, 10, 13, 14, 17, 18, 19, 20, 23, 26], [29]])
/-- VeilNations$World.thickOf(I)I -/
def pk53 : List (List pOp) := [[.inl (op_iload 1), .inr (.inl (10, 1, 1, 0)), .inl (op_if (fun x => decide (x = 0)) 20), .inl (op_aload 0), .inl (op_getI 7 5), .inl (op_iload 1), .inr (.inl (45, 2, 1, 0)), .inl (op_if (fun x => decide (x = 0)) 20), .inl (op_aload 0), .inl (op_getA 7 1), .inl (op_iload 1), .inl (op_iald 0), .inl (op_aload 0), .inl (op_getA 7 2), .inl (op_iload 1), .inl (op_iald 0)],
  [.inl (op_bin (fun x y => x - y)), .inl (op_ic 0), .inl op_max, .inl (op_goto 21), .inl (op_ic 0), .inr (.inr 1)]]
def pi53 : pI := (⟨"VeilNations$World", "thickOf", "(I)I"⟩, prog_9_method_10_code, 2, some .int, 2, 41, [[0, 1, 4, 7, 8, 11, 12, 15, 18, 19, 22, 23, 24, 25, 28, 29], [30, 31, 32, 35, 38, 39]])
/-- VeilNations$World.passDay()I -/
def pk54 : List (List pOp) := [[.inl (op_ic 0), .inl (op_istore 1), .inl (op_ic 0), .inl (op_istore 2), .inl (op_iload 2), .inl (op_ic 8), .inl (op_icmp (fun x y => decide (y ≤ x)) 54), .inl (op_iload 2), .inl (op_ic 8), .inl (op_bin (fun x y => x + y)), .inl (op_ic 1), .inl (op_bin (fun x y => x - y)), .inl (op_ic 8), .inl (op_div (fun x y => x % y)), .inl (op_istore 3), .inl (op_iload 2)],
  [.inl (op_ic 1), .inl (op_bin (fun x y => x + y)), .inl (op_ic 8), .inl (op_div (fun x y => x % y)), .inl (op_istore 4), .inl (op_aload 0), .inl (op_iload 2), .inr (.inl (44, 2, 1, 8)), .inl (op_if (fun x => decide (x = 0)) 52), .inl (op_aload 0), .inl (op_iload 3), .inr (.inl (44, 2, 1, 8)), .inl (op_if (fun x => decide (¬ x = 0)) 52), .inl (op_aload 0), .inl (op_iload 4), .inr (.inl (44, 2, 1, 8))],
  [.inl (op_if (fun x => decide (¬ x = 0)) 52), .inl (op_aload 0), .inl (op_getA 7 0), .inl (op_iload 3), .inl (op_iald 0), .inl (op_aload 0), .inl (op_getA 7 0), .inl (op_iload 4), .inl (op_iald 0), .inl (op_icmp (fun x y => decide (¬ x = y)) 52), .inl (op_iload 1), .inl (op_aload 0), .inl (op_iload 2), .inl (op_aload 0), .inl (op_getA 7 0), .inl (op_iload 3)],
  [.inl (op_iald 0), .inr (.inl (50, 3, 1, 8)), .inl (op_bin (fun x y => x ||| y)), .inl (op_istore 1), .inl (op_iinc 2 1), .inl (op_goto 4), .inl (op_aload 0), .inl op_dup, .inl (op_getI 7 7), .inl (op_ic 1), .inl (op_bin (fun x y => x + y)), .inl (op_putI 7 7), .inl (op_iload 1), .inr (.inr 1)]]
def pi54 : pI := (⟨"VeilNations$World", "passDay", "()I"⟩, prog_9_method_19_code, 5, some .int, 3, 62, [[0, 1, 2, 3, 4, 5, 7, 10, 11, 13, 14, 15, 16, 18, 19, 20], [21, 22, 23, 25, 26, 28, 29, 30, 33, 36, 37, 38, 41, 44, 45, 47], [50, 53, 54, 57, 58, 59, 60, 63, 65, 66, 69, 70, 71, 72, 73, 76], [77, 78, 81, 82, 83, 86, 89, 90, 91, 94, 95, 96, 99, 100]])
/-- VeilNations$Course.note(II)V -/
def pk55 : List (List pOp) := [[.inl (op_aload 0), .inl op_dup, .inl (op_getI 1 3), .inl (op_iload 2), .inr (.inl (18, 1, 1, 0)), .inl (op_bin (fun x y => x + y)), .inl (op_putI 1 3), .inl (op_iload 2), .inl (op_if (fun x => decide (x = 0)) 20), .inl (op_aload 0), .inl (op_getI 1 4), .inl (op_ic (-6)), .inl (op_icmp (fun x y => decide (¬ x = y)) 20), .inl (op_aload 0), .inl (op_iload 1), .inl (op_putI 1 4)],
  [.inl (op_aload 0), .inl (op_iload 2), .inr (.inl (56, 1, 1, 0)), .inl (op_putI 1 5), .inr (.inr 0)]]
def pi55 : pI := (⟨"VeilNations$Course", "note", "(II)V"⟩, prog_3_method_4_code, 3, none, 2, 41, [[0, 1, 2, 5, 6, 9, 10, 13, 14, 17, 18, 21, 23, 26, 27, 28], [31, 32, 33, 36, 39]])
/-- java/lang/Integer.numberOfTrailingZeros(I)I -/
def pk56 : List (List pOp) := [[.inl (op_iload 0), .inl (op_ic (-1)), .inl (op_bin (fun x y => x ^^^ y)), .inl (op_iload 0), .inl (op_ic 1), .inl (op_bin (fun x y => x - y)), .inl (op_bin (fun x y => x &&& y)), .inl (op_istore 0), .inl (op_iload 0), .inl (op_if (fun x => decide (0 < x)) 14), .inl (op_iload 0), .inl (op_ic 32), .inl (op_bin (fun x y => x &&& y)), .inr (.inr 1), .inl (op_ic 1), .inl (op_istore 1)],
  [.inl (op_iload 0), .inl (op_ic 65536), .inl (op_icmp (fun x y => decide (x ≤ y)) 24), .inl (op_iinc 1 16), .inl (op_iload 0), .inl (op_ic 16), .inl (op_bin (fun x y => (x.toUInt32 >>> (y.toUInt32 &&& Int32.toUInt32 31)).toInt32)), .inl (op_istore 0), .inl (op_iload 0), .inl (op_ic 256), .inl (op_icmp (fun x y => decide (x ≤ y)) 32), .inl (op_iinc 1 8), .inl (op_iload 0), .inl (op_ic 8), .inl (op_bin (fun x y => (x.toUInt32 >>> (y.toUInt32 &&& Int32.toUInt32 31)).toInt32)), .inl (op_istore 0)],
  [.inl (op_iload 0), .inl (op_ic 16), .inl (op_icmp (fun x y => decide (x ≤ y)) 40), .inl (op_iinc 1 4), .inl (op_iload 0), .inl (op_ic 4), .inl (op_bin (fun x y => (x.toUInt32 >>> (y.toUInt32 &&& Int32.toUInt32 31)).toInt32)), .inl (op_istore 0), .inl (op_iload 0), .inl (op_ic 4), .inl (op_icmp (fun x y => decide (x ≤ y)) 48), .inl (op_iinc 1 2), .inl (op_iload 0), .inl (op_ic 2), .inl (op_bin (fun x y => (x.toUInt32 >>> (y.toUInt32 &&& Int32.toUInt32 31)).toInt32)), .inl (op_istore 0)],
  [.inl (op_iload 1), .inl (op_iload 0), .inl (op_ic 1), .inl (op_bin (fun x y => (x.toUInt32 >>> (y.toUInt32 &&& Int32.toUInt32 31)).toInt32)), .inl (op_bin (fun x y => x + y)), .inr (.inr 1)]]
def pi56 : pI := (⟨"java/lang/Integer", "numberOfTrailingZeros", "(I)I"⟩, prog_12_method_48_code, 2, some .int, 1, 20, [[0, 1, 2, 3, 4, 5, 6, 7, 8, 9, 12, 13, 15, 16, 17, 18], [19, 20, 23, 26, 29, 30, 32, 33, 34, 35, 38, 41, 44, 45, 47, 48], [49, 50, 52, 55, 58, 59, 60, 61, 62, 63, 64, 67, 70, 71, 72, 73], [74, 75, 76, 77, 78, 79]])
/-- VeilNations.behind(II)I -/
def pk57 : List (List pOp) := [[.inl (op_iload 1), .inr (.inl (10, 1, 1, 0)), .inl (op_if (fun x => decide (¬ x = 0)) 5), .inl (op_ic (-1)), .inr (.inr 1), .inl (op_iload 2), .inl (op_ic 0), .inl (op_ic 3), .inr (.inl (11, 3, 1, 0)), .inl (op_if (fun x => decide (¬ x = 0)) 12), .inl (op_ic (-2)), .inr (.inr 1), .inl (op_aload 0), .inl (op_ic 1), .inr (.inl (36, 2, 1, 9)), .inl (op_istore 3)],
  [.inl (op_iload 3), .inl (op_if (fun x => decide (x = 0)) 20), .inl (op_iload 3), .inr (.inr 1), .inl (op_iload 2), .inl (op_sw 44 [(0, 22), (1, 28), (2, 38)]), .inl (op_aload 0), .inl (op_getA 8 4), .inl (op_getA 1 0), .inl (op_iload 1), .inr (.inl (12, 2, 1, 8)), .inr (.inr 1), .inl (op_aload 0), .inl (op_getA 8 4), .inl (op_getA 1 0), .inl (op_iload 1)],
  [.inr (.inl (44, 2, 1, 8)), .inl (op_if (fun x => decide (x = 0)) 36), .inl (op_ic 1), .inl (op_goto 37), .inl (op_ic 0), .inr (.inr 1), .inl (op_aload 0), .inl (op_getA 8 4), .inl (op_getA 1 0), .inl (op_iload 1), .inr (.inl (48, 2, 1, 8)), .inr (.inr 1), .inl (op_aload 0), .inl (op_getA 8 4), .inl (op_getA 1 0), .inl (op_iload 1)],
  [.inr (.inl (53, 2, 1, 8)), .inr (.inr 1)]]
def pi57 : pI := (⟨"VeilNations", "behind", "(II)I"⟩, prog_1_method_10_code, 4, some .int, 7, 154, [[0, 1, 4, 7, 8, 9, 10, 11, 12, 15, 18, 20, 21, 22, 23, 26], [27, 28, 31, 32, 33, 34, 60, 61, 64, 67, 68, 71, 72, 73, 76, 79], [80, 83, 86, 87, 90, 91, 92, 93, 96, 99, 100, 103, 104, 105, 108, 111], [112, 115]])
/-- VeilNations.states(I)I -/
def pk58 : List (List pOp) := [[.inl (op_iload 1), .inl (op_ic 0), .inl (op_ic 6), .inr (.inl (11, 3, 1, 0)), .inl (op_if (fun x => decide (¬ x = 0)) 7), .inl (op_ic (-2)), .inr (.inr 1), .inl (op_aload 0), .inl (op_ic 1), .inr (.inl (36, 2, 1, 9)), .inl (op_istore 2), .inl (op_iload 2), .inl (op_if (fun x => decide (x = 0)) 15), .inl (op_iload 2), .inr (.inr 1), .inl (op_iload 1)],
  [.inl (op_sw 32 [(4, 17), (5, 22), (6, 27)]), .inl (op_aload 0), .inl (op_getA 8 4), .inl (op_getA 1 0), .inl (op_getI 7 6), .inr (.inr 1), .inl (op_aload 0), .inl (op_getA 8 4), .inl (op_getA 1 0), .inl (op_getI 7 7), .inr (.inr 1), .inl (op_aload 0), .inl (op_getA 8 4), .inl (op_getA 1 0), .inr (.inl (17, 1, 1, 8)), .inr (.inr 1)],
  [.inl (op_aload 0), .inl (op_getA 8 4), .inl (op_getA 1 0), .inl (op_iload 1), .inr (.inl (59, 2, 1, 8)), .inr (.inr 1)]]
def pi58 : pI := (⟨"VeilNations", "states", "(I)I"⟩, prog_1_method_11_code, 3, some .int, 7, 154, [[0, 1, 2, 4, 7, 10, 12, 13, 14, 15, 18, 19, 20, 23, 24, 25], [26, 52, 53, 56, 59, 62, 63, 64, 67, 70, 73, 74, 75, 78, 81, 84], [85, 86, 89, 92, 93, 96]])
/-- VeilNations$World.peopleOf(I)I -/
def pk59 : List (List pOp) := [[.inl (op_ic 0), .inl (op_istore 2), .inl (op_ic 0), .inl (op_istore 3), .inl (op_iload 3), .inl (op_ic 8), .inl (op_icmp (fun x y => decide (y ≤ x)) 21), .inl (op_iload 2), .inl (op_aload 0), .inl (op_getA 7 0), .inl (op_iload 3), .inl (op_iald 0), .inl (op_iload 1), .inl (op_icmp (fun x y => decide (¬ x = y)) 16), .inl (op_ic 1), .inl (op_goto 17)],
  [.inl (op_ic 0), .inl (op_bin (fun x y => x + y)), .inl (op_istore 2), .inl (op_iinc 3 1), .inl (op_goto 4), .inl (op_iload 2), .inr (.inr 1)]]
def pi59 : pI := (⟨"VeilNations$World", "peopleOf", "(I)I"⟩, prog_9_method_12_code, 4, some .int, 1, 20, [[0, 1, 2, 3, 4, 5, 7, 10, 11, 12, 15, 16, 17, 18, 21, 22], [25, 26, 27, 28, 31, 34, 35]])
/-- VeilNations.annexed(I)I -/
def pk60 : List (List pOp) := [[.inl (op_iload 1), .inl (op_ic 0), .inl (op_ic 1), .inr (.inl (11, 3, 1, 0)), .inl (op_if (fun x => decide (¬ x = 0)) 7), .inl (op_ic (-2)), .inr (.inr 1), .inl (op_aload 0), .inl (op_ic 1), .inr (.inl (36, 2, 1, 9)), .inl (op_istore 2), .inl (op_iload 2), .inl (op_if (fun x => decide (x = 0)) 15), .inl (op_iload 2), .inr (.inr 1), .inl (op_iload 1)],
  [.inl (op_if (fun x => decide (¬ x = 0)) 21), .inl (op_aload 0), .inl (op_getA 8 4), .inl (op_getI 1 4), .inl (op_goto 24), .inl (op_aload 0), .inl (op_getA 8 4), .inl (op_getI 1 5), .inr (.inr 1)]]
def pi60 : pI := (⟨"VeilNations", "annexed", "(I)I"⟩, prog_1_method_12_code, 3, some .int, 7, 154, [[0, 1, 2, 3, 6, 9, 11, 12, 13, 14, 17, 18, 19, 22, 23, 24], [25, 28, 29, 32, 35, 38, 39, 42, 45]])
/-- VeilNations.done()I -/
def pk61 : List (List pOp) := [[.inl (op_aload 0), .inl (op_ic 1), .inr (.inl (36, 2, 1, 9)), .inl (op_istore 1), .inl (op_iload 1), .inl (op_if (fun x => decide (x = 0)) 8), .inl (op_iload 1), .inr (.inr 1), .inl (op_aload 0), .inl (op_getA 8 3), .inl (op_getI 2 5), .inl (op_istore 2), .inl (op_aload 0), .inl (op_getA 8 0), .inl (op_getA 6 0), .inl (op_aload 0)],
  [.inl (op_getA 8 4), .inl (op_getA 1 0), .inr (.inl (39, 2, 0, 8)), .inl (op_aload 0), .inl (op_getA 8 3), .inr (.inl (27, 1, 0, 3)), .inl (op_iload 2), .inr (.inr 1)]]
def pi61 : pI := (⟨"VeilNations", "done", "()I"⟩, prog_1_method_13_code, 3, some .int, 7, 154, [[0, 1, 2, 5, 6, 7, 10, 11, 12, 13, 16, 19, 20, 21, 24, 27], [28, 31, 34, 37, 38, 41, 44, 45]])
/-- VeilNations.sees(II)I -/
def pk62 : List (List pOp) := [[.inl (op_iload 1), .inr (.inl (10, 1, 1, 0)), .inl (op_if (fun x => decide (¬ x = 0)) 5), .inl (op_ic (-1)), .inr (.inr 1), .inl (op_iload 2), .inl (op_ic 0), .inl (op_ic 99), .inr (.inl (11, 3, 1, 0)), .inl (op_if (fun x => decide (¬ x = 0)) 12), .inl (op_ic (-2)), .inr (.inr 1), .inl (op_aload 0), .inl (op_getA 8 0), .inl (op_getA 6 0), .inl (op_iload 1)],
  [.inl (op_ic 1), .inl (op_iload 2), .inr (.inl (63, 4, 1, 8)), .inl (op_aload 0), .inl (op_getA 8 0), .inl (op_getA 6 0), .inl (op_iload 1), .inl (op_ic 7), .inl (op_iload 2), .inr (.inl (63, 4, 1, 8)), .inl (op_bin (fun x y => x ||| y)), .inr (.inr 1)]]
def pi62 : pI := (⟨"VeilNations", "sees", "(II)I"⟩, prog_1_method_14_code, 3, some .int, 4, 89, [[0, 1, 4, 7, 8, 9, 10, 11, 13, 16, 19, 21, 22, 23, 26, 29], [30, 31, 32, 35, 36, 39, 42, 43, 45, 46, 49, 50]])
/-- VeilNations$World.seenRound(III)I -/
def pk63 : List (List pOp) := [[.inl (op_aload 0), .inl (op_iload 1), .inr (.inl (53, 2, 1, 8)), .inl (op_istore 4), .inl (op_ic 0), .inl (op_istore 5), .inl (op_ic 1), .inl (op_istore 6), .inl (op_iload 6), .inl (op_ic 8), .inl (op_icmp (fun x y => decide (y ≤ x)) 38), .inl (op_iload 1), .inl (op_iload 6), .inl (op_iload 2), .inl (op_bin (fun x y => x * y)), .inl (op_bin (fun x y => x + y))],
  [.inl (op_ic 8), .inl (op_div (fun x y => x % y)), .inl (op_istore 7), .inl (op_iload 4), .inl (op_aload 0), .inl (op_iload 7), .inr (.inl (53, 2, 1, 8)), .inl (op_bin (fun x y => x + y)), .inl (op_istore 4), .inl (op_iload 5), .inl (op_iload 4), .inl (op_iload 3), .inl (op_icmp (fun x y => decide (y < x)) 33), .inl (op_ic 1), .inl (op_iload 7), .inl (op_bin (fun x y => x <<< (y &&& 31)))],
  [.inl (op_goto 34), .inl (op_ic 0), .inl (op_bin (fun x y => x ||| y)), .inl (op_istore 5), .inl (op_iinc 6 1), .inl (op_goto 8), .inl (op_iload 5), .inr (.inr 1)]]
def pi63 : pI := (⟨"VeilNations$World", "seenRound", "(III)I"⟩, prog_9_method_21_code, 8, some .int, 3, 62, [[0, 1, 2, 5, 7, 8, 10, 11, 13, 15, 17, 20, 21, 23, 24, 25], [26, 28, 29, 31, 33, 34, 36, 39, 40, 42, 44, 46, 47, 50, 51, 53], [54, 57, 58, 59, 61, 64, 67, 69]])
/-- VeilNations.camps(I)I -/
def pk64 : List (List pOp) := [[.inl (op_iload 1), .inl (op_ic 0), .inl (op_ic 1), .inr (.inl (11, 3, 1, 0)), .inl (op_if (fun x => decide (¬ x = 0)) 7), .inl (op_ic (-2)), .inr (.inr 1), .inl (op_aload 0), .inl (op_getA 8 0), .inl (op_getA 6 0), .inr (.inl (65, 1, 1, 8)), .inl (op_istore 2), .inl (op_iload 1), .inl (op_if (fun x => decide (¬ x = 0)) 20), .inl (op_aload 0), .inl (op_getA 8 0)],
  [.inl (op_getA 6 0), .inl (op_iload 2), .inr (.inl (67, 2, 1, 8)), .inl (op_goto 21), .inl (op_iload 2), .inr (.inr 1)]]
def pi64 : pI := (⟨"VeilNations", "camps", "(I)I"⟩, prog_1_method_15_code, 3, some .int, 4, 89, [[0, 1, 2, 3, 6, 9, 11, 12, 13, 16, 19, 22, 23, 24, 27, 28], [31, 34, 35, 38, 41, 42]])
/-- VeilNations$World.calmestCamp()I -/
def pk65 : List (List pOp) := [[.inl (op_aload 0), .inr (.inl (66, 1, 0, 8)), .inl (op_ic 1), .inl (op_istore 1), .inl (op_aload 0), .inl (op_ic 1), .inr (.inl (67, 2, 1, 8)), .inl (op_istore 2), .inl (op_ic 3), .inl (op_istore 3), .inl (op_iload 3), .inl (op_ic 255), .inl (op_icmp (fun x y => decide (y < x)) 26), .inl (op_aload 0), .inl (op_iload 3), .inr (.inl (67, 2, 1, 8))],
  [.inl (op_istore 4), .inl (op_iload 4), .inl (op_iload 2), .inl (op_icmp (fun x y => decide (y ≤ x)) 24), .inl (op_iload 4), .inl (op_istore 2), .inl (op_iload 3), .inl (op_istore 1), .inl (op_iinc 3 2), .inl (op_goto 10), .inl (op_iload 1), .inr (.inr 1)]]
def pi65 : pI := (⟨"VeilNations$World", "calmestCamp", "()I"⟩, prog_9_method_22_code, 5, some .int, 3, 65, [[0, 1, 4, 5, 6, 7, 8, 11, 12, 13, 14, 15, 18, 21, 22, 23], [26, 28, 30, 31, 34, 36, 37, 38, 39, 42, 45, 46]])
/-- VeilNations$World.countFoes()V -/
def pk66 : List (List pOp) := [[.inl (op_ic 0), .inl (op_istore 1), .inl (op_iload 1), .inl (op_ic 8), .inl (op_icmp (fun x y => decide (y ≤ x)) 45), .inl (op_ic 0), .inl (op_istore 2), .inl (op_ic 0), .inl (op_istore 3), .inl (op_iload 3), .inl (op_ic 8), .inl (op_icmp (fun x y => decide (y ≤ x)) 31), .inl (op_iload 2), .inl (op_aload 0), .inl (op_getA 7 0), .inl (op_iload 1)],
  [.inl (op_iald 0), .inl (op_aload 0), .inl (op_getA 7 0), .inl (op_iload 3), .inl (op_iald 0), .inl (op_icmp (fun x y => decide (x = y)) 26), .inl (op_ic 1), .inl (op_iload 3), .inl (op_bin (fun x y => x <<< (y &&& 31))), .inl (op_goto 27), .inl (op_ic 0), .inl (op_bin (fun x y => x ||| y)), .inl (op_istore 2), .inl (op_iinc 3 1), .inl (op_goto 9), .inl (op_aload 0)],
  [.inl (op_getA 7 4), .inl (op_iload 1), .inl (op_iload 2), .inl (op_aload 0), .inl (op_getA 7 3), .inl (op_iload 1), .inl (op_iald 0), .inl (op_ic (-1)), .inl (op_bin (fun x y => x ^^^ y)), .inl (op_bin (fun x y => x &&& y)), .inl op_iast, .inl (op_iinc 1 1), .inl (op_goto 2), .inr (.inr 0)]]
def pi66 : pI := (⟨"VeilNations$World", "countFoes", "()V"⟩, prog_9_method_24_code, 4, none, 1, 20, [[0, 1, 2, 3, 5, 8, 9, 10, 11, 12, 13, 15, 18, 19, 20, 23], [24, 25, 26, 29, 30, 31, 34, 35, 36, 37, 40, 41, 42, 43, 46, 49], [50, 53, 54, 55, 56, 59, 60, 61, 62, 63, 64, 65, 68, 71]])
/-- VeilNations$World.quarrels(I)I -/
def pk67 : List (List pOp) := [[.inl (op_ic 0), .inl (op_istore 2), .inl (op_ic 0), .inl (op_istore 3), .inl (op_iload 3), .inl (op_ic 8), .inl (op_icmp (fun x y => decide (y ≤ x)) 41), .inl (op_iload 1), .inl (op_iload 3), .inr (.inl (45, 2, 1, 0)), .inl (op_if (fun x => decide (x = 0)) 13), .inl (op_iload 1), .inl (op_goto 18), .inl (op_ic 255), .inl (op_iload 1), .inl (op_ic (-1))],
  [.inl (op_bin (fun x y => x ^^^ y)), .inl (op_bin (fun x y => x &&& y)), .inl (op_istore 4), .inl (op_iload 2), .inl (op_aload 0), .inl (op_getA 7 3), .inl (op_iload 3), .inl (op_iald 0), .inl (op_iload 4), .inl (op_ic (-1)), .inl (op_bin (fun x y => x ^^^ y)), .inl (op_bin (fun x y => x &&& y)), .inr (.inl (18, 1, 1, 0)), .inl (op_aload 0), .inl (op_getA 7 4), .inl (op_iload 3)],
  [.inl (op_iald 0), .inl (op_iload 4), .inl (op_bin (fun x y => x &&& y)), .inr (.inl (18, 1, 1, 0)), .inl (op_bin (fun x y => x + y)), .inl (op_bin (fun x y => x + y)), .inl (op_istore 2), .inl (op_iinc 3 1), .inl (op_goto 4), .inl (op_iload 2), .inl (op_ic 2), .inl (op_div (fun x y => x / y)), .inr (.inr 1)]]
def pi67 : pI := (⟨"VeilNations$World", "quarrels", "(I)I"⟩, prog_9_method_23_code, 5, some .int, 2, 41, [[0, 1, 2, 3, 4, 5, 7, 10, 11, 12, 15, 18, 19, 22, 25, 26], [27, 28, 29, 31, 32, 33, 36, 37, 38, 40, 41, 42, 43, 46, 47, 50], [51, 52, 54, 55, 58, 59, 60, 61, 64, 67, 68, 69, 70]])
/-- VeilNations.late(I)I -/
def pk68 : List (List pOp) := [[.inl (op_iload 1), .inl (op_ic 0), .inl (op_ic 1), .inr (.inl (11, 3, 1, 0)), .inl (op_if (fun x => decide (¬ x = 0)) 7), .inl (op_ic (-2)), .inr (.inr 1), .inl (op_aload 0), .inl (op_getA 8 0), .inl (op_getA 6 1), .inr (.inl (69, 1, 1, 1)), .inl (op_istore 2), .inl (op_iload 1), .inl (op_if (fun x => decide (¬ x = 0)) 19), .inl (op_ic 6), .inl (op_iload 2)],
  [.inr (.inl (18, 1, 1, 0)), .inl (op_bin (fun x y => x - y)), .inl (op_goto 20), .inl (op_iload 2), .inr (.inr 1)]]
def pi68 : pI := (⟨"VeilNations", "late", "(I)I"⟩, prog_1_method_16_code, 3, some .int, 5, 109, [[0, 1, 2, 3, 6, 9, 11, 12, 13, 16, 19, 22, 23, 24, 27, 29], [30, 33, 34, 37, 38]])
/-- VeilNations$Calls.mostInTime()I -/
def pk69 : List (List pOp) := [[.inl (op_ic 0), .inl (op_istore 1), .inl (op_ic 1), .inl (op_istore 2), .inl (op_iload 2), .inl (op_ic 64), .inl (op_icmp (fun x y => decide (y ≤ x)) 20), .inl (op_iload 2), .inr (.inl (18, 1, 1, 0)), .inl (op_iload 1), .inr (.inl (18, 1, 1, 0)), .inl (op_icmp (fun x y => decide (x ≤ y)) 18), .inl (op_aload 0), .inl (op_iload 2), .inr (.inl (70, 2, 1, 1)), .inl (op_if (fun x => decide (x = 0)) 18)],
  [.inl (op_iload 2), .inl (op_istore 1), .inl (op_iinc 2 1), .inl (op_goto 4), .inl (op_iload 1), .inr (.inr 1)]]
def pi69 : pI := (⟨"VeilNations$Calls", "mostInTime", "()I"⟩, prog_2_method_6_code, 3, some .int, 4, 87, [[0, 1, 2, 3, 4, 5, 7, 10, 11, 14, 15, 18, 21, 22, 23, 26], [29, 30, 31, 34, 37, 38]])
/-- VeilNations$Calls.canBeInTime(I)Z -/
def pk70 : List (List pOp) := [[.inl (op_ic 0), .inl (op_istore 2), .inl (op_iload 2), .inl (op_ic 6), .inl (op_icmp (fun x y => decide (y ≤ x)) 25), .inl (op_iload 1), .inl (op_iload 2), .inr (.inl (45, 2, 1, 0)), .inl (op_if (fun x => decide (x = 0)) 23), .inl (op_aload 0), .inl (op_aload 0), .inl (op_getA 0 1), .inl (op_iload 2), .inl (op_iald 0), .inl (op_iload 1), .inr (.inl (71, 3, 1, 1))],
  [.inl (op_aload 0), .inl (op_getA 0 1), .inl (op_iload 2), .inl (op_iald 0), .inl (op_icmp (fun x y => decide (x ≤ y)) 23), .inl (op_ic 0), .inr (.inr 3), .inl (op_iinc 2 1), .inl (op_goto 2), .inl (op_ic 1), .inr (.inr 3)]]
def pi70 : pI := (⟨"VeilNations$Calls", "canBeInTime", "(I)Z"⟩, prog_2_method_7_code, 3, some .boolean, 3, 65, [[0, 1, 2, 3, 5, 8, 9, 10, 13, 16, 17, 18, 21, 22, 23, 24], [27, 28, 31, 32, 33, 36, 37, 38, 41, 44, 45]])
/-- VeilNations$Calls.minutesDueBy(II)I -/
def pk71 : List (List pOp) := [[.inl (op_ic 0), .inl (op_istore 3), .inl (op_ic 0), .inl (op_istore 4), .inl (op_iload 4), .inl (op_ic 6), .inl (op_icmp (fun x y => decide (y ≤ x)) 28), .inl (op_iload 3), .inl (op_iload 2), .inl (op_iload 4), .inr (.inl (45, 2, 1, 0)), .inl (op_if (fun x => decide (x = 0)) 23), .inl (op_aload 0), .inl (op_getA 0 1), .inl (op_iload 4), .inl (op_iald 0)],
  [.inl (op_iload 1), .inl (op_icmp (fun x y => decide (y < x)) 23), .inl (op_aload 0), .inl (op_getA 0 0), .inl (op_iload 4), .inl (op_iald 0), .inl (op_goto 24), .inl (op_ic 0), .inl (op_bin (fun x y => x + y)), .inl (op_istore 3), .inl (op_iinc 4 1), .inl (op_goto 4), .inl (op_iload 3), .inr (.inr 1)]]
def pi71 : pI := (⟨"VeilNations$Calls", "minutesDueBy", "(II)I"⟩, prog_2_method_8_code, 5, some .int, 2, 41, [[0, 1, 2, 3, 5, 7, 9, 12, 13, 14, 16, 19, 22, 23, 26, 28], [29, 30, 33, 34, 37, 39, 40, 43, 44, 45, 46, 49, 52, 53]])
/-- VeilNations.stamps(IIIII)I -/
def pk72 : List (List pOp) := [[.inl (op_iload 1), .inl (op_ic 1), .inl (op_ic 20), .inr (.inl (11, 3, 1, 0)), .inl (op_if (fun x => decide (x = 0)) 25), .inl (op_iload 2), .inl (op_ic 1), .inl (op_ic 20), .inr (.inl (11, 3, 1, 0)), .inl (op_if (fun x => decide (x = 0)) 25), .inl (op_iload 3), .inl (op_ic 1), .inl (op_ic 20), .inr (.inl (11, 3, 1, 0)), .inl (op_if (fun x => decide (x = 0)) 25), .inl (op_iload 4)],
  [.inl (op_ic 0), .inl (op_ic 200), .inr (.inl (11, 3, 1, 0)), .inl (op_if (fun x => decide (x = 0)) 25), .inl (op_iload 5), .inl (op_ic 0), .inl (op_ic 2), .inr (.inl (11, 3, 1, 0)), .inl (op_if (fun x => decide (¬ x = 0)) 27), .inl (op_ic (-2)), .inr (.inr 1), .inl (op_aload 0), .inl (op_getA 8 7), .inl (op_iload 1), .inl (op_iload 2), .inl (op_iload 3)],
  [.inr (.inl (73, 4, 0, 6)), .inl (op_iload 5), .inl (op_if (fun x => decide (¬ x = 0)) 40), .inl (op_aload 0), .inl (op_getA 8 7), .inl (op_iload 4), .inr (.inl (74, 2, 1, 6)), .inr (.inr 1), .inl (op_iload 5), .inl (op_ic 1), .inl (op_icmp (fun x y => decide (¬ x = y)) 48), .inl (op_aload 0), .inl (op_getA 8 7), .inl (op_iload 4), .inr (.inl (76, 2, 1, 6)), .inl (op_goto 51)],
  [.inl (op_aload 0), .inl (op_getA 8 7), .inr (.inl (77, 1, 1, 6)), .inr (.inr 1)]]
def pi72 : pI := (⟨"VeilNations", "stamps", "(IIIII)I"⟩, prog_1_method_17_code, 6, some .int, 3, 68, [[0, 1, 2, 4, 7, 10, 11, 12, 14, 17, 20, 21, 22, 24, 27, 30], [32, 33, 36, 39, 42, 44, 45, 46, 49, 52, 54, 55, 56, 59, 60, 61], [62, 65, 67, 70, 71, 74, 76, 79, 80, 82, 83, 86, 87, 90, 92, 95], [98, 99, 102, 105]])
/-- VeilNations$Stamps.open(III)V -/
def pk73 : List (List pOp) := [[.inl (op_aload 0), .inl (op_getA 5 0), .inl (op_ic 0), .inl (op_iload 1), .inl op_iast, .inl (op_aload 0), .inl (op_getA 5 0), .inl (op_ic 1), .inl (op_iload 2), .inl op_iast, .inl (op_aload 0), .inl (op_getA 5 0), .inl (op_ic 2), .inl (op_iload 3), .inl op_iast, .inr (.inr 0)]]
def pi73 : pI := (⟨"VeilNations$Stamps", "open", "(III)V"⟩, prog_7_method_2_code, 4, none, 1, 20, [[0, 1, 4, 5, 6, 7, 8, 11, 12, 13, 14, 15, 18, 19, 20, 21]])
/-- VeilNations$Stamps.fewestFor(I)I -/
def pk74 : List (List pOp) := [[.inl (op_aload 0), .inl (op_iload 1), .inr (.inl (75, 2, 0, 6)), .inl (op_iload 1), .inl (op_ic 0), .inl (op_ic 400), .inr (.inl (11, 3, 1, 0)), .inl (op_if (fun x => decide (x = 0)) 13), .inl (op_aload 0), .inl (op_getA 5 1), .inl (op_iload 1), .inl (op_iald 0), .inl (op_goto 14), .inl (op_ic (-6)), .inr (.inr 1)]]
def pi74 : pI := (⟨"VeilNations$Stamps", "fewestFor", "(I)I"⟩, prog_7_method_3_code, 2, some .int, 2, 47, [[0, 1, 2, 5, 6, 7, 10, 13, 16, 17, 20, 21, 22, 25, 27]])
/-- VeilNations$Stamps.countFewest(I)V -/
def pk75 : List (List pOp) := [[.inl (op_aload 0), .inl (op_getA 5 1), .inl (op_ic 0), .inl (op_ic 0), .inl op_iast, .inl (op_ic 1), .inl (op_istore 2), .inl (op_iload 2), .inl (op_iload 1), .inl (op_icmp (fun x y => decide (y < x)) 75), .inl (op_iload 2), .inl (op_ic 401), .inl (op_icmp (fun x y => decide (y ≤ x)) 75), .inl (op_aload 0), .inl (op_getA 5 1), .inl (op_iload 2)],
  [.inl (op_ic (-6)), .inl op_iast, .inl (op_aload 0), .inl (op_getA 5 0), .inl (op_astore 3), .inl (op_aload 3), .inl (op_alen 0), .inl (op_istore 4), .inl (op_ic 0), .inl (op_istore 5), .inl (op_iload 5), .inl (op_iload 4), .inl (op_icmp (fun x y => decide (y ≤ x)) 73), .inl (op_aload 3), .inl (op_iload 5), .inl (op_iald 0)],
  [.inl (op_istore 6), .inl (op_iload 2), .inl (op_iload 6), .inl (op_icmp (fun x y => decide (x < y)) 45), .inl (op_iload 6), .inl (op_if (fun x => decide (x ≤ 0)) 45), .inl (op_aload 0), .inl (op_getA 5 1), .inl (op_iload 2), .inl (op_iload 6), .inl (op_bin (fun x y => x - y)), .inl (op_iald 0), .inl (op_goto 46), .inl (op_ic (-6)), .inl (op_istore 7), .inl (op_iload 7)],
  [.inl (op_ic (-6)), .inl (op_icmp (fun x y => decide (x = y)) 71), .inl (op_aload 0), .inl (op_getA 5 1), .inl (op_iload 2), .inl (op_iald 0), .inl (op_ic (-6)), .inl (op_icmp (fun x y => decide (x = y)) 64), .inl (op_iload 7), .inl (op_ic 1), .inl (op_bin (fun x y => x + y)), .inl (op_aload 0), .inl (op_getA 5 1), .inl (op_iload 2), .inl (op_iald 0), .inl (op_icmp (fun x y => decide (y ≤ x)) 71)],
  [.inl (op_aload 0), .inl (op_getA 5 1), .inl (op_iload 2), .inl (op_iload 7), .inl (op_ic 1), .inl (op_bin (fun x y => x + y)), .inl op_iast, .inl (op_iinc 5 1), .inl (op_goto 26), .inl (op_iinc 2 1), .inl (op_goto 7), .inr (.inr 0)]]
def pi75 : pI := (⟨"VeilNations$Stamps", "countFewest", "(I)V"⟩, prog_7_method_4_code, 8, none, 1, 20, [[0, 1, 4, 5, 6, 7, 8, 9, 10, 11, 14, 15, 18, 21, 22, 25], [26, 28, 29, 30, 33, 34, 35, 36, 38, 39, 41, 43, 45, 48, 49, 51], [52, 54, 55, 57, 60, 62, 65, 66, 69, 70, 72, 73, 74, 77, 79, 81], [83, 85, 88, 89, 92, 93, 94, 96, 99, 101, 102, 103, 104, 107, 108, 109], [112, 113, 116, 117, 119, 120, 121, 122, 125, 128, 131, 134]])
/-- VeilNations$Stamps.waysFor(I)I -/
def pk76 : List (List pOp) := [[.inl (op_ic 0), .inl (op_istore 2), .inl (op_iload 2), .inl (op_ic 401), .inl (op_icmp (fun x y => decide (y ≤ x)) 16), .inl (op_aload 0), .inl (op_getA 5 1), .inl (op_iload 2), .inl (op_iload 2), .inl (op_if (fun x => decide (¬ x = 0)) 12), .inl (op_ic 1), .inl (op_goto 13), .inl (op_ic 0), .inl op_iast, .inl (op_iinc 2 1), .inl (op_goto 2)],
  [.inl (op_aload 0), .inl (op_getA 5 0), .inl (op_astore 2), .inl (op_aload 2), .inl (op_alen 0), .inl (op_istore 3), .inl (op_ic 0), .inl (op_istore 4), .inl (op_iload 4), .inl (op_iload 3), .inl (op_icmp (fun x y => decide (y ≤ x)) 58), .inl (op_aload 2), .inl (op_iload 4), .inl (op_iald 0), .inl (op_istore 5), .inl (op_iload 5)],
  [.inl (op_istore 6), .inl (op_iload 5), .inl (op_if (fun x => decide (x ≤ 0)) 56), .inl (op_iload 6), .inl (op_iload 1), .inl (op_icmp (fun x y => decide (y < x)) 56), .inl (op_iload 6), .inl (op_ic 401), .inl (op_icmp (fun x y => decide (y ≤ x)) 56), .inl (op_aload 0), .inl (op_getA 5 1), .inl (op_iload 6), .inl op_dup2, .inl (op_iald 0), .inl (op_aload 0), .inl (op_getA 5 1)],
  [.inl (op_iload 6), .inl (op_iload 5), .inl (op_bin (fun x y => x - y)), .inl (op_iald 0), .inl (op_bin (fun x y => x + y)), .inl op_iast, .inl (op_iinc 6 1), .inl (op_goto 33), .inl (op_iinc 4 1), .inl (op_goto 24), .inl (op_iload 1), .inl (op_ic 0), .inl (op_ic 400), .inr (.inl (11, 3, 1, 0)), .inl (op_if (fun x => decide (x = 0)) 68), .inl (op_aload 0)],
  [.inl (op_getA 5 1), .inl (op_iload 1), .inl (op_iald 0), .inl (op_goto 69), .inl (op_ic 0), .inr (.inr 1)]]
def pi76 : pI := (⟨"VeilNations$Stamps", "waysFor", "(I)I"⟩, prog_7_method_5_code, 7, some .int, 2, 42, [[0, 1, 2, 3, 6, 9, 10, 13, 14, 15, 18, 19, 22, 23, 24, 27], [30, 31, 34, 35, 36, 37, 38, 39, 41, 43, 44, 47, 48, 50, 51, 53], [55, 57, 59, 62, 64, 65, 68, 70, 73, 76, 77, 80, 82, 83, 84, 85], [88, 90, 92, 93, 94, 95, 96, 99, 102, 105, 108, 109, 110, 113, 116, 119], [120, 123, 124, 125, 128, 129]])
/-- VeilNations$Stamps.greatestGap()I -/
def pk77 : List (List pOp) := [[.inl (op_aload 0), .inr (.inl (78, 1, 1, 6)), .inl (op_if (fun x => decide (x = 0)) 5), .inl (op_ic (-6)), .inr (.inr 1), .inl (op_aload 0), .inl (op_ic 400), .inr (.inl (75, 2, 0, 6)), .inl (op_ic 400), .inl (op_istore 1), .inl (op_iload 1), .inl (op_if (fun x => decide (x ≤ 0)) 22), .inl (op_aload 0), .inl (op_getA 5 1), .inl (op_iload 1), .inl (op_iald 0)],
  [.inl (op_ic (-6)), .inl (op_icmp (fun x y => decide (¬ x = y)) 20), .inl (op_iload 1), .inr (.inr 1), .inl (op_iinc 1 (-1)), .inl (op_goto 10), .inl (op_ic (-6)), .inr (.inr 1)]]
def pi77 : pI := (⟨"VeilNations$Stamps", "greatestGap", "()I"⟩, prog_7_method_6_code, 2, some .int, 2, 47, [[0, 1, 4, 7, 9, 10, 11, 14, 17, 20, 21, 22, 25, 26, 29, 30], [31, 33, 36, 37, 38, 41, 44, 46]])
/-- VeilNations$Stamps.haveCommonDivisor()Z -/
def pk78 : List (List pOp) := [[.inl (op_ic 2), .inl (op_istore 1), .inl (op_iload 1), .inl (op_ic 20), .inl (op_icmp (fun x y => decide (y < x)) 30), .inl (op_aload 0), .inl (op_getA 5 0), .inl (op_ic 0), .inl (op_iald 0), .inl (op_iload 1), .inl (op_div (fun x y => x % y)), .inl (op_if (fun x => decide (¬ x = 0)) 28), .inl (op_aload 0), .inl (op_getA 5 0), .inl (op_ic 1), .inl (op_iald 0)],
  [.inl (op_iload 1), .inl (op_div (fun x y => x % y)), .inl (op_if (fun x => decide (¬ x = 0)) 28), .inl (op_aload 0), .inl (op_getA 5 0), .inl (op_ic 2), .inl (op_iald 0), .inl (op_iload 1), .inl (op_div (fun x y => x % y)), .inl (op_if (fun x => decide (¬ x = 0)) 28), .inl (op_ic 1), .inr (.inr 3), .inl (op_iinc 1 1), .inl (op_goto 2), .inl (op_ic 0), .inr (.inr 3)]]
def pi78 : pI := (⟨"VeilNations$Stamps", "haveCommonDivisor", "()Z"⟩, prog_7_method_7_code, 2, some .boolean, 1, 20, [[0, 1, 2, 3, 5, 8, 9, 12, 13, 14, 15, 16, 19, 20, 23, 24], [25, 26, 27, 30, 31, 34, 35, 36, 37, 38, 41, 42, 43, 46, 49, 50]])
/-- VeilNations.seen(IZ)I -/
def pk79 : List (List pOp) := [[.inl (op_iload 1), .inl (op_ic 0), .inl (op_ic 60), .inr (.inl (11, 3, 1, 0)), .inl (op_if (fun x => decide (¬ x = 0)) 7), .inl (op_ic (-2)), .inr (.inr 1), .inl (op_aload 0), .inl (op_getA 8 0), .inl (op_getA 6 2), .inl (op_iload 1), .inl (op_iload 2), .inr (.inl (80, 3, 1, 5)), .inl (op_if (fun x => decide (x = 0)) 19), .inl (op_aload 0), .inl (op_getA 8 0)],
  [.inl (op_getA 6 2), .inl (op_getI 4 2), .inl (op_goto 20), .inl (op_ic (-4)), .inr (.inr 1)]]
def pi79 : pI := (⟨"VeilNations", "seen", "(IZ)I"⟩, prog_1_method_18_code, 3, some .int, 3, 64, [[0, 1, 2, 4, 7, 10, 12, 13, 14, 17, 20, 21, 22, 25, 28, 29], [32, 35, 38, 41, 43]])
/-- VeilNations$Sights.add(IZ)Z -/
def pk80 : List (List pOp) := [[.inl (op_aload 0), .inl (op_getI 4 2), .inl (op_ic 0), .inl (op_ic 7), .inr (.inl (11, 3, 1, 0)), .inl (op_if (fun x => decide (¬ x = 0)) 8), .inl (op_ic 0), .inr (.inr 3), .inl (op_aload 0), .inl (op_getA 4 0), .inl (op_aload 0), .inl (op_getI 4 2), .inl (op_iload 1), .inl op_iast, .inl (op_aload 0), .inl op_dup],
  [.inl (op_getI 4 1), .inl (op_iload 2), .inl (op_if (fun x => decide (x = 0)) 24), .inl (op_ic 1), .inl (op_aload 0), .inl (op_getI 4 2), .inl (op_bin (fun x y => x <<< (y &&& 31))), .inl (op_goto 25), .inl (op_ic 0), .inl (op_bin (fun x y => x ||| y)), .inl (op_putI 4 1), .inl (op_aload 0), .inl op_dup, .inl (op_getI 4 2), .inl (op_ic 1), .inl (op_bin (fun x y => x + y))],
  [.inl (op_putI 4 2), .inl (op_ic 1), .inr (.inr 3)]]
def pi80 : pI := (⟨"VeilNations$Sights", "add", "(IZ)Z"⟩, prog_6_method_3_code, 3, some .boolean, 2, 42, [[0, 1, 4, 5, 7, 10, 13, 14, 15, 16, 19, 20, 23, 24, 25, 26], [27, 30, 31, 34, 35, 36, 39, 40, 43, 44, 45, 48, 49, 50, 53, 54], [55, 58, 59]])
/-- VeilNations.forget()I -/
def pk81 : List (List pOp) := [[.inl (op_aload 0), .inl (op_getA 8 0), .inl (op_getA 6 2), .inl (op_getI 4 2), .inl (op_istore 1), .inl (op_aload 0), .inl (op_getA 8 0), .inl (op_getA 6 2), .inr (.inl (82, 1, 0, 5)), .inl (op_iload 1), .inr (.inr 1)]]
def pi81 : pI := (⟨"VeilNations", "forget", "()I"⟩, prog_1_method_19_code, 2, some .int, 2, 40, [[0, 1, 4, 7, 10, 11, 12, 15, 18, 21, 22]])
/-- VeilNations$Sights.clear()V -/
def pk82 : List (List pOp) := [[.inl (op_aload 0), .inl (op_ic 0), .inl (op_putI 4 1), .inl (op_aload 0), .inl (op_ic 0), .inl (op_putI 4 2), .inr (.inr 0)]]
def pi82 : pI := (⟨"VeilNations$Sights", "clear", "()V"⟩, prog_6_method_4_code, 1, none, 1, 20, [[0, 1, 2, 5, 6, 7, 10]])
/-- VeilNations.fits(I)I -/
def pk83 : List (List pOp) := [[.inl (op_iload 1), .inl (op_ic (-1)), .inl (op_icmp (fun x y => decide (y ≤ x)) 5), .inl (op_ic (-6)), .inr (.inr 1), .inl (op_aload 0), .inl (op_getA 8 6), .inl (op_aload 0), .inl (op_getA 8 0), .inl (op_getA 6 2), .inr (.inl (84, 2, 0, 4)), .inl (op_iload 1), .inl (op_ic (-1)), .inl (op_icmp (fun x y => decide (¬ x = y)) 18), .inl (op_aload 0), .inl (op_getA 8 6)],
  [.inl (op_getI 3 1), .inl (op_goto 22), .inl (op_aload 0), .inl (op_getA 8 6), .inl (op_iload 1), .inr (.inl (88, 2, 1, 4)), .inr (.inr 1)]]
def pi83 : pI := (⟨"VeilNations", "fits", "(I)I"⟩, prog_1_method_20_code, 2, some .int, 5, 110, [[0, 1, 2, 5, 7, 8, 9, 12, 13, 16, 19, 22, 23, 24, 27, 28], [31, 34, 37, 38, 41, 42, 45]])
/-- VeilNations$Rhythms.gather(LVeilNations$Sights;)V -/
def pk84 : List (List pOp) := [[.inl (op_aload 0), .inl (op_ic 0), .inl (op_putI 3 1), .inl (op_ic 2), .inl (op_istore 2), .inl (op_iload 2), .inl (op_ic 7), .inl (op_icmp (fun x y => decide (y < x)) 36), .inl (op_ic 1), .inl (op_istore 3), .inl (op_iload 3), .inl (op_iload 2), .inl (op_icmp (fun x y => decide (y ≤ x)) 34), .inl (op_ic 0), .inl (op_istore 4), .inl (op_iload 4)],
  [.inl (op_iload 2), .inl (op_icmp (fun x y => decide (y ≤ x)) 32), .inl (op_aload 0), .inl (op_ic 100), .inl (op_iload 2), .inl (op_bin (fun x y => x * y)), .inl (op_ic 10), .inl (op_iload 3), .inl (op_bin (fun x y => x * y)), .inl (op_bin (fun x y => x + y)), .inl (op_iload 4), .inl (op_bin (fun x y => x + y)), .inl (op_aload 1), .inr (.inl (85, 3, 0, 4)), .inl (op_iinc 4 1), .inl (op_goto 15)],
  [.inl (op_iinc 3 1), .inl (op_goto 10), .inl (op_iinc 2 1), .inl (op_goto 5), .inr (.inr 0)]]
def pi84 : pI := (⟨"VeilNations$Rhythms", "gather", "(LVeilNations$Sights;)V"⟩, prog_5_method_3_code, 5, none, 4, 86, [[0, 1, 2, 5, 6, 7, 8, 10, 13, 14, 15, 16, 17, 20, 21, 23], [25, 26, 29, 30, 32, 33, 34, 36, 37, 38, 39, 41, 42, 43, 46, 49], [52, 55, 58, 61, 64]])
/-- VeilNations$Rhythms.gatherOne(ILVeilNations$Sights;)V -/
def pk85 : List (List pOp) := [[.inl (op_aload 0), .inl (op_getI 3 1), .inl (op_ic 0), .inl (op_ic 111), .inr (.inl (11, 3, 1, 0)), .inl (op_if (fun x => decide (x = 0)) 22), .inl (op_aload 2), .inl (op_iload 1), .inr (.inl (86, 2, 1, 5)), .inl (op_if (fun x => decide (x = 0)) 22), .inl (op_aload 0), .inl (op_getA 3 0), .inl (op_aload 0), .inl (op_getI 3 1), .inl (op_iload 1), .inl op_iast],
  [.inl (op_aload 0), .inl op_dup, .inl (op_getI 3 1), .inl (op_ic 1), .inl (op_bin (fun x y => x + y)), .inl (op_putI 3 1), .inr (.inr 0)]]
def pi85 : pI := (⟨"VeilNations$Rhythms", "gatherOne", "(ILVeilNations$Sights;)V"⟩, prog_5_method_4_code, 3, none, 3, 64, [[0, 1, 4, 5, 7, 10, 13, 14, 15, 18, 21, 22, 25, 26, 29, 30], [31, 32, 33, 36, 37, 38, 41]])
/-- VeilNations$Sights.agreeWith(I)Z -/
def pk86 : List (List pOp) := [[.inl (op_ic 0), .inl (op_istore 2), .inl (op_iload 2), .inl (op_aload 0), .inl (op_getI 4 2), .inl (op_icmp (fun x y => decide (y ≤ x)) 24), .inl (op_iload 2), .inl (op_ic 8), .inl (op_icmp (fun x y => decide (y ≤ x)) 24), .inl (op_iload 1), .inl (op_aload 0), .inl (op_getA 4 0), .inl (op_iload 2), .inl (op_iald 0), .inr (.inl (87, 2, 1, 0)), .inl (op_aload 0)],
  [.inl (op_getI 4 1), .inl (op_iload 2), .inr (.inl (45, 2, 1, 0)), .inl (op_icmp (fun x y => decide (x = y)) 22), .inl (op_ic 0), .inr (.inr 3), .inl (op_iinc 2 1), .inl (op_goto 2), .inl (op_ic 1), .inr (.inr 3)]]
def pi86 : pI := (⟨"VeilNations$Sights", "agreeWith", "(I)Z"⟩, prog_6_method_5_code, 3, some .boolean, 2, 42, [[0, 1, 2, 3, 4, 7, 10, 11, 13, 16, 17, 18, 21, 22, 23, 26], [27, 30, 31, 34, 37, 38, 39, 42, 45, 46]])
/-- VeilNations$Rhythms.isDown(II)Z -/
def pk87 : List (List pOp) := [[.inl (op_iload 0), .inl (op_ic 100), .inl (op_div (fun x y => x / y)), .inl (op_istore 2), .inl (op_iload 2), .inl (op_if (fun x => decide (x ≤ 0)) 21), .inl (op_iload 1), .inl (op_iload 0), .inl (op_ic 10), .inl (op_div (fun x y => x % y)), .inl (op_bin (fun x y => x + y)), .inl (op_iload 2), .inl (op_div (fun x y => x % y)), .inl (op_iload 0), .inl (op_ic 10), .inl (op_div (fun x y => x / y))],
  [.inl (op_ic 10), .inl (op_div (fun x y => x % y)), .inl (op_icmp (fun x y => decide (y ≤ x)) 21), .inl (op_ic 1), .inl (op_goto 22), .inl (op_ic 0), .inr (.inr 3)]]
def pi87 : pI := (⟨"VeilNations$Rhythms", "isDown", "(II)Z"⟩, prog_5_method_2_code, 3, some .boolean, 1, 20, [[0, 1, 3, 4, 5, 6, 9, 10, 11, 13, 14, 15, 16, 17, 18, 20], [21, 23, 24, 27, 28, 31, 32]])
/-- VeilNations$Rhythms.at(I)I -/
def pk88 : List (List pOp) := [[.inl (op_iload 1), .inl (op_ic 0), .inl (op_aload 0), .inl (op_getI 3 1), .inl (op_ic 1), .inl (op_bin (fun x y => x - y)), .inr (.inl (11, 3, 1, 0)), .inl (op_if (fun x => decide (x = 0)) 16), .inl (op_iload 1), .inl (op_ic 112), .inl (op_icmp (fun x y => decide (y ≤ x)) 16), .inl (op_aload 0), .inl (op_getA 3 0), .inl (op_iload 1), .inl (op_iald 0), .inl (op_goto 17)],
  [.inl (op_ic (-6)), .inr (.inr 1)]]
def pi88 : pI := (⟨"VeilNations$Rhythms", "at", "(I)I"⟩, prog_5_method_5_code, 2, some .int, 2, 42, [[0, 1, 2, 3, 6, 7, 8, 11, 14, 15, 17, 20, 21, 24, 25, 26], [29, 31]])
/-- VeilNations.ask(I)I -/
def pk89 : List (List pOp) := [[.inl (op_iload 1), .inl (op_ic 0), .inl (op_ic 1), .inr (.inl (11, 3, 1, 0)), .inl (op_if (fun x => decide (¬ x = 0)) 7), .inl (op_ic (-2)), .inr (.inr 1), .inl (op_aload 0), .inl (op_getA 8 6), .inl (op_aload 0), .inl (op_getA 8 0), .inl (op_getA 6 2), .inr (.inl (84, 2, 0, 4)), .inl (op_aload 0), .inl (op_getA 8 6), .inr (.inl (90, 1, 1, 4))],
  [.inl (op_istore 2), .inl (op_iload 1), .inl (op_if (fun x => decide (x = 0)) 22), .inl (op_iload 2), .inl (op_ic (-6)), .inl (op_icmp (fun x y => decide (¬ x = y)) 24), .inl (op_iload 2), .inl (op_goto 28), .inl (op_aload 0), .inl (op_getA 8 6), .inl (op_iload 2), .inr (.inl (91, 2, 1, 4)), .inr (.inr 1)]]
def pi89 : pI := (⟨"VeilNations", "ask", "(I)I"⟩, prog_1_method_21_code, 3, some .int, 5, 110, [[0, 1, 2, 3, 6, 9, 11, 12, 13, 16, 17, 20, 23, 26, 27, 30], [33, 34, 35, 38, 39, 41, 44, 45, 48, 49, 52, 53, 56]])
/-- VeilNations$Rhythms.bestEvening()I -/
def pk90 : List (List pOp) := [[.inl (op_ic (-6)), .inl (op_istore 1), .inl (op_aload 0), .inl (op_getI 3 1), .inl (op_istore 2), .inl (op_ic 0), .inl (op_istore 3), .inl (op_iload 3), .inl (op_ic 60), .inl (op_icmp (fun x y => decide (y < x)) 29), .inl (op_aload 0), .inl (op_getI 3 1), .inl (op_if (fun x => decide (x ≤ 0)) 29), .inl (op_aload 0), .inl (op_iload 3), .inr (.inl (91, 2, 1, 4))],
  [.inl (op_istore 4), .inl (op_iload 1), .inl (op_ic (-6)), .inl (op_icmp (fun x y => decide (x = y)) 23), .inl (op_iload 4), .inl (op_iload 2), .inl (op_icmp (fun x y => decide (y ≤ x)) 27), .inl (op_iload 3), .inl (op_istore 1), .inl (op_iload 4), .inl (op_istore 2), .inl (op_iinc 3 1), .inl (op_goto 7), .inl (op_iload 1), .inr (.inr 1)]]
def pi90 : pI := (⟨"VeilNations$Rhythms", "bestEvening", "()I"⟩, prog_5_method_6_code, 5, some .int, 3, 65, [[0, 2, 3, 4, 7, 8, 9, 10, 11, 13, 16, 17, 20, 23, 24, 25], [28, 30, 31, 33, 36, 38, 39, 42, 43, 44, 46, 47, 50, 53, 54]])
/-- VeilNations$Rhythms.leftAtMost(I)I -/
def pk91 : List (List pOp) := [[.inl (op_ic 0), .inl (op_istore 2), .inl (op_ic 0), .inl (op_istore 3), .inl (op_iload 3), .inl (op_aload 0), .inl (op_getI 3 1), .inl (op_icmp (fun x y => decide (y ≤ x)) 26), .inl (op_iload 3), .inl (op_ic 112), .inl (op_icmp (fun x y => decide (y ≤ x)) 26), .inl (op_iload 2), .inl (op_aload 0), .inl (op_getA 3 0), .inl (op_iload 3), .inl (op_iald 0)],
  [.inl (op_iload 1), .inr (.inl (87, 2, 1, 0)), .inl (op_if (fun x => decide (x = 0)) 21), .inl (op_ic 1), .inl (op_goto 22), .inl (op_ic 0), .inl (op_bin (fun x y => x + y)), .inl (op_istore 2), .inl (op_iinc 3 1), .inl (op_goto 4), .inl (op_iload 2), .inl (op_aload 0), .inl (op_getI 3 1), .inl (op_iload 2), .inl (op_bin (fun x y => x - y)), .inl op_max],
  [.inr (.inr 1)]]
def pi91 : pI := (⟨"VeilNations$Rhythms", "leftAtMost", "(I)I"⟩, prog_5_method_7_code, 4, some .int, 2, 42, [[0, 1, 2, 3, 4, 5, 6, 9, 12, 13, 15, 18, 19, 20, 23, 24], [25, 26, 29, 32, 33, 36, 37, 38, 39, 42, 45, 46, 47, 50, 51, 52], [55]])
/-- VeilNations.lift(I)I -/
def pk92 : List (List pOp) := [[.inl (op_iload 1), .inl (op_ic 0), .inl (op_ic 1), .inr (.inl (11, 3, 1, 0)), .inl (op_if (fun x => decide (¬ x = 0)) 7), .inl (op_ic (-2)), .inr (.inr 1), .inl (op_aload 0), .inl (op_getA 8 0), .inl (op_getA 6 0), .inl (op_getI 7 5), .inr (.inl (93, 1, 1, 0)), .inl (op_istore 2), .inl (op_iload 1), .inl (op_if (fun x => decide (¬ x = 0)) 22), .inl (op_iload 2)],
  [.inl (op_ic (-6)), .inl (op_icmp (fun x y => decide (¬ x = y)) 20), .inl (op_ic 0), .inl (op_goto 21), .inl (op_ic 1), .inr (.inr 1), .inl (op_iload 2), .inr (.inr 1)]]
def pi92 : pI := (⟨"VeilNations", "lift", "(I)I"⟩, prog_1_method_22_code, 3, some .int, 3, 65, [[0, 1, 2, 3, 6, 9, 11, 12, 13, 16, 19, 22, 25, 26, 27, 30], [31, 33, 36, 37, 40, 41, 42, 43]])
/-- VeilNations.winningLift(I)I -/
def pk93 : List (List pOp) := [[.inl (op_ic 0), .inl (op_istore 1), .inl (op_ic 0), .inl (op_istore 2), .inl (op_iload 2), .inl (op_ic 8), .inl (op_icmp (fun x y => decide (y ≤ x)) 21), .inl (op_iload 1), .inl (op_iload 0), .inl (op_iload 2), .inr (.inl (45, 2, 1, 0)), .inl (op_if (fun x => decide (x = 0)) 16), .inl (op_iload 2), .inl (op_ic 1), .inl (op_bin (fun x y => x + y)), .inl (op_goto 17)],
  [.inl (op_ic 0), .inl (op_bin (fun x y => x ^^^ y)), .inl (op_istore 1), .inl (op_iinc 2 1), .inl (op_goto 4), .inl (op_ic 0), .inl (op_istore 2), .inl (op_iload 2), .inl (op_ic 8), .inl (op_icmp (fun x y => decide (y ≤ x)) 62), .inl (op_ic 0), .inl (op_istore 3), .inl (op_iload 0), .inl (op_iload 2), .inr (.inl (45, 2, 1, 0)), .inl (op_if (fun x => decide (x = 0)) 60)],
  [.inl (op_iload 3), .inl (op_iload 2), .inl (op_icmp (fun x y => decide (y < x)) 60), .inl (op_iload 3), .inl (op_iload 2), .inl (op_icmp (fun x y => decide (¬ x = y)) 40), .inl (op_ic 0), .inl (op_goto 43), .inl (op_iload 3), .inl (op_ic 1), .inl (op_bin (fun x y => x + y)), .inl (op_istore 4), .inl (op_iload 1), .inl (op_iload 2), .inl (op_ic 1), .inl (op_bin (fun x y => x + y))],
  [.inl (op_bin (fun x y => x ^^^ y)), .inl (op_iload 4), .inl (op_bin (fun x y => x ^^^ y)), .inl (op_if (fun x => decide (¬ x = 0)) 58), .inl (op_ic 10), .inl (op_iload 2), .inl (op_bin (fun x y => x * y)), .inl (op_iload 3), .inl (op_bin (fun x y => x + y)), .inr (.inr 1), .inl (op_iinc 3 1), .inl (op_goto 28), .inl (op_iinc 2 1), .inl (op_goto 23), .inl (op_ic (-6)), .inr (.inr 1)]]
def pi93 : pI := (⟨"VeilNations", "winningLift", "(I)I"⟩, prog_1_method_31_code, 5, some .int, 2, 41, [[0, 1, 2, 3, 4, 5, 7, 10, 11, 12, 13, 16, 19, 20, 21, 22], [25, 26, 27, 28, 31, 34, 35, 36, 37, 39, 42, 43, 44, 45, 46, 49], [52, 53, 54, 57, 58, 59, 62, 63, 66, 67, 68, 69, 71, 72, 73, 74], [75, 76, 78, 79, 82, 84, 85, 86, 87, 88, 89, 92, 95, 98, 101, 103]])
/-- VeilNations.votes(IIII)J -/
def pk94 : List (List pOp) := [[.inl (op_iload 1), .inl (op_ic 0), .inl (op_ic 20), .inr (.inl (11, 3, 1, 0)), .inl (op_if (fun x => decide (x = 0)) 20), .inl (op_iload 2), .inl (op_ic 0), .inl (op_ic 20), .inr (.inl (11, 3, 1, 0)), .inl (op_if (fun x => decide (x = 0)) 20), .inl (op_iload 3), .inl (op_ic 0), .inl (op_ic 1), .inr (.inl (11, 3, 1, 0)), .inl (op_if (fun x => decide (x = 0)) 20), .inl (op_iload 4)],
  [.inl (op_ic 0), .inl (op_ic 1), .inr (.inl (11, 3, 1, 0)), .inl (op_if (fun x => decide (¬ x = 0)) 22), .inl (op_lc (-1000000000000000002)), .inr (.inr 2), .inl (op_iload 3), .inl (op_if (fun x => decide (¬ x = 0)) 28), .inl (op_iload 1), .inl (op_iload 2), .inl (op_bin (fun x y => x - y)), .inl (op_goto 33), .inl (op_iload 1), .inl (op_ic 1), .inl (op_bin (fun x y => x + y)), .inl (op_iload 2)],
  [.inl (op_bin (fun x y => x - y)), .inl (op_istore 5), .inl (op_iload 3), .inl (op_if (fun x => decide (¬ x = 0)) 40), .inl (op_iload 1), .inl (op_iload 2), .inl (op_bin (fun x y => x + y)), .inl (op_goto 43), .inl (op_iload 1), .inl (op_ic 1), .inl (op_bin (fun x y => x + y)), .inl (op_istore 6), .inl (op_iload 6), .inl (op_if (fun x => decide (¬ x = 0)) 48), .inl (op_lc 1), .inl (op_goto 55)],
  [.inl (op_iload 5), .inl (op_ic 0), .inl op_max, .inl (op_iload 6), .inl (op_iload 4), .inr (.inl (95, 3, 1, 0)), .inl op_i2l, .inr (.inr 2)]]
def pi94 : pI := (⟨"VeilNations", "votes", "(IIII)J"⟩, prog_1_method_23_code, 7, some .long, 2, 44, [[0, 1, 2, 4, 7, 10, 11, 12, 14, 17, 20, 21, 22, 23, 26, 29], [31, 32, 33, 36, 39, 42, 43, 44, 47, 48, 49, 50, 53, 54, 55, 56], [57, 58, 60, 61, 64, 65, 66, 67, 70, 71, 72, 73, 75, 77, 80, 81], [84, 86, 87, 90, 92, 94, 97, 98]])
/-- VeilNations.inLowestTerms(III)I -/
def pk95 : List (List pOp) := [[.inl (op_iload 2), .inl (op_if (fun x => decide (¬ x = 0)) 4), .inl (op_iload 0), .inl (op_goto 5), .inl (op_iload 1), .inl (op_istore 3), .inl (op_iload 1), .inl (op_istore 4), .inl (op_iload 4), .inl (op_ic 1), .inl (op_icmp (fun x y => decide (x ≤ y)) 25), .inl (op_iload 0), .inl (op_iload 4), .inl (op_div (fun x y => x % y)), .inl (op_if (fun x => decide (¬ x = 0)) 23), .inl (op_iload 1)],
  [.inl (op_iload 4), .inl (op_div (fun x y => x % y)), .inl (op_if (fun x => decide (¬ x = 0)) 23), .inl (op_iload 3), .inl (op_iload 4), .inl (op_div (fun x y => x / y)), .inr (.inr 1), .inl (op_iinc 4 (-1)), .inl (op_goto 8), .inl (op_iload 3), .inr (.inr 1)]]
def pi95 : pI := (⟨"VeilNations", "inLowestTerms", "(III)I"⟩, prog_1_method_32_code, 5, some .int, 1, 20, [[0, 1, 4, 5, 8, 9, 10, 11, 13, 15, 16, 19, 20, 22, 23, 26], [27, 29, 30, 33, 34, 36, 37, 38, 41, 44, 45]])
/-- VeilNations.year(III)I -/
def pk96 : List (List pOp) := [[.inl (op_iload 1), .inl (op_ic 0), .inl (op_ic 9999), .inr (.inl (11, 3, 1, 0)), .inl (op_if (fun x => decide (x = 0)) 15), .inl (op_iload 2), .inl (op_ic 1), .inl (op_ic 99), .inr (.inl (11, 3, 1, 0)), .inl (op_if (fun x => decide (x = 0)) 15), .inl (op_iload 3), .inl (op_ic 0), .inl (op_ic 2), .inr (.inl (11, 3, 1, 0)), .inl (op_if (fun x => decide (¬ x = 0)) 17), .inl (op_ic (-2))],
  [.inr (.inr 1), .inl (op_aload 0), .inl (op_getA 8 5), .inl (op_aload 0), .inl (op_getA 8 0), .inl (op_getA 6 0), .inr (.inl (39, 2, 0, 8)), .inl (op_iload 1), .inl (op_istore 4), .inl (op_ic 0), .inl (op_istore 5), .inl (op_iload 5), .inl (op_iload 2), .inl (op_icmp (fun x y => decide (y ≤ x)) 44), .inl (op_ic 75), .inl (op_iload 4)],
  [.inl (op_bin (fun x y => x * y)), .inl (op_ic 74), .inl (op_bin (fun x y => x + y)), .inl (op_ic 65537), .inl (op_div (fun x y => x % y)), .inl (op_istore 4), .inl (op_aload 0), .inl (op_getA 8 5), .inl (op_iload 4), .inr (.inl (97, 2, 0, 0)), .inl (op_iinc 5 1), .inl (op_goto 27), .inl (op_iload 3), .inl (op_if (fun x => decide (¬ x = 0)) 51), .inl (op_aload 0), .inl (op_getA 8 5)],
  [.inl (op_ic 0), .inr (.inl (59, 2, 1, 8)), .inr (.inr 1), .inl (op_iload 3), .inl (op_ic 1), .inl (op_icmp (fun x y => decide (¬ x = y)) 59), .inl (op_aload 0), .inl (op_getA 8 5), .inl (op_getI 7 5), .inr (.inl (18, 1, 1, 0)), .inl (op_goto 62), .inl (op_aload 0), .inl (op_getA 8 5), .inr (.inl (17, 1, 1, 8)), .inr (.inr 1)]]
def pi96 : pI := (⟨"VeilNations", "year", "(III)I"⟩, prog_1_method_24_code, 6, some .int, 6, 134, [[0, 1, 2, 5, 8, 11, 12, 13, 15, 18, 21, 22, 23, 24, 27, 30], [32, 33, 34, 37, 38, 41, 44, 47, 48, 50, 51, 53, 55, 56, 59, 61], [63, 64, 66, 67, 69, 70, 72, 73, 76, 78, 81, 84, 87, 88, 91, 92], [95, 96, 99, 100, 101, 102, 105, 106, 109, 112, 115, 118, 119, 122, 125]])
/-- VeilNations.actAsDrawn(LVeilNations$World;I)V -/
def pk97 : List (List pOp) := [[.inl (op_iload 1), .inl (op_ic 8), .inl (op_div (fun x y => x % y)), .inl (op_istore 2), .inl (op_iload 1), .inl (op_ic 8), .inl (op_div (fun x y => x / y)), .inl (op_ic 8), .inl (op_div (fun x y => x % y)), .inl (op_ic 1), .inl op_max, .inl (op_istore 3), .inl (op_iload 1), .inl (op_ic 64), .inl (op_div (fun x y => x / y)), .inl (op_istore 4)],
  [.inl (op_iload 3), .inl (op_ic 6), .inl (op_icmp (fun x y => decide (¬ x = y)) 25), .inl (op_ic 1), .inl (op_iload 4), .inl (op_ic 9), .inl (op_div (fun x y => x % y)), .inl (op_bin (fun x y => x + y)), .inl (op_goto 28), .inl (op_iload 4), .inl (op_ic 8), .inl (op_div (fun x y => x % y)), .inl (op_istore 5), .inl (op_aload 0), .inl (op_iload 3), .inl (op_iload 2)],
  [.inl (op_iload 5), .inr (.inl (43, 4, 1, 8)), .inl (op_if (fun x => decide (¬ x = 0)) 41), .inl (op_aload 0), .inl (op_iload 3), .inl (op_iload 2), .inl (op_iload 5), .inr (.inl (49, 4, 1, 8)), .inl op_pop, .inr (.inr 0)]]
def pi97 : pI := (⟨"VeilNations", "actAsDrawn", "(LVeilNations$World;I)V"⟩, prog_1_method_30_code, 6, none, 5, 109, [[0, 1, 3, 4, 5, 6, 8, 9, 11, 12, 13, 16, 17, 18, 20, 21], [23, 24, 26, 29, 30, 32, 34, 35, 36, 39, 41, 43, 44, 46, 47, 48], [49, 51, 54, 57, 58, 59, 60, 62, 65, 66]])
/-- VeilNations.image(I)I -/
def pk98 : List (List pOp) := [[.inl (op_iload 1), .inl (op_ic 0), .inl (op_ic 1), .inr (.inl (11, 3, 1, 0)), .inl (op_if (fun x => decide (¬ x = 0)) 7), .inl (op_ic (-2)), .inr (.inr 1), .inl (op_iload 1), .inl (op_if (fun x => decide (¬ x = 0)) 12), .inl (op_aload 0), .inl (op_getA 8 1), .inl (op_goto 14), .inl (op_aload 0), .inl (op_getA 8 2), .inl (op_astore 2), .inl (op_aload 2)],
  [.inl (op_aload 0), .inl (op_getA 8 0), .inr (.inl (99, 2, 0, 7)), .inl (op_aload 2), .inl (op_ic 1), .inl (op_putZ 6 3), .inl (op_ic 1), .inr (.inr 1)]]
def pi98 : pI := (⟨"VeilNations", "image", "(I)I"⟩, prog_1_method_25_code, 3, some .int, 3, 63, [[0, 1, 2, 3, 6, 9, 11, 12, 13, 16, 17, 20, 23, 24, 27, 28], [29, 30, 33, 36, 37, 38, 41, 42]])
/-- VeilNations$Whole.copy(LVeilNations$Whole;)V -/
def pk99 : List (List pOp) := [[.inl (op_aload 0), .inl (op_getA 6 0), .inl (op_aload 1), .inl (op_getA 6 0), .inr (.inl (39, 2, 0, 8)), .inl (op_aload 0), .inl (op_getA 6 1), .inl (op_aload 1), .inl (op_getA 6 1), .inr (.inl (100, 2, 0, 1)), .inl (op_aload 0), .inl (op_getA 6 2), .inl (op_aload 1), .inl (op_getA 6 2), .inr (.inl (101, 2, 0, 5)), .inr (.inr 0)]]
def pi99 : pI := (⟨"VeilNations$Whole", "copy", "(LVeilNations$Whole;)V"⟩, prog_8_method_2_code, 2, none, 2, 42, [[0, 1, 4, 5, 8, 11, 12, 15, 16, 19, 22, 23, 26, 27, 30, 33]])
/-- VeilNations$Calls.copy(LVeilNations$Calls;)V -/
def pk100 : List (List pOp) := [[.inl (op_ic 0), .inl (op_istore 2), .inl (op_iload 2), .inl (op_ic 6), .inl (op_icmp (fun x y => decide (y ≤ x)) 23), .inl (op_aload 0), .inl (op_getA 0 0), .inl (op_iload 2), .inl (op_aload 1), .inl (op_getA 0 0), .inl (op_iload 2), .inl (op_iald 0), .inl op_iast, .inl (op_aload 0), .inl (op_getA 0 1), .inl (op_iload 2)],
  [.inl (op_aload 1), .inl (op_getA 0 1), .inl (op_iload 2), .inl (op_iald 0), .inl op_iast, .inl (op_iinc 2 1), .inl (op_goto 2), .inr (.inr 0)]]
def pi100 : pI := (⟨"VeilNations$Calls", "copy", "(LVeilNations$Calls;)V"⟩, prog_2_method_2_code, 3, none, 1, 20, [[0, 1, 2, 3, 5, 8, 9, 12, 13, 14, 17, 18, 19, 20, 21, 24], [25, 26, 29, 30, 31, 32, 35, 38]])
/-- VeilNations$Sights.copy(LVeilNations$Sights;)V -/
def pk101 : List (List pOp) := [[.inl (op_ic 0), .inl (op_istore 2), .inl (op_iload 2), .inl (op_ic 8), .inl (op_icmp (fun x y => decide (y ≤ x)) 15), .inl (op_aload 0), .inl (op_getA 4 0), .inl (op_iload 2), .inl (op_aload 1), .inl (op_getA 4 0), .inl (op_iload 2), .inl (op_iald 0), .inl op_iast, .inl (op_iinc 2 1), .inl (op_goto 2), .inl (op_aload 0)],
  [.inl (op_aload 1), .inl (op_getI 4 1), .inl (op_putI 4 1), .inl (op_aload 0), .inl (op_aload 1), .inl (op_getI 4 2), .inl (op_putI 4 2), .inr (.inr 0)]]
def pi101 : pI := (⟨"VeilNations$Sights", "copy", "(LVeilNations$Sights;)V"⟩, prog_6_method_2_code, 3, none, 1, 20, [[0, 1, 2, 3, 5, 8, 9, 12, 13, 14, 17, 18, 19, 20, 23, 26], [27, 28, 31, 34, 35, 36, 39, 42]])
/-- VeilNations.restore(I)I -/
def pk102 : List (List pOp) := [[.inl (op_iload 1), .inl (op_ic 0), .inl (op_ic 1), .inr (.inl (11, 3, 1, 0)), .inl (op_if (fun x => decide (¬ x = 0)) 7), .inl (op_ic (-2)), .inr (.inr 1), .inl (op_iload 1), .inl (op_if (fun x => decide (¬ x = 0)) 12), .inl (op_aload 0), .inl (op_getA 8 1), .inl (op_goto 14), .inl (op_aload 0), .inl (op_getA 8 2), .inl (op_astore 2), .inl (op_aload 2)],
  [.inl (op_getI 6 3), .inl (op_if (fun x => decide (¬ x = 0)) 20), .inl (op_ic (-3)), .inr (.inr 1), .inl (op_aload 0), .inl (op_getA 8 0), .inl (op_aload 2), .inr (.inl (99, 2, 0, 7)), .inl (op_ic 1), .inr (.inr 1)]]
def pi102 : pI := (⟨"VeilNations", "restore", "(I)I"⟩, prog_1_method_26_code, 3, some .int, 3, 63, [[0, 1, 2, 3, 6, 9, 11, 12, 13, 16, 17, 20, 23, 24, 27, 28], [29, 32, 35, 37, 38, 39, 42, 43, 46, 47]])
/-- VeilNations.told(I)I -/
def pk103 : List (List pOp) := [[.inl (op_iload 1), .inl (op_ic 10), .inl (op_ic 17), .inr (.inl (11, 3, 1, 0)), .inl (op_if (fun x => decide (x = 0)) 13), .inl (op_aload 0), .inl (op_getA 8 0), .inl (op_getA 6 0), .inl (op_iload 1), .inl (op_ic 10), .inl (op_bin (fun x y => x - y)), .inr (.inl (47, 2, 1, 8)), .inr (.inr 1), .inl (op_iload 1), .inl (op_ic 20), .inl (op_ic 25)],
  [.inr (.inl (11, 3, 1, 0)), .inl (op_if (fun x => decide (x = 0)) 26), .inl (op_aload 0), .inl (op_getA 8 0), .inl (op_getA 6 1), .inl (op_iload 1), .inl (op_ic 20), .inl (op_bin (fun x y => x - y)), .inr (.inl (21, 2, 1, 1)), .inr (.inr 1), .inl (op_iload 1), .inl (op_ic 30), .inl (op_ic 35), .inr (.inl (11, 3, 1, 0)), .inl (op_if (fun x => decide (x = 0)) 39), .inl (op_aload 0)],
  [.inl (op_getA 8 0), .inl (op_getA 6 1), .inl (op_iload 1), .inl (op_ic 30), .inl (op_bin (fun x y => x - y)), .inr (.inl (22, 2, 1, 1)), .inr (.inr 1), .inl (op_iload 1), .inl (op_ic 100), .inl (op_ic 179), .inr (.inl (11, 3, 1, 0)), .inl (op_if (fun x => decide (x = 0)) 55), .inl (op_aload 0), .inl (op_iload 1), .inl (op_ic 100), .inl (op_bin (fun x y => x - y))],
  [.inl (op_ic 10), .inl (op_div (fun x y => x / y)), .inl (op_iload 1), .inl (op_ic 10), .inl (op_div (fun x y => x % y)), .inr (.inl (104, 3, 1, 9)), .inr (.inr 1), .inl (op_iload 1), .inl (op_sw 81 [(0, 57), (1, 61), (2, 66), (3, 71), (4, 76)]), .inl (op_aload 0), .inl (op_getA 8 3), .inl (op_getI 2 4), .inr (.inr 1), .inl (op_aload 0), .inl (op_getA 8 0), .inl (op_getA 6 0)],
  [.inl (op_getI 7 5), .inr (.inr 1), .inl (op_aload 0), .inl (op_getA 8 0), .inl (op_getA 6 0), .inl (op_getI 7 6), .inr (.inr 1), .inl (op_aload 0), .inl (op_getA 8 0), .inl (op_getA 6 0), .inl (op_getI 7 7), .inr (.inr 1), .inl (op_aload 0), .inl (op_getA 8 0), .inl (op_getA 6 2), .inl (op_getI 4 2)],
  [.inr (.inr 1), .inl (op_ic (-2)), .inr (.inr 1)]]
def pi103 : pI := (⟨"VeilNations", "told", "(I)I"⟩, prog_1_method_27_code, 2, some .int, 4, 83, [[0, 1, 3, 5, 8, 11, 12, 15, 18, 19, 21, 22, 25, 26, 27, 29], [31, 34, 37, 38, 41, 44, 45, 47, 48, 51, 52, 53, 55, 57, 60, 63], [64, 67, 70, 71, 73, 74, 77, 78, 79, 81, 84, 87, 90, 91, 92, 94], [95, 97, 98, 99, 101, 102, 105, 106, 107, 140, 141, 144, 147, 148, 149, 152], [155, 158, 159, 160, 163, 166, 169, 170, 171, 174, 177, 180, 181, 182, 185, 188], [191, 192, 194]])
/-- VeilNations.toldOfOne(II)I -/
def pk104 : List (List pOp) := [[.inl (op_iload 2), .inl (op_sw 20 [(0, 2), (1, 8), (2, 14)]), .inl (op_aload 0), .inl (op_getA 8 0), .inl (op_getA 6 0), .inl (op_iload 1), .inr (.inl (12, 2, 1, 8)), .inr (.inr 1), .inl (op_aload 0), .inl (op_getA 8 0), .inl (op_getA 6 0), .inl (op_iload 1), .inr (.inl (105, 2, 1, 8)), .inr (.inr 1), .inl (op_aload 0), .inl (op_getA 8 0)],
  [.inl (op_getA 6 0), .inl (op_iload 1), .inr (.inl (48, 2, 1, 8)), .inr (.inr 1), .inl (op_ic (-2)), .inr (.inr 1)]]
def pi104 : pI := (⟨"VeilNations", "toldOfOne", "(II)I"⟩, prog_1_method_28_code, 3, some .int, 3, 61, [[0, 1, 28, 29, 32, 35, 36, 39, 40, 41, 44, 47, 48, 51, 52, 53], [56, 59, 60, 63, 64, 66]])
/-- VeilNations$World.meshOf(I)I -/
def pk105 : List (List pOp) := [[.inl (op_iload 1), .inr (.inl (10, 1, 1, 0)), .inl (op_if (fun x => decide (x = 0)) 8), .inl (op_aload 0), .inl (op_getA 7 1), .inl (op_iload 1), .inl (op_iald 0), .inl (op_goto 9), .inl (op_ic (-1)), .inr (.inr 1)]]
def pi105 : pI := (⟨"VeilNations$World", "meshOf", "(I)I"⟩, prog_9_method_6_code, 2, some .int, 2, 40, [[0, 1, 4, 7, 8, 11, 12, 13, 16, 17]])
/-- VeilNationsModel.<init>()V -/
def pk106 : List (List pOp) := [[.inl (op_aload 0), .inl op_objinit, .inl (op_aload 0), .inl (op_ic 8), .inl (op_newa 0), .inl (op_putA 9 0), .inl (op_aload 0), .inl (op_ic 8), .inl (op_newa 0), .inl (op_putA 9 1), .inl (op_aload 0), .inl (op_ic 8), .inl (op_newa 0), .inl (op_putA 9 2), .inl (op_aload 0), .inl (op_ic 8)],
  [.inl (op_newa 0), .inl (op_putA 9 3), .inl (op_aload 0), .inl (op_ic 6), .inl (op_newa 0), .inl (op_putA 9 7), .inl (op_aload 0), .inl (op_ic 6), .inl (op_newa 0), .inl (op_putA 9 8), .inl (op_aload 0), .inl (op_ic 8), .inl (op_newa 0), .inl (op_putA 9 9), .inl (op_aload 0), .inl (op_ic 8)],
  [.inl (op_newa 0), .inl (op_putA 9 10), .inl (op_aload 0), .inl (op_ic 60), .inl (op_newa 0), .inl (op_putA 9 12), .inl (op_aload 0), .inl (op_ic 60), .inl (op_newa 0), .inl (op_putA 9 14), .inl (op_aload 0), .inl (op_ic 60), .inl (op_newa 0), .inl (op_putA 9 15), .inl (op_aload 0), .inl (op_ic 60)],
  [.inl (op_newa 0), .inl (op_putA 9 16), .inl (op_aload 0), .inl (op_ic 8), .inl (op_newa 0), .inl (op_putA 9 18), .inl (op_aload 0), .inl (op_ic 27), .inl (op_newa 0), .inl (op_putA 9 19), .inl (op_aload 0), .inl (op_ic 8), .inl (op_newa 0), .inl (op_putA 9 25), .inl (op_aload 0), .inl (op_ic 501)],
  [.inl (op_newa 0), .inl (op_putA 9 26), .inl (op_aload 0), .inl (op_ic 256), .inl (op_newa 1), .inl (op_putA 9 27), .inl (op_aload 0), .inl (op_ic 441), .inl (op_newa 2), .inl (op_putA 9 28), .inl (op_aload 0), .inl (op_ic 441), .inl (op_newa 2), .inl (op_putA 9 29), .inl (op_aload 0), .inl (op_ic 160)],
  [.inl (op_newa 0), .inl (op_putA 9 30), .inl (op_aload 0), .inl (op_ic 2), .inl (op_newa 1), .inl (op_putA 9 31), .inl (op_aload 0), .inl (op_ic 9), .inl (op_putI 9 5), .inl (op_ic 0), .inl (op_istore 1), .inl (op_iload 1), .inl (op_ic 8), .inl (op_icmp (fun x y => decide (y ≤ x)) 101), .inl (op_aload 0), .inl (op_getA 9 1)],
  [.inl (op_iload 1), .inl (op_ic 3), .inl op_iast, .inl (op_iinc 1 1), .inl (op_goto 91), .inl (op_ic 0), .inl (op_istore 1), .inl (op_iload 1), .inl (op_ic 6), .inl (op_icmp (fun x y => decide (y ≤ x)) 113), .inl (op_aload 0), .inl (op_getA 9 7), .inl (op_iload 1), .inl (op_ic 1), .inl op_iast, .inl (op_iinc 1 1)],
  [.inl (op_goto 103), .inr (.inr 0)]]
def pi106 : pI := (⟨"VeilNationsModel", "<init>", "()V"⟩, prog_11_method_1_code, 2, none, 1, 20, [[0, 1, 4, 5, 7, 9, 12, 13, 15, 17, 20, 21, 23, 25, 28, 29], [31, 33, 36, 37, 39, 41, 44, 45, 47, 49, 52, 53, 55, 57, 60, 61], [63, 65, 68, 69, 71, 73, 76, 77, 79, 81, 84, 85, 87, 89, 92, 93], [95, 97, 100, 101, 103, 105, 108, 109, 111, 113, 116, 117, 119, 121, 124, 125], [128, 130, 133, 134, 137, 139, 142, 143, 146, 148, 151, 152, 155, 157, 160, 161], [164, 166, 169, 170, 171, 173, 176, 177, 179, 182, 183, 184, 185, 187, 190, 191], [194, 195, 196, 197, 200, 203, 204, 205, 206, 208, 211, 212, 215, 216, 217, 218], [221, 224]])
/-- VeilNationsModel.one(IIIII)I -/
def pk107 : List (List pOp) := [[.inl (op_iload 1), .inr (.inl (108, 1, 1, 0)), .inl (op_if (fun x => decide (¬ x = 0)) 5), .inl (op_ic (-1)), .inr (.inr 1), .inl (op_iload 2), .inl op_i2l, .inl (op_lc 0), .inl (op_lc 3), .inr (.inl (109, 3, 1, 0)), .inl (op_if (fun x => decide (x = 0)) 29), .inl (op_iload 3), .inl op_i2l, .inl (op_lc 0), .inl (op_lc 1), .inr (.inl (109, 3, 1, 0))],
  [.inl (op_if (fun x => decide (x = 0)) 29), .inl (op_iload 4), .inl op_i2l, .inl (op_lc 1), .inl (op_lc 9), .inr (.inl (109, 3, 1, 0)), .inl (op_if (fun x => decide (x = 0)) 29), .inl (op_iload 5), .inl op_i2l, .inl (op_lc 0), .inl (op_lc 9), .inr (.inl (109, 3, 1, 0)), .inl (op_if (fun x => decide (¬ x = 0)) 31), .inl (op_ic (-2)), .inr (.inr 1), .inl (op_aload 0)],
  [.inl (op_getA 9 0), .inl (op_iload 1), .inl (op_iald 0), .inl (op_istore 6), .inl (op_aload 0), .inl (op_getA 9 0), .inl (op_iload 1), .inl (op_iload 2), .inl op_iast, .inl (op_aload 0), .inl (op_getA 9 1), .inl (op_iload 1), .inl (op_iload 4), .inl op_iast, .inl (op_aload 0), .inl (op_getA 9 2)],
  [.inl (op_iload 1), .inl (op_iload 5), .inl op_iast, .inl (op_aload 0), .inl (op_aload 0), .inl (op_getI 9 4), .inl (op_iload 1), .inl (op_iload 3), .inl (op_ic 1), .inl (op_icmp (fun x y => decide (¬ x = y)) 60), .inl (op_ic 1), .inl (op_goto 61), .inl (op_ic 0), .inr (.inl (110, 3, 1, 0)), .inl (op_putI 9 4), .inl (op_iload 6)],
  [.inr (.inr 1)]]
def pi107 : pI := (⟨"VeilNationsModel", "one", "(IIIII)I"⟩, prog_11_method_8_code, 7, some .int, 3, 65, [[0, 1, 4, 7, 8, 9, 10, 11, 12, 15, 18, 21, 22, 23, 24, 25], [28, 31, 33, 34, 35, 38, 41, 44, 46, 47, 48, 51, 54, 57, 59, 60], [61, 64, 65, 66, 68, 69, 72, 73, 74, 75, 76, 79, 80, 82, 83, 84], [87, 88, 90, 91, 92, 93, 96, 97, 98, 99, 102, 103, 106, 107, 110, 113], [115]])
/-- VeilNationsModel.isOne(I)Z -/
def pk108 : List (List pOp) := [[.inl (op_iload 0), .inl op_i2l, .inl (op_lc 0), .inl (op_lc 7), .inr (.inl (109, 3, 1, 0)), .inr (.inr 3)]]
def pi108 : pI := (⟨"VeilNationsModel", "isOne", "(I)Z"⟩, prog_11_method_5_code, 1, some .boolean, 2, 45, [[0, 1, 2, 3, 6, 9]])
/-- VeilNationsModel.in(JJJ)Z -/
def pk109 : List (List pOp) := [[.inl (op_lload 0), .inl (op_lload 2), .inl op_lcmp, .inl (op_if (fun x => decide (x < 0)) 10), .inl (op_lload 0), .inl (op_lload 4), .inl op_lcmp, .inl (op_if (fun x => decide (0 < x)) 10), .inl (op_ic 1), .inl (op_goto 11), .inl (op_ic 0), .inr (.inr 3)]]
def pi109 : pI := (⟨"VeilNationsModel", "in", "(JJJ)Z"⟩, prog_11_method_3_code, 6, some .boolean, 1, 20, [[0, 1, 2, 3, 6, 7, 9, 10, 13, 14, 17, 18]])
/-- VeilNationsModel.with(IIZ)I -/
def pk110 : List (List pOp) := [[.inl (op_iload 2), .inl (op_if (fun x => decide (x = 0)) 8), .inl (op_iload 0), .inl (op_ic 1), .inl (op_iload 1), .inl (op_bin (fun x y => x <<< (y &&& 31))), .inl (op_bin (fun x y => x ||| y)), .inl (op_goto 15), .inl (op_iload 0), .inl (op_ic 1), .inl (op_iload 1), .inl (op_bin (fun x y => x <<< (y &&& 31))), .inl (op_ic (-1)), .inl (op_bin (fun x y => x ^^^ y)), .inl (op_bin (fun x y => x &&& y)), .inr (.inr 1)]]
def pi110 : pI := (⟨"VeilNationsModel", "with", "(IIZ)I"⟩, prog_11_method_7_code, 3, some .int, 1, 20, [[0, 1, 4, 5, 6, 7, 8, 9, 12, 13, 14, 15, 16, 17, 18, 19]])
/-- VeilNationsModel.treaty(IIZ)I -/
def pk111 : List (List pOp) := [[.inl (op_iload 1), .inr (.inl (108, 1, 1, 0)), .inl (op_if (fun x => decide (x = 0)) 9), .inl (op_iload 2), .inr (.inl (108, 1, 1, 0)), .inl (op_if (fun x => decide (x = 0)) 9), .inl (op_iload 1), .inl (op_iload 2), .inl (op_icmp (fun x y => decide (¬ x = y)) 11), .inl (op_ic (-1)), .inr (.inr 1), .inl (op_aload 0), .inl (op_iload 1), .inl (op_iload 2), .inl (op_iload 3), .inr (.inl (112, 4, 0, 10))],
  [.inl (op_aload 0), .inr (.inl (113, 1, 1, 10)), .inr (.inr 1)]]
def pi111 : pI := (⟨"VeilNationsModel", "treaty", "(IIZ)I"⟩, prog_11_method_11_code, 4, some .int, 3, 65, [[0, 1, 4, 7, 8, 11, 14, 15, 16, 19, 20, 21, 22, 23, 24, 25], [28, 29, 32]])
/-- VeilNationsModel.agree(IIZ)V -/
def pk112 : List (List pOp) := [[.inl (op_aload 0), .inl (op_getA 9 3), .inl (op_iload 1), .inl (op_aload 0), .inl (op_getA 9 3), .inl (op_iload 1), .inl (op_iald 0), .inl (op_iload 2), .inl (op_iload 3), .inr (.inl (110, 3, 1, 0)), .inl op_iast, .inl (op_aload 0), .inl (op_getA 9 3), .inl (op_iload 2), .inl (op_aload 0), .inl (op_getA 9 3)],
  [.inl (op_iload 2), .inl (op_iald 0), .inl (op_iload 1), .inl (op_iload 3), .inr (.inl (110, 3, 1, 0)), .inl op_iast, .inr (.inr 0)]]
def pi112 : pI := (⟨"VeilNationsModel", "agree", "(IIZ)V"⟩, prog_11_method_10_code, 4, none, 2, 42, [[0, 1, 4, 5, 6, 9, 10, 11, 12, 13, 16, 17, 18, 21, 22, 23], [26, 27, 28, 29, 30, 33, 34]])
/-- VeilNationsModel.treatyMany()I -/
def pk113 : List (List pOp) := [[.inl (op_ic 0), .inl (op_istore 1), .inl (op_ic 0), .inl (op_istore 2), .inl (op_iload 2), .inl (op_ic 8), .inl (op_icmp (fun x y => decide (y ≤ x)) 17), .inl (op_iload 1), .inl (op_aload 0), .inl (op_getA 9 3), .inl (op_iload 2), .inl (op_iald 0), .inr (.inl (114, 1, 1, 0)), .inl (op_bin (fun x y => x + y)), .inl (op_istore 1), .inl (op_iinc 2 1)],
  [.inl (op_goto 4), .inl (op_iload 1), .inl (op_ic 2), .inl (op_div (fun x y => x / y)), .inr (.inr 1)]]
def pi113 : pI := (⟨"VeilNationsModel", "treatyMany", "()I"⟩, prog_11_method_9_code, 3, some .int, 2, 42, [[0, 1, 2, 3, 4, 5, 7, 10, 11, 12, 15, 16, 17, 20, 21, 22], [25, 28, 29, 30, 31]])
/-- VeilNationsModel.ones(I)I -/
def pk114 : List (List pOp) := [[.inl (op_ic 0), .inl (op_istore 1), .inl (op_iload 0), .inl (op_istore 2), .inl (op_iload 2), .inl (op_if (fun x => decide (x = 0)) 14), .inl (op_iinc 1 1), .inl (op_iload 2), .inl (op_iload 2), .inl (op_ic 1), .inl (op_bin (fun x y => x - y)), .inl (op_bin (fun x y => x &&& y)), .inl (op_istore 2), .inl (op_goto 4), .inl (op_iload 1), .inr (.inr 1)]]
def pi114 : pI := (⟨"VeilNationsModel", "ones", "(I)I"⟩, prog_11_method_4_code, 3, some .int, 1, 20, [[0, 1, 2, 3, 4, 5, 8, 11, 12, 13, 14, 15, 16, 17, 20, 21]])
/-- VeilNationsModel.hair(I)I -/
def pk115 : List (List pOp) := [[.inl (op_iload 1), .inl op_i2l, .inl (op_lc 0), .inl (op_lc 99), .inr (.inl (109, 3, 1, 0)), .inl (op_if (fun x => decide (¬ x = 0)) 8), .inl (op_ic (-2)), .inr (.inr 1), .inl (op_aload 0), .inl (op_getI 9 5), .inl (op_istore 2), .inl (op_aload 0), .inl (op_iload 1), .inl (op_putI 9 5), .inl (op_iload 2), .inr (.inr 1)]]
def pi115 : pI := (⟨"VeilNationsModel", "hair", "(I)I"⟩, prog_11_method_12_code, 3, some .int, 2, 45, [[0, 1, 2, 3, 6, 9, 12, 14, 15, 16, 19, 20, 21, 22, 25, 26]])
/-- VeilNationsModel.pay(III)I -/
def pk116 : List (List pOp) := [[.inl (op_iload 1), .inl op_i2l, .inl (op_lc 0), .inl (op_lc 5), .inr (.inl (109, 3, 1, 0)), .inl (op_if (fun x => decide (¬ x = 0)) 8), .inl (op_ic (-1)), .inr (.inr 1), .inl (op_iload 2), .inl op_i2l, .inl (op_lc 1), .inl (op_lc 9), .inr (.inl (109, 3, 1, 0)), .inl (op_if (fun x => decide (x = 0)) 20), .inl (op_iload 3), .inl op_i2l],
  [.inl (op_lc 0), .inl (op_lc 99), .inr (.inl (109, 3, 1, 0)), .inl (op_if (fun x => decide (¬ x = 0)) 22), .inl (op_ic (-2)), .inr (.inr 1), .inl (op_ic 100), .inl (op_aload 0), .inl (op_getA 9 7), .inl (op_iload 1), .inl (op_iald 0), .inl (op_bin (fun x y => x * y)), .inl (op_aload 0), .inl (op_getA 9 8), .inl (op_iload 1), .inl (op_iald 0)],
  [.inl (op_bin (fun x y => x + y)), .inl (op_istore 4), .inl (op_aload 0), .inl (op_getA 9 7), .inl (op_iload 1), .inl (op_iload 2), .inl op_iast, .inl (op_aload 0), .inl (op_getA 9 8), .inl (op_iload 1), .inl (op_iload 3), .inl op_iast, .inl (op_iload 4), .inr (.inr 1)]]
def pi116 : pI := (⟨"VeilNationsModel", "pay", "(III)I"⟩, prog_11_method_13_code, 5, some .int, 2, 45, [[0, 1, 2, 3, 6, 9, 12, 13, 14, 15, 16, 17, 20, 23, 26, 27], [28, 29, 32, 35, 38, 40, 41, 43, 44, 47, 48, 49, 50, 51, 54, 55], [56, 57, 59, 60, 63, 64, 65, 66, 67, 70, 71, 72, 73, 75]])
/-- VeilNationsModel.say(I)I -/
def pk117 : List (List pOp) := [[.inl (op_iload 1), .inl op_i2l, .inl (op_lc 33), .inl (op_lc 126), .inr (.inl (109, 3, 1, 0)), .inl (op_if (fun x => decide (¬ x = 0)) 8), .inl (op_ic (-2)), .inr (.inr 1), .inl (op_aload 0), .inl (op_getI 9 13), .inl (op_ic 60), .inl (op_icmp (fun x y => decide (¬ x = y)) 14), .inl (op_ic (-4)), .inr (.inr 1), .inl (op_aload 0), .inl (op_getA 9 12)],
  [.inl (op_aload 0), .inl (op_getI 9 13), .inl (op_iload 1), .inl op_iast, .inl (op_aload 0), .inl op_dup, .inl (op_getI 9 13), .inl (op_ic 1), .inl (op_bin (fun x y => x + y)), .inl (op_putI 9 13), .inl (op_aload 0), .inl (op_getI 9 13), .inr (.inr 1)]]
def pi117 : pI := (⟨"VeilNationsModel", "say", "(I)I"⟩, prog_11_method_14_code, 2, some .int, 2, 45, [[0, 1, 2, 5, 8, 11, 14, 16, 17, 18, 21, 23, 26, 28, 29, 30], [33, 34, 37, 38, 39, 40, 41, 44, 45, 46, 49, 50, 53]])
/-- VeilNationsModel.wipe()I -/
def pk118 : List (List pOp) := [[.inl (op_aload 0), .inl (op_getI 9 13), .inl (op_istore 1), .inl (op_aload 0), .inl (op_ic 0), .inl (op_putI 9 13), .inl (op_iload 1), .inr (.inr 1)]]
def pi118 : pI := (⟨"VeilNationsModel", "wipe", "()I"⟩, prog_11_method_15_code, 2, some .int, 1, 20, [[0, 1, 4, 5, 6, 7, 10, 11]])
/-- VeilNationsModel.fault()I -/
def pk119 : List (List pOp) := [[.inl (op_aload 0), .inl (op_ic 0), .inl (op_putI 9 17), .inl (op_ic 0), .inl (op_istore 1), .inl (op_ic 0), .inl (op_istore 2), .inl (op_iload 2), .inl (op_aload 0), .inl (op_getI 9 13), .inl (op_icmp (fun x y => decide (y ≤ x)) 25), .inl (op_aload 0), .inl (op_iload 1), .inl (op_aload 0), .inl (op_getA 9 12), .inl (op_iload 2)],
  [.inl (op_iald 0), .inr (.inl (120, 3, 1, 10)), .inl (op_istore 1), .inl (op_iload 1), .inl (op_if (fun x => decide (0 ≤ x)) 23), .inl (op_iload 2), .inr (.inr 1), .inl (op_iinc 2 1), .inl (op_goto 7), .inl (op_iload 1), .inl (op_if (fun x => decide (¬ x = 0)) 29), .inl (op_ic (-6)), .inl (op_goto 31), .inl (op_aload 0), .inl (op_getI 9 13), .inr (.inr 1)]]
def pi119 : pI := (⟨"VeilNationsModel", "fault", "()I"⟩, prog_11_method_21_code, 3, some .int, 5, 108, [[0, 1, 2, 5, 6, 7, 8, 9, 10, 11, 14, 17, 18, 19, 20, 23], [24, 25, 28, 29, 30, 33, 34, 35, 38, 41, 42, 45, 47, 50, 51, 54]])
/-- VeilNationsModel.readOn(II)I -/
def pk120 : List (List pOp) := [[.inl (op_iload 1), .inl (op_sw 25 [(0, 2), (1, 6), (4, 10)]), .inl (op_aload 0), .inl (op_iload 2), .inr (.inl (121, 2, 1, 10)), .inr (.inr 1), .inl (op_aload 0), .inl (op_iload 2), .inr (.inl (124, 2, 1, 10)), .inr (.inr 1), .inl (op_iload 2), .inl op_i2l, .inl (op_lc 49), .inl (op_lc 57), .inr (.inl (109, 3, 1, 0)), .inl (op_if (fun x => decide (x = 0)) 23)],
  [.inl (op_aload 0), .inl (op_ic 6), .inl (op_iload 2), .inl (op_ic 48), .inl (op_bin (fun x y => x - y)), .inr (.inl (123, 3, 1, 10)), .inl (op_goto 24), .inl (op_ic (-6)), .inr (.inr 1), .inl (op_iload 2), .inr (.inl (122, 1, 1, 0)), .inl (op_if (fun x => decide (x = 0)) 40), .inl (op_aload 0), .inl (op_iload 1), .inl (op_ic 2), .inl (op_icmp (fun x y => decide (¬ x = y)) 34)],
  [.inl (op_ic 2), .inl (op_goto 35), .inl (op_ic 3), .inl (op_iload 2), .inl (op_ic 65), .inl (op_bin (fun x y => x - y)), .inr (.inl (123, 3, 1, 10)), .inl (op_goto 41), .inl (op_ic (-6)), .inr (.inr 1)]]
def pi120 : pI := (⟨"VeilNationsModel", "readOn", "(II)I"⟩, prog_11_method_20_code, 3, some .int, 4, 86, [[0, 1, 36, 37, 38, 41, 42, 43, 44, 47, 48, 49, 50, 53, 56, 59], [62, 63, 65, 66, 68, 69, 72, 75, 77, 78, 79, 82, 85, 86, 87, 88], [91, 92, 95, 96, 97, 99, 100, 103, 106, 108]])
/-- VeilNationsModel.begin(I)I -/
def pk121 : List (List pOp) := [[.inl (op_aload 0), .inl (op_getA 9 15), .inl (op_aload 0), .inl (op_getI 9 17), .inl (op_iload 1), .inr (.inl (122, 1, 1, 0)), .inl (op_if (fun x => decide (x = 0)) 11), .inl (op_iload 1), .inl (op_ic 65), .inl (op_bin (fun x y => x - y)), .inl (op_goto 12), .inl (op_ic 0), .inl op_iast, .inl (op_iload 1), .inr (.inl (122, 1, 1, 0)), .inl (op_if (fun x => decide (x = 0)) 18)],
  [.inl (op_ic 1), .inl (op_goto 32), .inl (op_iload 1), .inl (op_ic 103), .inl (op_icmp (fun x y => decide (¬ x = y)) 23), .inl (op_ic 4), .inl (op_goto 32), .inl (op_iload 1), .inl (op_ic 46), .inl (op_icmp (fun x y => decide (¬ x = y)) 31), .inl (op_aload 0), .inl (op_ic 7), .inl (op_ic 0), .inr (.inl (123, 3, 1, 10)), .inl (op_goto 32), .inl (op_ic (-6))],
  [.inr (.inr 1)]]
def pi121 : pI := (⟨"VeilNationsModel", "begin", "(I)I"⟩, prog_11_method_18_code, 2, some .int, 3, 65, [[0, 1, 4, 5, 8, 9, 12, 15, 16, 18, 19, 22, 23, 24, 25, 28], [31, 32, 35, 36, 38, 41, 42, 45, 46, 48, 51, 52, 54, 55, 58, 61], [63]])
/-- VeilNationsModel.isLetter(I)Z -/
def pk122 : List (List pOp) := [[.inl (op_iload 0), .inl op_i2l, .inl (op_lc 65), .inl (op_lc 72), .inr (.inl (109, 3, 1, 0)), .inr (.inr 3)]]
def pi122 : pI := (⟨"VeilNationsModel", "isLetter", "(I)Z"⟩, prog_11_method_17_code, 1, some .boolean, 2, 45, [[0, 1, 2, 5, 8, 11]])
/-- VeilNationsModel.close(II)I -/
def pk123 : List (List pOp) := [[.inl (op_aload 0), .inl (op_getA 9 14), .inl (op_aload 0), .inl (op_getI 9 17), .inl (op_iload 1), .inl op_iast, .inl (op_aload 0), .inl (op_getA 9 16), .inl (op_aload 0), .inl (op_getI 9 17), .inl (op_iload 2), .inl op_iast, .inl (op_aload 0), .inl op_dup, .inl (op_getI 9 17), .inl (op_ic 1)],
  [.inl (op_bin (fun x y => x + y)), .inl (op_putI 9 17), .inl (op_ic 0), .inr (.inr 1)]]
def pi123 : pI := (⟨"VeilNationsModel", "close", "(II)I"⟩, prog_11_method_16_code, 3, some .int, 1, 20, [[0, 1, 4, 5, 8, 9, 10, 11, 14, 15, 18, 19, 20, 21, 22, 25], [26, 27, 30, 31]])
/-- VeilNationsModel.deed(I)I -/
def pk124 : List (List pOp) := [[.inl (op_iload 1), .inl (op_sw 26 [(37, 17), (47, 12), (94, 7), (95, 2), (120, 22), (126, 24)]), .inl (op_aload 0), .inl (op_ic 0), .inl (op_ic 0), .inr (.inl (123, 3, 1, 10)), .inr (.inr 1), .inl (op_aload 0), .inl (op_ic 1), .inl (op_ic 0), .inr (.inl (123, 3, 1, 10)), .inr (.inr 1), .inl (op_aload 0), .inl (op_ic 4), .inl (op_ic 0), .inr (.inl (123, 3, 1, 10))],
  [.inr (.inr 1), .inl (op_aload 0), .inl (op_ic 5), .inl (op_ic 0), .inr (.inl (123, 3, 1, 10)), .inr (.inr 1), .inl (op_ic 2), .inr (.inr 1), .inl (op_ic 3), .inr (.inr 1), .inl (op_ic (-6)), .inr (.inr 1)]]
def pi124 : pI := (⟨"VeilNationsModel", "deed", "(I)I"⟩, prog_11_method_19_code, 2, some .int, 2, 42, [[0, 1, 60, 61, 62, 63, 66, 67, 68, 69, 70, 73, 74, 75, 76, 77], [80, 81, 82, 83, 84, 87, 88, 89, 90, 91, 92, 94]])
/-- VeilNationsModel.judge(I)I -/
def pk125 : List (List pOp) := [[.inl (op_iload 1), .inl op_i2l, .inl (op_lc 0), .inl (op_lc 2), .inr (.inl (109, 3, 1, 0)), .inl (op_if (fun x => decide (¬ x = 0)) 8), .inl (op_ic (-2)), .inr (.inr 1), .inl (op_aload 0), .inl (op_aload 0), .inr (.inl (126, 1, 1, 10)), .inr (.inl (139, 2, 1, 10)), .inl (op_istore 2), .inl (op_iload 2), .inl (op_ic (-5)), .inl (op_icmp (fun x y => decide (x = y)) 22)],
  [.inl (op_iload 1), .inl (op_ic 1), .inl (op_icmp (fun x y => decide (x ≤ y)) 24), .inl (op_iload 2), .inl (op_ic (-3)), .inl (op_icmp (fun x y => decide (¬ x = y)) 24), .inl (op_iload 2), .inr (.inr 1), .inl (op_iload 1), .inl (op_if (fun x => decide (¬ x = 0)) 29), .inl (op_aload 0), .inl (op_getI 9 20), .inl (op_goto 37), .inl (op_iload 1), .inl (op_ic 1), .inl (op_icmp (fun x y => decide (¬ x = y)) 35)],
  [.inl (op_aload 0), .inl (op_getI 9 21), .inl (op_goto 37), .inl (op_aload 0), .inl (op_getI 9 22), .inr (.inr 1)]]
def pi125 : pI := (⟨"VeilNationsModel", "judge", "(I)I"⟩, prog_11_method_35_code, 3, some .int, 8, 173, [[0, 1, 2, 3, 6, 9, 12, 14, 15, 16, 17, 20, 23, 24, 25, 27], [30, 31, 32, 35, 36, 38, 41, 42, 43, 44, 47, 48, 51, 54, 55, 56], [59, 60, 63, 66, 67, 70]])
/-- VeilNationsModel.refusal()I -/
def pk126 : List (List pOp) := [[.inl (op_aload 0), .inr (.inl (127, 1, 0, 10)), .inl (op_aload 0), .inr (.inl (119, 1, 1, 10)), .inl (op_if (fun x => decide (x < 0)) 7), .inl (op_ic (-5)), .inr (.inr 1), .inl (op_aload 0), .inr (.inl (128, 1, 0, 10)), .inl (op_aload 0), .inl (op_getI 9 20), .inl (op_if (fun x => decide (x < 0)) 14), .inl (op_ic (-3)), .inl (op_goto 15), .inl (op_ic (-6)), .inr (.inr 1)]]
def pi126 : pI := (⟨"VeilNationsModel", "refusal", "()I"⟩, prog_11_method_34_code, 1, some .int, 7, 153, [[0, 1, 4, 5, 8, 11, 13, 14, 15, 18, 19, 22, 25, 27, 30, 32]])
/-- VeilNationsModel.keepNow()V -/
def pk127 : List (List pOp) := [[.inl (op_ic 0), .inl (op_istore 1), .inl (op_iload 1), .inl (op_ic 8), .inl (op_icmp (fun x y => decide (y ≤ x)) 35), .inl (op_aload 0), .inl (op_getA 9 19), .inl (op_iload 1), .inl (op_aload 0), .inl (op_getA 9 0), .inl (op_iload 1), .inl (op_iald 0), .inl op_iast, .inl (op_aload 0), .inl (op_getA 9 19), .inl (op_ic 8)],
  [.inl (op_iload 1), .inl (op_bin (fun x y => x + y)), .inl (op_aload 0), .inl (op_getA 9 2), .inl (op_iload 1), .inl (op_iald 0), .inl op_iast, .inl (op_aload 0), .inl (op_getA 9 19), .inl (op_ic 16), .inl (op_iload 1), .inl (op_bin (fun x y => x + y)), .inl (op_aload 0), .inl (op_getA 9 3), .inl (op_iload 1), .inl (op_iald 0)],
  [.inl op_iast, .inl (op_iinc 1 1), .inl (op_goto 2), .inl (op_aload 0), .inl (op_getA 9 19), .inl (op_ic 24), .inl (op_aload 0), .inl (op_getI 9 4), .inl op_iast, .inl (op_aload 0), .inl (op_getA 9 19), .inl (op_ic 25), .inl (op_aload 0), .inl (op_getI 9 5), .inl op_iast, .inl (op_aload 0)],
  [.inl (op_getA 9 19), .inl (op_ic 26), .inl (op_aload 0), .inl (op_getI 9 6), .inl op_iast, .inr (.inr 0)]]
def pi127 : pI := (⟨"VeilNationsModel", "keepNow", "()V"⟩, prog_11_method_30_code, 2, none, 1, 20, [[0, 1, 2, 3, 5, 8, 9, 12, 13, 14, 17, 18, 19, 20, 21, 24], [26, 27, 28, 29, 32, 33, 34, 35, 36, 39, 41, 42, 43, 44, 47, 48], [49, 50, 53, 56, 57, 60, 62, 63, 66, 67, 68, 71, 73, 74, 77, 78], [79, 82, 84, 85, 88, 89]])
/-- VeilNationsModel.goDays()V -/
def pk128 : List (List pOp) := [[.inl (op_aload 0), .inl (op_ic (-6)), .inl (op_putI 9 20), .inl (op_aload 0), .inl (op_ic (-6)), .inl (op_putI 9 21), .inl (op_aload 0), .inl (op_ic 0), .inl (op_putI 9 22), .inl (op_aload 0), .inl (op_ic (-6)), .inl (op_putI 9 23), .inl (op_aload 0), .inl (op_ic (-6)), .inl (op_putI 9 24), .inl (op_ic 0)],
  [.inl (op_istore 1), .inl (op_iload 1), .inl (op_aload 0), .inl (op_getI 9 17), .inl (op_icmp (fun x y => decide (y ≤ x)) 60), .inl (op_aload 0), .inl (op_getI 9 20), .inl (op_if (fun x => decide (0 ≤ x)) 60), .inl (op_aload 0), .inl (op_aload 0), .inl (op_getA 9 14), .inl (op_iload 1), .inl (op_iald 0), .inl (op_aload 0), .inl (op_getA 9 15), .inl (op_iload 1)],
  [.inl (op_iald 0), .inl (op_aload 0), .inl (op_getA 9 16), .inl (op_iload 1), .inl (op_iald 0), .inr (.inl (129, 4, 1, 10)), .inl (op_istore 2), .inl (op_aload 0), .inl (op_iload 2), .inl (op_if (fun x => decide (x ≤ 0)) 44), .inl (op_iload 1), .inl (op_goto 45), .inl (op_ic (-6)), .inl (op_putI 9 20), .inl (op_aload 0), .inl (op_iload 2)],
  [.inl (op_if (fun x => decide (x ≤ 0)) 51), .inl (op_iload 2), .inl (op_goto 52), .inl (op_ic (-6)), .inl (op_putI 9 21), .inl (op_iload 2), .inl (op_if (fun x => decide (¬ x = 0)) 58), .inl (op_aload 0), .inl (op_iload 1), .inr (.inl (132, 2, 0, 10)), .inl (op_iinc 1 1), .inl (op_goto 17), .inr (.inr 0)]]
def pi128 : pI := (⟨"VeilNationsModel", "goDays", "()V"⟩, prog_11_method_33_code, 3, none, 6, 131, [[0, 1, 3, 6, 7, 9, 12, 13, 14, 17, 18, 20, 23, 24, 26, 29], [30, 31, 32, 33, 36, 39, 40, 43, 46, 47, 48, 51, 52, 53, 54, 57], [58, 59, 60, 63, 64, 65, 68, 69, 70, 71, 74, 75, 78, 80, 83, 84], [85, 88, 89, 92, 94, 97, 98, 101, 102, 103, 106, 109, 112]])
/-- VeilNationsModel.whyNot(III)I -/
def pk129 : List (List pOp) := [[.inl (op_iload 1), .inl (op_sw 69 [(0, 2), (1, 11), (2, 20), (3, 34), (4, 39), (5, 49), (7, 61)]), .inl (op_aload 0), .inl (op_getI 9 4), .inl (op_iload 2), .inr (.inl (130, 2, 1, 0)), .inl (op_if (fun x => decide (x = 0)) 9), .inl (op_ic 1), .inl (op_goto 10), .inl (op_ic 0), .inr (.inr 1), .inl (op_aload 0), .inl (op_getI 9 4), .inl (op_iload 2), .inr (.inl (130, 2, 1, 0)), .inl (op_if (fun x => decide (x = 0)) 18)],
  [.inl (op_ic 0), .inl (op_goto 19), .inl (op_ic 1), .inr (.inr 1), .inl (op_aload 0), .inl (op_getI 9 4), .inl (op_iload 3), .inr (.inl (130, 2, 1, 0)), .inl (op_if (fun x => decide (¬ x = 0)) 27), .inl (op_ic 1), .inl (op_goto 33), .inl (op_iload 2), .inl (op_iload 3), .inl (op_icmp (fun x y => decide (¬ x = y)) 32), .inl (op_ic 2), .inl (op_goto 33)],
  [.inl (op_ic 0), .inr (.inr 1), .inl (op_aload 0), .inl (op_iload 2), .inl (op_iload 3), .inr (.inl (131, 3, 1, 10)), .inr (.inr 1), .inl (op_aload 0), .inl (op_getA 9 2), .inl (op_iload 2), .inl (op_iald 0), .inl (op_ic 9), .inl (op_icmp (fun x y => decide (¬ x = y)) 47), .inl (op_ic 5), .inl (op_goto 48), .inl (op_ic 0)],
  [.inr (.inr 1), .inl (op_aload 0), .inl (op_getA 9 2), .inl (op_iload 2), .inl (op_iald 0), .inl (op_if (fun x => decide (x = 0)) 57), .inl (op_aload 0), .inl (op_getI 9 5), .inl (op_if (fun x => decide (¬ x = 0)) 59), .inl (op_ic 5), .inl (op_goto 60), .inl (op_ic 0), .inr (.inr 1), .inl (op_aload 0), .inl (op_getI 9 6), .inl (op_ic 99)],
  [.inl (op_icmp (fun x y => decide (¬ x = y)) 67), .inl (op_ic 6), .inl (op_goto 68), .inl (op_ic 0), .inr (.inr 1), .inl (op_ic 0), .inr (.inr 1)]]
def pi129 : pI := (⟨"VeilNationsModel", "whyNot", "(III)I"⟩, prog_11_method_24_code, 4, some .int, 3, 64, [[0, 1, 48, 49, 52, 53, 56, 59, 60, 63, 64, 65, 66, 69, 70, 73], [76, 77, 80, 81, 82, 83, 86, 87, 90, 93, 94, 97, 98, 99, 102, 103], [106, 107, 108, 109, 110, 111, 114, 115, 116, 119, 120, 121, 123, 126, 127, 130], [131, 132, 133, 136, 137, 138, 141, 142, 145, 148, 149, 152, 153, 154, 155, 158], [160, 163, 165, 168, 169, 170, 171]])
/-- VeilNationsModel.has(II)Z -/
def pk130 : List (List pOp) := [[.inl (op_iload 0), .inl (op_iload 1), .inl (op_bin (fun x y => x >>> (y &&& 31))), .inl (op_ic 1), .inl (op_bin (fun x y => x &&& y)), .inl (op_ic 1), .inl (op_icmp (fun x y => decide (¬ x = y)) 9), .inl (op_ic 1), .inl (op_goto 10), .inl (op_ic 0), .inr (.inr 3)]]
def pi130 : pI := (⟨"VeilNationsModel", "has", "(II)Z"⟩, prog_11_method_6_code, 2, some .boolean, 1, 20, [[0, 1, 2, 3, 4, 5, 6, 9, 10, 13, 14]])
/-- VeilNationsModel.whyNoKiss(II)I -/
def pk131 : List (List pOp) := [[.inl (op_aload 0), .inl (op_getA 9 0), .inl (op_iload 1), .inl (op_iald 0), .inl (op_aload 0), .inl (op_getA 9 0), .inl (op_iload 2), .inl (op_iald 0), .inl (op_icmp (fun x y => decide (x = y)) 21), .inl (op_aload 0), .inl (op_getI 9 4), .inl (op_iload 1), .inr (.inl (130, 2, 1, 0)), .inl (op_if (fun x => decide (¬ x = 0)) 19), .inl (op_aload 0), .inl (op_getI 9 4)],
  [.inl (op_iload 2), .inr (.inl (130, 2, 1, 0)), .inl (op_if (fun x => decide (x = 0)) 21), .inl (op_ic 1), .inl (op_goto 22), .inl (op_ic 0), .inl (op_istore 3), .inl (op_iload 1), .inl (op_iload 2), .inl (op_icmp (fun x y => decide (¬ x = y)) 28), .inl (op_ic 2), .inl (op_goto 42), .inl (op_iload 3), .inl (op_if (fun x => decide (x = 0)) 32), .inl (op_ic 3), .inl (op_goto 42)],
  [.inl (op_aload 0), .inl (op_getA 9 3), .inl (op_iload 1), .inl (op_iald 0), .inl (op_iload 2), .inr (.inl (130, 2, 1, 0)), .inl (op_if (fun x => decide (x = 0)) 41), .inl (op_ic 4), .inl (op_goto 42), .inl (op_ic 0), .inr (.inr 1)]]
def pi131 : pI := (⟨"VeilNationsModel", "whyNoKiss", "(II)I"⟩, prog_11_method_23_code, 4, some .int, 2, 41, [[0, 1, 4, 5, 6, 7, 10, 11, 12, 15, 16, 19, 20, 23, 26, 27], [30, 31, 34, 37, 38, 41, 42, 43, 44, 45, 48, 49, 52, 53, 56, 57], [60, 61, 64, 65, 66, 67, 70, 73, 74, 77, 78]])
/-- VeilNationsModel.goOne(I)V -/
def pk132 : List (List pOp) := [[.inl (op_ic 0), .inl (op_istore 2), .inl (op_iload 2), .inl (op_ic 8), .inl (op_icmp (fun x y => decide (y ≤ x)) 15), .inl (op_aload 0), .inl (op_getA 9 25), .inl (op_iload 2), .inl (op_aload 0), .inl (op_getA 9 0), .inl (op_iload 2), .inl (op_iald 0), .inl op_iast, .inl (op_iinc 2 1), .inl (op_goto 2), .inl (op_aload 0)],
  [.inl (op_aload 0), .inl (op_getA 9 14), .inl (op_iload 1), .inl (op_iald 0), .inl (op_aload 0), .inl (op_getA 9 15), .inl (op_iload 1), .inl (op_iald 0), .inl (op_aload 0), .inl (op_getA 9 16), .inl (op_iload 1), .inl (op_iald 0), .inr (.inl (133, 4, 0, 10)), .inl (op_ic 0), .inl (op_istore 2), .inl (op_iload 2)],
  [.inl (op_ic 8), .inl (op_icmp (fun x y => decide (y ≤ x)) 81), .inl (op_aload 0), .inl (op_getA 9 0), .inl (op_iload 2), .inl (op_iald 0), .inl (op_aload 0), .inl (op_getA 9 25), .inl (op_iload 2), .inl (op_iald 0), .inl (op_icmp (fun x y => decide (x = y)) 45), .inl (op_ic 1), .inl (op_goto 46), .inl (op_ic 0), .inl (op_istore 3), .inl (op_aload 0)],
  [.inl op_dup, .inl (op_getI 9 22), .inl (op_iload 3), .inl (op_if (fun x => decide (x = 0)) 54), .inl (op_ic 1), .inl (op_goto 55), .inl (op_ic 0), .inl (op_bin (fun x y => x + y)), .inl (op_putI 9 22), .inl (op_aload 0), .inl (op_iload 3), .inl (op_if (fun x => decide (x = 0)) 65), .inl (op_aload 0), .inl (op_getI 9 23), .inl (op_if (fun x => decide (0 ≤ x)) 65), .inl (op_iload 2)],
  [.inl (op_goto 67), .inl (op_aload 0), .inl (op_getI 9 24), .inl (op_putI 9 24), .inl (op_aload 0), .inl (op_iload 3), .inl (op_if (fun x => decide (x = 0)) 76), .inl (op_aload 0), .inl (op_getI 9 23), .inl (op_if (fun x => decide (0 ≤ x)) 76), .inl (op_iload 1), .inl (op_goto 78), .inl (op_aload 0), .inl (op_getI 9 23), .inl (op_putI 9 23), .inl (op_iinc 2 1)],
  [.inl (op_goto 31), .inr (.inr 0)]]
def pi132 : pI := (⟨"VeilNationsModel", "goOne", "(I)V"⟩, prog_11_method_32_code, 4, none, 5, 108, [[0, 1, 2, 3, 5, 8, 9, 12, 13, 14, 17, 18, 19, 20, 23, 26], [27, 28, 31, 32, 33, 34, 37, 38, 39, 40, 43, 44, 45, 48, 49, 50], [51, 53, 56, 57, 60, 61, 62, 63, 66, 67, 68, 71, 72, 75, 76, 77], [78, 79, 82, 83, 86, 87, 90, 91, 92, 95, 96, 97, 100, 101, 104, 107], [108, 111, 112, 115, 118, 119, 120, 123, 124, 127, 130, 131, 134, 135, 138, 141], [144, 147]])
/-- VeilNationsModel.happen(III)V -/
def pk133 : List (List pOp) := [[.inl (op_iload 1), .inl (op_sw 50 [(0, 2), (1, 11), (2, 22), (3, 27), (4, 33), (5, 42), (6, 46)]), .inl (op_aload 0), .inl op_dup, .inl (op_getI 9 4), .inl (op_ic 1), .inl (op_iload 2), .inl (op_bin (fun x y => x <<< (y &&& 31))), .inl (op_bin (fun x y => x ||| y)), .inl (op_putI 9 4), .inl (op_goto 52), .inl (op_aload 0), .inl op_dup, .inl (op_getI 9 4), .inl (op_ic 1), .inl (op_iload 2)],
  [.inl (op_bin (fun x y => x <<< (y &&& 31))), .inl (op_ic (-1)), .inl (op_bin (fun x y => x ^^^ y)), .inl (op_bin (fun x y => x &&& y)), .inl (op_putI 9 4), .inl (op_goto 52), .inl (op_aload 0), .inl (op_iload 2), .inl (op_iload 3), .inr (.inl (134, 3, 0, 10)), .inl (op_goto 52), .inl (op_aload 0), .inl (op_iload 2), .inl (op_iload 3), .inl (op_ic 1), .inr (.inl (112, 4, 0, 10))],
  [.inl (op_goto 52), .inl (op_aload 0), .inl (op_getA 9 2), .inl (op_iload 2), .inl op_dup2, .inl (op_iald 0), .inl (op_ic 1), .inl (op_bin (fun x y => x + y)), .inl op_iast, .inl (op_goto 52), .inl (op_aload 0), .inl (op_iload 2), .inr (.inl (135, 2, 0, 10)), .inl (op_goto 52), .inl (op_aload 0), .inl (op_iload 3)],
  [.inr (.inl (136, 2, 0, 10)), .inl (op_goto 52), .inl (op_aload 0), .inr (.inl (138, 1, 0, 10)), .inr (.inr 0)]]
def pi133 : pI := (⟨"VeilNationsModel", "happen", "(III)V"⟩, prog_11_method_29_code, 4, none, 4, 85, [[0, 1, 44, 45, 46, 49, 50, 51, 52, 53, 56, 59, 60, 61, 64, 65], [66, 67, 68, 69, 70, 73, 76, 77, 78, 79, 82, 85, 86, 87, 88, 89], [92, 95, 96, 99, 100, 101, 102, 103, 104, 105, 108, 109, 110, 113, 116, 117], [118, 121, 124, 125, 128]])
/-- VeilNationsModel.annex(II)V -/
def pk134 : List (List pOp) := [[.inl (op_aload 0), .inl op_dup, .inl (op_getI 9 4), .inl (op_ic 1), .inl (op_iload 2), .inl (op_bin (fun x y => x <<< (y &&& 31))), .inl (op_ic (-1)), .inl (op_bin (fun x y => x ^^^ y)), .inl (op_bin (fun x y => x &&& y)), .inl (op_putI 9 4), .inl (op_aload 0), .inl (op_getA 9 0), .inl (op_iload 2), .inl (op_aload 0), .inl (op_getA 9 0), .inl (op_iload 1)],
  [.inl (op_iald 0), .inl op_iast, .inr (.inr 0)]]
def pi134 : pI := (⟨"VeilNationsModel", "annex", "(II)V"⟩, prog_11_method_25_code, 3, none, 1, 20, [[0, 1, 2, 5, 6, 7, 8, 9, 10, 11, 14, 15, 18, 19, 20, 23], [24, 25, 26]])
/-- VeilNationsModel.mend(I)V -/
def pk135 : List (List pOp) := [[.inl (op_aload 0), .inl (op_getA 9 2), .inl (op_iload 1), .inl op_dup2, .inl (op_iald 0), .inl (op_ic 1), .inl (op_bin (fun x y => x - y)), .inl op_iast, .inl (op_aload 0), .inl op_dup, .inl (op_getI 9 5), .inl (op_ic 1), .inl (op_bin (fun x y => x - y)), .inl (op_putI 9 5), .inr (.inr 0)]]
def pi135 : pI := (⟨"VeilNationsModel", "mend", "(I)V"⟩, prog_11_method_28_code, 2, none, 1, 20, [[0, 1, 4, 5, 6, 7, 8, 9, 10, 11, 12, 15, 16, 17, 20]])
/-- VeilNationsModel.gust(I)V -/
def pk136 : List (List pOp) := [[.inl (op_ic 0), .inl (op_istore 2), .inl (op_ic 0), .inl (op_istore 3), .inl (op_iload 3), .inl (op_ic 8), .inl (op_icmp (fun x y => decide (y ≤ x)) 22), .inl (op_iload 2), .inl (op_aload 0), .inl (op_iload 3), .inr (.inl (137, 2, 1, 10)), .inl (op_iload 1), .inl (op_icmp (fun x y => decide (y ≤ x)) 17), .inl (op_ic 1), .inl (op_iload 3), .inl (op_bin (fun x y => x <<< (y &&& 31)))],
  [.inl (op_goto 18), .inl (op_ic 0), .inl (op_bin (fun x y => x ||| y)), .inl (op_istore 2), .inl (op_iinc 3 1), .inl (op_goto 4), .inl (op_aload 0), .inl op_dup, .inl (op_getI 9 4), .inl (op_iload 2), .inl (op_ic (-1)), .inl (op_bin (fun x y => x ^^^ y)), .inl (op_bin (fun x y => x &&& y)), .inl (op_putI 9 4), .inr (.inr 0)]]
def pi136 : pI := (⟨"VeilNationsModel", "gust", "(I)V"⟩, prog_11_method_26_code, 4, none, 3, 62, [[0, 1, 2, 3, 4, 5, 7, 10, 11, 12, 13, 16, 17, 20, 21, 22], [23, 26, 27, 28, 29, 32, 35, 36, 37, 40, 41, 42, 43, 44, 47]])
/-- VeilNationsModel.thick(I)I -/
def pk137 : List (List pOp) := [[.inl (op_aload 0), .inl (op_getI 9 4), .inl (op_iload 1), .inr (.inl (130, 2, 1, 0)), .inl (op_if (fun x => decide (x = 0)) 24), .inl (op_aload 0), .inl (op_getA 9 1), .inl (op_iload 1), .inl (op_iald 0), .inl (op_aload 0), .inl (op_getA 9 2), .inl (op_iload 1), .inl (op_iald 0), .inl (op_icmp (fun x y => decide (x ≤ y)) 24), .inl (op_aload 0), .inl (op_getA 9 1)],
  [.inl (op_iload 1), .inl (op_iald 0), .inl (op_aload 0), .inl (op_getA 9 2), .inl (op_iload 1), .inl (op_iald 0), .inl (op_bin (fun x y => x - y)), .inl (op_goto 25), .inl (op_ic 0), .inr (.inr 1)]]
def pi137 : pI := (⟨"VeilNationsModel", "thick", "(I)I"⟩, prog_11_method_22_code, 2, some .int, 2, 41, [[0, 1, 4, 5, 8, 11, 12, 15, 16, 17, 18, 21, 22, 23, 26, 27], [30, 31, 32, 33, 36, 37, 38, 39, 42, 43]])
/-- VeilNationsModel.passDay()V -/
def pk138 : List (List pOp) := [[.inl (op_ic 0), .inl (op_istore 1), .inl (op_iload 1), .inl (op_ic 8), .inl (op_icmp (fun x y => decide (y ≤ x)) 64), .inl (op_iload 1), .inl (op_ic 8), .inl (op_bin (fun x y => x + y)), .inl (op_ic 1), .inl (op_bin (fun x y => x - y)), .inl (op_ic 8), .inl (op_div (fun x y => x % y)), .inl (op_istore 2), .inl (op_iload 1), .inl (op_ic 1), .inl (op_bin (fun x y => x + y))],
  [.inl (op_ic 8), .inl (op_div (fun x y => x % y)), .inl (op_istore 3), .inl (op_aload 0), .inl (op_getI 9 4), .inl (op_iload 2), .inr (.inl (130, 2, 1, 0)), .inl (op_if (fun x => decide (¬ x = 0)) 40), .inl (op_aload 0), .inl (op_getI 9 4), .inl (op_iload 3), .inr (.inl (130, 2, 1, 0)), .inl (op_if (fun x => decide (¬ x = 0)) 40), .inl (op_aload 0), .inl (op_getA 9 0), .inl (op_iload 2)],
  [.inl (op_iald 0), .inl (op_aload 0), .inl (op_getA 9 0), .inl (op_iload 3), .inl (op_iald 0), .inl (op_icmp (fun x y => decide (¬ x = y)) 40), .inl (op_ic 1), .inl (op_goto 41), .inl (op_ic 0), .inl (op_istore 4), .inl (op_aload 0), .inl (op_getA 9 18), .inl (op_iload 1), .inl (op_aload 0), .inl (op_getI 9 4), .inl (op_iload 1)],
  [.inr (.inl (130, 2, 1, 0)), .inl (op_if (fun x => decide (x = 0)) 57), .inl (op_iload 4), .inl (op_if (fun x => decide (x = 0)) 57), .inl (op_aload 0), .inl (op_getA 9 0), .inl (op_iload 2), .inl (op_iald 0), .inl (op_goto 61), .inl (op_aload 0), .inl (op_getA 9 0), .inl (op_iload 1), .inl (op_iald 0), .inl op_iast, .inl (op_iinc 1 1), .inl (op_goto 2)],
  [.inl (op_ic 0), .inl (op_istore 1), .inl (op_iload 1), .inl (op_ic 8), .inl (op_icmp (fun x y => decide (y ≤ x)) 79), .inl (op_aload 0), .inl (op_getA 9 0), .inl (op_iload 1), .inl (op_aload 0), .inl (op_getA 9 18), .inl (op_iload 1), .inl (op_iald 0), .inl op_iast, .inl (op_iinc 1 1), .inl (op_goto 66), .inl (op_aload 0)],
  [.inl op_dup, .inl (op_getI 9 6), .inl (op_ic 1), .inl (op_bin (fun x y => x + y)), .inl (op_putI 9 6), .inr (.inr 0)]]
def pi138 : pI := (⟨"VeilNationsModel", "passDay", "()V"⟩, prog_11_method_27_code, 5, none, 2, 41, [[0, 1, 2, 3, 5, 8, 9, 11, 12, 13, 14, 16, 17, 18, 19, 20], [21, 23, 24, 25, 26, 29, 30, 33, 36, 37, 40, 41, 44, 47, 48, 51], [52, 53, 54, 57, 58, 59, 62, 63, 66, 67, 69, 70, 73, 74, 75, 78], [79, 82, 85, 87, 90, 91, 94, 95, 96, 99, 100, 103, 104, 105, 106, 109], [112, 113, 114, 115, 117, 120, 121, 124, 125, 126, 129, 130, 131, 132, 135, 138], [139, 140, 143, 144, 145, 148]])
/-- VeilNationsModel.back(I)I -/
def pk139 : List (List pOp) := [[.inl (op_ic 0), .inl (op_istore 2), .inl (op_iload 2), .inl (op_ic 8), .inl (op_icmp (fun x y => decide (y ≤ x)) 35), .inl (op_aload 0), .inl (op_getA 9 0), .inl (op_iload 2), .inl (op_aload 0), .inl (op_getA 9 19), .inl (op_iload 2), .inl (op_iald 0), .inl op_iast, .inl (op_aload 0), .inl (op_getA 9 2), .inl (op_iload 2)],
  [.inl (op_aload 0), .inl (op_getA 9 19), .inl (op_ic 8), .inl (op_iload 2), .inl (op_bin (fun x y => x + y)), .inl (op_iald 0), .inl op_iast, .inl (op_aload 0), .inl (op_getA 9 3), .inl (op_iload 2), .inl (op_aload 0), .inl (op_getA 9 19), .inl (op_ic 16), .inl (op_iload 2), .inl (op_bin (fun x y => x + y)), .inl (op_iald 0)],
  [.inl op_iast, .inl (op_iinc 2 1), .inl (op_goto 2), .inl (op_aload 0), .inl (op_aload 0), .inl (op_getA 9 19), .inl (op_ic 24), .inl (op_iald 0), .inl (op_putI 9 4), .inl (op_aload 0), .inl (op_aload 0), .inl (op_getA 9 19), .inl (op_ic 25), .inl (op_iald 0), .inl (op_putI 9 5), .inl (op_aload 0)],
  [.inl (op_aload 0), .inl (op_getA 9 19), .inl (op_ic 26), .inl (op_iald 0), .inl (op_putI 9 6), .inl (op_iload 1), .inr (.inr 1)]]
def pi139 : pI := (⟨"VeilNationsModel", "back", "(I)I"⟩, prog_11_method_31_code, 3, some .int, 1, 20, [[0, 1, 2, 3, 5, 8, 9, 12, 13, 14, 17, 18, 19, 20, 21, 24], [25, 26, 29, 31, 32, 33, 34, 35, 36, 39, 40, 41, 44, 46, 47, 48], [49, 50, 53, 56, 57, 58, 61, 63, 64, 67, 68, 69, 72, 74, 75, 78], [79, 80, 83, 85, 86, 89, 90]])
/-- VeilNationsModel.behind(II)I -/
def pk140 : List (List pOp) := [[.inl (op_iload 1), .inr (.inl (108, 1, 1, 0)), .inl (op_if (fun x => decide (¬ x = 0)) 5), .inl (op_ic (-1)), .inr (.inr 1), .inl (op_iload 2), .inl op_i2l, .inl (op_lc 0), .inl (op_lc 3), .inr (.inl (109, 3, 1, 0)), .inl (op_if (fun x => decide (¬ x = 0)) 13), .inl (op_ic (-2)), .inr (.inr 1), .inl (op_aload 0), .inr (.inl (126, 1, 1, 10)), .inl (op_istore 3)],
  [.inl (op_aload 0), .inl (op_iload 3), .inl (op_ic (-6)), .inl (op_icmp (fun x y => decide (x = y)) 22), .inl (op_iload 3), .inl (op_goto 26), .inl (op_aload 0), .inl (op_iload 1), .inl (op_iload 2), .inr (.inl (141, 3, 1, 10)), .inr (.inl (139, 2, 1, 10)), .inr (.inr 1)]]
def pi140 : pI := (⟨"VeilNationsModel", "behind", "(II)I"⟩, prog_11_method_37_code, 4, some .int, 8, 173, [[0, 1, 4, 7, 8, 9, 10, 11, 12, 15, 18, 21, 23, 24, 25, 28], [29, 30, 31, 33, 36, 37, 40, 41, 42, 43, 46, 49]])
/-- VeilNationsModel.ofOne(II)I -/
def pk141 : List (List pOp) := [[.inl (op_iload 2), .inl (op_if (fun x => decide (¬ x = 0)) 7), .inl (op_aload 0), .inl (op_getA 9 0), .inl (op_iload 1), .inl (op_iald 0), .inl (op_goto 28), .inl (op_iload 2), .inl (op_ic 1), .inl (op_icmp (fun x y => decide (¬ x = y)) 17), .inl (op_aload 0), .inl (op_getI 9 4), .inl (op_iload 1), .inl (op_bin (fun x y => x >>> (y &&& 31))), .inl (op_ic 1), .inl (op_bin (fun x y => x &&& y))],
  [.inl (op_goto 28), .inl (op_iload 2), .inl (op_ic 2), .inl (op_icmp (fun x y => decide (¬ x = y)) 25), .inl (op_aload 0), .inl (op_getA 9 2), .inl (op_iload 1), .inl (op_iald 0), .inl (op_goto 28), .inl (op_aload 0), .inl (op_iload 1), .inr (.inl (137, 2, 1, 10)), .inr (.inr 1)]]
def pi141 : pI := (⟨"VeilNationsModel", "ofOne", "(II)I"⟩, prog_11_method_36_code, 3, some .int, 3, 62, [[0, 1, 4, 5, 8, 9, 10, 13, 14, 15, 18, 19, 22, 23, 24, 25], [26, 29, 30, 31, 34, 35, 38, 39, 40, 43, 44, 45, 48]])
/-- VeilNationsModel.states(I)I -/
def pk142 : List (List pOp) := [[.inl (op_iload 1), .inl op_i2l, .inl (op_lc 0), .inl (op_lc 6), .inr (.inl (109, 3, 1, 0)), .inl (op_if (fun x => decide (¬ x = 0)) 8), .inl (op_ic (-2)), .inr (.inr 1), .inl (op_aload 0), .inr (.inl (126, 1, 1, 10)), .inl (op_istore 2), .inl (op_aload 0), .inl (op_iload 2), .inl (op_ic (-6)), .inl (op_icmp (fun x y => decide (x = y)) 17), .inl (op_iload 2)],
  [.inl (op_goto 20), .inl (op_aload 0), .inl (op_iload 1), .inr (.inl (143, 2, 1, 10)), .inr (.inl (139, 2, 1, 10)), .inr (.inr 1)]]
def pi142 : pI := (⟨"VeilNationsModel", "states", "(I)I"⟩, prog_11_method_40_code, 3, some .int, 8, 173, [[0, 1, 2, 3, 6, 9, 12, 14, 15, 16, 19, 20, 21, 22, 24, 27], [28, 31, 32, 33, 36, 39]])
/-- VeilNationsModel.ofAll(I)I -/
def pk143 : List (List pOp) := [[.inl (op_iload 1), .inl (op_ic 4), .inl (op_icmp (fun x y => decide (y ≤ x)) 7), .inl (op_aload 0), .inl (op_iload 1), .inr (.inl (144, 2, 1, 10)), .inl (op_goto 21), .inl (op_iload 1), .inl (op_ic 4), .inl (op_icmp (fun x y => decide (¬ x = y)) 13), .inl (op_aload 0), .inl (op_getI 9 5), .inl (op_goto 21), .inl (op_iload 1), .inl (op_ic 5), .inl (op_icmp (fun x y => decide (¬ x = y)) 19)],
  [.inl (op_aload 0), .inl (op_getI 9 6), .inl (op_goto 21), .inl (op_aload 0), .inr (.inl (113, 1, 1, 10)), .inr (.inr 1)]]
def pi143 : pI := (⟨"VeilNationsModel", "ofAll", "(I)I"⟩, prog_11_method_39_code, 2, some .int, 3, 64, [[0, 1, 2, 5, 6, 7, 10, 13, 14, 15, 18, 19, 22, 25, 26, 27], [30, 31, 34, 37, 38, 41]])
/-- VeilNationsModel.manyOf(I)I -/
def pk144 : List (List pOp) := [[.inl (op_ic 0), .inl (op_istore 2), .inl (op_ic 0), .inl (op_istore 3), .inl (op_iload 3), .inl (op_ic 8), .inl (op_icmp (fun x y => decide (y ≤ x)) 21), .inl (op_iload 2), .inl (op_aload 0), .inl (op_getA 9 0), .inl (op_iload 3), .inl (op_iald 0), .inl (op_iload 1), .inl (op_icmp (fun x y => decide (¬ x = y)) 16), .inl (op_ic 1), .inl (op_goto 17)],
  [.inl (op_ic 0), .inl (op_bin (fun x y => x + y)), .inl (op_istore 2), .inl (op_iinc 3 1), .inl (op_goto 4), .inl (op_iload 2), .inr (.inr 1)]]
def pi144 : pI := (⟨"VeilNationsModel", "manyOf", "(I)I"⟩, prog_11_method_38_code, 4, some .int, 1, 20, [[0, 1, 2, 3, 4, 5, 7, 10, 11, 12, 15, 16, 17, 18, 21, 22], [25, 26, 27, 28, 31, 34, 35]])
/-- VeilNationsModel.annexed(I)I -/
def pk145 : List (List pOp) := [[.inl (op_iload 1), .inl op_i2l, .inl (op_lc 0), .inl (op_lc 1), .inr (.inl (109, 3, 1, 0)), .inl (op_if (fun x => decide (¬ x = 0)) 8), .inl (op_ic (-2)), .inr (.inr 1), .inl (op_aload 0), .inl (op_aload 0), .inr (.inl (126, 1, 1, 10)), .inr (.inl (139, 2, 1, 10)), .inl (op_istore 2), .inl (op_iload 2), .inl (op_ic (-6)), .inl (op_icmp (fun x y => decide (x = y)) 18)],
  [.inl (op_iload 2), .inl (op_goto 25), .inl (op_iload 1), .inl (op_if (fun x => decide (¬ x = 0)) 23), .inl (op_aload 0), .inl (op_getI 9 23), .inl (op_goto 25), .inl (op_aload 0), .inl (op_getI 9 24), .inr (.inr 1)]]
def pi145 : pI := (⟨"VeilNationsModel", "annexed", "(I)I"⟩, prog_11_method_41_code, 3, some .int, 8, 173, [[0, 1, 2, 3, 4, 7, 10, 12, 13, 14, 15, 18, 21, 22, 23, 25], [28, 29, 32, 33, 36, 37, 40, 43, 44, 47]])
/-- VeilNationsModel.done()I -/
def pk146 : List (List pOp) := [[.inl (op_aload 0), .inr (.inl (126, 1, 1, 10)), .inl (op_istore 1), .inl (op_iload 1), .inl (op_ic (-6)), .inl (op_icmp (fun x y => decide (x = y)) 10), .inl (op_aload 0), .inl (op_iload 1), .inr (.inl (139, 2, 1, 10)), .inr (.inr 1), .inl (op_aload 0), .inl (op_ic 0), .inl (op_putI 9 13), .inl (op_aload 0), .inl (op_getI 9 17), .inr (.inr 1)]]
def pi146 : pI := (⟨"VeilNationsModel", "done", "()I"⟩, prog_11_method_42_code, 2, some .int, 8, 173, [[0, 1, 4, 5, 6, 8, 11, 12, 13, 16, 17, 18, 19, 22, 23, 26]])
/-- VeilNationsModel.sees(II)I -/
def pk147 : List (List pOp) := [[.inl (op_iload 1), .inr (.inl (108, 1, 1, 0)), .inl (op_if (fun x => decide (¬ x = 0)) 5), .inl (op_ic (-1)), .inr (.inr 1), .inl (op_iload 2), .inl op_i2l, .inl (op_lc 0), .inl (op_lc 99), .inr (.inl (109, 3, 1, 0)), .inl (op_if (fun x => decide (x = 0)) 23), .inl (op_aload 0), .inl (op_iload 1), .inl (op_iload 2), .inl (op_ic 1), .inr (.inl (148, 4, 1, 10))],
  [.inl (op_aload 0), .inl (op_iload 1), .inl (op_iload 2), .inl (op_ic (-1)), .inr (.inl (148, 4, 1, 10)), .inl (op_bin (fun x y => x ||| y)), .inl (op_goto 24), .inl (op_ic (-2)), .inr (.inr 1)]]
def pi147 : pI := (⟨"VeilNationsModel", "sees", "(II)I"⟩, prog_11_method_44_code, 3, some .int, 4, 89, [[0, 1, 4, 7, 8, 9, 10, 11, 12, 15, 18, 21, 22, 23, 24, 25], [28, 29, 30, 31, 32, 35, 36, 39, 41]])
/-- VeilNationsModel.seenBy(III)I -/
def pk148 : List (List pOp) := [[.inl (op_ic 0), .inl (op_istore 4), .inl (op_aload 0), .inl (op_iload 1), .inr (.inl (137, 2, 1, 10)), .inl (op_istore 5), .inl (op_ic 1), .inl (op_istore 6), .inl (op_iload 6), .inl (op_ic 8), .inl (op_icmp (fun x y => decide (y ≤ x)) 40), .inl (op_iload 1), .inl (op_iload 6), .inl (op_iload 3), .inl (op_bin (fun x y => x * y)), .inl (op_bin (fun x y => x + y))],
  [.inl (op_ic 64), .inl (op_bin (fun x y => x + y)), .inl (op_ic 8), .inl (op_div (fun x y => x % y)), .inl (op_istore 7), .inl (op_iload 5), .inl (op_aload 0), .inl (op_iload 7), .inr (.inl (137, 2, 1, 10)), .inl (op_bin (fun x y => x + y)), .inl (op_istore 5), .inl (op_iload 4), .inl (op_iload 5), .inl (op_iload 2), .inl (op_icmp (fun x y => decide (y < x)) 35), .inl (op_ic 1)],
  [.inl (op_iload 7), .inl (op_bin (fun x y => x <<< (y &&& 31))), .inl (op_goto 36), .inl (op_ic 0), .inl (op_bin (fun x y => x ||| y)), .inl (op_istore 4), .inl (op_iinc 6 1), .inl (op_goto 8), .inl (op_iload 4), .inr (.inr 1)]]
def pi148 : pI := (⟨"VeilNationsModel", "seenBy", "(III)I"⟩, prog_11_method_43_code, 8, some .int, 3, 62, [[0, 1, 3, 4, 5, 8, 10, 11, 13, 15, 17, 20, 21, 23, 24, 25], [26, 28, 29, 31, 32, 34, 36, 37, 39, 42, 43, 45, 47, 49, 50, 53], [54, 56, 57, 60, 61, 62, 64, 67, 70, 72]])
/-- VeilNationsModel.camps(I)I -/
def pk149 : List (List pOp) := [[.inl (op_iload 1), .inl op_i2l, .inl (op_lc 0), .inl (op_lc 1), .inr (.inl (109, 3, 1, 0)), .inl (op_if (fun x => decide (¬ x = 0)) 8), .inl (op_ic (-2)), .inr (.inr 1), .inl (op_ic 1), .inl (op_istore 2), .inl (op_ic 3), .inl (op_istore 3), .inl (op_iload 3), .inl (op_ic 255), .inl (op_icmp (fun x y => decide (y < x)) 28), .inl (op_aload 0)],
  [.inl (op_iload 3), .inr (.inl (150, 2, 1, 10)), .inl (op_aload 0), .inl (op_iload 2), .inr (.inl (150, 2, 1, 10)), .inl (op_icmp (fun x y => decide (y ≤ x)) 24), .inl (op_iload 3), .inl (op_goto 25), .inl (op_iload 2), .inl (op_istore 2), .inl (op_iinc 3 2), .inl (op_goto 12), .inl (op_iload 1), .inl (op_if (fun x => decide (¬ x = 0)) 34), .inl (op_aload 0), .inl (op_iload 2)],
  [.inr (.inl (150, 2, 1, 10)), .inl (op_goto 35), .inl (op_iload 2), .inr (.inr 1)]]
def pi149 : pI := (⟨"VeilNationsModel", "camps", "(I)I"⟩, prog_11_method_46_code, 4, some .int, 3, 67, [[0, 1, 2, 3, 4, 7, 10, 12, 13, 14, 15, 16, 17, 18, 21, 24], [25, 26, 29, 30, 31, 34, 37, 38, 41, 42, 43, 46, 49, 50, 53, 54], [55, 58, 61, 62]])
/-- VeilNationsModel.quarrels(I)I -/
def pk150 : List (List pOp) := [[.inl (op_ic 0), .inl (op_istore 2), .inl (op_ic 1), .inl (op_istore 3), .inl (op_iload 3), .inl (op_ic 8), .inl (op_icmp (fun x y => decide (y ≤ x)) 57), .inl (op_ic 0), .inl (op_istore 4), .inl (op_iload 4), .inl (op_iload 3), .inl (op_icmp (fun x y => decide (y ≤ x)) 55), .inl (op_iload 1), .inl (op_iload 4), .inr (.inl (130, 2, 1, 0)), .inl (op_iload 1)],
  [.inl (op_iload 3), .inr (.inl (130, 2, 1, 0)), .inl (op_icmp (fun x y => decide (x = y)) 21), .inl (op_ic 1), .inl (op_goto 22), .inl (op_ic 0), .inl (op_istore 5), .inl (op_aload 0), .inl (op_getA 9 3), .inl (op_iload 4), .inl (op_iald 0), .inl (op_iload 3), .inr (.inl (130, 2, 1, 0)), .inl (op_istore 6), .inl (op_iload 2), .inl (op_iload 5)],
  [.inl (op_if (fun x => decide (x = 0)) 35), .inl (op_iload 6), .inl (op_if (fun x => decide (¬ x = 0)) 48), .inl (op_iload 5), .inl (op_if (fun x => decide (¬ x = 0)) 50), .inl (op_iload 6), .inl (op_if (fun x => decide (¬ x = 0)) 50), .inl (op_aload 0), .inl (op_getA 9 0), .inl (op_iload 4), .inl (op_iald 0), .inl (op_aload 0), .inl (op_getA 9 0), .inl (op_iload 3), .inl (op_iald 0), .inl (op_icmp (fun x y => decide (x = y)) 50)],
  [.inl (op_ic 1), .inl (op_goto 51), .inl (op_ic 0), .inl (op_bin (fun x y => x + y)), .inl (op_istore 2), .inl (op_iinc 4 1), .inl (op_goto 9), .inl (op_iinc 3 1), .inl (op_goto 4), .inl (op_iload 2), .inr (.inr 1)]]
def pi150 : pI := (⟨"VeilNationsModel", "quarrels", "(I)I"⟩, prog_11_method_45_code, 7, some .int, 2, 41, [[0, 1, 2, 3, 4, 5, 7, 10, 11, 13, 15, 16, 19, 20, 22, 25], [26, 27, 30, 33, 34, 37, 38, 40, 41, 44, 46, 47, 48, 51, 53, 54], [56, 59, 61, 64, 66, 69, 71, 74, 75, 78, 80, 81, 82, 85, 86, 87], [90, 91, 94, 95, 96, 97, 100, 103, 106, 109, 110]])
/-- VeilNationsModel.late(I)I -/
def pk151 : List (List pOp) := [[.inl (op_iload 1), .inl op_i2l, .inl (op_lc 0), .inl (op_lc 1), .inr (.inl (109, 3, 1, 0)), .inl (op_if (fun x => decide (¬ x = 0)) 8), .inl (op_ic (-2)), .inr (.inr 1), .inl (op_ic 0), .inl (op_istore 2), .inl (op_ic 1), .inl (op_istore 3), .inl (op_iload 3), .inl (op_ic 64), .inl (op_icmp (fun x y => decide (y ≤ x)) 30), .inl (op_iload 3)],
  [.inr (.inl (114, 1, 1, 0)), .inl (op_iload 2), .inr (.inl (114, 1, 1, 0)), .inl (op_icmp (fun x y => decide (x ≤ y)) 26), .inl (op_aload 0), .inl (op_iload 3), .inr (.inl (152, 2, 1, 10)), .inl (op_if (fun x => decide (x = 0)) 26), .inl (op_iload 3), .inl (op_goto 27), .inl (op_iload 2), .inl (op_istore 2), .inl (op_iinc 3 1), .inl (op_goto 12), .inl (op_iload 1), .inl (op_if (fun x => decide (¬ x = 0)) 37)],
  [.inl (op_ic 6), .inl (op_iload 2), .inr (.inl (114, 1, 1, 0)), .inl (op_bin (fun x y => x - y)), .inl (op_goto 38), .inl (op_iload 2), .inr (.inr 1)]]
def pi151 : pI := (⟨"VeilNationsModel", "late", "(I)I"⟩, prog_11_method_49_code, 4, some .int, 4, 89, [[0, 1, 2, 3, 4, 7, 10, 12, 13, 14, 15, 16, 17, 18, 20, 23], [24, 27, 28, 31, 34, 35, 36, 39, 42, 43, 46, 47, 48, 51, 54, 55], [58, 60, 61, 64, 65, 68, 69]])
/-- VeilNationsModel.isInTime(I)Z -/
def pk152 : List (List pOp) := [[.inl (op_ic 0), .inl (op_istore 2), .inl (op_iload 1), .inl (op_istore 3), .inl (op_ic 1), .inl (op_istore 4), .inl (op_iload 3), .inl (op_if (fun x => decide (x = 0)) 40), .inl (op_iload 4), .inl (op_if (fun x => decide (x = 0)) 40), .inl (op_aload 0), .inl (op_iload 3), .inr (.inl (153, 2, 1, 10)), .inl (op_istore 5), .inl (op_iload 2), .inl (op_aload 0)],
  [.inl (op_getA 9 7), .inl (op_iload 5), .inl (op_iald 0), .inl (op_bin (fun x y => x + y)), .inl (op_istore 2), .inl (op_iload 2), .inl (op_aload 0), .inl (op_getA 9 8), .inl (op_iload 5), .inl (op_iald 0), .inl (op_icmp (fun x y => decide (y < x)) 29), .inl (op_ic 1), .inl (op_goto 30), .inl (op_ic 0), .inl (op_istore 4), .inl (op_iload 3)],
  [.inl (op_ic 1), .inl (op_iload 5), .inl (op_bin (fun x y => x <<< (y &&& 31))), .inl (op_ic (-1)), .inl (op_bin (fun x y => x ^^^ y)), .inl (op_bin (fun x y => x &&& y)), .inl (op_istore 3), .inl (op_goto 6), .inl (op_iload 4), .inr (.inr 3)]]
def pi152 : pI := (⟨"VeilNationsModel", "isInTime", "(I)Z"⟩, prog_11_method_48_code, 6, some .boolean, 3, 64, [[0, 1, 2, 3, 4, 5, 7, 8, 11, 13, 16, 17, 18, 21, 23, 24], [25, 28, 30, 31, 32, 33, 34, 35, 38, 40, 41, 44, 45, 48, 49, 51], [52, 53, 55, 56, 57, 58, 59, 60, 63, 65]])
/-- VeilNationsModel.nextCall(I)I -/
def pk153 : List (List pOp) := [[.inl (op_ic (-6)), .inl (op_istore 2), .inl (op_ic 0), .inl (op_istore 3), .inl (op_iload 3), .inl (op_ic 6), .inl (op_icmp (fun x y => decide (y ≤ x)) 28), .inl (op_iload 1), .inl (op_iload 3), .inr (.inl (130, 2, 1, 0)), .inl (op_if (fun x => decide (x = 0)) 24), .inl (op_iload 2), .inl (op_if (fun x => decide (x < 0)) 22), .inl (op_aload 0), .inl (op_getA 9 8), .inl (op_iload 3)],
  [.inl (op_iald 0), .inl (op_aload 0), .inl (op_getA 9 8), .inl (op_iload 2), .inl (op_iald 0), .inl (op_icmp (fun x y => decide (y ≤ x)) 24), .inl (op_iload 3), .inl (op_goto 25), .inl (op_iload 2), .inl (op_istore 2), .inl (op_iinc 3 1), .inl (op_goto 4), .inl (op_iload 2), .inr (.inr 1)]]
def pi153 : pI := (⟨"VeilNationsModel", "nextCall", "(I)I"⟩, prog_11_method_47_code, 4, some .int, 2, 41, [[0, 2, 3, 4, 5, 6, 8, 11, 12, 13, 16, 19, 20, 23, 24, 27], [28, 29, 30, 33, 34, 35, 38, 39, 42, 43, 44, 47, 50, 51]])
/-- VeilNationsModel.stamps(IIIII)I -/
def pk154 : List (List pOp) := [[.inl (op_iload 1), .inr (.inl (155, 1, 1, 0)), .inl (op_if (fun x => decide (x = 0)) 21), .inl (op_iload 2), .inr (.inl (155, 1, 1, 0)), .inl (op_if (fun x => decide (x = 0)) 21), .inl (op_iload 3), .inr (.inl (155, 1, 1, 0)), .inl (op_if (fun x => decide (x = 0)) 21), .inl (op_iload 4), .inl op_i2l, .inl (op_lc 0), .inl (op_lc 200), .inr (.inl (109, 3, 1, 0)), .inl (op_if (fun x => decide (x = 0)) 21), .inl (op_iload 5)],
  [.inl op_i2l, .inl (op_lc 0), .inl (op_lc 2), .inr (.inl (109, 3, 1, 0)), .inl (op_if (fun x => decide (¬ x = 0)) 23), .inl (op_ic (-2)), .inr (.inr 1), .inl (op_iload 5), .inl (op_ic 1), .inl (op_icmp (fun x y => decide (¬ x = y)) 33), .inl (op_aload 0), .inl (op_iload 1), .inl (op_iload 2), .inl (op_iload 3), .inl (op_iload 4), .inr (.inl (156, 5, 1, 10))],
  [.inr (.inr 1), .inl (op_aload 0), .inl (op_getA 9 26), .inl (op_ic 0), .inl (op_ic 0), .inl op_iast, .inl (op_ic 1), .inl (op_istore 6), .inl (op_iload 6), .inl (op_ic 500), .inl (op_icmp (fun x y => decide (y < x)) 65), .inl (op_aload 0), .inl (op_getA 9 26), .inl (op_iload 6), .inl (op_aload 0), .inl (op_aload 0)],
  [.inl (op_aload 0), .inl (op_ic (-6)), .inl (op_iload 6), .inl (op_iload 1), .inl (op_bin (fun x y => x - y)), .inr (.inl (157, 3, 1, 10)), .inl (op_iload 6), .inl (op_iload 2), .inl (op_bin (fun x y => x - y)), .inr (.inl (157, 3, 1, 10)), .inl (op_iload 6), .inl (op_iload 3), .inl (op_bin (fun x y => x - y)), .inr (.inl (157, 3, 1, 10)), .inl op_iast, .inl (op_iinc 6 1)],
  [.inl (op_goto 40), .inl (op_iload 5), .inl (op_if (fun x => decide (¬ x = 0)) 72), .inl (op_aload 0), .inl (op_getA 9 26), .inl (op_iload 4), .inl (op_iald 0), .inl (op_goto 83), .inl (op_iload 1), .inl (op_iload 2), .inr (.inl (158, 2, 1, 0)), .inl (op_iload 3), .inr (.inl (158, 2, 1, 0)), .inl (op_ic 1), .inl (op_icmp (fun x y => decide (x ≤ y)) 81), .inl (op_ic (-6))],
  [.inl (op_goto 83), .inl (op_aload 0), .inr (.inl (159, 1, 1, 10)), .inr (.inr 1)]]
def pi154 : pI := (⟨"VeilNationsModel", "stamps", "(IIIII)I"⟩, prog_11_method_55_code, 7, some .int, 3, 65, [[0, 1, 4, 7, 8, 11, 14, 15, 18, 21, 23, 24, 25, 28, 31, 34], [36, 37, 38, 41, 44, 47, 49, 50, 52, 53, 56, 57, 58, 59, 60, 62], [65, 66, 67, 70, 71, 72, 73, 74, 76, 78, 81, 84, 85, 88, 90, 91], [92, 93, 95, 97, 98, 99, 102, 104, 105, 106, 109, 111, 112, 113, 116, 117], [120, 123, 125, 128, 129, 132, 134, 135, 138, 139, 140, 143, 144, 147, 148, 151], [153, 156, 157, 160]])
/-- VeilNationsModel.isWorth(I)Z -/
def pk155 : List (List pOp) := [[.inl (op_iload 0), .inl op_i2l, .inl (op_lc 1), .inl (op_lc 20), .inr (.inl (109, 3, 1, 0)), .inr (.inr 3)]]
def pi155 : pI := (⟨"VeilNationsModel", "isWorth", "(I)Z"⟩, prog_11_method_54_code, 1, some .boolean, 2, 45, [[0, 1, 2, 3, 6, 9]])
/-- VeilNationsModel.waysFor(IIII)I -/
def pk156 : List (List pOp) := [[.inl (op_ic 0), .inl (op_istore 5), .inl (op_ic 0), .inl (op_istore 6), .inl (op_iload 6), .inl (op_iload 4), .inl (op_icmp (fun x y => decide (y < x)) 34), .inl (op_iload 6), .inl (op_istore 7), .inl (op_iload 7), .inl (op_iload 4), .inl (op_icmp (fun x y => decide (y < x)) 29), .inl (op_iload 5), .inl (op_iload 4), .inl (op_iload 7), .inl (op_bin (fun x y => x - y))],
  [.inl (op_iload 3), .inl (op_div (fun x y => x % y)), .inl (op_if (fun x => decide (¬ x = 0)) 21), .inl (op_ic 1), .inl (op_goto 22), .inl (op_ic 0), .inl (op_bin (fun x y => x + y)), .inl (op_istore 5), .inl (op_iload 7), .inl (op_iload 2), .inl (op_bin (fun x y => x + y)), .inl (op_istore 7), .inl (op_goto 9), .inl (op_iload 6), .inl (op_iload 1), .inl (op_bin (fun x y => x + y))],
  [.inl (op_istore 6), .inl (op_goto 4), .inl (op_iload 5), .inr (.inr 1)]]
def pi156 : pI := (⟨"VeilNationsModel", "waysFor", "(IIII)I"⟩, prog_11_method_51_code, 8, some .int, 1, 20, [[0, 1, 3, 4, 6, 8, 10, 13, 15, 17, 19, 21, 24, 26, 28, 30], [31, 32, 33, 36, 37, 40, 41, 42, 44, 46, 47, 48, 50, 53, 55, 56], [57, 59, 62, 64]])
/-- VeilNationsModel.oneMore(II)I -/
def pk157 : List (List pOp) := [[.inl (op_iload 2), .inl (op_if (fun x => decide (x < 0)) 7), .inl (op_aload 0), .inl (op_getA 9 26), .inl (op_iload 2), .inl (op_iald 0), .inl (op_if (fun x => decide (0 ≤ x)) 9), .inl (op_ic (-6)), .inl (op_goto 15), .inl (op_aload 0), .inl (op_getA 9 26), .inl (op_iload 2), .inl (op_iald 0), .inl (op_ic 1), .inl (op_bin (fun x y => x + y)), .inl (op_istore 3)],
  [.inl (op_iload 1), .inl (op_if (fun x => decide (x < 0)) 23), .inl (op_iload 3), .inl (op_if (fun x => decide (x < 0)) 25), .inl (op_iload 3), .inl (op_iload 1), .inl (op_icmp (fun x y => decide (y ≤ x)) 25), .inl (op_iload 3), .inl (op_goto 26), .inl (op_iload 1), .inr (.inr 1)]]
def pi157 : pI := (⟨"VeilNationsModel", "oneMore", "(II)I"⟩, prog_11_method_50_code, 4, some .int, 1, 20, [[0, 1, 4, 5, 8, 9, 10, 13, 15, 18, 19, 22, 23, 24, 25, 26], [27, 28, 31, 32, 35, 36, 37, 40, 41, 44, 45]])
/-- VeilNationsModel.common(II)I -/
def pk158 : List (List pOp) := [[.inl (op_iload 0), .inl (op_istore 2), .inl (op_iload 1), .inl (op_istore 3), .inl (op_iload 3), .inl (op_if (fun x => decide (x = 0)) 15), .inl (op_iload 2), .inl (op_iload 3), .inl (op_div (fun x y => x % y)), .inl (op_istore 4), .inl (op_iload 3), .inl (op_istore 2), .inl (op_iload 4), .inl (op_istore 3), .inl (op_goto 4), .inl (op_iload 2)],
  [.inr (.inr 1)]]
def pi158 : pI := (⟨"VeilNationsModel", "common", "(II)I"⟩, prog_11_method_52_code, 5, some .int, 1, 20, [[0, 1, 2, 3, 4, 5, 8, 9, 10, 11, 13, 14, 15, 17, 18, 21], [22]])
/-- VeilNationsModel.greatestNot()I -/
def pk159 : List (List pOp) := [[.inl (op_ic (-6)), .inl (op_istore 1), .inl (op_ic 0), .inl (op_istore 2), .inl (op_iload 2), .inl (op_ic 500), .inl (op_icmp (fun x y => decide (y < x)) 18), .inl (op_aload 0), .inl (op_getA 9 26), .inl (op_iload 2), .inl (op_iald 0), .inl (op_if (fun x => decide (0 ≤ x)) 14), .inl (op_iload 2), .inl (op_goto 15), .inl (op_iload 1), .inl (op_istore 1)],
  [.inl (op_iinc 2 1), .inl (op_goto 4), .inl (op_iload 1), .inr (.inr 1)]]
def pi159 : pI := (⟨"VeilNationsModel", "greatestNot", "()I"⟩, prog_11_method_53_code, 3, some .int, 1, 20, [[0, 2, 3, 4, 5, 6, 9, 12, 13, 16, 17, 18, 21, 22, 25, 26], [27, 30, 33, 34]])
/-- VeilNationsModel.seen(IZ)I -/
def pk160 : List (List pOp) := [[.inl (op_iload 1), .inl op_i2l, .inl (op_lc 0), .inl (op_lc 60), .inr (.inl (109, 3, 1, 0)), .inl (op_if (fun x => decide (¬ x = 0)) 8), .inl (op_ic (-2)), .inr (.inr 1), .inl (op_aload 0), .inl (op_getI 9 11), .inl (op_ic 8), .inl (op_icmp (fun x y => decide (¬ x = y)) 14), .inl (op_ic (-4)), .inr (.inr 1), .inl (op_aload 0), .inl (op_getA 9 9)],
  [.inl (op_aload 0), .inl (op_getI 9 11), .inl (op_iload 1), .inl op_iast, .inl (op_aload 0), .inl (op_getA 9 10), .inl (op_aload 0), .inl (op_getI 9 11), .inl (op_iload 2), .inl (op_if (fun x => decide (x = 0)) 28), .inl (op_ic 1), .inl (op_goto 29), .inl (op_ic 0), .inl op_iast, .inl (op_aload 0), .inl op_dup],
  [.inl (op_getI 9 11), .inl (op_ic 1), .inl (op_bin (fun x y => x + y)), .inl (op_putI 9 11), .inl (op_aload 0), .inl (op_getI 9 11), .inr (.inr 1)]]
def pi160 : pI := (⟨"VeilNationsModel", "seen", "(IZ)I"⟩, prog_11_method_56_code, 3, some .int, 2, 45, [[0, 1, 2, 3, 6, 9, 12, 14, 15, 16, 19, 21, 24, 26, 27, 28], [31, 32, 35, 36, 37, 38, 41, 42, 45, 46, 49, 50, 53, 54, 55, 56], [57, 60, 61, 62, 65, 66, 69]])
/-- VeilNationsModel.forget()I -/
def pk161 : List (List pOp) := [[.inl (op_aload 0), .inl (op_getI 9 11), .inl (op_istore 1), .inl (op_aload 0), .inl (op_ic 0), .inl (op_putI 9 11), .inl (op_iload 1), .inr (.inr 1)]]
def pi161 : pI := (⟨"VeilNationsModel", "forget", "()I"⟩, prog_11_method_57_code, 2, some .int, 1, 20, [[0, 1, 4, 5, 6, 7, 10, 11]])
/-- VeilNationsModel.fits(I)I -/
def pk162 : List (List pOp) := [[.inl (op_ic 0), .inl (op_istore 2), .inl (op_ic 200), .inl (op_istore 3), .inl (op_iload 3), .inl (op_ic 800), .inl (op_icmp (fun x y => decide (y ≤ x)) 19), .inl (op_aload 0), .inl (op_iload 3), .inr (.inl (163, 2, 1, 10)), .inl (op_if (fun x => decide (x = 0)) 17), .inl (op_iload 2), .inl (op_iload 1), .inl (op_icmp (fun x y => decide (¬ x = y)) 16), .inl (op_iload 3), .inr (.inr 1)],
  [.inl (op_iinc 2 1), .inl (op_iinc 3 1), .inl (op_goto 4), .inl (op_iload 1), .inl (op_ic (-1)), .inl (op_icmp (fun x y => decide (¬ x = y)) 24), .inl (op_iload 2), .inl (op_goto 25), .inl (op_ic (-6)), .inr (.inr 1)]]
def pi162 : pI := (⟨"VeilNationsModel", "fits", "(I)I"⟩, prog_11_method_60_code, 4, some .int, 3, 69, [[0, 1, 2, 5, 6, 7, 10, 13, 14, 15, 18, 21, 22, 23, 26, 27], [28, 31, 34, 37, 38, 39, 42, 43, 46, 48]])
/-- VeilNationsModel.isFit(I)Z -/
def pk163 : List (List pOp) := [[.inl (op_iload 1), .inl (op_ic 100), .inl (op_div (fun x y => x / y)), .inl (op_istore 2), .inl (op_iload 1), .inl (op_ic 10), .inl (op_div (fun x y => x / y)), .inl (op_ic 10), .inl (op_div (fun x y => x % y)), .inl op_i2l, .inl (op_lc 1), .inl (op_iload 2), .inl (op_ic 1), .inl (op_bin (fun x y => x - y)), .inl op_i2l, .inr (.inl (109, 3, 1, 0))],
  [.inl (op_if (fun x => decide (x = 0)) 30), .inl (op_iload 1), .inl (op_ic 10), .inl (op_div (fun x y => x % y)), .inl op_i2l, .inl (op_lc 0), .inl (op_iload 2), .inl (op_ic 1), .inl (op_bin (fun x y => x - y)), .inl op_i2l, .inr (.inl (109, 3, 1, 0)), .inl (op_if (fun x => decide (x = 0)) 30), .inl (op_ic 1), .inl (op_goto 31), .inl (op_ic 0), .inl (op_istore 3)],
  [.inl (op_ic 0), .inl (op_istore 4), .inl (op_iload 4), .inl (op_aload 0), .inl (op_getI 9 11), .inl (op_icmp (fun x y => decide (y ≤ x)) 57), .inl (op_iload 3), .inl (op_if (fun x => decide (x = 0)) 53), .inl (op_iload 1), .inl (op_aload 0), .inl (op_getA 9 9), .inl (op_iload 4), .inl (op_iald 0), .inr (.inl (164, 2, 1, 0)), .inl (op_aload 0), .inl (op_getA 9 10)],
  [.inl (op_iload 4), .inl (op_iald 0), .inl (op_icmp (fun x y => decide (¬ x = y)) 53), .inl (op_ic 1), .inl (op_goto 54), .inl (op_ic 0), .inl (op_istore 3), .inl (op_iinc 4 1), .inl (op_goto 34), .inl (op_iload 3), .inr (.inr 3)]]
def pi163 : pI := (⟨"VeilNationsModel", "isFit", "(I)Z"⟩, prog_11_method_59_code, 5, some .boolean, 2, 45, [[0, 1, 3, 4, 5, 6, 8, 9, 11, 12, 13, 14, 15, 16, 17, 18], [21, 24, 25, 27, 28, 29, 30, 31, 32, 33, 34, 37, 40, 41, 44, 45], [46, 47, 49, 51, 52, 55, 58, 59, 62, 63, 64, 67, 69, 70, 73, 74], [77, 79, 80, 83, 84, 87, 88, 89, 92, 95, 96]])
/-- VeilNationsModel.downBy(II)I -/
def pk164 : List (List pOp) := [[.inl (op_iload 1), .inl (op_iload 0), .inl (op_ic 10), .inl (op_div (fun x y => x % y)), .inl (op_bin (fun x y => x + y)), .inl (op_iload 0), .inl (op_ic 100), .inl (op_div (fun x y => x / y)), .inl (op_div (fun x y => x % y)), .inl (op_iload 0), .inl (op_ic 10), .inl (op_div (fun x y => x / y)), .inl (op_ic 10), .inl (op_div (fun x y => x % y)), .inl (op_icmp (fun x y => decide (y ≤ x)) 17), .inl (op_ic 1)],
  [.inl (op_goto 18), .inl (op_ic 0), .inr (.inr 1)]]
def pi164 : pI := (⟨"VeilNationsModel", "downBy", "(II)I"⟩, prog_11_method_58_code, 2, some .int, 1, 20, [[0, 1, 2, 4, 5, 6, 7, 9, 10, 11, 12, 14, 15, 17, 18, 21], [22, 25, 26]])
/-- VeilNationsModel.ask(I)I -/
def pk165 : List (List pOp) := [[.inl (op_iload 1), .inl op_i2l, .inl (op_lc 0), .inl (op_lc 1), .inr (.inl (109, 3, 1, 0)), .inl (op_if (fun x => decide (¬ x = 0)) 8), .inl (op_ic (-2)), .inr (.inr 1), .inl (op_aload 0), .inl (op_ic (-1)), .inr (.inl (162, 2, 1, 10)), .inl (op_istore 2), .inl (op_ic (-6)), .inl (op_istore 3), .inl (op_iload 2), .inl (op_ic 1)],
  [.inl (op_bin (fun x y => x + y)), .inl (op_istore 4), .inl (op_ic 0), .inl (op_istore 5), .inl (op_iload 5), .inl (op_ic 60), .inl (op_icmp (fun x y => decide (y < x)) 73), .inl (op_iload 2), .inl (op_if (fun x => decide (x ≤ 0)) 73), .inl (op_ic 0), .inl (op_istore 6), .inl (op_ic 200), .inl (op_istore 7), .inl (op_iload 7), .inl (op_ic 800), .inl (op_icmp (fun x y => decide (y ≤ x)) 46)],
  [.inl (op_iload 6), .inl (op_aload 0), .inl (op_iload 7), .inr (.inl (163, 2, 1, 10)), .inl (op_if (fun x => decide (x = 0)) 41), .inl (op_iload 7), .inl (op_iload 5), .inr (.inl (164, 2, 1, 0)), .inl (op_goto 42), .inl (op_ic 0), .inl (op_bin (fun x y => x + y)), .inl (op_istore 6), .inl (op_iinc 7 1), .inl (op_goto 29), .inl (op_iload 6), .inl (op_iload 2)],
  [.inl (op_iload 6), .inl (op_bin (fun x y => x - y)), .inl (op_icmp (fun x y => decide (x ≤ y)) 53), .inl (op_iload 6), .inl (op_goto 56), .inl (op_iload 2), .inl (op_iload 6), .inl (op_bin (fun x y => x - y)), .inl (op_istore 7), .inl (op_iload 7), .inl (op_iload 4), .inl (op_icmp (fun x y => decide (y ≤ x)) 62), .inl (op_iload 5), .inl (op_goto 63), .inl (op_iload 3), .inl (op_istore 3)],
  [.inl (op_iload 7), .inl (op_iload 4), .inl (op_icmp (fun x y => decide (y ≤ x)) 69), .inl (op_iload 7), .inl (op_goto 70), .inl (op_iload 4), .inl (op_istore 4), .inl (op_iinc 5 1), .inl (op_goto 20), .inl (op_iload 3), .inl (op_if (fun x => decide (x < 0)) 77), .inl (op_iload 1), .inl (op_if (fun x => decide (¬ x = 0)) 79), .inl (op_iload 3), .inl (op_goto 80), .inl (op_iload 4)],
  [.inr (.inr 1)]]
def pi165 : pI := (⟨"VeilNationsModel", "ask", "(I)I"⟩, prog_11_method_61_code, 8, some .int, 4, 92, [[0, 1, 2, 3, 4, 7, 10, 12, 13, 14, 15, 18, 19, 21, 22, 23], [24, 25, 27, 28, 30, 32, 34, 37, 38, 41, 42, 44, 47, 49, 51, 54], [57, 59, 60, 62, 65, 68, 70, 72, 75, 78, 79, 80, 82, 85, 88, 90], [91, 93, 94, 97, 99, 102, 103, 105, 106, 108, 110, 112, 115, 117, 120, 121], [122, 124, 126, 129, 131, 134, 136, 138, 141, 144, 145, 148, 149, 152, 153, 156], [158]])
/-- VeilNationsModel.lift(I)I -/
def pk166 : List (List pOp) := [[.inl (op_iload 1), .inl op_i2l, .inl (op_lc 0), .inl (op_lc 1), .inr (.inl (109, 3, 1, 0)), .inl (op_if (fun x => decide (¬ x = 0)) 8), .inl (op_ic (-2)), .inr (.inr 1), .inl (op_ic 0), .inl (op_istore 2), .inl (op_iload 2), .inl (op_ic 255), .inl (op_icmp (fun x y => decide (y < x)) 26), .inl (op_aload 0), .inl (op_getA 9 27), .inl (op_iload 2)],
  [.inl (op_aload 0), .inl (op_iload 2), .inr (.inl (167, 2, 1, 10)), .inl (op_if (fun x => decide (x < 0)) 22), .inl (op_ic 1), .inl (op_goto 23), .inl (op_ic 0), .inl op_zast, .inl (op_iinc 2 1), .inl (op_goto 10), .inl (op_iload 1), .inl (op_ic 1), .inl (op_icmp (fun x y => decide (¬ x = y)) 34), .inl (op_aload 0), .inl (op_aload 0), .inl (op_getI 9 4)],
  [.inr (.inl (167, 2, 1, 10)), .inl (op_goto 43), .inl (op_aload 0), .inl (op_getA 9 27), .inl (op_aload 0), .inl (op_getI 9 4), .inl (op_iald 1), .inl (op_if (fun x => decide (x = 0)) 42), .inl (op_ic 1), .inl (op_goto 43), .inl (op_ic 0), .inr (.inr 1)]]
def pi166 : pI := (⟨"VeilNationsModel", "lift", "(I)I"⟩, prog_11_method_63_code, 3, some .int, 3, 65, [[0, 1, 2, 3, 4, 7, 10, 12, 13, 14, 15, 16, 19, 22, 23, 26], [27, 28, 29, 32, 35, 36, 39, 40, 41, 44, 47, 48, 49, 52, 53, 54], [57, 60, 63, 64, 67, 68, 71, 72, 75, 76, 79, 80]])
/-- VeilNationsModel.leastLift(I)I -/
def pk167 : List (List pOp) := [[.inl (op_ic 0), .inl (op_istore 2), .inl (op_iload 2), .inl (op_ic 8), .inl (op_icmp (fun x y => decide (y ≤ x)) 46), .inl (op_ic 0), .inl (op_istore 3), .inl (op_iload 3), .inl (op_iload 2), .inl (op_icmp (fun x y => decide (y < x)) 44), .inl (op_iload 1), .inl (op_iload 2), .inr (.inl (130, 2, 1, 0)), .inl (op_if (fun x => decide (x = 0)) 44), .inl (op_iload 1), .inl (op_ic 1)],
  [.inl (op_iload 2), .inl (op_bin (fun x y => x <<< (y &&& 31))), .inl (op_ic (-1)), .inl (op_bin (fun x y => x ^^^ y)), .inl (op_bin (fun x y => x &&& y)), .inl (op_iload 3), .inl (op_iload 2), .inl (op_icmp (fun x y => decide (y ≤ x)) 28), .inl (op_ic 1), .inl (op_iload 3), .inl (op_bin (fun x y => x <<< (y &&& 31))), .inl (op_goto 29), .inl (op_ic 0), .inl (op_bin (fun x y => x ^^^ y)), .inl (op_istore 4), .inl (op_aload 0)],
  [.inl (op_getA 9 27), .inl (op_iload 4), .inl (op_iald 1), .inl (op_if (fun x => decide (¬ x = 0)) 42), .inl (op_ic 10), .inl (op_iload 2), .inl (op_bin (fun x y => x * y)), .inl (op_iload 3), .inl (op_bin (fun x y => x + y)), .inr (.inr 1), .inl (op_iinc 3 1), .inl (op_goto 7), .inl (op_iinc 2 1), .inl (op_goto 2), .inl (op_ic (-6)), .inr (.inr 1)]]
def pi167 : pI := (⟨"VeilNationsModel", "leastLift", "(I)I"⟩, prog_11_method_62_code, 5, some .int, 2, 41, [[0, 1, 2, 3, 5, 8, 9, 10, 11, 12, 15, 16, 17, 20, 23, 24], [25, 26, 27, 28, 29, 30, 31, 32, 35, 36, 37, 38, 41, 42, 43, 45], [46, 49, 51, 52, 55, 57, 58, 59, 60, 61, 62, 65, 68, 71, 74, 76]])
/-- VeilNationsModel.votes(IIII)J -/
def pk168 : List (List pOp) := [[.inl (op_iload 1), .inl op_i2l, .inl (op_lc 0), .inl (op_lc 20), .inr (.inl (109, 3, 1, 0)), .inl (op_if (fun x => decide (x = 0)) 24), .inl (op_iload 2), .inl op_i2l, .inl (op_lc 0), .inl (op_lc 20), .inr (.inl (109, 3, 1, 0)), .inl (op_if (fun x => decide (x = 0)) 24), .inl (op_iload 3), .inl op_i2l, .inl (op_lc 0), .inl (op_lc 1)],
  [.inr (.inl (109, 3, 1, 0)), .inl (op_if (fun x => decide (x = 0)) 24), .inl (op_iload 4), .inl op_i2l, .inl (op_lc 0), .inl (op_lc 1), .inr (.inl (109, 3, 1, 0)), .inl (op_if (fun x => decide (¬ x = 0)) 26), .inl (op_lc (-1000000000000000002)), .inr (.inr 2), .inl (op_ic 0), .inl (op_istore 5), .inl (op_iload 5), .inl (op_iload 1), .inl (op_icmp (fun x y => decide (y < x)) 104), .inl (op_ic 0)],
  [.inl (op_istore 6), .inl (op_iload 6), .inl (op_iload 2), .inl (op_icmp (fun x y => decide (y < x)) 102), .inl (op_iload 5), .inl (op_iload 6), .inl (op_bin (fun x y => x + y)), .inl (op_if (fun x => decide (¬ x = 0)) 42), .inl (op_ic 1), .inl (op_goto 43), .inl (op_ic 0), .inl (op_istore 7), .inl (op_iload 3), .inl (op_if (fun x => decide (¬ x = 0)) 53), .inl (op_iload 5), .inl (op_iload 6)],
  [.inl (op_icmp (fun x y => decide (x ≤ y)) 51), .inl (op_ic 1), .inl (op_goto 59), .inl (op_ic 0), .inl (op_goto 59), .inl (op_iload 5), .inl (op_iload 6), .inl (op_icmp (fun x y => decide (x < y)) 58), .inl (op_ic 1), .inl (op_goto 59), .inl (op_ic 0), .inl (op_istore 8), .inl (op_aload 0), .inl (op_getA 9 28), .inl (op_ic 21), .inl (op_iload 5)],
  [.inl (op_bin (fun x y => x * y)), .inl (op_iload 6), .inl (op_bin (fun x y => x + y)), .inl (op_iload 7), .inl (op_if (fun x => decide (x = 0)) 71), .inl (op_lc 1), .inl (op_goto 77), .inl (op_aload 0), .inl (op_aload 0), .inl (op_getA 9 28), .inl (op_iload 5), .inl (op_iload 6), .inr (.inl (169, 4, 2, 10)), .inl op_last, .inl (op_aload 0), .inl (op_getA 9 29)],
  [.inl (op_ic 21), .inl (op_iload 5), .inl (op_bin (fun x y => x * y)), .inl (op_iload 6), .inl (op_bin (fun x y => x + y)), .inl (op_iload 7), .inl (op_if (fun x => decide (x = 0)) 89), .inl (op_lc 1), .inl (op_goto 99), .inl (op_iload 8), .inl (op_if (fun x => decide (x = 0)) 98), .inl (op_aload 0), .inl (op_aload 0), .inl (op_getA 9 29), .inl (op_iload 5), .inl (op_iload 6)],
  [.inr (.inl (169, 4, 2, 10)), .inl (op_goto 99), .inl (op_lc 0), .inl op_last, .inl (op_iinc 6 1), .inl (op_goto 33), .inl (op_iinc 5 1), .inl (op_goto 28), .inl (op_aload 0), .inl (op_getA 9 29), .inl (op_ic 21), .inl (op_iload 1), .inl (op_bin (fun x y => x * y)), .inl (op_iload 2), .inl (op_bin (fun x y => x + y)), .inl op_lald],
  [.inl (op_aload 0), .inl (op_getA 9 28), .inl (op_ic 21), .inl (op_iload 1), .inl (op_bin (fun x y => x * y)), .inl (op_iload 2), .inl (op_bin (fun x y => x + y)), .inl op_lald, .inl (op_iload 4), .inr (.inl (170, 3, 2, 0)), .inr (.inr 2)]]
def pi168 : pI := (⟨"VeilNationsModel", "votes", "(IIII)J"⟩, prog_11_method_66_code, 9, some .long, 2, 50, [[0, 1, 2, 3, 6, 9, 12, 13, 14, 15, 18, 21, 24, 25, 26, 27], [28, 31, 34, 36, 37, 38, 39, 42, 45, 48, 49, 50, 52, 54, 55, 58], [59, 61, 63, 64, 67, 69, 71, 72, 75, 76, 79, 80, 82, 83, 86, 88], [90, 93, 94, 97, 98, 101, 103, 105, 108, 109, 112, 113, 115, 116, 119, 121], [123, 124, 126, 127, 129, 132, 133, 136, 137, 138, 141, 143, 145, 148, 149, 150], [153, 155, 157, 158, 160, 161, 163, 166, 167, 170, 172, 175, 176, 177, 180, 182], [184, 187, 190, 191, 192, 195, 198, 201, 204, 205, 208, 210, 211, 212, 213, 214], [215, 216, 219, 221, 222, 223, 224, 225, 226, 228, 231]])
/-- VeilNationsModel.before([JII)J -/
def pk169 : List (List pOp) := [[.inl (op_iload 2), .inl (op_if (fun x => decide (x ≤ 0)) 12), .inl (op_aload 1), .inl (op_ic 21), .inl (op_iload 2), .inl (op_ic 1), .inl (op_bin (fun x y => x - y)), .inl (op_bin (fun x y => x * y)), .inl (op_iload 3), .inl (op_bin (fun x y => x + y)), .inl op_lald, .inl (op_goto 13), .inl (op_lc 0), .inl (op_iload 3), .inl (op_if (fun x => decide (x ≤ 0)) 25), .inl (op_aload 1)],
  [.inl (op_ic 21), .inl (op_iload 2), .inl (op_bin (fun x y => x * y)), .inl (op_iload 3), .inl (op_bin (fun x y => x + y)), .inl (op_ic 1), .inl (op_bin (fun x y => x - y)), .inl op_lald, .inl (op_goto 26), .inl (op_lc 0), .inl (op_lbin (fun x y => x + y)), .inr (.inr 2)]]
def pi169 : pI := (⟨"VeilNationsModel", "before", "([JII)J"⟩, prog_11_method_64_code, 4, some .long, 1, 20, [[0, 1, 4, 5, 7, 8, 9, 10, 11, 12, 13, 14, 17, 18, 19, 22], [23, 25, 26, 27, 28, 29, 30, 31, 32, 35, 36, 37]])
/-- VeilNationsModel.lowest(JJI)J -/
def pk170 : List (List pOp) := [[.inl (op_lload 2), .inl (op_lstore 5), .inl (op_lload 0), .inl (op_lstore 7), .inl (op_lload 7), .inl (op_lc 0), .inl op_lcmp, .inl (op_if (fun x => decide (x = 0)) 17), .inl (op_lload 5), .inl (op_lload 7), .inl (op_ldiv (fun x y => x - x / y * y)), .inl (op_lstore 9), .inl (op_lload 7), .inl (op_lstore 5), .inl (op_lload 9), .inl (op_lstore 7)],
  [.inl (op_goto 4), .inl (op_iload 4), .inl (op_if (fun x => decide (¬ x = 0)) 23), .inl (op_lload 0), .inl (op_lload 5), .inl (op_ldiv (fun x y => x / y)), .inl (op_goto 26), .inl (op_lload 2), .inl (op_lload 5), .inl (op_ldiv (fun x y => x / y)), .inr (.inr 2)]]
def pi170 : pI := (⟨"VeilNationsModel", "lowest", "(JJI)J"⟩, prog_11_method_65_code, 11, some .long, 1, 20, [[0, 1, 3, 4, 6, 8, 9, 10, 13, 15, 17, 18, 20, 22, 24, 26], [28, 31, 33, 36, 37, 39, 40, 43, 44, 46, 47]])
/-- VeilNationsModel.year(III)I -/
def pk171 : List (List pOp) := [[.inl (op_iload 1), .inl op_i2l, .inl (op_lc 0), .inl (op_lc 9999), .inr (.inl (109, 3, 1, 0)), .inl (op_if (fun x => decide (x = 0)) 18), .inl (op_iload 2), .inl op_i2l, .inl (op_lc 1), .inl (op_lc 99), .inr (.inl (109, 3, 1, 0)), .inl (op_if (fun x => decide (x = 0)) 18), .inl (op_iload 3), .inl op_i2l, .inl (op_lc 0), .inl (op_lc 2)],
  [.inr (.inl (109, 3, 1, 0)), .inl (op_if (fun x => decide (¬ x = 0)) 20), .inl (op_ic (-2)), .inr (.inr 1), .inl (op_aload 0), .inr (.inl (127, 1, 0, 10)), .inl (op_iload 1), .inl (op_istore 4), .inl (op_ic 0), .inl (op_istore 5), .inl (op_iload 5), .inl (op_iload 2), .inl (op_icmp (fun x y => decide (y ≤ x)) 80), .inl (op_lc 75), .inl (op_iload 4), .inl op_i2l],
  [.inl (op_lbin (fun x y => x * y)), .inl (op_lc 74), .inl (op_lbin (fun x y => x + y)), .inl (op_lc 65537), .inl (op_ldiv (fun x y => x - x / y * y)), .inl op_l2i, .inl (op_istore 4), .inl (op_iload 4), .inl (op_ic 8), .inl (op_div (fun x y => x / y)), .inl (op_ic 8), .inl (op_div (fun x y => x % y)), .inr (.inl (172, 1, 1, 0)), .inl (op_istore 6), .inl (op_iload 6), .inl (op_ic 6)],
  [.inl (op_icmp (fun x y => decide (¬ x = y)) 57), .inl (op_ic 1), .inl (op_iload 4), .inl (op_ic 64), .inl (op_div (fun x y => x / y)), .inl (op_ic 9), .inl (op_div (fun x y => x % y)), .inl (op_bin (fun x y => x + y)), .inl (op_goto 62), .inl (op_iload 4), .inl (op_ic 64), .inl (op_div (fun x y => x / y)), .inl (op_ic 8), .inl (op_div (fun x y => x % y)), .inl (op_istore 7), .inl (op_aload 0)],
  [.inl (op_iload 6), .inl (op_iload 4), .inl (op_ic 8), .inl (op_div (fun x y => x % y)), .inl (op_iload 7), .inr (.inl (129, 4, 1, 10)), .inl (op_if (fun x => decide (¬ x = 0)) 78), .inl (op_aload 0), .inl (op_iload 6), .inl (op_iload 4), .inl (op_ic 8), .inl (op_div (fun x y => x % y)), .inl (op_iload 7), .inr (.inl (133, 4, 0, 10)), .inl (op_iinc 5 1), .inl (op_goto 26)],
  [.inl (op_aload 0), .inl (op_iload 3), .inl (op_if (fun x => decide (¬ x = 0)) 87), .inl (op_aload 0), .inl (op_ic 0), .inr (.inl (144, 2, 1, 10)), .inl (op_goto 96), .inl (op_iload 3), .inl (op_ic 1), .inl (op_icmp (fun x y => decide (¬ x = y)) 94), .inl (op_aload 0), .inl (op_getI 9 4), .inr (.inl (114, 1, 1, 0)), .inl (op_goto 96), .inl (op_aload 0), .inr (.inl (113, 1, 1, 10))],
  [.inr (.inl (139, 2, 1, 10)), .inr (.inr 1)]]
def pi171 : pI := (⟨"VeilNationsModel", "year", "(III)I"⟩, prog_11_method_68_code, 8, some .int, 5, 108, [[0, 1, 2, 3, 6, 9, 12, 13, 14, 15, 18, 21, 24, 25, 26, 27], [30, 33, 36, 38, 39, 40, 43, 44, 46, 47, 49, 51, 52, 55, 58, 60], [61, 62, 65, 66, 69, 70, 71, 73, 75, 77, 78, 80, 81, 84, 86, 88], [90, 93, 94, 96, 98, 99, 101, 102, 103, 106, 108, 110, 111, 113, 114, 116], [117, 119, 121, 123, 124, 126, 129, 132, 133, 135, 137, 139, 140, 142, 145, 148], [151, 152, 153, 156, 157, 158, 161, 164, 165, 166, 169, 170, 173, 176, 179, 180], [183, 186]])
/-- VeilNationsModel.actBy(I)I -/
def pk172 : List (List pOp) := [[.inl (op_iload 0), .inl (op_sw 14 [(0, 2), (1, 2), (2, 4), (3, 6), (4, 8), (5, 10), (6, 12)]), .inl (op_ic 0), .inr (.inr 1), .inl (op_ic 1), .inr (.inr 1), .inl (op_ic 2), .inr (.inr 1), .inl (op_ic 3), .inr (.inr 1), .inl (op_ic 4), .inr (.inr 1), .inl (op_ic 6), .inr (.inr 1), .inl (op_ic 7), .inr (.inr 1)]]
def pi172 : pI := (⟨"VeilNationsModel", "actBy", "(I)I"⟩, prog_11_method_67_code, 1, some .int, 1, 20, [[0, 1, 44, 45, 46, 47, 48, 49, 50, 51, 52, 53, 54, 56, 57, 59]])
/-- VeilNationsModel.image(I)I -/
def pk173 : List (List pOp) := [[.inl (op_iload 1), .inl op_i2l, .inl (op_lc 0), .inl (op_lc 1), .inr (.inl (109, 3, 1, 0)), .inl (op_if (fun x => decide (¬ x = 0)) 8), .inl (op_ic (-2)), .inr (.inr 1), .inl (op_aload 0), .inl (op_ic 80), .inl (op_iload 1), .inl (op_bin (fun x y => x * y)), .inl (op_putI 9 32), .inl (op_aload 0), .inl (op_ic 1), .inl (op_putZ 9 33)],
  [.inl (op_aload 0), .inr (.inl (174, 1, 0, 10)), .inl (op_aload 0), .inl (op_getA 9 31), .inl (op_iload 1), .inl (op_ic 1), .inl op_zast, .inl (op_ic 1), .inr (.inr 1)]]
def pi173 : pI := (⟨"VeilNationsModel", "image", "(I)I"⟩, prog_11_method_72_code, 2, some .int, 4, 85, [[0, 1, 2, 3, 4, 7, 10, 12, 13, 14, 16, 17, 18, 21, 22, 23], [26, 27, 30, 31, 34, 35, 36, 37, 38]])
/-- VeilNationsModel.passAll()V -/
def pk174 : List (List pOp) := [[.inl (op_aload 0), .inl (op_aload 0), .inl (op_aload 0), .inl (op_getI 9 4), .inr (.inl (175, 2, 1, 10)), .inl (op_putI 9 4), .inl (op_aload 0), .inl (op_aload 0), .inl (op_aload 0), .inl (op_getI 9 5), .inr (.inl (175, 2, 1, 10)), .inl (op_putI 9 5), .inl (op_aload 0), .inl (op_aload 0), .inl (op_aload 0), .inl (op_getI 9 6)],
  [.inr (.inl (175, 2, 1, 10)), .inl (op_putI 9 6), .inl (op_aload 0), .inl (op_aload 0), .inl (op_aload 0), .inl (op_getI 9 11), .inr (.inl (175, 2, 1, 10)), .inl (op_putI 9 11), .inl (op_aload 0), .inl (op_aload 0), .inl (op_getA 9 0), .inl (op_ic 8), .inr (.inl (176, 3, 0, 10)), .inl (op_aload 0), .inl (op_aload 0), .inl (op_getA 9 1)],
  [.inl (op_ic 8), .inr (.inl (176, 3, 0, 10)), .inl (op_aload 0), .inl (op_aload 0), .inl (op_getA 9 2), .inl (op_ic 8), .inr (.inl (176, 3, 0, 10)), .inl (op_aload 0), .inl (op_aload 0), .inl (op_getA 9 3), .inl (op_ic 8), .inr (.inl (176, 3, 0, 10)), .inl (op_aload 0), .inl (op_aload 0), .inl (op_getA 9 7), .inl (op_ic 6)],
  [.inr (.inl (176, 3, 0, 10)), .inl (op_aload 0), .inl (op_aload 0), .inl (op_getA 9 8), .inl (op_ic 6), .inr (.inl (176, 3, 0, 10)), .inl (op_aload 0), .inl (op_aload 0), .inl (op_getA 9 9), .inl (op_ic 8), .inr (.inl (176, 3, 0, 10)), .inl (op_aload 0), .inl (op_aload 0), .inl (op_getA 9 10), .inl (op_ic 8), .inr (.inl (176, 3, 0, 10))],
  [.inr (.inr 0)]]
def pi174 : pI := (⟨"VeilNationsModel", "passAll", "()V"⟩, prog_11_method_71_code, 1, none, 3, 65, [[0, 1, 2, 3, 6, 9, 12, 13, 14, 15, 18, 21, 24, 25, 26, 27], [30, 33, 36, 37, 38, 39, 42, 45, 48, 49, 50, 53, 55, 58, 59, 60], [63, 65, 68, 69, 70, 73, 75, 78, 79, 80, 83, 85, 88, 89, 90, 93], [95, 98, 99, 100, 103, 105, 108, 109, 110, 113, 115, 118, 119, 120, 123, 125], [128]])
/-- VeilNationsModel.pass(I)I -/
def pk175 : List (List pOp) := [[.inl (op_aload 0), .inl (op_getI 9 33), .inl (op_if (fun x => decide (x = 0)) 5), .inl (op_iload 1), .inl (op_goto 10), .inl (op_aload 0), .inl (op_getA 9 30), .inl (op_aload 0), .inl (op_getI 9 32), .inl (op_iald 0), .inl (op_istore 2), .inl (op_aload 0), .inl (op_getA 9 30), .inl (op_aload 0), .inl (op_getI 9 32), .inl (op_iload 2)],
  [.inl op_iast, .inl (op_aload 0), .inl op_dup, .inl (op_getI 9 32), .inl (op_ic 1), .inl (op_bin (fun x y => x + y)), .inl (op_putI 9 32), .inl (op_iload 2), .inr (.inr 1)]]
def pi175 : pI := (⟨"VeilNationsModel", "pass", "(I)I"⟩, prog_11_method_69_code, 3, some .int, 1, 20, [[0, 1, 4, 7, 8, 11, 12, 15, 16, 19, 20, 21, 22, 25, 26, 29], [30, 31, 32, 33, 36, 37, 38, 41, 42]])
/-- VeilNationsModel.passRow([II)V -/
def pk176 : List (List pOp) := [[.inl (op_ic 0), .inl (op_istore 3), .inl (op_iload 3), .inl (op_iload 2), .inl (op_icmp (fun x y => decide (y ≤ x)) 15), .inl (op_aload 1), .inl (op_iload 3), .inl (op_aload 0), .inl (op_aload 1), .inl (op_iload 3), .inl (op_iald 0), .inr (.inl (175, 2, 1, 10)), .inl op_iast, .inl (op_iinc 3 1), .inl (op_goto 2), .inr (.inr 0)]]
def pi176 : pI := (⟨"VeilNationsModel", "passRow", "([II)V"⟩, prog_11_method_70_code, 4, none, 2, 42, [[0, 1, 2, 3, 4, 7, 8, 9, 10, 11, 12, 13, 16, 17, 20, 23]])
/-- VeilNationsModel.restore(I)I -/
def pk177 : List (List pOp) := [[.inl (op_iload 1), .inl op_i2l, .inl (op_lc 0), .inl (op_lc 1), .inr (.inl (109, 3, 1, 0)), .inl (op_if (fun x => decide (¬ x = 0)) 8), .inl (op_ic (-2)), .inr (.inr 1), .inl (op_aload 0), .inl (op_getA 9 31), .inl (op_iload 1), .inl (op_iald 1), .inl (op_if (fun x => decide (¬ x = 0)) 15), .inl (op_ic (-3)), .inr (.inr 1), .inl (op_aload 0)],
  [.inl (op_ic 80), .inl (op_iload 1), .inl (op_bin (fun x y => x * y)), .inl (op_putI 9 32), .inl (op_aload 0), .inl (op_ic 0), .inl (op_putZ 9 33), .inl (op_aload 0), .inr (.inl (174, 1, 0, 10)), .inl (op_ic 1), .inr (.inr 1)]]
def pi177 : pI := (⟨"VeilNationsModel", "restore", "(I)I"⟩, prog_11_method_73_code, 2, some .int, 4, 85, [[0, 1, 2, 3, 4, 7, 10, 12, 13, 14, 17, 18, 19, 22, 24, 25], [26, 28, 29, 30, 33, 34, 35, 38, 39, 42, 43]])
/-- VeilNationsModel.told(I)I -/
def pk178 : List (List pOp) := [[.inl (op_iload 1), .inl op_i2l, .inl (op_lc 100), .inl (op_lc 179), .inr (.inl (109, 3, 1, 0)), .inl (op_if (fun x => decide (x = 0)) 17), .inl (op_aload 0), .inl (op_iload 1), .inl (op_ic 100), .inl (op_bin (fun x y => x - y)), .inl (op_ic 10), .inl (op_div (fun x y => x / y)), .inl (op_iload 1), .inl (op_ic 10), .inl (op_div (fun x y => x % y)), .inr (.inl (179, 3, 1, 10))],
  [.inr (.inr 1), .inl (op_iload 1), .inl op_i2l, .inl (op_lc 10), .inl (op_lc 17), .inr (.inl (109, 3, 1, 0)), .inl (op_if (fun x => decide (x = 0)) 30), .inl (op_aload 0), .inl (op_getA 9 3), .inl (op_iload 1), .inl (op_ic 10), .inl (op_bin (fun x y => x - y)), .inl (op_iald 0), .inr (.inr 1), .inl (op_iload 1), .inl op_i2l],
  [.inl (op_lc 20), .inl (op_lc 25), .inr (.inl (109, 3, 1, 0)), .inl (op_if (fun x => decide (x = 0)) 43), .inl (op_aload 0), .inl (op_getA 9 7), .inl (op_iload 1), .inl (op_ic 20), .inl (op_bin (fun x y => x - y)), .inl (op_iald 0), .inr (.inr 1), .inl (op_iload 1), .inl op_i2l, .inl (op_lc 30), .inl (op_lc 35), .inr (.inl (109, 3, 1, 0))],
  [.inl (op_if (fun x => decide (x = 0)) 56), .inl (op_aload 0), .inl (op_getA 9 8), .inl (op_iload 1), .inl (op_ic 30), .inl (op_bin (fun x y => x - y)), .inl (op_iald 0), .inr (.inr 1), .inl (op_iload 1), .inl (op_sw 73 [(0, 58), (1, 61), (2, 64), (3, 67), (4, 70)]), .inl (op_aload 0), .inl (op_getI 9 13), .inr (.inr 1), .inl (op_aload 0), .inl (op_getI 9 4), .inr (.inr 1)],
  [.inl (op_aload 0), .inl (op_getI 9 5), .inr (.inr 1), .inl (op_aload 0), .inl (op_getI 9 6), .inr (.inr 1), .inl (op_aload 0), .inl (op_getI 9 11), .inr (.inr 1), .inl (op_ic (-2)), .inr (.inr 1)]]
def pi178 : pI := (⟨"VeilNationsModel", "told", "(I)I"⟩, prog_11_method_75_code, 2, some .int, 2, 45, [[0, 1, 2, 5, 8, 11, 14, 15, 16, 18, 19, 21, 22, 23, 25, 26], [29, 30, 31, 32, 35, 38, 41, 44, 45, 48, 49, 51, 52, 53, 54, 55], [56, 59, 62, 65, 68, 69, 72, 73, 75, 76, 77, 78, 79, 80, 83, 86], [89, 92, 93, 96, 97, 99, 100, 101, 102, 103, 136, 137, 140, 141, 142, 145], [146, 147, 150, 151, 152, 155, 156, 157, 160, 161, 163]])
/-- VeilNationsModel.toldOne(II)I -/
def pk179 : List (List pOp) := [[.inl (op_iload 2), .inl (op_if (fun x => decide (¬ x = 0)) 7), .inl (op_aload 0), .inl (op_getA 9 0), .inl (op_iload 1), .inl (op_iald 0), .inl (op_goto 24), .inl (op_iload 2), .inl (op_ic 1), .inl (op_icmp (fun x y => decide (¬ x = y)) 15), .inl (op_aload 0), .inl (op_getA 9 1), .inl (op_iload 1), .inl (op_iald 0), .inl (op_goto 24), .inl (op_iload 2)],
  [.inl (op_ic 2), .inl (op_icmp (fun x y => decide (¬ x = y)) 23), .inl (op_aload 0), .inl (op_getA 9 2), .inl (op_iload 1), .inl (op_iald 0), .inl (op_goto 24), .inl (op_ic (-2)), .inr (.inr 1)]]
def pi179 : pI := (⟨"VeilNationsModel", "toldOne", "(II)I"⟩, prog_11_method_74_code, 3, some .int, 1, 20, [[0, 1, 4, 5, 8, 9, 10, 13, 14, 15, 18, 19, 22, 23, 24, 27], [28, 29, 32, 33, 36, 37, 38, 41, 43]])
/-- VeilNationsLaw.law([I)Z -/
def pk180 : List (List pOp) := [[.inl (op_new 8 [.null, .null, .null, .null, .null, .null, .null, .null]), .inl op_dup, .inr (.inl (0, 1, 0, 9)), .inl (op_astore 1), .inl (op_new 9 [.null, .null, .null, .null, .int 0, .int 0, .int 0, .null, .null, .null, .null, .int 0, .null, .int 0, .null, .null, .null, .int 0, .null, .null, .int 0, .int 0, .int 0, .int 0, .int 0, .null, .null, .null, .null, .null, .null, .null, .int 0, .int 0]), .inl op_dup, .inr (.inl (106, 1, 0, 10)), .inl (op_astore 2), .inl (op_ic 0), .inl (op_istore 3), .inl (op_iload 3), .inl (op_aload 0), .inl (op_alen 3), .inl (op_ic 6), .inl (op_bin (fun x y => x - y)), .inl (op_icmp (fun x y => decide (y < x)) 643)],
  [.inl (op_aload 0), .inl (op_iload 3), .inl (op_iald 3), .inl (op_ic 31), .inl (op_bin (fun x y => x &&& y)), .inl (op_sw 641 [(0, 22), (1, 79), (2, 124), (3, 141), (4, 178), (5, 195), (6, 202), (7, 209), (8, 226), (9, 253), (10, 270), (11, 287), (12, 294), (13, 321), (14, 338), (15, 355), (16, 412), (17, 447), (18, 454), (19, 471), (20, 488), (21, 505), (22, 553), (23, 590), (24, 607), (25, 624)]), .inl (op_aload 1), .inl (op_aload 0), .inl (op_iload 3), .inl (op_ic 1), .inl (op_bin (fun x y => x + y)), .inl (op_iald 3), .inl (op_aload 0), .inl (op_iload 3), .inl (op_ic 2), .inl (op_bin (fun x y => x + y))],
  [.inl (op_iald 3), .inl (op_aload 0), .inl (op_iload 3), .inl (op_ic 3), .inl (op_bin (fun x y => x + y)), .inl (op_iald 3), .inl (op_aload 0), .inl (op_iload 3), .inl (op_ic 4), .inl (op_bin (fun x y => x + y)), .inl (op_iald 3), .inl (op_aload 0), .inl (op_iload 3), .inl (op_ic 5), .inl (op_bin (fun x y => x + y)), .inl (op_iald 3)],
  [.inr (.inl (9, 6, 1, 9)), .inl (op_aload 2), .inl (op_aload 0), .inl (op_iload 3), .inl (op_ic 1), .inl (op_bin (fun x y => x + y)), .inl (op_iald 3), .inl (op_aload 0), .inl (op_iload 3), .inl (op_ic 2), .inl (op_bin (fun x y => x + y)), .inl (op_iald 3), .inl (op_aload 0), .inl (op_iload 3), .inl (op_ic 3), .inl (op_bin (fun x y => x + y))],
  [.inl (op_iald 3), .inl (op_aload 0), .inl (op_iload 3), .inl (op_ic 4), .inl (op_bin (fun x y => x + y)), .inl (op_iald 3), .inl (op_aload 0), .inl (op_iload 3), .inl (op_ic 5), .inl (op_bin (fun x y => x + y)), .inl (op_iald 3), .inr (.inl (107, 6, 1, 10)), .inl (op_icmp (fun x y => decide (x = y)) 641), .inl (op_ic 0), .inr (.inr 3), .inl (op_aload 1)],
  [.inl (op_aload 0), .inl (op_iload 3), .inl (op_ic 1), .inl (op_bin (fun x y => x + y)), .inl (op_iald 3), .inl (op_aload 0), .inl (op_iload 3), .inl (op_ic 2), .inl (op_bin (fun x y => x + y)), .inl (op_iald 3), .inl (op_aload 0), .inl (op_iload 3), .inl (op_ic 3), .inl (op_bin (fun x y => x + y)), .inl (op_iald 3), .inl (op_if (fun x => decide (x = 0)) 98)],
  [.inl (op_ic 1), .inl (op_goto 99), .inl (op_ic 0), .inr (.inl (15, 4, 1, 9)), .inl (op_aload 2), .inl (op_aload 0), .inl (op_iload 3), .inl (op_ic 1), .inl (op_bin (fun x y => x + y)), .inl (op_iald 3), .inl (op_aload 0), .inl (op_iload 3), .inl (op_ic 2), .inl (op_bin (fun x y => x + y)), .inl (op_iald 3), .inl (op_aload 0)],
  [.inl (op_iload 3), .inl (op_ic 3), .inl (op_bin (fun x y => x + y)), .inl (op_iald 3), .inl (op_if (fun x => decide (x = 0)) 119), .inl (op_ic 1), .inl (op_goto 120), .inl (op_ic 0), .inr (.inl (111, 4, 1, 10)), .inl (op_icmp (fun x y => decide (x = y)) 641), .inl (op_ic 0), .inr (.inr 3), .inl (op_aload 1), .inl (op_aload 0), .inl (op_iload 3), .inl (op_ic 1)],
  [.inl (op_bin (fun x y => x + y)), .inl (op_iald 3), .inr (.inl (19, 2, 1, 9)), .inl (op_aload 2), .inl (op_aload 0), .inl (op_iload 3), .inl (op_ic 1), .inl (op_bin (fun x y => x + y)), .inl (op_iald 3), .inr (.inl (115, 2, 1, 10)), .inl (op_icmp (fun x y => decide (x = y)) 641), .inl (op_ic 0), .inr (.inr 3), .inl (op_aload 1), .inl (op_aload 0), .inl (op_iload 3)],
  [.inl (op_ic 1), .inl (op_bin (fun x y => x + y)), .inl (op_iald 3), .inl (op_aload 0), .inl (op_iload 3), .inl (op_ic 2), .inl (op_bin (fun x y => x + y)), .inl (op_iald 3), .inl (op_aload 0), .inl (op_iload 3), .inl (op_ic 3), .inl (op_bin (fun x y => x + y)), .inl (op_iald 3), .inr (.inl (20, 4, 1, 9)), .inl (op_aload 2), .inl (op_aload 0)],
  [.inl (op_iload 3), .inl (op_ic 1), .inl (op_bin (fun x y => x + y)), .inl (op_iald 3), .inl (op_aload 0), .inl (op_iload 3), .inl (op_ic 2), .inl (op_bin (fun x y => x + y)), .inl (op_iald 3), .inl (op_aload 0), .inl (op_iload 3), .inl (op_ic 3), .inl (op_bin (fun x y => x + y)), .inl (op_iald 3), .inr (.inl (116, 4, 1, 10)), .inl (op_icmp (fun x y => decide (x = y)) 641)],
  [.inl (op_ic 0), .inr (.inr 3), .inl (op_aload 1), .inl (op_aload 0), .inl (op_iload 3), .inl (op_ic 1), .inl (op_bin (fun x y => x + y)), .inl (op_iald 3), .inr (.inl (24, 2, 1, 9)), .inl (op_aload 2), .inl (op_aload 0), .inl (op_iload 3), .inl (op_ic 1), .inl (op_bin (fun x y => x + y)), .inl (op_iald 3), .inr (.inl (117, 2, 1, 10))],
  [.inl (op_icmp (fun x y => decide (x = y)) 641), .inl (op_ic 0), .inr (.inr 3), .inl (op_aload 1), .inr (.inl (26, 1, 1, 9)), .inl (op_aload 2), .inr (.inl (118, 1, 1, 10)), .inl (op_icmp (fun x y => decide (x = y)) 641), .inl (op_ic 0), .inr (.inr 3), .inl (op_aload 1), .inr (.inl (28, 1, 1, 9)), .inl (op_aload 2), .inr (.inl (119, 1, 1, 10)), .inl (op_icmp (fun x y => decide (x = y)) 641), .inl (op_ic 0)],
  [.inr (.inr 3), .inl (op_aload 1), .inl (op_aload 0), .inl (op_iload 3), .inl (op_ic 1), .inl (op_bin (fun x y => x + y)), .inl (op_iald 3), .inr (.inl (35, 2, 1, 9)), .inl (op_aload 2), .inl (op_aload 0), .inl (op_iload 3), .inl (op_ic 1), .inl (op_bin (fun x y => x + y)), .inl (op_iald 3), .inr (.inl (125, 2, 1, 10)), .inl (op_icmp (fun x y => decide (x = y)) 641)],
  [.inl (op_ic 0), .inr (.inr 3), .inl (op_aload 1), .inl (op_aload 0), .inl (op_iload 3), .inl (op_ic 1), .inl (op_bin (fun x y => x + y)), .inl (op_iald 3), .inl (op_aload 0), .inl (op_iload 3), .inl (op_ic 2), .inl (op_bin (fun x y => x + y)), .inl (op_iald 3), .inr (.inl (57, 3, 1, 9)), .inl (op_aload 2), .inl (op_aload 0)],
  [.inl (op_iload 3), .inl (op_ic 1), .inl (op_bin (fun x y => x + y)), .inl (op_iald 3), .inl (op_aload 0), .inl (op_iload 3), .inl (op_ic 2), .inl (op_bin (fun x y => x + y)), .inl (op_iald 3), .inr (.inl (140, 3, 1, 10)), .inl (op_icmp (fun x y => decide (x = y)) 641), .inl (op_ic 0), .inr (.inr 3), .inl (op_aload 1), .inl (op_aload 0), .inl (op_iload 3)],
  [.inl (op_ic 1), .inl (op_bin (fun x y => x + y)), .inl (op_iald 3), .inr (.inl (58, 2, 1, 9)), .inl (op_aload 2), .inl (op_aload 0), .inl (op_iload 3), .inl (op_ic 1), .inl (op_bin (fun x y => x + y)), .inl (op_iald 3), .inr (.inl (142, 2, 1, 10)), .inl (op_icmp (fun x y => decide (x = y)) 641), .inl (op_ic 0), .inr (.inr 3), .inl (op_aload 1), .inl (op_aload 0)],
  [.inl (op_iload 3), .inl (op_ic 1), .inl (op_bin (fun x y => x + y)), .inl (op_iald 3), .inr (.inl (60, 2, 1, 9)), .inl (op_aload 2), .inl (op_aload 0), .inl (op_iload 3), .inl (op_ic 1), .inl (op_bin (fun x y => x + y)), .inl (op_iald 3), .inr (.inl (145, 2, 1, 10)), .inl (op_icmp (fun x y => decide (x = y)) 641), .inl (op_ic 0), .inr (.inr 3), .inl (op_aload 1)],
  [.inr (.inl (61, 1, 1, 9)), .inl (op_aload 2), .inr (.inl (146, 1, 1, 10)), .inl (op_icmp (fun x y => decide (x = y)) 641), .inl (op_ic 0), .inr (.inr 3), .inl (op_aload 1), .inl (op_aload 0), .inl (op_iload 3), .inl (op_ic 1), .inl (op_bin (fun x y => x + y)), .inl (op_iald 3), .inl (op_aload 0), .inl (op_iload 3), .inl (op_ic 2), .inl (op_bin (fun x y => x + y))],
  [.inl (op_iald 3), .inr (.inl (62, 3, 1, 9)), .inl (op_aload 2), .inl (op_aload 0), .inl (op_iload 3), .inl (op_ic 1), .inl (op_bin (fun x y => x + y)), .inl (op_iald 3), .inl (op_aload 0), .inl (op_iload 3), .inl (op_ic 2), .inl (op_bin (fun x y => x + y)), .inl (op_iald 3), .inr (.inl (147, 3, 1, 10)), .inl (op_icmp (fun x y => decide (x = y)) 641), .inl (op_ic 0)],
  [.inr (.inr 3), .inl (op_aload 1), .inl (op_aload 0), .inl (op_iload 3), .inl (op_ic 1), .inl (op_bin (fun x y => x + y)), .inl (op_iald 3), .inr (.inl (64, 2, 1, 9)), .inl (op_aload 2), .inl (op_aload 0), .inl (op_iload 3), .inl (op_ic 1), .inl (op_bin (fun x y => x + y)), .inl (op_iald 3), .inr (.inl (149, 2, 1, 10)), .inl (op_icmp (fun x y => decide (x = y)) 641)],
  [.inl (op_ic 0), .inr (.inr 3), .inl (op_aload 1), .inl (op_aload 0), .inl (op_iload 3), .inl (op_ic 1), .inl (op_bin (fun x y => x + y)), .inl (op_iald 3), .inr (.inl (68, 2, 1, 9)), .inl (op_aload 2), .inl (op_aload 0), .inl (op_iload 3), .inl (op_ic 1), .inl (op_bin (fun x y => x + y)), .inl (op_iald 3), .inr (.inl (151, 2, 1, 10))],
  [.inl (op_icmp (fun x y => decide (x = y)) 641), .inl (op_ic 0), .inr (.inr 3), .inl (op_aload 1), .inl (op_aload 0), .inl (op_iload 3), .inl (op_ic 1), .inl (op_bin (fun x y => x + y)), .inl (op_iald 3), .inl (op_aload 0), .inl (op_iload 3), .inl (op_ic 2), .inl (op_bin (fun x y => x + y)), .inl (op_iald 3), .inl (op_aload 0), .inl (op_iload 3)],
  [.inl (op_ic 3), .inl (op_bin (fun x y => x + y)), .inl (op_iald 3), .inl (op_aload 0), .inl (op_iload 3), .inl (op_ic 4), .inl (op_bin (fun x y => x + y)), .inl (op_iald 3), .inl (op_aload 0), .inl (op_iload 3), .inl (op_ic 5), .inl (op_bin (fun x y => x + y)), .inl (op_iald 3), .inr (.inl (72, 6, 1, 9)), .inl (op_aload 2), .inl (op_aload 0)],
  [.inl (op_iload 3), .inl (op_ic 1), .inl (op_bin (fun x y => x + y)), .inl (op_iald 3), .inl (op_aload 0), .inl (op_iload 3), .inl (op_ic 2), .inl (op_bin (fun x y => x + y)), .inl (op_iald 3), .inl (op_aload 0), .inl (op_iload 3), .inl (op_ic 3), .inl (op_bin (fun x y => x + y)), .inl (op_iald 3), .inl (op_aload 0), .inl (op_iload 3)],
  [.inl (op_ic 4), .inl (op_bin (fun x y => x + y)), .inl (op_iald 3), .inl (op_aload 0), .inl (op_iload 3), .inl (op_ic 5), .inl (op_bin (fun x y => x + y)), .inl (op_iald 3), .inr (.inl (154, 6, 1, 10)), .inl (op_icmp (fun x y => decide (x = y)) 641), .inl (op_ic 0), .inr (.inr 3), .inl (op_aload 1), .inl (op_aload 0), .inl (op_iload 3), .inl (op_ic 1)],
  [.inl (op_bin (fun x y => x + y)), .inl (op_iald 3), .inl (op_aload 0), .inl (op_iload 3), .inl (op_ic 2), .inl (op_bin (fun x y => x + y)), .inl (op_iald 3), .inl (op_if (fun x => decide (x = 0)) 426), .inl (op_ic 1), .inl (op_goto 427), .inl (op_ic 0), .inr (.inl (79, 3, 1, 9)), .inl (op_aload 2), .inl (op_aload 0), .inl (op_iload 3), .inl (op_ic 1)],
  [.inl (op_bin (fun x y => x + y)), .inl (op_iald 3), .inl (op_aload 0), .inl (op_iload 3), .inl (op_ic 2), .inl (op_bin (fun x y => x + y)), .inl (op_iald 3), .inl (op_if (fun x => decide (x = 0)) 442), .inl (op_ic 1), .inl (op_goto 443), .inl (op_ic 0), .inr (.inl (160, 3, 1, 10)), .inl (op_icmp (fun x y => decide (x = y)) 641), .inl (op_ic 0), .inr (.inr 3), .inl (op_aload 1)],
  [.inr (.inl (81, 1, 1, 9)), .inl (op_aload 2), .inr (.inl (161, 1, 1, 10)), .inl (op_icmp (fun x y => decide (x = y)) 641), .inl (op_ic 0), .inr (.inr 3), .inl (op_aload 1), .inl (op_aload 0), .inl (op_iload 3), .inl (op_ic 1), .inl (op_bin (fun x y => x + y)), .inl (op_iald 3), .inr (.inl (83, 2, 1, 9)), .inl (op_aload 2), .inl (op_aload 0), .inl (op_iload 3)],
  [.inl (op_ic 1), .inl (op_bin (fun x y => x + y)), .inl (op_iald 3), .inr (.inl (162, 2, 1, 10)), .inl (op_icmp (fun x y => decide (x = y)) 641), .inl (op_ic 0), .inr (.inr 3), .inl (op_aload 1), .inl (op_aload 0), .inl (op_iload 3), .inl (op_ic 1), .inl (op_bin (fun x y => x + y)), .inl (op_iald 3), .inr (.inl (89, 2, 1, 9)), .inl (op_aload 2), .inl (op_aload 0)],
  [.inl (op_iload 3), .inl (op_ic 1), .inl (op_bin (fun x y => x + y)), .inl (op_iald 3), .inr (.inl (165, 2, 1, 10)), .inl (op_icmp (fun x y => decide (x = y)) 641), .inl (op_ic 0), .inr (.inr 3), .inl (op_aload 1), .inl (op_aload 0), .inl (op_iload 3), .inl (op_ic 1), .inl (op_bin (fun x y => x + y)), .inl (op_iald 3), .inr (.inl (92, 2, 1, 9)), .inl (op_aload 2)],
  [.inl (op_aload 0), .inl (op_iload 3), .inl (op_ic 1), .inl (op_bin (fun x y => x + y)), .inl (op_iald 3), .inr (.inl (166, 2, 1, 10)), .inl (op_icmp (fun x y => decide (x = y)) 641), .inl (op_ic 0), .inr (.inr 3), .inl (op_aload 1), .inl (op_aload 0), .inl (op_iload 3), .inl (op_ic 1), .inl (op_bin (fun x y => x + y)), .inl (op_iald 3), .inl (op_aload 0)],
  [.inl (op_iload 3), .inl (op_ic 2), .inl (op_bin (fun x y => x + y)), .inl (op_iald 3), .inl (op_aload 0), .inl (op_iload 3), .inl (op_ic 3), .inl (op_bin (fun x y => x + y)), .inl (op_iald 3), .inl (op_aload 0), .inl (op_iload 3), .inl (op_ic 4), .inl (op_bin (fun x y => x + y)), .inl (op_iald 3), .inr (.inl (94, 5, 2, 9)), .inl (op_aload 2)],
  [.inl (op_aload 0), .inl (op_iload 3), .inl (op_ic 1), .inl (op_bin (fun x y => x + y)), .inl (op_iald 3), .inl (op_aload 0), .inl (op_iload 3), .inl (op_ic 2), .inl (op_bin (fun x y => x + y)), .inl (op_iald 3), .inl (op_aload 0), .inl (op_iload 3), .inl (op_ic 3), .inl (op_bin (fun x y => x + y)), .inl (op_iald 3), .inl (op_aload 0)],
  [.inl (op_iload 3), .inl (op_ic 4), .inl (op_bin (fun x y => x + y)), .inl (op_iald 3), .inr (.inl (168, 5, 2, 10)), .inl op_lcmp, .inl (op_if (fun x => decide (x = 0)) 641), .inl (op_ic 0), .inr (.inr 3), .inl (op_aload 1), .inl (op_aload 0), .inl (op_iload 3), .inl (op_ic 1), .inl (op_bin (fun x y => x + y)), .inl (op_iald 3), .inl (op_aload 0)],
  [.inl (op_iload 3), .inl (op_ic 2), .inl (op_bin (fun x y => x + y)), .inl (op_iald 3), .inl (op_aload 0), .inl (op_iload 3), .inl (op_ic 3), .inl (op_bin (fun x y => x + y)), .inl (op_iald 3), .inr (.inl (96, 4, 1, 9)), .inl (op_aload 2), .inl (op_aload 0), .inl (op_iload 3), .inl (op_ic 1), .inl (op_bin (fun x y => x + y)), .inl (op_iald 3)],
  [.inl (op_aload 0), .inl (op_iload 3), .inl (op_ic 2), .inl (op_bin (fun x y => x + y)), .inl (op_iald 3), .inl (op_aload 0), .inl (op_iload 3), .inl (op_ic 3), .inl (op_bin (fun x y => x + y)), .inl (op_iald 3), .inr (.inl (171, 4, 1, 10)), .inl (op_icmp (fun x y => decide (x = y)) 641), .inl (op_ic 0), .inr (.inr 3), .inl (op_aload 1), .inl (op_aload 0)],
  [.inl (op_iload 3), .inl (op_ic 1), .inl (op_bin (fun x y => x + y)), .inl (op_iald 3), .inr (.inl (98, 2, 1, 9)), .inl (op_aload 2), .inl (op_aload 0), .inl (op_iload 3), .inl (op_ic 1), .inl (op_bin (fun x y => x + y)), .inl (op_iald 3), .inr (.inl (173, 2, 1, 10)), .inl (op_icmp (fun x y => decide (x = y)) 641), .inl (op_ic 0), .inr (.inr 3), .inl (op_aload 1)],
  [.inl (op_aload 0), .inl (op_iload 3), .inl (op_ic 1), .inl (op_bin (fun x y => x + y)), .inl (op_iald 3), .inr (.inl (102, 2, 1, 9)), .inl (op_aload 2), .inl (op_aload 0), .inl (op_iload 3), .inl (op_ic 1), .inl (op_bin (fun x y => x + y)), .inl (op_iald 3), .inr (.inl (177, 2, 1, 10)), .inl (op_icmp (fun x y => decide (x = y)) 641), .inl (op_ic 0), .inr (.inr 3)],
  [.inl (op_aload 1), .inl (op_aload 0), .inl (op_iload 3), .inl (op_ic 1), .inl (op_bin (fun x y => x + y)), .inl (op_iald 3), .inr (.inl (103, 2, 1, 9)), .inl (op_aload 2), .inl (op_aload 0), .inl (op_iload 3), .inl (op_ic 1), .inl (op_bin (fun x y => x + y)), .inl (op_iald 3), .inr (.inl (178, 2, 1, 10)), .inl (op_icmp (fun x y => decide (x = y)) 641), .inl (op_ic 0)],
  [.inr (.inr 3), .inl (op_iinc 3 6), .inl (op_goto 10), .inl (op_ic 1), .inr (.inr 3)]]
def pi180 : pI := (⟨"VeilNationsLaw", "law", "([I)Z"⟩, code, 4, some .boolean, 10, 354, [[0, 3, 4, 7, 8, 11, 12, 15, 16, 17, 18, 19, 20, 21, 23, 24], [27, 28, 29, 30, 32, 33, 152, 153, 154, 155, 156, 157, 158, 159, 160, 161], [162, 163, 164, 165, 166, 167, 168, 169, 170, 171, 172, 173, 174, 175, 176, 177], [178, 181, 182, 183, 184, 185, 186, 187, 188, 189, 190, 191, 192, 193, 194, 195], [196, 197, 198, 199, 200, 201, 202, 203, 204, 205, 206, 207, 210, 213, 214, 215], [216, 217, 218, 219, 220, 221, 222, 223, 224, 225, 226, 227, 228, 229, 230, 231], [234, 235, 238, 239, 242, 243, 244, 245, 246, 247, 248, 249, 250, 251, 252, 253], [254, 255, 256, 257, 258, 261, 262, 265, 266, 269, 272, 273, 274, 275, 276, 277], [278, 279, 280, 283, 284, 285, 286, 287, 288, 289, 292, 295, 296, 297, 298, 299], [300, 301, 302, 303, 304, 305, 306, 307, 308, 309, 310, 311, 312, 313, 316, 317], [318, 319, 320, 321, 322, 323, 324, 325, 326, 327, 328, 329, 330, 331, 332, 335], [338, 339, 340, 341, 342, 343, 344, 345, 346, 349, 350, 351, 352, 353, 354, 355], [358, 361, 362, 363, 364, 367, 368, 371, 374, 375, 376, 377, 380, 381, 384, 387], [388, 389, 390, 391, 392, 393, 394, 395, 398, 399, 400, 401, 402, 403, 404, 407], [410, 411, 412, 413, 414, 415, 416, 417, 418, 419, 420, 421, 422, 423, 426, 427], [428, 429, 430, 431, 432, 433, 434, 435, 436, 437, 440, 443, 444, 445, 446, 447], [448, 449, 450, 451, 454, 455, 456, 457, 458, 459, 460, 463, 466, 467, 468, 469], [470, 471, 472, 473, 474, 477, 478, 479, 480, 481, 482, 483, 486, 489, 490, 491], [492, 495, 496, 499, 502, 503, 504, 505, 506, 507, 508, 509, 510, 511, 512, 513], [514, 515, 518, 519, 520, 521, 522, 523, 524, 525, 526, 527, 528, 529, 532, 535], [536, 537, 538, 539, 540, 541, 542, 543, 546, 547, 548, 549, 550, 551, 552, 555], [558, 559, 560, 561, 562, 563, 564, 565, 566, 569, 570, 571, 572, 573, 574, 575], [578, 581, 582, 583, 584, 585, 586, 587, 588, 589, 590, 591, 592, 593, 594, 595], [596, 597, 598, 599, 600, 601, 602, 603, 604, 605, 606, 607, 608, 609, 612, 613], [614, 615, 616, 617, 618, 619, 620, 621, 622, 623, 624, 625, 626, 627, 628, 629], [630, 631, 632, 633, 634, 635, 636, 637, 638, 641, 644, 645, 646, 647, 648, 649], [650, 651, 652, 653, 654, 655, 656, 657, 660, 661, 664, 665, 668, 669, 670, 671], [672, 673, 674, 675, 676, 677, 678, 679, 682, 683, 686, 687, 690, 693, 694, 695], [696, 699, 700, 703, 706, 707, 708, 709, 710, 711, 712, 713, 714, 717, 718, 719], [720, 721, 722, 723, 726, 729, 730, 731, 732, 733, 734, 735, 736, 737, 740, 741], [742, 743, 744, 745, 746, 749, 752, 753, 754, 755, 756, 757, 758, 759, 760, 763], [764, 765, 766, 767, 768, 769, 772, 775, 776, 777, 778, 779, 780, 781, 782, 783], [784, 785, 786, 787, 788, 789, 790, 791, 792, 793, 794, 795, 796, 797, 798, 801], [802, 803, 804, 805, 806, 807, 808, 809, 810, 811, 812, 813, 814, 815, 816, 817], [818, 819, 820, 821, 822, 825, 826, 829, 830, 831, 832, 833, 834, 835, 836, 837], [838, 839, 840, 841, 842, 843, 844, 845, 846, 847, 850, 851, 852, 853, 854, 855], [856, 857, 858, 859, 860, 861, 862, 863, 864, 865, 866, 869, 872, 873, 874, 875], [876, 877, 878, 879, 880, 883, 884, 885, 886, 887, 888, 889, 892, 895, 896, 897], [898, 899, 900, 901, 902, 903, 906, 907, 908, 909, 910, 911, 912, 915, 918, 919], [920, 921, 922, 923, 924, 925, 926, 929, 930, 931, 932, 933, 934, 935, 938, 941], [942, 943, 946, 949, 950]])
def pg_codes : List (List (List (List pOp))) := [[pk0, pk1, pk2, pk3, pk4, pk5, pk6, pk7, pk8, pk9, pk10, pk11, pk12, pk13, pk14, pk15], [pk16, pk17, pk18, pk19, pk20, pk21, pk22, pk23, pk24, pk25, pk26, pk27, pk28, pk29, pk30, pk31], [pk32, pk33, pk34, pk35, pk36, pk37, pk38, pk39, pk40, pk41, pk42, pk43, pk44, pk45, pk46, pk47], [pk48, pk49, pk50, pk51, pk52, pk53, pk54, pk55, pk56, pk57, pk58, pk59, pk60, pk61, pk62, pk63], [pk64, pk65, pk66, pk67, pk68, pk69, pk70, pk71, pk72, pk73, pk74, pk75, pk76, pk77, pk78, pk79], [pk80, pk81, pk82, pk83, pk84, pk85, pk86, pk87, pk88, pk89, pk90, pk91, pk92, pk93, pk94, pk95], [pk96, pk97, pk98, pk99, pk100, pk101, pk102, pk103, pk104, pk105, pk106, pk107, pk108, pk109, pk110, pk111], [pk112, pk113, pk114, pk115, pk116, pk117, pk118, pk119, pk120, pk121, pk122, pk123, pk124, pk125, pk126, pk127], [pk128, pk129, pk130, pk131, pk132, pk133, pk134, pk135, pk136, pk137, pk138, pk139, pk140, pk141, pk142, pk143], [pk144, pk145, pk146, pk147, pk148, pk149, pk150, pk151, pk152, pk153, pk154, pk155, pk156, pk157, pk158, pk159], [pk160, pk161, pk162, pk163, pk164, pk165, pk166, pk167, pk168, pk169, pk170, pk171, pk172, pk173, pk174, pk175], [pk176, pk177, pk178, pk179, pk180]]
def pg_infos : List (List pI) := [[pi0, pi1, pi2, pi3, pi4, pi5, pi6, pi7, pi8, pi9, pi10, pi11, pi12, pi13, pi14, pi15], [pi16, pi17, pi18, pi19, pi20, pi21, pi22, pi23, pi24, pi25, pi26, pi27, pi28, pi29, pi30, pi31], [pi32, pi33, pi34, pi35, pi36, pi37, pi38, pi39, pi40, pi41, pi42, pi43, pi44, pi45, pi46, pi47], [pi48, pi49, pi50, pi51, pi52, pi53, pi54, pi55, pi56, pi57, pi58, pi59, pi60, pi61, pi62, pi63], [pi64, pi65, pi66, pi67, pi68, pi69, pi70, pi71, pi72, pi73, pi74, pi75, pi76, pi77, pi78, pi79], [pi80, pi81, pi82, pi83, pi84, pi85, pi86, pi87, pi88, pi89, pi90, pi91, pi92, pi93, pi94, pi95], [pi96, pi97, pi98, pi99, pi100, pi101, pi102, pi103, pi104, pi105, pi106, pi107, pi108, pi109, pi110, pi111], [pi112, pi113, pi114, pi115, pi116, pi117, pi118, pi119, pi120, pi121, pi122, pi123, pi124, pi125, pi126, pi127], [pi128, pi129, pi130, pi131, pi132, pi133, pi134, pi135, pi136, pi137, pi138, pi139, pi140, pi141, pi142, pi143], [pi144, pi145, pi146, pi147, pi148, pi149, pi150, pi151, pi152, pi153, pi154, pi155, pi156, pi157, pi158, pi159], [pi160, pi161, pi162, pi163, pi164, pi165, pi166, pi167, pi168, pi169, pi170, pi171, pi172, pi173, pi174, pi175], [pi176, pi177, pi178, pi179, pi180]]
def pg : pG := (fun k i => lk2o (lk2 pg_codes k []) i, fun k => lk2 pg_infos k pi0)
end
section
/-! The words of the tables that the code needs, by their places. -/
theorem pg_good : pm_good pg_T := fun _ h => (List.mem_filter.mp h).2
theorem pg_wd {w : Cond} {i : Nat} (h : lw_tbl[i]? = some w ∧ goodWord w = true) : w ∈ pg_T.2.1 := List.mem_filter.mpr ⟨List.mem_of_getElem? h.1, h.2⟩
theorem wd0 : Cond.selects "VeilNations$World" ⟨"VeilNations$World", "setVeil", "(IZ)V"⟩ ⟨"VeilNations$World", "setVeil", "(IZ)V"⟩ ∈ pg_T.2.1 := pg_wd (i := 0) (by decide +kernel)
theorem wd1 : Cond.selects "VeilNations$Pad" ⟨"VeilNations$Pad", "take", "(II)I"⟩ ⟨"VeilNations$Pad", "take", "(II)I"⟩ ∈ pg_T.2.1 := pg_wd (i := 1) (by decide +kernel)
theorem wd2 : Cond.selects "VeilNations$Pad" ⟨"VeilNations$Pad", "takeFirst", "(I)I"⟩ ⟨"VeilNations$Pad", "takeFirst", "(I)I"⟩ ∈ pg_T.2.1 := pg_wd (i := 2) (by decide +kernel)
theorem wd3 : Cond.selects "VeilNations$Pad" ⟨"VeilNations$Pad", "close", "()I"⟩ ⟨"VeilNations$Pad", "close", "()I"⟩ ∈ pg_T.2.1 := pg_wd (i := 3) (by decide +kernel)
theorem wd4 : Cond.selects "VeilNations$Pad" ⟨"VeilNations$Pad", "takeDeed", "(I)I"⟩ ⟨"VeilNations$Pad", "takeDeed", "(I)I"⟩ ∈ pg_T.2.1 := pg_wd (i := 4) (by decide +kernel)
theorem wd5 : Cond.selects "VeilNations" ⟨"VeilNations", "follow", "(Z)I"⟩ ⟨"VeilNations", "follow", "(Z)I"⟩ ∈ pg_T.2.1 := pg_wd (i := 5) (by decide +kernel)
theorem wd6 : Cond.selects "VeilNations$Course" ⟨"VeilNations$Course", "begin", "(LVeilNations$World;)V"⟩ ⟨"VeilNations$Course", "begin", "(LVeilNations$World;)V"⟩ ∈ pg_T.2.1 := pg_wd (i := 6) (by decide +kernel)
theorem wd7 : Cond.selects "VeilNations$World" ⟨"VeilNations$World", "whyNotKiss", "(II)I"⟩ ⟨"VeilNations$World", "whyNotKiss", "(II)I"⟩ ∈ pg_T.2.1 := pg_wd (i := 7) (by decide +kernel)
theorem wd8 : Cond.selects "VeilNations$World" ⟨"VeilNations$World", "annex", "(II)I"⟩ ⟨"VeilNations$World", "annex", "(II)I"⟩ ∈ pg_T.2.1 := pg_wd (i := 8) (by decide +kernel)
theorem wd9 : Cond.selects "VeilNations$World" ⟨"VeilNations$World", "addTears", "(II)V"⟩ ⟨"VeilNations$World", "addTears", "(II)V"⟩ ∈ pg_T.2.1 := pg_wd (i := 9) (by decide +kernel)
theorem wd10 : Cond.selects "VeilNations$World" ⟨"VeilNations$World", "blow", "(I)V"⟩ ⟨"VeilNations$World", "blow", "(I)V"⟩ ∈ pg_T.2.1 := pg_wd (i := 10) (by decide +kernel)
theorem wd11 : Cond.selects "VeilNations$World" ⟨"VeilNations$World", "passDay", "()I"⟩ ⟨"VeilNations$World", "passDay", "()I"⟩ ∈ pg_T.2.1 := pg_wd (i := 11) (by decide +kernel)
theorem wd12 : Cond.selects "VeilNations$Course" ⟨"VeilNations$Course", "note", "(II)V"⟩ ⟨"VeilNations$Course", "note", "(II)V"⟩ ∈ pg_T.2.1 := pg_wd (i := 12) (by decide +kernel)
theorem wd13 : Cond.selects "VeilNations$World" ⟨"VeilNations$World", "countFoes", "()V"⟩ ⟨"VeilNations$World", "countFoes", "()V"⟩ ∈ pg_T.2.1 := pg_wd (i := 13) (by decide +kernel)
theorem wd14 : Cond.selects "VeilNations$Calls" ⟨"VeilNations$Calls", "canBeInTime", "(I)Z"⟩ ⟨"VeilNations$Calls", "canBeInTime", "(I)Z"⟩ ∈ pg_T.2.1 := pg_wd (i := 14) (by decide +kernel)
theorem wd15 : Cond.selects "VeilNations$Calls" ⟨"VeilNations$Calls", "minutesDueBy", "(II)I"⟩ ⟨"VeilNations$Calls", "minutesDueBy", "(II)I"⟩ ∈ pg_T.2.1 := pg_wd (i := 15) (by decide +kernel)
theorem wd16 : Cond.selects "VeilNations$Stamps" ⟨"VeilNations$Stamps", "countFewest", "(I)V"⟩ ⟨"VeilNations$Stamps", "countFewest", "(I)V"⟩ ∈ pg_T.2.1 := pg_wd (i := 16) (by decide +kernel)
theorem wd17 : Cond.selects "VeilNations$Stamps" ⟨"VeilNations$Stamps", "haveCommonDivisor", "()Z"⟩ ⟨"VeilNations$Stamps", "haveCommonDivisor", "()Z"⟩ ∈ pg_T.2.1 := pg_wd (i := 17) (by decide +kernel)
theorem wd18 : Cond.selects "VeilNations$Rhythms" ⟨"VeilNations$Rhythms", "gatherOne", "(ILVeilNations$Sights;)V"⟩ ⟨"VeilNations$Rhythms", "gatherOne", "(ILVeilNations$Sights;)V"⟩ ∈ pg_T.2.1 := pg_wd (i := 18) (by decide +kernel)
theorem wd19 : Cond.selects "VeilNations" ⟨"VeilNations", "toldOfOne", "(II)I"⟩ ⟨"VeilNations", "toldOfOne", "(II)I"⟩ ∈ pg_T.2.1 := pg_wd (i := 19) (by decide +kernel)
theorem wd20 : Cond.selects "VeilNationsModel" ⟨"VeilNationsModel", "agree", "(IIZ)V"⟩ ⟨"VeilNationsModel", "agree", "(IIZ)V"⟩ ∈ pg_T.2.1 := pg_wd (i := 20) (by decide +kernel)
theorem wd21 : Cond.selects "VeilNationsModel" ⟨"VeilNationsModel", "treatyMany", "()I"⟩ ⟨"VeilNationsModel", "treatyMany", "()I"⟩ ∈ pg_T.2.1 := pg_wd (i := 21) (by decide +kernel)
theorem wd22 : Cond.selects "VeilNationsModel" ⟨"VeilNationsModel", "readOn", "(II)I"⟩ ⟨"VeilNationsModel", "readOn", "(II)I"⟩ ∈ pg_T.2.1 := pg_wd (i := 22) (by decide +kernel)
theorem wd23 : Cond.selects "VeilNationsModel" ⟨"VeilNationsModel", "begin", "(I)I"⟩ ⟨"VeilNationsModel", "begin", "(I)I"⟩ ∈ pg_T.2.1 := pg_wd (i := 23) (by decide +kernel)
theorem wd24 : Cond.selects "VeilNationsModel" ⟨"VeilNationsModel", "close", "(II)I"⟩ ⟨"VeilNationsModel", "close", "(II)I"⟩ ∈ pg_T.2.1 := pg_wd (i := 24) (by decide +kernel)
theorem wd25 : Cond.selects "VeilNationsModel" ⟨"VeilNationsModel", "deed", "(I)I"⟩ ⟨"VeilNationsModel", "deed", "(I)I"⟩ ∈ pg_T.2.1 := pg_wd (i := 25) (by decide +kernel)
theorem wd26 : Cond.selects "VeilNationsModel" ⟨"VeilNationsModel", "refusal", "()I"⟩ ⟨"VeilNationsModel", "refusal", "()I"⟩ ∈ pg_T.2.1 := pg_wd (i := 26) (by decide +kernel)
theorem wd27 : Cond.selects "VeilNationsModel" ⟨"VeilNationsModel", "keepNow", "()V"⟩ ⟨"VeilNationsModel", "keepNow", "()V"⟩ ∈ pg_T.2.1 := pg_wd (i := 27) (by decide +kernel)
theorem wd28 : Cond.selects "VeilNationsModel" ⟨"VeilNationsModel", "goDays", "()V"⟩ ⟨"VeilNationsModel", "goDays", "()V"⟩ ∈ pg_T.2.1 := pg_wd (i := 28) (by decide +kernel)
theorem wd29 : Cond.selects "VeilNationsModel" ⟨"VeilNationsModel", "whyNot", "(III)I"⟩ ⟨"VeilNationsModel", "whyNot", "(III)I"⟩ ∈ pg_T.2.1 := pg_wd (i := 29) (by decide +kernel)
theorem wd30 : Cond.selects "VeilNationsModel" ⟨"VeilNationsModel", "whyNoKiss", "(II)I"⟩ ⟨"VeilNationsModel", "whyNoKiss", "(II)I"⟩ ∈ pg_T.2.1 := pg_wd (i := 30) (by decide +kernel)
theorem wd31 : Cond.selects "VeilNationsModel" ⟨"VeilNationsModel", "goOne", "(I)V"⟩ ⟨"VeilNationsModel", "goOne", "(I)V"⟩ ∈ pg_T.2.1 := pg_wd (i := 31) (by decide +kernel)
theorem wd32 : Cond.selects "VeilNationsModel" ⟨"VeilNationsModel", "happen", "(III)V"⟩ ⟨"VeilNationsModel", "happen", "(III)V"⟩ ∈ pg_T.2.1 := pg_wd (i := 32) (by decide +kernel)
theorem wd33 : Cond.selects "VeilNationsModel" ⟨"VeilNationsModel", "annex", "(II)V"⟩ ⟨"VeilNationsModel", "annex", "(II)V"⟩ ∈ pg_T.2.1 := pg_wd (i := 33) (by decide +kernel)
theorem wd34 : Cond.selects "VeilNationsModel" ⟨"VeilNationsModel", "mend", "(I)V"⟩ ⟨"VeilNationsModel", "mend", "(I)V"⟩ ∈ pg_T.2.1 := pg_wd (i := 34) (by decide +kernel)
theorem wd35 : Cond.selects "VeilNationsModel" ⟨"VeilNationsModel", "gust", "(I)V"⟩ ⟨"VeilNationsModel", "gust", "(I)V"⟩ ∈ pg_T.2.1 := pg_wd (i := 35) (by decide +kernel)
theorem wd36 : Cond.selects "VeilNationsModel" ⟨"VeilNationsModel", "thick", "(I)I"⟩ ⟨"VeilNationsModel", "thick", "(I)I"⟩ ∈ pg_T.2.1 := pg_wd (i := 36) (by decide +kernel)
theorem wd37 : Cond.selects "VeilNationsModel" ⟨"VeilNationsModel", "passDay", "()V"⟩ ⟨"VeilNationsModel", "passDay", "()V"⟩ ∈ pg_T.2.1 := pg_wd (i := 37) (by decide +kernel)
theorem wd38 : Cond.selects "VeilNationsModel" ⟨"VeilNationsModel", "back", "(I)I"⟩ ⟨"VeilNationsModel", "back", "(I)I"⟩ ∈ pg_T.2.1 := pg_wd (i := 38) (by decide +kernel)
theorem wd39 : Cond.selects "VeilNationsModel" ⟨"VeilNationsModel", "ofOne", "(II)I"⟩ ⟨"VeilNationsModel", "ofOne", "(II)I"⟩ ∈ pg_T.2.1 := pg_wd (i := 39) (by decide +kernel)
theorem wd40 : Cond.selects "VeilNationsModel" ⟨"VeilNationsModel", "ofAll", "(I)I"⟩ ⟨"VeilNationsModel", "ofAll", "(I)I"⟩ ∈ pg_T.2.1 := pg_wd (i := 40) (by decide +kernel)
theorem wd41 : Cond.selects "VeilNationsModel" ⟨"VeilNationsModel", "manyOf", "(I)I"⟩ ⟨"VeilNationsModel", "manyOf", "(I)I"⟩ ∈ pg_T.2.1 := pg_wd (i := 41) (by decide +kernel)
theorem wd42 : Cond.selects "VeilNationsModel" ⟨"VeilNationsModel", "seenBy", "(III)I"⟩ ⟨"VeilNationsModel", "seenBy", "(III)I"⟩ ∈ pg_T.2.1 := pg_wd (i := 42) (by decide +kernel)
theorem wd43 : Cond.selects "VeilNationsModel" ⟨"VeilNationsModel", "quarrels", "(I)I"⟩ ⟨"VeilNationsModel", "quarrels", "(I)I"⟩ ∈ pg_T.2.1 := pg_wd (i := 43) (by decide +kernel)
theorem wd44 : Cond.selects "VeilNationsModel" ⟨"VeilNationsModel", "isInTime", "(I)Z"⟩ ⟨"VeilNationsModel", "isInTime", "(I)Z"⟩ ∈ pg_T.2.1 := pg_wd (i := 44) (by decide +kernel)
theorem wd45 : Cond.selects "VeilNationsModel" ⟨"VeilNationsModel", "nextCall", "(I)I"⟩ ⟨"VeilNationsModel", "nextCall", "(I)I"⟩ ∈ pg_T.2.1 := pg_wd (i := 45) (by decide +kernel)
theorem wd46 : Cond.selects "VeilNationsModel" ⟨"VeilNationsModel", "waysFor", "(IIII)I"⟩ ⟨"VeilNationsModel", "waysFor", "(IIII)I"⟩ ∈ pg_T.2.1 := pg_wd (i := 46) (by decide +kernel)
theorem wd47 : Cond.selects "VeilNationsModel" ⟨"VeilNationsModel", "oneMore", "(II)I"⟩ ⟨"VeilNationsModel", "oneMore", "(II)I"⟩ ∈ pg_T.2.1 := pg_wd (i := 47) (by decide +kernel)
theorem wd48 : Cond.selects "VeilNationsModel" ⟨"VeilNationsModel", "greatestNot", "()I"⟩ ⟨"VeilNationsModel", "greatestNot", "()I"⟩ ∈ pg_T.2.1 := pg_wd (i := 48) (by decide +kernel)
theorem wd49 : Cond.selects "VeilNationsModel" ⟨"VeilNationsModel", "isFit", "(I)Z"⟩ ⟨"VeilNationsModel", "isFit", "(I)Z"⟩ ∈ pg_T.2.1 := pg_wd (i := 49) (by decide +kernel)
theorem wd50 : Cond.selects "VeilNationsModel" ⟨"VeilNationsModel", "leastLift", "(I)I"⟩ ⟨"VeilNationsModel", "leastLift", "(I)I"⟩ ∈ pg_T.2.1 := pg_wd (i := 50) (by decide +kernel)
theorem wd51 : Cond.selects "VeilNationsModel" ⟨"VeilNationsModel", "before", "([JII)J"⟩ ⟨"VeilNationsModel", "before", "([JII)J"⟩ ∈ pg_T.2.1 := pg_wd (i := 51) (by decide +kernel)
theorem wd52 : Cond.selects "VeilNationsModel" ⟨"VeilNationsModel", "passAll", "()V"⟩ ⟨"VeilNationsModel", "passAll", "()V"⟩ ∈ pg_T.2.1 := pg_wd (i := 52) (by decide +kernel)
theorem wd53 : Cond.selects "VeilNationsModel" ⟨"VeilNationsModel", "pass", "(I)I"⟩ ⟨"VeilNationsModel", "pass", "(I)I"⟩ ∈ pg_T.2.1 := pg_wd (i := 53) (by decide +kernel)
theorem wd54 : Cond.selects "VeilNationsModel" ⟨"VeilNationsModel", "passRow", "([II)V"⟩ ⟨"VeilNationsModel", "passRow", "([II)V"⟩ ∈ pg_T.2.1 := pg_wd (i := 54) (by decide +kernel)
theorem wd55 : Cond.selects "VeilNationsModel" ⟨"VeilNationsModel", "toldOne", "(II)I"⟩ ⟨"VeilNationsModel", "toldOne", "(II)I"⟩ ∈ pg_T.2.1 := pg_wd (i := 55) (by decide +kernel)
theorem wd57 : Cond.initialized "VeilNations" ∈ pg_T.2.1 := pg_wd (i := 57) (by decide +kernel)
theorem wd58 : Cond.initialized "VeilNations$Whole" ∈ pg_T.2.1 := pg_wd (i := 58) (by decide +kernel)
theorem wd59 : Cond.initialized "VeilNations$World" ∈ pg_T.2.1 := pg_wd (i := 59) (by decide +kernel)
theorem wd60 : Cond.initialized "VeilNations$Calls" ∈ pg_T.2.1 := pg_wd (i := 60) (by decide +kernel)
theorem wd61 : Cond.initialized "VeilNations$Sights" ∈ pg_T.2.1 := pg_wd (i := 61) (by decide +kernel)
theorem wd62 : Cond.initialized "VeilNations$Pad" ∈ pg_T.2.1 := pg_wd (i := 62) (by decide +kernel)
theorem wd63 : Cond.initialized "VeilNations$Course" ∈ pg_T.2.1 := pg_wd (i := 63) (by decide +kernel)
theorem wd64 : Cond.initialized "VeilNations$Rhythms" ∈ pg_T.2.1 := pg_wd (i := 64) (by decide +kernel)
theorem wd65 : Cond.initialized "VeilNations$Stamps" ∈ pg_T.2.1 := pg_wd (i := 65) (by decide +kernel)
theorem wd66 : Cond.initialized "VeilNationsModel" ∈ pg_T.2.1 := pg_wd (i := 66) (by decide +kernel)
theorem wd67 : Cond.initialized "java/lang/Integer" ∈ pg_T.2.1 := pg_wd (i := 67) (by decide +kernel)
theorem wd68 : Cond.initialized "java/lang/Math" ∈ pg_T.2.1 := pg_wd (i := 68) (by decide +kernel)
theorem wd69 : Cond.classLink "VeilNationsLaw" (7 : Nat) "VeilNations" ∈ pg_T.2.1 := pg_wd (i := 69) (by decide +kernel)
theorem wd70 : Cond.instantiable "VeilNations" (8 : Nat) ∈ pg_T.2.1 := pg_wd (i := 70) (by decide +kernel)
theorem wd71 : Cond.methodLink "VeilNationsLaw" (9 : Nat) ({ cls := "VeilNations", name := "<init>", desc := "()V" } : Jvm.MethodName) ∈ pg_T.2.1 := pg_wd (i := 71) (by decide +kernel)
theorem wd72 : Cond.instanceMethod ({ cls := "VeilNations", name := "<init>", desc := "()V" } : Jvm.MethodName) ∈ pg_T.2.1 := pg_wd (i := 72) (by decide +kernel)
theorem wd73 : Cond.code ({ cls := "VeilNations", name := "<init>", desc := "()V" } : Jvm.MethodName) prog_1_method_1_code (1 : Nat) (Option.none : Option Jvm.ClassFile.FieldType) ∈ pg_T.2.1 := pg_wd (i := 73) (by decide +kernel)
theorem wd74 : Cond.methodLink "VeilNations" (1 : Nat) ({ cls := "java/lang/Object", name := "<init>", desc := "()V" } : Jvm.MethodName) ∈ pg_T.2.1 := pg_wd (i := 74) (by decide +kernel)
theorem wd75 : Cond.instanceMethod ({ cls := "java/lang/Object", name := "<init>", desc := "()V" } : Jvm.MethodName) ∈ pg_T.2.1 := pg_wd (i := 75) (by decide +kernel)
theorem wd76 : Cond.code ({ cls := "java/lang/Object", name := "<init>", desc := "()V" } : Jvm.MethodName) object_method_1_code (1 : Nat) (Option.none : Option Jvm.ClassFile.FieldType) ∈ pg_T.2.1 := pg_wd (i := 76) (by decide +kernel)
theorem wd77 : Cond.classLink "VeilNations" (7 : Nat) "VeilNations$Whole" ∈ pg_T.2.1 := pg_wd (i := 77) (by decide +kernel)
theorem wd78 : Cond.instantiable "VeilNations$Whole" (4 : Nat) ∈ pg_T.2.1 := pg_wd (i := 78) (by decide +kernel)
theorem wd79 : Cond.methodLink "VeilNations" (9 : Nat) ({ cls := "VeilNations$Whole", name := "<init>", desc := "()V" } : Jvm.MethodName) ∈ pg_T.2.1 := pg_wd (i := 79) (by decide +kernel)
theorem wd80 : Cond.instanceMethod ({ cls := "VeilNations$Whole", name := "<init>", desc := "()V" } : Jvm.MethodName) ∈ pg_T.2.1 := pg_wd (i := 80) (by decide +kernel)
theorem wd81 : Cond.code ({ cls := "VeilNations$Whole", name := "<init>", desc := "()V" } : Jvm.MethodName) prog_8_method_1_code (1 : Nat) (Option.none : Option Jvm.ClassFile.FieldType) ∈ pg_T.2.1 := pg_wd (i := 81) (by decide +kernel)
theorem wd82 : Cond.methodLink "VeilNations$Whole" (1 : Nat) ({ cls := "java/lang/Object", name := "<init>", desc := "()V" } : Jvm.MethodName) ∈ pg_T.2.1 := pg_wd (i := 82) (by decide +kernel)
theorem wd83 : Cond.classLink "VeilNations$Whole" (7 : Nat) "VeilNations$World" ∈ pg_T.2.1 := pg_wd (i := 83) (by decide +kernel)
theorem wd84 : Cond.instantiable "VeilNations$World" (8 : Nat) ∈ pg_T.2.1 := pg_wd (i := 84) (by decide +kernel)
theorem wd85 : Cond.methodLink "VeilNations$Whole" (9 : Nat) ({ cls := "VeilNations$World", name := "<init>", desc := "()V" } : Jvm.MethodName) ∈ pg_T.2.1 := pg_wd (i := 85) (by decide +kernel)
theorem wd86 : Cond.instanceMethod ({ cls := "VeilNations$World", name := "<init>", desc := "()V" } : Jvm.MethodName) ∈ pg_T.2.1 := pg_wd (i := 86) (by decide +kernel)
theorem wd87 : Cond.code ({ cls := "VeilNations$World", name := "<init>", desc := "()V" } : Jvm.MethodName) prog_9_method_1_code (2 : Nat) (Option.none : Option Jvm.ClassFile.FieldType) ∈ pg_T.2.1 := pg_wd (i := 87) (by decide +kernel)
theorem wd88 : Cond.methodLink "VeilNations$World" (3 : Nat) ({ cls := "java/lang/Object", name := "<init>", desc := "()V" } : Jvm.MethodName) ∈ pg_T.2.1 := pg_wd (i := 88) (by decide +kernel)
theorem wd89 : Cond.fieldLink "VeilNations$World" (9 : Nat) "VeilNations$World" "nations" "[I" ∈ pg_T.2.1 := pg_wd (i := 89) (by decide +kernel)
theorem wd90 : Cond.fieldLink "VeilNations$World" (15 : Nat) "VeilNations$World" "meshes" "[I" ∈ pg_T.2.1 := pg_wd (i := 90) (by decide +kernel)
theorem wd91 : Cond.fieldLink "VeilNations$World" (18 : Nat) "VeilNations$World" "tears" "[I" ∈ pg_T.2.1 := pg_wd (i := 91) (by decide +kernel)
theorem wd92 : Cond.fieldLink "VeilNations$World" (21 : Nat) "VeilNations$World" "friends" "[I" ∈ pg_T.2.1 := pg_wd (i := 92) (by decide +kernel)
theorem wd93 : Cond.fieldLink "VeilNations$World" (24 : Nat) "VeilNations$World" "foes" "[I" ∈ pg_T.2.1 := pg_wd (i := 93) (by decide +kernel)
theorem wd94 : Cond.fieldLink "VeilNations$World" (31 : Nat) "VeilNations$World" "veils" "I" ∈ pg_T.2.1 := pg_wd (i := 94) (by decide +kernel)
theorem wd95 : Cond.fieldLink "VeilNations" (218 : Nat) "VeilNations$World" "veils" "I" ∈ pg_T.2.1 := pg_wd (i := 95) (by decide +kernel)
theorem wd96 : Cond.fieldLink "VeilNations$World" (27 : Nat) "VeilNations$World" "hair" "I" ∈ pg_T.2.1 := pg_wd (i := 96) (by decide +kernel)
theorem wd97 : Cond.fieldLink "VeilNations" (84 : Nat) "VeilNations$World" "hair" "I" ∈ pg_T.2.1 := pg_wd (i := 97) (by decide +kernel)
theorem wd98 : Cond.fieldLink "VeilNations$World" (34 : Nat) "VeilNations$World" "day" "I" ∈ pg_T.2.1 := pg_wd (i := 98) (by decide +kernel)
theorem wd99 : Cond.fieldLink "VeilNations" (141 : Nat) "VeilNations$World" "day" "I" ∈ pg_T.2.1 := pg_wd (i := 99) (by decide +kernel)
theorem wd100 : Cond.laysFinal "VeilNations$World" "VeilNations$World" "nations" "[I" ∈ pg_T.2.1 := pg_wd (i := 100) (by decide +kernel)
theorem wd102 : Cond.laysFinal "VeilNations$World" "VeilNations$World" "meshes" "[I" ∈ pg_T.2.1 := pg_wd (i := 102) (by decide +kernel)
theorem wd104 : Cond.laysFinal "VeilNations$World" "VeilNations$World" "tears" "[I" ∈ pg_T.2.1 := pg_wd (i := 104) (by decide +kernel)
theorem wd106 : Cond.laysFinal "VeilNations$World" "VeilNations$World" "friends" "[I" ∈ pg_T.2.1 := pg_wd (i := 106) (by decide +kernel)
theorem wd108 : Cond.laysFinal "VeilNations$World" "VeilNations$World" "foes" "[I" ∈ pg_T.2.1 := pg_wd (i := 108) (by decide +kernel)
theorem wd110 : Cond.lays "VeilNations$World" "VeilNations$World" "veils" "I" ∈ pg_T.2.1 := pg_wd (i := 110) (by decide +kernel)
theorem wd112 : Cond.lays "VeilNations$World" "VeilNations$World" "hair" "I" ∈ pg_T.2.1 := pg_wd (i := 112) (by decide +kernel)
theorem wd114 : Cond.lays "VeilNations$World" "VeilNations$World" "day" "I" ∈ pg_T.2.1 := pg_wd (i := 114) (by decide +kernel)
theorem wd117 : Cond.arrayClass Jvm.ClassFile.FieldType.int ∈ pg_T.2.1 := pg_wd (i := 117) (by decide +kernel)
theorem wd118 : Cond.classLink "VeilNations$Whole" (16 : Nat) "VeilNations$Calls" ∈ pg_T.2.1 := pg_wd (i := 118) (by decide +kernel)
theorem wd119 : Cond.instantiable "VeilNations$Calls" (2 : Nat) ∈ pg_T.2.1 := pg_wd (i := 119) (by decide +kernel)
theorem wd120 : Cond.methodLink "VeilNations$Whole" (18 : Nat) ({ cls := "VeilNations$Calls", name := "<init>", desc := "()V" } : Jvm.MethodName) ∈ pg_T.2.1 := pg_wd (i := 120) (by decide +kernel)
theorem wd121 : Cond.instanceMethod ({ cls := "VeilNations$Calls", name := "<init>", desc := "()V" } : Jvm.MethodName) ∈ pg_T.2.1 := pg_wd (i := 121) (by decide +kernel)
theorem wd122 : Cond.code ({ cls := "VeilNations$Calls", name := "<init>", desc := "()V" } : Jvm.MethodName) prog_2_method_1_code (2 : Nat) (Option.none : Option Jvm.ClassFile.FieldType) ∈ pg_T.2.1 := pg_wd (i := 122) (by decide +kernel)
theorem wd123 : Cond.methodLink "VeilNations$Calls" (3 : Nat) ({ cls := "java/lang/Object", name := "<init>", desc := "()V" } : Jvm.MethodName) ∈ pg_T.2.1 := pg_wd (i := 123) (by decide +kernel)
theorem wd124 : Cond.fieldLink "VeilNations$Calls" (9 : Nat) "VeilNations$Calls" "minutes" "[I" ∈ pg_T.2.1 := pg_wd (i := 124) (by decide +kernel)
theorem wd125 : Cond.fieldLink "VeilNations$Calls" (15 : Nat) "VeilNations$Calls" "dues" "[I" ∈ pg_T.2.1 := pg_wd (i := 125) (by decide +kernel)
theorem wd126 : Cond.laysFinal "VeilNations$Calls" "VeilNations$Calls" "minutes" "[I" ∈ pg_T.2.1 := pg_wd (i := 126) (by decide +kernel)
theorem wd128 : Cond.laysFinal "VeilNations$Calls" "VeilNations$Calls" "dues" "[I" ∈ pg_T.2.1 := pg_wd (i := 128) (by decide +kernel)
theorem wd131 : Cond.classLink "VeilNations$Whole" (23 : Nat) "VeilNations$Sights" ∈ pg_T.2.1 := pg_wd (i := 131) (by decide +kernel)
theorem wd132 : Cond.instantiable "VeilNations$Sights" (3 : Nat) ∈ pg_T.2.1 := pg_wd (i := 132) (by decide +kernel)
theorem wd133 : Cond.methodLink "VeilNations$Whole" (25 : Nat) ({ cls := "VeilNations$Sights", name := "<init>", desc := "()V" } : Jvm.MethodName) ∈ pg_T.2.1 := pg_wd (i := 133) (by decide +kernel)
theorem wd134 : Cond.instanceMethod ({ cls := "VeilNations$Sights", name := "<init>", desc := "()V" } : Jvm.MethodName) ∈ pg_T.2.1 := pg_wd (i := 134) (by decide +kernel)
theorem wd135 : Cond.code ({ cls := "VeilNations$Sights", name := "<init>", desc := "()V" } : Jvm.MethodName) prog_6_method_1_code (1 : Nat) (Option.none : Option Jvm.ClassFile.FieldType) ∈ pg_T.2.1 := pg_wd (i := 135) (by decide +kernel)
theorem wd136 : Cond.methodLink "VeilNations$Sights" (3 : Nat) ({ cls := "java/lang/Object", name := "<init>", desc := "()V" } : Jvm.MethodName) ∈ pg_T.2.1 := pg_wd (i := 136) (by decide +kernel)
theorem wd137 : Cond.fieldLink "VeilNations$Sights" (9 : Nat) "VeilNations$Sights" "evenings" "[I" ∈ pg_T.2.1 := pg_wd (i := 137) (by decide +kernel)
theorem wd138 : Cond.fieldLink "VeilNations$Sights" (15 : Nat) "VeilNations$Sights" "downs" "I" ∈ pg_T.2.1 := pg_wd (i := 138) (by decide +kernel)
theorem wd139 : Cond.fieldLink "VeilNations$Sights" (19 : Nat) "VeilNations$Sights" "count" "I" ∈ pg_T.2.1 := pg_wd (i := 139) (by decide +kernel)
theorem wd140 : Cond.fieldLink "VeilNations" (200 : Nat) "VeilNations$Sights" "count" "I" ∈ pg_T.2.1 := pg_wd (i := 140) (by decide +kernel)
theorem wd141 : Cond.laysFinal "VeilNations$Sights" "VeilNations$Sights" "evenings" "[I" ∈ pg_T.2.1 := pg_wd (i := 141) (by decide +kernel)
theorem wd143 : Cond.lays "VeilNations$Sights" "VeilNations$Sights" "downs" "I" ∈ pg_T.2.1 := pg_wd (i := 143) (by decide +kernel)
theorem wd145 : Cond.lays "VeilNations$Sights" "VeilNations$Sights" "count" "I" ∈ pg_T.2.1 := pg_wd (i := 145) (by decide +kernel)
theorem wd148 : Cond.fieldLink "VeilNations$Whole" (10 : Nat) "VeilNations$Whole" "world" "LVeilNations$World;" ∈ pg_T.2.1 := pg_wd (i := 148) (by decide +kernel)
theorem wd149 : Cond.fieldLink "VeilNations" (65 : Nat) "VeilNations$Whole" "world" "LVeilNations$World;" ∈ pg_T.2.1 := pg_wd (i := 149) (by decide +kernel)
theorem wd150 : Cond.fieldLink "VeilNations$Whole" (19 : Nat) "VeilNations$Whole" "calls" "LVeilNations$Calls;" ∈ pg_T.2.1 := pg_wd (i := 150) (by decide +kernel)
theorem wd151 : Cond.fieldLink "VeilNations" (88 : Nat) "VeilNations$Whole" "calls" "LVeilNations$Calls;" ∈ pg_T.2.1 := pg_wd (i := 151) (by decide +kernel)
theorem wd152 : Cond.fieldLink "VeilNations$Whole" (26 : Nat) "VeilNations$Whole" "sights" "LVeilNations$Sights;" ∈ pg_T.2.1 := pg_wd (i := 152) (by decide +kernel)
theorem wd153 : Cond.fieldLink "VeilNations" (190 : Nat) "VeilNations$Whole" "sights" "LVeilNations$Sights;" ∈ pg_T.2.1 := pg_wd (i := 153) (by decide +kernel)
theorem wd154 : Cond.fieldLink "VeilNations" (243 : Nat) "VeilNations$Whole" "isKept" "Z" ∈ pg_T.2.1 := pg_wd (i := 154) (by decide +kernel)
theorem wd155 : Cond.laysFinal "VeilNations$Whole" "VeilNations$Whole" "world" "LVeilNations$World;" ∈ pg_T.2.1 := pg_wd (i := 155) (by decide +kernel)
theorem wd157 : Cond.laysFinal "VeilNations$Whole" "VeilNations$Whole" "calls" "LVeilNations$Calls;" ∈ pg_T.2.1 := pg_wd (i := 157) (by decide +kernel)
theorem wd159 : Cond.laysFinal "VeilNations$Whole" "VeilNations$Whole" "sights" "LVeilNations$Sights;" ∈ pg_T.2.1 := pg_wd (i := 159) (by decide +kernel)
theorem wd161 : Cond.lays "VeilNations$Whole" "VeilNations$Whole" "isKept" "Z" ∈ pg_T.2.1 := pg_wd (i := 161) (by decide +kernel)
theorem wd164 : Cond.classLink "VeilNations" (22 : Nat) "VeilNations$Pad" ∈ pg_T.2.1 := pg_wd (i := 164) (by decide +kernel)
theorem wd165 : Cond.instantiable "VeilNations$Pad" (6 : Nat) ∈ pg_T.2.1 := pg_wd (i := 165) (by decide +kernel)
theorem wd166 : Cond.methodLink "VeilNations" (24 : Nat) ({ cls := "VeilNations$Pad", name := "<init>", desc := "()V" } : Jvm.MethodName) ∈ pg_T.2.1 := pg_wd (i := 166) (by decide +kernel)
theorem wd167 : Cond.instanceMethod ({ cls := "VeilNations$Pad", name := "<init>", desc := "()V" } : Jvm.MethodName) ∈ pg_T.2.1 := pg_wd (i := 167) (by decide +kernel)
theorem wd168 : Cond.code ({ cls := "VeilNations$Pad", name := "<init>", desc := "()V" } : Jvm.MethodName) prog_4_method_1_code (1 : Nat) (Option.none : Option Jvm.ClassFile.FieldType) ∈ pg_T.2.1 := pg_wd (i := 168) (by decide +kernel)
theorem wd169 : Cond.methodLink "VeilNations$Pad" (3 : Nat) ({ cls := "java/lang/Object", name := "<init>", desc := "()V" } : Jvm.MethodName) ∈ pg_T.2.1 := pg_wd (i := 169) (by decide +kernel)
theorem wd170 : Cond.fieldLink "VeilNations$Pad" (9 : Nat) "VeilNations$Pad" "signs" "[I" ∈ pg_T.2.1 := pg_wd (i := 170) (by decide +kernel)
theorem wd171 : Cond.fieldLink "VeilNations$Pad" (15 : Nat) "VeilNations$Pad" "kinds" "[I" ∈ pg_T.2.1 := pg_wd (i := 171) (by decide +kernel)
theorem wd172 : Cond.fieldLink "VeilNations$Pad" (18 : Nat) "VeilNations$Pad" "whos" "[I" ∈ pg_T.2.1 := pg_wd (i := 172) (by decide +kernel)
theorem wd173 : Cond.fieldLink "VeilNations$Pad" (21 : Nat) "VeilNations$Pad" "others" "[I" ∈ pg_T.2.1 := pg_wd (i := 173) (by decide +kernel)
theorem wd174 : Cond.fieldLink "VeilNations$Pad" (24 : Nat) "VeilNations$Pad" "length" "I" ∈ pg_T.2.1 := pg_wd (i := 174) (by decide +kernel)
theorem wd175 : Cond.fieldLink "VeilNations" (107 : Nat) "VeilNations$Pad" "length" "I" ∈ pg_T.2.1 := pg_wd (i := 175) (by decide +kernel)
theorem wd176 : Cond.fieldLink "VeilNations$Course" (22 : Nat) "VeilNations$Pad" "acts" "I" ∈ pg_T.2.1 := pg_wd (i := 176) (by decide +kernel)
theorem wd177 : Cond.fieldLink "VeilNations$Pad" (32 : Nat) "VeilNations$Pad" "acts" "I" ∈ pg_T.2.1 := pg_wd (i := 177) (by decide +kernel)
theorem wd178 : Cond.fieldLink "VeilNations" (153 : Nat) "VeilNations$Pad" "acts" "I" ∈ pg_T.2.1 := pg_wd (i := 178) (by decide +kernel)
theorem wd179 : Cond.laysFinal "VeilNations$Pad" "VeilNations$Pad" "signs" "[I" ∈ pg_T.2.1 := pg_wd (i := 179) (by decide +kernel)
theorem wd181 : Cond.laysFinal "VeilNations$Pad" "VeilNations$Pad" "kinds" "[I" ∈ pg_T.2.1 := pg_wd (i := 181) (by decide +kernel)
theorem wd183 : Cond.laysFinal "VeilNations$Pad" "VeilNations$Pad" "whos" "[I" ∈ pg_T.2.1 := pg_wd (i := 183) (by decide +kernel)
theorem wd185 : Cond.laysFinal "VeilNations$Pad" "VeilNations$Pad" "others" "[I" ∈ pg_T.2.1 := pg_wd (i := 185) (by decide +kernel)
theorem wd187 : Cond.lays "VeilNations$Pad" "VeilNations$Pad" "length" "I" ∈ pg_T.2.1 := pg_wd (i := 187) (by decide +kernel)
theorem wd189 : Cond.lays "VeilNations$Pad" "VeilNations$Pad" "acts" "I" ∈ pg_T.2.1 := pg_wd (i := 189) (by decide +kernel)
theorem wd192 : Cond.classLink "VeilNations" (29 : Nat) "VeilNations$Course" ∈ pg_T.2.1 := pg_wd (i := 192) (by decide +kernel)
theorem wd193 : Cond.instantiable "VeilNations$Course" (6 : Nat) ∈ pg_T.2.1 := pg_wd (i := 193) (by decide +kernel)
theorem wd194 : Cond.methodLink "VeilNations" (31 : Nat) ({ cls := "VeilNations$Course", name := "<init>", desc := "()V" } : Jvm.MethodName) ∈ pg_T.2.1 := pg_wd (i := 194) (by decide +kernel)
theorem wd195 : Cond.instanceMethod ({ cls := "VeilNations$Course", name := "<init>", desc := "()V" } : Jvm.MethodName) ∈ pg_T.2.1 := pg_wd (i := 195) (by decide +kernel)
theorem wd196 : Cond.code ({ cls := "VeilNations$Course", name := "<init>", desc := "()V" } : Jvm.MethodName) prog_3_method_1_code (1 : Nat) (Option.none : Option Jvm.ClassFile.FieldType) ∈ pg_T.2.1 := pg_wd (i := 196) (by decide +kernel)
theorem wd197 : Cond.methodLink "VeilNations$Course" (3 : Nat) ({ cls := "java/lang/Object", name := "<init>", desc := "()V" } : Jvm.MethodName) ∈ pg_T.2.1 := pg_wd (i := 197) (by decide +kernel)
theorem wd198 : Cond.classLink "VeilNations$Course" (9 : Nat) "VeilNations$World" ∈ pg_T.2.1 := pg_wd (i := 198) (by decide +kernel)
theorem wd199 : Cond.methodLink "VeilNations$Course" (11 : Nat) ({ cls := "VeilNations$World", name := "<init>", desc := "()V" } : Jvm.MethodName) ∈ pg_T.2.1 := pg_wd (i := 199) (by decide +kernel)
theorem wd200 : Cond.fieldLink "VeilNations$Course" (12 : Nat) "VeilNations$Course" "end" "LVeilNations$World;" ∈ pg_T.2.1 := pg_wd (i := 200) (by decide +kernel)
theorem wd201 : Cond.fieldLink "VeilNations" (129 : Nat) "VeilNations$Course" "end" "LVeilNations$World;" ∈ pg_T.2.1 := pg_wd (i := 201) (by decide +kernel)
theorem wd202 : Cond.fieldLink "VeilNations$Course" (28 : Nat) "VeilNations$Course" "stoppedAt" "I" ∈ pg_T.2.1 := pg_wd (i := 202) (by decide +kernel)
theorem wd203 : Cond.fieldLink "VeilNations" (120 : Nat) "VeilNations$Course" "stoppedAt" "I" ∈ pg_T.2.1 := pg_wd (i := 203) (by decide +kernel)
theorem wd204 : Cond.fieldLink "VeilNations$Course" (52 : Nat) "VeilNations$Course" "why" "I" ∈ pg_T.2.1 := pg_wd (i := 204) (by decide +kernel)
theorem wd205 : Cond.fieldLink "VeilNations" (123 : Nat) "VeilNations$Course" "why" "I" ∈ pg_T.2.1 := pg_wd (i := 205) (by decide +kernel)
theorem wd206 : Cond.fieldLink "VeilNations$Course" (58 : Nat) "VeilNations$Course" "times" "I" ∈ pg_T.2.1 := pg_wd (i := 206) (by decide +kernel)
theorem wd207 : Cond.fieldLink "VeilNations" (126 : Nat) "VeilNations$Course" "times" "I" ∈ pg_T.2.1 := pg_wd (i := 207) (by decide +kernel)
theorem wd208 : Cond.fieldLink "VeilNations$Course" (61 : Nat) "VeilNations$Course" "firstAct" "I" ∈ pg_T.2.1 := pg_wd (i := 208) (by decide +kernel)
theorem wd209 : Cond.fieldLink "VeilNations" (147 : Nat) "VeilNations$Course" "firstAct" "I" ∈ pg_T.2.1 := pg_wd (i := 209) (by decide +kernel)
theorem wd210 : Cond.fieldLink "VeilNations$Course" (64 : Nat) "VeilNations$Course" "firstOne" "I" ∈ pg_T.2.1 := pg_wd (i := 210) (by decide +kernel)
theorem wd211 : Cond.fieldLink "VeilNations" (150 : Nat) "VeilNations$Course" "firstOne" "I" ∈ pg_T.2.1 := pg_wd (i := 211) (by decide +kernel)
theorem wd212 : Cond.laysFinal "VeilNations$Course" "VeilNations$Course" "end" "LVeilNations$World;" ∈ pg_T.2.1 := pg_wd (i := 212) (by decide +kernel)
theorem wd214 : Cond.lays "VeilNations$Course" "VeilNations$Course" "stoppedAt" "I" ∈ pg_T.2.1 := pg_wd (i := 214) (by decide +kernel)
theorem wd216 : Cond.lays "VeilNations$Course" "VeilNations$Course" "why" "I" ∈ pg_T.2.1 := pg_wd (i := 216) (by decide +kernel)
theorem wd218 : Cond.lays "VeilNations$Course" "VeilNations$Course" "times" "I" ∈ pg_T.2.1 := pg_wd (i := 218) (by decide +kernel)
theorem wd220 : Cond.lays "VeilNations$Course" "VeilNations$Course" "firstAct" "I" ∈ pg_T.2.1 := pg_wd (i := 220) (by decide +kernel)
theorem wd222 : Cond.lays "VeilNations$Course" "VeilNations$Course" "firstOne" "I" ∈ pg_T.2.1 := pg_wd (i := 222) (by decide +kernel)
theorem wd225 : Cond.classLink "VeilNations" (36 : Nat) "VeilNations$World" ∈ pg_T.2.1 := pg_wd (i := 225) (by decide +kernel)
theorem wd226 : Cond.methodLink "VeilNations" (38 : Nat) ({ cls := "VeilNations$World", name := "<init>", desc := "()V" } : Jvm.MethodName) ∈ pg_T.2.1 := pg_wd (i := 226) (by decide +kernel)
theorem wd227 : Cond.classLink "VeilNations" (43 : Nat) "VeilNations$Rhythms" ∈ pg_T.2.1 := pg_wd (i := 227) (by decide +kernel)
theorem wd228 : Cond.instantiable "VeilNations$Rhythms" (2 : Nat) ∈ pg_T.2.1 := pg_wd (i := 228) (by decide +kernel)
theorem wd229 : Cond.methodLink "VeilNations" (45 : Nat) ({ cls := "VeilNations$Rhythms", name := "<init>", desc := "()V" } : Jvm.MethodName) ∈ pg_T.2.1 := pg_wd (i := 229) (by decide +kernel)
theorem wd230 : Cond.instanceMethod ({ cls := "VeilNations$Rhythms", name := "<init>", desc := "()V" } : Jvm.MethodName) ∈ pg_T.2.1 := pg_wd (i := 230) (by decide +kernel)
theorem wd231 : Cond.code ({ cls := "VeilNations$Rhythms", name := "<init>", desc := "()V" } : Jvm.MethodName) prog_5_method_1_code (1 : Nat) (Option.none : Option Jvm.ClassFile.FieldType) ∈ pg_T.2.1 := pg_wd (i := 231) (by decide +kernel)
theorem wd232 : Cond.methodLink "VeilNations$Rhythms" (3 : Nat) ({ cls := "java/lang/Object", name := "<init>", desc := "()V" } : Jvm.MethodName) ∈ pg_T.2.1 := pg_wd (i := 232) (by decide +kernel)
theorem wd233 : Cond.fieldLink "VeilNations$Rhythms" (9 : Nat) "VeilNations$Rhythms" "fitting" "[I" ∈ pg_T.2.1 := pg_wd (i := 233) (by decide +kernel)
theorem wd234 : Cond.fieldLink "VeilNations$Rhythms" (15 : Nat) "VeilNations$Rhythms" "count" "I" ∈ pg_T.2.1 := pg_wd (i := 234) (by decide +kernel)
theorem wd235 : Cond.fieldLink "VeilNations" (208 : Nat) "VeilNations$Rhythms" "count" "I" ∈ pg_T.2.1 := pg_wd (i := 235) (by decide +kernel)
theorem wd236 : Cond.laysFinal "VeilNations$Rhythms" "VeilNations$Rhythms" "fitting" "[I" ∈ pg_T.2.1 := pg_wd (i := 236) (by decide +kernel)
theorem wd238 : Cond.lays "VeilNations$Rhythms" "VeilNations$Rhythms" "count" "I" ∈ pg_T.2.1 := pg_wd (i := 238) (by decide +kernel)
theorem wd241 : Cond.classLink "VeilNations" (50 : Nat) "VeilNations$Stamps" ∈ pg_T.2.1 := pg_wd (i := 241) (by decide +kernel)
theorem wd242 : Cond.instantiable "VeilNations$Stamps" (2 : Nat) ∈ pg_T.2.1 := pg_wd (i := 242) (by decide +kernel)
theorem wd243 : Cond.methodLink "VeilNations" (52 : Nat) ({ cls := "VeilNations$Stamps", name := "<init>", desc := "()V" } : Jvm.MethodName) ∈ pg_T.2.1 := pg_wd (i := 243) (by decide +kernel)
theorem wd244 : Cond.instanceMethod ({ cls := "VeilNations$Stamps", name := "<init>", desc := "()V" } : Jvm.MethodName) ∈ pg_T.2.1 := pg_wd (i := 244) (by decide +kernel)
theorem wd245 : Cond.code ({ cls := "VeilNations$Stamps", name := "<init>", desc := "()V" } : Jvm.MethodName) prog_7_method_1_code (1 : Nat) (Option.none : Option Jvm.ClassFile.FieldType) ∈ pg_T.2.1 := pg_wd (i := 245) (by decide +kernel)
theorem wd246 : Cond.methodLink "VeilNations$Stamps" (3 : Nat) ({ cls := "java/lang/Object", name := "<init>", desc := "()V" } : Jvm.MethodName) ∈ pg_T.2.1 := pg_wd (i := 246) (by decide +kernel)
theorem wd247 : Cond.fieldLink "VeilNations$Stamps" (9 : Nat) "VeilNations$Stamps" "worths" "[I" ∈ pg_T.2.1 := pg_wd (i := 247) (by decide +kernel)
theorem wd248 : Cond.fieldLink "VeilNations$Stamps" (15 : Nat) "VeilNations$Stamps" "row" "[I" ∈ pg_T.2.1 := pg_wd (i := 248) (by decide +kernel)
theorem wd249 : Cond.laysFinal "VeilNations$Stamps" "VeilNations$Stamps" "worths" "[I" ∈ pg_T.2.1 := pg_wd (i := 249) (by decide +kernel)
theorem wd251 : Cond.laysFinal "VeilNations$Stamps" "VeilNations$Stamps" "row" "[I" ∈ pg_T.2.1 := pg_wd (i := 251) (by decide +kernel)
theorem wd254 : Cond.fieldLink "VeilNations" (10 : Nat) "VeilNations" "whole" "LVeilNations$Whole;" ∈ pg_T.2.1 := pg_wd (i := 254) (by decide +kernel)
theorem wd255 : Cond.fieldLink "VeilNations" (16 : Nat) "VeilNations" "firstImage" "LVeilNations$Whole;" ∈ pg_T.2.1 := pg_wd (i := 255) (by decide +kernel)
theorem wd256 : Cond.fieldLink "VeilNations" (19 : Nat) "VeilNations" "secondImage" "LVeilNations$Whole;" ∈ pg_T.2.1 := pg_wd (i := 256) (by decide +kernel)
theorem wd257 : Cond.fieldLink "VeilNations" (25 : Nat) "VeilNations" "pad" "LVeilNations$Pad;" ∈ pg_T.2.1 := pg_wd (i := 257) (by decide +kernel)
theorem wd258 : Cond.fieldLink "VeilNations" (32 : Nat) "VeilNations" "course" "LVeilNations$Course;" ∈ pg_T.2.1 := pg_wd (i := 258) (by decide +kernel)
theorem wd259 : Cond.fieldLink "VeilNations" (39 : Nat) "VeilNations" "imagined" "LVeilNations$World;" ∈ pg_T.2.1 := pg_wd (i := 259) (by decide +kernel)
theorem wd260 : Cond.fieldLink "VeilNations" (46 : Nat) "VeilNations" "rhythms" "LVeilNations$Rhythms;" ∈ pg_T.2.1 := pg_wd (i := 260) (by decide +kernel)
theorem wd261 : Cond.fieldLink "VeilNations" (53 : Nat) "VeilNations" "book" "LVeilNations$Stamps;" ∈ pg_T.2.1 := pg_wd (i := 261) (by decide +kernel)
theorem wd262 : Cond.laysFinal "VeilNations" "VeilNations" "whole" "LVeilNations$Whole;" ∈ pg_T.2.1 := pg_wd (i := 262) (by decide +kernel)
theorem wd264 : Cond.laysFinal "VeilNations" "VeilNations" "firstImage" "LVeilNations$Whole;" ∈ pg_T.2.1 := pg_wd (i := 264) (by decide +kernel)
theorem wd266 : Cond.laysFinal "VeilNations" "VeilNations" "secondImage" "LVeilNations$Whole;" ∈ pg_T.2.1 := pg_wd (i := 266) (by decide +kernel)
theorem wd268 : Cond.laysFinal "VeilNations" "VeilNations" "pad" "LVeilNations$Pad;" ∈ pg_T.2.1 := pg_wd (i := 268) (by decide +kernel)
theorem wd270 : Cond.laysFinal "VeilNations" "VeilNations" "course" "LVeilNations$Course;" ∈ pg_T.2.1 := pg_wd (i := 270) (by decide +kernel)
theorem wd272 : Cond.laysFinal "VeilNations" "VeilNations" "imagined" "LVeilNations$World;" ∈ pg_T.2.1 := pg_wd (i := 272) (by decide +kernel)
theorem wd274 : Cond.laysFinal "VeilNations" "VeilNations" "rhythms" "LVeilNations$Rhythms;" ∈ pg_T.2.1 := pg_wd (i := 274) (by decide +kernel)
theorem wd276 : Cond.laysFinal "VeilNations" "VeilNations" "book" "LVeilNations$Stamps;" ∈ pg_T.2.1 := pg_wd (i := 276) (by decide +kernel)
theorem wd279 : Cond.methodLink "VeilNationsLaw" (13 : Nat) ({ cls := "VeilNations", name := "one", desc := "(IIIII)I" } : Jvm.MethodName) ∈ pg_T.2.1 := pg_wd (i := 279) (by decide +kernel)
theorem wd280 : Cond.instanceMethod ({ cls := "VeilNations", name := "one", desc := "(IIIII)I" } : Jvm.MethodName) ∈ pg_T.2.1 := pg_wd (i := 280) (by decide +kernel)
theorem wd281 : Cond.selects "VeilNations" ({ cls := "VeilNations", name := "one", desc := "(IIIII)I" } : Jvm.MethodName) ({ cls := "VeilNations", name := "one", desc := "(IIIII)I" } : Jvm.MethodName) ∈ pg_T.2.1 := pg_wd (i := 281) (by decide +kernel)
theorem wd282 : Cond.code ({ cls := "VeilNations", name := "one", desc := "(IIIII)I" } : Jvm.MethodName) prog_1_method_2_code (7 : Nat) (Option.some Jvm.ClassFile.FieldType.int) ∈ pg_T.2.1 := pg_wd (i := 282) (by decide +kernel)
theorem wd283 : Cond.methodLink "VeilNations" (57 : Nat) ({ cls := "VeilNations", name := "isOne", desc := "(I)Z" } : Jvm.MethodName) ∈ pg_T.2.1 := pg_wd (i := 283) (by decide +kernel)
theorem wd284 : Cond.static ({ cls := "VeilNations", name := "isOne", desc := "(I)Z" } : Jvm.MethodName) ∈ pg_T.2.1 := pg_wd (i := 284) (by decide +kernel)
theorem wd285 : Cond.code ({ cls := "VeilNations", name := "isOne", desc := "(I)Z" } : Jvm.MethodName) prog_1_method_34_code (1 : Nat) (Option.some Jvm.ClassFile.FieldType.boolean) ∈ pg_T.2.1 := pg_wd (i := 285) (by decide +kernel)
theorem wd286 : Cond.methodLink "VeilNations" (61 : Nat) ({ cls := "VeilNations", name := "within", desc := "(III)Z" } : Jvm.MethodName) ∈ pg_T.2.1 := pg_wd (i := 286) (by decide +kernel)
theorem wd287 : Cond.static ({ cls := "VeilNations", name := "within", desc := "(III)Z" } : Jvm.MethodName) ∈ pg_T.2.1 := pg_wd (i := 287) (by decide +kernel)
theorem wd288 : Cond.code ({ cls := "VeilNations", name := "within", desc := "(III)Z" } : Jvm.MethodName) prog_1_method_33_code (3 : Nat) (Option.some Jvm.ClassFile.FieldType.boolean) ∈ pg_T.2.1 := pg_wd (i := 288) (by decide +kernel)
theorem wd289 : Cond.methodLink "VeilNations" (68 : Nat) ({ cls := "VeilNations$World", name := "nationOf", desc := "(I)I" } : Jvm.MethodName) ∈ pg_T.2.1 := pg_wd (i := 289) (by decide +kernel)
theorem wd290 : Cond.instanceMethod ({ cls := "VeilNations$World", name := "nationOf", desc := "(I)I" } : Jvm.MethodName) ∈ pg_T.2.1 := pg_wd (i := 290) (by decide +kernel)
theorem wd291 : Cond.selects "VeilNations$World" ({ cls := "VeilNations$World", name := "nationOf", desc := "(I)I" } : Jvm.MethodName) ({ cls := "VeilNations$World", name := "nationOf", desc := "(I)I" } : Jvm.MethodName) ∈ pg_T.2.1 := pg_wd (i := 291) (by decide +kernel)
theorem wd292 : Cond.code ({ cls := "VeilNations$World", name := "nationOf", desc := "(I)I" } : Jvm.MethodName) prog_9_method_5_code (2 : Nat) (Option.some Jvm.ClassFile.FieldType.int) ∈ pg_T.2.1 := pg_wd (i := 292) (by decide +kernel)
theorem wd294 : Cond.methodLink "VeilNations" (72 : Nat) ({ cls := "VeilNations$World", name := "dress", desc := "(IIIII)V" } : Jvm.MethodName) ∈ pg_T.2.1 := pg_wd (i := 294) (by decide +kernel)
theorem wd295 : Cond.instanceMethod ({ cls := "VeilNations$World", name := "dress", desc := "(IIIII)V" } : Jvm.MethodName) ∈ pg_T.2.1 := pg_wd (i := 295) (by decide +kernel)
theorem wd296 : Cond.selects "VeilNations$World" ({ cls := "VeilNations$World", name := "dress", desc := "(IIIII)V" } : Jvm.MethodName) ({ cls := "VeilNations$World", name := "dress", desc := "(IIIII)V" } : Jvm.MethodName) ∈ pg_T.2.1 := pg_wd (i := 296) (by decide +kernel)
theorem wd297 : Cond.code ({ cls := "VeilNations$World", name := "dress", desc := "(IIIII)V" } : Jvm.MethodName) prog_9_method_3_code (6 : Nat) (Option.none : Option Jvm.ClassFile.FieldType) ∈ pg_T.2.1 := pg_wd (i := 297) (by decide +kernel)
theorem wd298 : Cond.methodLink "VeilNations$World" (41 : Nat) ({ cls := "VeilNations$World", name := "setVeil", desc := "(IZ)V" } : Jvm.MethodName) ∈ pg_T.2.1 := pg_wd (i := 298) (by decide +kernel)
theorem wd300 : Cond.instanceMethod ({ cls := "VeilNations$World", name := "setVeil", desc := "(IZ)V" } : Jvm.MethodName) ∈ pg_T.2.1 := pg_wd (i := 300) (by decide +kernel)
theorem wd301 : Cond.code ({ cls := "VeilNations$World", name := "setVeil", desc := "(IZ)V" } : Jvm.MethodName) prog_9_method_16_code (3 : Nat) (Option.none : Option Jvm.ClassFile.FieldType) ∈ pg_T.2.1 := pg_wd (i := 301) (by decide +kernel)
theorem wd302 : Cond.methodLink "VeilNationsLaw" (18 : Nat) ({ cls := "VeilNations", name := "treaty", desc := "(IIZ)I" } : Jvm.MethodName) ∈ pg_T.2.1 := pg_wd (i := 302) (by decide +kernel)
theorem wd303 : Cond.instanceMethod ({ cls := "VeilNations", name := "treaty", desc := "(IIZ)I" } : Jvm.MethodName) ∈ pg_T.2.1 := pg_wd (i := 303) (by decide +kernel)
theorem wd304 : Cond.selects "VeilNations" ({ cls := "VeilNations", name := "treaty", desc := "(IIZ)I" } : Jvm.MethodName) ({ cls := "VeilNations", name := "treaty", desc := "(IIZ)I" } : Jvm.MethodName) ∈ pg_T.2.1 := pg_wd (i := 304) (by decide +kernel)
theorem wd305 : Cond.code ({ cls := "VeilNations", name := "treaty", desc := "(IIZ)I" } : Jvm.MethodName) prog_1_method_3_code (4 : Nat) (Option.some Jvm.ClassFile.FieldType.int) ∈ pg_T.2.1 := pg_wd (i := 305) (by decide +kernel)
theorem wd306 : Cond.methodLink "VeilNations" (76 : Nat) ({ cls := "VeilNations$World", name := "bind", desc := "(IIZ)V" } : Jvm.MethodName) ∈ pg_T.2.1 := pg_wd (i := 306) (by decide +kernel)
theorem wd307 : Cond.instanceMethod ({ cls := "VeilNations$World", name := "bind", desc := "(IIZ)V" } : Jvm.MethodName) ∈ pg_T.2.1 := pg_wd (i := 307) (by decide +kernel)
theorem wd308 : Cond.selects "VeilNations$World" ({ cls := "VeilNations$World", name := "bind", desc := "(IIZ)V" } : Jvm.MethodName) ({ cls := "VeilNations$World", name := "bind", desc := "(IIZ)V" } : Jvm.MethodName) ∈ pg_T.2.1 := pg_wd (i := 308) (by decide +kernel)
theorem wd309 : Cond.code ({ cls := "VeilNations$World", name := "bind", desc := "(IIZ)V" } : Jvm.MethodName) prog_9_method_4_code (4 : Nat) (Option.none : Option Jvm.ClassFile.FieldType) ∈ pg_T.2.1 := pg_wd (i := 309) (by decide +kernel)
theorem wd310 : Cond.methodLink "VeilNations" (80 : Nat) ({ cls := "VeilNations$World", name := "treaties", desc := "()I" } : Jvm.MethodName) ∈ pg_T.2.1 := pg_wd (i := 310) (by decide +kernel)
theorem wd311 : Cond.instanceMethod ({ cls := "VeilNations$World", name := "treaties", desc := "()I" } : Jvm.MethodName) ∈ pg_T.2.1 := pg_wd (i := 311) (by decide +kernel)
theorem wd312 : Cond.selects "VeilNations$World" ({ cls := "VeilNations$World", name := "treaties", desc := "()I" } : Jvm.MethodName) ({ cls := "VeilNations$World", name := "treaties", desc := "()I" } : Jvm.MethodName) ∈ pg_T.2.1 := pg_wd (i := 312) (by decide +kernel)
theorem wd313 : Cond.code ({ cls := "VeilNations$World", name := "treaties", desc := "()I" } : Jvm.MethodName) prog_9_method_11_code (3 : Nat) (Option.some Jvm.ClassFile.FieldType.int) ∈ pg_T.2.1 := pg_wd (i := 313) (by decide +kernel)
theorem wd314 : Cond.methodLink "VeilNations$World" (55 : Nat) ({ cls := "java/lang/Integer", name := "bitCount", desc := "(I)I" } : Jvm.MethodName) ∈ pg_T.2.1 := pg_wd (i := 314) (by decide +kernel)
theorem wd315 : Cond.static ({ cls := "java/lang/Integer", name := "bitCount", desc := "(I)I" } : Jvm.MethodName) ∈ pg_T.2.1 := pg_wd (i := 315) (by decide +kernel)
theorem wd316 : Cond.code ({ cls := "java/lang/Integer", name := "bitCount", desc := "(I)I" } : Jvm.MethodName) prog_12_method_49_code (1 : Nat) (Option.some Jvm.ClassFile.FieldType.int) ∈ pg_T.2.1 := pg_wd (i := 316) (by decide +kernel)
theorem wd317 : Cond.constant "java/lang/Integer" (265 : Nat) (1431655765 : Int32) ∈ pg_T.2.1 := pg_wd (i := 317) (by decide +kernel)
theorem wd318 : Cond.constant "java/lang/Integer" (266 : Nat) (858993459 : Int32) ∈ pg_T.2.1 := pg_wd (i := 318) (by decide +kernel)
theorem wd319 : Cond.constant "java/lang/Integer" (267 : Nat) (252645135 : Int32) ∈ pg_T.2.1 := pg_wd (i := 319) (by decide +kernel)
theorem wd320 : Cond.methodLink "VeilNationsLaw" (23 : Nat) ({ cls := "VeilNations", name := "hair", desc := "(I)I" } : Jvm.MethodName) ∈ pg_T.2.1 := pg_wd (i := 320) (by decide +kernel)
theorem wd321 : Cond.instanceMethod ({ cls := "VeilNations", name := "hair", desc := "(I)I" } : Jvm.MethodName) ∈ pg_T.2.1 := pg_wd (i := 321) (by decide +kernel)
theorem wd322 : Cond.selects "VeilNations" ({ cls := "VeilNations", name := "hair", desc := "(I)I" } : Jvm.MethodName) ({ cls := "VeilNations", name := "hair", desc := "(I)I" } : Jvm.MethodName) ∈ pg_T.2.1 := pg_wd (i := 322) (by decide +kernel)
theorem wd323 : Cond.code ({ cls := "VeilNations", name := "hair", desc := "(I)I" } : Jvm.MethodName) prog_1_method_4_code (3 : Nat) (Option.some Jvm.ClassFile.FieldType.int) ∈ pg_T.2.1 := pg_wd (i := 323) (by decide +kernel)
theorem wd324 : Cond.methodLink "VeilNationsLaw" (28 : Nat) ({ cls := "VeilNations", name := "pay", desc := "(III)I" } : Jvm.MethodName) ∈ pg_T.2.1 := pg_wd (i := 324) (by decide +kernel)
theorem wd325 : Cond.instanceMethod ({ cls := "VeilNations", name := "pay", desc := "(III)I" } : Jvm.MethodName) ∈ pg_T.2.1 := pg_wd (i := 325) (by decide +kernel)
theorem wd326 : Cond.selects "VeilNations" ({ cls := "VeilNations", name := "pay", desc := "(III)I" } : Jvm.MethodName) ({ cls := "VeilNations", name := "pay", desc := "(III)I" } : Jvm.MethodName) ∈ pg_T.2.1 := pg_wd (i := 326) (by decide +kernel)
theorem wd327 : Cond.code ({ cls := "VeilNations", name := "pay", desc := "(III)I" } : Jvm.MethodName) prog_1_method_5_code (5 : Nat) (Option.some Jvm.ClassFile.FieldType.int) ∈ pg_T.2.1 := pg_wd (i := 327) (by decide +kernel)
theorem wd328 : Cond.methodLink "VeilNations" (92 : Nat) ({ cls := "VeilNations$Calls", name := "minutesOf", desc := "(I)I" } : Jvm.MethodName) ∈ pg_T.2.1 := pg_wd (i := 328) (by decide +kernel)
theorem wd329 : Cond.instanceMethod ({ cls := "VeilNations$Calls", name := "minutesOf", desc := "(I)I" } : Jvm.MethodName) ∈ pg_T.2.1 := pg_wd (i := 329) (by decide +kernel)
theorem wd330 : Cond.selects "VeilNations$Calls" ({ cls := "VeilNations$Calls", name := "minutesOf", desc := "(I)I" } : Jvm.MethodName) ({ cls := "VeilNations$Calls", name := "minutesOf", desc := "(I)I" } : Jvm.MethodName) ∈ pg_T.2.1 := pg_wd (i := 330) (by decide +kernel)
theorem wd331 : Cond.code ({ cls := "VeilNations$Calls", name := "minutesOf", desc := "(I)I" } : Jvm.MethodName) prog_2_method_4_code (2 : Nat) (Option.some Jvm.ClassFile.FieldType.int) ∈ pg_T.2.1 := pg_wd (i := 331) (by decide +kernel)
theorem wd333 : Cond.methodLink "VeilNations" (97 : Nat) ({ cls := "VeilNations$Calls", name := "dueOf", desc := "(I)I" } : Jvm.MethodName) ∈ pg_T.2.1 := pg_wd (i := 333) (by decide +kernel)
theorem wd334 : Cond.instanceMethod ({ cls := "VeilNations$Calls", name := "dueOf", desc := "(I)I" } : Jvm.MethodName) ∈ pg_T.2.1 := pg_wd (i := 334) (by decide +kernel)
theorem wd335 : Cond.selects "VeilNations$Calls" ({ cls := "VeilNations$Calls", name := "dueOf", desc := "(I)I" } : Jvm.MethodName) ({ cls := "VeilNations$Calls", name := "dueOf", desc := "(I)I" } : Jvm.MethodName) ∈ pg_T.2.1 := pg_wd (i := 335) (by decide +kernel)
theorem wd336 : Cond.code ({ cls := "VeilNations$Calls", name := "dueOf", desc := "(I)I" } : Jvm.MethodName) prog_2_method_5_code (2 : Nat) (Option.some Jvm.ClassFile.FieldType.int) ∈ pg_T.2.1 := pg_wd (i := 336) (by decide +kernel)
theorem wd337 : Cond.methodLink "VeilNations" (100 : Nat) ({ cls := "VeilNations$Calls", name := "put", desc := "(III)V" } : Jvm.MethodName) ∈ pg_T.2.1 := pg_wd (i := 337) (by decide +kernel)
theorem wd338 : Cond.instanceMethod ({ cls := "VeilNations$Calls", name := "put", desc := "(III)V" } : Jvm.MethodName) ∈ pg_T.2.1 := pg_wd (i := 338) (by decide +kernel)
theorem wd339 : Cond.selects "VeilNations$Calls" ({ cls := "VeilNations$Calls", name := "put", desc := "(III)V" } : Jvm.MethodName) ({ cls := "VeilNations$Calls", name := "put", desc := "(III)V" } : Jvm.MethodName) ∈ pg_T.2.1 := pg_wd (i := 339) (by decide +kernel)
theorem wd340 : Cond.code ({ cls := "VeilNations$Calls", name := "put", desc := "(III)V" } : Jvm.MethodName) prog_2_method_3_code (4 : Nat) (Option.none : Option Jvm.ClassFile.FieldType) ∈ pg_T.2.1 := pg_wd (i := 340) (by decide +kernel)
theorem wd341 : Cond.methodLink "VeilNationsLaw" (33 : Nat) ({ cls := "VeilNations", name := "say", desc := "(I)I" } : Jvm.MethodName) ∈ pg_T.2.1 := pg_wd (i := 341) (by decide +kernel)
theorem wd342 : Cond.instanceMethod ({ cls := "VeilNations", name := "say", desc := "(I)I" } : Jvm.MethodName) ∈ pg_T.2.1 := pg_wd (i := 342) (by decide +kernel)
theorem wd343 : Cond.selects "VeilNations" ({ cls := "VeilNations", name := "say", desc := "(I)I" } : Jvm.MethodName) ({ cls := "VeilNations", name := "say", desc := "(I)I" } : Jvm.MethodName) ∈ pg_T.2.1 := pg_wd (i := 343) (by decide +kernel)
theorem wd344 : Cond.code ({ cls := "VeilNations", name := "say", desc := "(I)I" } : Jvm.MethodName) prog_1_method_6_code (2 : Nat) (Option.some Jvm.ClassFile.FieldType.int) ∈ pg_T.2.1 := pg_wd (i := 344) (by decide +kernel)
theorem wd345 : Cond.methodLink "VeilNations" (104 : Nat) ({ cls := "VeilNations$Pad", name := "write", desc := "(I)Z" } : Jvm.MethodName) ∈ pg_T.2.1 := pg_wd (i := 345) (by decide +kernel)
theorem wd346 : Cond.instanceMethod ({ cls := "VeilNations$Pad", name := "write", desc := "(I)Z" } : Jvm.MethodName) ∈ pg_T.2.1 := pg_wd (i := 346) (by decide +kernel)
theorem wd347 : Cond.selects "VeilNations$Pad" ({ cls := "VeilNations$Pad", name := "write", desc := "(I)Z" } : Jvm.MethodName) ({ cls := "VeilNations$Pad", name := "write", desc := "(I)Z" } : Jvm.MethodName) ∈ pg_T.2.1 := pg_wd (i := 347) (by decide +kernel)
theorem wd348 : Cond.code ({ cls := "VeilNations$Pad", name := "write", desc := "(I)Z" } : Jvm.MethodName) prog_4_method_2_code (2 : Nat) (Option.some Jvm.ClassFile.FieldType.boolean) ∈ pg_T.2.1 := pg_wd (i := 348) (by decide +kernel)
theorem wd350 : Cond.methodLink "VeilNationsLaw" (37 : Nat) ({ cls := "VeilNations", name := "wipe", desc := "()I" } : Jvm.MethodName) ∈ pg_T.2.1 := pg_wd (i := 350) (by decide +kernel)
theorem wd351 : Cond.instanceMethod ({ cls := "VeilNations", name := "wipe", desc := "()I" } : Jvm.MethodName) ∈ pg_T.2.1 := pg_wd (i := 351) (by decide +kernel)
theorem wd352 : Cond.selects "VeilNations" ({ cls := "VeilNations", name := "wipe", desc := "()I" } : Jvm.MethodName) ({ cls := "VeilNations", name := "wipe", desc := "()I" } : Jvm.MethodName) ∈ pg_T.2.1 := pg_wd (i := 352) (by decide +kernel)
theorem wd353 : Cond.code ({ cls := "VeilNations", name := "wipe", desc := "()I" } : Jvm.MethodName) prog_1_method_7_code (2 : Nat) (Option.some Jvm.ClassFile.FieldType.int) ∈ pg_T.2.1 := pg_wd (i := 353) (by decide +kernel)
theorem wd354 : Cond.methodLink "VeilNations" (110 : Nat) ({ cls := "VeilNations$Pad", name := "clear", desc := "()V" } : Jvm.MethodName) ∈ pg_T.2.1 := pg_wd (i := 354) (by decide +kernel)
theorem wd355 : Cond.instanceMethod ({ cls := "VeilNations$Pad", name := "clear", desc := "()V" } : Jvm.MethodName) ∈ pg_T.2.1 := pg_wd (i := 355) (by decide +kernel)
theorem wd356 : Cond.selects "VeilNations$Pad" ({ cls := "VeilNations$Pad", name := "clear", desc := "()V" } : Jvm.MethodName) ({ cls := "VeilNations$Pad", name := "clear", desc := "()V" } : Jvm.MethodName) ∈ pg_T.2.1 := pg_wd (i := 356) (by decide +kernel)
theorem wd357 : Cond.code ({ cls := "VeilNations$Pad", name := "clear", desc := "()V" } : Jvm.MethodName) prog_4_method_3_code (1 : Nat) (Option.none : Option Jvm.ClassFile.FieldType) ∈ pg_T.2.1 := pg_wd (i := 357) (by decide +kernel)
theorem wd358 : Cond.methodLink "VeilNationsLaw" (42 : Nat) ({ cls := "VeilNations", name := "fault", desc := "()I" } : Jvm.MethodName) ∈ pg_T.2.1 := pg_wd (i := 358) (by decide +kernel)
theorem wd359 : Cond.instanceMethod ({ cls := "VeilNations", name := "fault", desc := "()I" } : Jvm.MethodName) ∈ pg_T.2.1 := pg_wd (i := 359) (by decide +kernel)
theorem wd360 : Cond.selects "VeilNations" ({ cls := "VeilNations", name := "fault", desc := "()I" } : Jvm.MethodName) ({ cls := "VeilNations", name := "fault", desc := "()I" } : Jvm.MethodName) ∈ pg_T.2.1 := pg_wd (i := 360) (by decide +kernel)
theorem wd361 : Cond.code ({ cls := "VeilNations", name := "fault", desc := "()I" } : Jvm.MethodName) prog_1_method_8_code (1 : Nat) (Option.some Jvm.ClassFile.FieldType.int) ∈ pg_T.2.1 := pg_wd (i := 361) (by decide +kernel)
theorem wd362 : Cond.methodLink "VeilNations" (113 : Nat) ({ cls := "VeilNations$Pad", name := "read", desc := "()I" } : Jvm.MethodName) ∈ pg_T.2.1 := pg_wd (i := 362) (by decide +kernel)
theorem wd363 : Cond.instanceMethod ({ cls := "VeilNations$Pad", name := "read", desc := "()I" } : Jvm.MethodName) ∈ pg_T.2.1 := pg_wd (i := 363) (by decide +kernel)
theorem wd364 : Cond.selects "VeilNations$Pad" ({ cls := "VeilNations$Pad", name := "read", desc := "()I" } : Jvm.MethodName) ({ cls := "VeilNations$Pad", name := "read", desc := "()I" } : Jvm.MethodName) ∈ pg_T.2.1 := pg_wd (i := 364) (by decide +kernel)
theorem wd365 : Cond.code ({ cls := "VeilNations$Pad", name := "read", desc := "()I" } : Jvm.MethodName) prog_4_method_7_code (3 : Nat) (Option.some Jvm.ClassFile.FieldType.int) ∈ pg_T.2.1 := pg_wd (i := 365) (by decide +kernel)
theorem wd366 : Cond.methodLink "VeilNations$Pad" (35 : Nat) ({ cls := "VeilNations$Pad", name := "take", desc := "(II)I" } : Jvm.MethodName) ∈ pg_T.2.1 := pg_wd (i := 366) (by decide +kernel)
theorem wd368 : Cond.instanceMethod ({ cls := "VeilNations$Pad", name := "take", desc := "(II)I" } : Jvm.MethodName) ∈ pg_T.2.1 := pg_wd (i := 368) (by decide +kernel)
theorem wd369 : Cond.code ({ cls := "VeilNations$Pad", name := "take", desc := "(II)I" } : Jvm.MethodName) prog_4_method_8_code (3 : Nat) (Option.some Jvm.ClassFile.FieldType.int) ∈ pg_T.2.1 := pg_wd (i := 369) (by decide +kernel)
theorem wd370 : Cond.methodLink "VeilNations$Pad" (39 : Nat) ({ cls := "VeilNations$Pad", name := "takeFirst", desc := "(I)I" } : Jvm.MethodName) ∈ pg_T.2.1 := pg_wd (i := 370) (by decide +kernel)
theorem wd372 : Cond.instanceMethod ({ cls := "VeilNations$Pad", name := "takeFirst", desc := "(I)I" } : Jvm.MethodName) ∈ pg_T.2.1 := pg_wd (i := 372) (by decide +kernel)
theorem wd373 : Cond.code ({ cls := "VeilNations$Pad", name := "takeFirst", desc := "(I)I" } : Jvm.MethodName) prog_4_method_9_code (2 : Nat) (Option.some Jvm.ClassFile.FieldType.int) ∈ pg_T.2.1 := pg_wd (i := 373) (by decide +kernel)
theorem wd374 : Cond.methodLink "VeilNations$Pad" (46 : Nat) ({ cls := "VeilNations$Pad", name := "close", desc := "()I" } : Jvm.MethodName) ∈ pg_T.2.1 := pg_wd (i := 374) (by decide +kernel)
theorem wd376 : Cond.instanceMethod ({ cls := "VeilNations$Pad", name := "close", desc := "()I" } : Jvm.MethodName) ∈ pg_T.2.1 := pg_wd (i := 376) (by decide +kernel)
theorem wd377 : Cond.code ({ cls := "VeilNations$Pad", name := "close", desc := "()I" } : Jvm.MethodName) prog_4_method_12_code (1 : Nat) (Option.some Jvm.ClassFile.FieldType.int) ∈ pg_T.2.1 := pg_wd (i := 377) (by decide +kernel)
theorem wd378 : Cond.methodLink "VeilNations$Pad" (43 : Nat) ({ cls := "VeilNations$Pad", name := "takeDeed", desc := "(I)I" } : Jvm.MethodName) ∈ pg_T.2.1 := pg_wd (i := 378) (by decide +kernel)
theorem wd380 : Cond.instanceMethod ({ cls := "VeilNations$Pad", name := "takeDeed", desc := "(I)I" } : Jvm.MethodName) ∈ pg_T.2.1 := pg_wd (i := 380) (by decide +kernel)
theorem wd381 : Cond.code ({ cls := "VeilNations$Pad", name := "takeDeed", desc := "(I)I" } : Jvm.MethodName) prog_4_method_10_code (3 : Nat) (Option.some Jvm.ClassFile.FieldType.int) ∈ pg_T.2.1 := pg_wd (i := 381) (by decide +kernel)
theorem wd382 : Cond.methodLink "VeilNations$Pad" (50 : Nat) ({ cls := "VeilNations$Pad", name := "deedOf", desc := "(I)I" } : Jvm.MethodName) ∈ pg_T.2.1 := pg_wd (i := 382) (by decide +kernel)
theorem wd383 : Cond.static ({ cls := "VeilNations$Pad", name := "deedOf", desc := "(I)I" } : Jvm.MethodName) ∈ pg_T.2.1 := pg_wd (i := 383) (by decide +kernel)
theorem wd384 : Cond.code ({ cls := "VeilNations$Pad", name := "deedOf", desc := "(I)I" } : Jvm.MethodName) prog_4_method_11_code (1 : Nat) (Option.some Jvm.ClassFile.FieldType.int) ∈ pg_T.2.1 := pg_wd (i := 384) (by decide +kernel)
theorem wd385 : Cond.methodLink "VeilNationsLaw" (46 : Nat) ({ cls := "VeilNations", name := "judge", desc := "(I)I" } : Jvm.MethodName) ∈ pg_T.2.1 := pg_wd (i := 385) (by decide +kernel)
theorem wd386 : Cond.instanceMethod ({ cls := "VeilNations", name := "judge", desc := "(I)I" } : Jvm.MethodName) ∈ pg_T.2.1 := pg_wd (i := 386) (by decide +kernel)
theorem wd387 : Cond.selects "VeilNations" ({ cls := "VeilNations", name := "judge", desc := "(I)I" } : Jvm.MethodName) ({ cls := "VeilNations", name := "judge", desc := "(I)I" } : Jvm.MethodName) ∈ pg_T.2.1 := pg_wd (i := 387) (by decide +kernel)
theorem wd388 : Cond.code ({ cls := "VeilNations", name := "judge", desc := "(I)I" } : Jvm.MethodName) prog_1_method_9_code (3 : Nat) (Option.some Jvm.ClassFile.FieldType.int) ∈ pg_T.2.1 := pg_wd (i := 388) (by decide +kernel)
theorem wd389 : Cond.methodLink "VeilNations" (116 : Nat) ({ cls := "VeilNations", name := "follow", desc := "(Z)I" } : Jvm.MethodName) ∈ pg_T.2.1 := pg_wd (i := 389) (by decide +kernel)
theorem wd391 : Cond.instanceMethod ({ cls := "VeilNations", name := "follow", desc := "(Z)I" } : Jvm.MethodName) ∈ pg_T.2.1 := pg_wd (i := 391) (by decide +kernel)
theorem wd392 : Cond.code ({ cls := "VeilNations", name := "follow", desc := "(Z)I" } : Jvm.MethodName) prog_1_method_29_code (2 : Nat) (Option.some Jvm.ClassFile.FieldType.int) ∈ pg_T.2.1 := pg_wd (i := 392) (by decide +kernel)
theorem wd393 : Cond.methodLink "VeilNations" (256 : Nat) ({ cls := "VeilNations$Course", name := "run", desc := "(LVeilNations$World;LVeilNations$Pad;)V" } : Jvm.MethodName) ∈ pg_T.2.1 := pg_wd (i := 393) (by decide +kernel)
theorem wd394 : Cond.instanceMethod ({ cls := "VeilNations$Course", name := "run", desc := "(LVeilNations$World;LVeilNations$Pad;)V" } : Jvm.MethodName) ∈ pg_T.2.1 := pg_wd (i := 394) (by decide +kernel)
theorem wd395 : Cond.selects "VeilNations$Course" ({ cls := "VeilNations$Course", name := "run", desc := "(LVeilNations$World;LVeilNations$Pad;)V" } : Jvm.MethodName) ({ cls := "VeilNations$Course", name := "run", desc := "(LVeilNations$World;LVeilNations$Pad;)V" } : Jvm.MethodName) ∈ pg_T.2.1 := pg_wd (i := 395) (by decide +kernel)
theorem wd396 : Cond.code ({ cls := "VeilNations$Course", name := "run", desc := "(LVeilNations$World;LVeilNations$Pad;)V" } : Jvm.MethodName) prog_3_method_2_code (5 : Nat) (Option.none : Option Jvm.ClassFile.FieldType) ∈ pg_T.2.1 := pg_wd (i := 396) (by decide +kernel)
theorem wd397 : Cond.methodLink "VeilNations$Course" (18 : Nat) ({ cls := "VeilNations$Course", name := "begin", desc := "(LVeilNations$World;)V" } : Jvm.MethodName) ∈ pg_T.2.1 := pg_wd (i := 397) (by decide +kernel)
theorem wd399 : Cond.instanceMethod ({ cls := "VeilNations$Course", name := "begin", desc := "(LVeilNations$World;)V" } : Jvm.MethodName) ∈ pg_T.2.1 := pg_wd (i := 399) (by decide +kernel)
theorem wd400 : Cond.code ({ cls := "VeilNations$Course", name := "begin", desc := "(LVeilNations$World;)V" } : Jvm.MethodName) prog_3_method_3_code (2 : Nat) (Option.none : Option Jvm.ClassFile.FieldType) ∈ pg_T.2.1 := pg_wd (i := 400) (by decide +kernel)
theorem wd401 : Cond.methodLink "VeilNations$Course" (55 : Nat) ({ cls := "VeilNations$World", name := "copy", desc := "(LVeilNations$World;)V" } : Jvm.MethodName) ∈ pg_T.2.1 := pg_wd (i := 401) (by decide +kernel)
theorem wd402 : Cond.instanceMethod ({ cls := "VeilNations$World", name := "copy", desc := "(LVeilNations$World;)V" } : Jvm.MethodName) ∈ pg_T.2.1 := pg_wd (i := 402) (by decide +kernel)
theorem wd403 : Cond.selects "VeilNations$World" ({ cls := "VeilNations$World", name := "copy", desc := "(LVeilNations$World;)V" } : Jvm.MethodName) ({ cls := "VeilNations$World", name := "copy", desc := "(LVeilNations$World;)V" } : Jvm.MethodName) ∈ pg_T.2.1 := pg_wd (i := 403) (by decide +kernel)
theorem wd404 : Cond.code ({ cls := "VeilNations$World", name := "copy", desc := "(LVeilNations$World;)V" } : Jvm.MethodName) prog_9_method_2_code (3 : Nat) (Option.none : Option Jvm.ClassFile.FieldType) ∈ pg_T.2.1 := pg_wd (i := 404) (by decide +kernel)
theorem wd405 : Cond.methodLink "VeilNations$Course" (31 : Nat) ({ cls := "VeilNations$Pad", name := "kindOf", desc := "(I)I" } : Jvm.MethodName) ∈ pg_T.2.1 := pg_wd (i := 405) (by decide +kernel)
theorem wd406 : Cond.instanceMethod ({ cls := "VeilNations$Pad", name := "kindOf", desc := "(I)I" } : Jvm.MethodName) ∈ pg_T.2.1 := pg_wd (i := 406) (by decide +kernel)
theorem wd407 : Cond.selects "VeilNations$Pad" ({ cls := "VeilNations$Pad", name := "kindOf", desc := "(I)I" } : Jvm.MethodName) ({ cls := "VeilNations$Pad", name := "kindOf", desc := "(I)I" } : Jvm.MethodName) ∈ pg_T.2.1 := pg_wd (i := 407) (by decide +kernel)
theorem wd408 : Cond.code ({ cls := "VeilNations$Pad", name := "kindOf", desc := "(I)I" } : Jvm.MethodName) prog_4_method_4_code (2 : Nat) (Option.some Jvm.ClassFile.FieldType.int) ∈ pg_T.2.1 := pg_wd (i := 408) (by decide +kernel)
theorem wd409 : Cond.methodLink "VeilNations$Course" (35 : Nat) ({ cls := "VeilNations$Pad", name := "whoOf", desc := "(I)I" } : Jvm.MethodName) ∈ pg_T.2.1 := pg_wd (i := 409) (by decide +kernel)
theorem wd410 : Cond.instanceMethod ({ cls := "VeilNations$Pad", name := "whoOf", desc := "(I)I" } : Jvm.MethodName) ∈ pg_T.2.1 := pg_wd (i := 410) (by decide +kernel)
theorem wd411 : Cond.selects "VeilNations$Pad" ({ cls := "VeilNations$Pad", name := "whoOf", desc := "(I)I" } : Jvm.MethodName) ({ cls := "VeilNations$Pad", name := "whoOf", desc := "(I)I" } : Jvm.MethodName) ∈ pg_T.2.1 := pg_wd (i := 411) (by decide +kernel)
theorem wd412 : Cond.code ({ cls := "VeilNations$Pad", name := "whoOf", desc := "(I)I" } : Jvm.MethodName) prog_4_method_5_code (2 : Nat) (Option.some Jvm.ClassFile.FieldType.int) ∈ pg_T.2.1 := pg_wd (i := 412) (by decide +kernel)
theorem wd413 : Cond.methodLink "VeilNations$Course" (38 : Nat) ({ cls := "VeilNations$Pad", name := "otherOf", desc := "(I)I" } : Jvm.MethodName) ∈ pg_T.2.1 := pg_wd (i := 413) (by decide +kernel)
theorem wd414 : Cond.instanceMethod ({ cls := "VeilNations$Pad", name := "otherOf", desc := "(I)I" } : Jvm.MethodName) ∈ pg_T.2.1 := pg_wd (i := 414) (by decide +kernel)
theorem wd415 : Cond.selects "VeilNations$Pad" ({ cls := "VeilNations$Pad", name := "otherOf", desc := "(I)I" } : Jvm.MethodName) ({ cls := "VeilNations$Pad", name := "otherOf", desc := "(I)I" } : Jvm.MethodName) ∈ pg_T.2.1 := pg_wd (i := 415) (by decide +kernel)
theorem wd416 : Cond.code ({ cls := "VeilNations$Pad", name := "otherOf", desc := "(I)I" } : Jvm.MethodName) prog_4_method_6_code (2 : Nat) (Option.some Jvm.ClassFile.FieldType.int) ∈ pg_T.2.1 := pg_wd (i := 416) (by decide +kernel)
theorem wd417 : Cond.methodLink "VeilNations$Course" (41 : Nat) ({ cls := "VeilNations$World", name := "whyNot", desc := "(III)I" } : Jvm.MethodName) ∈ pg_T.2.1 := pg_wd (i := 417) (by decide +kernel)
theorem wd418 : Cond.instanceMethod ({ cls := "VeilNations$World", name := "whyNot", desc := "(III)I" } : Jvm.MethodName) ∈ pg_T.2.1 := pg_wd (i := 418) (by decide +kernel)
theorem wd419 : Cond.selects "VeilNations$World" ({ cls := "VeilNations$World", name := "whyNot", desc := "(III)I" } : Jvm.MethodName) ({ cls := "VeilNations$World", name := "whyNot", desc := "(III)I" } : Jvm.MethodName) ∈ pg_T.2.1 := pg_wd (i := 419) (by decide +kernel)
theorem wd420 : Cond.code ({ cls := "VeilNations$World", name := "whyNot", desc := "(III)I" } : Jvm.MethodName) prog_9_method_13_code (4 : Nat) (Option.some Jvm.ClassFile.FieldType.int) ∈ pg_T.2.1 := pg_wd (i := 420) (by decide +kernel)
theorem wd421 : Cond.methodLink "VeilNations$World" (61 : Nat) ({ cls := "VeilNations$World", name := "isDown", desc := "(I)Z" } : Jvm.MethodName) ∈ pg_T.2.1 := pg_wd (i := 421) (by decide +kernel)
theorem wd422 : Cond.instanceMethod ({ cls := "VeilNations$World", name := "isDown", desc := "(I)Z" } : Jvm.MethodName) ∈ pg_T.2.1 := pg_wd (i := 422) (by decide +kernel)
theorem wd423 : Cond.selects "VeilNations$World" ({ cls := "VeilNations$World", name := "isDown", desc := "(I)Z" } : Jvm.MethodName) ({ cls := "VeilNations$World", name := "isDown", desc := "(I)Z" } : Jvm.MethodName) ∈ pg_T.2.1 := pg_wd (i := 423) (by decide +kernel)
theorem wd424 : Cond.code ({ cls := "VeilNations$World", name := "isDown", desc := "(I)Z" } : Jvm.MethodName) prog_9_method_9_code (2 : Nat) (Option.some Jvm.ClassFile.FieldType.boolean) ∈ pg_T.2.1 := pg_wd (i := 424) (by decide +kernel)
theorem wd426 : Cond.static ({ cls := "VeilNations", name := "has", desc := "(II)Z" } : Jvm.MethodName) ∈ pg_T.2.1 := pg_wd (i := 426) (by decide +kernel)
theorem wd427 : Cond.code ({ cls := "VeilNations", name := "has", desc := "(II)Z" } : Jvm.MethodName) prog_1_method_35_code (2 : Nat) (Option.some Jvm.ClassFile.FieldType.boolean) ∈ pg_T.2.1 := pg_wd (i := 427) (by decide +kernel)
theorem wd428 : Cond.methodLink "VeilNations$World" (64 : Nat) ({ cls := "VeilNations$World", name := "whyNotKiss", desc := "(II)I" } : Jvm.MethodName) ∈ pg_T.2.1 := pg_wd (i := 428) (by decide +kernel)
theorem wd430 : Cond.instanceMethod ({ cls := "VeilNations$World", name := "whyNotKiss", desc := "(II)I" } : Jvm.MethodName) ∈ pg_T.2.1 := pg_wd (i := 430) (by decide +kernel)
theorem wd431 : Cond.code ({ cls := "VeilNations$World", name := "whyNotKiss", desc := "(II)I" } : Jvm.MethodName) prog_9_method_14_code (3 : Nat) (Option.some Jvm.ClassFile.FieldType.int) ∈ pg_T.2.1 := pg_wd (i := 431) (by decide +kernel)
theorem wd432 : Cond.methodLink "VeilNations$World" (70 : Nat) ({ cls := "VeilNations$World", name := "nationOf", desc := "(I)I" } : Jvm.MethodName) ∈ pg_T.2.1 := pg_wd (i := 432) (by decide +kernel)
theorem wd433 : Cond.methodLink "VeilNations$World" (73 : Nat) ({ cls := "VeilNations$World", name := "friendsOf", desc := "(I)I" } : Jvm.MethodName) ∈ pg_T.2.1 := pg_wd (i := 433) (by decide +kernel)
theorem wd434 : Cond.instanceMethod ({ cls := "VeilNations$World", name := "friendsOf", desc := "(I)I" } : Jvm.MethodName) ∈ pg_T.2.1 := pg_wd (i := 434) (by decide +kernel)
theorem wd435 : Cond.selects "VeilNations$World" ({ cls := "VeilNations$World", name := "friendsOf", desc := "(I)I" } : Jvm.MethodName) ({ cls := "VeilNations$World", name := "friendsOf", desc := "(I)I" } : Jvm.MethodName) ∈ pg_T.2.1 := pg_wd (i := 435) (by decide +kernel)
theorem wd436 : Cond.code ({ cls := "VeilNations$World", name := "friendsOf", desc := "(I)I" } : Jvm.MethodName) prog_9_method_8_code (2 : Nat) (Option.some Jvm.ClassFile.FieldType.int) ∈ pg_T.2.1 := pg_wd (i := 436) (by decide +kernel)
theorem wd437 : Cond.methodLink "VeilNations$World" (67 : Nat) ({ cls := "VeilNations$World", name := "tearsOf", desc := "(I)I" } : Jvm.MethodName) ∈ pg_T.2.1 := pg_wd (i := 437) (by decide +kernel)
theorem wd438 : Cond.instanceMethod ({ cls := "VeilNations$World", name := "tearsOf", desc := "(I)I" } : Jvm.MethodName) ∈ pg_T.2.1 := pg_wd (i := 438) (by decide +kernel)
theorem wd439 : Cond.selects "VeilNations$World" ({ cls := "VeilNations$World", name := "tearsOf", desc := "(I)I" } : Jvm.MethodName) ({ cls := "VeilNations$World", name := "tearsOf", desc := "(I)I" } : Jvm.MethodName) ∈ pg_T.2.1 := pg_wd (i := 439) (by decide +kernel)
theorem wd440 : Cond.code ({ cls := "VeilNations$World", name := "tearsOf", desc := "(I)I" } : Jvm.MethodName) prog_9_method_7_code (2 : Nat) (Option.some Jvm.ClassFile.FieldType.int) ∈ pg_T.2.1 := pg_wd (i := 440) (by decide +kernel)
theorem wd441 : Cond.methodLink "VeilNations$Course" (45 : Nat) ({ cls := "VeilNations$World", name := "act", desc := "(III)I" } : Jvm.MethodName) ∈ pg_T.2.1 := pg_wd (i := 441) (by decide +kernel)
theorem wd442 : Cond.instanceMethod ({ cls := "VeilNations$World", name := "act", desc := "(III)I" } : Jvm.MethodName) ∈ pg_T.2.1 := pg_wd (i := 442) (by decide +kernel)
theorem wd443 : Cond.selects "VeilNations$World" ({ cls := "VeilNations$World", name := "act", desc := "(III)I" } : Jvm.MethodName) ({ cls := "VeilNations$World", name := "act", desc := "(III)I" } : Jvm.MethodName) ∈ pg_T.2.1 := pg_wd (i := 443) (by decide +kernel)
theorem wd444 : Cond.code ({ cls := "VeilNations$World", name := "act", desc := "(III)I" } : Jvm.MethodName) prog_9_method_15_code (4 : Nat) (Option.some Jvm.ClassFile.FieldType.int) ∈ pg_T.2.1 := pg_wd (i := 444) (by decide +kernel)
theorem wd445 : Cond.methodLink "VeilNations$World" (76 : Nat) ({ cls := "VeilNations$World", name := "annex", desc := "(II)I" } : Jvm.MethodName) ∈ pg_T.2.1 := pg_wd (i := 445) (by decide +kernel)
theorem wd447 : Cond.instanceMethod ({ cls := "VeilNations$World", name := "annex", desc := "(II)I" } : Jvm.MethodName) ∈ pg_T.2.1 := pg_wd (i := 447) (by decide +kernel)
theorem wd448 : Cond.code ({ cls := "VeilNations$World", name := "annex", desc := "(II)I" } : Jvm.MethodName) prog_9_method_20_code (3 : Nat) (Option.some Jvm.ClassFile.FieldType.int) ∈ pg_T.2.1 := pg_wd (i := 448) (by decide +kernel)
theorem wd449 : Cond.methodLink "VeilNations$World" (79 : Nat) ({ cls := "VeilNations$World", name := "bind", desc := "(IIZ)V" } : Jvm.MethodName) ∈ pg_T.2.1 := pg_wd (i := 449) (by decide +kernel)
theorem wd450 : Cond.methodLink "VeilNations$World" (83 : Nat) ({ cls := "VeilNations$World", name := "addTears", desc := "(II)V" } : Jvm.MethodName) ∈ pg_T.2.1 := pg_wd (i := 450) (by decide +kernel)
theorem wd452 : Cond.instanceMethod ({ cls := "VeilNations$World", name := "addTears", desc := "(II)V" } : Jvm.MethodName) ∈ pg_T.2.1 := pg_wd (i := 452) (by decide +kernel)
theorem wd453 : Cond.code ({ cls := "VeilNations$World", name := "addTears", desc := "(II)V" } : Jvm.MethodName) prog_9_method_17_code (3 : Nat) (Option.none : Option Jvm.ClassFile.FieldType) ∈ pg_T.2.1 := pg_wd (i := 453) (by decide +kernel)
theorem wd454 : Cond.methodLink "VeilNations$World" (87 : Nat) ({ cls := "VeilNations$World", name := "blow", desc := "(I)V" } : Jvm.MethodName) ∈ pg_T.2.1 := pg_wd (i := 454) (by decide +kernel)
theorem wd456 : Cond.instanceMethod ({ cls := "VeilNations$World", name := "blow", desc := "(I)V" } : Jvm.MethodName) ∈ pg_T.2.1 := pg_wd (i := 456) (by decide +kernel)
theorem wd457 : Cond.code ({ cls := "VeilNations$World", name := "blow", desc := "(I)V" } : Jvm.MethodName) prog_9_method_18_code (3 : Nat) (Option.none : Option Jvm.ClassFile.FieldType) ∈ pg_T.2.1 := pg_wd (i := 457) (by decide +kernel)
theorem wd458 : Cond.methodLink "VeilNations$World" (95 : Nat) ({ cls := "VeilNations$World", name := "thickOf", desc := "(I)I" } : Jvm.MethodName) ∈ pg_T.2.1 := pg_wd (i := 458) (by decide +kernel)
theorem wd459 : Cond.instanceMethod ({ cls := "VeilNations$World", name := "thickOf", desc := "(I)I" } : Jvm.MethodName) ∈ pg_T.2.1 := pg_wd (i := 459) (by decide +kernel)
theorem wd460 : Cond.selects "VeilNations$World" ({ cls := "VeilNations$World", name := "thickOf", desc := "(I)I" } : Jvm.MethodName) ({ cls := "VeilNations$World", name := "thickOf", desc := "(I)I" } : Jvm.MethodName) ∈ pg_T.2.1 := pg_wd (i := 460) (by decide +kernel)
theorem wd461 : Cond.code ({ cls := "VeilNations$World", name := "thickOf", desc := "(I)I" } : Jvm.MethodName) prog_9_method_10_code (2 : Nat) (Option.some Jvm.ClassFile.FieldType.int) ∈ pg_T.2.1 := pg_wd (i := 461) (by decide +kernel)
theorem wd462 : Cond.methodLink "VeilNations$World" (49 : Nat) ({ cls := "java/lang/Math", name := "max", desc := "(II)I" } : Jvm.MethodName) ∈ pg_T.2.1 := pg_wd (i := 462) (by decide +kernel)
theorem wd463 : Cond.static ({ cls := "java/lang/Math", name := "max", desc := "(II)I" } : Jvm.MethodName) ∈ pg_T.2.1 := pg_wd (i := 463) (by decide +kernel)
theorem wd464 : Cond.code ({ cls := "java/lang/Math", name := "max", desc := "(II)I" } : Jvm.MethodName) prog_13_method_65_code (2 : Nat) (Option.some Jvm.ClassFile.FieldType.int) ∈ pg_T.2.1 := pg_wd (i := 464) (by decide +kernel)
theorem wd465 : Cond.methodLink "VeilNations$World" (91 : Nat) ({ cls := "VeilNations$World", name := "passDay", desc := "()I" } : Jvm.MethodName) ∈ pg_T.2.1 := pg_wd (i := 465) (by decide +kernel)
theorem wd467 : Cond.instanceMethod ({ cls := "VeilNations$World", name := "passDay", desc := "()I" } : Jvm.MethodName) ∈ pg_T.2.1 := pg_wd (i := 467) (by decide +kernel)
theorem wd468 : Cond.code ({ cls := "VeilNations$World", name := "passDay", desc := "()I" } : Jvm.MethodName) prog_9_method_19_code (5 : Nat) (Option.some Jvm.ClassFile.FieldType.int) ∈ pg_T.2.1 := pg_wd (i := 468) (by decide +kernel)
theorem wd469 : Cond.methodLink "VeilNations$Course" (48 : Nat) ({ cls := "VeilNations$Course", name := "note", desc := "(II)V" } : Jvm.MethodName) ∈ pg_T.2.1 := pg_wd (i := 469) (by decide +kernel)
theorem wd471 : Cond.instanceMethod ({ cls := "VeilNations$Course", name := "note", desc := "(II)V" } : Jvm.MethodName) ∈ pg_T.2.1 := pg_wd (i := 471) (by decide +kernel)
theorem wd472 : Cond.code ({ cls := "VeilNations$Course", name := "note", desc := "(II)V" } : Jvm.MethodName) prog_3_method_4_code (3 : Nat) (Option.none : Option Jvm.ClassFile.FieldType) ∈ pg_T.2.1 := pg_wd (i := 472) (by decide +kernel)
theorem wd473 : Cond.methodLink "VeilNations$Course" (67 : Nat) ({ cls := "java/lang/Integer", name := "bitCount", desc := "(I)I" } : Jvm.MethodName) ∈ pg_T.2.1 := pg_wd (i := 473) (by decide +kernel)
theorem wd474 : Cond.methodLink "VeilNations$Course" (72 : Nat) ({ cls := "java/lang/Integer", name := "numberOfTrailingZeros", desc := "(I)I" } : Jvm.MethodName) ∈ pg_T.2.1 := pg_wd (i := 474) (by decide +kernel)
theorem wd475 : Cond.static ({ cls := "java/lang/Integer", name := "numberOfTrailingZeros", desc := "(I)I" } : Jvm.MethodName) ∈ pg_T.2.1 := pg_wd (i := 475) (by decide +kernel)
theorem wd476 : Cond.code ({ cls := "java/lang/Integer", name := "numberOfTrailingZeros", desc := "(I)I" } : Jvm.MethodName) prog_12_method_48_code (2 : Nat) (Option.some Jvm.ClassFile.FieldType.int) ∈ pg_T.2.1 := pg_wd (i := 476) (by decide +kernel)
theorem wd477 : Cond.constant "java/lang/Integer" (264 : Nat) (65536 : Int32) ∈ pg_T.2.1 := pg_wd (i := 477) (by decide +kernel)
theorem wd478 : Cond.methodLink "VeilNationsLaw" (50 : Nat) ({ cls := "VeilNations", name := "behind", desc := "(II)I" } : Jvm.MethodName) ∈ pg_T.2.1 := pg_wd (i := 478) (by decide +kernel)
theorem wd479 : Cond.instanceMethod ({ cls := "VeilNations", name := "behind", desc := "(II)I" } : Jvm.MethodName) ∈ pg_T.2.1 := pg_wd (i := 479) (by decide +kernel)
theorem wd480 : Cond.selects "VeilNations" ({ cls := "VeilNations", name := "behind", desc := "(II)I" } : Jvm.MethodName) ({ cls := "VeilNations", name := "behind", desc := "(II)I" } : Jvm.MethodName) ∈ pg_T.2.1 := pg_wd (i := 480) (by decide +kernel)
theorem wd481 : Cond.code ({ cls := "VeilNations", name := "behind", desc := "(II)I" } : Jvm.MethodName) prog_1_method_10_code (4 : Nat) (Option.some Jvm.ClassFile.FieldType.int) ∈ pg_T.2.1 := pg_wd (i := 481) (by decide +kernel)
theorem wd482 : Cond.methodLink "VeilNations" (132 : Nat) ({ cls := "VeilNations$World", name := "isDown", desc := "(I)Z" } : Jvm.MethodName) ∈ pg_T.2.1 := pg_wd (i := 482) (by decide +kernel)
theorem wd483 : Cond.methodLink "VeilNations" (135 : Nat) ({ cls := "VeilNations$World", name := "tearsOf", desc := "(I)I" } : Jvm.MethodName) ∈ pg_T.2.1 := pg_wd (i := 483) (by decide +kernel)
theorem wd484 : Cond.methodLink "VeilNations" (138 : Nat) ({ cls := "VeilNations$World", name := "thickOf", desc := "(I)I" } : Jvm.MethodName) ∈ pg_T.2.1 := pg_wd (i := 484) (by decide +kernel)
theorem wd485 : Cond.methodLink "VeilNationsLaw" (55 : Nat) ({ cls := "VeilNations", name := "states", desc := "(I)I" } : Jvm.MethodName) ∈ pg_T.2.1 := pg_wd (i := 485) (by decide +kernel)
theorem wd486 : Cond.instanceMethod ({ cls := "VeilNations", name := "states", desc := "(I)I" } : Jvm.MethodName) ∈ pg_T.2.1 := pg_wd (i := 486) (by decide +kernel)
theorem wd487 : Cond.selects "VeilNations" ({ cls := "VeilNations", name := "states", desc := "(I)I" } : Jvm.MethodName) ({ cls := "VeilNations", name := "states", desc := "(I)I" } : Jvm.MethodName) ∈ pg_T.2.1 := pg_wd (i := 487) (by decide +kernel)
theorem wd488 : Cond.code ({ cls := "VeilNations", name := "states", desc := "(I)I" } : Jvm.MethodName) prog_1_method_11_code (3 : Nat) (Option.some Jvm.ClassFile.FieldType.int) ∈ pg_T.2.1 := pg_wd (i := 488) (by decide +kernel)
theorem wd489 : Cond.methodLink "VeilNations" (144 : Nat) ({ cls := "VeilNations$World", name := "peopleOf", desc := "(I)I" } : Jvm.MethodName) ∈ pg_T.2.1 := pg_wd (i := 489) (by decide +kernel)
theorem wd490 : Cond.instanceMethod ({ cls := "VeilNations$World", name := "peopleOf", desc := "(I)I" } : Jvm.MethodName) ∈ pg_T.2.1 := pg_wd (i := 490) (by decide +kernel)
theorem wd491 : Cond.selects "VeilNations$World" ({ cls := "VeilNations$World", name := "peopleOf", desc := "(I)I" } : Jvm.MethodName) ({ cls := "VeilNations$World", name := "peopleOf", desc := "(I)I" } : Jvm.MethodName) ∈ pg_T.2.1 := pg_wd (i := 491) (by decide +kernel)
theorem wd492 : Cond.code ({ cls := "VeilNations$World", name := "peopleOf", desc := "(I)I" } : Jvm.MethodName) prog_9_method_12_code (4 : Nat) (Option.some Jvm.ClassFile.FieldType.int) ∈ pg_T.2.1 := pg_wd (i := 492) (by decide +kernel)
theorem wd493 : Cond.methodLink "VeilNationsLaw" (59 : Nat) ({ cls := "VeilNations", name := "annexed", desc := "(I)I" } : Jvm.MethodName) ∈ pg_T.2.1 := pg_wd (i := 493) (by decide +kernel)
theorem wd494 : Cond.instanceMethod ({ cls := "VeilNations", name := "annexed", desc := "(I)I" } : Jvm.MethodName) ∈ pg_T.2.1 := pg_wd (i := 494) (by decide +kernel)
theorem wd495 : Cond.selects "VeilNations" ({ cls := "VeilNations", name := "annexed", desc := "(I)I" } : Jvm.MethodName) ({ cls := "VeilNations", name := "annexed", desc := "(I)I" } : Jvm.MethodName) ∈ pg_T.2.1 := pg_wd (i := 495) (by decide +kernel)
theorem wd496 : Cond.code ({ cls := "VeilNations", name := "annexed", desc := "(I)I" } : Jvm.MethodName) prog_1_method_12_code (3 : Nat) (Option.some Jvm.ClassFile.FieldType.int) ∈ pg_T.2.1 := pg_wd (i := 496) (by decide +kernel)
theorem wd497 : Cond.methodLink "VeilNationsLaw" (63 : Nat) ({ cls := "VeilNations", name := "done", desc := "()I" } : Jvm.MethodName) ∈ pg_T.2.1 := pg_wd (i := 497) (by decide +kernel)
theorem wd498 : Cond.instanceMethod ({ cls := "VeilNations", name := "done", desc := "()I" } : Jvm.MethodName) ∈ pg_T.2.1 := pg_wd (i := 498) (by decide +kernel)
theorem wd499 : Cond.selects "VeilNations" ({ cls := "VeilNations", name := "done", desc := "()I" } : Jvm.MethodName) ({ cls := "VeilNations", name := "done", desc := "()I" } : Jvm.MethodName) ∈ pg_T.2.1 := pg_wd (i := 499) (by decide +kernel)
theorem wd500 : Cond.code ({ cls := "VeilNations", name := "done", desc := "()I" } : Jvm.MethodName) prog_1_method_13_code (3 : Nat) (Option.some Jvm.ClassFile.FieldType.int) ∈ pg_T.2.1 := pg_wd (i := 500) (by decide +kernel)
theorem wd501 : Cond.methodLink "VeilNations" (156 : Nat) ({ cls := "VeilNations$World", name := "copy", desc := "(LVeilNations$World;)V" } : Jvm.MethodName) ∈ pg_T.2.1 := pg_wd (i := 501) (by decide +kernel)
theorem wd502 : Cond.methodLink "VeilNationsLaw" (67 : Nat) ({ cls := "VeilNations", name := "sees", desc := "(II)I" } : Jvm.MethodName) ∈ pg_T.2.1 := pg_wd (i := 502) (by decide +kernel)
theorem wd503 : Cond.instanceMethod ({ cls := "VeilNations", name := "sees", desc := "(II)I" } : Jvm.MethodName) ∈ pg_T.2.1 := pg_wd (i := 503) (by decide +kernel)
theorem wd504 : Cond.selects "VeilNations" ({ cls := "VeilNations", name := "sees", desc := "(II)I" } : Jvm.MethodName) ({ cls := "VeilNations", name := "sees", desc := "(II)I" } : Jvm.MethodName) ∈ pg_T.2.1 := pg_wd (i := 504) (by decide +kernel)
theorem wd505 : Cond.code ({ cls := "VeilNations", name := "sees", desc := "(II)I" } : Jvm.MethodName) prog_1_method_14_code (3 : Nat) (Option.some Jvm.ClassFile.FieldType.int) ∈ pg_T.2.1 := pg_wd (i := 505) (by decide +kernel)
theorem wd506 : Cond.methodLink "VeilNations" (160 : Nat) ({ cls := "VeilNations$World", name := "seenRound", desc := "(III)I" } : Jvm.MethodName) ∈ pg_T.2.1 := pg_wd (i := 506) (by decide +kernel)
theorem wd507 : Cond.instanceMethod ({ cls := "VeilNations$World", name := "seenRound", desc := "(III)I" } : Jvm.MethodName) ∈ pg_T.2.1 := pg_wd (i := 507) (by decide +kernel)
theorem wd508 : Cond.selects "VeilNations$World" ({ cls := "VeilNations$World", name := "seenRound", desc := "(III)I" } : Jvm.MethodName) ({ cls := "VeilNations$World", name := "seenRound", desc := "(III)I" } : Jvm.MethodName) ∈ pg_T.2.1 := pg_wd (i := 508) (by decide +kernel)
theorem wd509 : Cond.code ({ cls := "VeilNations$World", name := "seenRound", desc := "(III)I" } : Jvm.MethodName) prog_9_method_21_code (8 : Nat) (Option.some Jvm.ClassFile.FieldType.int) ∈ pg_T.2.1 := pg_wd (i := 509) (by decide +kernel)
theorem wd510 : Cond.methodLink "VeilNationsLaw" (71 : Nat) ({ cls := "VeilNations", name := "camps", desc := "(I)I" } : Jvm.MethodName) ∈ pg_T.2.1 := pg_wd (i := 510) (by decide +kernel)
theorem wd511 : Cond.instanceMethod ({ cls := "VeilNations", name := "camps", desc := "(I)I" } : Jvm.MethodName) ∈ pg_T.2.1 := pg_wd (i := 511) (by decide +kernel)
theorem wd512 : Cond.selects "VeilNations" ({ cls := "VeilNations", name := "camps", desc := "(I)I" } : Jvm.MethodName) ({ cls := "VeilNations", name := "camps", desc := "(I)I" } : Jvm.MethodName) ∈ pg_T.2.1 := pg_wd (i := 512) (by decide +kernel)
theorem wd513 : Cond.code ({ cls := "VeilNations", name := "camps", desc := "(I)I" } : Jvm.MethodName) prog_1_method_15_code (3 : Nat) (Option.some Jvm.ClassFile.FieldType.int) ∈ pg_T.2.1 := pg_wd (i := 513) (by decide +kernel)
theorem wd514 : Cond.methodLink "VeilNations" (164 : Nat) ({ cls := "VeilNations$World", name := "calmestCamp", desc := "()I" } : Jvm.MethodName) ∈ pg_T.2.1 := pg_wd (i := 514) (by decide +kernel)
theorem wd515 : Cond.instanceMethod ({ cls := "VeilNations$World", name := "calmestCamp", desc := "()I" } : Jvm.MethodName) ∈ pg_T.2.1 := pg_wd (i := 515) (by decide +kernel)
theorem wd516 : Cond.selects "VeilNations$World" ({ cls := "VeilNations$World", name := "calmestCamp", desc := "()I" } : Jvm.MethodName) ({ cls := "VeilNations$World", name := "calmestCamp", desc := "()I" } : Jvm.MethodName) ∈ pg_T.2.1 := pg_wd (i := 516) (by decide +kernel)
theorem wd517 : Cond.code ({ cls := "VeilNations$World", name := "calmestCamp", desc := "()I" } : Jvm.MethodName) prog_9_method_22_code (5 : Nat) (Option.some Jvm.ClassFile.FieldType.int) ∈ pg_T.2.1 := pg_wd (i := 517) (by decide +kernel)
theorem wd518 : Cond.methodLink "VeilNations$World" (98 : Nat) ({ cls := "VeilNations$World", name := "countFoes", desc := "()V" } : Jvm.MethodName) ∈ pg_T.2.1 := pg_wd (i := 518) (by decide +kernel)
theorem wd520 : Cond.instanceMethod ({ cls := "VeilNations$World", name := "countFoes", desc := "()V" } : Jvm.MethodName) ∈ pg_T.2.1 := pg_wd (i := 520) (by decide +kernel)
theorem wd521 : Cond.code ({ cls := "VeilNations$World", name := "countFoes", desc := "()V" } : Jvm.MethodName) prog_9_method_24_code (4 : Nat) (Option.none : Option Jvm.ClassFile.FieldType) ∈ pg_T.2.1 := pg_wd (i := 521) (by decide +kernel)
theorem wd522 : Cond.methodLink "VeilNations$World" (101 : Nat) ({ cls := "VeilNations$World", name := "quarrels", desc := "(I)I" } : Jvm.MethodName) ∈ pg_T.2.1 := pg_wd (i := 522) (by decide +kernel)
theorem wd523 : Cond.instanceMethod ({ cls := "VeilNations$World", name := "quarrels", desc := "(I)I" } : Jvm.MethodName) ∈ pg_T.2.1 := pg_wd (i := 523) (by decide +kernel)
theorem wd524 : Cond.selects "VeilNations$World" ({ cls := "VeilNations$World", name := "quarrels", desc := "(I)I" } : Jvm.MethodName) ({ cls := "VeilNations$World", name := "quarrels", desc := "(I)I" } : Jvm.MethodName) ∈ pg_T.2.1 := pg_wd (i := 524) (by decide +kernel)
theorem wd525 : Cond.code ({ cls := "VeilNations$World", name := "quarrels", desc := "(I)I" } : Jvm.MethodName) prog_9_method_23_code (5 : Nat) (Option.some Jvm.ClassFile.FieldType.int) ∈ pg_T.2.1 := pg_wd (i := 525) (by decide +kernel)
theorem wd526 : Cond.methodLink "VeilNations" (167 : Nat) ({ cls := "VeilNations$World", name := "quarrels", desc := "(I)I" } : Jvm.MethodName) ∈ pg_T.2.1 := pg_wd (i := 526) (by decide +kernel)
theorem wd527 : Cond.methodLink "VeilNationsLaw" (75 : Nat) ({ cls := "VeilNations", name := "late", desc := "(I)I" } : Jvm.MethodName) ∈ pg_T.2.1 := pg_wd (i := 527) (by decide +kernel)
theorem wd528 : Cond.instanceMethod ({ cls := "VeilNations", name := "late", desc := "(I)I" } : Jvm.MethodName) ∈ pg_T.2.1 := pg_wd (i := 528) (by decide +kernel)
theorem wd529 : Cond.selects "VeilNations" ({ cls := "VeilNations", name := "late", desc := "(I)I" } : Jvm.MethodName) ({ cls := "VeilNations", name := "late", desc := "(I)I" } : Jvm.MethodName) ∈ pg_T.2.1 := pg_wd (i := 529) (by decide +kernel)
theorem wd530 : Cond.code ({ cls := "VeilNations", name := "late", desc := "(I)I" } : Jvm.MethodName) prog_1_method_16_code (3 : Nat) (Option.some Jvm.ClassFile.FieldType.int) ∈ pg_T.2.1 := pg_wd (i := 530) (by decide +kernel)
theorem wd531 : Cond.methodLink "VeilNations" (170 : Nat) ({ cls := "VeilNations$Calls", name := "mostInTime", desc := "()I" } : Jvm.MethodName) ∈ pg_T.2.1 := pg_wd (i := 531) (by decide +kernel)
theorem wd532 : Cond.instanceMethod ({ cls := "VeilNations$Calls", name := "mostInTime", desc := "()I" } : Jvm.MethodName) ∈ pg_T.2.1 := pg_wd (i := 532) (by decide +kernel)
theorem wd533 : Cond.selects "VeilNations$Calls" ({ cls := "VeilNations$Calls", name := "mostInTime", desc := "()I" } : Jvm.MethodName) ({ cls := "VeilNations$Calls", name := "mostInTime", desc := "()I" } : Jvm.MethodName) ∈ pg_T.2.1 := pg_wd (i := 533) (by decide +kernel)
theorem wd534 : Cond.code ({ cls := "VeilNations$Calls", name := "mostInTime", desc := "()I" } : Jvm.MethodName) prog_2_method_6_code (3 : Nat) (Option.some Jvm.ClassFile.FieldType.int) ∈ pg_T.2.1 := pg_wd (i := 534) (by decide +kernel)
theorem wd535 : Cond.methodLink "VeilNations$Calls" (22 : Nat) ({ cls := "java/lang/Integer", name := "bitCount", desc := "(I)I" } : Jvm.MethodName) ∈ pg_T.2.1 := pg_wd (i := 535) (by decide +kernel)
theorem wd536 : Cond.methodLink "VeilNations$Calls" (28 : Nat) ({ cls := "VeilNations$Calls", name := "canBeInTime", desc := "(I)Z" } : Jvm.MethodName) ∈ pg_T.2.1 := pg_wd (i := 536) (by decide +kernel)
theorem wd538 : Cond.instanceMethod ({ cls := "VeilNations$Calls", name := "canBeInTime", desc := "(I)Z" } : Jvm.MethodName) ∈ pg_T.2.1 := pg_wd (i := 538) (by decide +kernel)
theorem wd539 : Cond.code ({ cls := "VeilNations$Calls", name := "canBeInTime", desc := "(I)Z" } : Jvm.MethodName) prog_2_method_7_code (3 : Nat) (Option.some Jvm.ClassFile.FieldType.boolean) ∈ pg_T.2.1 := pg_wd (i := 539) (by decide +kernel)
theorem wd541 : Cond.methodLink "VeilNations$Calls" (36 : Nat) ({ cls := "VeilNations$Calls", name := "minutesDueBy", desc := "(II)I" } : Jvm.MethodName) ∈ pg_T.2.1 := pg_wd (i := 541) (by decide +kernel)
theorem wd543 : Cond.instanceMethod ({ cls := "VeilNations$Calls", name := "minutesDueBy", desc := "(II)I" } : Jvm.MethodName) ∈ pg_T.2.1 := pg_wd (i := 543) (by decide +kernel)
theorem wd544 : Cond.code ({ cls := "VeilNations$Calls", name := "minutesDueBy", desc := "(II)I" } : Jvm.MethodName) prog_2_method_8_code (5 : Nat) (Option.some Jvm.ClassFile.FieldType.int) ∈ pg_T.2.1 := pg_wd (i := 544) (by decide +kernel)
theorem wd545 : Cond.methodLink "VeilNations" (173 : Nat) ({ cls := "java/lang/Integer", name := "bitCount", desc := "(I)I" } : Jvm.MethodName) ∈ pg_T.2.1 := pg_wd (i := 545) (by decide +kernel)
theorem wd546 : Cond.methodLink "VeilNationsLaw" (79 : Nat) ({ cls := "VeilNations", name := "stamps", desc := "(IIIII)I" } : Jvm.MethodName) ∈ pg_T.2.1 := pg_wd (i := 546) (by decide +kernel)
theorem wd547 : Cond.instanceMethod ({ cls := "VeilNations", name := "stamps", desc := "(IIIII)I" } : Jvm.MethodName) ∈ pg_T.2.1 := pg_wd (i := 547) (by decide +kernel)
theorem wd548 : Cond.selects "VeilNations" ({ cls := "VeilNations", name := "stamps", desc := "(IIIII)I" } : Jvm.MethodName) ({ cls := "VeilNations", name := "stamps", desc := "(IIIII)I" } : Jvm.MethodName) ∈ pg_T.2.1 := pg_wd (i := 548) (by decide +kernel)
theorem wd549 : Cond.code ({ cls := "VeilNations", name := "stamps", desc := "(IIIII)I" } : Jvm.MethodName) prog_1_method_17_code (6 : Nat) (Option.some Jvm.ClassFile.FieldType.int) ∈ pg_T.2.1 := pg_wd (i := 549) (by decide +kernel)
theorem wd550 : Cond.methodLink "VeilNations" (178 : Nat) ({ cls := "VeilNations$Stamps", name := "open", desc := "(III)V" } : Jvm.MethodName) ∈ pg_T.2.1 := pg_wd (i := 550) (by decide +kernel)
theorem wd551 : Cond.instanceMethod ({ cls := "VeilNations$Stamps", name := "open", desc := "(III)V" } : Jvm.MethodName) ∈ pg_T.2.1 := pg_wd (i := 551) (by decide +kernel)
theorem wd552 : Cond.selects "VeilNations$Stamps" ({ cls := "VeilNations$Stamps", name := "open", desc := "(III)V" } : Jvm.MethodName) ({ cls := "VeilNations$Stamps", name := "open", desc := "(III)V" } : Jvm.MethodName) ∈ pg_T.2.1 := pg_wd (i := 552) (by decide +kernel)
theorem wd553 : Cond.code ({ cls := "VeilNations$Stamps", name := "open", desc := "(III)V" } : Jvm.MethodName) prog_7_method_2_code (4 : Nat) (Option.none : Option Jvm.ClassFile.FieldType) ∈ pg_T.2.1 := pg_wd (i := 553) (by decide +kernel)
theorem wd554 : Cond.methodLink "VeilNations" (181 : Nat) ({ cls := "VeilNations$Stamps", name := "fewestFor", desc := "(I)I" } : Jvm.MethodName) ∈ pg_T.2.1 := pg_wd (i := 554) (by decide +kernel)
theorem wd555 : Cond.instanceMethod ({ cls := "VeilNations$Stamps", name := "fewestFor", desc := "(I)I" } : Jvm.MethodName) ∈ pg_T.2.1 := pg_wd (i := 555) (by decide +kernel)
theorem wd556 : Cond.selects "VeilNations$Stamps" ({ cls := "VeilNations$Stamps", name := "fewestFor", desc := "(I)I" } : Jvm.MethodName) ({ cls := "VeilNations$Stamps", name := "fewestFor", desc := "(I)I" } : Jvm.MethodName) ∈ pg_T.2.1 := pg_wd (i := 556) (by decide +kernel)
theorem wd557 : Cond.code ({ cls := "VeilNations$Stamps", name := "fewestFor", desc := "(I)I" } : Jvm.MethodName) prog_7_method_3_code (2 : Nat) (Option.some Jvm.ClassFile.FieldType.int) ∈ pg_T.2.1 := pg_wd (i := 557) (by decide +kernel)
theorem wd558 : Cond.methodLink "VeilNations$Stamps" (18 : Nat) ({ cls := "VeilNations$Stamps", name := "countFewest", desc := "(I)V" } : Jvm.MethodName) ∈ pg_T.2.1 := pg_wd (i := 558) (by decide +kernel)
theorem wd560 : Cond.instanceMethod ({ cls := "VeilNations$Stamps", name := "countFewest", desc := "(I)V" } : Jvm.MethodName) ∈ pg_T.2.1 := pg_wd (i := 560) (by decide +kernel)
theorem wd561 : Cond.code ({ cls := "VeilNations$Stamps", name := "countFewest", desc := "(I)V" } : Jvm.MethodName) prog_7_method_4_code (8 : Nat) (Option.none : Option Jvm.ClassFile.FieldType) ∈ pg_T.2.1 := pg_wd (i := 561) (by decide +kernel)
theorem wd563 : Cond.methodLink "VeilNations" (184 : Nat) ({ cls := "VeilNations$Stamps", name := "waysFor", desc := "(I)I" } : Jvm.MethodName) ∈ pg_T.2.1 := pg_wd (i := 563) (by decide +kernel)
theorem wd564 : Cond.instanceMethod ({ cls := "VeilNations$Stamps", name := "waysFor", desc := "(I)I" } : Jvm.MethodName) ∈ pg_T.2.1 := pg_wd (i := 564) (by decide +kernel)
theorem wd565 : Cond.selects "VeilNations$Stamps" ({ cls := "VeilNations$Stamps", name := "waysFor", desc := "(I)I" } : Jvm.MethodName) ({ cls := "VeilNations$Stamps", name := "waysFor", desc := "(I)I" } : Jvm.MethodName) ∈ pg_T.2.1 := pg_wd (i := 565) (by decide +kernel)
theorem wd566 : Cond.code ({ cls := "VeilNations$Stamps", name := "waysFor", desc := "(I)I" } : Jvm.MethodName) prog_7_method_5_code (7 : Nat) (Option.some Jvm.ClassFile.FieldType.int) ∈ pg_T.2.1 := pg_wd (i := 566) (by decide +kernel)
theorem wd567 : Cond.methodLink "VeilNations" (187 : Nat) ({ cls := "VeilNations$Stamps", name := "greatestGap", desc := "()I" } : Jvm.MethodName) ∈ pg_T.2.1 := pg_wd (i := 567) (by decide +kernel)
theorem wd568 : Cond.instanceMethod ({ cls := "VeilNations$Stamps", name := "greatestGap", desc := "()I" } : Jvm.MethodName) ∈ pg_T.2.1 := pg_wd (i := 568) (by decide +kernel)
theorem wd569 : Cond.selects "VeilNations$Stamps" ({ cls := "VeilNations$Stamps", name := "greatestGap", desc := "()I" } : Jvm.MethodName) ({ cls := "VeilNations$Stamps", name := "greatestGap", desc := "()I" } : Jvm.MethodName) ∈ pg_T.2.1 := pg_wd (i := 569) (by decide +kernel)
theorem wd570 : Cond.code ({ cls := "VeilNations$Stamps", name := "greatestGap", desc := "()I" } : Jvm.MethodName) prog_7_method_6_code (2 : Nat) (Option.some Jvm.ClassFile.FieldType.int) ∈ pg_T.2.1 := pg_wd (i := 570) (by decide +kernel)
theorem wd571 : Cond.methodLink "VeilNations$Stamps" (26 : Nat) ({ cls := "VeilNations$Stamps", name := "haveCommonDivisor", desc := "()Z" } : Jvm.MethodName) ∈ pg_T.2.1 := pg_wd (i := 571) (by decide +kernel)
theorem wd573 : Cond.instanceMethod ({ cls := "VeilNations$Stamps", name := "haveCommonDivisor", desc := "()Z" } : Jvm.MethodName) ∈ pg_T.2.1 := pg_wd (i := 573) (by decide +kernel)
theorem wd574 : Cond.code ({ cls := "VeilNations$Stamps", name := "haveCommonDivisor", desc := "()Z" } : Jvm.MethodName) prog_7_method_7_code (2 : Nat) (Option.some Jvm.ClassFile.FieldType.boolean) ∈ pg_T.2.1 := pg_wd (i := 574) (by decide +kernel)
theorem wd575 : Cond.methodLink "VeilNationsLaw" (83 : Nat) ({ cls := "VeilNations", name := "seen", desc := "(IZ)I" } : Jvm.MethodName) ∈ pg_T.2.1 := pg_wd (i := 575) (by decide +kernel)
theorem wd576 : Cond.instanceMethod ({ cls := "VeilNations", name := "seen", desc := "(IZ)I" } : Jvm.MethodName) ∈ pg_T.2.1 := pg_wd (i := 576) (by decide +kernel)
theorem wd577 : Cond.selects "VeilNations" ({ cls := "VeilNations", name := "seen", desc := "(IZ)I" } : Jvm.MethodName) ({ cls := "VeilNations", name := "seen", desc := "(IZ)I" } : Jvm.MethodName) ∈ pg_T.2.1 := pg_wd (i := 577) (by decide +kernel)
theorem wd578 : Cond.code ({ cls := "VeilNations", name := "seen", desc := "(IZ)I" } : Jvm.MethodName) prog_1_method_18_code (3 : Nat) (Option.some Jvm.ClassFile.FieldType.int) ∈ pg_T.2.1 := pg_wd (i := 578) (by decide +kernel)
theorem wd579 : Cond.methodLink "VeilNations" (194 : Nat) ({ cls := "VeilNations$Sights", name := "add", desc := "(IZ)Z" } : Jvm.MethodName) ∈ pg_T.2.1 := pg_wd (i := 579) (by decide +kernel)
theorem wd580 : Cond.instanceMethod ({ cls := "VeilNations$Sights", name := "add", desc := "(IZ)Z" } : Jvm.MethodName) ∈ pg_T.2.1 := pg_wd (i := 580) (by decide +kernel)
theorem wd581 : Cond.selects "VeilNations$Sights" ({ cls := "VeilNations$Sights", name := "add", desc := "(IZ)Z" } : Jvm.MethodName) ({ cls := "VeilNations$Sights", name := "add", desc := "(IZ)Z" } : Jvm.MethodName) ∈ pg_T.2.1 := pg_wd (i := 581) (by decide +kernel)
theorem wd582 : Cond.code ({ cls := "VeilNations$Sights", name := "add", desc := "(IZ)Z" } : Jvm.MethodName) prog_6_method_3_code (3 : Nat) (Option.some Jvm.ClassFile.FieldType.boolean) ∈ pg_T.2.1 := pg_wd (i := 582) (by decide +kernel)
theorem wd584 : Cond.methodLink "VeilNationsLaw" (88 : Nat) ({ cls := "VeilNations", name := "forget", desc := "()I" } : Jvm.MethodName) ∈ pg_T.2.1 := pg_wd (i := 584) (by decide +kernel)
theorem wd585 : Cond.instanceMethod ({ cls := "VeilNations", name := "forget", desc := "()I" } : Jvm.MethodName) ∈ pg_T.2.1 := pg_wd (i := 585) (by decide +kernel)
theorem wd586 : Cond.selects "VeilNations" ({ cls := "VeilNations", name := "forget", desc := "()I" } : Jvm.MethodName) ({ cls := "VeilNations", name := "forget", desc := "()I" } : Jvm.MethodName) ∈ pg_T.2.1 := pg_wd (i := 586) (by decide +kernel)
theorem wd587 : Cond.code ({ cls := "VeilNations", name := "forget", desc := "()I" } : Jvm.MethodName) prog_1_method_19_code (2 : Nat) (Option.some Jvm.ClassFile.FieldType.int) ∈ pg_T.2.1 := pg_wd (i := 587) (by decide +kernel)
theorem wd588 : Cond.methodLink "VeilNations" (203 : Nat) ({ cls := "VeilNations$Sights", name := "clear", desc := "()V" } : Jvm.MethodName) ∈ pg_T.2.1 := pg_wd (i := 588) (by decide +kernel)
theorem wd589 : Cond.instanceMethod ({ cls := "VeilNations$Sights", name := "clear", desc := "()V" } : Jvm.MethodName) ∈ pg_T.2.1 := pg_wd (i := 589) (by decide +kernel)
theorem wd590 : Cond.selects "VeilNations$Sights" ({ cls := "VeilNations$Sights", name := "clear", desc := "()V" } : Jvm.MethodName) ({ cls := "VeilNations$Sights", name := "clear", desc := "()V" } : Jvm.MethodName) ∈ pg_T.2.1 := pg_wd (i := 590) (by decide +kernel)
theorem wd591 : Cond.code ({ cls := "VeilNations$Sights", name := "clear", desc := "()V" } : Jvm.MethodName) prog_6_method_4_code (1 : Nat) (Option.none : Option Jvm.ClassFile.FieldType) ∈ pg_T.2.1 := pg_wd (i := 591) (by decide +kernel)
theorem wd592 : Cond.methodLink "VeilNationsLaw" (92 : Nat) ({ cls := "VeilNations", name := "fits", desc := "(I)I" } : Jvm.MethodName) ∈ pg_T.2.1 := pg_wd (i := 592) (by decide +kernel)
theorem wd593 : Cond.instanceMethod ({ cls := "VeilNations", name := "fits", desc := "(I)I" } : Jvm.MethodName) ∈ pg_T.2.1 := pg_wd (i := 593) (by decide +kernel)
theorem wd594 : Cond.selects "VeilNations" ({ cls := "VeilNations", name := "fits", desc := "(I)I" } : Jvm.MethodName) ({ cls := "VeilNations", name := "fits", desc := "(I)I" } : Jvm.MethodName) ∈ pg_T.2.1 := pg_wd (i := 594) (by decide +kernel)
theorem wd595 : Cond.code ({ cls := "VeilNations", name := "fits", desc := "(I)I" } : Jvm.MethodName) prog_1_method_20_code (2 : Nat) (Option.some Jvm.ClassFile.FieldType.int) ∈ pg_T.2.1 := pg_wd (i := 595) (by decide +kernel)
theorem wd596 : Cond.methodLink "VeilNations" (204 : Nat) ({ cls := "VeilNations$Rhythms", name := "gather", desc := "(LVeilNations$Sights;)V" } : Jvm.MethodName) ∈ pg_T.2.1 := pg_wd (i := 596) (by decide +kernel)
theorem wd597 : Cond.instanceMethod ({ cls := "VeilNations$Rhythms", name := "gather", desc := "(LVeilNations$Sights;)V" } : Jvm.MethodName) ∈ pg_T.2.1 := pg_wd (i := 597) (by decide +kernel)
theorem wd598 : Cond.selects "VeilNations$Rhythms" ({ cls := "VeilNations$Rhythms", name := "gather", desc := "(LVeilNations$Sights;)V" } : Jvm.MethodName) ({ cls := "VeilNations$Rhythms", name := "gather", desc := "(LVeilNations$Sights;)V" } : Jvm.MethodName) ∈ pg_T.2.1 := pg_wd (i := 598) (by decide +kernel)
theorem wd599 : Cond.code ({ cls := "VeilNations$Rhythms", name := "gather", desc := "(LVeilNations$Sights;)V" } : Jvm.MethodName) prog_5_method_3_code (5 : Nat) (Option.none : Option Jvm.ClassFile.FieldType) ∈ pg_T.2.1 := pg_wd (i := 599) (by decide +kernel)
theorem wd600 : Cond.methodLink "VeilNations$Rhythms" (19 : Nat) ({ cls := "VeilNations$Rhythms", name := "gatherOne", desc := "(ILVeilNations$Sights;)V" } : Jvm.MethodName) ∈ pg_T.2.1 := pg_wd (i := 600) (by decide +kernel)
theorem wd602 : Cond.instanceMethod ({ cls := "VeilNations$Rhythms", name := "gatherOne", desc := "(ILVeilNations$Sights;)V" } : Jvm.MethodName) ∈ pg_T.2.1 := pg_wd (i := 602) (by decide +kernel)
theorem wd603 : Cond.code ({ cls := "VeilNations$Rhythms", name := "gatherOne", desc := "(ILVeilNations$Sights;)V" } : Jvm.MethodName) prog_5_method_4_code (3 : Nat) (Option.none : Option Jvm.ClassFile.FieldType) ∈ pg_T.2.1 := pg_wd (i := 603) (by decide +kernel)
theorem wd605 : Cond.methodLink "VeilNations$Rhythms" (27 : Nat) ({ cls := "VeilNations$Sights", name := "agreeWith", desc := "(I)Z" } : Jvm.MethodName) ∈ pg_T.2.1 := pg_wd (i := 605) (by decide +kernel)
theorem wd606 : Cond.instanceMethod ({ cls := "VeilNations$Sights", name := "agreeWith", desc := "(I)Z" } : Jvm.MethodName) ∈ pg_T.2.1 := pg_wd (i := 606) (by decide +kernel)
theorem wd607 : Cond.selects "VeilNations$Sights" ({ cls := "VeilNations$Sights", name := "agreeWith", desc := "(I)Z" } : Jvm.MethodName) ({ cls := "VeilNations$Sights", name := "agreeWith", desc := "(I)Z" } : Jvm.MethodName) ∈ pg_T.2.1 := pg_wd (i := 607) (by decide +kernel)
theorem wd608 : Cond.code ({ cls := "VeilNations$Sights", name := "agreeWith", desc := "(I)Z" } : Jvm.MethodName) prog_6_method_5_code (3 : Nat) (Option.some Jvm.ClassFile.FieldType.boolean) ∈ pg_T.2.1 := pg_wd (i := 608) (by decide +kernel)
theorem wd609 : Cond.methodLink "VeilNations$Sights" (26 : Nat) ({ cls := "VeilNations$Rhythms", name := "isDown", desc := "(II)Z" } : Jvm.MethodName) ∈ pg_T.2.1 := pg_wd (i := 609) (by decide +kernel)
theorem wd610 : Cond.static ({ cls := "VeilNations$Rhythms", name := "isDown", desc := "(II)Z" } : Jvm.MethodName) ∈ pg_T.2.1 := pg_wd (i := 610) (by decide +kernel)
theorem wd611 : Cond.code ({ cls := "VeilNations$Rhythms", name := "isDown", desc := "(II)Z" } : Jvm.MethodName) prog_5_method_2_code (3 : Nat) (Option.some Jvm.ClassFile.FieldType.boolean) ∈ pg_T.2.1 := pg_wd (i := 611) (by decide +kernel)
theorem wd613 : Cond.methodLink "VeilNations" (209 : Nat) ({ cls := "VeilNations$Rhythms", name := "at", desc := "(I)I" } : Jvm.MethodName) ∈ pg_T.2.1 := pg_wd (i := 613) (by decide +kernel)
theorem wd614 : Cond.instanceMethod ({ cls := "VeilNations$Rhythms", name := "at", desc := "(I)I" } : Jvm.MethodName) ∈ pg_T.2.1 := pg_wd (i := 614) (by decide +kernel)
theorem wd615 : Cond.selects "VeilNations$Rhythms" ({ cls := "VeilNations$Rhythms", name := "at", desc := "(I)I" } : Jvm.MethodName) ({ cls := "VeilNations$Rhythms", name := "at", desc := "(I)I" } : Jvm.MethodName) ∈ pg_T.2.1 := pg_wd (i := 615) (by decide +kernel)
theorem wd616 : Cond.code ({ cls := "VeilNations$Rhythms", name := "at", desc := "(I)I" } : Jvm.MethodName) prog_5_method_5_code (2 : Nat) (Option.some Jvm.ClassFile.FieldType.int) ∈ pg_T.2.1 := pg_wd (i := 616) (by decide +kernel)
theorem wd617 : Cond.methodLink "VeilNationsLaw" (96 : Nat) ({ cls := "VeilNations", name := "ask", desc := "(I)I" } : Jvm.MethodName) ∈ pg_T.2.1 := pg_wd (i := 617) (by decide +kernel)
theorem wd618 : Cond.instanceMethod ({ cls := "VeilNations", name := "ask", desc := "(I)I" } : Jvm.MethodName) ∈ pg_T.2.1 := pg_wd (i := 618) (by decide +kernel)
theorem wd619 : Cond.selects "VeilNations" ({ cls := "VeilNations", name := "ask", desc := "(I)I" } : Jvm.MethodName) ({ cls := "VeilNations", name := "ask", desc := "(I)I" } : Jvm.MethodName) ∈ pg_T.2.1 := pg_wd (i := 619) (by decide +kernel)
theorem wd620 : Cond.code ({ cls := "VeilNations", name := "ask", desc := "(I)I" } : Jvm.MethodName) prog_1_method_21_code (3 : Nat) (Option.some Jvm.ClassFile.FieldType.int) ∈ pg_T.2.1 := pg_wd (i := 620) (by decide +kernel)
theorem wd621 : Cond.methodLink "VeilNations" (212 : Nat) ({ cls := "VeilNations$Rhythms", name := "bestEvening", desc := "()I" } : Jvm.MethodName) ∈ pg_T.2.1 := pg_wd (i := 621) (by decide +kernel)
theorem wd622 : Cond.instanceMethod ({ cls := "VeilNations$Rhythms", name := "bestEvening", desc := "()I" } : Jvm.MethodName) ∈ pg_T.2.1 := pg_wd (i := 622) (by decide +kernel)
theorem wd623 : Cond.selects "VeilNations$Rhythms" ({ cls := "VeilNations$Rhythms", name := "bestEvening", desc := "()I" } : Jvm.MethodName) ({ cls := "VeilNations$Rhythms", name := "bestEvening", desc := "()I" } : Jvm.MethodName) ∈ pg_T.2.1 := pg_wd (i := 623) (by decide +kernel)
theorem wd624 : Cond.code ({ cls := "VeilNations$Rhythms", name := "bestEvening", desc := "()I" } : Jvm.MethodName) prog_5_method_6_code (5 : Nat) (Option.some Jvm.ClassFile.FieldType.int) ∈ pg_T.2.1 := pg_wd (i := 624) (by decide +kernel)
theorem wd625 : Cond.methodLink "VeilNations$Rhythms" (33 : Nat) ({ cls := "VeilNations$Rhythms", name := "leftAtMost", desc := "(I)I" } : Jvm.MethodName) ∈ pg_T.2.1 := pg_wd (i := 625) (by decide +kernel)
theorem wd626 : Cond.instanceMethod ({ cls := "VeilNations$Rhythms", name := "leftAtMost", desc := "(I)I" } : Jvm.MethodName) ∈ pg_T.2.1 := pg_wd (i := 626) (by decide +kernel)
theorem wd627 : Cond.selects "VeilNations$Rhythms" ({ cls := "VeilNations$Rhythms", name := "leftAtMost", desc := "(I)I" } : Jvm.MethodName) ({ cls := "VeilNations$Rhythms", name := "leftAtMost", desc := "(I)I" } : Jvm.MethodName) ∈ pg_T.2.1 := pg_wd (i := 627) (by decide +kernel)
theorem wd628 : Cond.code ({ cls := "VeilNations$Rhythms", name := "leftAtMost", desc := "(I)I" } : Jvm.MethodName) prog_5_method_7_code (4 : Nat) (Option.some Jvm.ClassFile.FieldType.int) ∈ pg_T.2.1 := pg_wd (i := 628) (by decide +kernel)
theorem wd629 : Cond.methodLink "VeilNations$Rhythms" (37 : Nat) ({ cls := "VeilNations$Rhythms", name := "isDown", desc := "(II)Z" } : Jvm.MethodName) ∈ pg_T.2.1 := pg_wd (i := 629) (by decide +kernel)
theorem wd630 : Cond.methodLink "VeilNations$Rhythms" (41 : Nat) ({ cls := "java/lang/Math", name := "max", desc := "(II)I" } : Jvm.MethodName) ∈ pg_T.2.1 := pg_wd (i := 630) (by decide +kernel)
theorem wd631 : Cond.methodLink "VeilNations" (215 : Nat) ({ cls := "VeilNations$Rhythms", name := "leftAtMost", desc := "(I)I" } : Jvm.MethodName) ∈ pg_T.2.1 := pg_wd (i := 631) (by decide +kernel)
theorem wd632 : Cond.methodLink "VeilNationsLaw" (100 : Nat) ({ cls := "VeilNations", name := "lift", desc := "(I)I" } : Jvm.MethodName) ∈ pg_T.2.1 := pg_wd (i := 632) (by decide +kernel)
theorem wd633 : Cond.instanceMethod ({ cls := "VeilNations", name := "lift", desc := "(I)I" } : Jvm.MethodName) ∈ pg_T.2.1 := pg_wd (i := 633) (by decide +kernel)
theorem wd634 : Cond.selects "VeilNations" ({ cls := "VeilNations", name := "lift", desc := "(I)I" } : Jvm.MethodName) ({ cls := "VeilNations", name := "lift", desc := "(I)I" } : Jvm.MethodName) ∈ pg_T.2.1 := pg_wd (i := 634) (by decide +kernel)
theorem wd635 : Cond.code ({ cls := "VeilNations", name := "lift", desc := "(I)I" } : Jvm.MethodName) prog_1_method_22_code (3 : Nat) (Option.some Jvm.ClassFile.FieldType.int) ∈ pg_T.2.1 := pg_wd (i := 635) (by decide +kernel)
theorem wd636 : Cond.methodLink "VeilNations" (221 : Nat) ({ cls := "VeilNations", name := "winningLift", desc := "(I)I" } : Jvm.MethodName) ∈ pg_T.2.1 := pg_wd (i := 636) (by decide +kernel)
theorem wd637 : Cond.static ({ cls := "VeilNations", name := "winningLift", desc := "(I)I" } : Jvm.MethodName) ∈ pg_T.2.1 := pg_wd (i := 637) (by decide +kernel)
theorem wd638 : Cond.code ({ cls := "VeilNations", name := "winningLift", desc := "(I)I" } : Jvm.MethodName) prog_1_method_31_code (5 : Nat) (Option.some Jvm.ClassFile.FieldType.int) ∈ pg_T.2.1 := pg_wd (i := 638) (by decide +kernel)
theorem wd639 : Cond.methodLink "VeilNations" (266 : Nat) ({ cls := "VeilNations", name := "has", desc := "(II)Z" } : Jvm.MethodName) ∈ pg_T.2.1 := pg_wd (i := 639) (by decide +kernel)
theorem wd640 : Cond.methodLink "VeilNationsLaw" (104 : Nat) ({ cls := "VeilNations", name := "votes", desc := "(IIII)J" } : Jvm.MethodName) ∈ pg_T.2.1 := pg_wd (i := 640) (by decide +kernel)
theorem wd641 : Cond.instanceMethod ({ cls := "VeilNations", name := "votes", desc := "(IIII)J" } : Jvm.MethodName) ∈ pg_T.2.1 := pg_wd (i := 641) (by decide +kernel)
theorem wd642 : Cond.selects "VeilNations" ({ cls := "VeilNations", name := "votes", desc := "(IIII)J" } : Jvm.MethodName) ({ cls := "VeilNations", name := "votes", desc := "(IIII)J" } : Jvm.MethodName) ∈ pg_T.2.1 := pg_wd (i := 642) (by decide +kernel)
theorem wd643 : Cond.code ({ cls := "VeilNations", name := "votes", desc := "(IIII)J" } : Jvm.MethodName) prog_1_method_23_code (7 : Nat) (Option.some Jvm.ClassFile.FieldType.long) ∈ pg_T.2.1 := pg_wd (i := 643) (by decide +kernel)
theorem wd644 : Cond.constantLong "VeilNations" (224 : Nat) (-1000000000000000002 : Int64) ∈ pg_T.2.1 := pg_wd (i := 644) (by decide +kernel)
theorem wd645 : Cond.methodLink "VeilNations" (226 : Nat) ({ cls := "java/lang/Math", name := "max", desc := "(II)I" } : Jvm.MethodName) ∈ pg_T.2.1 := pg_wd (i := 645) (by decide +kernel)
theorem wd646 : Cond.methodLink "VeilNations" (232 : Nat) ({ cls := "VeilNations", name := "inLowestTerms", desc := "(III)I" } : Jvm.MethodName) ∈ pg_T.2.1 := pg_wd (i := 646) (by decide +kernel)
theorem wd647 : Cond.static ({ cls := "VeilNations", name := "inLowestTerms", desc := "(III)I" } : Jvm.MethodName) ∈ pg_T.2.1 := pg_wd (i := 647) (by decide +kernel)
theorem wd648 : Cond.code ({ cls := "VeilNations", name := "inLowestTerms", desc := "(III)I" } : Jvm.MethodName) prog_1_method_32_code (5 : Nat) (Option.some Jvm.ClassFile.FieldType.int) ∈ pg_T.2.1 := pg_wd (i := 648) (by decide +kernel)
theorem wd649 : Cond.methodLink "VeilNationsLaw" (109 : Nat) ({ cls := "VeilNations", name := "year", desc := "(III)I" } : Jvm.MethodName) ∈ pg_T.2.1 := pg_wd (i := 649) (by decide +kernel)
theorem wd650 : Cond.instanceMethod ({ cls := "VeilNations", name := "year", desc := "(III)I" } : Jvm.MethodName) ∈ pg_T.2.1 := pg_wd (i := 650) (by decide +kernel)
theorem wd651 : Cond.selects "VeilNations" ({ cls := "VeilNations", name := "year", desc := "(III)I" } : Jvm.MethodName) ({ cls := "VeilNations", name := "year", desc := "(III)I" } : Jvm.MethodName) ∈ pg_T.2.1 := pg_wd (i := 651) (by decide +kernel)
theorem wd652 : Cond.code ({ cls := "VeilNations", name := "year", desc := "(III)I" } : Jvm.MethodName) prog_1_method_24_code (6 : Nat) (Option.some Jvm.ClassFile.FieldType.int) ∈ pg_T.2.1 := pg_wd (i := 652) (by decide +kernel)
theorem wd653 : Cond.constant "VeilNations" (235 : Nat) (65537 : Int32) ∈ pg_T.2.1 := pg_wd (i := 653) (by decide +kernel)
theorem wd654 : Cond.methodLink "VeilNations" (236 : Nat) ({ cls := "VeilNations", name := "actAsDrawn", desc := "(LVeilNations$World;I)V" } : Jvm.MethodName) ∈ pg_T.2.1 := pg_wd (i := 654) (by decide +kernel)
theorem wd655 : Cond.static ({ cls := "VeilNations", name := "actAsDrawn", desc := "(LVeilNations$World;I)V" } : Jvm.MethodName) ∈ pg_T.2.1 := pg_wd (i := 655) (by decide +kernel)
theorem wd656 : Cond.code ({ cls := "VeilNations", name := "actAsDrawn", desc := "(LVeilNations$World;I)V" } : Jvm.MethodName) prog_1_method_30_code (6 : Nat) (Option.none : Option Jvm.ClassFile.FieldType) ∈ pg_T.2.1 := pg_wd (i := 656) (by decide +kernel)
theorem wd657 : Cond.methodLink "VeilNations" (260 : Nat) ({ cls := "VeilNations$World", name := "whyNot", desc := "(III)I" } : Jvm.MethodName) ∈ pg_T.2.1 := pg_wd (i := 657) (by decide +kernel)
theorem wd658 : Cond.methodLink "VeilNations" (263 : Nat) ({ cls := "VeilNations$World", name := "act", desc := "(III)I" } : Jvm.MethodName) ∈ pg_T.2.1 := pg_wd (i := 658) (by decide +kernel)
theorem wd659 : Cond.methodLink "VeilNationsLaw" (113 : Nat) ({ cls := "VeilNations", name := "image", desc := "(I)I" } : Jvm.MethodName) ∈ pg_T.2.1 := pg_wd (i := 659) (by decide +kernel)
theorem wd660 : Cond.instanceMethod ({ cls := "VeilNations", name := "image", desc := "(I)I" } : Jvm.MethodName) ∈ pg_T.2.1 := pg_wd (i := 660) (by decide +kernel)
theorem wd661 : Cond.selects "VeilNations" ({ cls := "VeilNations", name := "image", desc := "(I)I" } : Jvm.MethodName) ({ cls := "VeilNations", name := "image", desc := "(I)I" } : Jvm.MethodName) ∈ pg_T.2.1 := pg_wd (i := 661) (by decide +kernel)
theorem wd662 : Cond.code ({ cls := "VeilNations", name := "image", desc := "(I)I" } : Jvm.MethodName) prog_1_method_25_code (3 : Nat) (Option.some Jvm.ClassFile.FieldType.int) ∈ pg_T.2.1 := pg_wd (i := 662) (by decide +kernel)
theorem wd663 : Cond.methodLink "VeilNations" (240 : Nat) ({ cls := "VeilNations$Whole", name := "copy", desc := "(LVeilNations$Whole;)V" } : Jvm.MethodName) ∈ pg_T.2.1 := pg_wd (i := 663) (by decide +kernel)
theorem wd664 : Cond.instanceMethod ({ cls := "VeilNations$Whole", name := "copy", desc := "(LVeilNations$Whole;)V" } : Jvm.MethodName) ∈ pg_T.2.1 := pg_wd (i := 664) (by decide +kernel)
theorem wd665 : Cond.selects "VeilNations$Whole" ({ cls := "VeilNations$Whole", name := "copy", desc := "(LVeilNations$Whole;)V" } : Jvm.MethodName) ({ cls := "VeilNations$Whole", name := "copy", desc := "(LVeilNations$Whole;)V" } : Jvm.MethodName) ∈ pg_T.2.1 := pg_wd (i := 665) (by decide +kernel)
theorem wd666 : Cond.code ({ cls := "VeilNations$Whole", name := "copy", desc := "(LVeilNations$Whole;)V" } : Jvm.MethodName) prog_8_method_2_code (2 : Nat) (Option.none : Option Jvm.ClassFile.FieldType) ∈ pg_T.2.1 := pg_wd (i := 666) (by decide +kernel)
theorem wd667 : Cond.methodLink "VeilNations$Whole" (30 : Nat) ({ cls := "VeilNations$World", name := "copy", desc := "(LVeilNations$World;)V" } : Jvm.MethodName) ∈ pg_T.2.1 := pg_wd (i := 667) (by decide +kernel)
theorem wd668 : Cond.methodLink "VeilNations$Whole" (34 : Nat) ({ cls := "VeilNations$Calls", name := "copy", desc := "(LVeilNations$Calls;)V" } : Jvm.MethodName) ∈ pg_T.2.1 := pg_wd (i := 668) (by decide +kernel)
theorem wd669 : Cond.instanceMethod ({ cls := "VeilNations$Calls", name := "copy", desc := "(LVeilNations$Calls;)V" } : Jvm.MethodName) ∈ pg_T.2.1 := pg_wd (i := 669) (by decide +kernel)
theorem wd670 : Cond.selects "VeilNations$Calls" ({ cls := "VeilNations$Calls", name := "copy", desc := "(LVeilNations$Calls;)V" } : Jvm.MethodName) ({ cls := "VeilNations$Calls", name := "copy", desc := "(LVeilNations$Calls;)V" } : Jvm.MethodName) ∈ pg_T.2.1 := pg_wd (i := 670) (by decide +kernel)
theorem wd671 : Cond.code ({ cls := "VeilNations$Calls", name := "copy", desc := "(LVeilNations$Calls;)V" } : Jvm.MethodName) prog_2_method_2_code (3 : Nat) (Option.none : Option Jvm.ClassFile.FieldType) ∈ pg_T.2.1 := pg_wd (i := 671) (by decide +kernel)
theorem wd672 : Cond.methodLink "VeilNations$Whole" (37 : Nat) ({ cls := "VeilNations$Sights", name := "copy", desc := "(LVeilNations$Sights;)V" } : Jvm.MethodName) ∈ pg_T.2.1 := pg_wd (i := 672) (by decide +kernel)
theorem wd673 : Cond.instanceMethod ({ cls := "VeilNations$Sights", name := "copy", desc := "(LVeilNations$Sights;)V" } : Jvm.MethodName) ∈ pg_T.2.1 := pg_wd (i := 673) (by decide +kernel)
theorem wd674 : Cond.selects "VeilNations$Sights" ({ cls := "VeilNations$Sights", name := "copy", desc := "(LVeilNations$Sights;)V" } : Jvm.MethodName) ({ cls := "VeilNations$Sights", name := "copy", desc := "(LVeilNations$Sights;)V" } : Jvm.MethodName) ∈ pg_T.2.1 := pg_wd (i := 674) (by decide +kernel)
theorem wd675 : Cond.code ({ cls := "VeilNations$Sights", name := "copy", desc := "(LVeilNations$Sights;)V" } : Jvm.MethodName) prog_6_method_2_code (3 : Nat) (Option.none : Option Jvm.ClassFile.FieldType) ∈ pg_T.2.1 := pg_wd (i := 675) (by decide +kernel)
theorem wd676 : Cond.methodLink "VeilNationsLaw" (117 : Nat) ({ cls := "VeilNations", name := "restore", desc := "(I)I" } : Jvm.MethodName) ∈ pg_T.2.1 := pg_wd (i := 676) (by decide +kernel)
theorem wd677 : Cond.instanceMethod ({ cls := "VeilNations", name := "restore", desc := "(I)I" } : Jvm.MethodName) ∈ pg_T.2.1 := pg_wd (i := 677) (by decide +kernel)
theorem wd678 : Cond.selects "VeilNations" ({ cls := "VeilNations", name := "restore", desc := "(I)I" } : Jvm.MethodName) ({ cls := "VeilNations", name := "restore", desc := "(I)I" } : Jvm.MethodName) ∈ pg_T.2.1 := pg_wd (i := 678) (by decide +kernel)
theorem wd679 : Cond.code ({ cls := "VeilNations", name := "restore", desc := "(I)I" } : Jvm.MethodName) prog_1_method_26_code (3 : Nat) (Option.some Jvm.ClassFile.FieldType.int) ∈ pg_T.2.1 := pg_wd (i := 679) (by decide +kernel)
theorem wd680 : Cond.methodLink "VeilNationsLaw" (121 : Nat) ({ cls := "VeilNations", name := "told", desc := "(I)I" } : Jvm.MethodName) ∈ pg_T.2.1 := pg_wd (i := 680) (by decide +kernel)
theorem wd681 : Cond.instanceMethod ({ cls := "VeilNations", name := "told", desc := "(I)I" } : Jvm.MethodName) ∈ pg_T.2.1 := pg_wd (i := 681) (by decide +kernel)
theorem wd682 : Cond.selects "VeilNations" ({ cls := "VeilNations", name := "told", desc := "(I)I" } : Jvm.MethodName) ({ cls := "VeilNations", name := "told", desc := "(I)I" } : Jvm.MethodName) ∈ pg_T.2.1 := pg_wd (i := 682) (by decide +kernel)
theorem wd683 : Cond.code ({ cls := "VeilNations", name := "told", desc := "(I)I" } : Jvm.MethodName) prog_1_method_27_code (2 : Nat) (Option.some Jvm.ClassFile.FieldType.int) ∈ pg_T.2.1 := pg_wd (i := 683) (by decide +kernel)
theorem wd684 : Cond.methodLink "VeilNations" (247 : Nat) ({ cls := "VeilNations$World", name := "friendsOf", desc := "(I)I" } : Jvm.MethodName) ∈ pg_T.2.1 := pg_wd (i := 684) (by decide +kernel)
theorem wd685 : Cond.methodLink "VeilNations" (250 : Nat) ({ cls := "VeilNations", name := "toldOfOne", desc := "(II)I" } : Jvm.MethodName) ∈ pg_T.2.1 := pg_wd (i := 685) (by decide +kernel)
theorem wd687 : Cond.instanceMethod ({ cls := "VeilNations", name := "toldOfOne", desc := "(II)I" } : Jvm.MethodName) ∈ pg_T.2.1 := pg_wd (i := 687) (by decide +kernel)
theorem wd688 : Cond.code ({ cls := "VeilNations", name := "toldOfOne", desc := "(II)I" } : Jvm.MethodName) prog_1_method_28_code (3 : Nat) (Option.some Jvm.ClassFile.FieldType.int) ∈ pg_T.2.1 := pg_wd (i := 688) (by decide +kernel)
theorem wd689 : Cond.methodLink "VeilNations" (253 : Nat) ({ cls := "VeilNations$World", name := "meshOf", desc := "(I)I" } : Jvm.MethodName) ∈ pg_T.2.1 := pg_wd (i := 689) (by decide +kernel)
theorem wd690 : Cond.instanceMethod ({ cls := "VeilNations$World", name := "meshOf", desc := "(I)I" } : Jvm.MethodName) ∈ pg_T.2.1 := pg_wd (i := 690) (by decide +kernel)
theorem wd691 : Cond.selects "VeilNations$World" ({ cls := "VeilNations$World", name := "meshOf", desc := "(I)I" } : Jvm.MethodName) ({ cls := "VeilNations$World", name := "meshOf", desc := "(I)I" } : Jvm.MethodName) ∈ pg_T.2.1 := pg_wd (i := 691) (by decide +kernel)
theorem wd692 : Cond.code ({ cls := "VeilNations$World", name := "meshOf", desc := "(I)I" } : Jvm.MethodName) prog_9_method_6_code (2 : Nat) (Option.some Jvm.ClassFile.FieldType.int) ∈ pg_T.2.1 := pg_wd (i := 692) (by decide +kernel)
theorem wd693 : Cond.classLink "VeilNationsLaw" (10 : Nat) "VeilNationsModel" ∈ pg_T.2.1 := pg_wd (i := 693) (by decide +kernel)
theorem wd694 : Cond.instantiable "VeilNationsModel" (34 : Nat) ∈ pg_T.2.1 := pg_wd (i := 694) (by decide +kernel)
theorem wd695 : Cond.methodLink "VeilNationsLaw" (12 : Nat) ({ cls := "VeilNationsModel", name := "<init>", desc := "()V" } : Jvm.MethodName) ∈ pg_T.2.1 := pg_wd (i := 695) (by decide +kernel)
theorem wd696 : Cond.instanceMethod ({ cls := "VeilNationsModel", name := "<init>", desc := "()V" } : Jvm.MethodName) ∈ pg_T.2.1 := pg_wd (i := 696) (by decide +kernel)
theorem wd697 : Cond.code ({ cls := "VeilNationsModel", name := "<init>", desc := "()V" } : Jvm.MethodName) prog_11_method_1_code (2 : Nat) (Option.none : Option Jvm.ClassFile.FieldType) ∈ pg_T.2.1 := pg_wd (i := 697) (by decide +kernel)
theorem wd698 : Cond.methodLink "VeilNationsModel" (1 : Nat) ({ cls := "java/lang/Object", name := "<init>", desc := "()V" } : Jvm.MethodName) ∈ pg_T.2.1 := pg_wd (i := 698) (by decide +kernel)
theorem wd699 : Cond.fieldLink "VeilNationsModel" (7 : Nat) "VeilNationsModel" "nation" "[I" ∈ pg_T.2.1 := pg_wd (i := 699) (by decide +kernel)
theorem wd700 : Cond.fieldLink "VeilNationsModel" (13 : Nat) "VeilNationsModel" "mesh" "[I" ∈ pg_T.2.1 := pg_wd (i := 700) (by decide +kernel)
theorem wd701 : Cond.fieldLink "VeilNationsModel" (16 : Nat) "VeilNationsModel" "tears" "[I" ∈ pg_T.2.1 := pg_wd (i := 701) (by decide +kernel)
theorem wd702 : Cond.fieldLink "VeilNationsModel" (19 : Nat) "VeilNationsModel" "treaties" "[I" ∈ pg_T.2.1 := pg_wd (i := 702) (by decide +kernel)
theorem wd703 : Cond.fieldLink "VeilNationsModel" (93 : Nat) "VeilNationsModel" "veiled" "I" ∈ pg_T.2.1 := pg_wd (i := 703) (by decide +kernel)
theorem wd704 : Cond.fieldLink "VeilNationsModel" (75 : Nat) "VeilNationsModel" "hair" "I" ∈ pg_T.2.1 := pg_wd (i := 704) (by decide +kernel)
theorem wd705 : Cond.fieldLink "VeilNationsModel" (157 : Nat) "VeilNationsModel" "days" "I" ∈ pg_T.2.1 := pg_wd (i := 705) (by decide +kernel)
theorem wd706 : Cond.fieldLink "VeilNationsModel" (22 : Nat) "VeilNationsModel" "length" "[I" ∈ pg_T.2.1 := pg_wd (i := 706) (by decide +kernel)
theorem wd707 : Cond.fieldLink "VeilNationsModel" (25 : Nat) "VeilNationsModel" "dueAt" "[I" ∈ pg_T.2.1 := pg_wd (i := 707) (by decide +kernel)
theorem wd708 : Cond.fieldLink "VeilNationsModel" (28 : Nat) "VeilNationsModel" "sightEvening" "[I" ∈ pg_T.2.1 := pg_wd (i := 708) (by decide +kernel)
theorem wd709 : Cond.fieldLink "VeilNationsModel" (31 : Nat) "VeilNationsModel" "sightDown" "[I" ∈ pg_T.2.1 := pg_wd (i := 709) (by decide +kernel)
theorem wd710 : Cond.fieldLink "VeilNationsModel" (265 : Nat) "VeilNationsModel" "sights" "I" ∈ pg_T.2.1 := pg_wd (i := 710) (by decide +kernel)
theorem wd711 : Cond.fieldLink "VeilNationsModel" (34 : Nat) "VeilNationsModel" "pad" "[I" ∈ pg_T.2.1 := pg_wd (i := 711) (by decide +kernel)
theorem wd712 : Cond.fieldLink "VeilNationsModel" (120 : Nat) "VeilNationsModel" "padMany" "I" ∈ pg_T.2.1 := pg_wd (i := 712) (by decide +kernel)
theorem wd713 : Cond.fieldLink "VeilNationsModel" (37 : Nat) "VeilNationsModel" "act" "[I" ∈ pg_T.2.1 := pg_wd (i := 713) (by decide +kernel)
theorem wd714 : Cond.fieldLink "VeilNationsModel" (40 : Nat) "VeilNationsModel" "who" "[I" ∈ pg_T.2.1 := pg_wd (i := 714) (by decide +kernel)
theorem wd715 : Cond.fieldLink "VeilNationsModel" (43 : Nat) "VeilNationsModel" "whom" "[I" ∈ pg_T.2.1 := pg_wd (i := 715) (by decide +kernel)
theorem wd716 : Cond.fieldLink "VeilNationsModel" (123 : Nat) "VeilNationsModel" "acts" "I" ∈ pg_T.2.1 := pg_wd (i := 716) (by decide +kernel)
theorem wd717 : Cond.fieldLink "VeilNationsModel" (46 : Nat) "VeilNationsModel" "then" "[I" ∈ pg_T.2.1 := pg_wd (i := 717) (by decide +kernel)
theorem wd718 : Cond.fieldLink "VeilNationsModel" (49 : Nat) "VeilNationsModel" "had" "[I" ∈ pg_T.2.1 := pg_wd (i := 718) (by decide +kernel)
theorem wd719 : Cond.fieldLink "VeilNationsModel" (190 : Nat) "VeilNationsModel" "badAct" "I" ∈ pg_T.2.1 := pg_wd (i := 719) (by decide +kernel)
theorem wd720 : Cond.fieldLink "VeilNationsModel" (193 : Nat) "VeilNationsModel" "badWhy" "I" ∈ pg_T.2.1 := pg_wd (i := 720) (by decide +kernel)
theorem wd721 : Cond.fieldLink "VeilNationsModel" (181 : Nat) "VeilNationsModel" "annexedMany" "I" ∈ pg_T.2.1 := pg_wd (i := 721) (by decide +kernel)
theorem wd722 : Cond.fieldLink "VeilNationsModel" (184 : Nat) "VeilNationsModel" "annexedAct" "I" ∈ pg_T.2.1 := pg_wd (i := 722) (by decide +kernel)
theorem wd723 : Cond.fieldLink "VeilNationsModel" (187 : Nat) "VeilNationsModel" "annexedWho" "I" ∈ pg_T.2.1 := pg_wd (i := 723) (by decide +kernel)
theorem wd724 : Cond.fieldLink "VeilNationsModel" (52 : Nat) "VeilNationsModel" "were" "[I" ∈ pg_T.2.1 := pg_wd (i := 724) (by decide +kernel)
theorem wd725 : Cond.fieldLink "VeilNationsModel" (55 : Nat) "VeilNationsModel" "fewest" "[I" ∈ pg_T.2.1 := pg_wd (i := 725) (by decide +kernel)
theorem wd726 : Cond.fieldLink "VeilNationsModel" (58 : Nat) "VeilNationsModel" "wins" "[Z" ∈ pg_T.2.1 := pg_wd (i := 726) (by decide +kernel)
theorem wd727 : Cond.fieldLink "VeilNationsModel" (62 : Nat) "VeilNationsModel" "orders" "[J" ∈ pg_T.2.1 := pg_wd (i := 727) (by decide +kernel)
theorem wd728 : Cond.fieldLink "VeilNationsModel" (66 : Nat) "VeilNationsModel" "good" "[J" ∈ pg_T.2.1 := pg_wd (i := 728) (by decide +kernel)
theorem wd729 : Cond.fieldLink "VeilNationsModel" (69 : Nat) "VeilNationsModel" "kept" "[I" ∈ pg_T.2.1 := pg_wd (i := 729) (by decide +kernel)
theorem wd730 : Cond.fieldLink "VeilNationsModel" (72 : Nat) "VeilNationsModel" "isKept" "[Z" ∈ pg_T.2.1 := pg_wd (i := 730) (by decide +kernel)
theorem wd731 : Cond.fieldLink "VeilNationsModel" (305 : Nat) "VeilNationsModel" "keptAt" "I" ∈ pg_T.2.1 := pg_wd (i := 731) (by decide +kernel)
theorem wd732 : Cond.fieldLink "VeilNationsModel" (301 : Nat) "VeilNationsModel" "isWriting" "Z" ∈ pg_T.2.1 := pg_wd (i := 732) (by decide +kernel)
theorem wd733 : Cond.laysFinal "VeilNationsModel" "VeilNationsModel" "nation" "[I" ∈ pg_T.2.1 := pg_wd (i := 733) (by decide +kernel)
theorem wd735 : Cond.laysFinal "VeilNationsModel" "VeilNationsModel" "mesh" "[I" ∈ pg_T.2.1 := pg_wd (i := 735) (by decide +kernel)
theorem wd737 : Cond.laysFinal "VeilNationsModel" "VeilNationsModel" "tears" "[I" ∈ pg_T.2.1 := pg_wd (i := 737) (by decide +kernel)
theorem wd739 : Cond.laysFinal "VeilNationsModel" "VeilNationsModel" "treaties" "[I" ∈ pg_T.2.1 := pg_wd (i := 739) (by decide +kernel)
theorem wd741 : Cond.lays "VeilNationsModel" "VeilNationsModel" "veiled" "I" ∈ pg_T.2.1 := pg_wd (i := 741) (by decide +kernel)
theorem wd743 : Cond.lays "VeilNationsModel" "VeilNationsModel" "hair" "I" ∈ pg_T.2.1 := pg_wd (i := 743) (by decide +kernel)
theorem wd745 : Cond.lays "VeilNationsModel" "VeilNationsModel" "days" "I" ∈ pg_T.2.1 := pg_wd (i := 745) (by decide +kernel)
theorem wd747 : Cond.laysFinal "VeilNationsModel" "VeilNationsModel" "length" "[I" ∈ pg_T.2.1 := pg_wd (i := 747) (by decide +kernel)
theorem wd749 : Cond.laysFinal "VeilNationsModel" "VeilNationsModel" "dueAt" "[I" ∈ pg_T.2.1 := pg_wd (i := 749) (by decide +kernel)
theorem wd751 : Cond.laysFinal "VeilNationsModel" "VeilNationsModel" "sightEvening" "[I" ∈ pg_T.2.1 := pg_wd (i := 751) (by decide +kernel)
theorem wd753 : Cond.laysFinal "VeilNationsModel" "VeilNationsModel" "sightDown" "[I" ∈ pg_T.2.1 := pg_wd (i := 753) (by decide +kernel)
theorem wd755 : Cond.lays "VeilNationsModel" "VeilNationsModel" "sights" "I" ∈ pg_T.2.1 := pg_wd (i := 755) (by decide +kernel)
theorem wd757 : Cond.laysFinal "VeilNationsModel" "VeilNationsModel" "pad" "[I" ∈ pg_T.2.1 := pg_wd (i := 757) (by decide +kernel)
theorem wd759 : Cond.lays "VeilNationsModel" "VeilNationsModel" "padMany" "I" ∈ pg_T.2.1 := pg_wd (i := 759) (by decide +kernel)
theorem wd761 : Cond.laysFinal "VeilNationsModel" "VeilNationsModel" "act" "[I" ∈ pg_T.2.1 := pg_wd (i := 761) (by decide +kernel)
theorem wd763 : Cond.laysFinal "VeilNationsModel" "VeilNationsModel" "who" "[I" ∈ pg_T.2.1 := pg_wd (i := 763) (by decide +kernel)
theorem wd765 : Cond.laysFinal "VeilNationsModel" "VeilNationsModel" "whom" "[I" ∈ pg_T.2.1 := pg_wd (i := 765) (by decide +kernel)
theorem wd767 : Cond.lays "VeilNationsModel" "VeilNationsModel" "acts" "I" ∈ pg_T.2.1 := pg_wd (i := 767) (by decide +kernel)
theorem wd769 : Cond.laysFinal "VeilNationsModel" "VeilNationsModel" "then" "[I" ∈ pg_T.2.1 := pg_wd (i := 769) (by decide +kernel)
theorem wd771 : Cond.laysFinal "VeilNationsModel" "VeilNationsModel" "had" "[I" ∈ pg_T.2.1 := pg_wd (i := 771) (by decide +kernel)
theorem wd773 : Cond.lays "VeilNationsModel" "VeilNationsModel" "badAct" "I" ∈ pg_T.2.1 := pg_wd (i := 773) (by decide +kernel)
theorem wd775 : Cond.lays "VeilNationsModel" "VeilNationsModel" "badWhy" "I" ∈ pg_T.2.1 := pg_wd (i := 775) (by decide +kernel)
theorem wd777 : Cond.lays "VeilNationsModel" "VeilNationsModel" "annexedMany" "I" ∈ pg_T.2.1 := pg_wd (i := 777) (by decide +kernel)
theorem wd779 : Cond.lays "VeilNationsModel" "VeilNationsModel" "annexedAct" "I" ∈ pg_T.2.1 := pg_wd (i := 779) (by decide +kernel)
theorem wd781 : Cond.lays "VeilNationsModel" "VeilNationsModel" "annexedWho" "I" ∈ pg_T.2.1 := pg_wd (i := 781) (by decide +kernel)
theorem wd783 : Cond.laysFinal "VeilNationsModel" "VeilNationsModel" "were" "[I" ∈ pg_T.2.1 := pg_wd (i := 783) (by decide +kernel)
theorem wd785 : Cond.laysFinal "VeilNationsModel" "VeilNationsModel" "fewest" "[I" ∈ pg_T.2.1 := pg_wd (i := 785) (by decide +kernel)
theorem wd787 : Cond.laysFinal "VeilNationsModel" "VeilNationsModel" "wins" "[Z" ∈ pg_T.2.1 := pg_wd (i := 787) (by decide +kernel)
theorem wd789 : Cond.laysFinal "VeilNationsModel" "VeilNationsModel" "orders" "[J" ∈ pg_T.2.1 := pg_wd (i := 789) (by decide +kernel)
theorem wd791 : Cond.laysFinal "VeilNationsModel" "VeilNationsModel" "good" "[J" ∈ pg_T.2.1 := pg_wd (i := 791) (by decide +kernel)
theorem wd793 : Cond.laysFinal "VeilNationsModel" "VeilNationsModel" "kept" "[I" ∈ pg_T.2.1 := pg_wd (i := 793) (by decide +kernel)
theorem wd795 : Cond.laysFinal "VeilNationsModel" "VeilNationsModel" "isKept" "[Z" ∈ pg_T.2.1 := pg_wd (i := 795) (by decide +kernel)
theorem wd797 : Cond.lays "VeilNationsModel" "VeilNationsModel" "keptAt" "I" ∈ pg_T.2.1 := pg_wd (i := 797) (by decide +kernel)
theorem wd799 : Cond.lays "VeilNationsModel" "VeilNationsModel" "isWriting" "Z" ∈ pg_T.2.1 := pg_wd (i := 799) (by decide +kernel)
theorem wd802 : Cond.arrayClass Jvm.ClassFile.FieldType.boolean ∈ pg_T.2.1 := pg_wd (i := 802) (by decide +kernel)
theorem wd803 : Cond.arrayClass Jvm.ClassFile.FieldType.long ∈ pg_T.2.1 := pg_wd (i := 803) (by decide +kernel)
theorem wd804 : Cond.methodLink "VeilNationsLaw" (17 : Nat) ({ cls := "VeilNationsModel", name := "one", desc := "(IIIII)I" } : Jvm.MethodName) ∈ pg_T.2.1 := pg_wd (i := 804) (by decide +kernel)
theorem wd805 : Cond.instanceMethod ({ cls := "VeilNationsModel", name := "one", desc := "(IIIII)I" } : Jvm.MethodName) ∈ pg_T.2.1 := pg_wd (i := 805) (by decide +kernel)
theorem wd806 : Cond.selects "VeilNationsModel" ({ cls := "VeilNationsModel", name := "one", desc := "(IIIII)I" } : Jvm.MethodName) ({ cls := "VeilNationsModel", name := "one", desc := "(IIIII)I" } : Jvm.MethodName) ∈ pg_T.2.1 := pg_wd (i := 806) (by decide +kernel)
theorem wd807 : Cond.code ({ cls := "VeilNationsModel", name := "one", desc := "(IIIII)I" } : Jvm.MethodName) prog_11_method_8_code (7 : Nat) (Option.some Jvm.ClassFile.FieldType.int) ∈ pg_T.2.1 := pg_wd (i := 807) (by decide +kernel)
theorem wd808 : Cond.methodLink "VeilNationsModel" (85 : Nat) ({ cls := "VeilNationsModel", name := "isOne", desc := "(I)Z" } : Jvm.MethodName) ∈ pg_T.2.1 := pg_wd (i := 808) (by decide +kernel)
theorem wd809 : Cond.static ({ cls := "VeilNationsModel", name := "isOne", desc := "(I)Z" } : Jvm.MethodName) ∈ pg_T.2.1 := pg_wd (i := 809) (by decide +kernel)
theorem wd810 : Cond.code ({ cls := "VeilNationsModel", name := "isOne", desc := "(I)Z" } : Jvm.MethodName) prog_11_method_5_code (1 : Nat) (Option.some Jvm.ClassFile.FieldType.boolean) ∈ pg_T.2.1 := pg_wd (i := 810) (by decide +kernel)
theorem wd811 : Cond.constantLong "VeilNationsModel" (79 : Nat) (7 : Int64) ∈ pg_T.2.1 := pg_wd (i := 811) (by decide +kernel)
theorem wd812 : Cond.methodLink "VeilNationsModel" (81 : Nat) ({ cls := "VeilNationsModel", name := "in", desc := "(JJJ)Z" } : Jvm.MethodName) ∈ pg_T.2.1 := pg_wd (i := 812) (by decide +kernel)
theorem wd813 : Cond.static ({ cls := "VeilNationsModel", name := "in", desc := "(JJJ)Z" } : Jvm.MethodName) ∈ pg_T.2.1 := pg_wd (i := 813) (by decide +kernel)
theorem wd814 : Cond.code ({ cls := "VeilNationsModel", name := "in", desc := "(JJJ)Z" } : Jvm.MethodName) prog_11_method_3_code (6 : Nat) (Option.some Jvm.ClassFile.FieldType.boolean) ∈ pg_T.2.1 := pg_wd (i := 814) (by decide +kernel)
theorem wd815 : Cond.constantLong "VeilNationsModel" (89 : Nat) (3 : Int64) ∈ pg_T.2.1 := pg_wd (i := 815) (by decide +kernel)
theorem wd816 : Cond.constantLong "VeilNationsModel" (91 : Nat) (9 : Int64) ∈ pg_T.2.1 := pg_wd (i := 816) (by decide +kernel)
theorem wd817 : Cond.methodLink "VeilNationsModel" (96 : Nat) ({ cls := "VeilNationsModel", name := "with", desc := "(IIZ)I" } : Jvm.MethodName) ∈ pg_T.2.1 := pg_wd (i := 817) (by decide +kernel)
theorem wd818 : Cond.static ({ cls := "VeilNationsModel", name := "with", desc := "(IIZ)I" } : Jvm.MethodName) ∈ pg_T.2.1 := pg_wd (i := 818) (by decide +kernel)
theorem wd819 : Cond.code ({ cls := "VeilNationsModel", name := "with", desc := "(IIZ)I" } : Jvm.MethodName) prog_11_method_7_code (3 : Nat) (Option.some Jvm.ClassFile.FieldType.int) ∈ pg_T.2.1 := pg_wd (i := 819) (by decide +kernel)
theorem wd820 : Cond.methodLink "VeilNationsLaw" (22 : Nat) ({ cls := "VeilNationsModel", name := "treaty", desc := "(IIZ)I" } : Jvm.MethodName) ∈ pg_T.2.1 := pg_wd (i := 820) (by decide +kernel)
theorem wd821 : Cond.instanceMethod ({ cls := "VeilNationsModel", name := "treaty", desc := "(IIZ)I" } : Jvm.MethodName) ∈ pg_T.2.1 := pg_wd (i := 821) (by decide +kernel)
theorem wd822 : Cond.selects "VeilNationsModel" ({ cls := "VeilNationsModel", name := "treaty", desc := "(IIZ)I" } : Jvm.MethodName) ({ cls := "VeilNationsModel", name := "treaty", desc := "(IIZ)I" } : Jvm.MethodName) ∈ pg_T.2.1 := pg_wd (i := 822) (by decide +kernel)
theorem wd823 : Cond.code ({ cls := "VeilNationsModel", name := "treaty", desc := "(IIZ)I" } : Jvm.MethodName) prog_11_method_11_code (4 : Nat) (Option.some Jvm.ClassFile.FieldType.int) ∈ pg_T.2.1 := pg_wd (i := 823) (by decide +kernel)
theorem wd824 : Cond.methodLink "VeilNationsModel" (104 : Nat) ({ cls := "VeilNationsModel", name := "agree", desc := "(IIZ)V" } : Jvm.MethodName) ∈ pg_T.2.1 := pg_wd (i := 824) (by decide +kernel)
theorem wd826 : Cond.instanceMethod ({ cls := "VeilNationsModel", name := "agree", desc := "(IIZ)V" } : Jvm.MethodName) ∈ pg_T.2.1 := pg_wd (i := 826) (by decide +kernel)
theorem wd827 : Cond.code ({ cls := "VeilNationsModel", name := "agree", desc := "(IIZ)V" } : Jvm.MethodName) prog_11_method_10_code (4 : Nat) (Option.none : Option Jvm.ClassFile.FieldType) ∈ pg_T.2.1 := pg_wd (i := 827) (by decide +kernel)
theorem wd828 : Cond.methodLink "VeilNationsModel" (108 : Nat) ({ cls := "VeilNationsModel", name := "treatyMany", desc := "()I" } : Jvm.MethodName) ∈ pg_T.2.1 := pg_wd (i := 828) (by decide +kernel)
theorem wd830 : Cond.instanceMethod ({ cls := "VeilNationsModel", name := "treatyMany", desc := "()I" } : Jvm.MethodName) ∈ pg_T.2.1 := pg_wd (i := 830) (by decide +kernel)
theorem wd831 : Cond.code ({ cls := "VeilNationsModel", name := "treatyMany", desc := "()I" } : Jvm.MethodName) prog_11_method_9_code (3 : Nat) (Option.some Jvm.ClassFile.FieldType.int) ∈ pg_T.2.1 := pg_wd (i := 831) (by decide +kernel)
theorem wd832 : Cond.methodLink "VeilNationsModel" (100 : Nat) ({ cls := "VeilNationsModel", name := "ones", desc := "(I)I" } : Jvm.MethodName) ∈ pg_T.2.1 := pg_wd (i := 832) (by decide +kernel)
theorem wd833 : Cond.static ({ cls := "VeilNationsModel", name := "ones", desc := "(I)I" } : Jvm.MethodName) ∈ pg_T.2.1 := pg_wd (i := 833) (by decide +kernel)
theorem wd834 : Cond.code ({ cls := "VeilNationsModel", name := "ones", desc := "(I)I" } : Jvm.MethodName) prog_11_method_4_code (3 : Nat) (Option.some Jvm.ClassFile.FieldType.int) ∈ pg_T.2.1 := pg_wd (i := 834) (by decide +kernel)
theorem wd835 : Cond.methodLink "VeilNationsLaw" (27 : Nat) ({ cls := "VeilNationsModel", name := "hair", desc := "(I)I" } : Jvm.MethodName) ∈ pg_T.2.1 := pg_wd (i := 835) (by decide +kernel)
theorem wd836 : Cond.instanceMethod ({ cls := "VeilNationsModel", name := "hair", desc := "(I)I" } : Jvm.MethodName) ∈ pg_T.2.1 := pg_wd (i := 836) (by decide +kernel)
theorem wd837 : Cond.selects "VeilNationsModel" ({ cls := "VeilNationsModel", name := "hair", desc := "(I)I" } : Jvm.MethodName) ({ cls := "VeilNationsModel", name := "hair", desc := "(I)I" } : Jvm.MethodName) ∈ pg_T.2.1 := pg_wd (i := 837) (by decide +kernel)
theorem wd838 : Cond.code ({ cls := "VeilNationsModel", name := "hair", desc := "(I)I" } : Jvm.MethodName) prog_11_method_12_code (3 : Nat) (Option.some Jvm.ClassFile.FieldType.int) ∈ pg_T.2.1 := pg_wd (i := 838) (by decide +kernel)
theorem wd839 : Cond.constantLong "VeilNationsModel" (112 : Nat) (99 : Int64) ∈ pg_T.2.1 := pg_wd (i := 839) (by decide +kernel)
theorem wd840 : Cond.methodLink "VeilNationsLaw" (32 : Nat) ({ cls := "VeilNationsModel", name := "pay", desc := "(III)I" } : Jvm.MethodName) ∈ pg_T.2.1 := pg_wd (i := 840) (by decide +kernel)
theorem wd841 : Cond.instanceMethod ({ cls := "VeilNationsModel", name := "pay", desc := "(III)I" } : Jvm.MethodName) ∈ pg_T.2.1 := pg_wd (i := 841) (by decide +kernel)
theorem wd842 : Cond.selects "VeilNationsModel" ({ cls := "VeilNationsModel", name := "pay", desc := "(III)I" } : Jvm.MethodName) ({ cls := "VeilNationsModel", name := "pay", desc := "(III)I" } : Jvm.MethodName) ∈ pg_T.2.1 := pg_wd (i := 842) (by decide +kernel)
theorem wd843 : Cond.code ({ cls := "VeilNationsModel", name := "pay", desc := "(III)I" } : Jvm.MethodName) prog_11_method_13_code (5 : Nat) (Option.some Jvm.ClassFile.FieldType.int) ∈ pg_T.2.1 := pg_wd (i := 843) (by decide +kernel)
theorem wd844 : Cond.constantLong "VeilNationsModel" (114 : Nat) (5 : Int64) ∈ pg_T.2.1 := pg_wd (i := 844) (by decide +kernel)
theorem wd845 : Cond.methodLink "VeilNationsLaw" (36 : Nat) ({ cls := "VeilNationsModel", name := "say", desc := "(I)I" } : Jvm.MethodName) ∈ pg_T.2.1 := pg_wd (i := 845) (by decide +kernel)
theorem wd846 : Cond.instanceMethod ({ cls := "VeilNationsModel", name := "say", desc := "(I)I" } : Jvm.MethodName) ∈ pg_T.2.1 := pg_wd (i := 846) (by decide +kernel)
theorem wd847 : Cond.selects "VeilNationsModel" ({ cls := "VeilNationsModel", name := "say", desc := "(I)I" } : Jvm.MethodName) ({ cls := "VeilNationsModel", name := "say", desc := "(I)I" } : Jvm.MethodName) ∈ pg_T.2.1 := pg_wd (i := 847) (by decide +kernel)
theorem wd848 : Cond.code ({ cls := "VeilNationsModel", name := "say", desc := "(I)I" } : Jvm.MethodName) prog_11_method_14_code (2 : Nat) (Option.some Jvm.ClassFile.FieldType.int) ∈ pg_T.2.1 := pg_wd (i := 848) (by decide +kernel)
theorem wd849 : Cond.constantLong "VeilNationsModel" (116 : Nat) (33 : Int64) ∈ pg_T.2.1 := pg_wd (i := 849) (by decide +kernel)
theorem wd850 : Cond.constantLong "VeilNationsModel" (118 : Nat) (126 : Int64) ∈ pg_T.2.1 := pg_wd (i := 850) (by decide +kernel)
theorem wd851 : Cond.methodLink "VeilNationsLaw" (41 : Nat) ({ cls := "VeilNationsModel", name := "wipe", desc := "()I" } : Jvm.MethodName) ∈ pg_T.2.1 := pg_wd (i := 851) (by decide +kernel)
theorem wd852 : Cond.instanceMethod ({ cls := "VeilNationsModel", name := "wipe", desc := "()I" } : Jvm.MethodName) ∈ pg_T.2.1 := pg_wd (i := 852) (by decide +kernel)
theorem wd853 : Cond.selects "VeilNationsModel" ({ cls := "VeilNationsModel", name := "wipe", desc := "()I" } : Jvm.MethodName) ({ cls := "VeilNationsModel", name := "wipe", desc := "()I" } : Jvm.MethodName) ∈ pg_T.2.1 := pg_wd (i := 853) (by decide +kernel)
theorem wd854 : Cond.code ({ cls := "VeilNationsModel", name := "wipe", desc := "()I" } : Jvm.MethodName) prog_11_method_15_code (2 : Nat) (Option.some Jvm.ClassFile.FieldType.int) ∈ pg_T.2.1 := pg_wd (i := 854) (by decide +kernel)
theorem wd855 : Cond.methodLink "VeilNationsLaw" (45 : Nat) ({ cls := "VeilNationsModel", name := "fault", desc := "()I" } : Jvm.MethodName) ∈ pg_T.2.1 := pg_wd (i := 855) (by decide +kernel)
theorem wd856 : Cond.instanceMethod ({ cls := "VeilNationsModel", name := "fault", desc := "()I" } : Jvm.MethodName) ∈ pg_T.2.1 := pg_wd (i := 856) (by decide +kernel)
theorem wd857 : Cond.selects "VeilNationsModel" ({ cls := "VeilNationsModel", name := "fault", desc := "()I" } : Jvm.MethodName) ({ cls := "VeilNationsModel", name := "fault", desc := "()I" } : Jvm.MethodName) ∈ pg_T.2.1 := pg_wd (i := 857) (by decide +kernel)
theorem wd858 : Cond.code ({ cls := "VeilNationsModel", name := "fault", desc := "()I" } : Jvm.MethodName) prog_11_method_21_code (3 : Nat) (Option.some Jvm.ClassFile.FieldType.int) ∈ pg_T.2.1 := pg_wd (i := 858) (by decide +kernel)
theorem wd859 : Cond.methodLink "VeilNationsModel" (147 : Nat) ({ cls := "VeilNationsModel", name := "readOn", desc := "(II)I" } : Jvm.MethodName) ∈ pg_T.2.1 := pg_wd (i := 859) (by decide +kernel)
theorem wd861 : Cond.instanceMethod ({ cls := "VeilNationsModel", name := "readOn", desc := "(II)I" } : Jvm.MethodName) ∈ pg_T.2.1 := pg_wd (i := 861) (by decide +kernel)
theorem wd862 : Cond.code ({ cls := "VeilNationsModel", name := "readOn", desc := "(II)I" } : Jvm.MethodName) prog_11_method_20_code (3 : Nat) (Option.some Jvm.ClassFile.FieldType.int) ∈ pg_T.2.1 := pg_wd (i := 862) (by decide +kernel)
theorem wd863 : Cond.methodLink "VeilNationsModel" (137 : Nat) ({ cls := "VeilNationsModel", name := "begin", desc := "(I)I" } : Jvm.MethodName) ∈ pg_T.2.1 := pg_wd (i := 863) (by decide +kernel)
theorem wd865 : Cond.instanceMethod ({ cls := "VeilNationsModel", name := "begin", desc := "(I)I" } : Jvm.MethodName) ∈ pg_T.2.1 := pg_wd (i := 865) (by decide +kernel)
theorem wd866 : Cond.code ({ cls := "VeilNationsModel", name := "begin", desc := "(I)I" } : Jvm.MethodName) prog_11_method_18_code (2 : Nat) (Option.some Jvm.ClassFile.FieldType.int) ∈ pg_T.2.1 := pg_wd (i := 866) (by decide +kernel)
theorem wd867 : Cond.methodLink "VeilNationsModel" (130 : Nat) ({ cls := "VeilNationsModel", name := "isLetter", desc := "(I)Z" } : Jvm.MethodName) ∈ pg_T.2.1 := pg_wd (i := 867) (by decide +kernel)
theorem wd868 : Cond.static ({ cls := "VeilNationsModel", name := "isLetter", desc := "(I)Z" } : Jvm.MethodName) ∈ pg_T.2.1 := pg_wd (i := 868) (by decide +kernel)
theorem wd869 : Cond.code ({ cls := "VeilNationsModel", name := "isLetter", desc := "(I)Z" } : Jvm.MethodName) prog_11_method_17_code (1 : Nat) (Option.some Jvm.ClassFile.FieldType.boolean) ∈ pg_T.2.1 := pg_wd (i := 869) (by decide +kernel)
theorem wd870 : Cond.constantLong "VeilNationsModel" (126 : Nat) (65 : Int64) ∈ pg_T.2.1 := pg_wd (i := 870) (by decide +kernel)
theorem wd871 : Cond.constantLong "VeilNationsModel" (128 : Nat) (72 : Int64) ∈ pg_T.2.1 := pg_wd (i := 871) (by decide +kernel)
theorem wd872 : Cond.methodLink "VeilNationsModel" (133 : Nat) ({ cls := "VeilNationsModel", name := "close", desc := "(II)I" } : Jvm.MethodName) ∈ pg_T.2.1 := pg_wd (i := 872) (by decide +kernel)
theorem wd874 : Cond.instanceMethod ({ cls := "VeilNationsModel", name := "close", desc := "(II)I" } : Jvm.MethodName) ∈ pg_T.2.1 := pg_wd (i := 874) (by decide +kernel)
theorem wd875 : Cond.code ({ cls := "VeilNationsModel", name := "close", desc := "(II)I" } : Jvm.MethodName) prog_11_method_16_code (3 : Nat) (Option.some Jvm.ClassFile.FieldType.int) ∈ pg_T.2.1 := pg_wd (i := 875) (by decide +kernel)
theorem wd876 : Cond.methodLink "VeilNationsModel" (140 : Nat) ({ cls := "VeilNationsModel", name := "deed", desc := "(I)I" } : Jvm.MethodName) ∈ pg_T.2.1 := pg_wd (i := 876) (by decide +kernel)
theorem wd878 : Cond.instanceMethod ({ cls := "VeilNationsModel", name := "deed", desc := "(I)I" } : Jvm.MethodName) ∈ pg_T.2.1 := pg_wd (i := 878) (by decide +kernel)
theorem wd879 : Cond.code ({ cls := "VeilNationsModel", name := "deed", desc := "(I)I" } : Jvm.MethodName) prog_11_method_19_code (2 : Nat) (Option.some Jvm.ClassFile.FieldType.int) ∈ pg_T.2.1 := pg_wd (i := 879) (by decide +kernel)
theorem wd880 : Cond.constantLong "VeilNationsModel" (143 : Nat) (49 : Int64) ∈ pg_T.2.1 := pg_wd (i := 880) (by decide +kernel)
theorem wd881 : Cond.constantLong "VeilNationsModel" (145 : Nat) (57 : Int64) ∈ pg_T.2.1 := pg_wd (i := 881) (by decide +kernel)
theorem wd882 : Cond.methodLink "VeilNationsLaw" (49 : Nat) ({ cls := "VeilNationsModel", name := "judge", desc := "(I)I" } : Jvm.MethodName) ∈ pg_T.2.1 := pg_wd (i := 882) (by decide +kernel)
theorem wd883 : Cond.instanceMethod ({ cls := "VeilNationsModel", name := "judge", desc := "(I)I" } : Jvm.MethodName) ∈ pg_T.2.1 := pg_wd (i := 883) (by decide +kernel)
theorem wd884 : Cond.selects "VeilNationsModel" ({ cls := "VeilNationsModel", name := "judge", desc := "(I)I" } : Jvm.MethodName) ({ cls := "VeilNationsModel", name := "judge", desc := "(I)I" } : Jvm.MethodName) ∈ pg_T.2.1 := pg_wd (i := 884) (by decide +kernel)
theorem wd885 : Cond.code ({ cls := "VeilNationsModel", name := "judge", desc := "(I)I" } : Jvm.MethodName) prog_11_method_35_code (3 : Nat) (Option.some Jvm.ClassFile.FieldType.int) ∈ pg_T.2.1 := pg_wd (i := 885) (by decide +kernel)
theorem wd886 : Cond.constantLong "VeilNationsModel" (212 : Nat) (2 : Int64) ∈ pg_T.2.1 := pg_wd (i := 886) (by decide +kernel)
theorem wd887 : Cond.methodLink "VeilNationsModel" (214 : Nat) ({ cls := "VeilNationsModel", name := "refusal", desc := "()I" } : Jvm.MethodName) ∈ pg_T.2.1 := pg_wd (i := 887) (by decide +kernel)
theorem wd889 : Cond.instanceMethod ({ cls := "VeilNationsModel", name := "refusal", desc := "()I" } : Jvm.MethodName) ∈ pg_T.2.1 := pg_wd (i := 889) (by decide +kernel)
theorem wd890 : Cond.code ({ cls := "VeilNationsModel", name := "refusal", desc := "()I" } : Jvm.MethodName) prog_11_method_34_code (1 : Nat) (Option.some Jvm.ClassFile.FieldType.int) ∈ pg_T.2.1 := pg_wd (i := 890) (by decide +kernel)
theorem wd891 : Cond.methodLink "VeilNationsModel" (203 : Nat) ({ cls := "VeilNationsModel", name := "keepNow", desc := "()V" } : Jvm.MethodName) ∈ pg_T.2.1 := pg_wd (i := 891) (by decide +kernel)
theorem wd893 : Cond.instanceMethod ({ cls := "VeilNationsModel", name := "keepNow", desc := "()V" } : Jvm.MethodName) ∈ pg_T.2.1 := pg_wd (i := 893) (by decide +kernel)
theorem wd894 : Cond.code ({ cls := "VeilNationsModel", name := "keepNow", desc := "()V" } : Jvm.MethodName) prog_11_method_30_code (2 : Nat) (Option.none : Option Jvm.ClassFile.FieldType) ∈ pg_T.2.1 := pg_wd (i := 894) (by decide +kernel)
theorem wd895 : Cond.methodLink "VeilNationsModel" (206 : Nat) ({ cls := "VeilNationsModel", name := "fault", desc := "()I" } : Jvm.MethodName) ∈ pg_T.2.1 := pg_wd (i := 895) (by decide +kernel)
theorem wd896 : Cond.methodLink "VeilNationsModel" (209 : Nat) ({ cls := "VeilNationsModel", name := "goDays", desc := "()V" } : Jvm.MethodName) ∈ pg_T.2.1 := pg_wd (i := 896) (by decide +kernel)
theorem wd898 : Cond.instanceMethod ({ cls := "VeilNationsModel", name := "goDays", desc := "()V" } : Jvm.MethodName) ∈ pg_T.2.1 := pg_wd (i := 898) (by decide +kernel)
theorem wd899 : Cond.code ({ cls := "VeilNationsModel", name := "goDays", desc := "()V" } : Jvm.MethodName) prog_11_method_33_code (3 : Nat) (Option.none : Option Jvm.ClassFile.FieldType) ∈ pg_T.2.1 := pg_wd (i := 899) (by decide +kernel)
theorem wd900 : Cond.methodLink "VeilNationsModel" (196 : Nat) ({ cls := "VeilNationsModel", name := "whyNot", desc := "(III)I" } : Jvm.MethodName) ∈ pg_T.2.1 := pg_wd (i := 900) (by decide +kernel)
theorem wd902 : Cond.instanceMethod ({ cls := "VeilNationsModel", name := "whyNot", desc := "(III)I" } : Jvm.MethodName) ∈ pg_T.2.1 := pg_wd (i := 902) (by decide +kernel)
theorem wd903 : Cond.code ({ cls := "VeilNationsModel", name := "whyNot", desc := "(III)I" } : Jvm.MethodName) prog_11_method_24_code (4 : Nat) (Option.some Jvm.ClassFile.FieldType.int) ∈ pg_T.2.1 := pg_wd (i := 903) (by decide +kernel)
theorem wd904 : Cond.methodLink "VeilNationsModel" (150 : Nat) ({ cls := "VeilNationsModel", name := "has", desc := "(II)Z" } : Jvm.MethodName) ∈ pg_T.2.1 := pg_wd (i := 904) (by decide +kernel)
theorem wd905 : Cond.static ({ cls := "VeilNationsModel", name := "has", desc := "(II)Z" } : Jvm.MethodName) ∈ pg_T.2.1 := pg_wd (i := 905) (by decide +kernel)
theorem wd906 : Cond.code ({ cls := "VeilNationsModel", name := "has", desc := "(II)Z" } : Jvm.MethodName) prog_11_method_6_code (2 : Nat) (Option.some Jvm.ClassFile.FieldType.boolean) ∈ pg_T.2.1 := pg_wd (i := 906) (by decide +kernel)
theorem wd907 : Cond.methodLink "VeilNationsModel" (154 : Nat) ({ cls := "VeilNationsModel", name := "whyNoKiss", desc := "(II)I" } : Jvm.MethodName) ∈ pg_T.2.1 := pg_wd (i := 907) (by decide +kernel)
theorem wd909 : Cond.instanceMethod ({ cls := "VeilNationsModel", name := "whyNoKiss", desc := "(II)I" } : Jvm.MethodName) ∈ pg_T.2.1 := pg_wd (i := 909) (by decide +kernel)
theorem wd910 : Cond.code ({ cls := "VeilNationsModel", name := "whyNoKiss", desc := "(II)I" } : Jvm.MethodName) prog_11_method_23_code (4 : Nat) (Option.some Jvm.ClassFile.FieldType.int) ∈ pg_T.2.1 := pg_wd (i := 910) (by decide +kernel)
theorem wd911 : Cond.methodLink "VeilNationsModel" (200 : Nat) ({ cls := "VeilNationsModel", name := "goOne", desc := "(I)V" } : Jvm.MethodName) ∈ pg_T.2.1 := pg_wd (i := 911) (by decide +kernel)
theorem wd913 : Cond.instanceMethod ({ cls := "VeilNationsModel", name := "goOne", desc := "(I)V" } : Jvm.MethodName) ∈ pg_T.2.1 := pg_wd (i := 913) (by decide +kernel)
theorem wd914 : Cond.code ({ cls := "VeilNationsModel", name := "goOne", desc := "(I)V" } : Jvm.MethodName) prog_11_method_32_code (4 : Nat) (Option.none : Option Jvm.ClassFile.FieldType) ∈ pg_T.2.1 := pg_wd (i := 914) (by decide +kernel)
theorem wd915 : Cond.methodLink "VeilNationsModel" (177 : Nat) ({ cls := "VeilNationsModel", name := "happen", desc := "(III)V" } : Jvm.MethodName) ∈ pg_T.2.1 := pg_wd (i := 915) (by decide +kernel)
theorem wd917 : Cond.instanceMethod ({ cls := "VeilNationsModel", name := "happen", desc := "(III)V" } : Jvm.MethodName) ∈ pg_T.2.1 := pg_wd (i := 917) (by decide +kernel)
theorem wd918 : Cond.code ({ cls := "VeilNationsModel", name := "happen", desc := "(III)V" } : Jvm.MethodName) prog_11_method_29_code (4 : Nat) (Option.none : Option Jvm.ClassFile.FieldType) ∈ pg_T.2.1 := pg_wd (i := 918) (by decide +kernel)
theorem wd919 : Cond.methodLink "VeilNationsModel" (163 : Nat) ({ cls := "VeilNationsModel", name := "annex", desc := "(II)V" } : Jvm.MethodName) ∈ pg_T.2.1 := pg_wd (i := 919) (by decide +kernel)
theorem wd921 : Cond.instanceMethod ({ cls := "VeilNationsModel", name := "annex", desc := "(II)V" } : Jvm.MethodName) ∈ pg_T.2.1 := pg_wd (i := 921) (by decide +kernel)
theorem wd922 : Cond.code ({ cls := "VeilNationsModel", name := "annex", desc := "(II)V" } : Jvm.MethodName) prog_11_method_25_code (3 : Nat) (Option.none : Option Jvm.ClassFile.FieldType) ∈ pg_T.2.1 := pg_wd (i := 922) (by decide +kernel)
theorem wd923 : Cond.methodLink "VeilNationsModel" (167 : Nat) ({ cls := "VeilNationsModel", name := "mend", desc := "(I)V" } : Jvm.MethodName) ∈ pg_T.2.1 := pg_wd (i := 923) (by decide +kernel)
theorem wd925 : Cond.instanceMethod ({ cls := "VeilNationsModel", name := "mend", desc := "(I)V" } : Jvm.MethodName) ∈ pg_T.2.1 := pg_wd (i := 925) (by decide +kernel)
theorem wd926 : Cond.code ({ cls := "VeilNationsModel", name := "mend", desc := "(I)V" } : Jvm.MethodName) prog_11_method_28_code (2 : Nat) (Option.none : Option Jvm.ClassFile.FieldType) ∈ pg_T.2.1 := pg_wd (i := 926) (by decide +kernel)
theorem wd927 : Cond.methodLink "VeilNationsModel" (171 : Nat) ({ cls := "VeilNationsModel", name := "gust", desc := "(I)V" } : Jvm.MethodName) ∈ pg_T.2.1 := pg_wd (i := 927) (by decide +kernel)
theorem wd929 : Cond.instanceMethod ({ cls := "VeilNationsModel", name := "gust", desc := "(I)V" } : Jvm.MethodName) ∈ pg_T.2.1 := pg_wd (i := 929) (by decide +kernel)
theorem wd930 : Cond.code ({ cls := "VeilNationsModel", name := "gust", desc := "(I)V" } : Jvm.MethodName) prog_11_method_26_code (4 : Nat) (Option.none : Option Jvm.ClassFile.FieldType) ∈ pg_T.2.1 := pg_wd (i := 930) (by decide +kernel)
theorem wd931 : Cond.methodLink "VeilNationsModel" (160 : Nat) ({ cls := "VeilNationsModel", name := "thick", desc := "(I)I" } : Jvm.MethodName) ∈ pg_T.2.1 := pg_wd (i := 931) (by decide +kernel)
theorem wd933 : Cond.instanceMethod ({ cls := "VeilNationsModel", name := "thick", desc := "(I)I" } : Jvm.MethodName) ∈ pg_T.2.1 := pg_wd (i := 933) (by decide +kernel)
theorem wd934 : Cond.code ({ cls := "VeilNationsModel", name := "thick", desc := "(I)I" } : Jvm.MethodName) prog_11_method_22_code (2 : Nat) (Option.some Jvm.ClassFile.FieldType.int) ∈ pg_T.2.1 := pg_wd (i := 934) (by decide +kernel)
theorem wd935 : Cond.methodLink "VeilNationsModel" (174 : Nat) ({ cls := "VeilNationsModel", name := "passDay", desc := "()V" } : Jvm.MethodName) ∈ pg_T.2.1 := pg_wd (i := 935) (by decide +kernel)
theorem wd937 : Cond.instanceMethod ({ cls := "VeilNationsModel", name := "passDay", desc := "()V" } : Jvm.MethodName) ∈ pg_T.2.1 := pg_wd (i := 937) (by decide +kernel)
theorem wd938 : Cond.code ({ cls := "VeilNationsModel", name := "passDay", desc := "()V" } : Jvm.MethodName) prog_11_method_27_code (5 : Nat) (Option.none : Option Jvm.ClassFile.FieldType) ∈ pg_T.2.1 := pg_wd (i := 938) (by decide +kernel)
theorem wd939 : Cond.methodLink "VeilNationsModel" (217 : Nat) ({ cls := "VeilNationsModel", name := "back", desc := "(I)I" } : Jvm.MethodName) ∈ pg_T.2.1 := pg_wd (i := 939) (by decide +kernel)
theorem wd941 : Cond.instanceMethod ({ cls := "VeilNationsModel", name := "back", desc := "(I)I" } : Jvm.MethodName) ∈ pg_T.2.1 := pg_wd (i := 941) (by decide +kernel)
theorem wd942 : Cond.code ({ cls := "VeilNationsModel", name := "back", desc := "(I)I" } : Jvm.MethodName) prog_11_method_31_code (3 : Nat) (Option.some Jvm.ClassFile.FieldType.int) ∈ pg_T.2.1 := pg_wd (i := 942) (by decide +kernel)
theorem wd943 : Cond.methodLink "VeilNationsLaw" (54 : Nat) ({ cls := "VeilNationsModel", name := "behind", desc := "(II)I" } : Jvm.MethodName) ∈ pg_T.2.1 := pg_wd (i := 943) (by decide +kernel)
theorem wd944 : Cond.instanceMethod ({ cls := "VeilNationsModel", name := "behind", desc := "(II)I" } : Jvm.MethodName) ∈ pg_T.2.1 := pg_wd (i := 944) (by decide +kernel)
theorem wd945 : Cond.selects "VeilNationsModel" ({ cls := "VeilNationsModel", name := "behind", desc := "(II)I" } : Jvm.MethodName) ({ cls := "VeilNationsModel", name := "behind", desc := "(II)I" } : Jvm.MethodName) ∈ pg_T.2.1 := pg_wd (i := 945) (by decide +kernel)
theorem wd946 : Cond.code ({ cls := "VeilNationsModel", name := "behind", desc := "(II)I" } : Jvm.MethodName) prog_11_method_37_code (4 : Nat) (Option.some Jvm.ClassFile.FieldType.int) ∈ pg_T.2.1 := pg_wd (i := 946) (by decide +kernel)
theorem wd947 : Cond.methodLink "VeilNationsModel" (220 : Nat) ({ cls := "VeilNationsModel", name := "ofOne", desc := "(II)I" } : Jvm.MethodName) ∈ pg_T.2.1 := pg_wd (i := 947) (by decide +kernel)
theorem wd949 : Cond.instanceMethod ({ cls := "VeilNationsModel", name := "ofOne", desc := "(II)I" } : Jvm.MethodName) ∈ pg_T.2.1 := pg_wd (i := 949) (by decide +kernel)
theorem wd950 : Cond.code ({ cls := "VeilNationsModel", name := "ofOne", desc := "(II)I" } : Jvm.MethodName) prog_11_method_36_code (3 : Nat) (Option.some Jvm.ClassFile.FieldType.int) ∈ pg_T.2.1 := pg_wd (i := 950) (by decide +kernel)
theorem wd951 : Cond.methodLink "VeilNationsLaw" (58 : Nat) ({ cls := "VeilNationsModel", name := "states", desc := "(I)I" } : Jvm.MethodName) ∈ pg_T.2.1 := pg_wd (i := 951) (by decide +kernel)
theorem wd952 : Cond.instanceMethod ({ cls := "VeilNationsModel", name := "states", desc := "(I)I" } : Jvm.MethodName) ∈ pg_T.2.1 := pg_wd (i := 952) (by decide +kernel)
theorem wd953 : Cond.selects "VeilNationsModel" ({ cls := "VeilNationsModel", name := "states", desc := "(I)I" } : Jvm.MethodName) ({ cls := "VeilNationsModel", name := "states", desc := "(I)I" } : Jvm.MethodName) ∈ pg_T.2.1 := pg_wd (i := 953) (by decide +kernel)
theorem wd954 : Cond.code ({ cls := "VeilNationsModel", name := "states", desc := "(I)I" } : Jvm.MethodName) prog_11_method_40_code (3 : Nat) (Option.some Jvm.ClassFile.FieldType.int) ∈ pg_T.2.1 := pg_wd (i := 954) (by decide +kernel)
theorem wd955 : Cond.constantLong "VeilNationsModel" (226 : Nat) (6 : Int64) ∈ pg_T.2.1 := pg_wd (i := 955) (by decide +kernel)
theorem wd956 : Cond.methodLink "VeilNationsModel" (228 : Nat) ({ cls := "VeilNationsModel", name := "ofAll", desc := "(I)I" } : Jvm.MethodName) ∈ pg_T.2.1 := pg_wd (i := 956) (by decide +kernel)
theorem wd958 : Cond.instanceMethod ({ cls := "VeilNationsModel", name := "ofAll", desc := "(I)I" } : Jvm.MethodName) ∈ pg_T.2.1 := pg_wd (i := 958) (by decide +kernel)
theorem wd959 : Cond.code ({ cls := "VeilNationsModel", name := "ofAll", desc := "(I)I" } : Jvm.MethodName) prog_11_method_39_code (2 : Nat) (Option.some Jvm.ClassFile.FieldType.int) ∈ pg_T.2.1 := pg_wd (i := 959) (by decide +kernel)
theorem wd960 : Cond.methodLink "VeilNationsModel" (223 : Nat) ({ cls := "VeilNationsModel", name := "manyOf", desc := "(I)I" } : Jvm.MethodName) ∈ pg_T.2.1 := pg_wd (i := 960) (by decide +kernel)
theorem wd962 : Cond.instanceMethod ({ cls := "VeilNationsModel", name := "manyOf", desc := "(I)I" } : Jvm.MethodName) ∈ pg_T.2.1 := pg_wd (i := 962) (by decide +kernel)
theorem wd963 : Cond.code ({ cls := "VeilNationsModel", name := "manyOf", desc := "(I)I" } : Jvm.MethodName) prog_11_method_38_code (4 : Nat) (Option.some Jvm.ClassFile.FieldType.int) ∈ pg_T.2.1 := pg_wd (i := 963) (by decide +kernel)
theorem wd964 : Cond.methodLink "VeilNationsLaw" (62 : Nat) ({ cls := "VeilNationsModel", name := "annexed", desc := "(I)I" } : Jvm.MethodName) ∈ pg_T.2.1 := pg_wd (i := 964) (by decide +kernel)
theorem wd965 : Cond.instanceMethod ({ cls := "VeilNationsModel", name := "annexed", desc := "(I)I" } : Jvm.MethodName) ∈ pg_T.2.1 := pg_wd (i := 965) (by decide +kernel)
theorem wd966 : Cond.selects "VeilNationsModel" ({ cls := "VeilNationsModel", name := "annexed", desc := "(I)I" } : Jvm.MethodName) ({ cls := "VeilNationsModel", name := "annexed", desc := "(I)I" } : Jvm.MethodName) ∈ pg_T.2.1 := pg_wd (i := 966) (by decide +kernel)
theorem wd967 : Cond.code ({ cls := "VeilNationsModel", name := "annexed", desc := "(I)I" } : Jvm.MethodName) prog_11_method_41_code (3 : Nat) (Option.some Jvm.ClassFile.FieldType.int) ∈ pg_T.2.1 := pg_wd (i := 967) (by decide +kernel)
theorem wd968 : Cond.methodLink "VeilNationsLaw" (66 : Nat) ({ cls := "VeilNationsModel", name := "done", desc := "()I" } : Jvm.MethodName) ∈ pg_T.2.1 := pg_wd (i := 968) (by decide +kernel)
theorem wd969 : Cond.instanceMethod ({ cls := "VeilNationsModel", name := "done", desc := "()I" } : Jvm.MethodName) ∈ pg_T.2.1 := pg_wd (i := 969) (by decide +kernel)
theorem wd970 : Cond.selects "VeilNationsModel" ({ cls := "VeilNationsModel", name := "done", desc := "()I" } : Jvm.MethodName) ({ cls := "VeilNationsModel", name := "done", desc := "()I" } : Jvm.MethodName) ∈ pg_T.2.1 := pg_wd (i := 970) (by decide +kernel)
theorem wd971 : Cond.code ({ cls := "VeilNationsModel", name := "done", desc := "()I" } : Jvm.MethodName) prog_11_method_42_code (2 : Nat) (Option.some Jvm.ClassFile.FieldType.int) ∈ pg_T.2.1 := pg_wd (i := 971) (by decide +kernel)
theorem wd972 : Cond.methodLink "VeilNationsLaw" (70 : Nat) ({ cls := "VeilNationsModel", name := "sees", desc := "(II)I" } : Jvm.MethodName) ∈ pg_T.2.1 := pg_wd (i := 972) (by decide +kernel)
theorem wd973 : Cond.instanceMethod ({ cls := "VeilNationsModel", name := "sees", desc := "(II)I" } : Jvm.MethodName) ∈ pg_T.2.1 := pg_wd (i := 973) (by decide +kernel)
theorem wd974 : Cond.selects "VeilNationsModel" ({ cls := "VeilNationsModel", name := "sees", desc := "(II)I" } : Jvm.MethodName) ({ cls := "VeilNationsModel", name := "sees", desc := "(II)I" } : Jvm.MethodName) ∈ pg_T.2.1 := pg_wd (i := 974) (by decide +kernel)
theorem wd975 : Cond.code ({ cls := "VeilNationsModel", name := "sees", desc := "(II)I" } : Jvm.MethodName) prog_11_method_44_code (3 : Nat) (Option.some Jvm.ClassFile.FieldType.int) ∈ pg_T.2.1 := pg_wd (i := 975) (by decide +kernel)
theorem wd976 : Cond.methodLink "VeilNationsModel" (231 : Nat) ({ cls := "VeilNationsModel", name := "seenBy", desc := "(III)I" } : Jvm.MethodName) ∈ pg_T.2.1 := pg_wd (i := 976) (by decide +kernel)
theorem wd978 : Cond.instanceMethod ({ cls := "VeilNationsModel", name := "seenBy", desc := "(III)I" } : Jvm.MethodName) ∈ pg_T.2.1 := pg_wd (i := 978) (by decide +kernel)
theorem wd979 : Cond.code ({ cls := "VeilNationsModel", name := "seenBy", desc := "(III)I" } : Jvm.MethodName) prog_11_method_43_code (8 : Nat) (Option.some Jvm.ClassFile.FieldType.int) ∈ pg_T.2.1 := pg_wd (i := 979) (by decide +kernel)
theorem wd980 : Cond.methodLink "VeilNationsLaw" (74 : Nat) ({ cls := "VeilNationsModel", name := "camps", desc := "(I)I" } : Jvm.MethodName) ∈ pg_T.2.1 := pg_wd (i := 980) (by decide +kernel)
theorem wd981 : Cond.instanceMethod ({ cls := "VeilNationsModel", name := "camps", desc := "(I)I" } : Jvm.MethodName) ∈ pg_T.2.1 := pg_wd (i := 981) (by decide +kernel)
theorem wd982 : Cond.selects "VeilNationsModel" ({ cls := "VeilNationsModel", name := "camps", desc := "(I)I" } : Jvm.MethodName) ({ cls := "VeilNationsModel", name := "camps", desc := "(I)I" } : Jvm.MethodName) ∈ pg_T.2.1 := pg_wd (i := 982) (by decide +kernel)
theorem wd983 : Cond.code ({ cls := "VeilNationsModel", name := "camps", desc := "(I)I" } : Jvm.MethodName) prog_11_method_46_code (4 : Nat) (Option.some Jvm.ClassFile.FieldType.int) ∈ pg_T.2.1 := pg_wd (i := 983) (by decide +kernel)
theorem wd984 : Cond.methodLink "VeilNationsModel" (234 : Nat) ({ cls := "VeilNationsModel", name := "quarrels", desc := "(I)I" } : Jvm.MethodName) ∈ pg_T.2.1 := pg_wd (i := 984) (by decide +kernel)
theorem wd986 : Cond.instanceMethod ({ cls := "VeilNationsModel", name := "quarrels", desc := "(I)I" } : Jvm.MethodName) ∈ pg_T.2.1 := pg_wd (i := 986) (by decide +kernel)
theorem wd987 : Cond.code ({ cls := "VeilNationsModel", name := "quarrels", desc := "(I)I" } : Jvm.MethodName) prog_11_method_45_code (7 : Nat) (Option.some Jvm.ClassFile.FieldType.int) ∈ pg_T.2.1 := pg_wd (i := 987) (by decide +kernel)
theorem wd988 : Cond.methodLink "VeilNationsLaw" (78 : Nat) ({ cls := "VeilNationsModel", name := "late", desc := "(I)I" } : Jvm.MethodName) ∈ pg_T.2.1 := pg_wd (i := 988) (by decide +kernel)
theorem wd989 : Cond.instanceMethod ({ cls := "VeilNationsModel", name := "late", desc := "(I)I" } : Jvm.MethodName) ∈ pg_T.2.1 := pg_wd (i := 989) (by decide +kernel)
theorem wd990 : Cond.selects "VeilNationsModel" ({ cls := "VeilNationsModel", name := "late", desc := "(I)I" } : Jvm.MethodName) ({ cls := "VeilNationsModel", name := "late", desc := "(I)I" } : Jvm.MethodName) ∈ pg_T.2.1 := pg_wd (i := 990) (by decide +kernel)
theorem wd991 : Cond.code ({ cls := "VeilNationsModel", name := "late", desc := "(I)I" } : Jvm.MethodName) prog_11_method_49_code (4 : Nat) (Option.some Jvm.ClassFile.FieldType.int) ∈ pg_T.2.1 := pg_wd (i := 991) (by decide +kernel)
theorem wd992 : Cond.methodLink "VeilNationsModel" (240 : Nat) ({ cls := "VeilNationsModel", name := "isInTime", desc := "(I)Z" } : Jvm.MethodName) ∈ pg_T.2.1 := pg_wd (i := 992) (by decide +kernel)
theorem wd994 : Cond.instanceMethod ({ cls := "VeilNationsModel", name := "isInTime", desc := "(I)Z" } : Jvm.MethodName) ∈ pg_T.2.1 := pg_wd (i := 994) (by decide +kernel)
theorem wd995 : Cond.code ({ cls := "VeilNationsModel", name := "isInTime", desc := "(I)Z" } : Jvm.MethodName) prog_11_method_48_code (6 : Nat) (Option.some Jvm.ClassFile.FieldType.boolean) ∈ pg_T.2.1 := pg_wd (i := 995) (by decide +kernel)
theorem wd996 : Cond.methodLink "VeilNationsModel" (237 : Nat) ({ cls := "VeilNationsModel", name := "nextCall", desc := "(I)I" } : Jvm.MethodName) ∈ pg_T.2.1 := pg_wd (i := 996) (by decide +kernel)
theorem wd998 : Cond.instanceMethod ({ cls := "VeilNationsModel", name := "nextCall", desc := "(I)I" } : Jvm.MethodName) ∈ pg_T.2.1 := pg_wd (i := 998) (by decide +kernel)
theorem wd999 : Cond.code ({ cls := "VeilNationsModel", name := "nextCall", desc := "(I)I" } : Jvm.MethodName) prog_11_method_47_code (4 : Nat) (Option.some Jvm.ClassFile.FieldType.int) ∈ pg_T.2.1 := pg_wd (i := 999) (by decide +kernel)
theorem wd1000 : Cond.methodLink "VeilNationsLaw" (82 : Nat) ({ cls := "VeilNationsModel", name := "stamps", desc := "(IIIII)I" } : Jvm.MethodName) ∈ pg_T.2.1 := pg_wd (i := 1000) (by decide +kernel)
theorem wd1001 : Cond.instanceMethod ({ cls := "VeilNationsModel", name := "stamps", desc := "(IIIII)I" } : Jvm.MethodName) ∈ pg_T.2.1 := pg_wd (i := 1001) (by decide +kernel)
theorem wd1002 : Cond.selects "VeilNationsModel" ({ cls := "VeilNationsModel", name := "stamps", desc := "(IIIII)I" } : Jvm.MethodName) ({ cls := "VeilNationsModel", name := "stamps", desc := "(IIIII)I" } : Jvm.MethodName) ∈ pg_T.2.1 := pg_wd (i := 1002) (by decide +kernel)
theorem wd1003 : Cond.code ({ cls := "VeilNationsModel", name := "stamps", desc := "(IIIII)I" } : Jvm.MethodName) prog_11_method_55_code (7 : Nat) (Option.some Jvm.ClassFile.FieldType.int) ∈ pg_T.2.1 := pg_wd (i := 1003) (by decide +kernel)
theorem wd1004 : Cond.methodLink "VeilNationsModel" (245 : Nat) ({ cls := "VeilNationsModel", name := "isWorth", desc := "(I)Z" } : Jvm.MethodName) ∈ pg_T.2.1 := pg_wd (i := 1004) (by decide +kernel)
theorem wd1005 : Cond.static ({ cls := "VeilNationsModel", name := "isWorth", desc := "(I)Z" } : Jvm.MethodName) ∈ pg_T.2.1 := pg_wd (i := 1005) (by decide +kernel)
theorem wd1006 : Cond.code ({ cls := "VeilNationsModel", name := "isWorth", desc := "(I)Z" } : Jvm.MethodName) prog_11_method_54_code (1 : Nat) (Option.some Jvm.ClassFile.FieldType.boolean) ∈ pg_T.2.1 := pg_wd (i := 1006) (by decide +kernel)
theorem wd1007 : Cond.constantLong "VeilNationsModel" (243 : Nat) (20 : Int64) ∈ pg_T.2.1 := pg_wd (i := 1007) (by decide +kernel)
theorem wd1008 : Cond.constantLong "VeilNationsModel" (248 : Nat) (200 : Int64) ∈ pg_T.2.1 := pg_wd (i := 1008) (by decide +kernel)
theorem wd1009 : Cond.methodLink "VeilNationsModel" (250 : Nat) ({ cls := "VeilNationsModel", name := "waysFor", desc := "(IIII)I" } : Jvm.MethodName) ∈ pg_T.2.1 := pg_wd (i := 1009) (by decide +kernel)
theorem wd1011 : Cond.instanceMethod ({ cls := "VeilNationsModel", name := "waysFor", desc := "(IIII)I" } : Jvm.MethodName) ∈ pg_T.2.1 := pg_wd (i := 1011) (by decide +kernel)
theorem wd1012 : Cond.code ({ cls := "VeilNationsModel", name := "waysFor", desc := "(IIII)I" } : Jvm.MethodName) prog_11_method_51_code (8 : Nat) (Option.some Jvm.ClassFile.FieldType.int) ∈ pg_T.2.1 := pg_wd (i := 1012) (by decide +kernel)
theorem wd1013 : Cond.methodLink "VeilNationsModel" (254 : Nat) ({ cls := "VeilNationsModel", name := "oneMore", desc := "(II)I" } : Jvm.MethodName) ∈ pg_T.2.1 := pg_wd (i := 1013) (by decide +kernel)
theorem wd1015 : Cond.instanceMethod ({ cls := "VeilNationsModel", name := "oneMore", desc := "(II)I" } : Jvm.MethodName) ∈ pg_T.2.1 := pg_wd (i := 1015) (by decide +kernel)
theorem wd1016 : Cond.code ({ cls := "VeilNationsModel", name := "oneMore", desc := "(II)I" } : Jvm.MethodName) prog_11_method_50_code (4 : Nat) (Option.some Jvm.ClassFile.FieldType.int) ∈ pg_T.2.1 := pg_wd (i := 1016) (by decide +kernel)
theorem wd1017 : Cond.methodLink "VeilNationsModel" (257 : Nat) ({ cls := "VeilNationsModel", name := "common", desc := "(II)I" } : Jvm.MethodName) ∈ pg_T.2.1 := pg_wd (i := 1017) (by decide +kernel)
theorem wd1018 : Cond.static ({ cls := "VeilNationsModel", name := "common", desc := "(II)I" } : Jvm.MethodName) ∈ pg_T.2.1 := pg_wd (i := 1018) (by decide +kernel)
theorem wd1019 : Cond.code ({ cls := "VeilNationsModel", name := "common", desc := "(II)I" } : Jvm.MethodName) prog_11_method_52_code (5 : Nat) (Option.some Jvm.ClassFile.FieldType.int) ∈ pg_T.2.1 := pg_wd (i := 1019) (by decide +kernel)
theorem wd1020 : Cond.methodLink "VeilNationsModel" (260 : Nat) ({ cls := "VeilNationsModel", name := "greatestNot", desc := "()I" } : Jvm.MethodName) ∈ pg_T.2.1 := pg_wd (i := 1020) (by decide +kernel)
theorem wd1022 : Cond.instanceMethod ({ cls := "VeilNationsModel", name := "greatestNot", desc := "()I" } : Jvm.MethodName) ∈ pg_T.2.1 := pg_wd (i := 1022) (by decide +kernel)
theorem wd1023 : Cond.code ({ cls := "VeilNationsModel", name := "greatestNot", desc := "()I" } : Jvm.MethodName) prog_11_method_53_code (3 : Nat) (Option.some Jvm.ClassFile.FieldType.int) ∈ pg_T.2.1 := pg_wd (i := 1023) (by decide +kernel)
theorem wd1024 : Cond.methodLink "VeilNationsLaw" (87 : Nat) ({ cls := "VeilNationsModel", name := "seen", desc := "(IZ)I" } : Jvm.MethodName) ∈ pg_T.2.1 := pg_wd (i := 1024) (by decide +kernel)
theorem wd1025 : Cond.instanceMethod ({ cls := "VeilNationsModel", name := "seen", desc := "(IZ)I" } : Jvm.MethodName) ∈ pg_T.2.1 := pg_wd (i := 1025) (by decide +kernel)
theorem wd1026 : Cond.selects "VeilNationsModel" ({ cls := "VeilNationsModel", name := "seen", desc := "(IZ)I" } : Jvm.MethodName) ({ cls := "VeilNationsModel", name := "seen", desc := "(IZ)I" } : Jvm.MethodName) ∈ pg_T.2.1 := pg_wd (i := 1026) (by decide +kernel)
theorem wd1027 : Cond.code ({ cls := "VeilNationsModel", name := "seen", desc := "(IZ)I" } : Jvm.MethodName) prog_11_method_56_code (3 : Nat) (Option.some Jvm.ClassFile.FieldType.int) ∈ pg_T.2.1 := pg_wd (i := 1027) (by decide +kernel)
theorem wd1028 : Cond.constantLong "VeilNationsModel" (263 : Nat) (60 : Int64) ∈ pg_T.2.1 := pg_wd (i := 1028) (by decide +kernel)
theorem wd1029 : Cond.methodLink "VeilNationsLaw" (91 : Nat) ({ cls := "VeilNationsModel", name := "forget", desc := "()I" } : Jvm.MethodName) ∈ pg_T.2.1 := pg_wd (i := 1029) (by decide +kernel)
theorem wd1030 : Cond.instanceMethod ({ cls := "VeilNationsModel", name := "forget", desc := "()I" } : Jvm.MethodName) ∈ pg_T.2.1 := pg_wd (i := 1030) (by decide +kernel)
theorem wd1031 : Cond.selects "VeilNationsModel" ({ cls := "VeilNationsModel", name := "forget", desc := "()I" } : Jvm.MethodName) ({ cls := "VeilNationsModel", name := "forget", desc := "()I" } : Jvm.MethodName) ∈ pg_T.2.1 := pg_wd (i := 1031) (by decide +kernel)
theorem wd1032 : Cond.code ({ cls := "VeilNationsModel", name := "forget", desc := "()I" } : Jvm.MethodName) prog_11_method_57_code (2 : Nat) (Option.some Jvm.ClassFile.FieldType.int) ∈ pg_T.2.1 := pg_wd (i := 1032) (by decide +kernel)
theorem wd1033 : Cond.methodLink "VeilNationsLaw" (95 : Nat) ({ cls := "VeilNationsModel", name := "fits", desc := "(I)I" } : Jvm.MethodName) ∈ pg_T.2.1 := pg_wd (i := 1033) (by decide +kernel)
theorem wd1034 : Cond.instanceMethod ({ cls := "VeilNationsModel", name := "fits", desc := "(I)I" } : Jvm.MethodName) ∈ pg_T.2.1 := pg_wd (i := 1034) (by decide +kernel)
theorem wd1035 : Cond.selects "VeilNationsModel" ({ cls := "VeilNationsModel", name := "fits", desc := "(I)I" } : Jvm.MethodName) ({ cls := "VeilNationsModel", name := "fits", desc := "(I)I" } : Jvm.MethodName) ∈ pg_T.2.1 := pg_wd (i := 1035) (by decide +kernel)
theorem wd1036 : Cond.code ({ cls := "VeilNationsModel", name := "fits", desc := "(I)I" } : Jvm.MethodName) prog_11_method_60_code (4 : Nat) (Option.some Jvm.ClassFile.FieldType.int) ∈ pg_T.2.1 := pg_wd (i := 1036) (by decide +kernel)
theorem wd1037 : Cond.methodLink "VeilNationsModel" (271 : Nat) ({ cls := "VeilNationsModel", name := "isFit", desc := "(I)Z" } : Jvm.MethodName) ∈ pg_T.2.1 := pg_wd (i := 1037) (by decide +kernel)
theorem wd1039 : Cond.instanceMethod ({ cls := "VeilNationsModel", name := "isFit", desc := "(I)Z" } : Jvm.MethodName) ∈ pg_T.2.1 := pg_wd (i := 1039) (by decide +kernel)
theorem wd1040 : Cond.code ({ cls := "VeilNationsModel", name := "isFit", desc := "(I)Z" } : Jvm.MethodName) prog_11_method_59_code (5 : Nat) (Option.some Jvm.ClassFile.FieldType.boolean) ∈ pg_T.2.1 := pg_wd (i := 1040) (by decide +kernel)
theorem wd1041 : Cond.methodLink "VeilNationsModel" (268 : Nat) ({ cls := "VeilNationsModel", name := "downBy", desc := "(II)I" } : Jvm.MethodName) ∈ pg_T.2.1 := pg_wd (i := 1041) (by decide +kernel)
theorem wd1042 : Cond.static ({ cls := "VeilNationsModel", name := "downBy", desc := "(II)I" } : Jvm.MethodName) ∈ pg_T.2.1 := pg_wd (i := 1042) (by decide +kernel)
theorem wd1043 : Cond.code ({ cls := "VeilNationsModel", name := "downBy", desc := "(II)I" } : Jvm.MethodName) prog_11_method_58_code (2 : Nat) (Option.some Jvm.ClassFile.FieldType.int) ∈ pg_T.2.1 := pg_wd (i := 1043) (by decide +kernel)
theorem wd1044 : Cond.methodLink "VeilNationsLaw" (99 : Nat) ({ cls := "VeilNationsModel", name := "ask", desc := "(I)I" } : Jvm.MethodName) ∈ pg_T.2.1 := pg_wd (i := 1044) (by decide +kernel)
theorem wd1045 : Cond.instanceMethod ({ cls := "VeilNationsModel", name := "ask", desc := "(I)I" } : Jvm.MethodName) ∈ pg_T.2.1 := pg_wd (i := 1045) (by decide +kernel)
theorem wd1046 : Cond.selects "VeilNationsModel" ({ cls := "VeilNationsModel", name := "ask", desc := "(I)I" } : Jvm.MethodName) ({ cls := "VeilNationsModel", name := "ask", desc := "(I)I" } : Jvm.MethodName) ∈ pg_T.2.1 := pg_wd (i := 1046) (by decide +kernel)
theorem wd1047 : Cond.code ({ cls := "VeilNationsModel", name := "ask", desc := "(I)I" } : Jvm.MethodName) prog_11_method_61_code (8 : Nat) (Option.some Jvm.ClassFile.FieldType.int) ∈ pg_T.2.1 := pg_wd (i := 1047) (by decide +kernel)
theorem wd1048 : Cond.methodLink "VeilNationsModel" (274 : Nat) ({ cls := "VeilNationsModel", name := "fits", desc := "(I)I" } : Jvm.MethodName) ∈ pg_T.2.1 := pg_wd (i := 1048) (by decide +kernel)
theorem wd1049 : Cond.methodLink "VeilNationsLaw" (103 : Nat) ({ cls := "VeilNationsModel", name := "lift", desc := "(I)I" } : Jvm.MethodName) ∈ pg_T.2.1 := pg_wd (i := 1049) (by decide +kernel)
theorem wd1050 : Cond.instanceMethod ({ cls := "VeilNationsModel", name := "lift", desc := "(I)I" } : Jvm.MethodName) ∈ pg_T.2.1 := pg_wd (i := 1050) (by decide +kernel)
theorem wd1051 : Cond.selects "VeilNationsModel" ({ cls := "VeilNationsModel", name := "lift", desc := "(I)I" } : Jvm.MethodName) ({ cls := "VeilNationsModel", name := "lift", desc := "(I)I" } : Jvm.MethodName) ∈ pg_T.2.1 := pg_wd (i := 1051) (by decide +kernel)
theorem wd1052 : Cond.code ({ cls := "VeilNationsModel", name := "lift", desc := "(I)I" } : Jvm.MethodName) prog_11_method_63_code (3 : Nat) (Option.some Jvm.ClassFile.FieldType.int) ∈ pg_T.2.1 := pg_wd (i := 1052) (by decide +kernel)
theorem wd1053 : Cond.methodLink "VeilNationsModel" (277 : Nat) ({ cls := "VeilNationsModel", name := "leastLift", desc := "(I)I" } : Jvm.MethodName) ∈ pg_T.2.1 := pg_wd (i := 1053) (by decide +kernel)
theorem wd1055 : Cond.instanceMethod ({ cls := "VeilNationsModel", name := "leastLift", desc := "(I)I" } : Jvm.MethodName) ∈ pg_T.2.1 := pg_wd (i := 1055) (by decide +kernel)
theorem wd1056 : Cond.code ({ cls := "VeilNationsModel", name := "leastLift", desc := "(I)I" } : Jvm.MethodName) prog_11_method_62_code (5 : Nat) (Option.some Jvm.ClassFile.FieldType.int) ∈ pg_T.2.1 := pg_wd (i := 1056) (by decide +kernel)
theorem wd1057 : Cond.methodLink "VeilNationsLaw" (108 : Nat) ({ cls := "VeilNationsModel", name := "votes", desc := "(IIII)J" } : Jvm.MethodName) ∈ pg_T.2.1 := pg_wd (i := 1057) (by decide +kernel)
theorem wd1058 : Cond.instanceMethod ({ cls := "VeilNationsModel", name := "votes", desc := "(IIII)J" } : Jvm.MethodName) ∈ pg_T.2.1 := pg_wd (i := 1058) (by decide +kernel)
theorem wd1059 : Cond.selects "VeilNationsModel" ({ cls := "VeilNationsModel", name := "votes", desc := "(IIII)J" } : Jvm.MethodName) ({ cls := "VeilNationsModel", name := "votes", desc := "(IIII)J" } : Jvm.MethodName) ∈ pg_T.2.1 := pg_wd (i := 1059) (by decide +kernel)
theorem wd1060 : Cond.code ({ cls := "VeilNationsModel", name := "votes", desc := "(IIII)J" } : Jvm.MethodName) prog_11_method_66_code (9 : Nat) (Option.some Jvm.ClassFile.FieldType.long) ∈ pg_T.2.1 := pg_wd (i := 1060) (by decide +kernel)
theorem wd1061 : Cond.constantLong "VeilNationsModel" (280 : Nat) (-1000000000000000002 : Int64) ∈ pg_T.2.1 := pg_wd (i := 1061) (by decide +kernel)
theorem wd1062 : Cond.methodLink "VeilNationsModel" (282 : Nat) ({ cls := "VeilNationsModel", name := "before", desc := "([JII)J" } : Jvm.MethodName) ∈ pg_T.2.1 := pg_wd (i := 1062) (by decide +kernel)
theorem wd1064 : Cond.instanceMethod ({ cls := "VeilNationsModel", name := "before", desc := "([JII)J" } : Jvm.MethodName) ∈ pg_T.2.1 := pg_wd (i := 1064) (by decide +kernel)
theorem wd1065 : Cond.code ({ cls := "VeilNationsModel", name := "before", desc := "([JII)J" } : Jvm.MethodName) prog_11_method_64_code (4 : Nat) (Option.some Jvm.ClassFile.FieldType.long) ∈ pg_T.2.1 := pg_wd (i := 1065) (by decide +kernel)
theorem wd1066 : Cond.methodLink "VeilNationsModel" (286 : Nat) ({ cls := "VeilNationsModel", name := "lowest", desc := "(JJI)J" } : Jvm.MethodName) ∈ pg_T.2.1 := pg_wd (i := 1066) (by decide +kernel)
theorem wd1067 : Cond.static ({ cls := "VeilNationsModel", name := "lowest", desc := "(JJI)J" } : Jvm.MethodName) ∈ pg_T.2.1 := pg_wd (i := 1067) (by decide +kernel)
theorem wd1068 : Cond.code ({ cls := "VeilNationsModel", name := "lowest", desc := "(JJI)J" } : Jvm.MethodName) prog_11_method_65_code (11 : Nat) (Option.some Jvm.ClassFile.FieldType.long) ∈ pg_T.2.1 := pg_wd (i := 1068) (by decide +kernel)
theorem wd1069 : Cond.methodLink "VeilNationsLaw" (112 : Nat) ({ cls := "VeilNationsModel", name := "year", desc := "(III)I" } : Jvm.MethodName) ∈ pg_T.2.1 := pg_wd (i := 1069) (by decide +kernel)
theorem wd1070 : Cond.instanceMethod ({ cls := "VeilNationsModel", name := "year", desc := "(III)I" } : Jvm.MethodName) ∈ pg_T.2.1 := pg_wd (i := 1070) (by decide +kernel)
theorem wd1071 : Cond.selects "VeilNationsModel" ({ cls := "VeilNationsModel", name := "year", desc := "(III)I" } : Jvm.MethodName) ({ cls := "VeilNationsModel", name := "year", desc := "(III)I" } : Jvm.MethodName) ∈ pg_T.2.1 := pg_wd (i := 1071) (by decide +kernel)
theorem wd1072 : Cond.code ({ cls := "VeilNationsModel", name := "year", desc := "(III)I" } : Jvm.MethodName) prog_11_method_68_code (8 : Nat) (Option.some Jvm.ClassFile.FieldType.int) ∈ pg_T.2.1 := pg_wd (i := 1072) (by decide +kernel)
theorem wd1073 : Cond.constantLong "VeilNationsModel" (290 : Nat) (9999 : Int64) ∈ pg_T.2.1 := pg_wd (i := 1073) (by decide +kernel)
theorem wd1074 : Cond.constantLong "VeilNationsModel" (292 : Nat) (75 : Int64) ∈ pg_T.2.1 := pg_wd (i := 1074) (by decide +kernel)
theorem wd1075 : Cond.constantLong "VeilNationsModel" (294 : Nat) (74 : Int64) ∈ pg_T.2.1 := pg_wd (i := 1075) (by decide +kernel)
theorem wd1076 : Cond.constantLong "VeilNationsModel" (296 : Nat) (65537 : Int64) ∈ pg_T.2.1 := pg_wd (i := 1076) (by decide +kernel)
theorem wd1077 : Cond.methodLink "VeilNationsModel" (298 : Nat) ({ cls := "VeilNationsModel", name := "actBy", desc := "(I)I" } : Jvm.MethodName) ∈ pg_T.2.1 := pg_wd (i := 1077) (by decide +kernel)
theorem wd1078 : Cond.static ({ cls := "VeilNationsModel", name := "actBy", desc := "(I)I" } : Jvm.MethodName) ∈ pg_T.2.1 := pg_wd (i := 1078) (by decide +kernel)
theorem wd1079 : Cond.code ({ cls := "VeilNationsModel", name := "actBy", desc := "(I)I" } : Jvm.MethodName) prog_11_method_67_code (1 : Nat) (Option.some Jvm.ClassFile.FieldType.int) ∈ pg_T.2.1 := pg_wd (i := 1079) (by decide +kernel)
theorem wd1080 : Cond.methodLink "VeilNationsLaw" (116 : Nat) ({ cls := "VeilNationsModel", name := "image", desc := "(I)I" } : Jvm.MethodName) ∈ pg_T.2.1 := pg_wd (i := 1080) (by decide +kernel)
theorem wd1081 : Cond.instanceMethod ({ cls := "VeilNationsModel", name := "image", desc := "(I)I" } : Jvm.MethodName) ∈ pg_T.2.1 := pg_wd (i := 1081) (by decide +kernel)
theorem wd1082 : Cond.selects "VeilNationsModel" ({ cls := "VeilNationsModel", name := "image", desc := "(I)I" } : Jvm.MethodName) ({ cls := "VeilNationsModel", name := "image", desc := "(I)I" } : Jvm.MethodName) ∈ pg_T.2.1 := pg_wd (i := 1082) (by decide +kernel)
theorem wd1083 : Cond.code ({ cls := "VeilNationsModel", name := "image", desc := "(I)I" } : Jvm.MethodName) prog_11_method_72_code (2 : Nat) (Option.some Jvm.ClassFile.FieldType.int) ∈ pg_T.2.1 := pg_wd (i := 1083) (by decide +kernel)
theorem wd1084 : Cond.methodLink "VeilNationsModel" (315 : Nat) ({ cls := "VeilNationsModel", name := "passAll", desc := "()V" } : Jvm.MethodName) ∈ pg_T.2.1 := pg_wd (i := 1084) (by decide +kernel)
theorem wd1086 : Cond.instanceMethod ({ cls := "VeilNationsModel", name := "passAll", desc := "()V" } : Jvm.MethodName) ∈ pg_T.2.1 := pg_wd (i := 1086) (by decide +kernel)
theorem wd1087 : Cond.code ({ cls := "VeilNationsModel", name := "passAll", desc := "()V" } : Jvm.MethodName) prog_11_method_71_code (1 : Nat) (Option.none : Option Jvm.ClassFile.FieldType) ∈ pg_T.2.1 := pg_wd (i := 1087) (by decide +kernel)
theorem wd1088 : Cond.methodLink "VeilNationsModel" (308 : Nat) ({ cls := "VeilNationsModel", name := "pass", desc := "(I)I" } : Jvm.MethodName) ∈ pg_T.2.1 := pg_wd (i := 1088) (by decide +kernel)
theorem wd1090 : Cond.instanceMethod ({ cls := "VeilNationsModel", name := "pass", desc := "(I)I" } : Jvm.MethodName) ∈ pg_T.2.1 := pg_wd (i := 1090) (by decide +kernel)
theorem wd1091 : Cond.code ({ cls := "VeilNationsModel", name := "pass", desc := "(I)I" } : Jvm.MethodName) prog_11_method_69_code (3 : Nat) (Option.some Jvm.ClassFile.FieldType.int) ∈ pg_T.2.1 := pg_wd (i := 1091) (by decide +kernel)
theorem wd1092 : Cond.methodLink "VeilNationsModel" (311 : Nat) ({ cls := "VeilNationsModel", name := "passRow", desc := "([II)V" } : Jvm.MethodName) ∈ pg_T.2.1 := pg_wd (i := 1092) (by decide +kernel)
theorem wd1094 : Cond.instanceMethod ({ cls := "VeilNationsModel", name := "passRow", desc := "([II)V" } : Jvm.MethodName) ∈ pg_T.2.1 := pg_wd (i := 1094) (by decide +kernel)
theorem wd1095 : Cond.code ({ cls := "VeilNationsModel", name := "passRow", desc := "([II)V" } : Jvm.MethodName) prog_11_method_70_code (4 : Nat) (Option.none : Option Jvm.ClassFile.FieldType) ∈ pg_T.2.1 := pg_wd (i := 1095) (by decide +kernel)
theorem wd1096 : Cond.methodLink "VeilNationsLaw" (120 : Nat) ({ cls := "VeilNationsModel", name := "restore", desc := "(I)I" } : Jvm.MethodName) ∈ pg_T.2.1 := pg_wd (i := 1096) (by decide +kernel)
theorem wd1097 : Cond.instanceMethod ({ cls := "VeilNationsModel", name := "restore", desc := "(I)I" } : Jvm.MethodName) ∈ pg_T.2.1 := pg_wd (i := 1097) (by decide +kernel)
theorem wd1098 : Cond.selects "VeilNationsModel" ({ cls := "VeilNationsModel", name := "restore", desc := "(I)I" } : Jvm.MethodName) ({ cls := "VeilNationsModel", name := "restore", desc := "(I)I" } : Jvm.MethodName) ∈ pg_T.2.1 := pg_wd (i := 1098) (by decide +kernel)
theorem wd1099 : Cond.code ({ cls := "VeilNationsModel", name := "restore", desc := "(I)I" } : Jvm.MethodName) prog_11_method_73_code (2 : Nat) (Option.some Jvm.ClassFile.FieldType.int) ∈ pg_T.2.1 := pg_wd (i := 1099) (by decide +kernel)
theorem wd1100 : Cond.methodLink "VeilNationsLaw" (124 : Nat) ({ cls := "VeilNationsModel", name := "told", desc := "(I)I" } : Jvm.MethodName) ∈ pg_T.2.1 := pg_wd (i := 1100) (by decide +kernel)
theorem wd1101 : Cond.instanceMethod ({ cls := "VeilNationsModel", name := "told", desc := "(I)I" } : Jvm.MethodName) ∈ pg_T.2.1 := pg_wd (i := 1101) (by decide +kernel)
theorem wd1102 : Cond.selects "VeilNationsModel" ({ cls := "VeilNationsModel", name := "told", desc := "(I)I" } : Jvm.MethodName) ({ cls := "VeilNationsModel", name := "told", desc := "(I)I" } : Jvm.MethodName) ∈ pg_T.2.1 := pg_wd (i := 1102) (by decide +kernel)
theorem wd1103 : Cond.code ({ cls := "VeilNationsModel", name := "told", desc := "(I)I" } : Jvm.MethodName) prog_11_method_75_code (2 : Nat) (Option.some Jvm.ClassFile.FieldType.int) ∈ pg_T.2.1 := pg_wd (i := 1103) (by decide +kernel)
theorem wd1104 : Cond.constantLong "VeilNationsModel" (318 : Nat) (100 : Int64) ∈ pg_T.2.1 := pg_wd (i := 1104) (by decide +kernel)
theorem wd1105 : Cond.constantLong "VeilNationsModel" (320 : Nat) (179 : Int64) ∈ pg_T.2.1 := pg_wd (i := 1105) (by decide +kernel)
theorem wd1106 : Cond.methodLink "VeilNationsModel" (322 : Nat) ({ cls := "VeilNationsModel", name := "toldOne", desc := "(II)I" } : Jvm.MethodName) ∈ pg_T.2.1 := pg_wd (i := 1106) (by decide +kernel)
theorem wd1108 : Cond.instanceMethod ({ cls := "VeilNationsModel", name := "toldOne", desc := "(II)I" } : Jvm.MethodName) ∈ pg_T.2.1 := pg_wd (i := 1108) (by decide +kernel)
theorem wd1109 : Cond.code ({ cls := "VeilNationsModel", name := "toldOne", desc := "(II)I" } : Jvm.MethodName) prog_11_method_74_code (3 : Nat) (Option.some Jvm.ClassFile.FieldType.int) ∈ pg_T.2.1 := pg_wd (i := 1109) (by decide +kernel)
theorem wd1110 : Cond.constantLong "VeilNationsModel" (325 : Nat) (10 : Int64) ∈ pg_T.2.1 := pg_wd (i := 1110) (by decide +kernel)
theorem wd1111 : Cond.constantLong "VeilNationsModel" (327 : Nat) (17 : Int64) ∈ pg_T.2.1 := pg_wd (i := 1111) (by decide +kernel)
theorem wd1112 : Cond.constantLong "VeilNationsModel" (329 : Nat) (25 : Int64) ∈ pg_T.2.1 := pg_wd (i := 1112) (by decide +kernel)
theorem wd1113 : Cond.constantLong "VeilNationsModel" (331 : Nat) (30 : Int64) ∈ pg_T.2.1 := pg_wd (i := 1113) (by decide +kernel)
theorem wd1114 : Cond.constantLong "VeilNationsModel" (333 : Nat) (35 : Int64) ∈ pg_T.2.1 := pg_wd (i := 1114) (by decide +kernel)
theorem hin0 : ∀ v ∈ u_ws "VeilNations$Calls" pTX0 2, v ∈ pg_T.2.1 := by
  show ∀ v ∈ ([u_lay "VeilNations$Calls" pTX0 0, u_lay "VeilNations$Calls" pTX0 1] : List Cond), v ∈ pg_T.2.1
  exact List.forall_mem_cons.mpr ⟨wd126, List.forall_mem_cons.mpr ⟨wd128, fun _ h => absurd h List.not_mem_nil⟩⟩
theorem hin1 : ∀ v ∈ u_ws "VeilNations$Course" pTX1 6, v ∈ pg_T.2.1 := by
  show ∀ v ∈ ([u_lay "VeilNations$Course" pTX1 0, u_lay "VeilNations$Course" pTX1 1, u_lay "VeilNations$Course" pTX1 2, u_lay "VeilNations$Course" pTX1 3, u_lay "VeilNations$Course" pTX1 4, u_lay "VeilNations$Course" pTX1 5] : List Cond), v ∈ pg_T.2.1
  exact List.forall_mem_cons.mpr ⟨wd212, List.forall_mem_cons.mpr ⟨wd214, List.forall_mem_cons.mpr ⟨wd216, List.forall_mem_cons.mpr ⟨wd218, List.forall_mem_cons.mpr ⟨wd220, List.forall_mem_cons.mpr ⟨wd222, fun _ h => absurd h List.not_mem_nil⟩⟩⟩⟩⟩⟩
theorem hin2 : ∀ v ∈ u_ws "VeilNations$Pad" pTX2 6, v ∈ pg_T.2.1 := by
  show ∀ v ∈ ([u_lay "VeilNations$Pad" pTX2 0, u_lay "VeilNations$Pad" pTX2 1, u_lay "VeilNations$Pad" pTX2 2, u_lay "VeilNations$Pad" pTX2 3, u_lay "VeilNations$Pad" pTX2 4, u_lay "VeilNations$Pad" pTX2 5] : List Cond), v ∈ pg_T.2.1
  exact List.forall_mem_cons.mpr ⟨wd179, List.forall_mem_cons.mpr ⟨wd181, List.forall_mem_cons.mpr ⟨wd183, List.forall_mem_cons.mpr ⟨wd185, List.forall_mem_cons.mpr ⟨wd187, List.forall_mem_cons.mpr ⟨wd189, fun _ h => absurd h List.not_mem_nil⟩⟩⟩⟩⟩⟩
theorem hin3 : ∀ v ∈ u_ws "VeilNations$Rhythms" pTX3 2, v ∈ pg_T.2.1 := by
  show ∀ v ∈ ([u_lay "VeilNations$Rhythms" pTX3 0, u_lay "VeilNations$Rhythms" pTX3 1] : List Cond), v ∈ pg_T.2.1
  exact List.forall_mem_cons.mpr ⟨wd236, List.forall_mem_cons.mpr ⟨wd238, fun _ h => absurd h List.not_mem_nil⟩⟩
theorem hin4 : ∀ v ∈ u_ws "VeilNations$Sights" pTX4 3, v ∈ pg_T.2.1 := by
  show ∀ v ∈ ([u_lay "VeilNations$Sights" pTX4 0, u_lay "VeilNations$Sights" pTX4 1, u_lay "VeilNations$Sights" pTX4 2] : List Cond), v ∈ pg_T.2.1
  exact List.forall_mem_cons.mpr ⟨wd141, List.forall_mem_cons.mpr ⟨wd143, List.forall_mem_cons.mpr ⟨wd145, fun _ h => absurd h List.not_mem_nil⟩⟩⟩
theorem hin5 : ∀ v ∈ u_ws "VeilNations$Stamps" pTX5 2, v ∈ pg_T.2.1 := by
  show ∀ v ∈ ([u_lay "VeilNations$Stamps" pTX5 0, u_lay "VeilNations$Stamps" pTX5 1] : List Cond), v ∈ pg_T.2.1
  exact List.forall_mem_cons.mpr ⟨wd249, List.forall_mem_cons.mpr ⟨wd251, fun _ h => absurd h List.not_mem_nil⟩⟩
theorem hin6 : ∀ v ∈ u_ws "VeilNations$Whole" pTX6 4, v ∈ pg_T.2.1 := by
  show ∀ v ∈ ([u_lay "VeilNations$Whole" pTX6 0, u_lay "VeilNations$Whole" pTX6 1, u_lay "VeilNations$Whole" pTX6 2, u_lay "VeilNations$Whole" pTX6 3] : List Cond), v ∈ pg_T.2.1
  exact List.forall_mem_cons.mpr ⟨wd155, List.forall_mem_cons.mpr ⟨wd157, List.forall_mem_cons.mpr ⟨wd159, List.forall_mem_cons.mpr ⟨wd161, fun _ h => absurd h List.not_mem_nil⟩⟩⟩⟩
theorem hin7 : ∀ v ∈ u_ws "VeilNations$World" pTX7 8, v ∈ pg_T.2.1 := by
  show ∀ v ∈ ([u_lay "VeilNations$World" pTX7 0, u_lay "VeilNations$World" pTX7 1, u_lay "VeilNations$World" pTX7 2, u_lay "VeilNations$World" pTX7 3, u_lay "VeilNations$World" pTX7 4, u_lay "VeilNations$World" pTX7 5, u_lay "VeilNations$World" pTX7 6, u_lay "VeilNations$World" pTX7 7] : List Cond), v ∈ pg_T.2.1
  exact List.forall_mem_cons.mpr ⟨wd100, List.forall_mem_cons.mpr ⟨wd102, List.forall_mem_cons.mpr ⟨wd104, List.forall_mem_cons.mpr ⟨wd106, List.forall_mem_cons.mpr ⟨wd108, List.forall_mem_cons.mpr ⟨wd110, List.forall_mem_cons.mpr ⟨wd112, List.forall_mem_cons.mpr ⟨wd114, fun _ h => absurd h List.not_mem_nil⟩⟩⟩⟩⟩⟩⟩⟩
theorem hin8 : ∀ v ∈ u_ws "VeilNations" pTX8 8, v ∈ pg_T.2.1 := by
  show ∀ v ∈ ([u_lay "VeilNations" pTX8 0, u_lay "VeilNations" pTX8 1, u_lay "VeilNations" pTX8 2, u_lay "VeilNations" pTX8 3, u_lay "VeilNations" pTX8 4, u_lay "VeilNations" pTX8 5, u_lay "VeilNations" pTX8 6, u_lay "VeilNations" pTX8 7] : List Cond), v ∈ pg_T.2.1
  exact List.forall_mem_cons.mpr ⟨wd262, List.forall_mem_cons.mpr ⟨wd264, List.forall_mem_cons.mpr ⟨wd266, List.forall_mem_cons.mpr ⟨wd268, List.forall_mem_cons.mpr ⟨wd270, List.forall_mem_cons.mpr ⟨wd272, List.forall_mem_cons.mpr ⟨wd274, List.forall_mem_cons.mpr ⟨wd276, fun _ h => absurd h List.not_mem_nil⟩⟩⟩⟩⟩⟩⟩⟩
theorem hin9 : ∀ v ∈ u_ws "VeilNationsModel" pTX9 34, v ∈ pg_T.2.1 := by
  show ∀ v ∈ ([u_lay "VeilNationsModel" pTX9 0, u_lay "VeilNationsModel" pTX9 1, u_lay "VeilNationsModel" pTX9 2, u_lay "VeilNationsModel" pTX9 3, u_lay "VeilNationsModel" pTX9 4, u_lay "VeilNationsModel" pTX9 5, u_lay "VeilNationsModel" pTX9 6, u_lay "VeilNationsModel" pTX9 7, u_lay "VeilNationsModel" pTX9 8, u_lay "VeilNationsModel" pTX9 9, u_lay "VeilNationsModel" pTX9 10, u_lay "VeilNationsModel" pTX9 11, u_lay "VeilNationsModel" pTX9 12, u_lay "VeilNationsModel" pTX9 13, u_lay "VeilNationsModel" pTX9 14, u_lay "VeilNationsModel" pTX9 15, u_lay "VeilNationsModel" pTX9 16, u_lay "VeilNationsModel" pTX9 17, u_lay "VeilNationsModel" pTX9 18, u_lay "VeilNationsModel" pTX9 19, u_lay "VeilNationsModel" pTX9 20, u_lay "VeilNationsModel" pTX9 21, u_lay "VeilNationsModel" pTX9 22, u_lay "VeilNationsModel" pTX9 23, u_lay "VeilNationsModel" pTX9 24, u_lay "VeilNationsModel" pTX9 25, u_lay "VeilNationsModel" pTX9 26, u_lay "VeilNationsModel" pTX9 27, u_lay "VeilNationsModel" pTX9 28, u_lay "VeilNationsModel" pTX9 29, u_lay "VeilNationsModel" pTX9 30, u_lay "VeilNationsModel" pTX9 31, u_lay "VeilNationsModel" pTX9 32, u_lay "VeilNationsModel" pTX9 33] : List Cond), v ∈ pg_T.2.1
  exact List.forall_mem_cons.mpr ⟨wd733, List.forall_mem_cons.mpr ⟨wd735, List.forall_mem_cons.mpr ⟨wd737, List.forall_mem_cons.mpr ⟨wd739, List.forall_mem_cons.mpr ⟨wd741, List.forall_mem_cons.mpr ⟨wd743, List.forall_mem_cons.mpr ⟨wd745, List.forall_mem_cons.mpr ⟨wd747, List.forall_mem_cons.mpr ⟨wd749, List.forall_mem_cons.mpr ⟨wd751, List.forall_mem_cons.mpr ⟨wd753, List.forall_mem_cons.mpr ⟨wd755, List.forall_mem_cons.mpr ⟨wd757, List.forall_mem_cons.mpr ⟨wd759, List.forall_mem_cons.mpr ⟨wd761, List.forall_mem_cons.mpr ⟨wd763, List.forall_mem_cons.mpr ⟨wd765, List.forall_mem_cons.mpr ⟨wd767, List.forall_mem_cons.mpr ⟨wd769, List.forall_mem_cons.mpr ⟨wd771, List.forall_mem_cons.mpr ⟨wd773, List.forall_mem_cons.mpr ⟨wd775, List.forall_mem_cons.mpr ⟨wd777, List.forall_mem_cons.mpr ⟨wd779, List.forall_mem_cons.mpr ⟨wd781, List.forall_mem_cons.mpr ⟨wd783, List.forall_mem_cons.mpr ⟨wd785, List.forall_mem_cons.mpr ⟨wd787, List.forall_mem_cons.mpr ⟨wd789, List.forall_mem_cons.mpr ⟨wd791, List.forall_mem_cons.mpr ⟨wd793, List.forall_mem_cons.mpr ⟨wd795, List.forall_mem_cons.mpr ⟨wd797, List.forall_mem_cons.mpr ⟨wd799, fun _ h => absurd h List.not_mem_nil⟩⟩⟩⟩⟩⟩⟩⟩⟩⟩⟩⟩⟩⟩⟩⟩⟩⟩⟩⟩⟩⟩⟩⟩⟩⟩⟩⟩⟩⟩⟩⟩⟩⟩
theorem mf0 : pm_MF pg 0 := ⟨(by decide +kernel), (by decide +kernel), (by decide +kernel), (by decide +kernel)⟩
theorem mf1 : pm_MF pg 1 := ⟨(by decide +kernel), (by decide +kernel), (by decide +kernel), (by decide +kernel)⟩
theorem mf2 : pm_MF pg 2 := ⟨(by decide +kernel), (by decide +kernel), (by decide +kernel), (by decide +kernel)⟩
theorem mf3 : pm_MF pg 3 := ⟨(by decide +kernel), (by decide +kernel), (by decide +kernel), (by decide +kernel)⟩
theorem mf4 : pm_MF pg 4 := ⟨(by decide +kernel), (by decide +kernel), (by decide +kernel), (by decide +kernel)⟩
theorem mf5 : pm_MF pg 5 := ⟨(by decide +kernel), (by decide +kernel), (by decide +kernel), (by decide +kernel)⟩
theorem mf6 : pm_MF pg 6 := ⟨(by decide +kernel), (by decide +kernel), (by decide +kernel), (by decide +kernel)⟩
theorem mf7 : pm_MF pg 7 := ⟨(by decide +kernel), (by decide +kernel), (by decide +kernel), (by decide +kernel)⟩
theorem mf8 : pm_MF pg 8 := ⟨(by decide +kernel), (by decide +kernel), (by decide +kernel), (by decide +kernel)⟩
theorem mf9 : pm_MF pg 9 := ⟨(by decide +kernel), (by decide +kernel), (by decide +kernel), (by decide +kernel)⟩
theorem mf10 : pm_MF pg 10 := ⟨(by decide +kernel), (by decide +kernel), (by decide +kernel), (by decide +kernel)⟩
theorem mf11 : pm_MF pg 11 := ⟨(by decide +kernel), (by decide +kernel), (by decide +kernel), (by decide +kernel)⟩
theorem mf12 : pm_MF pg 12 := ⟨(by decide +kernel), (by decide +kernel), (by decide +kernel), (by decide +kernel)⟩
theorem mf13 : pm_MF pg 13 := ⟨(by decide +kernel), (by decide +kernel), (by decide +kernel), (by decide +kernel)⟩
theorem mf14 : pm_MF pg 14 := ⟨(by decide +kernel), (by decide +kernel), (by decide +kernel), (by decide +kernel)⟩
theorem mf15 : pm_MF pg 15 := ⟨(by decide +kernel), (by decide +kernel), (by decide +kernel), (by decide +kernel)⟩
theorem mf16 : pm_MF pg 16 := ⟨(by decide +kernel), (by decide +kernel), (by decide +kernel), (by decide +kernel)⟩
theorem mf17 : pm_MF pg 17 := ⟨(by decide +kernel), (by decide +kernel), (by decide +kernel), (by decide +kernel)⟩
theorem mf18 : pm_MF pg 18 := ⟨(by decide +kernel), (by decide +kernel), (by decide +kernel), (by decide +kernel)⟩
theorem mf19 : pm_MF pg 19 := ⟨(by decide +kernel), (by decide +kernel), (by decide +kernel), (by decide +kernel)⟩
theorem mf20 : pm_MF pg 20 := ⟨(by decide +kernel), (by decide +kernel), (by decide +kernel), (by decide +kernel)⟩
theorem mf21 : pm_MF pg 21 := ⟨(by decide +kernel), (by decide +kernel), (by decide +kernel), (by decide +kernel)⟩
theorem mf22 : pm_MF pg 22 := ⟨(by decide +kernel), (by decide +kernel), (by decide +kernel), (by decide +kernel)⟩
theorem mf23 : pm_MF pg 23 := ⟨(by decide +kernel), (by decide +kernel), (by decide +kernel), (by decide +kernel)⟩
theorem mf24 : pm_MF pg 24 := ⟨(by decide +kernel), (by decide +kernel), (by decide +kernel), (by decide +kernel)⟩
theorem mf25 : pm_MF pg 25 := ⟨(by decide +kernel), (by decide +kernel), (by decide +kernel), (by decide +kernel)⟩
theorem mf26 : pm_MF pg 26 := ⟨(by decide +kernel), (by decide +kernel), (by decide +kernel), (by decide +kernel)⟩
theorem mf27 : pm_MF pg 27 := ⟨(by decide +kernel), (by decide +kernel), (by decide +kernel), (by decide +kernel)⟩
theorem mf28 : pm_MF pg 28 := ⟨(by decide +kernel), (by decide +kernel), (by decide +kernel), (by decide +kernel)⟩
theorem mf29 : pm_MF pg 29 := ⟨(by decide +kernel), (by decide +kernel), (by decide +kernel), (by decide +kernel)⟩
theorem mf30 : pm_MF pg 30 := ⟨(by decide +kernel), (by decide +kernel), (by decide +kernel), (by decide +kernel)⟩
theorem mf31 : pm_MF pg 31 := ⟨(by decide +kernel), (by decide +kernel), (by decide +kernel), (by decide +kernel)⟩
theorem mf32 : pm_MF pg 32 := ⟨(by decide +kernel), (by decide +kernel), (by decide +kernel), (by decide +kernel)⟩
theorem mf33 : pm_MF pg 33 := ⟨(by decide +kernel), (by decide +kernel), (by decide +kernel), (by decide +kernel)⟩
theorem mf34 : pm_MF pg 34 := ⟨(by decide +kernel), (by decide +kernel), (by decide +kernel), (by decide +kernel)⟩
theorem mf35 : pm_MF pg 35 := ⟨(by decide +kernel), (by decide +kernel), (by decide +kernel), (by decide +kernel)⟩
theorem mf36 : pm_MF pg 36 := ⟨(by decide +kernel), (by decide +kernel), (by decide +kernel), (by decide +kernel)⟩
theorem mf37 : pm_MF pg 37 := ⟨(by decide +kernel), (by decide +kernel), (by decide +kernel), (by decide +kernel)⟩
theorem mf38 : pm_MF pg 38 := ⟨(by decide +kernel), (by decide +kernel), (by decide +kernel), (by decide +kernel)⟩
theorem mf39 : pm_MF pg 39 := ⟨(by decide +kernel), (by decide +kernel), (by decide +kernel), (by decide +kernel)⟩
theorem mf40 : pm_MF pg 40 := ⟨(by decide +kernel), (by decide +kernel), (by decide +kernel), (by decide +kernel)⟩
theorem mf41 : pm_MF pg 41 := ⟨(by decide +kernel), (by decide +kernel), (by decide +kernel), (by decide +kernel)⟩
theorem mf42 : pm_MF pg 42 := ⟨(by decide +kernel), (by decide +kernel), (by decide +kernel), (by decide +kernel)⟩
theorem mf43 : pm_MF pg 43 := ⟨(by decide +kernel), (by decide +kernel), (by decide +kernel), (by decide +kernel)⟩
theorem mf44 : pm_MF pg 44 := ⟨(by decide +kernel), (by decide +kernel), (by decide +kernel), (by decide +kernel)⟩
theorem mf45 : pm_MF pg 45 := ⟨(by decide +kernel), (by decide +kernel), (by decide +kernel), (by decide +kernel)⟩
theorem mf46 : pm_MF pg 46 := ⟨(by decide +kernel), (by decide +kernel), (by decide +kernel), (by decide +kernel)⟩
theorem mf47 : pm_MF pg 47 := ⟨(by decide +kernel), (by decide +kernel), (by decide +kernel), (by decide +kernel)⟩
theorem mf48 : pm_MF pg 48 := ⟨(by decide +kernel), (by decide +kernel), (by decide +kernel), (by decide +kernel)⟩
theorem mf49 : pm_MF pg 49 := ⟨(by decide +kernel), (by decide +kernel), (by decide +kernel), (by decide +kernel)⟩
theorem mf50 : pm_MF pg 50 := ⟨(by decide +kernel), (by decide +kernel), (by decide +kernel), (by decide +kernel)⟩
theorem mf51 : pm_MF pg 51 := ⟨(by decide +kernel), (by decide +kernel), (by decide +kernel), (by decide +kernel)⟩
theorem mf52 : pm_MF pg 52 := ⟨(by decide +kernel), (by decide +kernel), (by decide +kernel), (by decide +kernel)⟩
theorem mf53 : pm_MF pg 53 := ⟨(by decide +kernel), (by decide +kernel), (by decide +kernel), (by decide +kernel)⟩
theorem mf54 : pm_MF pg 54 := ⟨(by decide +kernel), (by decide +kernel), (by decide +kernel), (by decide +kernel)⟩
theorem mf55 : pm_MF pg 55 := ⟨(by decide +kernel), (by decide +kernel), (by decide +kernel), (by decide +kernel)⟩
theorem mf56 : pm_MF pg 56 := ⟨(by decide +kernel), (by decide +kernel), (by decide +kernel), (by decide +kernel)⟩
theorem mf57 : pm_MF pg 57 := ⟨(by decide +kernel), (by decide +kernel), (by decide +kernel), (by decide +kernel)⟩
theorem mf58 : pm_MF pg 58 := ⟨(by decide +kernel), (by decide +kernel), (by decide +kernel), (by decide +kernel)⟩
theorem mf59 : pm_MF pg 59 := ⟨(by decide +kernel), (by decide +kernel), (by decide +kernel), (by decide +kernel)⟩
theorem mf60 : pm_MF pg 60 := ⟨(by decide +kernel), (by decide +kernel), (by decide +kernel), (by decide +kernel)⟩
theorem mf61 : pm_MF pg 61 := ⟨(by decide +kernel), (by decide +kernel), (by decide +kernel), (by decide +kernel)⟩
theorem mf62 : pm_MF pg 62 := ⟨(by decide +kernel), (by decide +kernel), (by decide +kernel), (by decide +kernel)⟩
theorem mf63 : pm_MF pg 63 := ⟨(by decide +kernel), (by decide +kernel), (by decide +kernel), (by decide +kernel)⟩
theorem mf64 : pm_MF pg 64 := ⟨(by decide +kernel), (by decide +kernel), (by decide +kernel), (by decide +kernel)⟩
theorem mf65 : pm_MF pg 65 := ⟨(by decide +kernel), (by decide +kernel), (by decide +kernel), (by decide +kernel)⟩
theorem mf66 : pm_MF pg 66 := ⟨(by decide +kernel), (by decide +kernel), (by decide +kernel), (by decide +kernel)⟩
theorem mf67 : pm_MF pg 67 := ⟨(by decide +kernel), (by decide +kernel), (by decide +kernel), (by decide +kernel)⟩
theorem mf68 : pm_MF pg 68 := ⟨(by decide +kernel), (by decide +kernel), (by decide +kernel), (by decide +kernel)⟩
theorem mf69 : pm_MF pg 69 := ⟨(by decide +kernel), (by decide +kernel), (by decide +kernel), (by decide +kernel)⟩
theorem mf70 : pm_MF pg 70 := ⟨(by decide +kernel), (by decide +kernel), (by decide +kernel), (by decide +kernel)⟩
theorem mf71 : pm_MF pg 71 := ⟨(by decide +kernel), (by decide +kernel), (by decide +kernel), (by decide +kernel)⟩
theorem mf72 : pm_MF pg 72 := ⟨(by decide +kernel), (by decide +kernel), (by decide +kernel), (by decide +kernel)⟩
theorem mf73 : pm_MF pg 73 := ⟨(by decide +kernel), (by decide +kernel), (by decide +kernel), (by decide +kernel)⟩
theorem mf74 : pm_MF pg 74 := ⟨(by decide +kernel), (by decide +kernel), (by decide +kernel), (by decide +kernel)⟩
theorem mf75 : pm_MF pg 75 := ⟨(by decide +kernel), (by decide +kernel), (by decide +kernel), (by decide +kernel)⟩
theorem mf76 : pm_MF pg 76 := ⟨(by decide +kernel), (by decide +kernel), (by decide +kernel), (by decide +kernel)⟩
theorem mf77 : pm_MF pg 77 := ⟨(by decide +kernel), (by decide +kernel), (by decide +kernel), (by decide +kernel)⟩
theorem mf78 : pm_MF pg 78 := ⟨(by decide +kernel), (by decide +kernel), (by decide +kernel), (by decide +kernel)⟩
theorem mf79 : pm_MF pg 79 := ⟨(by decide +kernel), (by decide +kernel), (by decide +kernel), (by decide +kernel)⟩
theorem mf80 : pm_MF pg 80 := ⟨(by decide +kernel), (by decide +kernel), (by decide +kernel), (by decide +kernel)⟩
theorem mf81 : pm_MF pg 81 := ⟨(by decide +kernel), (by decide +kernel), (by decide +kernel), (by decide +kernel)⟩
theorem mf82 : pm_MF pg 82 := ⟨(by decide +kernel), (by decide +kernel), (by decide +kernel), (by decide +kernel)⟩
theorem mf83 : pm_MF pg 83 := ⟨(by decide +kernel), (by decide +kernel), (by decide +kernel), (by decide +kernel)⟩
theorem mf84 : pm_MF pg 84 := ⟨(by decide +kernel), (by decide +kernel), (by decide +kernel), (by decide +kernel)⟩
theorem mf85 : pm_MF pg 85 := ⟨(by decide +kernel), (by decide +kernel), (by decide +kernel), (by decide +kernel)⟩
theorem mf86 : pm_MF pg 86 := ⟨(by decide +kernel), (by decide +kernel), (by decide +kernel), (by decide +kernel)⟩
theorem mf87 : pm_MF pg 87 := ⟨(by decide +kernel), (by decide +kernel), (by decide +kernel), (by decide +kernel)⟩
theorem mf88 : pm_MF pg 88 := ⟨(by decide +kernel), (by decide +kernel), (by decide +kernel), (by decide +kernel)⟩
theorem mf89 : pm_MF pg 89 := ⟨(by decide +kernel), (by decide +kernel), (by decide +kernel), (by decide +kernel)⟩
theorem mf90 : pm_MF pg 90 := ⟨(by decide +kernel), (by decide +kernel), (by decide +kernel), (by decide +kernel)⟩
theorem mf91 : pm_MF pg 91 := ⟨(by decide +kernel), (by decide +kernel), (by decide +kernel), (by decide +kernel)⟩
theorem mf92 : pm_MF pg 92 := ⟨(by decide +kernel), (by decide +kernel), (by decide +kernel), (by decide +kernel)⟩
theorem mf93 : pm_MF pg 93 := ⟨(by decide +kernel), (by decide +kernel), (by decide +kernel), (by decide +kernel)⟩
theorem mf94 : pm_MF pg 94 := ⟨(by decide +kernel), (by decide +kernel), (by decide +kernel), (by decide +kernel)⟩
theorem mf95 : pm_MF pg 95 := ⟨(by decide +kernel), (by decide +kernel), (by decide +kernel), (by decide +kernel)⟩
theorem mf96 : pm_MF pg 96 := ⟨(by decide +kernel), (by decide +kernel), (by decide +kernel), (by decide +kernel)⟩
theorem mf97 : pm_MF pg 97 := ⟨(by decide +kernel), (by decide +kernel), (by decide +kernel), (by decide +kernel)⟩
theorem mf98 : pm_MF pg 98 := ⟨(by decide +kernel), (by decide +kernel), (by decide +kernel), (by decide +kernel)⟩
theorem mf99 : pm_MF pg 99 := ⟨(by decide +kernel), (by decide +kernel), (by decide +kernel), (by decide +kernel)⟩
theorem mf100 : pm_MF pg 100 := ⟨(by decide +kernel), (by decide +kernel), (by decide +kernel), (by decide +kernel)⟩
theorem mf101 : pm_MF pg 101 := ⟨(by decide +kernel), (by decide +kernel), (by decide +kernel), (by decide +kernel)⟩
theorem mf102 : pm_MF pg 102 := ⟨(by decide +kernel), (by decide +kernel), (by decide +kernel), (by decide +kernel)⟩
theorem mf103 : pm_MF pg 103 := ⟨(by decide +kernel), (by decide +kernel), (by decide +kernel), (by decide +kernel)⟩
theorem mf104 : pm_MF pg 104 := ⟨(by decide +kernel), (by decide +kernel), (by decide +kernel), (by decide +kernel)⟩
theorem mf105 : pm_MF pg 105 := ⟨(by decide +kernel), (by decide +kernel), (by decide +kernel), (by decide +kernel)⟩
theorem mf106 : pm_MF pg 106 := ⟨(by decide +kernel), (by decide +kernel), (by decide +kernel), (by decide +kernel)⟩
theorem mf107 : pm_MF pg 107 := ⟨(by decide +kernel), (by decide +kernel), (by decide +kernel), (by decide +kernel)⟩
theorem mf108 : pm_MF pg 108 := ⟨(by decide +kernel), (by decide +kernel), (by decide +kernel), (by decide +kernel)⟩
theorem mf109 : pm_MF pg 109 := ⟨(by decide +kernel), (by decide +kernel), (by decide +kernel), (by decide +kernel)⟩
theorem mf110 : pm_MF pg 110 := ⟨(by decide +kernel), (by decide +kernel), (by decide +kernel), (by decide +kernel)⟩
theorem mf111 : pm_MF pg 111 := ⟨(by decide +kernel), (by decide +kernel), (by decide +kernel), (by decide +kernel)⟩
theorem mf112 : pm_MF pg 112 := ⟨(by decide +kernel), (by decide +kernel), (by decide +kernel), (by decide +kernel)⟩
theorem mf113 : pm_MF pg 113 := ⟨(by decide +kernel), (by decide +kernel), (by decide +kernel), (by decide +kernel)⟩
theorem mf114 : pm_MF pg 114 := ⟨(by decide +kernel), (by decide +kernel), (by decide +kernel), (by decide +kernel)⟩
theorem mf115 : pm_MF pg 115 := ⟨(by decide +kernel), (by decide +kernel), (by decide +kernel), (by decide +kernel)⟩
theorem mf116 : pm_MF pg 116 := ⟨(by decide +kernel), (by decide +kernel), (by decide +kernel), (by decide +kernel)⟩
theorem mf117 : pm_MF pg 117 := ⟨(by decide +kernel), (by decide +kernel), (by decide +kernel), (by decide +kernel)⟩
theorem mf118 : pm_MF pg 118 := ⟨(by decide +kernel), (by decide +kernel), (by decide +kernel), (by decide +kernel)⟩
theorem mf119 : pm_MF pg 119 := ⟨(by decide +kernel), (by decide +kernel), (by decide +kernel), (by decide +kernel)⟩
theorem mf120 : pm_MF pg 120 := ⟨(by decide +kernel), (by decide +kernel), (by decide +kernel), (by decide +kernel)⟩
theorem mf121 : pm_MF pg 121 := ⟨(by decide +kernel), (by decide +kernel), (by decide +kernel), (by decide +kernel)⟩
theorem mf122 : pm_MF pg 122 := ⟨(by decide +kernel), (by decide +kernel), (by decide +kernel), (by decide +kernel)⟩
theorem mf123 : pm_MF pg 123 := ⟨(by decide +kernel), (by decide +kernel), (by decide +kernel), (by decide +kernel)⟩
theorem mf124 : pm_MF pg 124 := ⟨(by decide +kernel), (by decide +kernel), (by decide +kernel), (by decide +kernel)⟩
theorem mf125 : pm_MF pg 125 := ⟨(by decide +kernel), (by decide +kernel), (by decide +kernel), (by decide +kernel)⟩
theorem mf126 : pm_MF pg 126 := ⟨(by decide +kernel), (by decide +kernel), (by decide +kernel), (by decide +kernel)⟩
theorem mf127 : pm_MF pg 127 := ⟨(by decide +kernel), (by decide +kernel), (by decide +kernel), (by decide +kernel)⟩
theorem mf128 : pm_MF pg 128 := ⟨(by decide +kernel), (by decide +kernel), (by decide +kernel), (by decide +kernel)⟩
theorem mf129 : pm_MF pg 129 := ⟨(by decide +kernel), (by decide +kernel), (by decide +kernel), (by decide +kernel)⟩
theorem mf130 : pm_MF pg 130 := ⟨(by decide +kernel), (by decide +kernel), (by decide +kernel), (by decide +kernel)⟩
theorem mf131 : pm_MF pg 131 := ⟨(by decide +kernel), (by decide +kernel), (by decide +kernel), (by decide +kernel)⟩
theorem mf132 : pm_MF pg 132 := ⟨(by decide +kernel), (by decide +kernel), (by decide +kernel), (by decide +kernel)⟩
theorem mf133 : pm_MF pg 133 := ⟨(by decide +kernel), (by decide +kernel), (by decide +kernel), (by decide +kernel)⟩
theorem mf134 : pm_MF pg 134 := ⟨(by decide +kernel), (by decide +kernel), (by decide +kernel), (by decide +kernel)⟩
theorem mf135 : pm_MF pg 135 := ⟨(by decide +kernel), (by decide +kernel), (by decide +kernel), (by decide +kernel)⟩
theorem mf136 : pm_MF pg 136 := ⟨(by decide +kernel), (by decide +kernel), (by decide +kernel), (by decide +kernel)⟩
theorem mf137 : pm_MF pg 137 := ⟨(by decide +kernel), (by decide +kernel), (by decide +kernel), (by decide +kernel)⟩
theorem mf138 : pm_MF pg 138 := ⟨(by decide +kernel), (by decide +kernel), (by decide +kernel), (by decide +kernel)⟩
theorem mf139 : pm_MF pg 139 := ⟨(by decide +kernel), (by decide +kernel), (by decide +kernel), (by decide +kernel)⟩
theorem mf140 : pm_MF pg 140 := ⟨(by decide +kernel), (by decide +kernel), (by decide +kernel), (by decide +kernel)⟩
theorem mf141 : pm_MF pg 141 := ⟨(by decide +kernel), (by decide +kernel), (by decide +kernel), (by decide +kernel)⟩
theorem mf142 : pm_MF pg 142 := ⟨(by decide +kernel), (by decide +kernel), (by decide +kernel), (by decide +kernel)⟩
theorem mf143 : pm_MF pg 143 := ⟨(by decide +kernel), (by decide +kernel), (by decide +kernel), (by decide +kernel)⟩
theorem mf144 : pm_MF pg 144 := ⟨(by decide +kernel), (by decide +kernel), (by decide +kernel), (by decide +kernel)⟩
theorem mf145 : pm_MF pg 145 := ⟨(by decide +kernel), (by decide +kernel), (by decide +kernel), (by decide +kernel)⟩
theorem mf146 : pm_MF pg 146 := ⟨(by decide +kernel), (by decide +kernel), (by decide +kernel), (by decide +kernel)⟩
theorem mf147 : pm_MF pg 147 := ⟨(by decide +kernel), (by decide +kernel), (by decide +kernel), (by decide +kernel)⟩
theorem mf148 : pm_MF pg 148 := ⟨(by decide +kernel), (by decide +kernel), (by decide +kernel), (by decide +kernel)⟩
theorem mf149 : pm_MF pg 149 := ⟨(by decide +kernel), (by decide +kernel), (by decide +kernel), (by decide +kernel)⟩
theorem mf150 : pm_MF pg 150 := ⟨(by decide +kernel), (by decide +kernel), (by decide +kernel), (by decide +kernel)⟩
theorem mf151 : pm_MF pg 151 := ⟨(by decide +kernel), (by decide +kernel), (by decide +kernel), (by decide +kernel)⟩
theorem mf152 : pm_MF pg 152 := ⟨(by decide +kernel), (by decide +kernel), (by decide +kernel), (by decide +kernel)⟩
theorem mf153 : pm_MF pg 153 := ⟨(by decide +kernel), (by decide +kernel), (by decide +kernel), (by decide +kernel)⟩
theorem mf154 : pm_MF pg 154 := ⟨(by decide +kernel), (by decide +kernel), (by decide +kernel), (by decide +kernel)⟩
theorem mf155 : pm_MF pg 155 := ⟨(by decide +kernel), (by decide +kernel), (by decide +kernel), (by decide +kernel)⟩
theorem mf156 : pm_MF pg 156 := ⟨(by decide +kernel), (by decide +kernel), (by decide +kernel), (by decide +kernel)⟩
theorem mf157 : pm_MF pg 157 := ⟨(by decide +kernel), (by decide +kernel), (by decide +kernel), (by decide +kernel)⟩
theorem mf158 : pm_MF pg 158 := ⟨(by decide +kernel), (by decide +kernel), (by decide +kernel), (by decide +kernel)⟩
theorem mf159 : pm_MF pg 159 := ⟨(by decide +kernel), (by decide +kernel), (by decide +kernel), (by decide +kernel)⟩
theorem mf160 : pm_MF pg 160 := ⟨(by decide +kernel), (by decide +kernel), (by decide +kernel), (by decide +kernel)⟩
theorem mf161 : pm_MF pg 161 := ⟨(by decide +kernel), (by decide +kernel), (by decide +kernel), (by decide +kernel)⟩
theorem mf162 : pm_MF pg 162 := ⟨(by decide +kernel), (by decide +kernel), (by decide +kernel), (by decide +kernel)⟩
theorem mf163 : pm_MF pg 163 := ⟨(by decide +kernel), (by decide +kernel), (by decide +kernel), (by decide +kernel)⟩
theorem mf164 : pm_MF pg 164 := ⟨(by decide +kernel), (by decide +kernel), (by decide +kernel), (by decide +kernel)⟩
theorem mf165 : pm_MF pg 165 := ⟨(by decide +kernel), (by decide +kernel), (by decide +kernel), (by decide +kernel)⟩
theorem mf166 : pm_MF pg 166 := ⟨(by decide +kernel), (by decide +kernel), (by decide +kernel), (by decide +kernel)⟩
theorem mf167 : pm_MF pg 167 := ⟨(by decide +kernel), (by decide +kernel), (by decide +kernel), (by decide +kernel)⟩
theorem mf168 : pm_MF pg 168 := ⟨(by decide +kernel), (by decide +kernel), (by decide +kernel), (by decide +kernel)⟩
theorem mf169 : pm_MF pg 169 := ⟨(by decide +kernel), (by decide +kernel), (by decide +kernel), (by decide +kernel)⟩
theorem mf170 : pm_MF pg 170 := ⟨(by decide +kernel), (by decide +kernel), (by decide +kernel), (by decide +kernel)⟩
theorem mf171 : pm_MF pg 171 := ⟨(by decide +kernel), (by decide +kernel), (by decide +kernel), (by decide +kernel)⟩
theorem mf172 : pm_MF pg 172 := ⟨(by decide +kernel), (by decide +kernel), (by decide +kernel), (by decide +kernel)⟩
theorem mf173 : pm_MF pg 173 := ⟨(by decide +kernel), (by decide +kernel), (by decide +kernel), (by decide +kernel)⟩
theorem mf174 : pm_MF pg 174 := ⟨(by decide +kernel), (by decide +kernel), (by decide +kernel), (by decide +kernel)⟩
theorem mf175 : pm_MF pg 175 := ⟨(by decide +kernel), (by decide +kernel), (by decide +kernel), (by decide +kernel)⟩
theorem mf176 : pm_MF pg 176 := ⟨(by decide +kernel), (by decide +kernel), (by decide +kernel), (by decide +kernel)⟩
theorem mf177 : pm_MF pg 177 := ⟨(by decide +kernel), (by decide +kernel), (by decide +kernel), (by decide +kernel)⟩
theorem mf178 : pm_MF pg 178 := ⟨(by decide +kernel), (by decide +kernel), (by decide +kernel), (by decide +kernel)⟩
theorem mf179 : pm_MF pg 179 := ⟨(by decide +kernel), (by decide +kernel), (by decide +kernel), (by decide +kernel)⟩
theorem mf180 : pm_MF pg 180 := ⟨(by decide +kernel), (by decide +kernel), (by decide +kernel), (by decide +kernel)⟩
end
section
/-! The machine does what the tables say, instruction by instruction. -/
theorem ok0_0 : pm_okL pg pg_T 0 (16 * 0) [.inl (op_aload 0), .inl op_objinit, .inl (op_aload 0), .inl (op_new 6 [.null, .null, .null, .int 0]), .inl op_dup, .inr (.inl (1, 1, 0, 7)), .inl (op_putA 8 0), .inl (op_aload 0), .inl (op_new 6 [.null, .null, .null, .int 0]), .inl op_dup, .inr (.inl (1, 1, 0, 7)), .inl (op_putA 8 1), .inl (op_aload 0), .inl (op_new 6 [.null, .null, .null, .int 0]), .inl op_dup, .inr (.inl (1, 1, 0, 7))] := ⟨⟨mo_aload, (so_aload_n (n := 0) (by decide +kernel) rfl (by decide +kernel)).sim⟩,
  ⟨mo_objinit, (so_objinit (n := 1) (by decide +kernel) wd74 wd75 wd76 (by decide +kernel)).sim⟩,
  ⟨mo_aload, (so_aload_n (n := 0) (by decide +kernel) rfl (by decide +kernel)).sim⟩,
  ⟨mo_new, so_new (n := 7) (by decide +kernel) rfl hin6 pty6_ok wd77 wd78 wd58 pdf6 (fun _ => rfl) rfl (by decide +kernel)⟩,
  ⟨mo_dup, (so_dup (by decide +kernel) (by decide +kernel)).sim⟩,
  ⟨so_callI (G := pg) (T := pg_T) (k := 0) (i := 5) (y := 1) (n := 9) pg_good (by decide +kernel) wd81 rfl rfl wd79 wd80 wd58 (ci := 6) rfl ⟨(by decide +kernel), (by decide +kernel), (by decide +kernel)⟩ ⟨(by decide +kernel), (by decide +kernel)⟩ (by decide +kernel), mf1⟩,
  ⟨mo_putA, (so_putA (n := 10) (by decide +kernel) (ci := 8) rfl (by decide +kernel) wd254 hin8 pty8_ok pnm8 rfl rfl rfl rfl (by decide +kernel)).sim⟩,
  ⟨mo_aload, (so_aload_n (n := 0) (by decide +kernel) rfl (by decide +kernel)).sim⟩,
  ⟨mo_new, so_new (n := 7) (by decide +kernel) rfl hin6 pty6_ok wd77 wd78 wd58 pdf6 (fun _ => rfl) rfl (by decide +kernel)⟩,
  ⟨mo_dup, (so_dup (by decide +kernel) (by decide +kernel)).sim⟩,
  ⟨so_callI (G := pg) (T := pg_T) (k := 0) (i := 10) (y := 1) (n := 9) pg_good (by decide +kernel) wd81 rfl rfl wd79 wd80 wd58 (ci := 6) rfl ⟨(by decide +kernel), (by decide +kernel), (by decide +kernel)⟩ ⟨(by decide +kernel), (by decide +kernel)⟩ (by decide +kernel), mf1⟩,
  ⟨mo_putA, (so_putA (n := 16) (by decide +kernel) (ci := 8) rfl (by decide +kernel) wd255 hin8 pty8_ok pnm8 rfl rfl rfl rfl (by decide +kernel)).sim⟩,
  ⟨mo_aload, (so_aload_n (n := 0) (by decide +kernel) rfl (by decide +kernel)).sim⟩,
  ⟨mo_new, so_new (n := 7) (by decide +kernel) rfl hin6 pty6_ok wd77 wd78 wd58 pdf6 (fun _ => rfl) rfl (by decide +kernel)⟩,
  ⟨mo_dup, (so_dup (by decide +kernel) (by decide +kernel)).sim⟩,
  ⟨so_callI (G := pg) (T := pg_T) (k := 0) (i := 15) (y := 1) (n := 9) pg_good (by decide +kernel) wd81 rfl rfl wd79 wd80 wd58 (ci := 6) rfl ⟨(by decide +kernel), (by decide +kernel), (by decide +kernel)⟩ ⟨(by decide +kernel), (by decide +kernel)⟩ (by decide +kernel), mf1⟩, trivial⟩
theorem ok0_1 : pm_okL pg pg_T 0 (16 * 1) [.inl (op_putA 8 2), .inl (op_aload 0), .inl (op_new 2 [.null, .null, .null, .null, .int 0, .int 0]), .inl op_dup, .inr (.inl (5, 1, 0, 3)), .inl (op_putA 8 3), .inl (op_aload 0), .inl (op_new 1 [.null, .int 0, .int 0, .int 0, .int 0, .int 0]), .inl op_dup, .inr (.inl (6, 1, 0, 2)), .inl (op_putA 8 4), .inl (op_aload 0), .inl (op_new 7 [.null, .null, .null, .null, .null, .int 0, .int 0, .int 0]), .inl op_dup, .inr (.inl (2, 1, 0, 8)), .inl (op_putA 8 5)] := ⟨⟨mo_putA, (so_putA (n := 19) (by decide +kernel) (ci := 8) rfl (by decide +kernel) wd256 hin8 pty8_ok pnm8 rfl rfl rfl rfl (by decide +kernel)).sim⟩,
  ⟨mo_aload, (so_aload_n (n := 0) (by decide +kernel) rfl (by decide +kernel)).sim⟩,
  ⟨mo_new, so_new (n := 22) (by decide +kernel) rfl hin2 pty2_ok wd164 wd165 wd62 pdf2 (fun _ => rfl) rfl (by decide +kernel)⟩,
  ⟨mo_dup, (so_dup (by decide +kernel) (by decide +kernel)).sim⟩,
  ⟨so_callI (G := pg) (T := pg_T) (k := 0) (i := 20) (y := 5) (n := 24) pg_good (by decide +kernel) wd168 rfl rfl wd166 wd167 wd62 (ci := 2) rfl ⟨(by decide +kernel), (by decide +kernel), (by decide +kernel)⟩ ⟨(by decide +kernel), (by decide +kernel)⟩ (by decide +kernel), mf5⟩,
  ⟨mo_putA, (so_putA (n := 25) (by decide +kernel) (ci := 8) rfl (by decide +kernel) wd257 hin8 pty8_ok pnm8 rfl rfl rfl rfl (by decide +kernel)).sim⟩,
  ⟨mo_aload, (so_aload_n (n := 0) (by decide +kernel) rfl (by decide +kernel)).sim⟩,
  ⟨mo_new, so_new (n := 29) (by decide +kernel) rfl hin1 pty1_ok wd192 wd193 wd63 pdf1 (fun _ => rfl) rfl (by decide +kernel)⟩,
  ⟨mo_dup, (so_dup (by decide +kernel) (by decide +kernel)).sim⟩,
  ⟨so_callI (G := pg) (T := pg_T) (k := 0) (i := 25) (y := 6) (n := 31) pg_good (by decide +kernel) wd196 rfl rfl wd194 wd195 wd63 (ci := 1) rfl ⟨(by decide +kernel), (by decide +kernel), (by decide +kernel)⟩ ⟨(by decide +kernel), (by decide +kernel)⟩ (by decide +kernel), mf6⟩,
  ⟨mo_putA, (so_putA (n := 32) (by decide +kernel) (ci := 8) rfl (by decide +kernel) wd258 hin8 pty8_ok pnm8 rfl rfl rfl rfl (by decide +kernel)).sim⟩,
  ⟨mo_aload, (so_aload_n (n := 0) (by decide +kernel) rfl (by decide +kernel)).sim⟩,
  ⟨mo_new, so_new (n := 36) (by decide +kernel) rfl hin7 pty7_ok wd225 wd84 wd59 pdf7 (fun _ => rfl) rfl (by decide +kernel)⟩,
  ⟨mo_dup, (so_dup (by decide +kernel) (by decide +kernel)).sim⟩,
  ⟨so_callI (G := pg) (T := pg_T) (k := 0) (i := 30) (y := 2) (n := 38) pg_good (by decide +kernel) wd87 rfl rfl wd226 wd86 wd59 (ci := 7) rfl ⟨(by decide +kernel), (by decide +kernel), (by decide +kernel)⟩ ⟨(by decide +kernel), (by decide +kernel)⟩ (by decide +kernel), mf2⟩,
  ⟨mo_putA, (so_putA (n := 39) (by decide +kernel) (ci := 8) rfl (by decide +kernel) wd259 hin8 pty8_ok pnm8 rfl rfl rfl rfl (by decide +kernel)).sim⟩, trivial⟩
theorem ok0_2 : pm_okL pg pg_T 0 (16 * 2) [.inl (op_aload 0), .inl (op_new 3 [.null, .int 0]), .inl op_dup, .inr (.inl (7, 1, 0, 4)), .inl (op_putA 8 6), .inl (op_aload 0), .inl (op_new 5 [.null, .null]), .inl op_dup, .inr (.inl (8, 1, 0, 6)), .inl (op_putA 8 7), .inr (.inr 0)] := ⟨⟨mo_aload, (so_aload_n (n := 0) (by decide +kernel) rfl (by decide +kernel)).sim⟩,
  ⟨mo_new, so_new (n := 43) (by decide +kernel) rfl hin3 pty3_ok wd227 wd228 wd64 pdf3 (fun _ => rfl) rfl (by decide +kernel)⟩,
  ⟨mo_dup, (so_dup (by decide +kernel) (by decide +kernel)).sim⟩,
  ⟨so_callI (G := pg) (T := pg_T) (k := 0) (i := 35) (y := 7) (n := 45) pg_good (by decide +kernel) wd231 rfl rfl wd229 wd230 wd64 (ci := 3) rfl ⟨(by decide +kernel), (by decide +kernel), (by decide +kernel)⟩ ⟨(by decide +kernel), (by decide +kernel)⟩ (by decide +kernel), mf7⟩,
  ⟨mo_putA, (so_putA (n := 46) (by decide +kernel) (ci := 8) rfl (by decide +kernel) wd260 hin8 pty8_ok pnm8 rfl rfl rfl rfl (by decide +kernel)).sim⟩,
  ⟨mo_aload, (so_aload_n (n := 0) (by decide +kernel) rfl (by decide +kernel)).sim⟩,
  ⟨mo_new, so_new (n := 50) (by decide +kernel) rfl hin5 pty5_ok wd241 wd242 wd65 pdf5 (fun _ => rfl) rfl (by decide +kernel)⟩,
  ⟨mo_dup, (so_dup (by decide +kernel) (by decide +kernel)).sim⟩,
  ⟨so_callI (G := pg) (T := pg_T) (k := 0) (i := 40) (y := 8) (n := 52) pg_good (by decide +kernel) wd245 rfl rfl wd243 wd244 wd65 (ci := 5) rfl ⟨(by decide +kernel), (by decide +kernel), (by decide +kernel)⟩ ⟨(by decide +kernel), (by decide +kernel)⟩ (by decide +kernel), mf8⟩,
  ⟨mo_putA, (so_putA (n := 53) (by decide +kernel) (ci := 8) rfl (by decide +kernel) wd261 hin8 pty8_ok pnm8 rfl rfl rfl rfl (by decide +kernel)).sim⟩,
  so_vret (by decide +kernel) rfl, trivial⟩
theorem ok0 : pm_okC pg pg_T 0 0 pk0 := ⟨ok0_0, ok0_1, ok0_2, trivial⟩
theorem ok1_0 : pm_okL pg pg_T 1 (16 * 0) [.inl (op_aload 0), .inl op_objinit, .inl (op_aload 0), .inl (op_new 7 [.null, .null, .null, .null, .null, .int 0, .int 0, .int 0]), .inl op_dup, .inr (.inl (2, 1, 0, 8)), .inl (op_putA 6 0), .inl (op_aload 0), .inl (op_new 0 [.null, .null]), .inl op_dup, .inr (.inl (3, 1, 0, 1)), .inl (op_putA 6 1), .inl (op_aload 0), .inl (op_new 4 [.null, .int 0, .int 0]), .inl op_dup, .inr (.inl (4, 1, 0, 5))] := ⟨⟨mo_aload, (so_aload_n (n := 0) (by decide +kernel) rfl (by decide +kernel)).sim⟩,
  ⟨mo_objinit, (so_objinit (n := 1) (by decide +kernel) wd82 wd75 wd76 (by decide +kernel)).sim⟩,
  ⟨mo_aload, (so_aload_n (n := 0) (by decide +kernel) rfl (by decide +kernel)).sim⟩,
  ⟨mo_new, so_new (n := 7) (by decide +kernel) rfl hin7 pty7_ok wd83 wd84 wd59 pdf7 (fun _ => rfl) rfl (by decide +kernel)⟩,
  ⟨mo_dup, (so_dup (by decide +kernel) (by decide +kernel)).sim⟩,
  ⟨so_callI (G := pg) (T := pg_T) (k := 1) (i := 5) (y := 2) (n := 9) pg_good (by decide +kernel) wd87 rfl rfl wd85 wd86 wd59 (ci := 7) rfl ⟨(by decide +kernel), (by decide +kernel), (by decide +kernel)⟩ ⟨(by decide +kernel), (by decide +kernel)⟩ (by decide +kernel), mf2⟩,
  ⟨mo_putA, (so_putA (n := 10) (by decide +kernel) (ci := 6) rfl (by decide +kernel) wd148 hin6 pty6_ok pnm6 rfl rfl rfl rfl (by decide +kernel)).sim⟩,
  ⟨mo_aload, (so_aload_n (n := 0) (by decide +kernel) rfl (by decide +kernel)).sim⟩,
  ⟨mo_new, so_new (n := 16) (by decide +kernel) rfl hin0 pty0_ok wd118 wd119 wd60 pdf0 (fun _ => rfl) rfl (by decide +kernel)⟩,
  ⟨mo_dup, (so_dup (by decide +kernel) (by decide +kernel)).sim⟩,
  ⟨so_callI (G := pg) (T := pg_T) (k := 1) (i := 10) (y := 3) (n := 18) pg_good (by decide +kernel) wd122 rfl rfl wd120 wd121 wd60 (ci := 0) rfl ⟨(by decide +kernel), (by decide +kernel), (by decide +kernel)⟩ ⟨(by decide +kernel), (by decide +kernel)⟩ (by decide +kernel), mf3⟩,
  ⟨mo_putA, (so_putA (n := 19) (by decide +kernel) (ci := 6) rfl (by decide +kernel) wd150 hin6 pty6_ok pnm6 rfl rfl rfl rfl (by decide +kernel)).sim⟩,
  ⟨mo_aload, (so_aload_n (n := 0) (by decide +kernel) rfl (by decide +kernel)).sim⟩,
  ⟨mo_new, so_new (n := 23) (by decide +kernel) rfl hin4 pty4_ok wd131 wd132 wd61 pdf4 (fun _ => rfl) rfl (by decide +kernel)⟩,
  ⟨mo_dup, (so_dup (by decide +kernel) (by decide +kernel)).sim⟩,
  ⟨so_callI (G := pg) (T := pg_T) (k := 1) (i := 15) (y := 4) (n := 25) pg_good (by decide +kernel) wd135 rfl rfl wd133 wd134 wd61 (ci := 4) rfl ⟨(by decide +kernel), (by decide +kernel), (by decide +kernel)⟩ ⟨(by decide +kernel), (by decide +kernel)⟩ (by decide +kernel), mf4⟩, trivial⟩
theorem ok1_1 : pm_okL pg pg_T 1 (16 * 1) [.inl (op_putA 6 2), .inr (.inr 0)] := ⟨⟨mo_putA, (so_putA (n := 26) (by decide +kernel) (ci := 6) rfl (by decide +kernel) wd152 hin6 pty6_ok pnm6 rfl rfl rfl rfl (by decide +kernel)).sim⟩,
  so_vret (by decide +kernel) rfl, trivial⟩
theorem ok1 : pm_okC pg pg_T 1 0 pk1 := ⟨ok1_0, ok1_1, trivial⟩
theorem ok2_0 : pm_okL pg pg_T 2 (16 * 0) [.inl (op_aload 0), .inl op_objinit, .inl (op_aload 0), .inl (op_ic 8), .inl (op_newa 0), .inl (op_putA 7 0), .inl (op_aload 0), .inl (op_ic 8), .inl (op_newa 0), .inl (op_putA 7 1), .inl (op_aload 0), .inl (op_ic 8), .inl (op_newa 0), .inl (op_putA 7 2), .inl (op_aload 0), .inl (op_ic 8)] := ⟨⟨mo_aload, (so_aload_n (n := 0) (by decide +kernel) rfl (by decide +kernel)).sim⟩,
  ⟨mo_objinit, (so_objinit (n := 3) (by decide +kernel) wd88 wd75 wd76 (by decide +kernel)).sim⟩,
  ⟨mo_aload, (so_aload_n (n := 0) (by decide +kernel) rfl (by decide +kernel)).sim⟩,
  ⟨mo_ic, (so_bipush (n := 8) (by decide +kernel) (by decide +kernel) (by decide +kernel)).sim⟩,
  ⟨mo_newa, so_newa (at' := .int) (by decide +kernel) rfl (Or.inl ⟨rfl, rfl⟩) wd117 (by decide +kernel)⟩,
  ⟨mo_putA, (so_putA (n := 9) (by decide +kernel) (ci := 7) rfl (by decide +kernel) wd89 hin7 pty7_ok pnm7 rfl rfl rfl rfl (by decide +kernel)).sim⟩,
  ⟨mo_aload, (so_aload_n (n := 0) (by decide +kernel) rfl (by decide +kernel)).sim⟩,
  ⟨mo_ic, (so_bipush (n := 8) (by decide +kernel) (by decide +kernel) (by decide +kernel)).sim⟩,
  ⟨mo_newa, so_newa (at' := .int) (by decide +kernel) rfl (Or.inl ⟨rfl, rfl⟩) wd117 (by decide +kernel)⟩,
  ⟨mo_putA, (so_putA (n := 15) (by decide +kernel) (ci := 7) rfl (by decide +kernel) wd90 hin7 pty7_ok pnm7 rfl rfl rfl rfl (by decide +kernel)).sim⟩,
  ⟨mo_aload, (so_aload_n (n := 0) (by decide +kernel) rfl (by decide +kernel)).sim⟩,
  ⟨mo_ic, (so_bipush (n := 8) (by decide +kernel) (by decide +kernel) (by decide +kernel)).sim⟩,
  ⟨mo_newa, so_newa (at' := .int) (by decide +kernel) rfl (Or.inl ⟨rfl, rfl⟩) wd117 (by decide +kernel)⟩,
  ⟨mo_putA, (so_putA (n := 18) (by decide +kernel) (ci := 7) rfl (by decide +kernel) wd91 hin7 pty7_ok pnm7 rfl rfl rfl rfl (by decide +kernel)).sim⟩,
  ⟨mo_aload, (so_aload_n (n := 0) (by decide +kernel) rfl (by decide +kernel)).sim⟩,
  ⟨mo_ic, (so_bipush (n := 8) (by decide +kernel) (by decide +kernel) (by decide +kernel)).sim⟩, trivial⟩
theorem ok2_1 : pm_okL pg pg_T 2 (16 * 1) [.inl (op_newa 0), .inl (op_putA 7 3), .inl (op_aload 0), .inl (op_ic 8), .inl (op_newa 0), .inl (op_putA 7 4), .inl (op_ic 0), .inl (op_istore 1), .inl (op_iload 1), .inl (op_ic 8), .inl (op_icmp (fun x y => decide (y ≤ x)) 34), .inl (op_aload 0), .inl (op_getA 7 1), .inl (op_iload 1), .inl (op_ic 3), .inl op_iast] := ⟨⟨mo_newa, so_newa (at' := .int) (by decide +kernel) rfl (Or.inl ⟨rfl, rfl⟩) wd117 (by decide +kernel)⟩,
  ⟨mo_putA, (so_putA (n := 21) (by decide +kernel) (ci := 7) rfl (by decide +kernel) wd92 hin7 pty7_ok pnm7 rfl rfl rfl rfl (by decide +kernel)).sim⟩,
  ⟨mo_aload, (so_aload_n (n := 0) (by decide +kernel) rfl (by decide +kernel)).sim⟩,
  ⟨mo_ic, (so_bipush (n := 8) (by decide +kernel) (by decide +kernel) (by decide +kernel)).sim⟩,
  ⟨mo_newa, so_newa (at' := .int) (by decide +kernel) rfl (Or.inl ⟨rfl, rfl⟩) wd117 (by decide +kernel)⟩,
  ⟨mo_putA, (so_putA (n := 24) (by decide +kernel) (ci := 7) rfl (by decide +kernel) wd93 hin7 pty7_ok pnm7 rfl rfl rfl rfl (by decide +kernel)).sim⟩,
  ⟨mo_ic, (so_iconst (n := 0) (by decide +kernel) (by decide +kernel) (by decide +kernel)).sim⟩,
  ⟨mo_istore, (so_istore_n (n := 1) (by decide +kernel) rfl (by decide +kernel)).sim⟩,
  ⟨mo_iload, (so_iload_n (n := 1) (by decide +kernel) rfl (by decide +kernel)).sim⟩,
  ⟨mo_ic, (so_bipush (n := 8) (by decide +kernel) (by decide +kernel) (by decide +kernel)).sim⟩,
  ⟨mo_icmp, (so_icmp_ge (off := 16) (by decide +kernel) (by decide +kernel) (by decide +kernel)).sim⟩,
  ⟨mo_aload, (so_aload_n (n := 0) (by decide +kernel) rfl (by decide +kernel)).sim⟩,
  ⟨mo_getA, (so_getA (n := 15) (by decide +kernel) (ci := 7) rfl (by decide +kernel) wd90 hin7 (by decide +kernel)).sim⟩,
  ⟨mo_iload, (so_iload_n (n := 1) (by decide +kernel) rfl (by decide +kernel)).sim⟩,
  ⟨mo_ic, (so_iconst (n := 3) (by decide +kernel) (by decide +kernel) (by decide +kernel)).sim⟩,
  ⟨mo_iast, (so_iast (by decide +kernel) (by decide +kernel)).sim⟩, trivial⟩
theorem ok2_2 : pm_okL pg pg_T 2 (16 * 2) [.inl (op_iinc 1 1), .inl (op_goto 24), .inl (op_aload 0), .inl (op_ic 9), .inl (op_putI 7 6), .inr (.inr 0)] := ⟨⟨mo_iinc, (so_iinc (n := 1) (by decide +kernel) (by decide +kernel) (by decide +kernel)).sim⟩,
  ⟨mo_goto, (so_goto (off := (-16)) (by decide +kernel) (by decide +kernel)).sim⟩,
  ⟨mo_aload, (so_aload_n (n := 0) (by decide +kernel) rfl (by decide +kernel)).sim⟩,
  ⟨mo_ic, (so_bipush (n := 9) (by decide +kernel) (by decide +kernel) (by decide +kernel)).sim⟩,
  ⟨mo_putI, (so_putI (n := 27) (by decide +kernel) (ci := 7) rfl (by decide +kernel) wd96 hin7 pty7_ok pnm7 rfl rfl (by decide +kernel)).sim⟩,
  so_vret (by decide +kernel) rfl, trivial⟩
theorem ok2 : pm_okC pg pg_T 2 0 pk2 := ⟨ok2_0, ok2_1, ok2_2, trivial⟩
theorem ok3_0 : pm_okL pg pg_T 3 (16 * 0) [.inl (op_aload 0), .inl op_objinit, .inl (op_aload 0), .inl (op_ic 6), .inl (op_newa 0), .inl (op_putA 0 0), .inl (op_aload 0), .inl (op_ic 6), .inl (op_newa 0), .inl (op_putA 0 1), .inl (op_ic 0), .inl (op_istore 1), .inl (op_iload 1), .inl (op_ic 6), .inl (op_icmp (fun x y => decide (y ≤ x)) 22), .inl (op_aload 0)] := ⟨⟨mo_aload, (so_aload_n (n := 0) (by decide +kernel) rfl (by decide +kernel)).sim⟩,
  ⟨mo_objinit, (so_objinit (n := 3) (by decide +kernel) wd123 wd75 wd76 (by decide +kernel)).sim⟩,
  ⟨mo_aload, (so_aload_n (n := 0) (by decide +kernel) rfl (by decide +kernel)).sim⟩,
  ⟨mo_ic, (so_bipush (n := 6) (by decide +kernel) (by decide +kernel) (by decide +kernel)).sim⟩,
  ⟨mo_newa, so_newa (at' := .int) (by decide +kernel) rfl (Or.inl ⟨rfl, rfl⟩) wd117 (by decide +kernel)⟩,
  ⟨mo_putA, (so_putA (n := 9) (by decide +kernel) (ci := 0) rfl (by decide +kernel) wd124 hin0 pty0_ok pnm0 rfl rfl rfl rfl (by decide +kernel)).sim⟩,
  ⟨mo_aload, (so_aload_n (n := 0) (by decide +kernel) rfl (by decide +kernel)).sim⟩,
  ⟨mo_ic, (so_bipush (n := 6) (by decide +kernel) (by decide +kernel) (by decide +kernel)).sim⟩,
  ⟨mo_newa, so_newa (at' := .int) (by decide +kernel) rfl (Or.inl ⟨rfl, rfl⟩) wd117 (by decide +kernel)⟩,
  ⟨mo_putA, (so_putA (n := 15) (by decide +kernel) (ci := 0) rfl (by decide +kernel) wd125 hin0 pty0_ok pnm0 rfl rfl rfl rfl (by decide +kernel)).sim⟩,
  ⟨mo_ic, (so_iconst (n := 0) (by decide +kernel) (by decide +kernel) (by decide +kernel)).sim⟩,
  ⟨mo_istore, (so_istore_n (n := 1) (by decide +kernel) rfl (by decide +kernel)).sim⟩,
  ⟨mo_iload, (so_iload_n (n := 1) (by decide +kernel) rfl (by decide +kernel)).sim⟩,
  ⟨mo_ic, (so_bipush (n := 6) (by decide +kernel) (by decide +kernel) (by decide +kernel)).sim⟩,
  ⟨mo_icmp, (so_icmp_ge (off := 16) (by decide +kernel) (by decide +kernel) (by decide +kernel)).sim⟩,
  ⟨mo_aload, (so_aload_n (n := 0) (by decide +kernel) rfl (by decide +kernel)).sim⟩, trivial⟩
theorem ok3_1 : pm_okL pg pg_T 3 (16 * 1) [.inl (op_getA 0 0), .inl (op_iload 1), .inl (op_ic 1), .inl op_iast, .inl (op_iinc 1 1), .inl (op_goto 12), .inr (.inr 0)] := ⟨⟨mo_getA, (so_getA (n := 9) (by decide +kernel) (ci := 0) rfl (by decide +kernel) wd124 hin0 (by decide +kernel)).sim⟩,
  ⟨mo_iload, (so_iload_n (n := 1) (by decide +kernel) rfl (by decide +kernel)).sim⟩,
  ⟨mo_ic, (so_iconst (n := 1) (by decide +kernel) (by decide +kernel) (by decide +kernel)).sim⟩,
  ⟨mo_iast, (so_iast (by decide +kernel) (by decide +kernel)).sim⟩,
  ⟨mo_iinc, (so_iinc (n := 1) (by decide +kernel) (by decide +kernel) (by decide +kernel)).sim⟩,
  ⟨mo_goto, (so_goto (off := (-16)) (by decide +kernel) (by decide +kernel)).sim⟩,
  so_vret (by decide +kernel) rfl, trivial⟩
theorem ok3 : pm_okC pg pg_T 3 0 pk3 := ⟨ok3_0, ok3_1, trivial⟩
theorem ok4_0 : pm_okL pg pg_T 4 (16 * 0) [.inl (op_aload 0), .inl op_objinit, .inl (op_aload 0), .inl (op_ic 8), .inl (op_newa 0), .inl (op_putA 4 0), .inr (.inr 0)] := ⟨⟨mo_aload, (so_aload_n (n := 0) (by decide +kernel) rfl (by decide +kernel)).sim⟩,
  ⟨mo_objinit, (so_objinit (n := 3) (by decide +kernel) wd136 wd75 wd76 (by decide +kernel)).sim⟩,
  ⟨mo_aload, (so_aload_n (n := 0) (by decide +kernel) rfl (by decide +kernel)).sim⟩,
  ⟨mo_ic, (so_bipush (n := 8) (by decide +kernel) (by decide +kernel) (by decide +kernel)).sim⟩,
  ⟨mo_newa, so_newa (at' := .int) (by decide +kernel) rfl (Or.inl ⟨rfl, rfl⟩) wd117 (by decide +kernel)⟩,
  ⟨mo_putA, (so_putA (n := 9) (by decide +kernel) (ci := 4) rfl (by decide +kernel) wd137 hin4 pty4_ok pnm4 rfl rfl rfl rfl (by decide +kernel)).sim⟩,
  so_vret (by decide +kernel) rfl, trivial⟩
theorem ok4 : pm_okC pg pg_T 4 0 pk4 := ⟨ok4_0, trivial⟩
theorem ok5_0 : pm_okL pg pg_T 5 (16 * 0) [.inl (op_aload 0), .inl op_objinit, .inl (op_aload 0), .inl (op_ic 60), .inl (op_newa 0), .inl (op_putA 2 0), .inl (op_aload 0), .inl (op_ic 60), .inl (op_newa 0), .inl (op_putA 2 1), .inl (op_aload 0), .inl (op_ic 60), .inl (op_newa 0), .inl (op_putA 2 2), .inl (op_aload 0), .inl (op_ic 60)] := ⟨⟨mo_aload, (so_aload_n (n := 0) (by decide +kernel) rfl (by decide +kernel)).sim⟩,
  ⟨mo_objinit, (so_objinit (n := 3) (by decide +kernel) wd169 wd75 wd76 (by decide +kernel)).sim⟩,
  ⟨mo_aload, (so_aload_n (n := 0) (by decide +kernel) rfl (by decide +kernel)).sim⟩,
  ⟨mo_ic, (so_bipush (n := 60) (by decide +kernel) (by decide +kernel) (by decide +kernel)).sim⟩,
  ⟨mo_newa, so_newa (at' := .int) (by decide +kernel) rfl (Or.inl ⟨rfl, rfl⟩) wd117 (by decide +kernel)⟩,
  ⟨mo_putA, (so_putA (n := 9) (by decide +kernel) (ci := 2) rfl (by decide +kernel) wd170 hin2 pty2_ok pnm2 rfl rfl rfl rfl (by decide +kernel)).sim⟩,
  ⟨mo_aload, (so_aload_n (n := 0) (by decide +kernel) rfl (by decide +kernel)).sim⟩,
  ⟨mo_ic, (so_bipush (n := 60) (by decide +kernel) (by decide +kernel) (by decide +kernel)).sim⟩,
  ⟨mo_newa, so_newa (at' := .int) (by decide +kernel) rfl (Or.inl ⟨rfl, rfl⟩) wd117 (by decide +kernel)⟩,
  ⟨mo_putA, (so_putA (n := 15) (by decide +kernel) (ci := 2) rfl (by decide +kernel) wd171 hin2 pty2_ok pnm2 rfl rfl rfl rfl (by decide +kernel)).sim⟩,
  ⟨mo_aload, (so_aload_n (n := 0) (by decide +kernel) rfl (by decide +kernel)).sim⟩,
  ⟨mo_ic, (so_bipush (n := 60) (by decide +kernel) (by decide +kernel) (by decide +kernel)).sim⟩,
  ⟨mo_newa, so_newa (at' := .int) (by decide +kernel) rfl (Or.inl ⟨rfl, rfl⟩) wd117 (by decide +kernel)⟩,
  ⟨mo_putA, (so_putA (n := 18) (by decide +kernel) (ci := 2) rfl (by decide +kernel) wd172 hin2 pty2_ok pnm2 rfl rfl rfl rfl (by decide +kernel)).sim⟩,
  ⟨mo_aload, (so_aload_n (n := 0) (by decide +kernel) rfl (by decide +kernel)).sim⟩,
  ⟨mo_ic, (so_bipush (n := 60) (by decide +kernel) (by decide +kernel) (by decide +kernel)).sim⟩, trivial⟩
theorem ok5_1 : pm_okL pg pg_T 5 (16 * 1) [.inl (op_newa 0), .inl (op_putA 2 3), .inr (.inr 0)] := ⟨⟨mo_newa, so_newa (at' := .int) (by decide +kernel) rfl (Or.inl ⟨rfl, rfl⟩) wd117 (by decide +kernel)⟩,
  ⟨mo_putA, (so_putA (n := 21) (by decide +kernel) (ci := 2) rfl (by decide +kernel) wd173 hin2 pty2_ok pnm2 rfl rfl rfl rfl (by decide +kernel)).sim⟩,
  so_vret (by decide +kernel) rfl, trivial⟩
theorem ok5 : pm_okC pg pg_T 5 0 pk5 := ⟨ok5_0, ok5_1, trivial⟩
theorem ok6_0 : pm_okL pg pg_T 6 (16 * 0) [.inl (op_aload 0), .inl op_objinit, .inl (op_aload 0), .inl (op_new 7 [.null, .null, .null, .null, .null, .int 0, .int 0, .int 0]), .inl op_dup, .inr (.inl (2, 1, 0, 8)), .inl (op_putA 1 0), .inr (.inr 0)] := ⟨⟨mo_aload, (so_aload_n (n := 0) (by decide +kernel) rfl (by decide +kernel)).sim⟩,
  ⟨mo_objinit, (so_objinit (n := 3) (by decide +kernel) wd197 wd75 wd76 (by decide +kernel)).sim⟩,
  ⟨mo_aload, (so_aload_n (n := 0) (by decide +kernel) rfl (by decide +kernel)).sim⟩,
  ⟨mo_new, so_new (n := 9) (by decide +kernel) rfl hin7 pty7_ok wd198 wd84 wd59 pdf7 (fun _ => rfl) rfl (by decide +kernel)⟩,
  ⟨mo_dup, (so_dup (by decide +kernel) (by decide +kernel)).sim⟩,
  ⟨so_callI (G := pg) (T := pg_T) (k := 6) (i := 5) (y := 2) (n := 11) pg_good (by decide +kernel) wd87 rfl rfl wd199 wd86 wd59 (ci := 7) rfl ⟨(by decide +kernel), (by decide +kernel), (by decide +kernel)⟩ ⟨(by decide +kernel), (by decide +kernel)⟩ (by decide +kernel), mf2⟩,
  ⟨mo_putA, (so_putA (n := 12) (by decide +kernel) (ci := 1) rfl (by decide +kernel) wd200 hin1 pty1_ok pnm1 rfl rfl rfl rfl (by decide +kernel)).sim⟩,
  so_vret (by decide +kernel) rfl, trivial⟩
theorem ok6 : pm_okC pg pg_T 6 0 pk6 := ⟨ok6_0, trivial⟩
theorem ok7_0 : pm_okL pg pg_T 7 (16 * 0) [.inl (op_aload 0), .inl op_objinit, .inl (op_aload 0), .inl (op_ic 112), .inl (op_newa 0), .inl (op_putA 3 0), .inr (.inr 0)] := ⟨⟨mo_aload, (so_aload_n (n := 0) (by decide +kernel) rfl (by decide +kernel)).sim⟩,
  ⟨mo_objinit, (so_objinit (n := 3) (by decide +kernel) wd232 wd75 wd76 (by decide +kernel)).sim⟩,
  ⟨mo_aload, (so_aload_n (n := 0) (by decide +kernel) rfl (by decide +kernel)).sim⟩,
  ⟨mo_ic, (so_bipush (n := 112) (by decide +kernel) (by decide +kernel) (by decide +kernel)).sim⟩,
  ⟨mo_newa, so_newa (at' := .int) (by decide +kernel) rfl (Or.inl ⟨rfl, rfl⟩) wd117 (by decide +kernel)⟩,
  ⟨mo_putA, (so_putA (n := 9) (by decide +kernel) (ci := 3) rfl (by decide +kernel) wd233 hin3 pty3_ok pnm3 rfl rfl rfl rfl (by decide +kernel)).sim⟩,
  so_vret (by decide +kernel) rfl, trivial⟩
theorem ok7 : pm_okC pg pg_T 7 0 pk7 := ⟨ok7_0, trivial⟩
theorem ok8_0 : pm_okL pg pg_T 8 (16 * 0) [.inl (op_aload 0), .inl op_objinit, .inl (op_aload 0), .inl (op_ic 3), .inl (op_newa 0), .inl (op_putA 5 0), .inl (op_aload 0), .inl (op_ic 401), .inl (op_newa 0), .inl (op_putA 5 1), .inr (.inr 0)] := ⟨⟨mo_aload, (so_aload_n (n := 0) (by decide +kernel) rfl (by decide +kernel)).sim⟩,
  ⟨mo_objinit, (so_objinit (n := 3) (by decide +kernel) wd246 wd75 wd76 (by decide +kernel)).sim⟩,
  ⟨mo_aload, (so_aload_n (n := 0) (by decide +kernel) rfl (by decide +kernel)).sim⟩,
  ⟨mo_ic, (so_iconst (n := 3) (by decide +kernel) (by decide +kernel) (by decide +kernel)).sim⟩,
  ⟨mo_newa, so_newa (at' := .int) (by decide +kernel) rfl (Or.inl ⟨rfl, rfl⟩) wd117 (by decide +kernel)⟩,
  ⟨mo_putA, (so_putA (n := 9) (by decide +kernel) (ci := 5) rfl (by decide +kernel) wd247 hin5 pty5_ok pnm5 rfl rfl rfl rfl (by decide +kernel)).sim⟩,
  ⟨mo_aload, (so_aload_n (n := 0) (by decide +kernel) rfl (by decide +kernel)).sim⟩,
  ⟨mo_ic, (so_sipush (n := 401) (by decide +kernel) (by decide +kernel) (by decide +kernel)).sim⟩,
  ⟨mo_newa, so_newa (at' := .int) (by decide +kernel) rfl (Or.inl ⟨rfl, rfl⟩) wd117 (by decide +kernel)⟩,
  ⟨mo_putA, (so_putA (n := 15) (by decide +kernel) (ci := 5) rfl (by decide +kernel) wd248 hin5 pty5_ok pnm5 rfl rfl rfl rfl (by decide +kernel)).sim⟩,
  so_vret (by decide +kernel) rfl, trivial⟩
theorem ok8 : pm_okC pg pg_T 8 0 pk8 := ⟨ok8_0, trivial⟩
theorem ok9_0 : pm_okL pg pg_T 9 (16 * 0) [.inl (op_iload 1), .inr (.inl (10, 1, 1, 0)), .inl (op_if (fun x => decide (¬ x = 0)) 5), .inl (op_ic (-1)), .inr (.inr 1), .inl (op_iload 2), .inl (op_ic 0), .inl (op_ic 3), .inr (.inl (11, 3, 1, 0)), .inl (op_if (fun x => decide (x = 0)) 25), .inl (op_iload 3), .inl (op_ic 0), .inl (op_ic 1), .inr (.inl (11, 3, 1, 0)), .inl (op_if (fun x => decide (x = 0)) 25), .inl (op_iload 4)] := ⟨⟨mo_iload, (so_iload_n (n := 1) (by decide +kernel) rfl (by decide +kernel)).sim⟩,
  ⟨so_callS (G := pg) (T := pg_T) (k := 9) (i := 1) (y := 10) (n := 57) pg_good (by decide +kernel) wd285 wd283 wd284 wd57 ⟨(by decide +kernel), (by decide +kernel), (by decide +kernel)⟩ ⟨(by decide +kernel), (by decide +kernel)⟩ (by decide +kernel), mf10⟩,
  ⟨mo_if, (so_if_ne (off := 5) (by decide +kernel) (by decide +kernel) (by decide +kernel)).sim⟩,
  ⟨mo_ic, (so_iconst (n := (-1)) (by decide +kernel) (by decide +kernel) (by decide +kernel)).sim⟩,
  so_iret (by decide +kernel) rfl,
  ⟨mo_iload, (so_iload_n (n := 2) (by decide +kernel) rfl (by decide +kernel)).sim⟩,
  ⟨mo_ic, (so_iconst (n := 0) (by decide +kernel) (by decide +kernel) (by decide +kernel)).sim⟩,
  ⟨mo_ic, (so_iconst (n := 3) (by decide +kernel) (by decide +kernel) (by decide +kernel)).sim⟩,
  ⟨so_callS (G := pg) (T := pg_T) (k := 9) (i := 8) (y := 11) (n := 61) pg_good (by decide +kernel) wd288 wd286 wd287 wd57 ⟨(by decide +kernel), (by decide +kernel), (by decide +kernel)⟩ ⟨(by decide +kernel), (by decide +kernel)⟩ (by decide +kernel), mf11⟩,
  ⟨mo_if, (so_if_eq (off := 34) (by decide +kernel) (by decide +kernel) (by decide +kernel)).sim⟩,
  ⟨mo_iload, (so_iload_n (n := 3) (by decide +kernel) rfl (by decide +kernel)).sim⟩,
  ⟨mo_ic, (so_iconst (n := 0) (by decide +kernel) (by decide +kernel) (by decide +kernel)).sim⟩,
  ⟨mo_ic, (so_iconst (n := 1) (by decide +kernel) (by decide +kernel) (by decide +kernel)).sim⟩,
  ⟨so_callS (G := pg) (T := pg_T) (k := 9) (i := 13) (y := 11) (n := 61) pg_good (by decide +kernel) wd288 wd286 wd287 wd57 ⟨(by decide +kernel), (by decide +kernel), (by decide +kernel)⟩ ⟨(by decide +kernel), (by decide +kernel)⟩ (by decide +kernel), mf11⟩,
  ⟨mo_if, (so_if_eq (off := 25) (by decide +kernel) (by decide +kernel) (by decide +kernel)).sim⟩,
  ⟨mo_iload, (so_iload (by decide +kernel) (by decide +kernel)).sim⟩, trivial⟩
theorem ok9_1 : pm_okL pg pg_T 9 (16 * 1) [.inl (op_ic 1), .inl (op_ic 9), .inr (.inl (11, 3, 1, 0)), .inl (op_if (fun x => decide (x = 0)) 25), .inl (op_iload 5), .inl (op_ic 0), .inl (op_ic 9), .inr (.inl (11, 3, 1, 0)), .inl (op_if (fun x => decide (¬ x = 0)) 27), .inl (op_ic (-2)), .inr (.inr 1), .inl (op_aload 0), .inl (op_getA 8 0), .inl (op_getA 6 0), .inl (op_iload 1), .inr (.inl (12, 2, 1, 8))] := ⟨⟨mo_ic, (so_iconst (n := 1) (by decide +kernel) (by decide +kernel) (by decide +kernel)).sim⟩,
  ⟨mo_ic, (so_bipush (n := 9) (by decide +kernel) (by decide +kernel) (by decide +kernel)).sim⟩,
  ⟨so_callS (G := pg) (T := pg_T) (k := 9) (i := 18) (y := 11) (n := 61) pg_good (by decide +kernel) wd288 wd286 wd287 wd57 ⟨(by decide +kernel), (by decide +kernel), (by decide +kernel)⟩ ⟨(by decide +kernel), (by decide +kernel)⟩ (by decide +kernel), mf11⟩,
  ⟨mo_if, (so_if_eq (off := 14) (by decide +kernel) (by decide +kernel) (by decide +kernel)).sim⟩,
  ⟨mo_iload, (so_iload (by decide +kernel) (by decide +kernel)).sim⟩,
  ⟨mo_ic, (so_iconst (n := 0) (by decide +kernel) (by decide +kernel) (by decide +kernel)).sim⟩,
  ⟨mo_ic, (so_bipush (n := 9) (by decide +kernel) (by decide +kernel) (by decide +kernel)).sim⟩,
  ⟨so_callS (G := pg) (T := pg_T) (k := 9) (i := 23) (y := 11) (n := 61) pg_good (by decide +kernel) wd288 wd286 wd287 wd57 ⟨(by decide +kernel), (by decide +kernel), (by decide +kernel)⟩ ⟨(by decide +kernel), (by decide +kernel)⟩ (by decide +kernel), mf11⟩,
  ⟨mo_if, (so_if_ne (off := 6) (by decide +kernel) (by decide +kernel) (by decide +kernel)).sim⟩,
  ⟨mo_ic, (so_bipush (n := (-2)) (by decide +kernel) (by decide +kernel) (by decide +kernel)).sim⟩,
  so_iret (by decide +kernel) rfl,
  ⟨mo_aload, (so_aload_n (n := 0) (by decide +kernel) rfl (by decide +kernel)).sim⟩,
  ⟨mo_getA, (so_getA (n := 10) (by decide +kernel) (ci := 8) rfl (by decide +kernel) wd254 hin8 (by decide +kernel)).sim⟩,
  ⟨mo_getA, (so_getA (n := 65) (by decide +kernel) (ci := 6) rfl (by decide +kernel) wd149 hin6 (by decide +kernel)).sim⟩,
  ⟨mo_iload, (so_iload_n (n := 1) (by decide +kernel) rfl (by decide +kernel)).sim⟩,
  ⟨so_callV (G := pg) (T := pg_T) (k := 9) (i := 31) (y := 12) (n := 68) pg_good (by decide +kernel) wd292 wd289 wd290 wd59 wd291 (ci := 7) rfl ⟨(by decide +kernel), (by decide +kernel), (by decide +kernel)⟩ ⟨(by decide +kernel), (by decide +kernel)⟩ (by decide +kernel), mf12⟩, trivial⟩
theorem ok9_2 : pm_okL pg pg_T 9 (16 * 2) [.inl (op_istore 6), .inl (op_aload 0), .inl (op_getA 8 0), .inl (op_getA 6 0), .inl (op_iload 1), .inl (op_iload 2), .inl (op_iload 3), .inl (op_iload 4), .inl (op_iload 5), .inr (.inl (13, 6, 0, 8)), .inl (op_iload 6), .inr (.inr 1)] := ⟨⟨mo_istore, (so_istore (by decide +kernel) (by decide +kernel)).sim⟩,
  ⟨mo_aload, (so_aload_n (n := 0) (by decide +kernel) rfl (by decide +kernel)).sim⟩,
  ⟨mo_getA, (so_getA (n := 10) (by decide +kernel) (ci := 8) rfl (by decide +kernel) wd254 hin8 (by decide +kernel)).sim⟩,
  ⟨mo_getA, (so_getA (n := 65) (by decide +kernel) (ci := 6) rfl (by decide +kernel) wd149 hin6 (by decide +kernel)).sim⟩,
  ⟨mo_iload, (so_iload_n (n := 1) (by decide +kernel) rfl (by decide +kernel)).sim⟩,
  ⟨mo_iload, (so_iload_n (n := 2) (by decide +kernel) rfl (by decide +kernel)).sim⟩,
  ⟨mo_iload, (so_iload_n (n := 3) (by decide +kernel) rfl (by decide +kernel)).sim⟩,
  ⟨mo_iload, (so_iload (by decide +kernel) (by decide +kernel)).sim⟩,
  ⟨mo_iload, (so_iload (by decide +kernel) (by decide +kernel)).sim⟩,
  ⟨so_callV (G := pg) (T := pg_T) (k := 9) (i := 41) (y := 13) (n := 72) pg_good (by decide +kernel) wd297 wd294 wd295 wd59 wd296 (ci := 7) rfl ⟨(by decide +kernel), (by decide +kernel), (by decide +kernel)⟩ ⟨(by decide +kernel), (by decide +kernel)⟩ (by decide +kernel), mf13⟩,
  ⟨mo_iload, (so_iload (by decide +kernel) (by decide +kernel)).sim⟩,
  so_iret (by decide +kernel) rfl, trivial⟩
theorem ok9 : pm_okC pg pg_T 9 0 pk9 := ⟨ok9_0, ok9_1, ok9_2, trivial⟩
theorem ok10_0 : pm_okL pg pg_T 10 (16 * 0) [.inl (op_iload 0), .inl (op_if (fun x => decide (x < 0)) 7), .inl (op_iload 0), .inl (op_ic 8), .inl (op_icmp (fun x y => decide (y ≤ x)) 7), .inl (op_ic 1), .inl (op_goto 8), .inl (op_ic 0), .inr (.inr 3)] := ⟨⟨mo_iload, (so_iload_n (n := 0) (by decide +kernel) rfl (by decide +kernel)).sim⟩,
  ⟨mo_if, (so_if_lt (off := 13) (by decide +kernel) (by decide +kernel) (by decide +kernel)).sim⟩,
  ⟨mo_iload, (so_iload_n (n := 0) (by decide +kernel) rfl (by decide +kernel)).sim⟩,
  ⟨mo_ic, (so_bipush (n := 8) (by decide +kernel) (by decide +kernel) (by decide +kernel)).sim⟩,
  ⟨mo_icmp, (so_icmp_ge (off := 7) (by decide +kernel) (by decide +kernel) (by decide +kernel)).sim⟩,
  ⟨mo_ic, (so_iconst (n := 1) (by decide +kernel) (by decide +kernel) (by decide +kernel)).sim⟩,
  ⟨mo_goto, (so_goto (off := 4) (by decide +kernel) (by decide +kernel)).sim⟩,
  ⟨mo_ic, (so_iconst (n := 0) (by decide +kernel) (by decide +kernel) (by decide +kernel)).sim⟩,
  so_zret (by decide +kernel) rfl, trivial⟩
theorem ok10 : pm_okC pg pg_T 10 0 pk10 := ⟨ok10_0, trivial⟩
theorem ok11_0 : pm_okL pg pg_T 11 (16 * 0) [.inl (op_iload 0), .inl (op_iload 1), .inl (op_icmp (fun x y => decide (x < y)) 8), .inl (op_iload 0), .inl (op_iload 2), .inl (op_icmp (fun x y => decide (y < x)) 8), .inl (op_ic 1), .inl (op_goto 9), .inl (op_ic 0), .inr (.inr 3)] := ⟨⟨mo_iload, (so_iload_n (n := 0) (by decide +kernel) rfl (by decide +kernel)).sim⟩,
  ⟨mo_iload, (so_iload_n (n := 1) (by decide +kernel) rfl (by decide +kernel)).sim⟩,
  ⟨mo_icmp, (so_icmp_lt (off := 12) (by decide +kernel) (by decide +kernel) (by decide +kernel)).sim⟩,
  ⟨mo_iload, (so_iload_n (n := 0) (by decide +kernel) rfl (by decide +kernel)).sim⟩,
  ⟨mo_iload, (so_iload_n (n := 2) (by decide +kernel) rfl (by decide +kernel)).sim⟩,
  ⟨mo_icmp, (so_icmp_gt (off := 7) (by decide +kernel) (by decide +kernel) (by decide +kernel)).sim⟩,
  ⟨mo_ic, (so_iconst (n := 1) (by decide +kernel) (by decide +kernel) (by decide +kernel)).sim⟩,
  ⟨mo_goto, (so_goto (off := 4) (by decide +kernel) (by decide +kernel)).sim⟩,
  ⟨mo_ic, (so_iconst (n := 0) (by decide +kernel) (by decide +kernel) (by decide +kernel)).sim⟩,
  so_zret (by decide +kernel) rfl, trivial⟩
theorem ok11 : pm_okC pg pg_T 11 0 pk11 := ⟨ok11_0, trivial⟩
theorem ok12_0 : pm_okL pg pg_T 12 (16 * 0) [.inl (op_iload 1), .inr (.inl (10, 1, 1, 0)), .inl (op_if (fun x => decide (x = 0)) 8), .inl (op_aload 0), .inl (op_getA 7 0), .inl (op_iload 1), .inl (op_iald 0), .inl (op_goto 9), .inl (op_ic (-1)), .inr (.inr 1)] := ⟨⟨mo_iload, (so_iload_n (n := 1) (by decide +kernel) rfl (by decide +kernel)).sim⟩,
  ⟨so_callSN (G := pg) (T := pg_T) (k := 12) (i := 1) (y := 10) (n := 37) pg_good (by decide +kernel) wd285 (List.mem_of_getElem? (i := 0) rfl) wd284 wd57 ⟨(by decide +kernel), (by decide +kernel), (by decide +kernel)⟩ ⟨(by decide +kernel), (by decide +kernel)⟩ (by decide +kernel), mf10⟩,
  ⟨mo_if, (so_if_eq (off := 12) (by decide +kernel) (by decide +kernel) (by decide +kernel)).sim⟩,
  ⟨mo_aload, (so_aload_n (n := 0) (by decide +kernel) rfl (by decide +kernel)).sim⟩,
  ⟨mo_getA, (so_getA (n := 9) (by decide +kernel) (ci := 7) rfl (by decide +kernel) wd89 hin7 (by decide +kernel)).sim⟩,
  ⟨mo_iload, (so_iload_n (n := 1) (by decide +kernel) rfl (by decide +kernel)).sim⟩,
  ⟨mo_iald, (so_iald (by decide +kernel) (by decide +kernel)).sim⟩,
  ⟨mo_goto, (so_goto (off := 4) (by decide +kernel) (by decide +kernel)).sim⟩,
  ⟨mo_ic, (so_iconst (n := (-1)) (by decide +kernel) (by decide +kernel) (by decide +kernel)).sim⟩,
  so_iret (by decide +kernel) rfl, trivial⟩
theorem ok12 : pm_okC pg pg_T 12 0 pk12 := ⟨ok12_0, trivial⟩
theorem ok13_0 : pm_okL pg pg_T 13 (16 * 0) [.inl (op_iload 1), .inr (.inl (10, 1, 1, 0)), .inl (op_if (fun x => decide (¬ x = 0)) 4), .inr (.inr 0), .inl (op_aload 0), .inl (op_getA 7 0), .inl (op_iload 1), .inl (op_iload 2), .inl op_iast, .inl (op_aload 0), .inl (op_getA 7 1), .inl (op_iload 1), .inl (op_iload 4), .inl op_iast, .inl (op_aload 0), .inl (op_getA 7 2)] := ⟨⟨mo_iload, (so_iload_n (n := 1) (by decide +kernel) rfl (by decide +kernel)).sim⟩,
  ⟨so_callSN (G := pg) (T := pg_T) (k := 13) (i := 1) (y := 10) (n := 37) pg_good (by decide +kernel) wd285 (List.mem_of_getElem? (i := 0) rfl) wd284 wd57 ⟨(by decide +kernel), (by decide +kernel), (by decide +kernel)⟩ ⟨(by decide +kernel), (by decide +kernel)⟩ (by decide +kernel), mf10⟩,
  ⟨mo_if, (so_if_ne (off := 4) (by decide +kernel) (by decide +kernel) (by decide +kernel)).sim⟩,
  so_vret (by decide +kernel) rfl,
  ⟨mo_aload, (so_aload_n (n := 0) (by decide +kernel) rfl (by decide +kernel)).sim⟩,
  ⟨mo_getA, (so_getA (n := 9) (by decide +kernel) (ci := 7) rfl (by decide +kernel) wd89 hin7 (by decide +kernel)).sim⟩,
  ⟨mo_iload, (so_iload_n (n := 1) (by decide +kernel) rfl (by decide +kernel)).sim⟩,
  ⟨mo_iload, (so_iload_n (n := 2) (by decide +kernel) rfl (by decide +kernel)).sim⟩,
  ⟨mo_iast, (so_iast (by decide +kernel) (by decide +kernel)).sim⟩,
  ⟨mo_aload, (so_aload_n (n := 0) (by decide +kernel) rfl (by decide +kernel)).sim⟩,
  ⟨mo_getA, (so_getA (n := 15) (by decide +kernel) (ci := 7) rfl (by decide +kernel) wd90 hin7 (by decide +kernel)).sim⟩,
  ⟨mo_iload, (so_iload_n (n := 1) (by decide +kernel) rfl (by decide +kernel)).sim⟩,
  ⟨mo_iload, (so_iload (by decide +kernel) (by decide +kernel)).sim⟩,
  ⟨mo_iast, (so_iast (by decide +kernel) (by decide +kernel)).sim⟩,
  ⟨mo_aload, (so_aload_n (n := 0) (by decide +kernel) rfl (by decide +kernel)).sim⟩,
  ⟨mo_getA, (so_getA (n := 18) (by decide +kernel) (ci := 7) rfl (by decide +kernel) wd91 hin7 (by decide +kernel)).sim⟩, trivial⟩
theorem ok13_1 : pm_okL pg pg_T 13 (16 * 1) [.inl (op_iload 1), .inl (op_iload 5), .inl op_iast, .inl (op_aload 0), .inl (op_iload 1), .inl (op_iload 3), .inl (op_ic 1), .inl (op_icmp (fun x y => decide (¬ x = y)) 26), .inl (op_ic 1), .inl (op_goto 27), .inl (op_ic 0), .inr (.inl (14, 3, 0, 8)), .inr (.inr 0)] := ⟨⟨mo_iload, (so_iload_n (n := 1) (by decide +kernel) rfl (by decide +kernel)).sim⟩,
  ⟨mo_iload, (so_iload (by decide +kernel) (by decide +kernel)).sim⟩,
  ⟨mo_iast, (so_iast (by decide +kernel) (by decide +kernel)).sim⟩,
  ⟨mo_aload, (so_aload_n (n := 0) (by decide +kernel) rfl (by decide +kernel)).sim⟩,
  ⟨mo_iload, (so_iload_n (n := 1) (by decide +kernel) rfl (by decide +kernel)).sim⟩,
  ⟨mo_iload, (so_iload_n (n := 3) (by decide +kernel) rfl (by decide +kernel)).sim⟩,
  ⟨mo_ic, (so_iconst (n := 1) (by decide +kernel) (by decide +kernel) (by decide +kernel)).sim⟩,
  ⟨mo_icmp, (so_icmp_ne (off := 7) (by decide +kernel) (by decide +kernel) (by decide +kernel)).sim⟩,
  ⟨mo_ic, (so_iconst (n := 1) (by decide +kernel) (by decide +kernel) (by decide +kernel)).sim⟩,
  ⟨mo_goto, (so_goto (off := 4) (by decide +kernel) (by decide +kernel)).sim⟩,
  ⟨mo_ic, (so_iconst (n := 0) (by decide +kernel) (by decide +kernel) (by decide +kernel)).sim⟩,
  ⟨so_callV (G := pg) (T := pg_T) (k := 13) (i := 27) (y := 14) (n := 41) pg_good (by decide +kernel) wd301 wd298 wd300 wd59 wd0 (ci := 7) rfl ⟨(by decide +kernel), (by decide +kernel), (by decide +kernel)⟩ ⟨(by decide +kernel), (by decide +kernel)⟩ (by decide +kernel), mf14⟩,
  so_vret (by decide +kernel) rfl, trivial⟩
theorem ok13 : pm_okC pg pg_T 13 0 pk13 := ⟨ok13_0, ok13_1, trivial⟩
theorem ok14_0 : pm_okL pg pg_T 14 (16 * 0) [.inl (op_aload 0), .inl (op_iload 2), .inl (op_if (fun x => decide (x = 0)) 10), .inl (op_aload 0), .inl (op_getI 7 5), .inl (op_ic 1), .inl (op_iload 1), .inl (op_bin (fun x y => x <<< (y &&& 31))), .inl (op_bin (fun x y => x ||| y)), .inl (op_goto 18), .inl (op_aload 0), .inl (op_getI 7 5), .inl (op_ic 1), .inl (op_iload 1), .inl (op_bin (fun x y => x <<< (y &&& 31))), .inl (op_ic (-1))] := ⟨⟨mo_aload, (so_aload_n (n := 0) (by decide +kernel) rfl (by decide +kernel)).sim⟩,
  ⟨mo_iload, (so_iload_n (n := 2) (by decide +kernel) rfl (by decide +kernel)).sim⟩,
  ⟨mo_if, (so_if_eq (off := 14) (by decide +kernel) (by decide +kernel) (by decide +kernel)).sim⟩,
  ⟨mo_aload, (so_aload_n (n := 0) (by decide +kernel) rfl (by decide +kernel)).sim⟩,
  ⟨mo_getI, (so_getI (n := 31) (by decide +kernel) (ci := 7) rfl (by decide +kernel) wd94 hin7 (by decide +kernel)).sim⟩,
  ⟨mo_ic, (so_iconst (n := 1) (by decide +kernel) (by decide +kernel) (by decide +kernel)).sim⟩,
  ⟨mo_iload, (so_iload_n (n := 1) (by decide +kernel) rfl (by decide +kernel)).sim⟩,
  ⟨mo_bin, (so_ishl (by decide +kernel) (by decide +kernel)).sim⟩,
  ⟨mo_bin, (so_ior (by decide +kernel) (by decide +kernel)).sim⟩,
  ⟨mo_goto, (so_goto (off := 13) (by decide +kernel) (by decide +kernel)).sim⟩,
  ⟨mo_aload, (so_aload_n (n := 0) (by decide +kernel) rfl (by decide +kernel)).sim⟩,
  ⟨mo_getI, (so_getI (n := 31) (by decide +kernel) (ci := 7) rfl (by decide +kernel) wd94 hin7 (by decide +kernel)).sim⟩,
  ⟨mo_ic, (so_iconst (n := 1) (by decide +kernel) (by decide +kernel) (by decide +kernel)).sim⟩,
  ⟨mo_iload, (so_iload_n (n := 1) (by decide +kernel) rfl (by decide +kernel)).sim⟩,
  ⟨mo_bin, (so_ishl (by decide +kernel) (by decide +kernel)).sim⟩,
  ⟨mo_ic, (so_iconst (n := (-1)) (by decide +kernel) (by decide +kernel) (by decide +kernel)).sim⟩, trivial⟩
theorem ok14_1 : pm_okL pg pg_T 14 (16 * 1) [.inl (op_bin (fun x y => x ^^^ y)), .inl (op_bin (fun x y => x &&& y)), .inl (op_putI 7 5), .inr (.inr 0)] := ⟨⟨mo_bin, (so_ixor (by decide +kernel) (by decide +kernel)).sim⟩,
  ⟨mo_bin, (so_iand (by decide +kernel) (by decide +kernel)).sim⟩,
  ⟨mo_putI, (so_putI (n := 31) (by decide +kernel) (ci := 7) rfl (by decide +kernel) wd94 hin7 pty7_ok pnm7 rfl rfl (by decide +kernel)).sim⟩,
  so_vret (by decide +kernel) rfl, trivial⟩
theorem ok14 : pm_okC pg pg_T 14 0 pk14 := ⟨ok14_0, ok14_1, trivial⟩
theorem ok15_0 : pm_okL pg pg_T 15 (16 * 0) [.inl (op_iload 1), .inr (.inl (10, 1, 1, 0)), .inl (op_if (fun x => decide (x = 0)) 9), .inl (op_iload 2), .inr (.inl (10, 1, 1, 0)), .inl (op_if (fun x => decide (x = 0)) 9), .inl (op_iload 1), .inl (op_iload 2), .inl (op_icmp (fun x y => decide (¬ x = y)) 11), .inl (op_ic (-1)), .inr (.inr 1), .inl (op_aload 0), .inl (op_getA 8 0), .inl (op_getA 6 0), .inl (op_iload 1), .inl (op_iload 2)] := ⟨⟨mo_iload, (so_iload_n (n := 1) (by decide +kernel) rfl (by decide +kernel)).sim⟩,
  ⟨so_callS (G := pg) (T := pg_T) (k := 15) (i := 1) (y := 10) (n := 57) pg_good (by decide +kernel) wd285 wd283 wd284 wd57 ⟨(by decide +kernel), (by decide +kernel), (by decide +kernel)⟩ ⟨(by decide +kernel), (by decide +kernel)⟩ (by decide +kernel), mf10⟩,
  ⟨mo_if, (so_if_eq (off := 15) (by decide +kernel) (by decide +kernel) (by decide +kernel)).sim⟩,
  ⟨mo_iload, (so_iload_n (n := 2) (by decide +kernel) rfl (by decide +kernel)).sim⟩,
  ⟨so_callS (G := pg) (T := pg_T) (k := 15) (i := 4) (y := 10) (n := 57) pg_good (by decide +kernel) wd285 wd283 wd284 wd57 ⟨(by decide +kernel), (by decide +kernel), (by decide +kernel)⟩ ⟨(by decide +kernel), (by decide +kernel)⟩ (by decide +kernel), mf10⟩,
  ⟨mo_if, (so_if_eq (off := 8) (by decide +kernel) (by decide +kernel) (by decide +kernel)).sim⟩,
  ⟨mo_iload, (so_iload_n (n := 1) (by decide +kernel) rfl (by decide +kernel)).sim⟩,
  ⟨mo_iload, (so_iload_n (n := 2) (by decide +kernel) rfl (by decide +kernel)).sim⟩,
  ⟨mo_icmp, (so_icmp_ne (off := 5) (by decide +kernel) (by decide +kernel) (by decide +kernel)).sim⟩,
  ⟨mo_ic, (so_iconst (n := (-1)) (by decide +kernel) (by decide +kernel) (by decide +kernel)).sim⟩,
  so_iret (by decide +kernel) rfl,
  ⟨mo_aload, (so_aload_n (n := 0) (by decide +kernel) rfl (by decide +kernel)).sim⟩,
  ⟨mo_getA, (so_getA (n := 10) (by decide +kernel) (ci := 8) rfl (by decide +kernel) wd254 hin8 (by decide +kernel)).sim⟩,
  ⟨mo_getA, (so_getA (n := 65) (by decide +kernel) (ci := 6) rfl (by decide +kernel) wd149 hin6 (by decide +kernel)).sim⟩,
  ⟨mo_iload, (so_iload_n (n := 1) (by decide +kernel) rfl (by decide +kernel)).sim⟩,
  ⟨mo_iload, (so_iload_n (n := 2) (by decide +kernel) rfl (by decide +kernel)).sim⟩, trivial⟩
theorem ok15_1 : pm_okL pg pg_T 15 (16 * 1) [.inl (op_iload 3), .inr (.inl (16, 4, 0, 8)), .inl (op_aload 0), .inl (op_getA 8 0), .inl (op_getA 6 0), .inr (.inl (17, 1, 1, 8)), .inr (.inr 1)] := ⟨⟨mo_iload, (so_iload_n (n := 3) (by decide +kernel) rfl (by decide +kernel)).sim⟩,
  ⟨so_callV (G := pg) (T := pg_T) (k := 15) (i := 17) (y := 16) (n := 76) pg_good (by decide +kernel) wd309 wd306 wd307 wd59 wd308 (ci := 7) rfl ⟨(by decide +kernel), (by decide +kernel), (by decide +kernel)⟩ ⟨(by decide +kernel), (by decide +kernel)⟩ (by decide +kernel), mf16⟩,
  ⟨mo_aload, (so_aload_n (n := 0) (by decide +kernel) rfl (by decide +kernel)).sim⟩,
  ⟨mo_getA, (so_getA (n := 10) (by decide +kernel) (ci := 8) rfl (by decide +kernel) wd254 hin8 (by decide +kernel)).sim⟩,
  ⟨mo_getA, (so_getA (n := 65) (by decide +kernel) (ci := 6) rfl (by decide +kernel) wd149 hin6 (by decide +kernel)).sim⟩,
  ⟨so_callV (G := pg) (T := pg_T) (k := 15) (i := 21) (y := 17) (n := 80) pg_good (by decide +kernel) wd313 wd310 wd311 wd59 wd312 (ci := 7) rfl ⟨(by decide +kernel), (by decide +kernel), (by decide +kernel)⟩ ⟨(by decide +kernel), (by decide +kernel)⟩ (by decide +kernel), mf17⟩,
  so_iret (by decide +kernel) rfl, trivial⟩
theorem ok15 : pm_okC pg pg_T 15 0 pk15 := ⟨ok15_0, ok15_1, trivial⟩
theorem ok16_0 : pm_okL pg pg_T 16 (16 * 0) [.inl (op_iload 1), .inr (.inl (10, 1, 1, 0)), .inl (op_if (fun x => decide (x = 0)) 6), .inl (op_iload 2), .inr (.inl (10, 1, 1, 0)), .inl (op_if (fun x => decide (¬ x = 0)) 7), .inr (.inr 0), .inl (op_aload 0), .inl (op_getA 7 3), .inl (op_iload 1), .inl (op_iload 3), .inl (op_if (fun x => decide (x = 0)) 21), .inl (op_aload 0), .inl (op_getA 7 3), .inl (op_iload 1), .inl (op_iald 0)] := ⟨⟨mo_iload, (so_iload_n (n := 1) (by decide +kernel) rfl (by decide +kernel)).sim⟩,
  ⟨so_callSN (G := pg) (T := pg_T) (k := 16) (i := 1) (y := 10) (n := 37) pg_good (by decide +kernel) wd285 (List.mem_of_getElem? (i := 0) rfl) wd284 wd57 ⟨(by decide +kernel), (by decide +kernel), (by decide +kernel)⟩ ⟨(by decide +kernel), (by decide +kernel)⟩ (by decide +kernel), mf10⟩,
  ⟨mo_if, (so_if_eq (off := 10) (by decide +kernel) (by decide +kernel) (by decide +kernel)).sim⟩,
  ⟨mo_iload, (so_iload_n (n := 2) (by decide +kernel) rfl (by decide +kernel)).sim⟩,
  ⟨so_callSN (G := pg) (T := pg_T) (k := 16) (i := 4) (y := 10) (n := 37) pg_good (by decide +kernel) wd285 (List.mem_of_getElem? (i := 0) rfl) wd284 wd57 ⟨(by decide +kernel), (by decide +kernel), (by decide +kernel)⟩ ⟨(by decide +kernel), (by decide +kernel)⟩ (by decide +kernel), mf10⟩,
  ⟨mo_if, (so_if_ne (off := 4) (by decide +kernel) (by decide +kernel) (by decide +kernel)).sim⟩,
  so_vret (by decide +kernel) rfl,
  ⟨mo_aload, (so_aload_n (n := 0) (by decide +kernel) rfl (by decide +kernel)).sim⟩,
  ⟨mo_getA, (so_getA (n := 21) (by decide +kernel) (ci := 7) rfl (by decide +kernel) wd92 hin7 (by decide +kernel)).sim⟩,
  ⟨mo_iload, (so_iload_n (n := 1) (by decide +kernel) rfl (by decide +kernel)).sim⟩,
  ⟨mo_iload, (so_iload_n (n := 3) (by decide +kernel) rfl (by decide +kernel)).sim⟩,
  ⟨mo_if, (so_if_eq (off := 16) (by decide +kernel) (by decide +kernel) (by decide +kernel)).sim⟩,
  ⟨mo_aload, (so_aload_n (n := 0) (by decide +kernel) rfl (by decide +kernel)).sim⟩,
  ⟨mo_getA, (so_getA (n := 21) (by decide +kernel) (ci := 7) rfl (by decide +kernel) wd92 hin7 (by decide +kernel)).sim⟩,
  ⟨mo_iload, (so_iload_n (n := 1) (by decide +kernel) rfl (by decide +kernel)).sim⟩,
  ⟨mo_iald, (so_iald (by decide +kernel) (by decide +kernel)).sim⟩, trivial⟩
theorem ok16_1 : pm_okL pg pg_T 16 (16 * 1) [.inl (op_ic 1), .inl (op_iload 2), .inl (op_bin (fun x y => x <<< (y &&& 31))), .inl (op_bin (fun x y => x ||| y)), .inl (op_goto 31), .inl (op_aload 0), .inl (op_getA 7 3), .inl (op_iload 1), .inl (op_iald 0), .inl (op_ic 1), .inl (op_iload 2), .inl (op_bin (fun x y => x <<< (y &&& 31))), .inl (op_ic (-1)), .inl (op_bin (fun x y => x ^^^ y)), .inl (op_bin (fun x y => x &&& y)), .inl op_iast] := ⟨⟨mo_ic, (so_iconst (n := 1) (by decide +kernel) (by decide +kernel) (by decide +kernel)).sim⟩,
  ⟨mo_iload, (so_iload_n (n := 2) (by decide +kernel) rfl (by decide +kernel)).sim⟩,
  ⟨mo_bin, (so_ishl (by decide +kernel) (by decide +kernel)).sim⟩,
  ⟨mo_bin, (so_ior (by decide +kernel) (by decide +kernel)).sim⟩,
  ⟨mo_goto, (so_goto (off := 15) (by decide +kernel) (by decide +kernel)).sim⟩,
  ⟨mo_aload, (so_aload_n (n := 0) (by decide +kernel) rfl (by decide +kernel)).sim⟩,
  ⟨mo_getA, (so_getA (n := 21) (by decide +kernel) (ci := 7) rfl (by decide +kernel) wd92 hin7 (by decide +kernel)).sim⟩,
  ⟨mo_iload, (so_iload_n (n := 1) (by decide +kernel) rfl (by decide +kernel)).sim⟩,
  ⟨mo_iald, (so_iald (by decide +kernel) (by decide +kernel)).sim⟩,
  ⟨mo_ic, (so_iconst (n := 1) (by decide +kernel) (by decide +kernel) (by decide +kernel)).sim⟩,
  ⟨mo_iload, (so_iload_n (n := 2) (by decide +kernel) rfl (by decide +kernel)).sim⟩,
  ⟨mo_bin, (so_ishl (by decide +kernel) (by decide +kernel)).sim⟩,
  ⟨mo_ic, (so_iconst (n := (-1)) (by decide +kernel) (by decide +kernel) (by decide +kernel)).sim⟩,
  ⟨mo_bin, (so_ixor (by decide +kernel) (by decide +kernel)).sim⟩,
  ⟨mo_bin, (so_iand (by decide +kernel) (by decide +kernel)).sim⟩,
  ⟨mo_iast, (so_iast (by decide +kernel) (by decide +kernel)).sim⟩, trivial⟩
theorem ok16_2 : pm_okL pg pg_T 16 (16 * 2) [.inl (op_aload 0), .inl (op_getA 7 3), .inl (op_iload 2), .inl (op_iload 3), .inl (op_if (fun x => decide (x = 0)) 46), .inl (op_aload 0), .inl (op_getA 7 3), .inl (op_iload 2), .inl (op_iald 0), .inl (op_ic 1), .inl (op_iload 1), .inl (op_bin (fun x y => x <<< (y &&& 31))), .inl (op_bin (fun x y => x ||| y)), .inl (op_goto 56), .inl (op_aload 0), .inl (op_getA 7 3)] := ⟨⟨mo_aload, (so_aload_n (n := 0) (by decide +kernel) rfl (by decide +kernel)).sim⟩,
  ⟨mo_getA, (so_getA (n := 21) (by decide +kernel) (ci := 7) rfl (by decide +kernel) wd92 hin7 (by decide +kernel)).sim⟩,
  ⟨mo_iload, (so_iload_n (n := 2) (by decide +kernel) rfl (by decide +kernel)).sim⟩,
  ⟨mo_iload, (so_iload_n (n := 3) (by decide +kernel) rfl (by decide +kernel)).sim⟩,
  ⟨mo_if, (so_if_eq (off := 16) (by decide +kernel) (by decide +kernel) (by decide +kernel)).sim⟩,
  ⟨mo_aload, (so_aload_n (n := 0) (by decide +kernel) rfl (by decide +kernel)).sim⟩,
  ⟨mo_getA, (so_getA (n := 21) (by decide +kernel) (ci := 7) rfl (by decide +kernel) wd92 hin7 (by decide +kernel)).sim⟩,
  ⟨mo_iload, (so_iload_n (n := 2) (by decide +kernel) rfl (by decide +kernel)).sim⟩,
  ⟨mo_iald, (so_iald (by decide +kernel) (by decide +kernel)).sim⟩,
  ⟨mo_ic, (so_iconst (n := 1) (by decide +kernel) (by decide +kernel) (by decide +kernel)).sim⟩,
  ⟨mo_iload, (so_iload_n (n := 1) (by decide +kernel) rfl (by decide +kernel)).sim⟩,
  ⟨mo_bin, (so_ishl (by decide +kernel) (by decide +kernel)).sim⟩,
  ⟨mo_bin, (so_ior (by decide +kernel) (by decide +kernel)).sim⟩,
  ⟨mo_goto, (so_goto (off := 15) (by decide +kernel) (by decide +kernel)).sim⟩,
  ⟨mo_aload, (so_aload_n (n := 0) (by decide +kernel) rfl (by decide +kernel)).sim⟩,
  ⟨mo_getA, (so_getA (n := 21) (by decide +kernel) (ci := 7) rfl (by decide +kernel) wd92 hin7 (by decide +kernel)).sim⟩, trivial⟩
theorem ok16_3 : pm_okL pg pg_T 16 (16 * 3) [.inl (op_iload 2), .inl (op_iald 0), .inl (op_ic 1), .inl (op_iload 1), .inl (op_bin (fun x y => x <<< (y &&& 31))), .inl (op_ic (-1)), .inl (op_bin (fun x y => x ^^^ y)), .inl (op_bin (fun x y => x &&& y)), .inl op_iast, .inr (.inr 0)] := ⟨⟨mo_iload, (so_iload_n (n := 2) (by decide +kernel) rfl (by decide +kernel)).sim⟩,
  ⟨mo_iald, (so_iald (by decide +kernel) (by decide +kernel)).sim⟩,
  ⟨mo_ic, (so_iconst (n := 1) (by decide +kernel) (by decide +kernel) (by decide +kernel)).sim⟩,
  ⟨mo_iload, (so_iload_n (n := 1) (by decide +kernel) rfl (by decide +kernel)).sim⟩,
  ⟨mo_bin, (so_ishl (by decide +kernel) (by decide +kernel)).sim⟩,
  ⟨mo_ic, (so_iconst (n := (-1)) (by decide +kernel) (by decide +kernel) (by decide +kernel)).sim⟩,
  ⟨mo_bin, (so_ixor (by decide +kernel) (by decide +kernel)).sim⟩,
  ⟨mo_bin, (so_iand (by decide +kernel) (by decide +kernel)).sim⟩,
  ⟨mo_iast, (so_iast (by decide +kernel) (by decide +kernel)).sim⟩,
  so_vret (by decide +kernel) rfl, trivial⟩
theorem ok16 : pm_okC pg pg_T 16 0 pk16 := ⟨ok16_0, ok16_1, ok16_2, ok16_3, trivial⟩
theorem ok17_0 : pm_okL pg pg_T 17 (16 * 0) [.inl (op_ic 0), .inl (op_istore 1), .inl (op_ic 0), .inl (op_istore 2), .inl (op_iload 2), .inl (op_ic 8), .inl (op_icmp (fun x y => decide (y ≤ x)) 17), .inl (op_iload 1), .inl (op_aload 0), .inl (op_getA 7 3), .inl (op_iload 2), .inl (op_iald 0), .inr (.inl (18, 1, 1, 0)), .inl (op_bin (fun x y => x + y)), .inl (op_istore 1), .inl (op_iinc 2 1)] := ⟨⟨mo_ic, (so_iconst (n := 0) (by decide +kernel) (by decide +kernel) (by decide +kernel)).sim⟩,
  ⟨mo_istore, (so_istore_n (n := 1) (by decide +kernel) rfl (by decide +kernel)).sim⟩,
  ⟨mo_ic, (so_iconst (n := 0) (by decide +kernel) (by decide +kernel) (by decide +kernel)).sim⟩,
  ⟨mo_istore, (so_istore_n (n := 2) (by decide +kernel) rfl (by decide +kernel)).sim⟩,
  ⟨mo_iload, (so_iload_n (n := 2) (by decide +kernel) rfl (by decide +kernel)).sim⟩,
  ⟨mo_ic, (so_bipush (n := 8) (by decide +kernel) (by decide +kernel) (by decide +kernel)).sim⟩,
  ⟨mo_icmp, (so_icmp_ge (off := 21) (by decide +kernel) (by decide +kernel) (by decide +kernel)).sim⟩,
  ⟨mo_iload, (so_iload_n (n := 1) (by decide +kernel) rfl (by decide +kernel)).sim⟩,
  ⟨mo_aload, (so_aload_n (n := 0) (by decide +kernel) rfl (by decide +kernel)).sim⟩,
  ⟨mo_getA, (so_getA (n := 21) (by decide +kernel) (ci := 7) rfl (by decide +kernel) wd92 hin7 (by decide +kernel)).sim⟩,
  ⟨mo_iload, (so_iload_n (n := 2) (by decide +kernel) rfl (by decide +kernel)).sim⟩,
  ⟨mo_iald, (so_iald (by decide +kernel) (by decide +kernel)).sim⟩,
  ⟨so_callS (G := pg) (T := pg_T) (k := 17) (i := 12) (y := 18) (n := 55) pg_good (by decide +kernel) wd316 wd314 wd315 wd67 ⟨(by decide +kernel), (by decide +kernel), (by decide +kernel)⟩ ⟨(by decide +kernel), (by decide +kernel)⟩ (by decide +kernel), mf18⟩,
  ⟨mo_bin, (so_iadd (by decide +kernel) (by decide +kernel)).sim⟩,
  ⟨mo_istore, (so_istore_n (n := 1) (by decide +kernel) rfl (by decide +kernel)).sim⟩,
  ⟨mo_iinc, (so_iinc (n := 1) (by decide +kernel) (by decide +kernel) (by decide +kernel)).sim⟩, trivial⟩
theorem ok17_1 : pm_okL pg pg_T 17 (16 * 1) [.inl (op_goto 4), .inl (op_iload 1), .inl (op_ic 2), .inl (op_div (fun x y => x / y)), .inr (.inr 1)] := ⟨⟨mo_goto, (so_goto (off := (-21)) (by decide +kernel) (by decide +kernel)).sim⟩,
  ⟨mo_iload, (so_iload_n (n := 1) (by decide +kernel) rfl (by decide +kernel)).sim⟩,
  ⟨mo_ic, (so_iconst (n := 2) (by decide +kernel) (by decide +kernel) (by decide +kernel)).sim⟩,
  ⟨mo_div, (so_idiv (by decide +kernel) (by decide +kernel)).sim⟩,
  so_iret (by decide +kernel) rfl, trivial⟩
theorem ok17 : pm_okC pg pg_T 17 0 pk17 := ⟨ok17_0, ok17_1, trivial⟩
theorem ok18_0 : pm_okL pg pg_T 18 (16 * 0) [.inl (op_iload 0), .inl (op_iload 0), .inl (op_ic 1), .inl (op_bin (fun x y => (x.toUInt32 >>> (y.toUInt32 &&& Int32.toUInt32 31)).toInt32)), .inl (op_ic 1431655765), .inl (op_bin (fun x y => x &&& y)), .inl (op_bin (fun x y => x - y)), .inl (op_istore 0), .inl (op_iload 0), .inl (op_ic 858993459), .inl (op_bin (fun x y => x &&& y)), .inl (op_iload 0), .inl (op_ic 2), .inl (op_bin (fun x y => (x.toUInt32 >>> (y.toUInt32 &&& Int32.toUInt32 31)).toInt32)), .inl (op_ic 858993459), .inl (op_bin (fun x y => x &&& y))] := ⟨⟨mo_iload, (so_iload_n (n := 0) (by decide +kernel) rfl (by decide +kernel)).sim⟩,
  ⟨mo_iload, (so_iload_n (n := 0) (by decide +kernel) rfl (by decide +kernel)).sim⟩,
  ⟨mo_ic, (so_iconst (n := 1) (by decide +kernel) (by decide +kernel) (by decide +kernel)).sim⟩,
  ⟨mo_bin, (so_iushr (by decide +kernel) (by decide +kernel)).sim⟩,
  ⟨mo_ic, (so_ldcw (n := 265) (by decide +kernel) wd317 (by decide +kernel)).sim⟩,
  ⟨mo_bin, (so_iand (by decide +kernel) (by decide +kernel)).sim⟩,
  ⟨mo_bin, (so_isub (by decide +kernel) (by decide +kernel)).sim⟩,
  ⟨mo_istore, (so_istore_n (n := 0) (by decide +kernel) rfl (by decide +kernel)).sim⟩,
  ⟨mo_iload, (so_iload_n (n := 0) (by decide +kernel) rfl (by decide +kernel)).sim⟩,
  ⟨mo_ic, (so_ldcw (n := 266) (by decide +kernel) wd318 (by decide +kernel)).sim⟩,
  ⟨mo_bin, (so_iand (by decide +kernel) (by decide +kernel)).sim⟩,
  ⟨mo_iload, (so_iload_n (n := 0) (by decide +kernel) rfl (by decide +kernel)).sim⟩,
  ⟨mo_ic, (so_iconst (n := 2) (by decide +kernel) (by decide +kernel) (by decide +kernel)).sim⟩,
  ⟨mo_bin, (so_iushr (by decide +kernel) (by decide +kernel)).sim⟩,
  ⟨mo_ic, (so_ldcw (n := 266) (by decide +kernel) wd318 (by decide +kernel)).sim⟩,
  ⟨mo_bin, (so_iand (by decide +kernel) (by decide +kernel)).sim⟩, trivial⟩
theorem ok18_1 : pm_okL pg pg_T 18 (16 * 1) [.inl (op_bin (fun x y => x + y)), .inl (op_istore 0), .inl (op_iload 0), .inl (op_iload 0), .inl (op_ic 4), .inl (op_bin (fun x y => (x.toUInt32 >>> (y.toUInt32 &&& Int32.toUInt32 31)).toInt32)), .inl (op_bin (fun x y => x + y)), .inl (op_ic 252645135), .inl (op_bin (fun x y => x &&& y)), .inl (op_istore 0), .inl (op_iload 0), .inl (op_iload 0), .inl (op_ic 8), .inl (op_bin (fun x y => (x.toUInt32 >>> (y.toUInt32 &&& Int32.toUInt32 31)).toInt32)), .inl (op_bin (fun x y => x + y)), .inl (op_istore 0)] := ⟨⟨mo_bin, (so_iadd (by decide +kernel) (by decide +kernel)).sim⟩,
  ⟨mo_istore, (so_istore_n (n := 0) (by decide +kernel) rfl (by decide +kernel)).sim⟩,
  ⟨mo_iload, (so_iload_n (n := 0) (by decide +kernel) rfl (by decide +kernel)).sim⟩,
  ⟨mo_iload, (so_iload_n (n := 0) (by decide +kernel) rfl (by decide +kernel)).sim⟩,
  ⟨mo_ic, (so_iconst (n := 4) (by decide +kernel) (by decide +kernel) (by decide +kernel)).sim⟩,
  ⟨mo_bin, (so_iushr (by decide +kernel) (by decide +kernel)).sim⟩,
  ⟨mo_bin, (so_iadd (by decide +kernel) (by decide +kernel)).sim⟩,
  ⟨mo_ic, (so_ldcw (n := 267) (by decide +kernel) wd319 (by decide +kernel)).sim⟩,
  ⟨mo_bin, (so_iand (by decide +kernel) (by decide +kernel)).sim⟩,
  ⟨mo_istore, (so_istore_n (n := 0) (by decide +kernel) rfl (by decide +kernel)).sim⟩,
  ⟨mo_iload, (so_iload_n (n := 0) (by decide +kernel) rfl (by decide +kernel)).sim⟩,
  ⟨mo_iload, (so_iload_n (n := 0) (by decide +kernel) rfl (by decide +kernel)).sim⟩,
  ⟨mo_ic, (so_bipush (n := 8) (by decide +kernel) (by decide +kernel) (by decide +kernel)).sim⟩,
  ⟨mo_bin, (so_iushr (by decide +kernel) (by decide +kernel)).sim⟩,
  ⟨mo_bin, (so_iadd (by decide +kernel) (by decide +kernel)).sim⟩,
  ⟨mo_istore, (so_istore_n (n := 0) (by decide +kernel) rfl (by decide +kernel)).sim⟩, trivial⟩
theorem ok18_2 : pm_okL pg pg_T 18 (16 * 2) [.inl (op_iload 0), .inl (op_iload 0), .inl (op_ic 16), .inl (op_bin (fun x y => (x.toUInt32 >>> (y.toUInt32 &&& Int32.toUInt32 31)).toInt32)), .inl (op_bin (fun x y => x + y)), .inl (op_istore 0), .inl (op_iload 0), .inl (op_ic 63), .inl (op_bin (fun x y => x &&& y)), .inr (.inr 1)] := ⟨⟨mo_iload, (so_iload_n (n := 0) (by decide +kernel) rfl (by decide +kernel)).sim⟩,
  ⟨mo_iload, (so_iload_n (n := 0) (by decide +kernel) rfl (by decide +kernel)).sim⟩,
  ⟨mo_ic, (so_bipush (n := 16) (by decide +kernel) (by decide +kernel) (by decide +kernel)).sim⟩,
  ⟨mo_bin, (so_iushr (by decide +kernel) (by decide +kernel)).sim⟩,
  ⟨mo_bin, (so_iadd (by decide +kernel) (by decide +kernel)).sim⟩,
  ⟨mo_istore, (so_istore_n (n := 0) (by decide +kernel) rfl (by decide +kernel)).sim⟩,
  ⟨mo_iload, (so_iload_n (n := 0) (by decide +kernel) rfl (by decide +kernel)).sim⟩,
  ⟨mo_ic, (so_bipush (n := 63) (by decide +kernel) (by decide +kernel) (by decide +kernel)).sim⟩,
  ⟨mo_bin, (so_iand (by decide +kernel) (by decide +kernel)).sim⟩,
  so_iret (by decide +kernel) rfl, trivial⟩
theorem ok18 : pm_okC pg pg_T 18 0 pk18 := ⟨ok18_0, ok18_1, ok18_2, trivial⟩
theorem ok19_0 : pm_okL pg pg_T 19 (16 * 0) [.inl (op_iload 1), .inl (op_ic 0), .inl (op_ic 99), .inr (.inl (11, 3, 1, 0)), .inl (op_if (fun x => decide (¬ x = 0)) 7), .inl (op_ic (-2)), .inr (.inr 1), .inl (op_aload 0), .inl (op_getA 8 0), .inl (op_getA 6 0), .inl (op_getI 7 6), .inl (op_istore 2), .inl (op_aload 0), .inl (op_getA 8 0), .inl (op_getA 6 0), .inl (op_iload 1)] := ⟨⟨mo_iload, (so_iload_n (n := 1) (by decide +kernel) rfl (by decide +kernel)).sim⟩,
  ⟨mo_ic, (so_iconst (n := 0) (by decide +kernel) (by decide +kernel) (by decide +kernel)).sim⟩,
  ⟨mo_ic, (so_bipush (n := 99) (by decide +kernel) (by decide +kernel) (by decide +kernel)).sim⟩,
  ⟨so_callS (G := pg) (T := pg_T) (k := 19) (i := 3) (y := 11) (n := 61) pg_good (by decide +kernel) wd288 wd286 wd287 wd57 ⟨(by decide +kernel), (by decide +kernel), (by decide +kernel)⟩ ⟨(by decide +kernel), (by decide +kernel)⟩ (by decide +kernel), mf11⟩,
  ⟨mo_if, (so_if_ne (off := 6) (by decide +kernel) (by decide +kernel) (by decide +kernel)).sim⟩,
  ⟨mo_ic, (so_bipush (n := (-2)) (by decide +kernel) (by decide +kernel) (by decide +kernel)).sim⟩,
  so_iret (by decide +kernel) rfl,
  ⟨mo_aload, (so_aload_n (n := 0) (by decide +kernel) rfl (by decide +kernel)).sim⟩,
  ⟨mo_getA, (so_getA (n := 10) (by decide +kernel) (ci := 8) rfl (by decide +kernel) wd254 hin8 (by decide +kernel)).sim⟩,
  ⟨mo_getA, (so_getA (n := 65) (by decide +kernel) (ci := 6) rfl (by decide +kernel) wd149 hin6 (by decide +kernel)).sim⟩,
  ⟨mo_getI, (so_getI (n := 84) (by decide +kernel) (ci := 7) rfl (by decide +kernel) wd97 hin7 (by decide +kernel)).sim⟩,
  ⟨mo_istore, (so_istore_n (n := 2) (by decide +kernel) rfl (by decide +kernel)).sim⟩,
  ⟨mo_aload, (so_aload_n (n := 0) (by decide +kernel) rfl (by decide +kernel)).sim⟩,
  ⟨mo_getA, (so_getA (n := 10) (by decide +kernel) (ci := 8) rfl (by decide +kernel) wd254 hin8 (by decide +kernel)).sim⟩,
  ⟨mo_getA, (so_getA (n := 65) (by decide +kernel) (ci := 6) rfl (by decide +kernel) wd149 hin6 (by decide +kernel)).sim⟩,
  ⟨mo_iload, (so_iload_n (n := 1) (by decide +kernel) rfl (by decide +kernel)).sim⟩, trivial⟩
theorem ok19_1 : pm_okL pg pg_T 19 (16 * 1) [.inl (op_putI 7 6), .inl (op_iload 2), .inr (.inr 1)] := ⟨⟨mo_putI, (so_putI (n := 84) (by decide +kernel) (ci := 7) rfl (by decide +kernel) wd97 hin7 pty7_ok pnm7 rfl rfl (by decide +kernel)).sim⟩,
  ⟨mo_iload, (so_iload_n (n := 2) (by decide +kernel) rfl (by decide +kernel)).sim⟩,
  so_iret (by decide +kernel) rfl, trivial⟩
theorem ok19 : pm_okC pg pg_T 19 0 pk19 := ⟨ok19_0, ok19_1, trivial⟩
theorem ok20_0 : pm_okL pg pg_T 20 (16 * 0) [.inl (op_iload 1), .inl (op_ic 0), .inl (op_ic 5), .inr (.inl (11, 3, 1, 0)), .inl (op_if (fun x => decide (¬ x = 0)) 7), .inl (op_ic (-1)), .inr (.inr 1), .inl (op_iload 2), .inl (op_ic 1), .inl (op_ic 9), .inr (.inl (11, 3, 1, 0)), .inl (op_if (fun x => decide (x = 0)) 17), .inl (op_iload 3), .inl (op_ic 0), .inl (op_ic 99), .inr (.inl (11, 3, 1, 0))] := ⟨⟨mo_iload, (so_iload_n (n := 1) (by decide +kernel) rfl (by decide +kernel)).sim⟩,
  ⟨mo_ic, (so_iconst (n := 0) (by decide +kernel) (by decide +kernel) (by decide +kernel)).sim⟩,
  ⟨mo_ic, (so_iconst (n := 5) (by decide +kernel) (by decide +kernel) (by decide +kernel)).sim⟩,
  ⟨so_callS (G := pg) (T := pg_T) (k := 20) (i := 3) (y := 11) (n := 61) pg_good (by decide +kernel) wd288 wd286 wd287 wd57 ⟨(by decide +kernel), (by decide +kernel), (by decide +kernel)⟩ ⟨(by decide +kernel), (by decide +kernel)⟩ (by decide +kernel), mf11⟩,
  ⟨mo_if, (so_if_ne (off := 5) (by decide +kernel) (by decide +kernel) (by decide +kernel)).sim⟩,
  ⟨mo_ic, (so_iconst (n := (-1)) (by decide +kernel) (by decide +kernel) (by decide +kernel)).sim⟩,
  so_iret (by decide +kernel) rfl,
  ⟨mo_iload, (so_iload_n (n := 2) (by decide +kernel) rfl (by decide +kernel)).sim⟩,
  ⟨mo_ic, (so_iconst (n := 1) (by decide +kernel) (by decide +kernel) (by decide +kernel)).sim⟩,
  ⟨mo_ic, (so_bipush (n := 9) (by decide +kernel) (by decide +kernel) (by decide +kernel)).sim⟩,
  ⟨so_callS (G := pg) (T := pg_T) (k := 20) (i := 10) (y := 11) (n := 61) pg_good (by decide +kernel) wd288 wd286 wd287 wd57 ⟨(by decide +kernel), (by decide +kernel), (by decide +kernel)⟩ ⟨(by decide +kernel), (by decide +kernel)⟩ (by decide +kernel), mf11⟩,
  ⟨mo_if, (so_if_eq (off := 13) (by decide +kernel) (by decide +kernel) (by decide +kernel)).sim⟩,
  ⟨mo_iload, (so_iload_n (n := 3) (by decide +kernel) rfl (by decide +kernel)).sim⟩,
  ⟨mo_ic, (so_iconst (n := 0) (by decide +kernel) (by decide +kernel) (by decide +kernel)).sim⟩,
  ⟨mo_ic, (so_bipush (n := 99) (by decide +kernel) (by decide +kernel) (by decide +kernel)).sim⟩,
  ⟨so_callS (G := pg) (T := pg_T) (k := 20) (i := 15) (y := 11) (n := 61) pg_good (by decide +kernel) wd288 wd286 wd287 wd57 ⟨(by decide +kernel), (by decide +kernel), (by decide +kernel)⟩ ⟨(by decide +kernel), (by decide +kernel)⟩ (by decide +kernel), mf11⟩, trivial⟩
theorem ok20_1 : pm_okL pg pg_T 20 (16 * 1) [.inl (op_if (fun x => decide (¬ x = 0)) 19), .inl (op_ic (-2)), .inr (.inr 1), .inl (op_ic 100), .inl (op_aload 0), .inl (op_getA 8 0), .inl (op_getA 6 1), .inl (op_iload 1), .inr (.inl (21, 2, 1, 1)), .inl (op_bin (fun x y => x * y)), .inl (op_aload 0), .inl (op_getA 8 0), .inl (op_getA 6 1), .inl (op_iload 1), .inr (.inl (22, 2, 1, 1)), .inl (op_bin (fun x y => x + y))] := ⟨⟨mo_if, (so_if_ne (off := 6) (by decide +kernel) (by decide +kernel) (by decide +kernel)).sim⟩,
  ⟨mo_ic, (so_bipush (n := (-2)) (by decide +kernel) (by decide +kernel) (by decide +kernel)).sim⟩,
  so_iret (by decide +kernel) rfl,
  ⟨mo_ic, (so_bipush (n := 100) (by decide +kernel) (by decide +kernel) (by decide +kernel)).sim⟩,
  ⟨mo_aload, (so_aload_n (n := 0) (by decide +kernel) rfl (by decide +kernel)).sim⟩,
  ⟨mo_getA, (so_getA (n := 10) (by decide +kernel) (ci := 8) rfl (by decide +kernel) wd254 hin8 (by decide +kernel)).sim⟩,
  ⟨mo_getA, (so_getA (n := 88) (by decide +kernel) (ci := 6) rfl (by decide +kernel) wd151 hin6 (by decide +kernel)).sim⟩,
  ⟨mo_iload, (so_iload_n (n := 1) (by decide +kernel) rfl (by decide +kernel)).sim⟩,
  ⟨so_callV (G := pg) (T := pg_T) (k := 20) (i := 24) (y := 21) (n := 92) pg_good (by decide +kernel) wd331 wd328 wd329 wd60 wd330 (ci := 0) rfl ⟨(by decide +kernel), (by decide +kernel), (by decide +kernel)⟩ ⟨(by decide +kernel), (by decide +kernel)⟩ (by decide +kernel), mf21⟩,
  ⟨mo_bin, (so_imul (by decide +kernel) (by decide +kernel)).sim⟩,
  ⟨mo_aload, (so_aload_n (n := 0) (by decide +kernel) rfl (by decide +kernel)).sim⟩,
  ⟨mo_getA, (so_getA (n := 10) (by decide +kernel) (ci := 8) rfl (by decide +kernel) wd254 hin8 (by decide +kernel)).sim⟩,
  ⟨mo_getA, (so_getA (n := 88) (by decide +kernel) (ci := 6) rfl (by decide +kernel) wd151 hin6 (by decide +kernel)).sim⟩,
  ⟨mo_iload, (so_iload_n (n := 1) (by decide +kernel) rfl (by decide +kernel)).sim⟩,
  ⟨so_callV (G := pg) (T := pg_T) (k := 20) (i := 30) (y := 22) (n := 97) pg_good (by decide +kernel) wd336 wd333 wd334 wd60 wd335 (ci := 0) rfl ⟨(by decide +kernel), (by decide +kernel), (by decide +kernel)⟩ ⟨(by decide +kernel), (by decide +kernel)⟩ (by decide +kernel), mf22⟩,
  ⟨mo_bin, (so_iadd (by decide +kernel) (by decide +kernel)).sim⟩, trivial⟩
theorem ok20_2 : pm_okL pg pg_T 20 (16 * 2) [.inl (op_istore 4), .inl (op_aload 0), .inl (op_getA 8 0), .inl (op_getA 6 1), .inl (op_iload 1), .inl (op_iload 2), .inl (op_iload 3), .inr (.inl (23, 4, 0, 1)), .inl (op_iload 4), .inr (.inr 1)] := ⟨⟨mo_istore, (so_istore (by decide +kernel) (by decide +kernel)).sim⟩,
  ⟨mo_aload, (so_aload_n (n := 0) (by decide +kernel) rfl (by decide +kernel)).sim⟩,
  ⟨mo_getA, (so_getA (n := 10) (by decide +kernel) (ci := 8) rfl (by decide +kernel) wd254 hin8 (by decide +kernel)).sim⟩,
  ⟨mo_getA, (so_getA (n := 88) (by decide +kernel) (ci := 6) rfl (by decide +kernel) wd151 hin6 (by decide +kernel)).sim⟩,
  ⟨mo_iload, (so_iload_n (n := 1) (by decide +kernel) rfl (by decide +kernel)).sim⟩,
  ⟨mo_iload, (so_iload_n (n := 2) (by decide +kernel) rfl (by decide +kernel)).sim⟩,
  ⟨mo_iload, (so_iload_n (n := 3) (by decide +kernel) rfl (by decide +kernel)).sim⟩,
  ⟨so_callV (G := pg) (T := pg_T) (k := 20) (i := 39) (y := 23) (n := 100) pg_good (by decide +kernel) wd340 wd337 wd338 wd60 wd339 (ci := 0) rfl ⟨(by decide +kernel), (by decide +kernel), (by decide +kernel)⟩ ⟨(by decide +kernel), (by decide +kernel)⟩ (by decide +kernel), mf23⟩,
  ⟨mo_iload, (so_iload (by decide +kernel) (by decide +kernel)).sim⟩,
  so_iret (by decide +kernel) rfl, trivial⟩
theorem ok20 : pm_okC pg pg_T 20 0 pk20 := ⟨ok20_0, ok20_1, ok20_2, trivial⟩
theorem ok21_0 : pm_okL pg pg_T 21 (16 * 0) [.inl (op_iload 1), .inl (op_ic 0), .inl (op_ic 5), .inr (.inl (11, 3, 1, 0)), .inl (op_if (fun x => decide (x = 0)) 10), .inl (op_aload 0), .inl (op_getA 0 0), .inl (op_iload 1), .inl (op_iald 0), .inl (op_goto 11), .inl (op_ic (-1)), .inr (.inr 1)] := ⟨⟨mo_iload, (so_iload_n (n := 1) (by decide +kernel) rfl (by decide +kernel)).sim⟩,
  ⟨mo_ic, (so_iconst (n := 0) (by decide +kernel) (by decide +kernel) (by decide +kernel)).sim⟩,
  ⟨mo_ic, (so_iconst (n := 5) (by decide +kernel) (by decide +kernel) (by decide +kernel)).sim⟩,
  ⟨so_callSN (G := pg) (T := pg_T) (k := 21) (i := 3) (y := 11) (n := 18) pg_good (by decide +kernel) wd288 (List.mem_of_getElem? (i := 1) rfl) wd287 wd57 ⟨(by decide +kernel), (by decide +kernel), (by decide +kernel)⟩ ⟨(by decide +kernel), (by decide +kernel)⟩ (by decide +kernel), mf11⟩,
  ⟨mo_if, (so_if_eq (off := 12) (by decide +kernel) (by decide +kernel) (by decide +kernel)).sim⟩,
  ⟨mo_aload, (so_aload_n (n := 0) (by decide +kernel) rfl (by decide +kernel)).sim⟩,
  ⟨mo_getA, (so_getA (n := 9) (by decide +kernel) (ci := 0) rfl (by decide +kernel) wd124 hin0 (by decide +kernel)).sim⟩,
  ⟨mo_iload, (so_iload_n (n := 1) (by decide +kernel) rfl (by decide +kernel)).sim⟩,
  ⟨mo_iald, (so_iald (by decide +kernel) (by decide +kernel)).sim⟩,
  ⟨mo_goto, (so_goto (off := 4) (by decide +kernel) (by decide +kernel)).sim⟩,
  ⟨mo_ic, (so_iconst (n := (-1)) (by decide +kernel) (by decide +kernel) (by decide +kernel)).sim⟩,
  so_iret (by decide +kernel) rfl, trivial⟩
theorem ok21 : pm_okC pg pg_T 21 0 pk21 := ⟨ok21_0, trivial⟩
theorem ok22_0 : pm_okL pg pg_T 22 (16 * 0) [.inl (op_iload 1), .inl (op_ic 0), .inl (op_ic 5), .inr (.inl (11, 3, 1, 0)), .inl (op_if (fun x => decide (x = 0)) 10), .inl (op_aload 0), .inl (op_getA 0 1), .inl (op_iload 1), .inl (op_iald 0), .inl (op_goto 11), .inl (op_ic (-1)), .inr (.inr 1)] := ⟨⟨mo_iload, (so_iload_n (n := 1) (by decide +kernel) rfl (by decide +kernel)).sim⟩,
  ⟨mo_ic, (so_iconst (n := 0) (by decide +kernel) (by decide +kernel) (by decide +kernel)).sim⟩,
  ⟨mo_ic, (so_iconst (n := 5) (by decide +kernel) (by decide +kernel) (by decide +kernel)).sim⟩,
  ⟨so_callSN (G := pg) (T := pg_T) (k := 22) (i := 3) (y := 11) (n := 18) pg_good (by decide +kernel) wd288 (List.mem_of_getElem? (i := 1) rfl) wd287 wd57 ⟨(by decide +kernel), (by decide +kernel), (by decide +kernel)⟩ ⟨(by decide +kernel), (by decide +kernel)⟩ (by decide +kernel), mf11⟩,
  ⟨mo_if, (so_if_eq (off := 12) (by decide +kernel) (by decide +kernel) (by decide +kernel)).sim⟩,
  ⟨mo_aload, (so_aload_n (n := 0) (by decide +kernel) rfl (by decide +kernel)).sim⟩,
  ⟨mo_getA, (so_getA (n := 15) (by decide +kernel) (ci := 0) rfl (by decide +kernel) wd125 hin0 (by decide +kernel)).sim⟩,
  ⟨mo_iload, (so_iload_n (n := 1) (by decide +kernel) rfl (by decide +kernel)).sim⟩,
  ⟨mo_iald, (so_iald (by decide +kernel) (by decide +kernel)).sim⟩,
  ⟨mo_goto, (so_goto (off := 4) (by decide +kernel) (by decide +kernel)).sim⟩,
  ⟨mo_ic, (so_iconst (n := (-1)) (by decide +kernel) (by decide +kernel) (by decide +kernel)).sim⟩,
  so_iret (by decide +kernel) rfl, trivial⟩
theorem ok22 : pm_okC pg pg_T 22 0 pk22 := ⟨ok22_0, trivial⟩
theorem ok23_0 : pm_okL pg pg_T 23 (16 * 0) [.inl (op_iload 1), .inl (op_ic 0), .inl (op_ic 5), .inr (.inl (11, 3, 1, 0)), .inl (op_if (fun x => decide (x = 0)) 15), .inl (op_aload 0), .inl (op_getA 0 0), .inl (op_iload 1), .inl (op_iload 2), .inl op_iast, .inl (op_aload 0), .inl (op_getA 0 1), .inl (op_iload 1), .inl (op_iload 3), .inl op_iast, .inr (.inr 0)] := ⟨⟨mo_iload, (so_iload_n (n := 1) (by decide +kernel) rfl (by decide +kernel)).sim⟩,
  ⟨mo_ic, (so_iconst (n := 0) (by decide +kernel) (by decide +kernel) (by decide +kernel)).sim⟩,
  ⟨mo_ic, (so_iconst (n := 5) (by decide +kernel) (by decide +kernel) (by decide +kernel)).sim⟩,
  ⟨so_callSN (G := pg) (T := pg_T) (k := 23) (i := 3) (y := 11) (n := 18) pg_good (by decide +kernel) wd288 (List.mem_of_getElem? (i := 1) rfl) wd287 wd57 ⟨(by decide +kernel), (by decide +kernel), (by decide +kernel)⟩ ⟨(by decide +kernel), (by decide +kernel)⟩ (by decide +kernel), mf11⟩,
  ⟨mo_if, (so_if_eq (off := 17) (by decide +kernel) (by decide +kernel) (by decide +kernel)).sim⟩,
  ⟨mo_aload, (so_aload_n (n := 0) (by decide +kernel) rfl (by decide +kernel)).sim⟩,
  ⟨mo_getA, (so_getA (n := 9) (by decide +kernel) (ci := 0) rfl (by decide +kernel) wd124 hin0 (by decide +kernel)).sim⟩,
  ⟨mo_iload, (so_iload_n (n := 1) (by decide +kernel) rfl (by decide +kernel)).sim⟩,
  ⟨mo_iload, (so_iload_n (n := 2) (by decide +kernel) rfl (by decide +kernel)).sim⟩,
  ⟨mo_iast, (so_iast (by decide +kernel) (by decide +kernel)).sim⟩,
  ⟨mo_aload, (so_aload_n (n := 0) (by decide +kernel) rfl (by decide +kernel)).sim⟩,
  ⟨mo_getA, (so_getA (n := 15) (by decide +kernel) (ci := 0) rfl (by decide +kernel) wd125 hin0 (by decide +kernel)).sim⟩,
  ⟨mo_iload, (so_iload_n (n := 1) (by decide +kernel) rfl (by decide +kernel)).sim⟩,
  ⟨mo_iload, (so_iload_n (n := 3) (by decide +kernel) rfl (by decide +kernel)).sim⟩,
  ⟨mo_iast, (so_iast (by decide +kernel) (by decide +kernel)).sim⟩,
  so_vret (by decide +kernel) rfl, trivial⟩
theorem ok23 : pm_okC pg pg_T 23 0 pk23 := ⟨ok23_0, trivial⟩
theorem ok24_0 : pm_okL pg pg_T 24 (16 * 0) [.inl (op_iload 1), .inl (op_ic 33), .inl (op_ic 126), .inr (.inl (11, 3, 1, 0)), .inl (op_if (fun x => decide (¬ x = 0)) 7), .inl (op_ic (-2)), .inr (.inr 1), .inl (op_aload 0), .inl (op_getA 8 3), .inl (op_iload 1), .inr (.inl (25, 2, 1, 3)), .inl (op_if (fun x => decide (x = 0)) 16), .inl (op_aload 0), .inl (op_getA 8 3), .inl (op_getI 2 4), .inl (op_goto 17)] := ⟨⟨mo_iload, (so_iload_n (n := 1) (by decide +kernel) rfl (by decide +kernel)).sim⟩,
  ⟨mo_ic, (so_bipush (n := 33) (by decide +kernel) (by decide +kernel) (by decide +kernel)).sim⟩,
  ⟨mo_ic, (so_bipush (n := 126) (by decide +kernel) (by decide +kernel) (by decide +kernel)).sim⟩,
  ⟨so_callS (G := pg) (T := pg_T) (k := 24) (i := 3) (y := 11) (n := 61) pg_good (by decide +kernel) wd288 wd286 wd287 wd57 ⟨(by decide +kernel), (by decide +kernel), (by decide +kernel)⟩ ⟨(by decide +kernel), (by decide +kernel)⟩ (by decide +kernel), mf11⟩,
  ⟨mo_if, (so_if_ne (off := 6) (by decide +kernel) (by decide +kernel) (by decide +kernel)).sim⟩,
  ⟨mo_ic, (so_bipush (n := (-2)) (by decide +kernel) (by decide +kernel) (by decide +kernel)).sim⟩,
  so_iret (by decide +kernel) rfl,
  ⟨mo_aload, (so_aload_n (n := 0) (by decide +kernel) rfl (by decide +kernel)).sim⟩,
  ⟨mo_getA, (so_getA (n := 25) (by decide +kernel) (ci := 8) rfl (by decide +kernel) wd257 hin8 (by decide +kernel)).sim⟩,
  ⟨mo_iload, (so_iload_n (n := 1) (by decide +kernel) rfl (by decide +kernel)).sim⟩,
  ⟨so_callV (G := pg) (T := pg_T) (k := 24) (i := 10) (y := 25) (n := 104) pg_good (by decide +kernel) wd348 wd345 wd346 wd62 wd347 (ci := 2) rfl ⟨(by decide +kernel), (by decide +kernel), (by decide +kernel)⟩ ⟨(by decide +kernel), (by decide +kernel)⟩ (by decide +kernel), mf25⟩,
  ⟨mo_if, (so_if_eq (off := 13) (by decide +kernel) (by decide +kernel) (by decide +kernel)).sim⟩,
  ⟨mo_aload, (so_aload_n (n := 0) (by decide +kernel) rfl (by decide +kernel)).sim⟩,
  ⟨mo_getA, (so_getA (n := 25) (by decide +kernel) (ci := 8) rfl (by decide +kernel) wd257 hin8 (by decide +kernel)).sim⟩,
  ⟨mo_getI, (so_getI (n := 107) (by decide +kernel) (ci := 2) rfl (by decide +kernel) wd175 hin2 (by decide +kernel)).sim⟩,
  ⟨mo_goto, (so_goto (off := 5) (by decide +kernel) (by decide +kernel)).sim⟩, trivial⟩
theorem ok24_1 : pm_okL pg pg_T 24 (16 * 1) [.inl (op_ic (-4)), .inr (.inr 1)] := ⟨⟨mo_ic, (so_bipush (n := (-4)) (by decide +kernel) (by decide +kernel) (by decide +kernel)).sim⟩,
  so_iret (by decide +kernel) rfl, trivial⟩
theorem ok24 : pm_okC pg pg_T 24 0 pk24 := ⟨ok24_0, ok24_1, trivial⟩
theorem ok25_0 : pm_okL pg pg_T 25 (16 * 0) [.inl (op_aload 0), .inl (op_getI 2 4), .inl (op_ic 0), .inl (op_ic 59), .inr (.inl (11, 3, 1, 0)), .inl (op_if (fun x => decide (¬ x = 0)) 8), .inl (op_ic 0), .inr (.inr 3), .inl (op_aload 0), .inl (op_getA 2 0), .inl (op_aload 0), .inl (op_getI 2 4), .inl (op_iload 1), .inl op_iast, .inl (op_aload 0), .inl op_dup] := ⟨⟨mo_aload, (so_aload_n (n := 0) (by decide +kernel) rfl (by decide +kernel)).sim⟩,
  ⟨mo_getI, (so_getI (n := 24) (by decide +kernel) (ci := 2) rfl (by decide +kernel) wd174 hin2 (by decide +kernel)).sim⟩,
  ⟨mo_ic, (so_iconst (n := 0) (by decide +kernel) (by decide +kernel) (by decide +kernel)).sim⟩,
  ⟨mo_ic, (so_bipush (n := 59) (by decide +kernel) (by decide +kernel) (by decide +kernel)).sim⟩,
  ⟨so_callSN (G := pg) (T := pg_T) (k := 25) (i := 4) (y := 11) (n := 28) pg_good (by decide +kernel) wd288 (List.mem_of_getElem? (i := 2) rfl) wd287 wd57 ⟨(by decide +kernel), (by decide +kernel), (by decide +kernel)⟩ ⟨(by decide +kernel), (by decide +kernel)⟩ (by decide +kernel), mf11⟩,
  ⟨mo_if, (so_if_ne (off := 5) (by decide +kernel) (by decide +kernel) (by decide +kernel)).sim⟩,
  ⟨mo_ic, (so_iconst (n := 0) (by decide +kernel) (by decide +kernel) (by decide +kernel)).sim⟩,
  so_zret (by decide +kernel) rfl,
  ⟨mo_aload, (so_aload_n (n := 0) (by decide +kernel) rfl (by decide +kernel)).sim⟩,
  ⟨mo_getA, (so_getA (n := 9) (by decide +kernel) (ci := 2) rfl (by decide +kernel) wd170 hin2 (by decide +kernel)).sim⟩,
  ⟨mo_aload, (so_aload_n (n := 0) (by decide +kernel) rfl (by decide +kernel)).sim⟩,
  ⟨mo_getI, (so_getI (n := 24) (by decide +kernel) (ci := 2) rfl (by decide +kernel) wd174 hin2 (by decide +kernel)).sim⟩,
  ⟨mo_iload, (so_iload_n (n := 1) (by decide +kernel) rfl (by decide +kernel)).sim⟩,
  ⟨mo_iast, (so_iast (by decide +kernel) (by decide +kernel)).sim⟩,
  ⟨mo_aload, (so_aload_n (n := 0) (by decide +kernel) rfl (by decide +kernel)).sim⟩,
  ⟨mo_dup, (so_dup (by decide +kernel) (by decide +kernel)).sim⟩, trivial⟩
theorem ok25_1 : pm_okL pg pg_T 25 (16 * 1) [.inl (op_getI 2 4), .inl (op_ic 1), .inl (op_bin (fun x y => x + y)), .inl (op_putI 2 4), .inl (op_ic 1), .inr (.inr 3)] := ⟨⟨mo_getI, (so_getI (n := 24) (by decide +kernel) (ci := 2) rfl (by decide +kernel) wd174 hin2 (by decide +kernel)).sim⟩,
  ⟨mo_ic, (so_iconst (n := 1) (by decide +kernel) (by decide +kernel) (by decide +kernel)).sim⟩,
  ⟨mo_bin, (so_iadd (by decide +kernel) (by decide +kernel)).sim⟩,
  ⟨mo_putI, (so_putI (n := 24) (by decide +kernel) (ci := 2) rfl (by decide +kernel) wd174 hin2 pty2_ok pnm2 rfl rfl (by decide +kernel)).sim⟩,
  ⟨mo_ic, (so_iconst (n := 1) (by decide +kernel) (by decide +kernel) (by decide +kernel)).sim⟩,
  so_zret (by decide +kernel) rfl, trivial⟩
theorem ok25 : pm_okC pg pg_T 25 0 pk25 := ⟨ok25_0, ok25_1, trivial⟩
theorem ok26_0 : pm_okL pg pg_T 26 (16 * 0) [.inl (op_aload 0), .inl (op_getA 8 3), .inl (op_getI 2 4), .inl (op_istore 1), .inl (op_aload 0), .inl (op_getA 8 3), .inr (.inl (27, 1, 0, 3)), .inl (op_iload 1), .inr (.inr 1)] := ⟨⟨mo_aload, (so_aload_n (n := 0) (by decide +kernel) rfl (by decide +kernel)).sim⟩,
  ⟨mo_getA, (so_getA (n := 25) (by decide +kernel) (ci := 8) rfl (by decide +kernel) wd257 hin8 (by decide +kernel)).sim⟩,
  ⟨mo_getI, (so_getI (n := 107) (by decide +kernel) (ci := 2) rfl (by decide +kernel) wd175 hin2 (by decide +kernel)).sim⟩,
  ⟨mo_istore, (so_istore_n (n := 1) (by decide +kernel) rfl (by decide +kernel)).sim⟩,
  ⟨mo_aload, (so_aload_n (n := 0) (by decide +kernel) rfl (by decide +kernel)).sim⟩,
  ⟨mo_getA, (so_getA (n := 25) (by decide +kernel) (ci := 8) rfl (by decide +kernel) wd257 hin8 (by decide +kernel)).sim⟩,
  ⟨so_callV (G := pg) (T := pg_T) (k := 26) (i := 6) (y := 27) (n := 110) pg_good (by decide +kernel) wd357 wd354 wd355 wd62 wd356 (ci := 2) rfl ⟨(by decide +kernel), (by decide +kernel), (by decide +kernel)⟩ ⟨(by decide +kernel), (by decide +kernel)⟩ (by decide +kernel), mf27⟩,
  ⟨mo_iload, (so_iload_n (n := 1) (by decide +kernel) rfl (by decide +kernel)).sim⟩,
  so_iret (by decide +kernel) rfl, trivial⟩
theorem ok26 : pm_okC pg pg_T 26 0 pk26 := ⟨ok26_0, trivial⟩
theorem ok27_0 : pm_okL pg pg_T 27 (16 * 0) [.inl (op_aload 0), .inl (op_ic 0), .inl (op_putI 2 4), .inl (op_aload 0), .inl (op_ic 0), .inl (op_putI 2 5), .inr (.inr 0)] := ⟨⟨mo_aload, (so_aload_n (n := 0) (by decide +kernel) rfl (by decide +kernel)).sim⟩,
  ⟨mo_ic, (so_iconst (n := 0) (by decide +kernel) (by decide +kernel) (by decide +kernel)).sim⟩,
  ⟨mo_putI, (so_putI (n := 24) (by decide +kernel) (ci := 2) rfl (by decide +kernel) wd174 hin2 pty2_ok pnm2 rfl rfl (by decide +kernel)).sim⟩,
  ⟨mo_aload, (so_aload_n (n := 0) (by decide +kernel) rfl (by decide +kernel)).sim⟩,
  ⟨mo_ic, (so_iconst (n := 0) (by decide +kernel) (by decide +kernel) (by decide +kernel)).sim⟩,
  ⟨mo_putI, (so_putI (n := 32) (by decide +kernel) (ci := 2) rfl (by decide +kernel) wd177 hin2 pty2_ok pnm2 rfl rfl (by decide +kernel)).sim⟩,
  so_vret (by decide +kernel) rfl, trivial⟩
theorem ok27 : pm_okC pg pg_T 27 0 pk27 := ⟨ok27_0, trivial⟩
theorem ok28_0 : pm_okL pg pg_T 28 (16 * 0) [.inl (op_aload 0), .inl (op_getA 8 3), .inr (.inl (29, 1, 1, 3)), .inr (.inr 1)] := ⟨⟨mo_aload, (so_aload_n (n := 0) (by decide +kernel) rfl (by decide +kernel)).sim⟩,
  ⟨mo_getA, (so_getA (n := 25) (by decide +kernel) (ci := 8) rfl (by decide +kernel) wd257 hin8 (by decide +kernel)).sim⟩,
  ⟨so_callV (G := pg) (T := pg_T) (k := 28) (i := 2) (y := 29) (n := 113) pg_good (by decide +kernel) wd365 wd362 wd363 wd62 wd364 (ci := 2) rfl ⟨(by decide +kernel), (by decide +kernel), (by decide +kernel)⟩ ⟨(by decide +kernel), (by decide +kernel)⟩ (by decide +kernel), mf29⟩,
  so_iret (by decide +kernel) rfl, trivial⟩
theorem ok28 : pm_okC pg pg_T 28 0 pk28 := ⟨ok28_0, trivial⟩
theorem ok29_0 : pm_okL pg pg_T 29 (16 * 0) [.inl (op_aload 0), .inl (op_ic 0), .inl (op_putI 2 5), .inl (op_ic 0), .inl (op_istore 1), .inl (op_ic 0), .inl (op_istore 2), .inl (op_iload 2), .inl (op_aload 0), .inl (op_getI 2 4), .inl (op_icmp (fun x y => decide (y ≤ x)) 29), .inl (op_iload 2), .inl (op_ic 60), .inl (op_icmp (fun x y => decide (y ≤ x)) 29), .inl (op_aload 0), .inl (op_iload 1)] := ⟨⟨mo_aload, (so_aload_n (n := 0) (by decide +kernel) rfl (by decide +kernel)).sim⟩,
  ⟨mo_ic, (so_iconst (n := 0) (by decide +kernel) (by decide +kernel) (by decide +kernel)).sim⟩,
  ⟨mo_putI, (so_putI (n := 32) (by decide +kernel) (ci := 2) rfl (by decide +kernel) wd177 hin2 pty2_ok pnm2 rfl rfl (by decide +kernel)).sim⟩,
  ⟨mo_ic, (so_iconst (n := 0) (by decide +kernel) (by decide +kernel) (by decide +kernel)).sim⟩,
  ⟨mo_istore, (so_istore_n (n := 1) (by decide +kernel) rfl (by decide +kernel)).sim⟩,
  ⟨mo_ic, (so_iconst (n := 0) (by decide +kernel) (by decide +kernel) (by decide +kernel)).sim⟩,
  ⟨mo_istore, (so_istore_n (n := 2) (by decide +kernel) rfl (by decide +kernel)).sim⟩,
  ⟨mo_iload, (so_iload_n (n := 2) (by decide +kernel) rfl (by decide +kernel)).sim⟩,
  ⟨mo_aload, (so_aload_n (n := 0) (by decide +kernel) rfl (by decide +kernel)).sim⟩,
  ⟨mo_getI, (so_getI (n := 24) (by decide +kernel) (ci := 2) rfl (by decide +kernel) wd174 hin2 (by decide +kernel)).sim⟩,
  ⟨mo_icmp, (so_icmp_ge (off := 34) (by decide +kernel) (by decide +kernel) (by decide +kernel)).sim⟩,
  ⟨mo_iload, (so_iload_n (n := 2) (by decide +kernel) rfl (by decide +kernel)).sim⟩,
  ⟨mo_ic, (so_bipush (n := 60) (by decide +kernel) (by decide +kernel) (by decide +kernel)).sim⟩,
  ⟨mo_icmp, (so_icmp_ge (off := 28) (by decide +kernel) (by decide +kernel) (by decide +kernel)).sim⟩,
  ⟨mo_aload, (so_aload_n (n := 0) (by decide +kernel) rfl (by decide +kernel)).sim⟩,
  ⟨mo_iload, (so_iload_n (n := 1) (by decide +kernel) rfl (by decide +kernel)).sim⟩, trivial⟩
theorem ok29_1 : pm_okL pg pg_T 29 (16 * 1) [.inl (op_aload 0), .inl (op_getA 2 0), .inl (op_iload 2), .inl (op_iald 0), .inr (.inl (30, 3, 1, 3)), .inl (op_istore 1), .inl (op_iload 1), .inl (op_ic 4), .inl (op_icmp (fun x y => decide (¬ x = y)) 27), .inl (op_iload 2), .inr (.inr 1), .inl (op_iinc 2 1), .inl (op_goto 7), .inl (op_iload 1), .inl (op_if (fun x => decide (¬ x = 0)) 33), .inl (op_ic (-6))] := ⟨⟨mo_aload, (so_aload_n (n := 0) (by decide +kernel) rfl (by decide +kernel)).sim⟩,
  ⟨mo_getA, (so_getA (n := 9) (by decide +kernel) (ci := 2) rfl (by decide +kernel) wd170 hin2 (by decide +kernel)).sim⟩,
  ⟨mo_iload, (so_iload_n (n := 2) (by decide +kernel) rfl (by decide +kernel)).sim⟩,
  ⟨mo_iald, (so_iald (by decide +kernel) (by decide +kernel)).sim⟩,
  ⟨so_callV (G := pg) (T := pg_T) (k := 29) (i := 20) (y := 30) (n := 35) pg_good (by decide +kernel) wd369 wd366 wd368 wd62 wd1 (ci := 2) rfl ⟨(by decide +kernel), (by decide +kernel), (by decide +kernel)⟩ ⟨(by decide +kernel), (by decide +kernel)⟩ (by decide +kernel), mf30⟩,
  ⟨mo_istore, (so_istore_n (n := 1) (by decide +kernel) rfl (by decide +kernel)).sim⟩,
  ⟨mo_iload, (so_iload_n (n := 1) (by decide +kernel) rfl (by decide +kernel)).sim⟩,
  ⟨mo_ic, (so_iconst (n := 4) (by decide +kernel) (by decide +kernel) (by decide +kernel)).sim⟩,
  ⟨mo_icmp, (so_icmp_ne (off := 5) (by decide +kernel) (by decide +kernel) (by decide +kernel)).sim⟩,
  ⟨mo_iload, (so_iload_n (n := 2) (by decide +kernel) rfl (by decide +kernel)).sim⟩,
  so_iret (by decide +kernel) rfl,
  ⟨mo_iinc, (so_iinc (n := 1) (by decide +kernel) (by decide +kernel) (by decide +kernel)).sim⟩,
  ⟨mo_goto, (so_goto (off := (-36)) (by decide +kernel) (by decide +kernel)).sim⟩,
  ⟨mo_iload, (so_iload_n (n := 1) (by decide +kernel) rfl (by decide +kernel)).sim⟩,
  ⟨mo_if, (so_if_ne (off := 8) (by decide +kernel) (by decide +kernel) (by decide +kernel)).sim⟩,
  ⟨mo_ic, (so_bipush (n := (-6)) (by decide +kernel) (by decide +kernel) (by decide +kernel)).sim⟩, trivial⟩
theorem ok29_2 : pm_okL pg pg_T 29 (16 * 2) [.inl (op_goto 35), .inl (op_aload 0), .inl (op_getI 2 4), .inr (.inr 1)] := ⟨⟨mo_goto, (so_goto (off := 7) (by decide +kernel) (by decide +kernel)).sim⟩,
  ⟨mo_aload, (so_aload_n (n := 0) (by decide +kernel) rfl (by decide +kernel)).sim⟩,
  ⟨mo_getI, (so_getI (n := 24) (by decide +kernel) (ci := 2) rfl (by decide +kernel) wd174 hin2 (by decide +kernel)).sim⟩,
  so_iret (by decide +kernel) rfl, trivial⟩
theorem ok29 : pm_okC pg pg_T 29 0 pk29 := ⟨ok29_0, ok29_1, ok29_2, trivial⟩
theorem ok30_0 : pm_okL pg pg_T 30 (16 * 0) [.inl (op_aload 0), .inl (op_getI 2 5), .inl (op_ic 0), .inl (op_ic 59), .inr (.inl (11, 3, 1, 0)), .inl (op_if (fun x => decide (¬ x = 0)) 8), .inl (op_ic 4), .inr (.inr 1), .inl (op_iload 1), .inl (op_sw 36 [(0, 10), (1, 14), (2, 18)]), .inl (op_aload 0), .inl (op_iload 2), .inr (.inl (31, 2, 1, 3)), .inr (.inr 1), .inl (op_aload 0), .inl (op_iload 2)] := ⟨⟨mo_aload, (so_aload_n (n := 0) (by decide +kernel) rfl (by decide +kernel)).sim⟩,
  ⟨mo_getI, (so_getI (n := 32) (by decide +kernel) (ci := 2) rfl (by decide +kernel) wd177 hin2 (by decide +kernel)).sim⟩,
  ⟨mo_ic, (so_iconst (n := 0) (by decide +kernel) (by decide +kernel) (by decide +kernel)).sim⟩,
  ⟨mo_ic, (so_bipush (n := 59) (by decide +kernel) (by decide +kernel) (by decide +kernel)).sim⟩,
  ⟨so_callSN (G := pg) (T := pg_T) (k := 30) (i := 4) (y := 11) (n := 28) pg_good (by decide +kernel) wd288 (List.mem_of_getElem? (i := 2) rfl) wd287 wd57 ⟨(by decide +kernel), (by decide +kernel), (by decide +kernel)⟩ ⟨(by decide +kernel), (by decide +kernel)⟩ (by decide +kernel), mf11⟩,
  ⟨mo_if, (so_if_ne (off := 5) (by decide +kernel) (by decide +kernel) (by decide +kernel)).sim⟩,
  ⟨mo_ic, (so_iconst (n := 4) (by decide +kernel) (by decide +kernel) (by decide +kernel)).sim⟩,
  so_iret (by decide +kernel) rfl,
  ⟨mo_iload, (so_iload_n (n := 1) (by decide +kernel) rfl (by decide +kernel)).sim⟩,
  ⟨mo_sw, (so_tsw (dflt := 73) (lo := 0) (hi := 2) (offs := #[28, 34, 40]) (len := 28) (by decide +kernel) (by decide +kernel) (by decide +kernel) (by decide +kernel) (by decide +kernel)).sim⟩,
  ⟨mo_aload, (so_aload_n (n := 0) (by decide +kernel) rfl (by decide +kernel)).sim⟩,
  ⟨mo_iload, (so_iload_n (n := 2) (by decide +kernel) rfl (by decide +kernel)).sim⟩,
  ⟨so_callV (G := pg) (T := pg_T) (k := 30) (i := 12) (y := 31) (n := 39) pg_good (by decide +kernel) wd373 wd370 wd372 wd62 wd2 (ci := 2) rfl ⟨(by decide +kernel), (by decide +kernel), (by decide +kernel)⟩ ⟨(by decide +kernel), (by decide +kernel)⟩ (by decide +kernel), mf31⟩,
  so_iret (by decide +kernel) rfl,
  ⟨mo_aload, (so_aload_n (n := 0) (by decide +kernel) rfl (by decide +kernel)).sim⟩,
  ⟨mo_iload, (so_iload_n (n := 2) (by decide +kernel) rfl (by decide +kernel)).sim⟩, trivial⟩
theorem ok30_1 : pm_okL pg pg_T 30 (16 * 1) [.inr (.inl (33, 2, 1, 3)), .inr (.inr 1), .inl (op_aload 0), .inl (op_getA 2 3), .inl (op_aload 0), .inl (op_getI 2 5), .inl (op_iload 2), .inl (op_ic 65), .inl (op_bin (fun x y => x - y)), .inl op_iast, .inl (op_iload 2), .inl (op_ic 65), .inl (op_ic 72), .inr (.inl (11, 3, 1, 0)), .inl (op_if (fun x => decide (x = 0)) 34), .inl (op_aload 0)] := ⟨⟨so_callV (G := pg) (T := pg_T) (k := 30) (i := 16) (y := 33) (n := 43) pg_good (by decide +kernel) wd381 wd378 wd380 wd62 wd4 (ci := 2) rfl ⟨(by decide +kernel), (by decide +kernel), (by decide +kernel)⟩ ⟨(by decide +kernel), (by decide +kernel)⟩ (by decide +kernel), mf33⟩,
  so_iret (by decide +kernel) rfl,
  ⟨mo_aload, (so_aload_n (n := 0) (by decide +kernel) rfl (by decide +kernel)).sim⟩,
  ⟨mo_getA, (so_getA (n := 21) (by decide +kernel) (ci := 2) rfl (by decide +kernel) wd173 hin2 (by decide +kernel)).sim⟩,
  ⟨mo_aload, (so_aload_n (n := 0) (by decide +kernel) rfl (by decide +kernel)).sim⟩,
  ⟨mo_getI, (so_getI (n := 32) (by decide +kernel) (ci := 2) rfl (by decide +kernel) wd177 hin2 (by decide +kernel)).sim⟩,
  ⟨mo_iload, (so_iload_n (n := 2) (by decide +kernel) rfl (by decide +kernel)).sim⟩,
  ⟨mo_ic, (so_bipush (n := 65) (by decide +kernel) (by decide +kernel) (by decide +kernel)).sim⟩,
  ⟨mo_bin, (so_isub (by decide +kernel) (by decide +kernel)).sim⟩,
  ⟨mo_iast, (so_iast (by decide +kernel) (by decide +kernel)).sim⟩,
  ⟨mo_iload, (so_iload_n (n := 2) (by decide +kernel) rfl (by decide +kernel)).sim⟩,
  ⟨mo_ic, (so_bipush (n := 65) (by decide +kernel) (by decide +kernel) (by decide +kernel)).sim⟩,
  ⟨mo_ic, (so_bipush (n := 72) (by decide +kernel) (by decide +kernel) (by decide +kernel)).sim⟩,
  ⟨so_callSN (G := pg) (T := pg_T) (k := 30) (i := 29) (y := 11) (n := 28) pg_good (by decide +kernel) wd288 (List.mem_of_getElem? (i := 2) rfl) wd287 wd57 ⟨(by decide +kernel), (by decide +kernel), (by decide +kernel)⟩ ⟨(by decide +kernel), (by decide +kernel)⟩ (by decide +kernel), mf11⟩,
  ⟨mo_if, (so_if_eq (off := 10) (by decide +kernel) (by decide +kernel) (by decide +kernel)).sim⟩,
  ⟨mo_aload, (so_aload_n (n := 0) (by decide +kernel) rfl (by decide +kernel)).sim⟩, trivial⟩
theorem ok30_2 : pm_okL pg pg_T 30 (16 * 2) [.inr (.inl (32, 1, 1, 3)), .inl (op_goto 35), .inl (op_ic 4), .inr (.inr 1), .inl (op_aload 0), .inl (op_getA 2 3), .inl (op_aload 0), .inl (op_getI 2 5), .inl (op_iload 2), .inl (op_ic 48), .inl (op_bin (fun x y => x - y)), .inl op_iast, .inl (op_iload 2), .inl (op_ic 49), .inl (op_ic 57), .inr (.inl (11, 3, 1, 0))] := ⟨⟨so_callV (G := pg) (T := pg_T) (k := 30) (i := 32) (y := 32) (n := 46) pg_good (by decide +kernel) wd377 wd374 wd376 wd62 wd3 (ci := 2) rfl ⟨(by decide +kernel), (by decide +kernel), (by decide +kernel)⟩ ⟨(by decide +kernel), (by decide +kernel)⟩ (by decide +kernel), mf32⟩,
  ⟨mo_goto, (so_goto (off := 4) (by decide +kernel) (by decide +kernel)).sim⟩,
  ⟨mo_ic, (so_iconst (n := 4) (by decide +kernel) (by decide +kernel) (by decide +kernel)).sim⟩,
  so_iret (by decide +kernel) rfl,
  ⟨mo_aload, (so_aload_n (n := 0) (by decide +kernel) rfl (by decide +kernel)).sim⟩,
  ⟨mo_getA, (so_getA (n := 21) (by decide +kernel) (ci := 2) rfl (by decide +kernel) wd173 hin2 (by decide +kernel)).sim⟩,
  ⟨mo_aload, (so_aload_n (n := 0) (by decide +kernel) rfl (by decide +kernel)).sim⟩,
  ⟨mo_getI, (so_getI (n := 32) (by decide +kernel) (ci := 2) rfl (by decide +kernel) wd177 hin2 (by decide +kernel)).sim⟩,
  ⟨mo_iload, (so_iload_n (n := 2) (by decide +kernel) rfl (by decide +kernel)).sim⟩,
  ⟨mo_ic, (so_bipush (n := 48) (by decide +kernel) (by decide +kernel) (by decide +kernel)).sim⟩,
  ⟨mo_bin, (so_isub (by decide +kernel) (by decide +kernel)).sim⟩,
  ⟨mo_iast, (so_iast (by decide +kernel) (by decide +kernel)).sim⟩,
  ⟨mo_iload, (so_iload_n (n := 2) (by decide +kernel) rfl (by decide +kernel)).sim⟩,
  ⟨mo_ic, (so_bipush (n := 49) (by decide +kernel) (by decide +kernel) (by decide +kernel)).sim⟩,
  ⟨mo_ic, (so_bipush (n := 57) (by decide +kernel) (by decide +kernel) (by decide +kernel)).sim⟩,
  ⟨so_callSN (G := pg) (T := pg_T) (k := 30) (i := 47) (y := 11) (n := 28) pg_good (by decide +kernel) wd288 (List.mem_of_getElem? (i := 2) rfl) wd287 wd57 ⟨(by decide +kernel), (by decide +kernel), (by decide +kernel)⟩ ⟨(by decide +kernel), (by decide +kernel)⟩ (by decide +kernel), mf11⟩, trivial⟩
theorem ok30_3 : pm_okL pg pg_T 30 (16 * 3) [.inl (op_if (fun x => decide (x = 0)) 52), .inl (op_aload 0), .inr (.inl (32, 1, 1, 3)), .inl (op_goto 53), .inl (op_ic 4), .inr (.inr 1)] := ⟨⟨mo_if, (so_if_eq (off := 10) (by decide +kernel) (by decide +kernel) (by decide +kernel)).sim⟩,
  ⟨mo_aload, (so_aload_n (n := 0) (by decide +kernel) rfl (by decide +kernel)).sim⟩,
  ⟨so_callV (G := pg) (T := pg_T) (k := 30) (i := 50) (y := 32) (n := 46) pg_good (by decide +kernel) wd377 wd374 wd376 wd62 wd3 (ci := 2) rfl ⟨(by decide +kernel), (by decide +kernel), (by decide +kernel)⟩ ⟨(by decide +kernel), (by decide +kernel)⟩ (by decide +kernel), mf32⟩,
  ⟨mo_goto, (so_goto (off := 4) (by decide +kernel) (by decide +kernel)).sim⟩,
  ⟨mo_ic, (so_iconst (n := 4) (by decide +kernel) (by decide +kernel) (by decide +kernel)).sim⟩,
  so_iret (by decide +kernel) rfl, trivial⟩
theorem ok30 : pm_okC pg pg_T 30 0 pk30 := ⟨ok30_0, ok30_1, ok30_2, ok30_3, trivial⟩
theorem ok31_0 : pm_okL pg pg_T 31 (16 * 0) [.inl (op_aload 0), .inl (op_getA 2 1), .inl (op_aload 0), .inl (op_getI 2 5), .inl (op_iload 1), .inl (op_ic 103), .inl (op_icmp (fun x y => decide (¬ x = y)) 9), .inl (op_ic 6), .inl (op_goto 10), .inl (op_ic 7), .inl op_iast, .inl (op_aload 0), .inl (op_getA 2 2), .inl (op_aload 0), .inl (op_getI 2 5), .inl (op_iload 1)] := ⟨⟨mo_aload, (so_aload_n (n := 0) (by decide +kernel) rfl (by decide +kernel)).sim⟩,
  ⟨mo_getA, (so_getA (n := 15) (by decide +kernel) (ci := 2) rfl (by decide +kernel) wd171 hin2 (by decide +kernel)).sim⟩,
  ⟨mo_aload, (so_aload_n (n := 0) (by decide +kernel) rfl (by decide +kernel)).sim⟩,
  ⟨mo_getI, (so_getI (n := 32) (by decide +kernel) (ci := 2) rfl (by decide +kernel) wd177 hin2 (by decide +kernel)).sim⟩,
  ⟨mo_iload, (so_iload_n (n := 1) (by decide +kernel) rfl (by decide +kernel)).sim⟩,
  ⟨mo_ic, (so_bipush (n := 103) (by decide +kernel) (by decide +kernel) (by decide +kernel)).sim⟩,
  ⟨mo_icmp, (so_icmp_ne (off := 8) (by decide +kernel) (by decide +kernel) (by decide +kernel)).sim⟩,
  ⟨mo_ic, (so_bipush (n := 6) (by decide +kernel) (by decide +kernel) (by decide +kernel)).sim⟩,
  ⟨mo_goto, (so_goto (off := 5) (by decide +kernel) (by decide +kernel)).sim⟩,
  ⟨mo_ic, (so_bipush (n := 7) (by decide +kernel) (by decide +kernel) (by decide +kernel)).sim⟩,
  ⟨mo_iast, (so_iast (by decide +kernel) (by decide +kernel)).sim⟩,
  ⟨mo_aload, (so_aload_n (n := 0) (by decide +kernel) rfl (by decide +kernel)).sim⟩,
  ⟨mo_getA, (so_getA (n := 18) (by decide +kernel) (ci := 2) rfl (by decide +kernel) wd172 hin2 (by decide +kernel)).sim⟩,
  ⟨mo_aload, (so_aload_n (n := 0) (by decide +kernel) rfl (by decide +kernel)).sim⟩,
  ⟨mo_getI, (so_getI (n := 32) (by decide +kernel) (ci := 2) rfl (by decide +kernel) wd177 hin2 (by decide +kernel)).sim⟩,
  ⟨mo_iload, (so_iload_n (n := 1) (by decide +kernel) rfl (by decide +kernel)).sim⟩, trivial⟩
theorem ok31_1 : pm_okL pg pg_T 31 (16 * 1) [.inl (op_ic 65), .inl (op_ic 72), .inr (.inl (11, 3, 1, 0)), .inl (op_if (fun x => decide (x = 0)) 24), .inl (op_iload 1), .inl (op_ic 65), .inl (op_bin (fun x y => x - y)), .inl (op_goto 25), .inl (op_ic 0), .inl op_iast, .inl (op_aload 0), .inl (op_getA 2 3), .inl (op_aload 0), .inl (op_getI 2 5), .inl (op_ic 0), .inl op_iast] := ⟨⟨mo_ic, (so_bipush (n := 65) (by decide +kernel) (by decide +kernel) (by decide +kernel)).sim⟩,
  ⟨mo_ic, (so_bipush (n := 72) (by decide +kernel) (by decide +kernel) (by decide +kernel)).sim⟩,
  ⟨so_callSN (G := pg) (T := pg_T) (k := 31) (i := 18) (y := 11) (n := 28) pg_good (by decide +kernel) wd288 (List.mem_of_getElem? (i := 2) rfl) wd287 wd57 ⟨(by decide +kernel), (by decide +kernel), (by decide +kernel)⟩ ⟨(by decide +kernel), (by decide +kernel)⟩ (by decide +kernel), mf11⟩,
  ⟨mo_if, (so_if_eq (off := 10) (by decide +kernel) (by decide +kernel) (by decide +kernel)).sim⟩,
  ⟨mo_iload, (so_iload_n (n := 1) (by decide +kernel) rfl (by decide +kernel)).sim⟩,
  ⟨mo_ic, (so_bipush (n := 65) (by decide +kernel) (by decide +kernel) (by decide +kernel)).sim⟩,
  ⟨mo_bin, (so_isub (by decide +kernel) (by decide +kernel)).sim⟩,
  ⟨mo_goto, (so_goto (off := 4) (by decide +kernel) (by decide +kernel)).sim⟩,
  ⟨mo_ic, (so_iconst (n := 0) (by decide +kernel) (by decide +kernel) (by decide +kernel)).sim⟩,
  ⟨mo_iast, (so_iast (by decide +kernel) (by decide +kernel)).sim⟩,
  ⟨mo_aload, (so_aload_n (n := 0) (by decide +kernel) rfl (by decide +kernel)).sim⟩,
  ⟨mo_getA, (so_getA (n := 21) (by decide +kernel) (ci := 2) rfl (by decide +kernel) wd173 hin2 (by decide +kernel)).sim⟩,
  ⟨mo_aload, (so_aload_n (n := 0) (by decide +kernel) rfl (by decide +kernel)).sim⟩,
  ⟨mo_getI, (so_getI (n := 32) (by decide +kernel) (ci := 2) rfl (by decide +kernel) wd177 hin2 (by decide +kernel)).sim⟩,
  ⟨mo_ic, (so_iconst (n := 0) (by decide +kernel) (by decide +kernel) (by decide +kernel)).sim⟩,
  ⟨mo_iast, (so_iast (by decide +kernel) (by decide +kernel)).sim⟩, trivial⟩
theorem ok31_2 : pm_okL pg pg_T 31 (16 * 2) [.inl (op_iload 1), .inl (op_ic 46), .inl (op_icmp (fun x y => decide (¬ x = y)) 38), .inl (op_aload 0), .inr (.inl (32, 1, 1, 3)), .inr (.inr 1), .inl (op_iload 1), .inl (op_ic 103), .inl (op_icmp (fun x y => decide (¬ x = y)) 43), .inl (op_ic 3), .inr (.inr 1), .inl (op_iload 1), .inl (op_ic 65), .inl (op_ic 72), .inr (.inl (11, 3, 1, 0)), .inl (op_if (fun x => decide (x = 0)) 50)] := ⟨⟨mo_iload, (so_iload_n (n := 1) (by decide +kernel) rfl (by decide +kernel)).sim⟩,
  ⟨mo_ic, (so_bipush (n := 46) (by decide +kernel) (by decide +kernel) (by decide +kernel)).sim⟩,
  ⟨mo_icmp, (so_icmp_ne (off := 8) (by decide +kernel) (by decide +kernel) (by decide +kernel)).sim⟩,
  ⟨mo_aload, (so_aload_n (n := 0) (by decide +kernel) rfl (by decide +kernel)).sim⟩,
  ⟨so_callV (G := pg) (T := pg_T) (k := 31) (i := 36) (y := 32) (n := 46) pg_good (by decide +kernel) wd377 wd374 wd376 wd62 wd3 (ci := 2) rfl ⟨(by decide +kernel), (by decide +kernel), (by decide +kernel)⟩ ⟨(by decide +kernel), (by decide +kernel)⟩ (by decide +kernel), mf32⟩,
  so_iret (by decide +kernel) rfl,
  ⟨mo_iload, (so_iload_n (n := 1) (by decide +kernel) rfl (by decide +kernel)).sim⟩,
  ⟨mo_ic, (so_bipush (n := 103) (by decide +kernel) (by decide +kernel) (by decide +kernel)).sim⟩,
  ⟨mo_icmp, (so_icmp_ne (off := 5) (by decide +kernel) (by decide +kernel) (by decide +kernel)).sim⟩,
  ⟨mo_ic, (so_iconst (n := 3) (by decide +kernel) (by decide +kernel) (by decide +kernel)).sim⟩,
  so_iret (by decide +kernel) rfl,
  ⟨mo_iload, (so_iload_n (n := 1) (by decide +kernel) rfl (by decide +kernel)).sim⟩,
  ⟨mo_ic, (so_bipush (n := 65) (by decide +kernel) (by decide +kernel) (by decide +kernel)).sim⟩,
  ⟨mo_ic, (so_bipush (n := 72) (by decide +kernel) (by decide +kernel) (by decide +kernel)).sim⟩,
  ⟨so_callSN (G := pg) (T := pg_T) (k := 31) (i := 46) (y := 11) (n := 28) pg_good (by decide +kernel) wd288 (List.mem_of_getElem? (i := 2) rfl) wd287 wd57 ⟨(by decide +kernel), (by decide +kernel), (by decide +kernel)⟩ ⟨(by decide +kernel), (by decide +kernel)⟩ (by decide +kernel), mf11⟩,
  ⟨mo_if, (so_if_eq (off := 7) (by decide +kernel) (by decide +kernel) (by decide +kernel)).sim⟩, trivial⟩
theorem ok31_3 : pm_okL pg pg_T 31 (16 * 3) [.inl (op_ic 1), .inl (op_goto 51), .inl (op_ic 4), .inr (.inr 1)] := ⟨⟨mo_ic, (so_iconst (n := 1) (by decide +kernel) (by decide +kernel) (by decide +kernel)).sim⟩,
  ⟨mo_goto, (so_goto (off := 4) (by decide +kernel) (by decide +kernel)).sim⟩,
  ⟨mo_ic, (so_iconst (n := 4) (by decide +kernel) (by decide +kernel) (by decide +kernel)).sim⟩,
  so_iret (by decide +kernel) rfl, trivial⟩
theorem ok31 : pm_okC pg pg_T 31 0 pk31 := ⟨ok31_0, ok31_1, ok31_2, ok31_3, trivial⟩
end
