section
-- ===== PART A: goes FIRST, ahead of the names: the tables' words, and 'selects' of the private methods out of them =====
/-- a private method of a class that the tables say can be made, by its rows of tables_1 -/
def lw_okq (q : MethodName × Nat) : Prop := (q.1.cls ≠ "java/lang/invoke/MethodHandle" ∧ q.1.cls ≠ "java/lang/invoke/VarHandle") ∧ Cond.instantiable q.1.cls q.2 ∈ tables_1 ∧ Cond.privateMethod q.1 ∈ tables_1 ∧ Cond.instanceMethod q.1 ∈ tables_1
theorem lw_p0 : lw_okq (⟨"FrostReplies$Tokens", "stepOverRow", "()V"⟩, 7) := ⟨⟨by decide +kernel, by decide +kernel⟩, List.mem_of_getElem? (i := 208) (by decide +kernel), List.mem_of_getElem? (i := 484) (by decide +kernel), List.mem_of_getElem? (i := 485) (by decide +kernel)⟩
theorem lw_p1 : lw_okq (⟨"FrostReplies$Tokens", "stepOverDigits", "()V"⟩, 7) := ⟨⟨by decide +kernel, by decide +kernel⟩, List.mem_of_getElem? (i := 208) (by decide +kernel), List.mem_of_getElem? (i := 491) (by decide +kernel), List.mem_of_getElem? (i := 492) (by decide +kernel)⟩
theorem lw_p2 : lw_okq (⟨"FrostReplies$Reader", "keyOf", "(I)I"⟩, 16) := ⟨⟨by decide +kernel, by decide +kernel⟩, List.mem_of_getElem? (i := 194) (by decide +kernel), List.mem_of_getElem? (i := 495) (by decide +kernel), List.mem_of_getElem? (i := 496) (by decide +kernel)⟩
theorem lw_p3 : lw_okq (⟨"FrostReplies$Reader", "hillKey", "()I"⟩, 16) := ⟨⟨by decide +kernel, by decide +kernel⟩, List.mem_of_getElem? (i := 194) (by decide +kernel), List.mem_of_getElem? (i := 499) (by decide +kernel), List.mem_of_getElem? (i := 500) (by decide +kernel)⟩
theorem lw_p4 : lw_okq (⟨"FrostReplies$Reader", "centuryKey", "()I"⟩, 16) := ⟨⟨by decide +kernel, by decide +kernel⟩, List.mem_of_getElem? (i := 194) (by decide +kernel), List.mem_of_getElem? (i := 559) (by decide +kernel), List.mem_of_getElem? (i := 560) (by decide +kernel)⟩
theorem lw_p5 : lw_okq (⟨"FrostReplies$Reader", "deedOfToken", "()I"⟩, 16) := ⟨⟨by decide +kernel, by decide +kernel⟩, List.mem_of_getElem? (i := 194) (by decide +kernel), List.mem_of_getElem? (i := 563) (by decide +kernel), List.mem_of_getElem? (i := 564) (by decide +kernel)⟩
theorem lw_p6 : lw_okq (⟨"FrostReplies$Reader", "readOne", "(I)Z"⟩, 16) := ⟨⟨by decide +kernel, by decide +kernel⟩, List.mem_of_getElem? (i := 194) (by decide +kernel), List.mem_of_getElem? (i := 574) (by decide +kernel), List.mem_of_getElem? (i := 575) (by decide +kernel)⟩
theorem lw_p7 : lw_okq (⟨"FrostReplies$Reader", "refuse", "()Z"⟩, 16) := ⟨⟨by decide +kernel, by decide +kernel⟩, List.mem_of_getElem? (i := 194) (by decide +kernel), List.mem_of_getElem? (i := 578) (by decide +kernel), List.mem_of_getElem? (i := 579) (by decide +kernel)⟩
theorem lw_p8 : lw_okq (⟨"FrostReplies$Reader", "keepFirst", "()V"⟩, 16) := ⟨⟨by decide +kernel, by decide +kernel⟩, List.mem_of_getElem? (i := 194) (by decide +kernel), List.mem_of_getElem? (i := 582) (by decide +kernel), List.mem_of_getElem? (i := 583) (by decide +kernel)⟩
theorem lw_p9 : lw_okq (⟨"FrostReplies$Reader", "keepSecond", "()V"⟩, 16) := ⟨⟨by decide +kernel, by decide +kernel⟩, List.mem_of_getElem? (i := 194) (by decide +kernel), List.mem_of_getElem? (i := 586) (by decide +kernel), List.mem_of_getElem? (i := 587) (by decide +kernel)⟩
theorem lw_p10 : lw_okq (⟨"FrostReplies$Reader", "tell", "(I)V"⟩, 16) := ⟨⟨by decide +kernel, by decide +kernel⟩, List.mem_of_getElem? (i := 194) (by decide +kernel), List.mem_of_getElem? (i := 590) (by decide +kernel), List.mem_of_getElem? (i := 591) (by decide +kernel)⟩
theorem lw_p11 : lw_okq (⟨"FrostReplies$Reader", "tellWord", "()V"⟩, 16) := ⟨⟨by decide +kernel, by decide +kernel⟩, List.mem_of_getElem? (i := 194) (by decide +kernel), List.mem_of_getElem? (i := 594) (by decide +kernel), List.mem_of_getElem? (i := 595) (by decide +kernel)⟩
theorem lw_p12 : lw_okq (⟨"FrostReplies$Reader", "needRoom", "(II)Z"⟩, 16) := ⟨⟨by decide +kernel, by decide +kernel⟩, List.mem_of_getElem? (i := 194) (by decide +kernel), List.mem_of_getElem? (i := 598) (by decide +kernel), List.mem_of_getElem? (i := 599) (by decide +kernel)⟩
theorem lw_p13 : lw_okq (⟨"FrostReplies$Reader", "note", "(II)V"⟩, 16) := ⟨⟨by decide +kernel, by decide +kernel⟩, List.mem_of_getElem? (i := 194) (by decide +kernel), List.mem_of_getElem? (i := 602) (by decide +kernel), List.mem_of_getElem? (i := 603) (by decide +kernel)⟩
theorem lw_p14 : lw_okq (⟨"FrostReplies$Reader", "needRow", "(III)V"⟩, 16) := ⟨⟨by decide +kernel, by decide +kernel⟩, List.mem_of_getElem? (i := 194) (by decide +kernel), List.mem_of_getElem? (i := 606) (by decide +kernel), List.mem_of_getElem? (i := 607) (by decide +kernel)⟩
theorem lw_p15 : lw_okq (⟨"FrostReplies$Reader", "needNumber", "(IIII)V"⟩, 16) := ⟨⟨by decide +kernel, by decide +kernel⟩, List.mem_of_getElem? (i := 194) (by decide +kernel), List.mem_of_getElem? (i := 611) (by decide +kernel), List.mem_of_getElem? (i := 612) (by decide +kernel)⟩
def lw_privs_1 : List (MethodName × Nat) := [(⟨"FrostReplies$Tokens", "stepOverRow", "()V"⟩, 7), (⟨"FrostReplies$Tokens", "stepOverDigits", "()V"⟩, 7), (⟨"FrostReplies$Reader", "keyOf", "(I)I"⟩, 16), (⟨"FrostReplies$Reader", "hillKey", "()I"⟩, 16), (⟨"FrostReplies$Reader", "centuryKey", "()I"⟩, 16), (⟨"FrostReplies$Reader", "deedOfToken", "()I"⟩, 16), (⟨"FrostReplies$Reader", "readOne", "(I)Z"⟩, 16), (⟨"FrostReplies$Reader", "refuse", "()Z"⟩, 16), (⟨"FrostReplies$Reader", "keepFirst", "()V"⟩, 16), (⟨"FrostReplies$Reader", "keepSecond", "()V"⟩, 16), (⟨"FrostReplies$Reader", "tell", "(I)V"⟩, 16), (⟨"FrostReplies$Reader", "tellWord", "()V"⟩, 16), (⟨"FrostReplies$Reader", "needRoom", "(II)Z"⟩, 16), (⟨"FrostReplies$Reader", "note", "(II)V"⟩, 16), (⟨"FrostReplies$Reader", "needRow", "(III)V"⟩, 16), (⟨"FrostReplies$Reader", "needNumber", "(IIII)V"⟩, 16)]
theorem lw_r1 : ∀ q ∈ lw_privs_1, lw_okq q := List.forall_mem_cons.mpr ⟨lw_p0, List.forall_mem_cons.mpr ⟨lw_p1, List.forall_mem_cons.mpr ⟨lw_p2, List.forall_mem_cons.mpr ⟨lw_p3, List.forall_mem_cons.mpr ⟨lw_p4, List.forall_mem_cons.mpr ⟨lw_p5, List.forall_mem_cons.mpr ⟨lw_p6, List.forall_mem_cons.mpr ⟨lw_p7, List.forall_mem_cons.mpr ⟨lw_p8, List.forall_mem_cons.mpr ⟨lw_p9, List.forall_mem_cons.mpr ⟨lw_p10, List.forall_mem_cons.mpr ⟨lw_p11, List.forall_mem_cons.mpr ⟨lw_p12, List.forall_mem_cons.mpr ⟨lw_p13, List.forall_mem_cons.mpr ⟨lw_p14, List.forall_mem_cons.mpr ⟨lw_p15, fun _ h => absurd h List.not_mem_nil⟩⟩⟩⟩⟩⟩⟩⟩⟩⟩⟩⟩⟩⟩⟩⟩
theorem lw_p16 : lw_okq (⟨"FrostReplies$Reader", "letterAt", "(I)I"⟩, 16) := ⟨⟨by decide +kernel, by decide +kernel⟩, List.mem_of_getElem? (i := 194) (by decide +kernel), List.mem_of_getElem? (i := 619) (by decide +kernel), List.mem_of_getElem? (i := 620) (by decide +kernel)⟩
theorem lw_p17 : lw_okq (⟨"FrostReplies$Reader", "tellFollows", "()V"⟩, 16) := ⟨⟨by decide +kernel, by decide +kernel⟩, List.mem_of_getElem? (i := 194) (by decide +kernel), List.mem_of_getElem? (i := 623) (by decide +kernel), List.mem_of_getElem? (i := 624) (by decide +kernel)⟩
theorem lw_p18 : lw_okq (⟨"FrostReplies$Reader", "tellAsks", "()V"⟩, 16) := ⟨⟨by decide +kernel, by decide +kernel⟩, List.mem_of_getElem? (i := 194) (by decide +kernel), List.mem_of_getElem? (i := 633) (by decide +kernel), List.mem_of_getElem? (i := 634) (by decide +kernel)⟩
theorem lw_p19 : lw_okq (⟨"FrostReplies$Reader", "tellStones", "()V"⟩, 16) := ⟨⟨by decide +kernel, by decide +kernel⟩, List.mem_of_getElem? (i := 194) (by decide +kernel), List.mem_of_getElem? (i := 637) (by decide +kernel), List.mem_of_getElem? (i := 638) (by decide +kernel)⟩
theorem lw_p20 : lw_okq (⟨"FrostReplies$Reader", "tellDeed", "(Z)V"⟩, 16) := ⟨⟨by decide +kernel, by decide +kernel⟩, List.mem_of_getElem? (i := 194) (by decide +kernel), List.mem_of_getElem? (i := 641) (by decide +kernel), List.mem_of_getElem? (i := 642) (by decide +kernel)⟩
theorem lw_p21 : lw_okq (⟨"FrostReplies$Reader", "tellLine", "()V"⟩, 16) := ⟨⟨by decide +kernel, by decide +kernel⟩, List.mem_of_getElem? (i := 194) (by decide +kernel), List.mem_of_getElem? (i := 645) (by decide +kernel), List.mem_of_getElem? (i := 646) (by decide +kernel)⟩
theorem lw_p22 : lw_okq (⟨"FrostReplies$Reader", "tellFact", "()V"⟩, 16) := ⟨⟨by decide +kernel, by decide +kernel⟩, List.mem_of_getElem? (i := 194) (by decide +kernel), List.mem_of_getElem? (i := 649) (by decide +kernel), List.mem_of_getElem? (i := 650) (by decide +kernel)⟩
theorem lw_p23 : lw_okq (⟨"FrostReplies$Reader", "lookAtHill", "(I)V"⟩, 16) := ⟨⟨by decide +kernel, by decide +kernel⟩, List.mem_of_getElem? (i := 194) (by decide +kernel), List.mem_of_getElem? (i := 653) (by decide +kernel), List.mem_of_getElem? (i := 654) (by decide +kernel)⟩
theorem lw_p24 : lw_okq (⟨"FrostReplies$Told", "hasOne", "(II)Z"⟩, 9) := ⟨⟨by decide +kernel, by decide +kernel⟩, List.mem_of_getElem? (i := 31) (by decide +kernel), List.mem_of_getElem? (i := 715) (by decide +kernel), List.mem_of_getElem? (i := 716) (by decide +kernel)⟩
theorem lw_p25 : lw_okq (⟨"FrostReplies$Hill", "lookAtWord", "(II)I"⟩, 9) := ⟨⟨by decide +kernel, by decide +kernel⟩, List.mem_of_getElem? (i := 44) (by decide +kernel), List.mem_of_getElem? (i := 727) (by decide +kernel), List.mem_of_getElem? (i := 728) (by decide +kernel)⟩
theorem lw_p26 : lw_okq (⟨"FrostReplies$Ground", "begin", "(LFrostReplies$Hill;)V"⟩, 11) := ⟨⟨by decide +kernel, by decide +kernel⟩, List.mem_of_getElem? (i := 295) (by decide +kernel), List.mem_of_getElem? (i := 764) (by decide +kernel), List.mem_of_getElem? (i := 765) (by decide +kernel)⟩
theorem lw_p27 : lw_okq (⟨"FrostReplies$Ground", "does", "(III)Z"⟩, 11) := ⟨⟨by decide +kernel, by decide +kernel⟩, List.mem_of_getElem? (i := 295) (by decide +kernel), List.mem_of_getElem? (i := 770) (by decide +kernel), List.mem_of_getElem? (i := 771) (by decide +kernel)⟩
theorem lw_p28 : lw_okq (⟨"FrostReplies$Ground", "isStone", "(I)Z"⟩, 11) := ⟨⟨by decide +kernel, by decide +kernel⟩, List.mem_of_getElem? (i := 295) (by decide +kernel), List.mem_of_getElem? (i := 774) (by decide +kernel), List.mem_of_getElem? (i := 775) (by decide +kernel)⟩
theorem lw_p29 : lw_okq (⟨"FrostReplies$Ground", "freeze", "(II)Z"⟩, 11) := ⟨⟨by decide +kernel, by decide +kernel⟩, List.mem_of_getElem? (i := 295) (by decide +kernel), List.mem_of_getElem? (i := 781) (by decide +kernel), List.mem_of_getElem? (i := 782) (by decide +kernel)⟩
theorem lw_p30 : lw_okq (⟨"FrostReplies$Ground", "open", "(I)I"⟩, 11) := ⟨⟨by decide +kernel, by decide +kernel⟩, List.mem_of_getElem? (i := 295) (by decide +kernel), List.mem_of_getElem? (i := 786) (by decide +kernel), List.mem_of_getElem? (i := 787) (by decide +kernel)⟩
theorem lw_p31 : lw_okq (⟨"FrostReplies$Ground", "fitting", "(II)I"⟩, 11) := ⟨⟨by decide +kernel, by decide +kernel⟩, List.mem_of_getElem? (i := 295) (by decide +kernel), List.mem_of_getElem? (i := 790) (by decide +kernel), List.mem_of_getElem? (i := 791) (by decide +kernel)⟩
def lw_privs_2 : List (MethodName × Nat) := [(⟨"FrostReplies$Reader", "letterAt", "(I)I"⟩, 16), (⟨"FrostReplies$Reader", "tellFollows", "()V"⟩, 16), (⟨"FrostReplies$Reader", "tellAsks", "()V"⟩, 16), (⟨"FrostReplies$Reader", "tellStones", "()V"⟩, 16), (⟨"FrostReplies$Reader", "tellDeed", "(Z)V"⟩, 16), (⟨"FrostReplies$Reader", "tellLine", "()V"⟩, 16), (⟨"FrostReplies$Reader", "tellFact", "()V"⟩, 16), (⟨"FrostReplies$Reader", "lookAtHill", "(I)V"⟩, 16), (⟨"FrostReplies$Told", "hasOne", "(II)Z"⟩, 9), (⟨"FrostReplies$Hill", "lookAtWord", "(II)I"⟩, 9), (⟨"FrostReplies$Ground", "begin", "(LFrostReplies$Hill;)V"⟩, 11), (⟨"FrostReplies$Ground", "does", "(III)Z"⟩, 11), (⟨"FrostReplies$Ground", "isStone", "(I)Z"⟩, 11), (⟨"FrostReplies$Ground", "freeze", "(II)Z"⟩, 11), (⟨"FrostReplies$Ground", "open", "(I)I"⟩, 11), (⟨"FrostReplies$Ground", "fitting", "(II)I"⟩, 11)]
theorem lw_r2 : ∀ q ∈ lw_privs_2, lw_okq q := List.forall_mem_cons.mpr ⟨lw_p16, List.forall_mem_cons.mpr ⟨lw_p17, List.forall_mem_cons.mpr ⟨lw_p18, List.forall_mem_cons.mpr ⟨lw_p19, List.forall_mem_cons.mpr ⟨lw_p20, List.forall_mem_cons.mpr ⟨lw_p21, List.forall_mem_cons.mpr ⟨lw_p22, List.forall_mem_cons.mpr ⟨lw_p23, List.forall_mem_cons.mpr ⟨lw_p24, List.forall_mem_cons.mpr ⟨lw_p25, List.forall_mem_cons.mpr ⟨lw_p26, List.forall_mem_cons.mpr ⟨lw_p27, List.forall_mem_cons.mpr ⟨lw_p28, List.forall_mem_cons.mpr ⟨lw_p29, List.forall_mem_cons.mpr ⟨lw_p30, List.forall_mem_cons.mpr ⟨lw_p31, fun _ h => absurd h List.not_mem_nil⟩⟩⟩⟩⟩⟩⟩⟩⟩⟩⟩⟩⟩⟩⟩⟩
theorem lw_p32 : lw_okq (⟨"FrostReplies$Ground", "add", "(IIII)V"⟩, 11) := ⟨⟨by decide +kernel, by decide +kernel⟩, List.mem_of_getElem? (i := 295) (by decide +kernel), List.mem_of_getElem? (i := 801) (by decide +kernel), List.mem_of_getElem? (i := 802) (by decide +kernel)⟩
theorem lw_p33 : lw_okq (⟨"FrostReplies$Ground", "falsify", "(II)Z"⟩, 11) := ⟨⟨by decide +kernel, by decide +kernel⟩, List.mem_of_getElem? (i := 295) (by decide +kernel), List.mem_of_getElem? (i := 805) (by decide +kernel), List.mem_of_getElem? (i := 806) (by decide +kernel)⟩
theorem lw_p34 : lw_okq (⟨"FrostReplies$Ground", "overgrow", "(I)Z"⟩, 11) := ⟨⟨by decide +kernel, by decide +kernel⟩, List.mem_of_getElem? (i := 295) (by decide +kernel), List.mem_of_getElem? (i := 809) (by decide +kernel), List.mem_of_getElem? (i := 810) (by decide +kernel)⟩
theorem lw_p35 : lw_okq (⟨"FrostReplies$Ground", "chipOff", "(I)Z"⟩, 11) := ⟨⟨by decide +kernel, by decide +kernel⟩, List.mem_of_getElem? (i := 295) (by decide +kernel), List.mem_of_getElem? (i := 814) (by decide +kernel), List.mem_of_getElem? (i := 815) (by decide +kernel)⟩
theorem lw_p36 : lw_okq (⟨"FrostReplies$Ground", "lookAtLetter", "([II)I"⟩, 11) := ⟨⟨by decide +kernel, by decide +kernel⟩, List.mem_of_getElem? (i := 295) (by decide +kernel), List.mem_of_getElem? (i := 827) (by decide +kernel), List.mem_of_getElem? (i := 828) (by decide +kernel)⟩
theorem lw_p37 : lw_okq (⟨"FrostReplies$Ground", "lookAtStone", "(II)I"⟩, 11) := ⟨⟨by decide +kernel, by decide +kernel⟩, List.mem_of_getElem? (i := 295) (by decide +kernel), List.mem_of_getElem? (i := 831) (by decide +kernel), List.mem_of_getElem? (i := 832) (by decide +kernel)⟩
theorem lw_p38 : lw_okq (⟨"FrostReplies$Ground", "forgeriesOn", "(I)I"⟩, 11) := ⟨⟨by decide +kernel, by decide +kernel⟩, List.mem_of_getElem? (i := 295) (by decide +kernel), List.mem_of_getElem? (i := 835) (by decide +kernel), List.mem_of_getElem? (i := 836) (by decide +kernel)⟩
theorem lw_p39 : lw_okq (⟨"FrostReplies$Hill", "lettersToTell", "(III)I"⟩, 9) := ⟨⟨by decide +kernel, by decide +kernel⟩, List.mem_of_getElem? (i := 44) (by decide +kernel), List.mem_of_getElem? (i := 911) (by decide +kernel), List.mem_of_getElem? (i := 912) (by decide +kernel)⟩
theorem lw_p40 : lw_okq (⟨"FrostReplies$Ear", "countReadings", "()V"⟩, 5) := ⟨⟨by decide +kernel, by decide +kernel⟩, List.mem_of_getElem? (i := 339) (by decide +kernel), List.mem_of_getElem? (i := 924) (by decide +kernel), List.mem_of_getElem? (i := 925) (by decide +kernel)⟩
theorem lw_p41 : lw_okq (⟨"FrostReplies$Ear", "readingsBehind", "(II)I"⟩, 5) := ⟨⟨by decide +kernel, by decide +kernel⟩, List.mem_of_getElem? (i := 339) (by decide +kernel), List.mem_of_getElem? (i := 934) (by decide +kernel), List.mem_of_getElem? (i := 935) (by decide +kernel)⟩
theorem lw_p42 : lw_okq (⟨"FrostReplies$Ear", "leastReadAt", "(II)I"⟩, 5) := ⟨⟨by decide +kernel, by decide +kernel⟩, List.mem_of_getElem? (i := 339) (by decide +kernel), List.mem_of_getElem? (i := 943) (by decide +kernel), List.mem_of_getElem? (i := 944) (by decide +kernel)⟩
theorem lw_p43 : lw_okq (⟨"FrostReplies$Ear", "changesTo", "(LFrostReplies$Hill;I[III)I"⟩, 5) := ⟨⟨by decide +kernel, by decide +kernel⟩, List.mem_of_getElem? (i := 339) (by decide +kernel), List.mem_of_getElem? (i := 955) (by decide +kernel), List.mem_of_getElem? (i := 956) (by decide +kernel)⟩
theorem lw_p44 : lw_okq (⟨"FrostReplies$Yard", "sumOf", "(I)I"⟩, 4) := ⟨⟨by decide +kernel, by decide +kernel⟩, List.mem_of_getElem? (i := 364) (by decide +kernel), List.mem_of_getElem? (i := 987) (by decide +kernel), List.mem_of_getElem? (i := 988) (by decide +kernel)⟩
theorem lw_p45 : lw_okq (⟨"FrostReplies$Yard", "shorten", "(IIII)V"⟩, 4) := ⟨⟨by decide +kernel, by decide +kernel⟩, List.mem_of_getElem? (i := 364) (by decide +kernel), List.mem_of_getElem? (i := 1009) (by decide +kernel), List.mem_of_getElem? (i := 1010) (by decide +kernel)⟩
theorem lw_p46 : lw_okq (⟨"FrostReplies$Yard", "endsAt", "(LFrostReplies$Hill;I)Z"⟩, 4) := ⟨⟨by decide +kernel, by decide +kernel⟩, List.mem_of_getElem? (i := 364) (by decide +kernel), List.mem_of_getElem? (i := 1017) (by decide +kernel), List.mem_of_getElem? (i := 1018) (by decide +kernel)⟩
theorem lw_p47 : lw_okq (⟨"FrostReplies$Yard", "goOn", "(LFrostReplies$Hill;IIII)Z"⟩, 4) := ⟨⟨by decide +kernel, by decide +kernel⟩, List.mem_of_getElem? (i := 364) (by decide +kernel), List.mem_of_getElem? (i := 1021) (by decide +kernel), List.mem_of_getElem? (i := 1022) (by decide +kernel)⟩
def lw_privs_3 : List (MethodName × Nat) := [(⟨"FrostReplies$Ground", "add", "(IIII)V"⟩, 11), (⟨"FrostReplies$Ground", "falsify", "(II)Z"⟩, 11), (⟨"FrostReplies$Ground", "overgrow", "(I)Z"⟩, 11), (⟨"FrostReplies$Ground", "chipOff", "(I)Z"⟩, 11), (⟨"FrostReplies$Ground", "lookAtLetter", "([II)I"⟩, 11), (⟨"FrostReplies$Ground", "lookAtStone", "(II)I"⟩, 11), (⟨"FrostReplies$Ground", "forgeriesOn", "(I)I"⟩, 11), (⟨"FrostReplies$Hill", "lettersToTell", "(III)I"⟩, 9), (⟨"FrostReplies$Ear", "countReadings", "()V"⟩, 5), (⟨"FrostReplies$Ear", "readingsBehind", "(II)I"⟩, 5), (⟨"FrostReplies$Ear", "leastReadAt", "(II)I"⟩, 5), (⟨"FrostReplies$Ear", "changesTo", "(LFrostReplies$Hill;I[III)I"⟩, 5), (⟨"FrostReplies$Yard", "sumOf", "(I)I"⟩, 4), (⟨"FrostReplies$Yard", "shorten", "(IIII)V"⟩, 4), (⟨"FrostReplies$Yard", "endsAt", "(LFrostReplies$Hill;I)Z"⟩, 4), (⟨"FrostReplies$Yard", "goOn", "(LFrostReplies$Hill;IIII)Z"⟩, 4)]
theorem lw_r3 : ∀ q ∈ lw_privs_3, lw_okq q := List.forall_mem_cons.mpr ⟨lw_p32, List.forall_mem_cons.mpr ⟨lw_p33, List.forall_mem_cons.mpr ⟨lw_p34, List.forall_mem_cons.mpr ⟨lw_p35, List.forall_mem_cons.mpr ⟨lw_p36, List.forall_mem_cons.mpr ⟨lw_p37, List.forall_mem_cons.mpr ⟨lw_p38, List.forall_mem_cons.mpr ⟨lw_p39, List.forall_mem_cons.mpr ⟨lw_p40, List.forall_mem_cons.mpr ⟨lw_p41, List.forall_mem_cons.mpr ⟨lw_p42, List.forall_mem_cons.mpr ⟨lw_p43, List.forall_mem_cons.mpr ⟨lw_p44, List.forall_mem_cons.mpr ⟨lw_p45, List.forall_mem_cons.mpr ⟨lw_p46, List.forall_mem_cons.mpr ⟨lw_p47, fun _ h => absurd h List.not_mem_nil⟩⟩⟩⟩⟩⟩⟩⟩⟩⟩⟩⟩⟩⟩⟩⟩
theorem lw_p48 : lw_okq (⟨"FrostReplies$Rules", "countHits", "(I)V"⟩, 6) := ⟨⟨by decide +kernel, by decide +kernel⟩, List.mem_of_getElem? (i := 383) (by decide +kernel), List.mem_of_getElem? (i := 1067) (by decide +kernel), List.mem_of_getElem? (i := 1068) (by decide +kernel)⟩
theorem lw_p49 : lw_okq (⟨"FrostReplies$Rules", "lessBy", "(II)I"⟩, 6) := ⟨⟨by decide +kernel, by decide +kernel⟩, List.mem_of_getElem? (i := 383) (by decide +kernel), List.mem_of_getElem? (i := 1073) (by decide +kernel), List.mem_of_getElem? (i := 1074) (by decide +kernel)⟩
theorem lw_p50 : lw_okq (⟨"FrostReplies$Rules", "keepBest", "(I)V"⟩, 6) := ⟨⟨by decide +kernel, by decide +kernel⟩, List.mem_of_getElem? (i := 383) (by decide +kernel), List.mem_of_getElem? (i := 1088) (by decide +kernel), List.mem_of_getElem? (i := 1089) (by decide +kernel)⟩
theorem lw_p51 : lw_okq (⟨"FrostReplies$Rules", "howMany", "()I"⟩, 6) := ⟨⟨by decide +kernel, by decide +kernel⟩, List.mem_of_getElem? (i := 383) (by decide +kernel), List.mem_of_getElem? (i := 1098) (by decide +kernel), List.mem_of_getElem? (i := 1099) (by decide +kernel)⟩
theorem lw_p52 : lw_okq (⟨"FrostReplies$Rules", "startsOf", "(I)I"⟩, 6) := ⟨⟨by decide +kernel, by decide +kernel⟩, List.mem_of_getElem? (i := 383) (by decide +kernel), List.mem_of_getElem? (i := 1102) (by decide +kernel), List.mem_of_getElem? (i := 1103) (by decide +kernel)⟩
theorem lw_p53 : lw_okq (⟨"FrostReplies$Rules", "missedByAll", "()I"⟩, 6) := ⟨⟨by decide +kernel, by decide +kernel⟩, List.mem_of_getElem? (i := 383) (by decide +kernel), List.mem_of_getElem? (i := 1112) (by decide +kernel), List.mem_of_getElem? (i := 1113) (by decide +kernel)⟩
theorem lw_p54 : lw_okq (⟨"FrostReplies$Rules", "missedPlaces", "(II)I"⟩, 6) := ⟨⟨by decide +kernel, by decide +kernel⟩, List.mem_of_getElem? (i := 383) (by decide +kernel), List.mem_of_getElem? (i := 1117) (by decide +kernel), List.mem_of_getElem? (i := 1118) (by decide +kernel)⟩
theorem lw_p55 : lw_okq (⟨"FrostReplies$Rules", "ruleOf", "(I)I"⟩, 6) := ⟨⟨by decide +kernel, by decide +kernel⟩, List.mem_of_getElem? (i := 383) (by decide +kernel), List.mem_of_getElem? (i := 1121) (by decide +kernel), List.mem_of_getElem? (i := 1122) (by decide +kernel)⟩
theorem lw_p56 : lw_okq (⟨"FrostReplies$Ear", "oftenGoingOn", "(I)I"⟩, 5) := ⟨⟨by decide +kernel, by decide +kernel⟩, List.mem_of_getElem? (i := 339) (by decide +kernel), List.mem_of_getElem? (i := 1161) (by decide +kernel), List.mem_of_getElem? (i := 1162) (by decide +kernel)⟩
theorem lw_p57 : lw_okq (⟨"FrostReplies$Ear", "fewestBehind", "(II)I"⟩, 5) := ⟨⟨by decide +kernel, by decide +kernel⟩, List.mem_of_getElem? (i := 339) (by decide +kernel), List.mem_of_getElem? (i := 1169) (by decide +kernel), List.mem_of_getElem? (i := 1170) (by decide +kernel)⟩
theorem lw_p58 : lw_okq (⟨"FrostReplies$Lines", "sameFrom", "(IIII)I"⟩, 3) := ⟨⟨by decide +kernel, by decide +kernel⟩, List.mem_of_getElem? (i := 120) (by decide +kernel), List.mem_of_getElem? (i := 1183) (by decide +kernel), List.mem_of_getElem? (i := 1184) (by decide +kernel)⟩
theorem lw_p59 : lw_okq (⟨"FrostReplies$Yard", "headsOf", "(LFrostReplies$Hill;I)I"⟩, 4) := ⟨⟨by decide +kernel, by decide +kernel⟩, List.mem_of_getElem? (i := 364) (by decide +kernel), List.mem_of_getElem? (i := 1233) (by decide +kernel), List.mem_of_getElem? (i := 1234) (by decide +kernel)⟩
theorem lw_p60 : lw_okq (⟨"FrostReplies$Yard", "headsWithout", "(LFrostReplies$Hill;II)I"⟩, 4) := ⟨⟨by decide +kernel, by decide +kernel⟩, List.mem_of_getElem? (i := 364) (by decide +kernel), List.mem_of_getElem? (i := 1244) (by decide +kernel), List.mem_of_getElem? (i := 1245) (by decide +kernel)⟩
theorem lw_p61 : lw_okq (⟨"FrostRepliesModel", "isOf", "(II)Z"⟩, 41) := ⟨⟨by decide +kernel, by decide +kernel⟩, List.mem_of_getElem? (i := 1292) (by decide +kernel), List.mem_of_getElem? (i := 1438) (by decide +kernel), List.mem_of_getElem? (i := 1439) (by decide +kernel)⟩
theorem lw_p62 : lw_okq (⟨"FrostRepliesModel", "advance", "()V"⟩, 41) := ⟨⟨by decide +kernel, by decide +kernel⟩, List.mem_of_getElem? (i := 1292) (by decide +kernel), List.mem_of_getElem? (i := 1442) (by decide +kernel), List.mem_of_getElem? (i := 1443) (by decide +kernel)⟩
theorem lw_p63 : lw_okq (⟨"FrostRepliesModel", "byteAt", "(I)I"⟩, 41) := ⟨⟨by decide +kernel, by decide +kernel⟩, List.mem_of_getElem? (i := 1292) (by decide +kernel), List.mem_of_getElem? (i := 1446) (by decide +kernel), List.mem_of_getElem? (i := 1447) (by decide +kernel)⟩
def lw_privs_4 : List (MethodName × Nat) := [(⟨"FrostReplies$Rules", "countHits", "(I)V"⟩, 6), (⟨"FrostReplies$Rules", "lessBy", "(II)I"⟩, 6), (⟨"FrostReplies$Rules", "keepBest", "(I)V"⟩, 6), (⟨"FrostReplies$Rules", "howMany", "()I"⟩, 6), (⟨"FrostReplies$Rules", "startsOf", "(I)I"⟩, 6), (⟨"FrostReplies$Rules", "missedByAll", "()I"⟩, 6), (⟨"FrostReplies$Rules", "missedPlaces", "(II)I"⟩, 6), (⟨"FrostReplies$Rules", "ruleOf", "(I)I"⟩, 6), (⟨"FrostReplies$Ear", "oftenGoingOn", "(I)I"⟩, 5), (⟨"FrostReplies$Ear", "fewestBehind", "(II)I"⟩, 5), (⟨"FrostReplies$Lines", "sameFrom", "(IIII)I"⟩, 3), (⟨"FrostReplies$Yard", "headsOf", "(LFrostReplies$Hill;I)I"⟩, 4), (⟨"FrostReplies$Yard", "headsWithout", "(LFrostReplies$Hill;II)I"⟩, 4), (⟨"FrostRepliesModel", "isOf", "(II)Z"⟩, 41), (⟨"FrostRepliesModel", "advance", "()V"⟩, 41), (⟨"FrostRepliesModel", "byteAt", "(I)I"⟩, 41)]
theorem lw_r4 : ∀ q ∈ lw_privs_4, lw_okq q := List.forall_mem_cons.mpr ⟨lw_p48, List.forall_mem_cons.mpr ⟨lw_p49, List.forall_mem_cons.mpr ⟨lw_p50, List.forall_mem_cons.mpr ⟨lw_p51, List.forall_mem_cons.mpr ⟨lw_p52, List.forall_mem_cons.mpr ⟨lw_p53, List.forall_mem_cons.mpr ⟨lw_p54, List.forall_mem_cons.mpr ⟨lw_p55, List.forall_mem_cons.mpr ⟨lw_p56, List.forall_mem_cons.mpr ⟨lw_p57, List.forall_mem_cons.mpr ⟨lw_p58, List.forall_mem_cons.mpr ⟨lw_p59, List.forall_mem_cons.mpr ⟨lw_p60, List.forall_mem_cons.mpr ⟨lw_p61, List.forall_mem_cons.mpr ⟨lw_p62, List.forall_mem_cons.mpr ⟨lw_p63, fun _ h => absurd h List.not_mem_nil⟩⟩⟩⟩⟩⟩⟩⟩⟩⟩⟩⟩⟩⟩⟩⟩
theorem lw_p64 : lw_okq (⟨"FrostRepliesModel", "hillLine", "()V"⟩, 41) := ⟨⟨by decide +kernel, by decide +kernel⟩, List.mem_of_getElem? (i := 1292) (by decide +kernel), List.mem_of_getElem? (i := 1468) (by decide +kernel), List.mem_of_getElem? (i := 1469) (by decide +kernel)⟩
theorem lw_p65 : lw_okq (⟨"FrostRepliesModel", "wordIn", "(II)I"⟩, 41) := ⟨⟨by decide +kernel, by decide +kernel⟩, List.mem_of_getElem? (i := 1292) (by decide +kernel), List.mem_of_getElem? (i := 1472) (by decide +kernel), List.mem_of_getElem? (i := 1473) (by decide +kernel)⟩
theorem lw_p66 : lw_okq (⟨"FrostRepliesModel", "ends", "()V"⟩, 41) := ⟨⟨by decide +kernel, by decide +kernel⟩, List.mem_of_getElem? (i := 1292) (by decide +kernel), List.mem_of_getElem? (i := 1476) (by decide +kernel), List.mem_of_getElem? (i := 1477) (by decide +kernel)⟩
theorem lw_p67 : lw_okq (⟨"FrostRepliesModel", "wordLine", "(I)V"⟩, 41) := ⟨⟨by decide +kernel, by decide +kernel⟩, List.mem_of_getElem? (i := 1292) (by decide +kernel), List.mem_of_getElem? (i := 1480) (by decide +kernel), List.mem_of_getElem? (i := 1481) (by decide +kernel)⟩
theorem lw_p68 : lw_okq (⟨"FrostRepliesModel", "also", "(II)V"⟩, 41) := ⟨⟨by decide +kernel, by decide +kernel⟩, List.mem_of_getElem? (i := 1292) (by decide +kernel), List.mem_of_getElem? (i := 1484) (by decide +kernel), List.mem_of_getElem? (i := 1485) (by decide +kernel)⟩
theorem lw_p69 : lw_okq (⟨"FrostRepliesModel", "rowTold", "(I)V"⟩, 41) := ⟨⟨by decide +kernel, by decide +kernel⟩, List.mem_of_getElem? (i := 1292) (by decide +kernel), List.mem_of_getElem? (i := 1488) (by decide +kernel), List.mem_of_getElem? (i := 1489) (by decide +kernel)⟩
theorem lw_p70 : lw_okq (⟨"FrostRepliesModel", "numbered", "(II)I"⟩, 41) := ⟨⟨by decide +kernel, by decide +kernel⟩, List.mem_of_getElem? (i := 1292) (by decide +kernel), List.mem_of_getElem? (i := 1492) (by decide +kernel), List.mem_of_getElem? (i := 1493) (by decide +kernel)⟩
theorem lw_p71 : lw_okq (⟨"FrostRepliesModel", "wordTold", "()I"⟩, 41) := ⟨⟨by decide +kernel, by decide +kernel⟩, List.mem_of_getElem? (i := 1292) (by decide +kernel), List.mem_of_getElem? (i := 1496) (by decide +kernel), List.mem_of_getElem? (i := 1497) (by decide +kernel)⟩
theorem lw_p72 : lw_okq (⟨"FrostRepliesModel", "endsLine", "()V"⟩, 41) := ⟨⟨by decide +kernel, by decide +kernel⟩, List.mem_of_getElem? (i := 1292) (by decide +kernel), List.mem_of_getElem? (i := 1500) (by decide +kernel), List.mem_of_getElem? (i := 1501) (by decide +kernel)⟩
theorem lw_p73 : lw_okq (⟨"FrostRepliesModel", "centuryLine", "()V"⟩, 41) := ⟨⟨by decide +kernel, by decide +kernel⟩, List.mem_of_getElem? (i := 1292) (by decide +kernel), List.mem_of_getElem? (i := 1504) (by decide +kernel), List.mem_of_getElem? (i := 1505) (by decide +kernel)⟩
theorem lw_p74 : lw_okq (⟨"FrostRepliesModel", "linesLine", "()V"⟩, 41) := ⟨⟨by decide +kernel, by decide +kernel⟩, List.mem_of_getElem? (i := 1292) (by decide +kernel), List.mem_of_getElem? (i := 1508) (by decide +kernel), List.mem_of_getElem? (i := 1509) (by decide +kernel)⟩
theorem lw_p75 : lw_okq (⟨"FrostRepliesModel", "logLine", "()V"⟩, 41) := ⟨⟨by decide +kernel, by decide +kernel⟩, List.mem_of_getElem? (i := 1292) (by decide +kernel), List.mem_of_getElem? (i := 1512) (by decide +kernel), List.mem_of_getElem? (i := 1513) (by decide +kernel)⟩
theorem lw_p76 : lw_okq (⟨"FrostRepliesModel", "isTwice", "()Z"⟩, 41) := ⟨⟨by decide +kernel, by decide +kernel⟩, List.mem_of_getElem? (i := 1292) (by decide +kernel), List.mem_of_getElem? (i := 1516) (by decide +kernel), List.mem_of_getElem? (i := 1517) (by decide +kernel)⟩
theorem lw_p77 : lw_okq (⟨"FrostRepliesModel", "isHill", "(I)Z"⟩, 41) := ⟨⟨by decide +kernel, by decide +kernel⟩, List.mem_of_getElem? (i := 1292) (by decide +kernel), List.mem_of_getElem? (i := 1534) (by decide +kernel), List.mem_of_getElem? (i := 1535) (by decide +kernel)⟩
theorem lw_p78 : lw_okq (⟨"FrostRepliesModel", "answersTo", "(I)I"⟩, 41) := ⟨⟨by decide +kernel, by decide +kernel⟩, List.mem_of_getElem? (i := 1292) (by decide +kernel), List.mem_of_getElem? (i := 1538) (by decide +kernel), List.mem_of_getElem? (i := 1539) (by decide +kernel)⟩
theorem lw_p79 : lw_okq (⟨"FrostRepliesModel", "isWord", "(I)Z"⟩, 41) := ⟨⟨by decide +kernel, by decide +kernel⟩, List.mem_of_getElem? (i := 1292) (by decide +kernel), List.mem_of_getElem? (i := 1542) (by decide +kernel), List.mem_of_getElem? (i := 1543) (by decide +kernel)⟩
def lw_privs_5 : List (MethodName × Nat) := [(⟨"FrostRepliesModel", "hillLine", "()V"⟩, 41), (⟨"FrostRepliesModel", "wordIn", "(II)I"⟩, 41), (⟨"FrostRepliesModel", "ends", "()V"⟩, 41), (⟨"FrostRepliesModel", "wordLine", "(I)V"⟩, 41), (⟨"FrostRepliesModel", "also", "(II)V"⟩, 41), (⟨"FrostRepliesModel", "rowTold", "(I)V"⟩, 41), (⟨"FrostRepliesModel", "numbered", "(II)I"⟩, 41), (⟨"FrostRepliesModel", "wordTold", "()I"⟩, 41), (⟨"FrostRepliesModel", "endsLine", "()V"⟩, 41), (⟨"FrostRepliesModel", "centuryLine", "()V"⟩, 41), (⟨"FrostRepliesModel", "linesLine", "()V"⟩, 41), (⟨"FrostRepliesModel", "logLine", "()V"⟩, 41), (⟨"FrostRepliesModel", "isTwice", "()Z"⟩, 41), (⟨"FrostRepliesModel", "isHill", "(I)Z"⟩, 41), (⟨"FrostRepliesModel", "answersTo", "(I)I"⟩, 41), (⟨"FrostRepliesModel", "isWord", "(I)Z"⟩, 41)]
theorem lw_r5 : ∀ q ∈ lw_privs_5, lw_okq q := List.forall_mem_cons.mpr ⟨lw_p64, List.forall_mem_cons.mpr ⟨lw_p65, List.forall_mem_cons.mpr ⟨lw_p66, List.forall_mem_cons.mpr ⟨lw_p67, List.forall_mem_cons.mpr ⟨lw_p68, List.forall_mem_cons.mpr ⟨lw_p69, List.forall_mem_cons.mpr ⟨lw_p70, List.forall_mem_cons.mpr ⟨lw_p71, List.forall_mem_cons.mpr ⟨lw_p72, List.forall_mem_cons.mpr ⟨lw_p73, List.forall_mem_cons.mpr ⟨lw_p74, List.forall_mem_cons.mpr ⟨lw_p75, List.forall_mem_cons.mpr ⟨lw_p76, List.forall_mem_cons.mpr ⟨lw_p77, List.forall_mem_cons.mpr ⟨lw_p78, List.forall_mem_cons.mpr ⟨lw_p79, fun _ h => absurd h List.not_mem_nil⟩⟩⟩⟩⟩⟩⟩⟩⟩⟩⟩⟩⟩⟩⟩⟩
theorem lw_p80 : lw_okq (⟨"FrostRepliesModel", "longOf", "(I)I"⟩, 41) := ⟨⟨by decide +kernel, by decide +kernel⟩, List.mem_of_getElem? (i := 1292) (by decide +kernel), List.mem_of_getElem? (i := 1546) (by decide +kernel), List.mem_of_getElem? (i := 1547) (by decide +kernel)⟩
theorem lw_p81 : lw_okq (⟨"FrostRepliesModel", "oftenOf", "(I)I"⟩, 41) := ⟨⟨by decide +kernel, by decide +kernel⟩, List.mem_of_getElem? (i := 1292) (by decide +kernel), List.mem_of_getElem? (i := 1550) (by decide +kernel), List.mem_of_getElem? (i := 1551) (by decide +kernel)⟩
theorem lw_p82 : lw_okq (⟨"FrostRepliesModel", "behind", "(I)I"⟩, 41) := ⟨⟨by decide +kernel, by decide +kernel⟩, List.mem_of_getElem? (i := 1292) (by decide +kernel), List.mem_of_getElem? (i := 1554) (by decide +kernel), List.mem_of_getElem? (i := 1555) (by decide +kernel)⟩
theorem lw_p83 : lw_okq (⟨"FrostRepliesModel", "everyWord", "()I"⟩, 41) := ⟨⟨by decide +kernel, by decide +kernel⟩, List.mem_of_getElem? (i := 1292) (by decide +kernel), List.mem_of_getElem? (i := 1558) (by decide +kernel), List.mem_of_getElem? (i := 1559) (by decide +kernel)⟩
theorem lw_p84 : lw_okq (⟨"FrostRepliesModel", "letterOf", "(II)I"⟩, 41) := ⟨⟨by decide +kernel, by decide +kernel⟩, List.mem_of_getElem? (i := 1292) (by decide +kernel), List.mem_of_getElem? (i := 1562) (by decide +kernel), List.mem_of_getElem? (i := 1563) (by decide +kernel)⟩
theorem lw_p85 : lw_okq (⟨"FrostRepliesModel", "isCentury", "(I)Z"⟩, 41) := ⟨⟨by decide +kernel, by decide +kernel⟩, List.mem_of_getElem? (i := 1292) (by decide +kernel), List.mem_of_getElem? (i := 1570) (by decide +kernel), List.mem_of_getElem? (i := 1571) (by decide +kernel)⟩
theorem lw_p86 : lw_okq (⟨"FrostRepliesModel", "runs", "(I)V"⟩, 41) := ⟨⟨by decide +kernel, by decide +kernel⟩, List.mem_of_getElem? (i := 1292) (by decide +kernel), List.mem_of_getElem? (i := 1578) (by decide +kernel), List.mem_of_getElem? (i := 1579) (by decide +kernel)⟩
theorem lw_p87 : lw_okq (⟨"FrostRepliesModel", "begins", "()V"⟩, 41) := ⟨⟨by decide +kernel, by decide +kernel⟩, List.mem_of_getElem? (i := 1292) (by decide +kernel), List.mem_of_getElem? (i := 1582) (by decide +kernel), List.mem_of_getElem? (i := 1583) (by decide +kernel)⟩
theorem lw_p88 : lw_okq (⟨"FrostRepliesModel", "does", "(III)Z"⟩, 41) := ⟨⟨by decide +kernel, by decide +kernel⟩, List.mem_of_getElem? (i := 1292) (by decide +kernel), List.mem_of_getElem? (i := 1586) (by decide +kernel), List.mem_of_getElem? (i := 1587) (by decide +kernel)⟩
theorem lw_p89 : lw_okq (⟨"FrostRepliesModel", "isStone", "(I)Z"⟩, 41) := ⟨⟨by decide +kernel, by decide +kernel⟩, List.mem_of_getElem? (i := 1292) (by decide +kernel), List.mem_of_getElem? (i := 1590) (by decide +kernel), List.mem_of_getElem? (i := 1591) (by decide +kernel)⟩
theorem lw_p90 : lw_okq (⟨"FrostRepliesModel", "freezes", "(II)Z"⟩, 41) := ⟨⟨by decide +kernel, by decide +kernel⟩, List.mem_of_getElem? (i := 1292) (by decide +kernel), List.mem_of_getElem? (i := 1597) (by decide +kernel), List.mem_of_getElem? (i := 1598) (by decide +kernel)⟩
theorem lw_p91 : lw_okq (⟨"FrostRepliesModel", "puts", "(IIIZ)V"⟩, 41) := ⟨⟨by decide +kernel, by decide +kernel⟩, List.mem_of_getElem? (i := 1292) (by decide +kernel), List.mem_of_getElem? (i := 1601) (by decide +kernel), List.mem_of_getElem? (i := 1602) (by decide +kernel)⟩
theorem lw_p92 : lw_okq (⟨"FrostRepliesModel", "fitting", "(I)I"⟩, 41) := ⟨⟨by decide +kernel, by decide +kernel⟩, List.mem_of_getElem? (i := 1292) (by decide +kernel), List.mem_of_getElem? (i := 1605) (by decide +kernel), List.mem_of_getElem? (i := 1606) (by decide +kernel)⟩
theorem lw_p93 : lw_okq (⟨"FrostRepliesModel", "begins0", "(II)Z"⟩, 41) := ⟨⟨by decide +kernel, by decide +kernel⟩, List.mem_of_getElem? (i := 1292) (by decide +kernel), List.mem_of_getElem? (i := 1609) (by decide +kernel), List.mem_of_getElem? (i := 1610) (by decide +kernel)⟩
theorem lw_p94 : lw_okq (⟨"FrostRepliesModel", "tells", "(I)Z"⟩, 41) := ⟨⟨by decide +kernel, by decide +kernel⟩, List.mem_of_getElem? (i := 1292) (by decide +kernel), List.mem_of_getElem? (i := 1613) (by decide +kernel), List.mem_of_getElem? (i := 1614) (by decide +kernel)⟩
theorem lw_p95 : lw_okq (⟨"FrostRepliesModel", "nowOf", "(I)I"⟩, 41) := ⟨⟨by decide +kernel, by decide +kernel⟩, List.mem_of_getElem? (i := 1292) (by decide +kernel), List.mem_of_getElem? (i := 1621) (by decide +kernel), List.mem_of_getElem? (i := 1622) (by decide +kernel)⟩
def lw_privs_6 : List (MethodName × Nat) := [(⟨"FrostRepliesModel", "longOf", "(I)I"⟩, 41), (⟨"FrostRepliesModel", "oftenOf", "(I)I"⟩, 41), (⟨"FrostRepliesModel", "behind", "(I)I"⟩, 41), (⟨"FrostRepliesModel", "everyWord", "()I"⟩, 41), (⟨"FrostRepliesModel", "letterOf", "(II)I"⟩, 41), (⟨"FrostRepliesModel", "isCentury", "(I)Z"⟩, 41), (⟨"FrostRepliesModel", "runs", "(I)V"⟩, 41), (⟨"FrostRepliesModel", "begins", "()V"⟩, 41), (⟨"FrostRepliesModel", "does", "(III)Z"⟩, 41), (⟨"FrostRepliesModel", "isStone", "(I)Z"⟩, 41), (⟨"FrostRepliesModel", "freezes", "(II)Z"⟩, 41), (⟨"FrostRepliesModel", "puts", "(IIIZ)V"⟩, 41), (⟨"FrostRepliesModel", "fitting", "(I)I"⟩, 41), (⟨"FrostRepliesModel", "begins0", "(II)Z"⟩, 41), (⟨"FrostRepliesModel", "tells", "(I)Z"⟩, 41), (⟨"FrostRepliesModel", "nowOf", "(I)I"⟩, 41)]
theorem lw_r6 : ∀ q ∈ lw_privs_6, lw_okq q := List.forall_mem_cons.mpr ⟨lw_p80, List.forall_mem_cons.mpr ⟨lw_p81, List.forall_mem_cons.mpr ⟨lw_p82, List.forall_mem_cons.mpr ⟨lw_p83, List.forall_mem_cons.mpr ⟨lw_p84, List.forall_mem_cons.mpr ⟨lw_p85, List.forall_mem_cons.mpr ⟨lw_p86, List.forall_mem_cons.mpr ⟨lw_p87, List.forall_mem_cons.mpr ⟨lw_p88, List.forall_mem_cons.mpr ⟨lw_p89, List.forall_mem_cons.mpr ⟨lw_p90, List.forall_mem_cons.mpr ⟨lw_p91, List.forall_mem_cons.mpr ⟨lw_p92, List.forall_mem_cons.mpr ⟨lw_p93, List.forall_mem_cons.mpr ⟨lw_p94, List.forall_mem_cons.mpr ⟨lw_p95, fun _ h => absurd h List.not_mem_nil⟩⟩⟩⟩⟩⟩⟩⟩⟩⟩⟩⟩⟩⟩⟩⟩
theorem lw_p96 : lw_okq (⟨"FrostRepliesModel", "feignedOn", "(I)I"⟩, 41) := ⟨⟨by decide +kernel, by decide +kernel⟩, List.mem_of_getElem? (i := 1292) (by decide +kernel), List.mem_of_getElem? (i := 1625) (by decide +kernel), List.mem_of_getElem? (i := 1626) (by decide +kernel)⟩
theorem lw_p97 : lw_okq (⟨"FrostRepliesModel", "isLine", "(II)Z"⟩, 41) := ⟨⟨by decide +kernel, by decide +kernel⟩, List.mem_of_getElem? (i := 1292) (by decide +kernel), List.mem_of_getElem? (i := 1637) (by decide +kernel), List.mem_of_getElem? (i := 1638) (by decide +kernel)⟩
theorem lw_p98 : lw_okq (⟨"FrostRepliesModel", "inLine", "(I)I"⟩, 41) := ⟨⟨by decide +kernel, by decide +kernel⟩, List.mem_of_getElem? (i := 1292) (by decide +kernel), List.mem_of_getElem? (i := 1641) (by decide +kernel), List.mem_of_getElem? (i := 1642) (by decide +kernel)⟩
theorem lw_p99 : lw_okq (⟨"FrostRepliesModel", "saidOf", "()I"⟩, 41) := ⟨⟨by decide +kernel, by decide +kernel⟩, List.mem_of_getElem? (i := 1292) (by decide +kernel), List.mem_of_getElem? (i := 1649) (by decide +kernel), List.mem_of_getElem? (i := 1650) (by decide +kernel)⟩
theorem lw_p100 : lw_okq (⟨"FrostRepliesModel", "oftenIn", "(I)I"⟩, 41) := ⟨⟨by decide +kernel, by decide +kernel⟩, List.mem_of_getElem? (i := 1292) (by decide +kernel), List.mem_of_getElem? (i := 1658) (by decide +kernel), List.mem_of_getElem? (i := 1659) (by decide +kernel)⟩
theorem lw_p101 : lw_okq (⟨"FrostRepliesModel", "sureIn", "(II)I"⟩, 41) := ⟨⟨by decide +kernel, by decide +kernel⟩, List.mem_of_getElem? (i := 1292) (by decide +kernel), List.mem_of_getElem? (i := 1672) (by decide +kernel), List.mem_of_getElem? (i := 1673) (by decide +kernel)⟩
theorem lw_p102 : lw_okq (⟨"FrostRepliesModel", "alikeOf", "(II)I"⟩, 41) := ⟨⟨by decide +kernel, by decide +kernel⟩, List.mem_of_getElem? (i := 1292) (by decide +kernel), List.mem_of_getElem? (i := 1676) (by decide +kernel), List.mem_of_getElem? (i := 1677) (by decide +kernel)⟩
theorem lw_p103 : lw_okq (⟨"FrostRepliesModel", "laysReadings", "()V"⟩, 41) := ⟨⟨by decide +kernel, by decide +kernel⟩, List.mem_of_getElem? (i := 1292) (by decide +kernel), List.mem_of_getElem? (i := 1692) (by decide +kernel), List.mem_of_getElem? (i := 1693) (by decide +kernel)⟩
theorem lw_p104 : lw_okq (⟨"FrostRepliesModel", "unlike", "(II)I"⟩, 41) := ⟨⟨by decide +kernel, by decide +kernel⟩, List.mem_of_getElem? (i := 1292) (by decide +kernel), List.mem_of_getElem? (i := 1696) (by decide +kernel), List.mem_of_getElem? (i := 1697) (by decide +kernel)⟩
theorem lw_p105 : lw_okq (⟨"FrostRepliesModel", "mendedOf", "()I"⟩, 41) := ⟨⟨by decide +kernel, by decide +kernel⟩, List.mem_of_getElem? (i := 1292) (by decide +kernel), List.mem_of_getElem? (i := 1704) (by decide +kernel), List.mem_of_getElem? (i := 1705) (by decide +kernel)⟩
theorem lw_p106 : lw_okq (⟨"FrostRepliesModel", "takesWord", "(IZ)V"⟩, 41) := ⟨⟨by decide +kernel, by decide +kernel⟩, List.mem_of_getElem? (i := 1292) (by decide +kernel), List.mem_of_getElem? (i := 1712) (by decide +kernel), List.mem_of_getElem? (i := 1713) (by decide +kernel)⟩
theorem lw_p107 : lw_okq (⟨"FrostRepliesModel", "changesOf", "()I"⟩, 41) := ⟨⟨by decide +kernel, by decide +kernel⟩, List.mem_of_getElem? (i := 1292) (by decide +kernel), List.mem_of_getElem? (i := 1716) (by decide +kernel), List.mem_of_getElem? (i := 1717) (by decide +kernel)⟩
theorem lw_p108 : lw_okq (⟨"FrostRepliesModel", "apartOf", "(II)I"⟩, 41) := ⟨⟨by decide +kernel, by decide +kernel⟩, List.mem_of_getElem? (i := 1292) (by decide +kernel), List.mem_of_getElem? (i := 1728) (by decide +kernel), List.mem_of_getElem? (i := 1729) (by decide +kernel)⟩
theorem lw_p109 : lw_okq (⟨"FrostRepliesModel", "leadsOf", "(I)I"⟩, 41) := ⟨⟨by decide +kernel, by decide +kernel⟩, List.mem_of_getElem? (i := 1292) (by decide +kernel), List.mem_of_getElem? (i := 1736) (by decide +kernel), List.mem_of_getElem? (i := 1737) (by decide +kernel)⟩
theorem lw_p110 : lw_okq (⟨"FrostRepliesModel", "withinOf", "(I)I"⟩, 41) := ⟨⟨by decide +kernel, by decide +kernel⟩, List.mem_of_getElem? (i := 1292) (by decide +kernel), List.mem_of_getElem? (i := 1740) (by decide +kernel), List.mem_of_getElem? (i := 1741) (by decide +kernel)⟩
theorem lw_p111 : lw_okq (⟨"FrostRepliesModel", "isBeginning", "(II)Z"⟩, 41) := ⟨⟨by decide +kernel, by decide +kernel⟩, List.mem_of_getElem? (i := 1292) (by decide +kernel), List.mem_of_getElem? (i := 1744) (by decide +kernel), List.mem_of_getElem? (i := 1745) (by decide +kernel)⟩
def lw_privs_7 : List (MethodName × Nat) := [(⟨"FrostRepliesModel", "feignedOn", "(I)I"⟩, 41), (⟨"FrostRepliesModel", "isLine", "(II)Z"⟩, 41), (⟨"FrostRepliesModel", "inLine", "(I)I"⟩, 41), (⟨"FrostRepliesModel", "saidOf", "()I"⟩, 41), (⟨"FrostRepliesModel", "oftenIn", "(I)I"⟩, 41), (⟨"FrostRepliesModel", "sureIn", "(II)I"⟩, 41), (⟨"FrostRepliesModel", "alikeOf", "(II)I"⟩, 41), (⟨"FrostRepliesModel", "laysReadings", "()V"⟩, 41), (⟨"FrostRepliesModel", "unlike", "(II)I"⟩, 41), (⟨"FrostRepliesModel", "mendedOf", "()I"⟩, 41), (⟨"FrostRepliesModel", "takesWord", "(IZ)V"⟩, 41), (⟨"FrostRepliesModel", "changesOf", "()I"⟩, 41), (⟨"FrostRepliesModel", "apartOf", "(II)I"⟩, 41), (⟨"FrostRepliesModel", "leadsOf", "(I)I"⟩, 41), (⟨"FrostRepliesModel", "withinOf", "(I)I"⟩, 41), (⟨"FrostRepliesModel", "isBeginning", "(II)Z"⟩, 41)]
theorem lw_r7 : ∀ q ∈ lw_privs_7, lw_okq q := List.forall_mem_cons.mpr ⟨lw_p96, List.forall_mem_cons.mpr ⟨lw_p97, List.forall_mem_cons.mpr ⟨lw_p98, List.forall_mem_cons.mpr ⟨lw_p99, List.forall_mem_cons.mpr ⟨lw_p100, List.forall_mem_cons.mpr ⟨lw_p101, List.forall_mem_cons.mpr ⟨lw_p102, List.forall_mem_cons.mpr ⟨lw_p103, List.forall_mem_cons.mpr ⟨lw_p104, List.forall_mem_cons.mpr ⟨lw_p105, List.forall_mem_cons.mpr ⟨lw_p106, List.forall_mem_cons.mpr ⟨lw_p107, List.forall_mem_cons.mpr ⟨lw_p108, List.forall_mem_cons.mpr ⟨lw_p109, List.forall_mem_cons.mpr ⟨lw_p110, List.forall_mem_cons.mpr ⟨lw_p111, fun _ h => absurd h List.not_mem_nil⟩⟩⟩⟩⟩⟩⟩⟩⟩⟩⟩⟩⟩⟩⟩⟩
theorem lw_p112 : lw_okq (⟨"FrostRepliesModel", "closestOf", "()I"⟩, 41) := ⟨⟨by decide +kernel, by decide +kernel⟩, List.mem_of_getElem? (i := 1292) (by decide +kernel), List.mem_of_getElem? (i := 1748) (by decide +kernel), List.mem_of_getElem? (i := 1749) (by decide +kernel)⟩
theorem lw_p113 : lw_okq (⟨"FrostRepliesModel", "treeOf", "()I"⟩, 41) := ⟨⟨by decide +kernel, by decide +kernel⟩, List.mem_of_getElem? (i := 1292) (by decide +kernel), List.mem_of_getElem? (i := 1752) (by decide +kernel), List.mem_of_getElem? (i := 1753) (by decide +kernel)⟩
theorem lw_p114 : lw_okq (⟨"FrostRepliesModel", "bestBehind", "(II)I"⟩, 41) := ⟨⟨by decide +kernel, by decide +kernel⟩, List.mem_of_getElem? (i := 1292) (by decide +kernel), List.mem_of_getElem? (i := 1760) (by decide +kernel), List.mem_of_getElem? (i := 1761) (by decide +kernel)⟩
theorem lw_p115 : lw_okq (⟨"FrostRepliesModel", "goesOn", "(II)Z"⟩, 41) := ⟨⟨by decide +kernel, by decide +kernel⟩, List.mem_of_getElem? (i := 1292) (by decide +kernel), List.mem_of_getElem? (i := 1772) (by decide +kernel), List.mem_of_getElem? (i := 1773) (by decide +kernel)⟩
theorem lw_p116 : lw_okq (⟨"FrostRepliesModel", "isWon", "(II)Z"⟩, 41) := ⟨⟨by decide +kernel, by decide +kernel⟩, List.mem_of_getElem? (i := 1292) (by decide +kernel), List.mem_of_getElem? (i := 1780) (by decide +kernel), List.mem_of_getElem? (i := 1781) (by decide +kernel)⟩
theorem lw_p117 : lw_okq (⟨"FrostRepliesModel", "isWhole", "(II)Z"⟩, 41) := ⟨⟨by decide +kernel, by decide +kernel⟩, List.mem_of_getElem? (i := 1292) (by decide +kernel), List.mem_of_getElem? (i := 1784) (by decide +kernel), List.mem_of_getElem? (i := 1785) (by decide +kernel)⟩
theorem lw_p118 : lw_okq (⟨"FrostRepliesModel", "isLog", "(I)Z"⟩, 41) := ⟨⟨by decide +kernel, by decide +kernel⟩, List.mem_of_getElem? (i := 1292) (by decide +kernel), List.mem_of_getElem? (i := 1792) (by decide +kernel), List.mem_of_getElem? (i := 1793) (by decide +kernel)⟩
theorem lw_p119 : lw_okq (⟨"FrostRepliesModel", "fewest", "()I"⟩, 41) := ⟨⟨by decide +kernel, by decide +kernel⟩, List.mem_of_getElem? (i := 1292) (by decide +kernel), List.mem_of_getElem? (i := 1800) (by decide +kernel), List.mem_of_getElem? (i := 1801) (by decide +kernel)⟩
theorem lw_p120 : lw_okq (⟨"FrostRepliesModel", "notSo", "(I)I"⟩, 41) := ⟨⟨by decide +kernel, by decide +kernel⟩, List.mem_of_getElem? (i := 1292) (by decide +kernel), List.mem_of_getElem? (i := 1810) (by decide +kernel), List.mem_of_getElem? (i := 1811) (by decide +kernel)⟩
theorem lw_p121 : lw_okq (⟨"FrostRepliesModel", "isSo", "(II)Z"⟩, 41) := ⟨⟨by decide +kernel, by decide +kernel⟩, List.mem_of_getElem? (i := 1292) (by decide +kernel), List.mem_of_getElem? (i := 1814) (by decide +kernel), List.mem_of_getElem? (i := 1815) (by decide +kernel)⟩
theorem lw_p122 : lw_okq (⟨"FrostRepliesModel", "placesNotSo", "(I)I"⟩, 41) := ⟨⟨by decide +kernel, by decide +kernel⟩, List.mem_of_getElem? (i := 1292) (by decide +kernel), List.mem_of_getElem? (i := 1818) (by decide +kernel), List.mem_of_getElem? (i := 1819) (by decide +kernel)⟩
theorem lw_p123 : lw_okq (⟨"FrostRepliesModel", "draws", "()V"⟩, 41) := ⟨⟨by decide +kernel, by decide +kernel⟩, List.mem_of_getElem? (i := 1292) (by decide +kernel), List.mem_of_getElem? (i := 1845) (by decide +kernel), List.mem_of_getElem? (i := 1846) (by decide +kernel)⟩
theorem lw_p124 : lw_okq (⟨"FrostRepliesModel", "below", "(I)I"⟩, 41) := ⟨⟨by decide +kernel, by decide +kernel⟩, List.mem_of_getElem? (i := 1292) (by decide +kernel), List.mem_of_getElem? (i := 1849) (by decide +kernel), List.mem_of_getElem? (i := 1850) (by decide +kernel)⟩
def lw_privs_8 : List (MethodName × Nat) := [(⟨"FrostRepliesModel", "closestOf", "()I"⟩, 41), (⟨"FrostRepliesModel", "treeOf", "()I"⟩, 41), (⟨"FrostRepliesModel", "bestBehind", "(II)I"⟩, 41), (⟨"FrostRepliesModel", "goesOn", "(II)Z"⟩, 41), (⟨"FrostRepliesModel", "isWon", "(II)Z"⟩, 41), (⟨"FrostRepliesModel", "isWhole", "(II)Z"⟩, 41), (⟨"FrostRepliesModel", "isLog", "(I)Z"⟩, 41), (⟨"FrostRepliesModel", "fewest", "()I"⟩, 41), (⟨"FrostRepliesModel", "notSo", "(I)I"⟩, 41), (⟨"FrostRepliesModel", "isSo", "(II)Z"⟩, 41), (⟨"FrostRepliesModel", "placesNotSo", "(I)I"⟩, 41), (⟨"FrostRepliesModel", "draws", "()V"⟩, 41), (⟨"FrostRepliesModel", "below", "(I)I"⟩, 41)]
theorem lw_r8 : ∀ q ∈ lw_privs_8, lw_okq q := List.forall_mem_cons.mpr ⟨lw_p112, List.forall_mem_cons.mpr ⟨lw_p113, List.forall_mem_cons.mpr ⟨lw_p114, List.forall_mem_cons.mpr ⟨lw_p115, List.forall_mem_cons.mpr ⟨lw_p116, List.forall_mem_cons.mpr ⟨lw_p117, List.forall_mem_cons.mpr ⟨lw_p118, List.forall_mem_cons.mpr ⟨lw_p119, List.forall_mem_cons.mpr ⟨lw_p120, List.forall_mem_cons.mpr ⟨lw_p121, List.forall_mem_cons.mpr ⟨lw_p122, List.forall_mem_cons.mpr ⟨lw_p123, List.forall_mem_cons.mpr ⟨lw_p124, fun _ h => absurd h List.not_mem_nil⟩⟩⟩⟩⟩⟩⟩⟩⟩⟩⟩⟩⟩
def lw_privs : List (MethodName × Nat) := lw_privs_1 ++ (lw_privs_2 ++ (lw_privs_3 ++ (lw_privs_4 ++ (lw_privs_5 ++ (lw_privs_6 ++ (lw_privs_7 ++ (lw_privs_8)))))))
def lw_tbl : List Cond := k2_sels lw_privs ++ tables_1
theorem lw_privs_ok : ∀ q ∈ lw_privs, lw_okq q := by
  show ∀ q ∈ lw_privs_1 ++ (lw_privs_2 ++ (lw_privs_3 ++ (lw_privs_4 ++ (lw_privs_5 ++ (lw_privs_6 ++ (lw_privs_7 ++ (lw_privs_8))))))), lw_okq q
  exact List.forall_mem_append.mpr ⟨lw_r1, List.forall_mem_append.mpr ⟨lw_r2, List.forall_mem_append.mpr ⟨lw_r3, List.forall_mem_append.mpr ⟨lw_r4, List.forall_mem_append.mpr ⟨lw_r5, List.forall_mem_append.mpr ⟨lw_r6, List.forall_mem_append.mpr ⟨lw_r7, lw_r8⟩⟩⟩⟩⟩⟩⟩
-- ===== end of PART A; then your names; then what follows =====
def RX0 : String := "FrostReplies$Century"
def TX0 : u_T := fun k => match k with
  | 0 => ("FrostReplies$Century", "size", "I", false)
  | 1 => ("FrostReplies$Century", "kinds", "[I", true)
  | 2 => ("FrostReplies$Century", "stones", "[I", true)
  | _ => ("FrostReplies$Century", "letters", "[I", true)
def tyX0 : Nat → FieldType := fun k => match k with
  | 0 => .int
  | 1 => .array .int
  | 2 => .array .int
  | _ => .array .int
abbrev wsX00 : List Cond := u_ws RX0 TX0 4
theorem nmX0 : ∀ a, a < 4 → ∀ b, b < 4 → a ≠ b → (TX0 a).2.1 ≠ (TX0 b).2.1 := by decide +kernel
theorem tyX0_ok : ∀ k, k < 4 → parseFieldDescriptor (TX0 k).2.2.1 = some (tyX0 k) := by decide +kernel
abbrev cX0_init : ByteArray := prog_2_method_1_code
def yX0_init : MethodName := ⟨RX0, "<init>", "()V"⟩
abbrev cX0_copy : ByteArray := prog_2_method_2_code
def yX0_copy : MethodName := ⟨RX0, "copy", "(LFrostReplies$Century;LFrostReplies$Century;)V"⟩
abbrev cX0_look : ByteArray := prog_2_method_3_code
def yX0_look : MethodName := ⟨RX0, "look", "(II)I"⟩
def RX1 : String := "FrostReplies$Ear"
def TX1 : u_T := fun k => match k with
  | 0 => ("FrostReplies$Ear", "hill", "LFrostReplies$Hill;", false)
  | 1 => ("FrostReplies$Ear", "size", "I", false)
  | 2 => ("FrostReplies$Ear", "row", "[I", true)
  | 3 => ("FrostReplies$Ear", "byPlace", "[I", true)
  | _ => ("FrostReplies$Ear", "changes", "[I", true)
def tyX1 : Nat → FieldType := fun k => match k with
  | 0 => .object "FrostReplies$Hill"
  | 1 => .int
  | 2 => .array .int
  | 3 => .array .int
  | _ => .array .int
abbrev wsX10 : List Cond := u_ws RX1 TX1 5
theorem nmX1 : ∀ a, a < 5 → ∀ b, b < 5 → a ≠ b → (TX1 a).2.1 ≠ (TX1 b).2.1 := by decide +kernel
theorem tyX1_ok : ∀ k, k < 5 → parseFieldDescriptor (TX1 k).2.2.1 = some (tyX1 k) := by decide +kernel
abbrev cX1_init : ByteArray := prog_3_method_1_code
def yX1_init : MethodName := ⟨RX1, "<init>", "()V"⟩
abbrev cX1_hears : ByteArray := prog_3_method_2_code
def yX1_hears : MethodName := ⟨RX1, "hears", "(LFrostReplies$Hill;LFrostReplies$Lines;I)Z"⟩
abbrev cX1_heard : ByteArray := prog_3_method_3_code
def yX1_heard : MethodName := ⟨RX1, "heard", "()I"⟩
abbrev cX1_likely : ByteArray := prog_3_method_4_code
def yX1_likely : MethodName := ⟨RX1, "likely", "()I"⟩
abbrev cX1_lettersBehind : ByteArray := prog_3_method_5_code
def yX1_lettersBehind : MethodName := ⟨RX1, "lettersBehind", "()I"⟩
abbrev cX1_keenest : ByteArray := prog_3_method_6_code
def yX1_keenest : MethodName := ⟨RX1, "keenest", "()I"⟩
abbrev cX1_oftenGoingOn : ByteArray := prog_3_method_7_code
def yX1_oftenGoingOn : MethodName := ⟨RX1, "oftenGoingOn", "(I)I"⟩
abbrev cX1_readings : ByteArray := prog_3_method_8_code
def yX1_readings : MethodName := ⟨RX1, "readings", "()I"⟩
abbrev cX1_countReadings : ByteArray := prog_3_method_9_code
def yX1_countReadings : MethodName := ⟨RX1, "countReadings", "()V"⟩
abbrev cX1_readingsBehind : ByteArray := prog_3_method_10_code
def yX1_readingsBehind : MethodName := ⟨RX1, "readingsBehind", "(II)I"⟩
abbrev cX1_wordOfFirstReading : ByteArray := prog_3_method_11_code
def yX1_wordOfFirstReading : MethodName := ⟨RX1, "wordOfFirstReading", "(I)I"⟩
abbrev cX1_leastReadAt : ByteArray := prog_3_method_12_code
def yX1_leastReadAt : MethodName := ⟨RX1, "leastReadAt", "(II)I"⟩
abbrev cX1_mended : ByteArray := prog_3_method_13_code
def yX1_mended : MethodName := ⟨RX1, "mended", "()I"⟩
abbrev cX1_fewestBehind : ByteArray := prog_3_method_14_code
def yX1_fewestBehind : MethodName := ⟨RX1, "fewestBehind", "(II)I"⟩
abbrev cX1_slipsUpTo : ByteArray := prog_3_method_15_code
def yX1_slipsUpTo : MethodName := ⟨RX1, "slipsUpTo", "(I)I"⟩
abbrev cX1_changesBetween : ByteArray := prog_3_method_16_code
def yX1_changesBetween : MethodName := ⟨RX1, "changesBetween", "(LFrostReplies$Hill;II)I"⟩
abbrev cX1_changesTo : ByteArray := prog_3_method_17_code
def yX1_changesTo : MethodName := ⟨RX1, "changesTo", "(LFrostReplies$Hill;I[III)I"⟩
abbrev cX1_closest : ByteArray := prog_3_method_18_code
def yX1_closest : MethodName := ⟨RX1, "closest", "(LFrostReplies$Hill;Z)I"⟩
def RX2 : String := "FrostReplies$Ground"
def TX2 : u_T := fun k => match k with
  | 0 => ("FrostReplies$Ground", "hill", "LFrostReplies$Hill;", false)
  | 1 => ("FrostReplies$Ground", "split", "I", false)
  | 2 => ("FrostReplies$Ground", "firstToldBy", "I", false)
  | 3 => ("FrostReplies$Ground", "fullest", "I", false)
  | 4 => ("FrostReplies$Ground", "sizes", "[I", true)
  | 5 => ("FrostReplies$Ground", "pauses", "[I", true)
  | 6 => ("FrostReplies$Ground", "wordsTold", "[I", true)
  | 7 => ("FrostReplies$Ground", "lastTold", "[I", true)
  | 8 => ("FrostReplies$Ground", "letters", "[I", true)
  | 9 => ("FrostReplies$Ground", "depths", "[I", true)
  | _ => ("FrostReplies$Ground", "forgeries", "[I", true)
def tyX2 : Nat → FieldType := fun k => match k with
  | 0 => .object "FrostReplies$Hill"
  | 1 => .int
  | 2 => .int
  | 3 => .int
  | 4 => .array .int
  | 5 => .array .int
  | 6 => .array .int
  | 7 => .array .int
  | 8 => .array .int
  | 9 => .array .int
  | _ => .array .int
abbrev wsX20 : List Cond := u_ws RX2 TX2 11
theorem nmX2 : ∀ a, a < 11 → ∀ b, b < 11 → a ≠ b → (TX2 a).2.1 ≠ (TX2 b).2.1 := by decide +kernel
theorem tyX2_ok : ∀ k, k < 11 → parseFieldDescriptor (TX2 k).2.2.1 = some (tyX2 k) := by decide +kernel
abbrev cX2_init : ByteArray := prog_4_method_1_code
def yX2_init : MethodName := ⟨RX2, "<init>", "()V"⟩
abbrev cX2_begin : ByteArray := prog_4_method_2_code
def yX2_begin : MethodName := ⟨RX2, "begin", "(LFrostReplies$Hill;)V"⟩
abbrev cX2_play : ByteArray := prog_4_method_3_code
def yX2_play : MethodName := ⟨RX2, "play", "(LFrostReplies$Hill;LFrostReplies$Century;I)I"⟩
abbrev cX2_draw : ByteArray := prog_4_method_4_code
def yX2_draw : MethodName := ⟨RX2, "draw", "(LFrostReplies$Hill;II)V"⟩
abbrev cX2_stir : ByteArray := prog_4_method_5_code
def yX2_stir : MethodName := ⟨RX2, "stir", "(I)I"⟩
abbrev cX2_below : ByteArray := prog_4_method_6_code
def yX2_below : MethodName := ⟨RX2, "below", "(II)I"⟩
abbrev cX2_does : ByteArray := prog_4_method_7_code
def yX2_does : MethodName := ⟨RX2, "does", "(III)Z"⟩
abbrev cX2_isStone : ByteArray := prog_4_method_8_code
def yX2_isStone : MethodName := ⟨RX2, "isStone", "(I)Z"⟩
abbrev cX2_open : ByteArray := prog_4_method_9_code
def yX2_open : MethodName := ⟨RX2, "open", "(I)I"⟩
abbrev cX2_freeze : ByteArray := prog_4_method_10_code
def yX2_freeze : MethodName := ⟨RX2, "freeze", "(II)Z"⟩
abbrev cX2_falsify : ByteArray := prog_4_method_11_code
def yX2_falsify : MethodName := ⟨RX2, "falsify", "(II)Z"⟩
abbrev cX2_add : ByteArray := prog_4_method_12_code
def yX2_add : MethodName := ⟨RX2, "add", "(IIII)V"⟩
abbrev cX2_overgrow : ByteArray := prog_4_method_13_code
def yX2_overgrow : MethodName := ⟨RX2, "overgrow", "(I)Z"⟩
abbrev cX2_chipOff : ByteArray := prog_4_method_14_code
def yX2_chipOff : MethodName := ⟨RX2, "chipOff", "(I)Z"⟩
abbrev cX2_fitting : ByteArray := prog_4_method_15_code
def yX2_fitting : MethodName := ⟨RX2, "fitting", "(II)I"⟩
abbrev cX2_forgeriesOn : ByteArray := prog_4_method_16_code
def yX2_forgeriesOn : MethodName := ⟨RX2, "forgeriesOn", "(I)I"⟩
abbrev cX2_look : ByteArray := prog_4_method_17_code
def yX2_look : MethodName := ⟨RX2, "look", "(I)I"⟩
abbrev cX2_lookAtLetter : ByteArray := prog_4_method_18_code
def yX2_lookAtLetter : MethodName := ⟨RX2, "lookAtLetter", "([II)I"⟩
abbrev cX2_lookAtStone : ByteArray := prog_4_method_19_code
def yX2_lookAtStone : MethodName := ⟨RX2, "lookAtStone", "(II)I"⟩
abbrev cX2_wordiest : ByteArray := prog_4_method_20_code
def yX2_wordiest : MethodName := ⟨RX2, "wordiest", "()I"⟩
abbrev cX2_feigned : ByteArray := prog_4_method_21_code
def yX2_feigned : MethodName := ⟨RX2, "feigned", "()I"⟩
def RX3 : String := "FrostReplies$Hill"
def TX3 : u_T := fun k => match k with
  | 0 => ("FrostReplies$Hill", "stones", "I", false)
  | 1 => ("FrostReplies$Hill", "words", "I", false)
  | 2 => ("FrostReplies$Hill", "followsTold", "Z", false)
  | 3 => ("FrostReplies$Hill", "wordsToldOf", "I", false)
  | 4 => ("FrostReplies$Hill", "sizes", "[I", true)
  | 5 => ("FrostReplies$Hill", "often", "[I", true)
  | 6 => ("FrostReplies$Hill", "follows", "[I", true)
  | 7 => ("FrostReplies$Hill", "letters", "[I", true)
  | _ => ("FrostReplies$Hill", "answers", "[I", true)
def tyX3 : Nat → FieldType := fun k => match k with
  | 0 => .int
  | 1 => .int
  | 2 => .boolean
  | 3 => .int
  | 4 => .array .int
  | 5 => .array .int
  | 6 => .array .int
  | 7 => .array .int
  | _ => .array .int
abbrev wsX30 : List Cond := u_ws RX3 TX3 9
theorem nmX3 : ∀ a, a < 9 → ∀ b, b < 9 → a ≠ b → (TX3 a).2.1 ≠ (TX3 b).2.1 := by decide +kernel
theorem tyX3_ok : ∀ k, k < 9 → parseFieldDescriptor (TX3 k).2.2.1 = some (tyX3 k) := by decide +kernel
abbrev cX3_init : ByteArray := prog_5_method_1_code
def yX3_init : MethodName := ⟨RX3, "<init>", "()V"⟩
abbrev cX3_clear : ByteArray := prog_5_method_2_code
def yX3_clear : MethodName := ⟨RX3, "clear", "()V"⟩
abbrev cX3_copy : ByteArray := prog_5_method_3_code
def yX3_copy : MethodName := ⟨RX3, "copy", "(LFrostReplies$Hill;LFrostReplies$Hill;)V"⟩
abbrev cX3_look : ByteArray := prog_5_method_4_code
def yX3_look : MethodName := ⟨RX3, "look", "(I)I"⟩
abbrev cX3_lookAtWord : ByteArray := prog_5_method_5_code
def yX3_lookAtWord : MethodName := ⟨RX3, "lookAtWord", "(II)I"⟩
abbrev cX3_hasWord : ByteArray := prog_5_method_6_code
def yX3_hasWord : MethodName := ⟨RX3, "hasWord", "(I)Z"⟩
abbrev cX3_sizeOf : ByteArray := prog_5_method_7_code
def yX3_sizeOf : MethodName := ⟨RX3, "sizeOf", "(I)I"⟩
abbrev cX3_oftenOf : ByteArray := prog_5_method_8_code
def yX3_oftenOf : MethodName := ⟨RX3, "oftenOf", "(I)I"⟩
abbrev cX3_letterOf : ByteArray := prog_5_method_9_code
def yX3_letterOf : MethodName := ⟨RX3, "letterOf", "(II)I"⟩
abbrev cX3_all : ByteArray := prog_5_method_10_code
def yX3_all : MethodName := ⟨RX3, "all", "()I"⟩
abbrev cX3_behind : ByteArray := prog_5_method_11_code
def yX3_behind : MethodName := ⟨RX3, "behind", "(I)I"⟩
abbrev cX3_oftenOfAll : ByteArray := prog_5_method_12_code
def yX3_oftenOfAll : MethodName := ⟨RX3, "oftenOfAll", "(I)I"⟩
abbrev cX3_beginningWith : ByteArray := prog_5_method_13_code
def yX3_beginningWith : MethodName := ⟨RX3, "beginningWith", "([III)I"⟩
abbrev cX3_changesAt : ByteArray := prog_5_method_14_code
def yX3_changesAt : MethodName := ⟨RX3, "changesAt", "(I[III)I"⟩
abbrev cX3_sameLettersAtFirst : ByteArray := prog_5_method_15_code
def yX3_sameLettersAtFirst : MethodName := ⟨RX3, "sameLettersAtFirst", "(II)I"⟩
abbrev cX3_isWithin : ByteArray := prog_5_method_16_code
def yX3_isWithin : MethodName := ⟨RX3, "isWithin", "(II)Z"⟩
abbrev cX3_lettersTillSure : ByteArray := prog_5_method_17_code
def yX3_lettersTillSure : MethodName := ⟨RX3, "lettersTillSure", "(II)I"⟩
abbrev cX3_lettersToTell : ByteArray := prog_5_method_18_code
def yX3_lettersToTell : MethodName := ⟨RX3, "lettersToTell", "(III)I"⟩
abbrev cX3_soonestAnswered : ByteArray := prog_5_method_19_code
def yX3_soonestAnswered : MethodName := ⟨RX3, "soonestAnswered", "()I"⟩
abbrev cX3_wordGoingOn : ByteArray := prog_5_method_20_code
def yX3_wordGoingOn : MethodName := ⟨RX3, "wordGoingOn", "(III)I"⟩
abbrev cX3_isWhole : ByteArray := prog_5_method_21_code
def yX3_isWhole : MethodName := ⟨RX3, "isWhole", "(II)Z"⟩
abbrev cX3_unlikeBeginnings : ByteArray := prog_5_method_22_code
def yX3_unlikeBeginnings : MethodName := ⟨RX3, "unlikeBeginnings", "()I"⟩
abbrev cX3_wordsWithin : ByteArray := prog_5_method_23_code
def yX3_wordsWithin : MethodName := ⟨RX3, "wordsWithin", "(I)I"⟩
abbrev cX3_unsureQuestions : ByteArray := prog_5_method_24_code
def yX3_unsureQuestions : MethodName := ⟨RX3, "unsureQuestions", "()I"⟩
abbrev cX3_leadsOf : ByteArray := prog_5_method_25_code
def yX3_leadsOf : MethodName := ⟨RX3, "leadsOf", "(I)I"⟩
abbrev cX3_hasTwoAlike : ByteArray := prog_5_method_26_code
def yX3_hasTwoAlike : MethodName := ⟨RX3, "hasTwoAlike", "()Z"⟩
def RX4 : String := "FrostReplies$Lines"
def TX4 : u_T := fun k => match k with
  | 0 => ("FrostReplies$Lines", "size", "I", false)
  | 1 => ("FrostReplies$Lines", "sizes", "[I", true)
  | _ => ("FrostReplies$Lines", "letters", "[I", true)
def tyX4 : Nat → FieldType := fun k => match k with
  | 0 => .int
  | 1 => .array .int
  | _ => .array .int
abbrev wsX40 : List Cond := u_ws RX4 TX4 3
theorem nmX4 : ∀ a, a < 3 → ∀ b, b < 3 → a ≠ b → (TX4 a).2.1 ≠ (TX4 b).2.1 := by decide +kernel
theorem tyX4_ok : ∀ k, k < 3 → parseFieldDescriptor (TX4 k).2.2.1 = some (tyX4 k) := by decide +kernel
abbrev cX4_init : ByteArray := prog_6_method_1_code
def yX4_init : MethodName := ⟨RX4, "<init>", "()V"⟩
abbrev cX4_copy : ByteArray := prog_6_method_2_code
def yX4_copy : MethodName := ⟨RX4, "copy", "(LFrostReplies$Lines;LFrostReplies$Lines;)V"⟩
abbrev cX4_hasLine : ByteArray := prog_6_method_3_code
def yX4_hasLine : MethodName := ⟨RX4, "hasLine", "(I)Z"⟩
abbrev cX4_letterOf : ByteArray := prog_6_method_4_code
def yX4_letterOf : MethodName := ⟨RX4, "letterOf", "(II)I"⟩
abbrev cX4_look : ByteArray := prog_6_method_5_code
def yX4_look : MethodName := ⟨RX4, "look", "(II)I"⟩
abbrev cX4_longestInBoth : ByteArray := prog_6_method_6_code
def yX4_longestInBoth : MethodName := ⟨RX4, "longestInBoth", "(IIZ)I"⟩
abbrev cX4_sameFrom : ByteArray := prog_6_method_7_code
def yX4_sameFrom : MethodName := ⟨RX4, "sameFrom", "(IIII)I"⟩
def RX5 : String := "FrostReplies$Log"
def TX5 : u_T := fun k => match k with
  | 0 => ("FrostReplies$Log", "size", "I", false)
  | 1 => ("FrostReplies$Log", "places", "[I", true)
  | _ => ("FrostReplies$Log", "depths", "[I", true)
def tyX5 : Nat → FieldType := fun k => match k with
  | 0 => .int
  | 1 => .array .int
  | _ => .array .int
abbrev wsX50 : List Cond := u_ws RX5 TX5 3
theorem nmX5 : ∀ a, a < 3 → ∀ b, b < 3 → a ≠ b → (TX5 a).2.1 ≠ (TX5 b).2.1 := by decide +kernel
theorem tyX5_ok : ∀ k, k < 3 → parseFieldDescriptor (TX5 k).2.2.1 = some (tyX5 k) := by decide +kernel
abbrev cX5_init : ByteArray := prog_7_method_1_code
def yX5_init : MethodName := ⟨RX5, "<init>", "()V"⟩
abbrev cX5_copy : ByteArray := prog_7_method_2_code
def yX5_copy : MethodName := ⟨RX5, "copy", "(LFrostReplies$Log;LFrostReplies$Log;)V"⟩
abbrev cX5_look : ByteArray := prog_7_method_3_code
def yX5_look : MethodName := ⟨RX5, "look", "(II)I"⟩
abbrev cX5_lastPlace : ByteArray := prog_7_method_4_code
def yX5_lastPlace : MethodName := ⟨RX5, "lastPlace", "()I"⟩
def RX6 : String := "FrostReplies$Reader"
def TX6 : u_T := fun k => match k with
  | 0 => ("FrostReplies$Reader", "hill", "LFrostReplies$Hill;", true)
  | 1 => ("FrostReplies$Reader", "century", "LFrostReplies$Century;", true)
  | 2 => ("FrostReplies$Reader", "lines", "LFrostReplies$Lines;", true)
  | 3 => ("FrostReplies$Reader", "log", "LFrostReplies$Log;", true)
  | 4 => ("FrostReplies$Reader", "fault", "I", false)
  | 5 => ("FrostReplies$Reader", "faultPlace", "I", false)
  | 6 => ("FrostReplies$Reader", "tokens", "LFrostReplies$Tokens;", true)
  | 7 => ("FrostReplies$Reader", "tape", "[I", false)
  | 8 => ("FrostReplies$Reader", "keyStart", "I", false)
  | 9 => ("FrostReplies$Reader", "deedKind", "I", false)
  | 10 => ("FrostReplies$Reader", "firstStart", "I", false)
  | 11 => ("FrostReplies$Reader", "firstSize", "I", false)
  | 12 => ("FrostReplies$Reader", "firstNumber", "I", false)
  | 13 => ("FrostReplies$Reader", "secondStart", "I", false)
  | 14 => ("FrostReplies$Reader", "secondSize", "I", false)
  | _ => ("FrostReplies$Reader", "secondNumber", "I", false)
def tyX6 : Nat → FieldType := fun k => match k with
  | 0 => .object "FrostReplies$Hill"
  | 1 => .object "FrostReplies$Century"
  | 2 => .object "FrostReplies$Lines"
  | 3 => .object "FrostReplies$Log"
  | 4 => .int
  | 5 => .int
  | 6 => .object "FrostReplies$Tokens"
  | 7 => .array .int
  | 8 => .int
  | 9 => .int
  | 10 => .int
  | 11 => .int
  | 12 => .int
  | 13 => .int
  | 14 => .int
  | _ => .int
abbrev wsX60 : List Cond := u_ws RX6 TX6 16
theorem nmX6 : ∀ a, a < 16 → ∀ b, b < 16 → a ≠ b → (TX6 a).2.1 ≠ (TX6 b).2.1 := by decide +kernel
theorem tyX6_ok : ∀ k, k < 16 → parseFieldDescriptor (TX6 k).2.2.1 = some (tyX6 k) := by decide +kernel
abbrev cX6_init : ByteArray := prog_8_method_1_code
def yX6_init : MethodName := ⟨RX6, "<init>", "()V"⟩
abbrev cX6_read : ByteArray := prog_8_method_2_code
def yX6_read : MethodName := ⟨RX6, "read", "([III)V"⟩
abbrev cX6_readOne : ByteArray := prog_8_method_3_code
def yX6_readOne : MethodName := ⟨RX6, "readOne", "(I)Z"⟩
abbrev cX6_keepFirst : ByteArray := prog_8_method_4_code
def yX6_keepFirst : MethodName := ⟨RX6, "keepFirst", "()V"⟩
abbrev cX6_keepSecond : ByteArray := prog_8_method_5_code
def yX6_keepSecond : MethodName := ⟨RX6, "keepSecond", "()V"⟩
abbrev cX6_refuse : ByteArray := prog_8_method_6_code
def yX6_refuse : MethodName := ⟨RX6, "refuse", "()Z"⟩
abbrev cX6_keyOf : ByteArray := prog_8_method_7_code
def yX6_keyOf : MethodName := ⟨RX6, "keyOf", "(I)I"⟩
abbrev cX6_hillKey : ByteArray := prog_8_method_8_code
def yX6_hillKey : MethodName := ⟨RX6, "hillKey", "()I"⟩
abbrev cX6_centuryKey : ByteArray := prog_8_method_9_code
def yX6_centuryKey : MethodName := ⟨RX6, "centuryKey", "()I"⟩
abbrev cX6_deedOfToken : ByteArray := prog_8_method_10_code
def yX6_deedOfToken : MethodName := ⟨RX6, "deedOfToken", "()I"⟩
abbrev cX6_tell : ByteArray := prog_8_method_11_code
def yX6_tell : MethodName := ⟨RX6, "tell", "(I)V"⟩
abbrev cX6_tellWord : ByteArray := prog_8_method_12_code
def yX6_tellWord : MethodName := ⟨RX6, "tellWord", "()V"⟩
abbrev cX6_tellFollows : ByteArray := prog_8_method_13_code
def yX6_tellFollows : MethodName := ⟨RX6, "tellFollows", "()V"⟩
abbrev cX6_tellAsks : ByteArray := prog_8_method_14_code
def yX6_tellAsks : MethodName := ⟨RX6, "tellAsks", "()V"⟩
abbrev cX6_tellStones : ByteArray := prog_8_method_15_code
def yX6_tellStones : MethodName := ⟨RX6, "tellStones", "()V"⟩
abbrev cX6_tellDeed : ByteArray := prog_8_method_16_code
def yX6_tellDeed : MethodName := ⟨RX6, "tellDeed", "(Z)V"⟩
abbrev cX6_tellLine : ByteArray := prog_8_method_17_code
def yX6_tellLine : MethodName := ⟨RX6, "tellLine", "()V"⟩
abbrev cX6_tellFact : ByteArray := prog_8_method_18_code
def yX6_tellFact : MethodName := ⟨RX6, "tellFact", "()V"⟩
abbrev cX6_needRoom : ByteArray := prog_8_method_19_code
def yX6_needRoom : MethodName := ⟨RX6, "needRoom", "(II)Z"⟩
abbrev cX6_needNumber : ByteArray := prog_8_method_20_code
def yX6_needNumber : MethodName := ⟨RX6, "needNumber", "(IIII)V"⟩
abbrev cX6_needRow : ByteArray := prog_8_method_21_code
def yX6_needRow : MethodName := ⟨RX6, "needRow", "(III)V"⟩
abbrev cX6_letterAt : ByteArray := prog_8_method_22_code
def yX6_letterAt : MethodName := ⟨RX6, "letterAt", "(I)I"⟩
abbrev cX6_note : ByteArray := prog_8_method_23_code
def yX6_note : MethodName := ⟨RX6, "note", "(II)V"⟩
abbrev cX6_lookAtHill : ByteArray := prog_8_method_24_code
def yX6_lookAtHill : MethodName := ⟨RX6, "lookAtHill", "(I)V"⟩
def RX7 : String := "FrostReplies$Rules"
def TX7 : u_T := fun k => match k with
  | 0 => ("FrostReplies$Rules", "log", "LFrostReplies$Log;", false)
  | 1 => ("FrostReplies$Rules", "last", "I", false)
  | 2 => ("FrostReplies$Rules", "most", "I", false)
  | 3 => ("FrostReplies$Rules", "hits", "[I", true)
  | 4 => ("FrostReplies$Rules", "mostByPace", "[I", true)
  | _ => ("FrostReplies$Rules", "startsByPace", "[I", true)
def tyX7 : Nat → FieldType := fun k => match k with
  | 0 => .object "FrostReplies$Log"
  | 1 => .int
  | 2 => .int
  | 3 => .array .int
  | 4 => .array .int
  | _ => .array .int
abbrev wsX70 : List Cond := u_ws RX7 TX7 6
theorem nmX7 : ∀ a, a < 6 → ∀ b, b < 6 → a ≠ b → (TX7 a).2.1 ≠ (TX7 b).2.1 := by decide +kernel
theorem tyX7_ok : ∀ k, k < 6 → parseFieldDescriptor (TX7 k).2.2.1 = some (tyX7 k) := by decide +kernel
abbrev cX7_init : ByteArray := prog_9_method_1_code
def yX7_init : MethodName := ⟨RX7, "<init>", "()V"⟩
abbrev cX7_gap : ByteArray := prog_9_method_2_code
def yX7_gap : MethodName := ⟨RX7, "gap", "(I)I"⟩
abbrev cX7_wear : ByteArray := prog_9_method_3_code
def yX7_wear : MethodName := ⟨RX7, "wear", "(I)I"⟩
abbrev cX7_since : ByteArray := prog_9_method_4_code
def yX7_since : MethodName := ⟨RX7, "since", "(I)I"⟩
abbrev cX7_weigh : ByteArray := prog_9_method_5_code
def yX7_weigh : MethodName := ⟨RX7, "weigh", "(LFrostReplies$Log;)V"⟩
abbrev cX7_countHits : ByteArray := prog_9_method_6_code
def yX7_countHits : MethodName := ⟨RX7, "countHits", "(I)V"⟩
abbrev cX7_lessBy : ByteArray := prog_9_method_7_code
def yX7_lessBy : MethodName := ⟨RX7, "lessBy", "(II)I"⟩
abbrev cX7_keepBest : ByteArray := prog_9_method_8_code
def yX7_keepBest : MethodName := ⟨RX7, "keepBest", "(I)V"⟩
abbrev cX7_startsOf : ByteArray := prog_9_method_9_code
def yX7_startsOf : MethodName := ⟨RX7, "startsOf", "(I)I"⟩
abbrev cX7_judge : ByteArray := prog_9_method_10_code
def yX7_judge : MethodName := ⟨RX7, "judge", "(I)I"⟩
abbrev cX7_howMany : ByteArray := prog_9_method_11_code
def yX7_howMany : MethodName := ⟨RX7, "howMany", "()I"⟩
abbrev cX7_ruleOf : ByteArray := prog_9_method_12_code
def yX7_ruleOf : MethodName := ⟨RX7, "ruleOf", "(I)I"⟩
abbrev cX7_missedByAll : ByteArray := prog_9_method_13_code
def yX7_missedByAll : MethodName := ⟨RX7, "missedByAll", "()I"⟩
abbrev cX7_missedPlaces : ByteArray := prog_9_method_14_code
def yX7_missedPlaces : MethodName := ⟨RX7, "missedPlaces", "(II)I"⟩
abbrev cX7_years : ByteArray := prog_9_method_15_code
def yX7_years : MethodName := ⟨RX7, "years", "(Z)I"⟩
def RX8 : String := "FrostReplies$Tokens"
def TX8 : u_T := fun k => match k with
  | 0 => ("FrostReplies$Tokens", "tape", "[I", false)
  | 1 => ("FrostReplies$Tokens", "length", "I", false)
  | 2 => ("FrostReplies$Tokens", "at", "I", false)
  | 3 => ("FrostReplies$Tokens", "kind", "I", false)
  | 4 => ("FrostReplies$Tokens", "start", "I", false)
  | 5 => ("FrostReplies$Tokens", "size", "I", false)
  | _ => ("FrostReplies$Tokens", "number", "I", false)
def tyX8 : Nat → FieldType := fun k => match k with
  | 0 => .array .int
  | 1 => .int
  | 2 => .int
  | 3 => .int
  | 4 => .int
  | 5 => .int
  | _ => .int
abbrev wsX80 : List Cond := u_ws RX8 TX8 7
theorem nmX8 : ∀ a, a < 7 → ∀ b, b < 7 → a ≠ b → (TX8 a).2.1 ≠ (TX8 b).2.1 := by decide +kernel
theorem tyX8_ok : ∀ k, k < 7 → parseFieldDescriptor (TX8 k).2.2.1 = some (tyX8 k) := by decide +kernel
abbrev cX8_init : ByteArray := prog_10_method_1_code
def yX8_init : MethodName := ⟨RX8, "<init>", "()V"⟩
abbrev cX8_begin : ByteArray := prog_10_method_2_code
def yX8_begin : MethodName := ⟨RX8, "begin", "([II)V"⟩
abbrev cX8_step : ByteArray := prog_10_method_3_code
def yX8_step : MethodName := ⟨RX8, "step", "()V"⟩
abbrev cX8_stepOverRow : ByteArray := prog_10_method_4_code
def yX8_stepOverRow : MethodName := ⟨RX8, "stepOverRow", "()V"⟩
abbrev cX8_stepOverDigits : ByteArray := prog_10_method_5_code
def yX8_stepOverDigits : MethodName := ⟨RX8, "stepOverDigits", "()V"⟩
abbrev cX8_is : ByteArray := prog_10_method_6_code
def yX8_is : MethodName := ⟨RX8, "is", "(Ljava/lang/String;)Z"⟩
abbrev cX8_isBlank : ByteArray := prog_10_method_7_code
def yX8_isBlank : MethodName := ⟨RX8, "isBlank", "(I)Z"⟩
abbrev cX8_isLetter : ByteArray := prog_10_method_8_code
def yX8_isLetter : MethodName := ⟨RX8, "isLetter", "(I)Z"⟩
abbrev cX8_isDigit : ByteArray := prog_10_method_9_code
def yX8_isDigit : MethodName := ⟨RX8, "isDigit", "(I)Z"⟩
def RX9 : String := "FrostReplies$Told"
def TX9 : u_T := fun k => match k with
  | 0 => ("FrostReplies$Told", "tape", "[I", true)
  | 1 => ("FrostReplies$Told", "length", "I", false)
  | 2 => ("FrostReplies$Told", "fault", "I", false)
  | 3 => ("FrostReplies$Told", "faultPlace", "I", false)
  | 4 => ("FrostReplies$Told", "counts", "[I", true)
  | 5 => ("FrostReplies$Told", "hills", "[LFrostReplies$Hill;", true)
  | 6 => ("FrostReplies$Told", "centuries", "[LFrostReplies$Century;", true)
  | 7 => ("FrostReplies$Told", "lines", "[LFrostReplies$Lines;", true)
  | _ => ("FrostReplies$Told", "logs", "[LFrostReplies$Log;", true)
def tyX9 : Nat → FieldType := fun k => match k with
  | 0 => .array .int
  | 1 => .int
  | 2 => .int
  | 3 => .int
  | 4 => .array .int
  | 5 => .array (.object "FrostReplies$Hill")
  | 6 => .array (.object "FrostReplies$Century")
  | 7 => .array (.object "FrostReplies$Lines")
  | _ => .array (.object "FrostReplies$Log")
abbrev wsX90 : List Cond := u_ws RX9 TX9 9
theorem nmX9 : ∀ a, a < 9 → ∀ b, b < 9 → a ≠ b → (TX9 a).2.1 ≠ (TX9 b).2.1 := by decide +kernel
theorem tyX9_ok : ∀ k, k < 9 → parseFieldDescriptor (TX9 k).2.2.1 = some (tyX9 k) := by decide +kernel
abbrev cX9_init : ByteArray := prog_11_method_1_code
def yX9_init : MethodName := ⟨RX9, "<init>", "()V"⟩
abbrev cX9_copy : ByteArray := prog_11_method_2_code
def yX9_copy : MethodName := ⟨RX9, "copy", "(LFrostReplies$Told;)V"⟩
abbrev cX9_addBytes : ByteArray := prog_11_method_3_code
def yX9_addBytes : MethodName := ⟨RX9, "addBytes", "(I)V"⟩
abbrev cX9_many : ByteArray := prog_11_method_4_code
def yX9_many : MethodName := ⟨RX9, "many", "(I)I"⟩
abbrev cX9_keep : ByteArray := prog_11_method_5_code
def yX9_keep : MethodName := ⟨RX9, "keep", "(LFrostReplies$Reader;II)V"⟩
abbrev cX9_hasOne : ByteArray := prog_11_method_6_code
def yX9_hasOne : MethodName := ⟨RX9, "hasOne", "(II)Z"⟩
abbrev cX9_hillOf : ByteArray := prog_11_method_7_code
def yX9_hillOf : MethodName := ⟨RX9, "hillOf", "(I)LFrostReplies$Hill;"⟩
abbrev cX9_centuryOf : ByteArray := prog_11_method_8_code
def yX9_centuryOf : MethodName := ⟨RX9, "centuryOf", "(I)LFrostReplies$Century;"⟩
abbrev cX9_linesOf : ByteArray := prog_11_method_9_code
def yX9_linesOf : MethodName := ⟨RX9, "linesOf", "(I)LFrostReplies$Lines;"⟩
abbrev cX9_logOf : ByteArray := prog_11_method_10_code
def yX9_logOf : MethodName := ⟨RX9, "logOf", "(I)LFrostReplies$Log;"⟩
def RX10 : String := "FrostReplies$Yard"
def TX10 : u_T := fun k => match k with
  | 0 => ("FrostReplies$Yard", "rows", "[I", true)
  | 1 => ("FrostReplies$Yard", "longerRows", "[I", true)
  | 2 => ("FrostReplies$Yard", "heads", "[I", true)
  | _ => ("FrostReplies$Yard", "lengths", "[I", true)
def tyX10 : Nat → FieldType := fun k => match k with
  | 0 => .array .int
  | 1 => .array .int
  | 2 => .array .int
  | _ => .array .int
abbrev wsX100 : List Cond := u_ws RX10 TX10 4
theorem nmX10 : ∀ a, a < 4 → ∀ b, b < 4 → a ≠ b → (TX10 a).2.1 ≠ (TX10 b).2.1 := by decide +kernel
theorem tyX10_ok : ∀ k, k < 4 → parseFieldDescriptor (TX10 k).2.2.1 = some (tyX10 k) := by decide +kernel
abbrev cX10_init : ByteArray := prog_12_method_1_code
def yX10_init : MethodName := ⟨RX10, "<init>", "()V"⟩
abbrev cX10_rowsOf : ByteArray := prog_12_method_2_code
def yX10_rowsOf : MethodName := ⟨RX10, "rowsOf", "(LFrostReplies$Hill;I)I"⟩
abbrev cX10_sumOf : ByteArray := prog_12_method_3_code
def yX10_sumOf : MethodName := ⟨RX10, "sumOf", "(I)I"⟩
abbrev cX10_shortestReadTwice : ByteArray := prog_12_method_4_code
def yX10_shortestReadTwice : MethodName := ⟨RX10, "shortestReadTwice", "(LFrostReplies$Hill;)I"⟩
abbrev cX10_endsAt : ByteArray := prog_12_method_5_code
def yX10_endsAt : MethodName := ⟨RX10, "endsAt", "(LFrostReplies$Hill;I)Z"⟩
abbrev cX10_goOn : ByteArray := prog_12_method_6_code
def yX10_goOn : MethodName := ⟨RX10, "goOn", "(LFrostReplies$Hill;IIII)Z"⟩
abbrev cX10_shorten : ByteArray := prog_12_method_7_code
def yX10_shorten : MethodName := ⟨RX10, "shorten", "(IIII)V"⟩
abbrev cX10_pair : ByteArray := prog_12_method_8_code
def yX10_pair : MethodName := ⟨RX10, "pair", "(III)I"⟩
abbrev cX10_longestChain : ByteArray := prog_12_method_9_code
def yX10_longestChain : MethodName := ⟨RX10, "longestChain", "(LFrostReplies$Hill;)I"⟩
abbrev cX10_headsOf : ByteArray := prog_12_method_10_code
def yX10_headsOf : MethodName := ⟨RX10, "headsOf", "(LFrostReplies$Hill;I)I"⟩
abbrev cX10_wordOfFirstChain : ByteArray := prog_12_method_11_code
def yX10_wordOfFirstChain : MethodName := ⟨RX10, "wordOfFirstChain", "(LFrostReplies$Hill;II)I"⟩
abbrev cX10_headsWithout : ByteArray := prog_12_method_12_code
def yX10_headsWithout : MethodName := ⟨RX10, "headsWithout", "(LFrostReplies$Hill;II)I"⟩
def RX11 : String := "FrostReplies"
def TX11 : u_T := fun k => match k with
  | 0 => ("FrostReplies", "told", "LFrostReplies$Told;", true)
  | 1 => ("FrostReplies", "images", "[LFrostReplies$Told;", true)
  | 2 => ("FrostReplies", "reader", "LFrostReplies$Reader;", true)
  | 3 => ("FrostReplies", "ground", "LFrostReplies$Ground;", true)
  | 4 => ("FrostReplies", "ear", "LFrostReplies$Ear;", true)
  | 5 => ("FrostReplies", "yard", "LFrostReplies$Yard;", true)
  | _ => ("FrostReplies", "rules", "LFrostReplies$Rules;", true)
def tyX11 : Nat → FieldType := fun k => match k with
  | 0 => .object "FrostReplies$Told"
  | 1 => .array (.object "FrostReplies$Told")
  | 2 => .object "FrostReplies$Reader"
  | 3 => .object "FrostReplies$Ground"
  | 4 => .object "FrostReplies$Ear"
  | 5 => .object "FrostReplies$Yard"
  | _ => .object "FrostReplies$Rules"
abbrev wsX110 : List Cond := u_ws RX11 TX11 7
theorem nmX11 : ∀ a, a < 7 → ∀ b, b < 7 → a ≠ b → (TX11 a).2.1 ≠ (TX11 b).2.1 := by decide +kernel
theorem tyX11_ok : ∀ k, k < 7 → parseFieldDescriptor (TX11 k).2.2.1 = some (tyX11 k) := by decide +kernel
abbrev cX11_init : ByteArray := prog_1_method_1_code
def yX11_init : MethodName := ⟨RX11, "<init>", "()V"⟩
abbrev cX11_feed : ByteArray := prog_1_method_2_code
def yX11_feed : MethodName := ⟨RX11, "feed", "(IIIII)I"⟩
abbrev cX11_end : ByteArray := prog_1_method_3_code
def yX11_end : MethodName := ⟨RX11, "end", "(I)I"⟩
abbrev cX11_text : ByteArray := prog_1_method_4_code
def yX11_text : MethodName := ⟨RX11, "text", "(II)I"⟩
abbrev cX11_fault : ByteArray := prog_1_method_5_code
def yX11_fault : MethodName := ⟨RX11, "fault", "(I)I"⟩
abbrev cX11_hill : ByteArray := prog_1_method_6_code
def yX11_hill : MethodName := ⟨RX11, "hill", "(II)I"⟩
abbrev cX11_deed : ByteArray := prog_1_method_7_code
def yX11_deed : MethodName := ⟨RX11, "deed", "(III)I"⟩
abbrev cX11_stop : ByteArray := prog_1_method_8_code
def yX11_stop : MethodName := ⟨RX11, "stop", "(II)I"⟩
abbrev cX11_state : ByteArray := prog_1_method_9_code
def yX11_state : MethodName := ⟨RX11, "state", "(IIII)I"⟩
abbrev cX11_line : ByteArray := prog_1_method_10_code
def yX11_line : MethodName := ⟨RX11, "line", "(III)I"⟩
abbrev cX11_said : ByteArray := prog_1_method_11_code
def yX11_said : MethodName := ⟨RX11, "said", "(IIII)I"⟩
abbrev cX11_odds : ByteArray := prog_1_method_12_code
def yX11_odds : MethodName := ⟨RX11, "odds", "(IIIIZ)J"⟩
abbrev cX11_sure : ByteArray := prog_1_method_13_code
def yX11_sure : MethodName := ⟨RX11, "sure", "(IIIZ)J"⟩
abbrev cX11_reading : ByteArray := prog_1_method_14_code
def yX11_reading : MethodName := ⟨RX11, "reading", "(IIII)I"⟩
abbrev cX11_slips : ByteArray := prog_1_method_15_code
def yX11_slips : MethodName := ⟨RX11, "slips", "(IIII)I"⟩
abbrev cX11_asked : ByteArray := prog_1_method_16_code
def yX11_asked : MethodName := ⟨RX11, "asked", "(IIZ)J"⟩
abbrev cX11_soonest : ByteArray := prog_1_method_17_code
def yX11_soonest : MethodName := ⟨RX11, "soonest", "(I)I"⟩
abbrev cX11_sentences : ByteArray := prog_1_method_18_code
def yX11_sentences : MethodName := ⟨RX11, "sentences", "(II)I"⟩
abbrev cX11_twice : ByteArray := prog_1_method_19_code
def yX11_twice : MethodName := ⟨RX11, "twice", "(I)I"⟩
abbrev cX11_ghost : ByteArray := prog_1_method_20_code
def yX11_ghost : MethodName := ⟨RX11, "ghost", "(IZ)I"⟩
abbrev cX11_fact : ByteArray := prog_1_method_21_code
def yX11_fact : MethodName := ⟨RX11, "fact", "(III)I"⟩
abbrev cX11_forged : ByteArray := prog_1_method_22_code
def yX11_forged : MethodName := ⟨RX11, "forged", "(II)I"⟩
abbrev cX11_chance : ByteArray := prog_1_method_23_code
def yX11_chance : MethodName := ⟨RX11, "chance", "(IIIZ)J"⟩
abbrev cX11_drawn : ByteArray := prog_1_method_24_code
def yX11_drawn : MethodName := ⟨RX11, "drawn", "(IIII)I"⟩
abbrev cX11_next : ByteArray := prog_1_method_25_code
def yX11_next : MethodName := ⟨RX11, "next", "(IIII)I"⟩
abbrev cX11_echo : ByteArray := prog_1_method_26_code
def yX11_echo : MethodName := ⟨RX11, "echo", "(IIIZ)I"⟩
abbrev cX11_alike : ByteArray := prog_1_method_27_code
def yX11_alike : MethodName := ⟨RX11, "alike", "(IIIZ)I"⟩
abbrev cX11_tree : ByteArray := prog_1_method_28_code
def yX11_tree : MethodName := ⟨RX11, "tree", "(II)I"⟩
abbrev cX11_chain : ByteArray := prog_1_method_29_code
def yX11_chain : MethodName := ⟨RX11, "chain", "(II)I"⟩
abbrev cX11_after : ByteArray := prog_1_method_30_code
def yX11_after : MethodName := ⟨RX11, "after", "(III)I"⟩
abbrev cX11_age : ByteArray := prog_1_method_31_code
def yX11_age : MethodName := ⟨RX11, "age", "(IZ)I"⟩
abbrev cX11_waits : ByteArray := prog_1_method_32_code
def yX11_waits : MethodName := ⟨RX11, "waits", "(IIZ)J"⟩
abbrev cX11_count : ByteArray := prog_1_method_33_code
def yX11_count : MethodName := ⟨RX11, "count", "(I)I"⟩
abbrev cX11_image : ByteArray := prog_1_method_34_code
def yX11_image : MethodName := ⟨RX11, "image", "(I)Z"⟩
abbrev cX11_again : ByteArray := prog_1_method_35_code
def yX11_again : MethodName := ⟨RX11, "again", "(I)Z"⟩
abbrev cX11_winningLetter : ByteArray := prog_1_method_36_code
def yX11_winningLetter : MethodName := ⟨RX11, "winningLetter", "(LFrostReplies$Hill;II)I"⟩
abbrev cX11_waysOfExactly : ByteArray := prog_1_method_37_code
def yX11_waysOfExactly : MethodName := ⟨RX11, "waysOfExactly", "(III)J"⟩
abbrev cX11_least : ByteArray := prog_1_method_38_code
def yX11_least : MethodName := ⟨RX11, "least", "(JJZ)J"⟩
abbrev cX11_commonDivisor : ByteArray := prog_1_method_39_code
def yX11_commonDivisor : MethodName := ⟨RX11, "commonDivisor", "(JJ)J"⟩
abbrev cX11_has : ByteArray := prog_1_method_40_code
def yX11_has : MethodName := ⟨RX11, "has", "(II)Z"⟩
abbrev cX11_bit : ByteArray := prog_1_method_41_code
def yX11_bit : MethodName := ⟨RX11, "bit", "(I)I"⟩
abbrev cX11_lowest : ByteArray := prog_1_method_42_code
def yX11_lowest : MethodName := ⟨RX11, "lowest", "(I)I"⟩
abbrev cX11_got : ByteArray := prog_1_method_43_code
def yX11_got : MethodName := ⟨RX11, "got", "([II)I"⟩
abbrev cX11_put : ByteArray := prog_1_method_44_code
def yX11_put : MethodName := ⟨RX11, "put", "([III)V"⟩
abbrev cX11_copyRow : ByteArray := prog_1_method_45_code
def yX11_copyRow : MethodName := ⟨RX11, "copyRow", "([I[I)V"⟩
def RX12 : String := "FrostRepliesModel"
def TX12 : u_T := fun k => match k with
  | 0 => ("FrostRepliesModel", "all", "[I", true)
  | 1 => ("FrostRepliesModel", "has", "[Z", true)
  | 2 => ("FrostRepliesModel", "size", "I", false)
  | 3 => ("FrostRepliesModel", "next", "I", false)
  | 4 => ("FrostRepliesModel", "where", "I", false)
  | 5 => ("FrostRepliesModel", "token", "I", false)
  | 6 => ("FrostRepliesModel", "number", "I", false)
  | 7 => ("FrostRepliesModel", "word", "I", false)
  | 8 => ("FrostRepliesModel", "wrong", "Z", false)
  | 9 => ("FrostRepliesModel", "farWord", "I", false)
  | 10 => ("FrostRepliesModel", "read", "[I", true)
  | 11 => ("FrostRepliesModel", "letters", "[I", true)
  | 12 => ("FrostRepliesModel", "many", "I", false)
  | 13 => ("FrostRepliesModel", "h0", "I", false)
  | 14 => ("FrostRepliesModel", "stones", "I", false)
  | 15 => ("FrostRepliesModel", "words", "I", false)
  | 16 => ("FrostRepliesModel", "d0", "I", false)
  | 17 => ("FrostRepliesModel", "gone", "I", false)
  | 18 => ("FrostRepliesModel", "row", "[I", true)
  | 19 => ("FrostRepliesModel", "depth", "[I", true)
  | 20 => ("FrostRepliesModel", "feigned", "[Z", true)
  | 21 => ("FrostRepliesModel", "lies", "[I", true)
  | 22 => ("FrostRepliesModel", "open", "[I", true)
  | 23 => ("FrostRepliesModel", "told", "[I", true)
  | 24 => ("FrostRepliesModel", "latest", "[I", true)
  | 25 => ("FrostRepliesModel", "done", "I", false)
  | 26 => ("FrostRepliesModel", "l0", "I", false)
  | 27 => ("FrostRepliesModel", "lineLong", "I", false)
  | 28 => ("FrostRepliesModel", "ways", "[I", true)
  | 29 => ("FrostRepliesModel", "one", "[I", true)
  | 30 => ("FrostRepliesModel", "other", "[I", true)
  | 31 => ("FrostRepliesModel", "oneLong", "I", false)
  | 32 => ("FrostRepliesModel", "otherLong", "I", false)
  | 33 => ("FrostRepliesModel", "changes", "[I", true)
  | 34 => ("FrostRepliesModel", "more", "[I", true)
  | 35 => ("FrostRepliesModel", "far", "[I", true)
  | 36 => ("FrostRepliesModel", "doubled", "I", false)
  | 37 => ("FrostRepliesModel", "wins", "[Z", true)
  | 38 => ("FrostRepliesModel", "f0", "I", false)
  | 39 => ("FrostRepliesModel", "lastPlace", "I", false)
  | _ => ("FrostRepliesModel", "x0", "I", false)
def tyX12 : Nat → FieldType := fun k => match k with
  | 0 => .array .int
  | 1 => .array .boolean
  | 2 => .int
  | 3 => .int
  | 4 => .int
  | 5 => .int
  | 6 => .int
  | 7 => .int
  | 8 => .boolean
  | 9 => .int
  | 10 => .array .int
  | 11 => .array .int
  | 12 => .int
  | 13 => .int
  | 14 => .int
  | 15 => .int
  | 16 => .int
  | 17 => .int
  | 18 => .array .int
  | 19 => .array .int
  | 20 => .array .boolean
  | 21 => .array .int
  | 22 => .array .int
  | 23 => .array .int
  | 24 => .array .int
  | 25 => .int
  | 26 => .int
  | 27 => .int
  | 28 => .array .int
  | 29 => .array .int
  | 30 => .array .int
  | 31 => .int
  | 32 => .int
  | 33 => .array .int
  | 34 => .array .int
  | 35 => .array .int
  | 36 => .int
  | 37 => .array .boolean
  | 38 => .int
  | 39 => .int
  | _ => .int
abbrev wsX120 : List Cond := u_ws RX12 TX12 41
theorem nmX12 : ∀ a, a < 41 → ∀ b, b < 41 → a ≠ b → (TX12 a).2.1 ≠ (TX12 b).2.1 := by decide +kernel
theorem tyX12_ok : ∀ k, k < 41 → parseFieldDescriptor (TX12 k).2.2.1 = some (tyX12 k) := by decide +kernel
abbrev cX12_init : ByteArray := prog_14_method_1_code
def yX12_init : MethodName := ⟨RX12, "<init>", "()V"⟩
abbrev cX12_isIn : ByteArray := prog_14_method_2_code
def yX12_isIn : MethodName := ⟨RX12, "isIn", "(III)Z"⟩
abbrev cX12_feed : ByteArray := prog_14_method_3_code
def yX12_feed : MethodName := ⟨RX12, "feed", "(IIIII)I"⟩
abbrev cX12_end : ByteArray := prog_14_method_4_code
def yX12_end : MethodName := ⟨RX12, "end", "(I)I"⟩
abbrev cX12_byteAt : ByteArray := prog_14_method_5_code
def yX12_byteAt : MethodName := ⟨RX12, "byteAt", "(I)I"⟩
abbrev cX12_isLetter : ByteArray := prog_14_method_6_code
def yX12_isLetter : MethodName := ⟨RX12, "isLetter", "(I)Z"⟩
abbrev cX12_isDigit : ByteArray := prog_14_method_7_code
def yX12_isDigit : MethodName := ⟨RX12, "isDigit", "(I)Z"⟩
abbrev cX12_four : ByteArray := prog_14_method_8_code
def yX12_four : MethodName := ⟨RX12, "four", "(IIII)J"⟩
abbrev cX12_eight : ByteArray := prog_14_method_9_code
def yX12_eight : MethodName := ⟨RX12, "eight", "(IIIIIIII)J"⟩
abbrev cX12_wordOf : ByteArray := prog_14_method_10_code
def yX12_wordOf : MethodName := ⟨RX12, "wordOf", "(J)I"⟩
abbrev cX12_advance : ByteArray := prog_14_method_11_code
def yX12_advance : MethodName := ⟨RX12, "advance", "()V"⟩
abbrev cX12_ends : ByteArray := prog_14_method_12_code
def yX12_ends : MethodName := ⟨RX12, "ends", "()V"⟩
abbrev cX12_also : ByteArray := prog_14_method_13_code
def yX12_also : MethodName := ⟨RX12, "also", "(II)V"⟩
abbrev cX12_numbered : ByteArray := prog_14_method_14_code
def yX12_numbered : MethodName := ⟨RX12, "numbered", "(II)I"⟩
abbrev cX12_wordIn : ByteArray := prog_14_method_15_code
def yX12_wordIn : MethodName := ⟨RX12, "wordIn", "(II)I"⟩
abbrev cX12_endsLine : ByteArray := prog_14_method_16_code
def yX12_endsLine : MethodName := ⟨RX12, "endsLine", "()V"⟩
abbrev cX12_rowTold : ByteArray := prog_14_method_17_code
def yX12_rowTold : MethodName := ⟨RX12, "rowTold", "(I)V"⟩
abbrev cX12_wordTold : ByteArray := prog_14_method_18_code
def yX12_wordTold : MethodName := ⟨RX12, "wordTold", "()I"⟩
abbrev cX12_wordLine : ByteArray := prog_14_method_19_code
def yX12_wordLine : MethodName := ⟨RX12, "wordLine", "(I)V"⟩
abbrev cX12_hillLine : ByteArray := prog_14_method_20_code
def yX12_hillLine : MethodName := ⟨RX12, "hillLine", "()V"⟩
abbrev cX12_centuryLine : ByteArray := prog_14_method_21_code
def yX12_centuryLine : MethodName := ⟨RX12, "centuryLine", "()V"⟩
abbrev cX12_linesLine : ByteArray := prog_14_method_22_code
def yX12_linesLine : MethodName := ⟨RX12, "linesLine", "()V"⟩
abbrev cX12_logLine : ByteArray := prog_14_method_23_code
def yX12_logLine : MethodName := ⟨RX12, "logLine", "()V"⟩
abbrev cX12_isTwice : ByteArray := prog_14_method_24_code
def yX12_isTwice : MethodName := ⟨RX12, "isTwice", "()Z"⟩
abbrev cX12_placeOf : ByteArray := prog_14_method_25_code
def yX12_placeOf : MethodName := ⟨RX12, "placeOf", "(II)I"⟩
abbrev cX12_sizeOf : ByteArray := prog_14_method_26_code
def yX12_sizeOf : MethodName := ⟨RX12, "sizeOf", "(I)I"⟩
abbrev cX12_isOf : ByteArray := prog_14_method_27_code
def yX12_isOf : MethodName := ⟨RX12, "isOf", "(II)Z"⟩
abbrev cX12_text : ByteArray := prog_14_method_28_code
def yX12_text : MethodName := ⟨RX12, "text", "(II)I"⟩
abbrev cX12_fault : ByteArray := prog_14_method_29_code
def yX12_fault : MethodName := ⟨RX12, "fault", "(I)I"⟩
abbrev cX12_isHill : ByteArray := prog_14_method_30_code
def yX12_isHill : MethodName := ⟨RX12, "isHill", "(I)Z"⟩
abbrev cX12_isWord : ByteArray := prog_14_method_31_code
def yX12_isWord : MethodName := ⟨RX12, "isWord", "(I)Z"⟩
abbrev cX12_isStone : ByteArray := prog_14_method_32_code
def yX12_isStone : MethodName := ⟨RX12, "isStone", "(I)Z"⟩
abbrev cX12_longOf : ByteArray := prog_14_method_33_code
def yX12_longOf : MethodName := ⟨RX12, "longOf", "(I)I"⟩
abbrev cX12_oftenOf : ByteArray := prog_14_method_34_code
def yX12_oftenOf : MethodName := ⟨RX12, "oftenOf", "(I)I"⟩
abbrev cX12_letterOf : ByteArray := prog_14_method_35_code
def yX12_letterOf : MethodName := ⟨RX12, "letterOf", "(II)I"⟩
abbrev cX12_everyWord : ByteArray := prog_14_method_36_code
def yX12_everyWord : MethodName := ⟨RX12, "everyWord", "()I"⟩
abbrev cX12_behind : ByteArray := prog_14_method_37_code
def yX12_behind : MethodName := ⟨RX12, "behind", "(I)I"⟩
abbrev cX12_answersTo : ByteArray := prog_14_method_38_code
def yX12_answersTo : MethodName := ⟨RX12, "answersTo", "(I)I"⟩
abbrev cX12_holds : ByteArray := prog_14_method_39_code
def yX12_holds : MethodName := ⟨RX12, "holds", "(II)Z"⟩
abbrev cX12_bitsOf : ByteArray := prog_14_method_40_code
def yX12_bitsOf : MethodName := ⟨RX12, "bitsOf", "(I)I"⟩
abbrev cX12_hill : ByteArray := prog_14_method_41_code
def yX12_hill : MethodName := ⟨RX12, "hill", "(II)I"⟩
abbrev cX12_isCentury : ByteArray := prog_14_method_42_code
def yX12_isCentury : MethodName := ⟨RX12, "isCentury", "(I)Z"⟩
abbrev cX12_deed : ByteArray := prog_14_method_43_code
def yX12_deed : MethodName := ⟨RX12, "deed", "(III)I"⟩
abbrev cX12_begins : ByteArray := prog_14_method_44_code
def yX12_begins : MethodName := ⟨RX12, "begins", "()V"⟩
abbrev cX12_begins0 : ByteArray := prog_14_method_45_code
def yX12_begins0 : MethodName := ⟨RX12, "begins0", "(II)Z"⟩
abbrev cX12_fitting : ByteArray := prog_14_method_46_code
def yX12_fitting : MethodName := ⟨RX12, "fitting", "(I)I"⟩
abbrev cX12_puts : ByteArray := prog_14_method_47_code
def yX12_puts : MethodName := ⟨RX12, "puts", "(IIIZ)V"⟩
abbrev cX12_freezes : ByteArray := prog_14_method_48_code
def yX12_freezes : MethodName := ⟨RX12, "freezes", "(II)Z"⟩
abbrev cX12_tells : ByteArray := prog_14_method_49_code
def yX12_tells : MethodName := ⟨RX12, "tells", "(I)Z"⟩
abbrev cX12_does : ByteArray := prog_14_method_50_code
def yX12_does : MethodName := ⟨RX12, "does", "(III)Z"⟩
abbrev cX12_runs : ByteArray := prog_14_method_51_code
def yX12_runs : MethodName := ⟨RX12, "runs", "(I)V"⟩
abbrev cX12_stop : ByteArray := prog_14_method_52_code
def yX12_stop : MethodName := ⟨RX12, "stop", "(II)I"⟩
abbrev cX12_feignedOn : ByteArray := prog_14_method_53_code
def yX12_feignedOn : MethodName := ⟨RX12, "feignedOn", "(I)I"⟩
abbrev cX12_nowOf : ByteArray := prog_14_method_54_code
def yX12_nowOf : MethodName := ⟨RX12, "nowOf", "(I)I"⟩
abbrev cX12_state : ByteArray := prog_14_method_55_code
def yX12_state : MethodName := ⟨RX12, "state", "(IIII)I"⟩
abbrev cX12_after : ByteArray := prog_14_method_56_code
def yX12_after : MethodName := ⟨RX12, "after", "(III)I"⟩
abbrev cX12_isLine : ByteArray := prog_14_method_57_code
def yX12_isLine : MethodName := ⟨RX12, "isLine", "(II)Z"⟩
abbrev cX12_inLine : ByteArray := prog_14_method_58_code
def yX12_inLine : MethodName := ⟨RX12, "inLine", "(I)I"⟩
abbrev cX12_line : ByteArray := prog_14_method_59_code
def yX12_line : MethodName := ⟨RX12, "line", "(III)I"⟩
abbrev cX12_saidOf : ByteArray := prog_14_method_60_code
def yX12_saidOf : MethodName := ⟨RX12, "saidOf", "()I"⟩
abbrev cX12_oftenIn : ByteArray := prog_14_method_61_code
def yX12_oftenIn : MethodName := ⟨RX12, "oftenIn", "(I)I"⟩
abbrev cX12_said : ByteArray := prog_14_method_62_code
def yX12_said : MethodName := ⟨RX12, "said", "(IIII)I"⟩
abbrev cX12_common : ByteArray := prog_14_method_63_code
def yX12_common : MethodName := ⟨RX12, "common", "(JJ)J"⟩
abbrev cX12_least : ByteArray := prog_14_method_64_code
def yX12_least : MethodName := ⟨RX12, "least", "(JJZ)J"⟩
abbrev cX12_odds : ByteArray := prog_14_method_65_code
def yX12_odds : MethodName := ⟨RX12, "odds", "(IIIIZ)J"⟩
abbrev cX12_alikeOf : ByteArray := prog_14_method_66_code
def yX12_alikeOf : MethodName := ⟨RX12, "alikeOf", "(II)I"⟩
abbrev cX12_sureIn : ByteArray := prog_14_method_67_code
def yX12_sureIn : MethodName := ⟨RX12, "sureIn", "(II)I"⟩
abbrev cX12_sure : ByteArray := prog_14_method_68_code
def yX12_sure : MethodName := ⟨RX12, "sure", "(IIIZ)J"⟩
abbrev cX12_asked : ByteArray := prog_14_method_69_code
def yX12_asked : MethodName := ⟨RX12, "asked", "(IIZ)J"⟩
abbrev cX12_soonest : ByteArray := prog_14_method_70_code
def yX12_soonest : MethodName := ⟨RX12, "soonest", "(I)I"⟩
abbrev cX12_unlike : ByteArray := prog_14_method_71_code
def yX12_unlike : MethodName := ⟨RX12, "unlike", "(II)I"⟩
abbrev cX12_laysReadings : ByteArray := prog_14_method_72_code
def yX12_laysReadings : MethodName := ⟨RX12, "laysReadings", "()V"⟩
abbrev cX12_reading : ByteArray := prog_14_method_73_code
def yX12_reading : MethodName := ⟨RX12, "reading", "(IIII)I"⟩
abbrev cX12_mendedOf : ByteArray := prog_14_method_74_code
def yX12_mendedOf : MethodName := ⟨RX12, "mendedOf", "()I"⟩
abbrev cX12_next : ByteArray := prog_14_method_75_code
def yX12_next : MethodName := ⟨RX12, "next", "(IIII)I"⟩
abbrev cX12_takesWord : ByteArray := prog_14_method_76_code
def yX12_takesWord : MethodName := ⟨RX12, "takesWord", "(IZ)V"⟩
abbrev cX12_changesOf : ByteArray := prog_14_method_77_code
def yX12_changesOf : MethodName := ⟨RX12, "changesOf", "()I"⟩
abbrev cX12_slips : ByteArray := prog_14_method_78_code
def yX12_slips : MethodName := ⟨RX12, "slips", "(IIII)I"⟩
abbrev cX12_echo : ByteArray := prog_14_method_79_code
def yX12_echo : MethodName := ⟨RX12, "echo", "(IIIZ)I"⟩
abbrev cX12_apartOf : ByteArray := prog_14_method_80_code
def yX12_apartOf : MethodName := ⟨RX12, "apartOf", "(II)I"⟩
abbrev cX12_alike : ByteArray := prog_14_method_81_code
def yX12_alike : MethodName := ⟨RX12, "alike", "(IIIZ)I"⟩
abbrev cX12_closestOf : ByteArray := prog_14_method_82_code
def yX12_closestOf : MethodName := ⟨RX12, "closestOf", "()I"⟩
abbrev cX12_treeOf : ByteArray := prog_14_method_83_code
def yX12_treeOf : MethodName := ⟨RX12, "treeOf", "()I"⟩
abbrev cX12_isBeginning : ByteArray := prog_14_method_84_code
def yX12_isBeginning : MethodName := ⟨RX12, "isBeginning", "(II)Z"⟩
abbrev cX12_withinOf : ByteArray := prog_14_method_85_code
def yX12_withinOf : MethodName := ⟨RX12, "withinOf", "(I)I"⟩
abbrev cX12_leadsOf : ByteArray := prog_14_method_86_code
def yX12_leadsOf : MethodName := ⟨RX12, "leadsOf", "(I)I"⟩
abbrev cX12_tree : ByteArray := prog_14_method_87_code
def yX12_tree : MethodName := ⟨RX12, "tree", "(II)I"⟩
abbrev cX12_bestBehind : ByteArray := prog_14_method_88_code
def yX12_bestBehind : MethodName := ⟨RX12, "bestBehind", "(II)I"⟩
abbrev cX12_chain : ByteArray := prog_14_method_89_code
def yX12_chain : MethodName := ⟨RX12, "chain", "(II)I"⟩
abbrev cX12_sentences : ByteArray := prog_14_method_90_code
def yX12_sentences : MethodName := ⟨RX12, "sentences", "(II)I"⟩
abbrev cX12_goesOn : ByteArray := prog_14_method_91_code
def yX12_goesOn : MethodName := ⟨RX12, "goesOn", "(II)Z"⟩
abbrev cX12_twice : ByteArray := prog_14_method_92_code
def yX12_twice : MethodName := ⟨RX12, "twice", "(I)I"⟩
abbrev cX12_isWhole : ByteArray := prog_14_method_93_code
def yX12_isWhole : MethodName := ⟨RX12, "isWhole", "(II)Z"⟩
abbrev cX12_isWon : ByteArray := prog_14_method_94_code
def yX12_isWon : MethodName := ⟨RX12, "isWon", "(II)Z"⟩
abbrev cX12_ghost : ByteArray := prog_14_method_95_code
def yX12_ghost : MethodName := ⟨RX12, "ghost", "(IZ)I"⟩
abbrev cX12_isLog : ByteArray := prog_14_method_96_code
def yX12_isLog : MethodName := ⟨RX12, "isLog", "(I)Z"⟩
abbrev cX12_fact : ByteArray := prog_14_method_97_code
def yX12_fact : MethodName := ⟨RX12, "fact", "(III)I"⟩
abbrev cX12_digit : ByteArray := prog_14_method_98_code
def yX12_digit : MethodName := ⟨RX12, "digit", "(II)I"⟩
abbrev cX12_isSo : ByteArray := prog_14_method_99_code
def yX12_isSo : MethodName := ⟨RX12, "isSo", "(II)Z"⟩
abbrev cX12_isRule : ByteArray := prog_14_method_100_code
def yX12_isRule : MethodName := ⟨RX12, "isRule", "(I)Z"⟩
abbrev cX12_notSo : ByteArray := prog_14_method_101_code
def yX12_notSo : MethodName := ⟨RX12, "notSo", "(I)I"⟩
abbrev cX12_placesNotSo : ByteArray := prog_14_method_102_code
def yX12_placesNotSo : MethodName := ⟨RX12, "placesNotSo", "(I)I"⟩
abbrev cX12_fewest : ByteArray := prog_14_method_103_code
def yX12_fewest : MethodName := ⟨RX12, "fewest", "()I"⟩
abbrev cX12_forged : ByteArray := prog_14_method_104_code
def yX12_forged : MethodName := ⟨RX12, "forged", "(II)I"⟩
abbrev cX12_age : ByteArray := prog_14_method_105_code
def yX12_age : MethodName := ⟨RX12, "age", "(IZ)I"⟩
abbrev cX12_power : ByteArray := prog_14_method_106_code
def yX12_power : MethodName := ⟨RX12, "power", "(JI)J"⟩
abbrev cX12_chance : ByteArray := prog_14_method_107_code
def yX12_chance : MethodName := ⟨RX12, "chance", "(IIIZ)J"⟩
abbrev cX12_waits : ByteArray := prog_14_method_108_code
def yX12_waits : MethodName := ⟨RX12, "waits", "(IIZ)J"⟩
abbrev cX12_below : ByteArray := prog_14_method_109_code
def yX12_below : MethodName := ⟨RX12, "below", "(I)I"⟩
abbrev cX12_draws : ByteArray := prog_14_method_110_code
def yX12_draws : MethodName := ⟨RX12, "draws", "()V"⟩
abbrev cX12_drawn : ByteArray := prog_14_method_111_code
def yX12_drawn : MethodName := ⟨RX12, "drawn", "(IIII)I"⟩
abbrev cX12_count : ByteArray := prog_14_method_112_code
def yX12_count : MethodName := ⟨RX12, "count", "(I)I"⟩
abbrev cX12_image : ByteArray := prog_14_method_113_code
def yX12_image : MethodName := ⟨RX12, "image", "(I)Z"⟩
abbrev cX12_again : ByteArray := prog_14_method_114_code
def yX12_again : MethodName := ⟨RX12, "again", "(I)Z"⟩
def RL : String := "FrostRepliesLaw"
abbrev cL_law : ByteArray := code
def yL_law : MethodName := ⟨RL, "law", "([I)Z"⟩
abbrev vwCl : List vw_C := [(RX0, TX0, 4), (RX1, TX1, 5), (RX2, TX2, 11), (RX3, TX3, 9), (RX4, TX4, 3), (RX5, TX5, 3), (RX6, TX6, 16), (RX7, TX7, 6), (RX8, TX8, 7), (RX9, TX9, 9), (RX10, TX10, 4), (RX11, TX11, 7), (RX12, TX12, 41)]
end
section
/-! ===== the abstract heap, calls and places inside methods ===== -/
/-- words of the tables that are carried from state to state -/
def zGood : Cond → Bool
  | .methodLinkNest .. => true
  | .arrayClass _ => true
  | w => w.onTables && w.keeps
def zGW : List Cond := lw_tbl.filter zGood
theorem z_mem {w : Cond} (h : w ∈ lw_tbl) (hg : zGood w = true) : w ∈ zGW := List.mem_filter.mpr ⟨h, hg⟩
theorem z_t1 {w : Cond} (h : w ∈ tables_1) : w ∈ lw_tbl := List.mem_append_right _ h
theorem z_tA {w : Cond} (h : w ∈ tables_1_1) : w ∈ lw_tbl := z_t1 (List.mem_append_left _ h)
theorem z_tB {w : Cond} (h : w ∈ tables_1_2) : w ∈ lw_tbl := z_t1 (List.mem_append_right _ (List.mem_append_left _ h))
theorem z_tC {w : Cond} (h : w ∈ tables_1_3) : w ∈ lw_tbl := z_t1 (List.mem_append_right _ (List.mem_append_right _ (List.mem_append_left _ h)))
theorem z_tD {w : Cond} (h : w ∈ tables_1_4) : w ∈ lw_tbl := z_t1 (List.mem_append_right _ (List.mem_append_right _ (List.mem_append_right _ (List.mem_append_left _ h))))
theorem z_tE {w : Cond} (h : w ∈ tables_1_5) : w ∈ lw_tbl := z_t1 (List.mem_append_right _ (List.mem_append_right _ (List.mem_append_right _ (List.mem_append_right _ (List.mem_append_left _ h)))))
theorem z_tF {w : Cond} (h : w ∈ tables_1_6) : w ∈ lw_tbl := z_t1 (List.mem_append_right _ (List.mem_append_right _ (List.mem_append_right _ (List.mem_append_right _ (List.mem_append_right _ (List.mem_append_left _ h))))))
theorem z_tG {w : Cond} (h : w ∈ tables_1_7) : w ∈ lw_tbl := z_t1 (List.mem_append_right _ (List.mem_append_right _ (List.mem_append_right _ (List.mem_append_right _ (List.mem_append_right _ (List.mem_append_right _ (List.mem_append_left _ h)))))))
theorem z_tH {w : Cond} (h : w ∈ tables_1_8) : w ∈ lw_tbl := z_t1 (List.mem_append_right _ (List.mem_append_right _ (List.mem_append_right _ (List.mem_append_right _ (List.mem_append_right _ (List.mem_append_right _ (List.mem_append_right _ h)))))))
theorem z_tS {w : Cond} (h : w ∈ k2_sels lw_privs) : w ∈ lw_tbl := List.mem_append_left _ h
theorem z_sub {w : Cond} (h : w ∈ zGW) : w ∈ lw_tbl := (List.mem_filter.mp h).1
/-- a word at a state, whatever the arguments -/
def zw (w : Cond) (U : State) : Prop := ∀ A : Array Value, w.before A U = true
theorem zw_calling {w : Cond} {U : State} {g : JFrame} {mk : MethodId} {a : Array Value} (hg : zGood w = true) (h : zw w U) : zw w (U.calling g mk a) := by
  intro A
  cases w <;> first | exact va_tabs rfl (rfl : U.vm = (U.calling g mk a).vm) (h A) | (simp [zGood, Cond.onTables, Cond.keeps, Cond.steady] at hg; done) | exact h A
theorem zw_warm {w : Cond} {s U : State} (hW : s.WarmedH U.vm) (hg : zGood w = true) (h : zw w s) : zw w U := by
  intro A
  cases w <;> first | exact word_at hW (Or.inl hg) (h #[]) | exact word_at hW (Or.inr ⟨_, rfl⟩) (h #[]) | exact va_Nw.use rfl (va_Nw.warmM hW (h #[]))
end
section
/-! ===== the abstract heap: shape (size, kind by address, length by address), ints by address and place, references by address and place ===== -/
abbrev zG : Type := Nat × (Nat → Nat) × (Nat → Nat)
abbrev zH : Type := zG × (Nat → Nat → Int32) × (Nat → Nat → Option Nat)
def zU {α : Type} (f : Nat → Nat → α) (a k : Nat) (x : α) : Nat → Nat → α := fun b j => if b = a then (if j = k then x else f b j) else f b j
def zRn (c : Nat) : String := match c with
  | 0 => RX0 | 1 => RX1 | 2 => RX2 | 3 => RX3 | 4 => RX4 | 5 => RX5 | 6 => RX6 | 7 => RX7 | 8 => RX8 | 9 => RX9 | 10 => RX10 | 11 => RX11 | _ => RX12
def zTb (c : Nat) : u_T := match c with
  | 0 => TX0 | 1 => TX1 | 2 => TX2 | 3 => TX3 | 4 => TX4 | 5 => TX5 | 6 => TX6 | 7 => TX7 | 8 => TX8 | 9 => TX9 | 10 => TX10 | 11 => TX11 | _ => TX12
def zTyF (c : Nat) : Nat → FieldType := match c with
  | 0 => tyX0 | 1 => tyX1 | 2 => tyX2 | 3 => tyX3 | 4 => tyX4 | 5 => tyX5 | 6 => tyX6 | 7 => tyX7 | 8 => tyX8 | 9 => tyX9 | 10 => tyX10 | 11 => tyX11 | _ => tyX12
def zN (c : Nat) : Nat := match c with
  | 0 => 4 | 1 => 5 | 2 => 11 | 3 => 9 | 4 => 3 | 5 => 3 | 6 => 16 | 7 => 6 | 8 => 7 | 9 => 9 | 10 => 4 | 11 => 7 | _ => 41
def zRef (c k : Nat) : Bool := match zTyF c k with
  | .object _ => true
  | .array _ => true
  | _ => false
def zTy (t : Nat) : FieldType := match t with
  | 13 => .int | 14 => .boolean | 15 => .object RX0 | 16 => .object RX3 | 17 => .object RX4 | 18 => .object RX5 | _ => .object RX9
def zTys (dT : Nat → ClassId) : List (ClassId × FieldType) := [(dT 13, zTy 13), (dT 14, zTy 14), (dT 15, zTy 15), (dT 16, zTy 16), (dT 17, zTy 17), (dT 18, zTy 18), (dT 19, zTy 19)]
theorem zTys_at (dT : Nat → ClassId) {t : Nat} (h1 : 13 ≤ t) (h2 : t < 20) : (zTys dT)[t - 13]? = some (dT t, zTy t) := by
  rcases (show t = 13 ∨ t = 14 ∨ t = 15 ∨ t = 16 ∨ t = 17 ∨ t = 18 ∨ t = 19 by omega) with rfl | rfl | rfl | rfl | rfl | rfl | rfl <;> rfl
theorem z_c13 {P : Nat → Prop} (h : P 0 ∧ P 1 ∧ P 2 ∧ P 3 ∧ P 4 ∧ P 5 ∧ P 6 ∧ P 7 ∧ P 8 ∧ P 9 ∧ P 10 ∧ P 11 ∧ P 12) {c : Nat} (hc : c < 13) : P c := by
  obtain ⟨a0, a1, a2, a3, a4, a5, a6, a7, a8, a9, a10, a11, a12⟩ := h
  rcases (show c = 0 ∨ c = 1 ∨ c = 2 ∨ c = 3 ∨ c = 4 ∨ c = 5 ∨ c = 6 ∨ c = 7 ∨ c = 8 ∨ c = 9 ∨ c = 10 ∨ c = 11 ∨ c = 12 by omega) with rfl | rfl | rfl | rfl | rfl | rfl | rfl | rfl | rfl | rfl | rfl | rfl | rfl <;> assumption
theorem zCl_at {c : Nat} (hc : c < 13) : vwCl[c]? = some (zRn c, zTb c, zN c) := z_c13 (P := fun c => vwCl[c]? = some (zRn c, zTb c, zN c)) ⟨rfl, rfl, rfl, rfl, rfl, rfl, rfl, rfl, rfl, rfl, rfl, rfl, rfl⟩ hc
theorem zTyF_ok {c : Nat} (hc : c < 13) : ∀ k, k < zN c → parseFieldDescriptor (zTb c k).2.2.1 = some (zTyF c k) := z_c13 (P := fun c => ∀ k, k < zN c → parseFieldDescriptor (zTb c k).2.2.1 = some (zTyF c k)) ⟨tyX0_ok, tyX1_ok, tyX2_ok, tyX3_ok, tyX4_ok, tyX5_ok, tyX6_ok, tyX7_ok, tyX8_ok, tyX9_ok, tyX10_ok, tyX11_ok, tyX12_ok⟩ hc
theorem zNm_ok {c : Nat} (hc : c < 13) : ∀ a, a < zN c → ∀ b, b < zN c → a ≠ b → (zTb c a).2.1 ≠ (zTb c b).2.1 := z_c13 (P := fun c => ∀ a, a < zN c → ∀ b, b < zN c → a ≠ b → (zTb c a).2.1 ≠ (zTb c b).2.1) ⟨nmX0, nmX1, nmX2, nmX3, nmX4, nmX5, nmX6, nmX7, nmX8, nmX9, nmX10, nmX11, nmX12⟩ hc
theorem zOwn_ok {c : Nat} (hc : c < 13) : ∀ k, k < zN c → (zTb c k).1 = zRn c := z_c13 (P := fun c => ∀ k, k < zN c → (zTb c k).1 = zRn c) ⟨by decide +kernel, by decide +kernel, by decide +kernel, by decide +kernel, by decide +kernel, by decide +kernel, by decide +kernel, by decide +kernel, by decide +kernel, by decide +kernel, by decide +kernel, by decide +kernel, by decide +kernel⟩ hc
theorem zWs_ok {c : Nat} (hc : c < 13) : ∀ w ∈ u_ws (zRn c) (zTb c) (zN c), w ∈ lw_tbl := z_c13 (P := fun c => ∀ w ∈ u_ws (zRn c) (zTb c) (zN c), w ∈ lw_tbl) ⟨by decide +kernel, by decide +kernel, by decide +kernel, by decide +kernel, by decide +kernel, by decide +kernel, by decide +kernel, by decide +kernel, by decide +kernel, by decide +kernel, by decide +kernel, by decide +kernel, by decide +kernel⟩ hc
theorem zWs_good {c : Nat} (hc : c < 13) : ∀ w ∈ u_ws (zRn c) (zTb c) (zN c), zGood w = true := z_c13 (P := fun c => ∀ w ∈ u_ws (zRn c) (zTb c) (zN c), zGood w = true) ⟨by decide +kernel, by decide +kernel, by decide +kernel, by decide +kernel, by decide +kernel, by decide +kernel, by decide +kernel, by decide +kernel, by decide +kernel, by decide +kernel, by decide +kernel, by decide +kernel, by decide +kernel⟩ hc
theorem zWs_in {c : Nat} (hc : c < 13) : ∀ w ∈ u_ws (zRn c) (zTb c) (zN c), w ∈ zGW := fun w h => z_mem (zWs_ok hc w h) (zWs_good hc w h)
/-- the fields of the object at i -/
def zFs (b : Nat) (h : zH) (i : Nat) : List Value := (List.range (zN (h.1.2.1 i))).map (fun k => if zRef (h.1.2.1 i) k = true then va_rf ((h.2.2 i k).map (fun j => b + j)) else .int (h.2.1 i k))
def zE (dT : Nat → ClassId) (b : Nat) (h : zH) (i : Nat) : va_E :=
  if h.1.2.1 i < 13 then .inr (h.1.2.1 i, zFs b h i)
  else if h.1.2.1 i < 15 then .inl (dT (h.1.2.1 i), h.1.2.2 i, .inl (h.2.1 i))
  else .inl (dT (h.1.2.1 i), h.1.2.2 i, .inr (.inr (.inr (.inr (fun k => (h.2.2 i k).map (fun j => b + j))))))
def zWs (dT : Nat → ClassId) (b : Nat) (h : zH) : va_W := (List.range h.1.1).map (fun i => (b + i, zE dT b h i))
theorem zWs_at {dT : Nat → ClassId} {b : Nat} {h : zH} {i : Nat} (hi : i < h.1.1) : (zWs dT b h)[i]? = some (b + i, zE dT b h i) := by
  simp [zWs, hi]
theorem zWs_D (dT : Nat → ClassId) (b : Nat) (h : zH) : va_D (fun q => b ≤ q) (zWs dT b h) := by
  refine ⟨fun i j p q hp hq e => ?_, fun k q hq => ?_⟩
  · simp only [zWs, List.getElem?_map, Option.map_eq_some_iff] at hp hq
    obtain ⟨x, hx, rfl⟩ := hp
    obtain ⟨y, hy, rfl⟩ := hq
    have h1 := List.getElem?_eq_some_iff.mp hx
    have h2 := List.getElem?_eq_some_iff.mp hy
    obtain ⟨_, h1⟩ := h1
    obtain ⟨_, h2⟩ := h2
    simp at h1 h2 e
    omega
  · simp only [zWs, List.getElem?_map, Option.map_eq_some_iff] at hq
    obtain ⟨x, hx, rfl⟩ := hq
    simp
theorem z_map_set {α : Type} (f g : Nat → α) (n a : Nat) (e : α) (he : g a = e) (hn : ∀ i, i ≠ a → g i = f i) : ((List.range n).map f).set a e = (List.range n).map g := by
  apply List.ext_getElem?
  intro i
  rw [List.getElem?_set]
  by_cases hi : a = i
  · subst hi
    by_cases ha : a < n
    · simp [ha, he]
    · simp [ha]
  · have : i ≠ a := fun q => hi q.symm
    simp only [hi, if_false, List.getElem?_map]
    cases hr : (List.range n)[i]? with
    | none => rfl
    | some x =>
      have h2 := (List.getElem?_eq_some_iff.mp hr)
      obtain ⟨_, h2⟩ := h2
      simp at h2
      subst h2
      simp [hn i this]
theorem zU_s {α : Type} (f : Nat → Nat → α) (a k : Nat) (x : α) : zU f a k x a k = x := by simp [zU]
theorem zU_a {α : Type} (f : Nat → Nat → α) {a k b j : Nat} (x : α) (h : b ≠ a) : zU f a k x b j = f b j := by simp [zU, h]
theorem zU_k {α : Type} (f : Nat → Nat → α) {a k b j : Nat} (x : α) (h : j ≠ k) : zU f a k x b j = f b j := by simp [zU, h]
theorem zE_I_ne {dT : Nat → ClassId} {b : Nat} {g : zG} {I : Nat → Nat → Int32} {P : Nat → Nat → Option Nat} {a k : Nat} {x : Int32} {i : Nat} (h : i ≠ a) : zE dT b (g, zU I a k x, P) i = zE dT b (g, I, P) i := by
  have e : zU I a k x i = I i := by funext j; exact zU_a I x h
  simp only [zE, zFs, e]
theorem zE_P_ne {dT : Nat → ClassId} {b : Nat} {g : zG} {I : Nat → Nat → Int32} {P : Nat → Nat → Option Nat} {a k : Nat} {x : Option Nat} {i : Nat} (h : i ≠ a) : zE dT b (g, I, zU P a k x) i = zE dT b (g, I, P) i := by
  have e : zU P a k x i = P i := by funext j; exact zU_a P x h
  simp only [zE, zFs, e]
theorem zFs_I {b : Nat} {g : zG} {I : Nat → Nat → Int32} {P : Nat → Nat → Option Nat} {a k : Nat} {x : Int32} (hr : zRef (g.2.1 a) k = false) : (zFs b (g, I, P) a).set k (.int x) = zFs b (g, zU I a k x, P) a := by
  refine z_map_set _ _ _ _ _ ?_ ?_
  · simp [hr, zU]
  · intro i hi
    simp [zU, hi]
theorem zFs_P {b : Nat} {g : zG} {I : Nat → Nat → Int32} {P : Nat → Nat → Option Nat} {a k : Nat} {x : Option Nat} (hr : zRef (g.2.1 a) k = true) : (zFs b (g, I, P) a).set k (va_rf (x.map (fun j => b + j))) = zFs b (g, I, zU P a k x) a := by
  refine z_map_set _ _ _ _ _ ?_ ?_
  · simp [hr, zU]
  · intro i hi
    simp [zU, hi]
theorem zWs_setFI {dT : Nat → ClassId} {b : Nat} {g : zG} {I : Nat → Nat → Int32} {P : Nat → Nat → Option Nat} {a c k : Nat} {x : Int32} (hc : g.2.1 a = c) (h13 : c < 13) (hr : zRef c k = false) : (zWs dT b (g, I, P)).set a (b + a, .inr (c, (zFs b (g, I, P) a).set k (.int x))) = zWs dT b (g, zU I a k x, P) := by
  subst hc
  refine z_map_set _ _ _ _ _ ?_ ?_
  · rw [zFs_I hr]
    simp [zE, h13]
  · intro i hi
    rw [zE_I_ne hi]
theorem zWs_setFP {dT : Nat → ClassId} {b : Nat} {g : zG} {I : Nat → Nat → Int32} {P : Nat → Nat → Option Nat} {a c k : Nat} {x : Option Nat} (hc : g.2.1 a = c) (h13 : c < 13) (hr : zRef c k = true) : (zWs dT b (g, I, P)).set a (b + a, .inr (c, (zFs b (g, I, P) a).set k (va_rf (x.map (fun j => b + j))))) = zWs dT b (g, I, zU P a k x) := by
  subst hc
  refine z_map_set _ _ _ _ _ ?_ ?_
  · rw [zFs_P hr]
    simp [zE, h13]
  · intro i hi
    rw [zE_P_ne hi]
theorem zWs_setAI {dT : Nat → ClassId} {b : Nat} {g : zG} {I : Nat → Nat → Int32} {P : Nat → Nat → Option Nat} {a c k : Nat} {x : Int32} (hc : g.2.1 a = c) (h13 : 13 ≤ c) (h15 : c < 15) : (zWs dT b (g, I, P)).set a (b + a, .inl (dT c, g.2.2 a, .inl (upd (I a) k x))) = zWs dT b (g, zU I a k x, P) := by
  subst hc
  refine z_map_set _ _ _ _ _ ?_ ?_
  · have e : zU I a k x a = upd (I a) k x := by funext j; simp [zU, upd]
    simp [zE, Nat.not_lt.mpr h13, h15, e]
  · intro i hi
    rw [zE_I_ne hi]
theorem zWs_setAP {dT : Nat → ClassId} {b : Nat} {g : zG} {I : Nat → Nat → Int32} {P : Nat → Nat → Option Nat} {a c k v : Nat} (hc : g.2.1 a = c) (h15 : 15 ≤ c) : (zWs dT b (g, I, P)).set a (b + a, .inl (dT c, g.2.2 a, .inr (.inr (.inr (.inr (va_up (fun j => (P a j).map (fun j => b + j)) k (some (b + v)))))))) = zWs dT b (g, I, zU P a k (some v)) := by
  subst hc
  refine z_map_set _ _ _ _ _ ?_ ?_
  · have e : (fun j => (zU P a k (some v) a j).map (fun j => b + j)) = va_up (fun j => (P a j).map (fun j => b + j)) k (some (b + v)) := by
      funext j
      by_cases hj : j = k <;> simp [zU, va_up, hj]
    have h1 : ¬ g.2.1 a < 13 := by omega
    have h2 : ¬ g.2.1 a < 15 := by omega
    simp only [zE, h1, h2, if_false, e]
  · intro i hi
    rw [zE_P_ne hi]
/-- a cell more: kind c, length n, zeros and nulls -/
def zNew (h : zH) (c n : Nat) : zH := ((h.1.1 + 1, (fun i => if i = h.1.1 then c else h.1.2.1 i), (fun i => if i = h.1.1 then n else h.1.2.2 i)), (fun i k => if i = h.1.1 then 0 else h.2.1 i k), (fun i k => if i = h.1.1 then none else h.2.2 i k))
theorem zE_new_old {dT : Nat → ClassId} {b : Nat} {h : zH} {c n i : Nat} (hi : i < h.1.1) : zE dT b (zNew h c n) i = zE dT b h i := by
  have : ¬ i = h.1.1 := by omega
  simp only [zE, zFs, zNew, this, if_false]
theorem zWs_new {dT : Nat → ClassId} {b : Nat} {h : zH} {c n : Nat} {e : va_E} (he : e = zE dT b (zNew h c n) h.1.1) : zWs dT b h ++ [(b + h.1.1, e)] = zWs dT b (zNew h c n) := by
  have h1 : (zNew h c n).1.1 = h.1.1 + 1 := rfl
  simp only [zWs, h1, List.range_succ, List.map_append, List.map_cons, List.map_nil, ← he]
  congr 1
  apply List.map_congr_left
  intro i hi
  rw [zE_new_old (List.mem_range.mp hi)]
end
section
/-! ===== a call (Cl) and a place inside a method (Zt); one rule an instruction ===== -/
/-- a method: name, code, max locals, return type; depth, cells and slots that it may make -/
abbrev zM : Type := MethodName × ByteArray × Nat × Option FieldType × Nat × Nat × Nat
def zr (b : Nat) (ak : Nat → Option Nat) : Value → Value
  | .ref i => .ref (b + i)
  | .retAddr j => va_rf (ak j)
  | v => v
theorem zr_cat (b : Nat) (ak : Nat → Option Nat) (v : Value) : (zr b ak v).category = v.category := by
  cases v <;> first | rfl | (rename_i j; show (va_rf (ak j)).category = _; cases ak j <;> rfl)
def zrv : Value → Bool
  | .ref _ => true
  | .retAddr _ => true
  | .null => true
  | _ => false
def zrn : Value → Bool
  | .ref _ => true
  | .null => true
  | _ => false
def zLen : List Nat := [4, 7, 4, 6, 5, 5, 4, 4, 5, 4, 5]
def zByt : List (List Int32) := [[119, 111, 114, 100], [102, 111, 108, 108, 111, 119, 115], [97, 115, 107, 115], [115, 116, 111, 110, 101, 115], [102, 114, 111, 115, 116], [102, 111, 114, 103, 101], [109, 111, 115, 115], [99, 104, 105, 112], [115, 112, 108, 105, 116], [108, 105, 110, 101], [100, 101, 112, 116, 104]]
def zTx : List (Nat × String) := [(143, "word"), (145, "follows"), (147, "asks"), (149, "stones"), (157, "frost"), (159, "forge"), (161, "moss"), (163, "chip"), (165, "split"), (135, "line"), (141, "depth")]
/-- the String constants, by their numbers, and the static that String's methods read -/
def zS (b : Nat) (ak : Nat → Option Nat) (av : Nat → Nat) (U : State) : Prop :=
  vk_S 11 zLen zByt av (fun j => av (100 + j)) (fun q => b ≤ q) U U.heap ∧ (∀ (j : Nat) (q : Nat × String), zTx[j]? = some q → vk_R RX6 q.1 q.2 (av j) U) ∧ va_Z "java/lang/String" "COMPACT_STRINGS" "Z" (.int 1) (fun q => b ≤ q) U U.heap ∧ va_Z "jdk/internal/util/Preconditions" "SIOOBE_FORMATTER" "Ljava/util/function/BiFunction;" (va_rf (ak 200)) (fun q => b ≤ q) U U.heap ∧ ∀ j, j < 11 → ak j = some (av j) ∧ ak (100 + j) = some (av (100 + j))
def zV (b : Nat) (D : va_G) (dT : Nat → ClassId) (ak : Nat → Option Nat) (av : Nat → Nat) (U : State) : Prop := va_K D vwCl (zTys dT) U ∧ (∀ w ∈ zGW, zw w U) ∧ (∀ C ∈ [RX0, RX3, RX4, RX5, RX9], va_AO C U) ∧ zS b ak av U
theorem zV_calling {b : Nat} {D : va_G} {dT : Nat → ClassId} {ak : Nat → Option Nat} {av : Nat → Nat} {U : State} {g : JFrame} {mk : MethodId} {a : Array Value} (h : zV b D dT ak av U) : zV b D dT ak av (U.calling g mk a) := by
  obtain ⟨h1, h2, h6, h3, h4, h5, h7, h8⟩ := h
  have hv : U.vm.Alike (U.calling g mk a).vm := Vm.Alike.refl U.vm
  exact ⟨va_K.moved hv h1, fun w hw => zw_calling (List.mem_filter.mp hw).2 (h2 w hw), fun C hC => va_AO.moved hv (h6 C hC), vk_S.moved hv h3, fun j q hq => vk_R.same rfl (h4 j q hq), va_Z.moved hv h5, va_Z.moved hv h7, h8⟩
theorem zV_go {b : Nat} {D : va_G} {dT : Nat → ClassId} {ak : Nat → Option Nat} {av : Nat → Nat} {s U : State} {H : Heap} {locs : List Loc} (h : zV b D dT ak av s) (hW : s.WarmedH U.vm) (hH : U.heap = H) (hS : va_S (fun q => b ≤ q) s.heap H locs) : zV b D dT ak av U := by
  subst hH
  obtain ⟨h1, h2, h6, h3, h4, h5, h7, h8⟩ := h
  exact ⟨va_K.moved hW.alike h1, fun w hw => zw_warm hW (List.mem_filter.mp hw).2 (h2 w hw), fun C hC => va_AO.moved hW.alike (h6 C hC), vk_S.moved hW.alike (vk_S.kept h3 hS.2.1), fun j q hq => vk_R.warm hW (h4 j q hq), va_Z.moved hW.alike (va_Z.kept h5 hS.2.1), va_Z.moved hW.alike (va_Z.kept h7 hS.2.1), h8⟩
def zRm (M : zM) : Room := { frames := M.2.2.2.2.1, cells := M.2.2.2.2.2.1, slots := M.2.2.2.2.2.2, locals := 80 * M.2.2.2.2.1 }
def zPc (b : Nat) (D : va_G) (dT : Nat → ClassId) (ak : Nat → Option Nat) (av : Nat → Nat) (as : List Value) (h : zH) : Array Value → State → Prop := fun v U => v = (as.map (zr b ak)).toArray ∧ b ≤ U.heap.size ∧ U.heap.size = b + h.1.1 ∧ va_P D vwCl (zWs dT b h) U.heap ∧ zV b D dT ak av U
def zQc (b : Nat) (D : va_G) (dT : Nat → ClassId) (ak : Nat → Option Nat) (r : Option Value) (h' : zH) : Array Value → State → Outcome → State → Prop := fun _ st o t => o = .returned (r.map (zr b ak)) ∧ t.heap.size = b + h'.1.1 ∧ va_P D vwCl (zWs dT b h') t.heap ∧ va_F (fun q => b ≤ q) st t
/-- method M, called with these arguments at this heap, returns r (if anything) and leaves the heap h' -/
def Cl (M : zM) (as : List Value) (h : zH) (r : Option Value) (h' : zH) : Prop := ∀ (l : Launch) (b : Nat) (D : va_G) (dT : Nat → ClassId) (ak : Nat → Option Nat) (av : Nat → Nat), Met l M.1 [Cond.code M.1 M.2.1 M.2.2.1 M.2.2.2.1] (zRm M) (zPc b D dT ak av as h) (zQc b D dT ak r h') M.2.2.2.2.2.1 M.2.2.2.2.2.2 (fun q => b ≤ q)
/-- what doesn't change inside a method -/
def zFx (X : Option (Nat × (Nat → Int32))) (M : zM) (R : Room) (b : Nat) (D : va_G) (dT : Nat → ClassId) (ak : Nat → Option Nat) (av : Nat → Nat) (p : Program) (s : State) (m : MethodId) (args : Array Value) (meth : Method) (c : Code) : Prop :=
  p.tables.exec = Jvm.exec ∧ c.code = M.2.1 ∧ c.maxLocals = M.2.2.1 ∧ meth.sig.returnType = M.2.2.2.1 ∧ meth.locks = false ∧ meth.name = M.1.name ∧ s.vm.findClass M.1.cls = some m.cls ∧ zV b D dT ak av s ∧ b ≤ s.heap.size ∧ (M.2.2.2.2.1 ≤ R.frames ∧ 80 * M.2.2.2.2.1 ≤ R.locals ∧ R.cells = M.2.2.2.2.2.1 ∧ R.slots = M.2.2.2.2.2.2) ∧ ∀ x, X = some x → ∃ bs, ak 1000 = some bs ∧ va_X bs x.1 x.2 s s.heap ∧ bs < b
def zHp (b : Nat) (D : va_G) (dT : Nat → ClassId) (s : State) (H : Heap) (locs : List Loc) (h : zH) : Prop := H.size = b + h.1.1 ∧ va_P D vwCl (zWs dT b h) H ∧ va_S (fun q => b ≤ q) s.heap H locs
def zLs (b : Nat) (ak : Nat → Option Nat) (lv : List (Nat × Value)) : List (Nat × Value) := lv.map (fun q => (q.1, zr b ak q.2))
/-- from this place, with u cells and v slots made, method M comes to its end with r and h' -/
def Zt (X : Option (Nat × (Nat → Int32))) (M : zM) (u v pc : Nat) (lv : List (Nat × Value)) (st : List Value) (h : zH) (r : Option Value) (h' : zH) : Prop :=
  ∀ (l : Launch) (b : Nat) (D : va_G) (dT : Nat → ClassId) (ak : Nat → Option Nat) (av : Nat → Nat) (p : Program) (e : Env) (R : Room) (s : State) (m : MethodId) (args : Array Value) (below : List Frame) (meth : Method) (c : Code) (H : Heap) (locs : List Loc) (ls : Array Slot),
    zFx X M R b D dT ak av p s m args meth c → zHp b D dT s H locs h → lv_has ls M.2.2.1 (zLs b ak lv) → W p l e R s m args below meth c H locs u v (MQ below (zQc b D dT ak r h') args s M.2.2.2.2.2.1 M.2.2.2.2.2.2 (fun q => b ≤ q)) (F0 m pc ls (st.map (zr b ak)))
section ZR
variable {X : Option (Nat × (Nat → Int32))} {M : zM} {u v pc : Nat} {lv : List (Nat × Value)} {st : List Value} {h : zH} {r : Option Value} {h' : zH}

theorem z_iconst {n : Int} {w : Int32} (hd : decode M.2.1 pc = .ok (.iconst n, 1)) (hv : Int32.ofInt n = w) (k : Zt X M u v (pc + 1) lv (.int w :: st) h r h') : Zt X M u v pc lv (st) h r h' := fun l b D dT ak av p e R s m args below meth c H locs ls F P L => lv_iconst F.1 F.2.1 hd hv (k l b D dT ak av p e R s m args below meth c H locs ls F P L)
theorem z_bipush {n : Int} {w : Int32} (hd : decode M.2.1 pc = .ok (.bipush n, 2)) (hv : (Int8.ofInt n).toInt32 = w) (k : Zt X M u v (pc + 2) lv (.int w :: st) h r h') : Zt X M u v pc lv (st) h r h' := fun l b D dT ak av p e R s m args below meth c H locs ls F P L => lv_bipush F.1 F.2.1 hd hv (k l b D dT ak av p e R s m args below meth c H locs ls F P L)
theorem z_sipush {n : Int} {w : Int32} (hd : decode M.2.1 pc = .ok (.sipush n, 3)) (hv : (Int16.ofInt n).toInt32 = w) (k : Zt X M u v (pc + 3) lv (.int w :: st) h r h') : Zt X M u v pc lv (st) h r h' := fun l b D dT ak av p e R s m args below meth c H locs ls F P L => lv_sipush F.1 F.2.1 hd hv (k l b D dT ak av p e R s m args below meth c H locs ls F P L)
theorem z_lconst {n : Fin 2} {w : Int64} (hd : decode M.2.1 pc = .ok (.lconst n, 1)) (hv : Int64.ofNat (n : Nat) = w) (k : Zt X M u v (pc + 1) lv (.long w :: st) h r h') : Zt X M u v pc lv (st) h r h' := fun l b D dT ak av p e R s m args below meth c H locs ls F P L => lv_lconst F.1 F.2.1 hd hv (k l b D dT ak av p e R s m args below meth c H locs ls F P L)
theorem z_null (hd : decode M.2.1 pc = .ok (.aconst_null, 1)) (k : Zt X M u v (pc + 1) lv (.null :: st) h r h') : Zt X M u v pc lv (st) h r h' := fun l b D dT ak av p e R s m args below meth c H locs ls F P L => lv_null F.1 F.2.1 hd (k l b D dT ak av p e R s m args below meth c H locs ls F P L)
theorem z_iadd {x y : Int32} (hd : decode M.2.1 pc = .ok (.iadd, 1)) (k : Zt X M u v (pc + 1) lv (.int (x + y) :: st) h r h') : Zt X M u v pc lv (.int y :: .int x :: st) h r h' := fun l b D dT ak av p e R s m args below meth c H locs ls F P L => lv_iadd F.1 F.2.1 hd (k l b D dT ak av p e R s m args below meth c H locs ls F P L)
theorem z_isub {x y : Int32} (hd : decode M.2.1 pc = .ok (.isub, 1)) (k : Zt X M u v (pc + 1) lv (.int (x - y) :: st) h r h') : Zt X M u v pc lv (.int y :: .int x :: st) h r h' := fun l b D dT ak av p e R s m args below meth c H locs ls F P L => lv_isub F.1 F.2.1 hd (k l b D dT ak av p e R s m args below meth c H locs ls F P L)
theorem z_imul {x y : Int32} (hd : decode M.2.1 pc = .ok (.imul, 1)) (k : Zt X M u v (pc + 1) lv (.int (x * y) :: st) h r h') : Zt X M u v pc lv (.int y :: .int x :: st) h r h' := fun l b D dT ak av p e R s m args below meth c H locs ls F P L => lv_imul F.1 F.2.1 hd (k l b D dT ak av p e R s m args below meth c H locs ls F P L)
theorem z_iand {x y : Int32} (hd : decode M.2.1 pc = .ok (.iand, 1)) (k : Zt X M u v (pc + 1) lv (.int (x &&& y) :: st) h r h') : Zt X M u v pc lv (.int y :: .int x :: st) h r h' := fun l b D dT ak av p e R s m args below meth c H locs ls F P L => lv_iand F.1 F.2.1 hd (k l b D dT ak av p e R s m args below meth c H locs ls F P L)
theorem z_ior {x y : Int32} (hd : decode M.2.1 pc = .ok (.ior, 1)) (k : Zt X M u v (pc + 1) lv (.int (x ||| y) :: st) h r h') : Zt X M u v pc lv (.int y :: .int x :: st) h r h' := fun l b D dT ak av p e R s m args below meth c H locs ls F P L => lv_ior F.1 F.2.1 hd (k l b D dT ak av p e R s m args below meth c H locs ls F P L)
theorem z_ixor {x y : Int32} (hd : decode M.2.1 pc = .ok (.ixor, 1)) (k : Zt X M u v (pc + 1) lv (.int (x ^^^ y) :: st) h r h') : Zt X M u v pc lv (.int y :: .int x :: st) h r h' := fun l b D dT ak av p e R s m args below meth c H locs ls F P L => lv_ixor F.1 F.2.1 hd (k l b D dT ak av p e R s m args below meth c H locs ls F P L)
theorem z_idiv {x y : Int32} (hd : decode M.2.1 pc = .ok (.idiv, 1)) (hne : ¬ y = 0) (k : Zt X M u v (pc + 1) lv (.int (x / y) :: st) h r h') : Zt X M u v pc lv (.int y :: .int x :: st) h r h' := fun l b D dT ak av p e R s m args below meth c H locs ls F P L => lv_idiv F.1 F.2.1 hd hne (k l b D dT ak av p e R s m args below meth c H locs ls F P L)
theorem z_irem {x y : Int32} (hd : decode M.2.1 pc = .ok (.irem, 1)) (hne : ¬ y = 0) (k : Zt X M u v (pc + 1) lv (.int (x - x / y * y) :: st) h r h') : Zt X M u v pc lv (.int y :: .int x :: st) h r h' := fun l b D dT ak av p e R s m args below meth c H locs ls F P L => lv_irem F.1 F.2.1 hd hne (k l b D dT ak av p e R s m args below meth c H locs ls F P L)
theorem z_ladd {x y : Int64} (hd : decode M.2.1 pc = .ok (.ladd, 1)) (k : Zt X M u v (pc + 1) lv (.long (x + y) :: st) h r h') : Zt X M u v pc lv (.long y :: .long x :: st) h r h' := fun l b D dT ak av p e R s m args below meth c H locs ls F P L => lv_ladd F.1 F.2.1 hd (k l b D dT ak av p e R s m args below meth c H locs ls F P L)
theorem z_lsub {x y : Int64} (hd : decode M.2.1 pc = .ok (.lsub, 1)) (k : Zt X M u v (pc + 1) lv (.long (x - y) :: st) h r h') : Zt X M u v pc lv (.long y :: .long x :: st) h r h' := fun l b D dT ak av p e R s m args below meth c H locs ls F P L => lv_lsub F.1 F.2.1 hd (k l b D dT ak av p e R s m args below meth c H locs ls F P L)
theorem z_lmul {x y : Int64} (hd : decode M.2.1 pc = .ok (.lmul, 1)) (k : Zt X M u v (pc + 1) lv (.long (x * y) :: st) h r h') : Zt X M u v pc lv (.long y :: .long x :: st) h r h' := fun l b D dT ak av p e R s m args below meth c H locs ls F P L => lv_lmul F.1 F.2.1 hd (k l b D dT ak av p e R s m args below meth c H locs ls F P L)
theorem z_ldiv {x y : Int64} (hd : decode M.2.1 pc = .ok (.ldiv, 1)) (hne : ¬ y = 0) (k : Zt X M u v (pc + 1) lv (.long (x / y) :: st) h r h') : Zt X M u v pc lv (.long y :: .long x :: st) h r h' := fun l b D dT ak av p e R s m args below meth c H locs ls F P L => lv_ldiv F.1 F.2.1 hd hne (k l b D dT ak av p e R s m args below meth c H locs ls F P L)
theorem z_lrem {x y : Int64} (hd : decode M.2.1 pc = .ok (.lrem, 1)) (hne : ¬ y = 0) (k : Zt X M u v (pc + 1) lv (.long (x - x / y * y) :: st) h r h') : Zt X M u v pc lv (.long y :: .long x :: st) h r h' := fun l b D dT ak av p e R s m args below meth c H locs ls F P L => lv_lrem F.1 F.2.1 hd hne (k l b D dT ak av p e R s m args below meth c H locs ls F P L)
theorem z_ishl {x y : Int32} (hd : decode M.2.1 pc = .ok (.ishl, 1)) (k : Zt X M u v (pc + 1) lv (.int (x <<< (y &&& 31)) :: st) h r h') : Zt X M u v pc lv (.int y :: .int x :: st) h r h' := fun l b D dT ak av p e R s m args below meth c H locs ls F P L => lv_ishl F.1 F.2.1 hd (k l b D dT ak av p e R s m args below meth c H locs ls F P L)
theorem z_ishr {x y : Int32} (hd : decode M.2.1 pc = .ok (.ishr, 1)) (k : Zt X M u v (pc + 1) lv (.int (x >>> (y &&& 31)) :: st) h r h') : Zt X M u v pc lv (.int y :: .int x :: st) h r h' := fun l b D dT ak av p e R s m args below meth c H locs ls F P L => lv_ishr F.1 F.2.1 hd (k l b D dT ak av p e R s m args below meth c H locs ls F P L)
def zus (x y : Int32) : Int32 := (x.toUInt32 >>> (y.toUInt32 &&& Int32.toUInt32 31)).toInt32
theorem z_iushr {x y : Int32} (hd : decode M.2.1 pc = .ok (.iushr, 1)) (k : Zt X M u v (pc + 1) lv (.int (zus x y) :: st) h r h') : Zt X M u v pc lv (.int y :: .int x :: st) h r h' := fun l b D dT ak av p e R s m args below meth c H locs ls F P L => lv_iushr F.1 F.2.1 hd rfl (k l b D dT ak av p e R s m args below meth c H locs ls F P L)
theorem z_i2l {x : Int32} (hd : decode M.2.1 pc = .ok (.i2l, 1)) (k : Zt X M u v (pc + 1) lv (.long x.toInt64 :: st) h r h') : Zt X M u v pc lv (.int x :: st) h r h' := fun l b D dT ak av p e R s m args below meth c H locs ls F P L => lv_i2l F.1 F.2.1 hd rfl (k l b D dT ak av p e R s m args below meth c H locs ls F P L)
theorem z_lcmp {x y : Int64} (hd : decode M.2.1 pc = .ok (.lcmp, 1)) (k : Zt X M u v (pc + 1) lv (.int (lg_cmp x y) :: st) h r h') : Zt X M u v pc lv (.long y :: .long x :: st) h r h' := fun l b D dT ak av p e R s m args below meth c H locs ls F P L => W.lcmp F.1 F.2.1 hd (k l b D dT ak av p e R s m args below meth c H locs ls F P L)
theorem z_dup {w : Value} (hd : decode M.2.1 pc = .ok (.dup, 1)) (hw : w.category = 1) (k : Zt X M u v (pc + 1) lv (w :: w :: st) h r h') : Zt X M u v pc lv (w :: st) h r h' := fun l b D dT ak av p e R s m args below meth c H locs ls F P L => lv_dup F.1 F.2.1 hd ((zr_cat _ _ _).trans hw) (k l b D dT ak av p e R s m args below meth c H locs ls F P L)
theorem z_pop {w : Value} (hd : decode M.2.1 pc = .ok (.pop, 1)) (hw : w.category = 1) (k : Zt X M u v (pc + 1) lv (st) h r h') : Zt X M u v pc lv (w :: st) h r h' := fun l b D dT ak av p e R s m args below meth c H locs ls F P L => lv_pop F.1 F.2.1 hd ((zr_cat _ _ _).trans hw) (k l b D dT ak av p e R s m args below meth c H locs ls F P L)
theorem z_dup2 {w w2 : Value} (hd : decode M.2.1 pc = .ok (.dup2, 1)) (hw : w.category = 1) (hw2 : w2.category = 1) (k : Zt X M u v (pc + 1) lv (w :: w2 :: w :: w2 :: st) h r h') : Zt X M u v pc lv (w :: w2 :: st) h r h' := fun l b D dT ak av p e R s m args below meth c H locs ls F P L => lv_dup2_11 F.1 F.2.1 hd ((zr_cat _ _ _).trans hw) ((zr_cat _ _ _).trans hw2) (k l b D dT ak av p e R s m args below meth c H locs ls F P L)
theorem z_lv {b : Nat} {ak : Nat → Option Nat} {ls : Array Slot} {n j i : Nat} {w : Value} (L : lv_has ls n (zLs b ak lv)) (hk : lv[j]? = some (i, w)) : ls[i]? = some (.val (zr b ak w)) := lv_at L j (by simp [zLs, hk])
theorem z_iload {i : Nat} {x : Int32} (j : Nat) (hd : decode M.2.1 pc = .ok (.iload i, 2)) (hk : lv[j]? = some (i, .int x)) (k : Zt X M u v (pc + 2) lv (.int x :: st) h r h') : Zt X M u v pc lv st h r h' := fun l b D dT ak av p e R s m args below meth c H locs ls F P L => lv_iload F.1 F.2.1 hd (z_lv L hk) (k l b D dT ak av p e R s m args below meth c H locs ls F P L)
theorem z_iload_n {n : Fin 4} {x : Int32} (j : Nat) (hd : decode M.2.1 pc = .ok (.iload_n n, 1)) (hk : lv[j]? = some ((n : Nat), .int x)) (k : Zt X M u v (pc + 1) lv (.int x :: st) h r h') : Zt X M u v pc lv st h r h' := fun l b D dT ak av p e R s m args below meth c H locs ls F P L => lv_iload_n F.1 F.2.1 hd rfl (z_lv L hk) (k l b D dT ak av p e R s m args below meth c H locs ls F P L)
theorem z_lload {i : Nat} {x : Int64} (j : Nat) (hd : decode M.2.1 pc = .ok (.lload i, 2)) (hk : lv[j]? = some (i, .long x)) (k : Zt X M u v (pc + 2) lv (.long x :: st) h r h') : Zt X M u v pc lv st h r h' := fun l b D dT ak av p e R s m args below meth c H locs ls F P L => lv_lload F.1 F.2.1 hd (z_lv L hk) (k l b D dT ak av p e R s m args below meth c H locs ls F P L)
theorem z_lload_n {n : Fin 4} {x : Int64} (j : Nat) (hd : decode M.2.1 pc = .ok (.lload_n n, 1)) (hk : lv[j]? = some ((n : Nat), .long x)) (k : Zt X M u v (pc + 1) lv (.long x :: st) h r h') : Zt X M u v pc lv st h r h' := fun l b D dT ak av p e R s m args below meth c H locs ls F P L => lv_lload_n F.1 F.2.1 hd rfl (z_lv L hk) (k l b D dT ak av p e R s m args below meth c H locs ls F P L)
theorem z_aload {i : Nat} {w : Value} (j : Nat) (hd : decode M.2.1 pc = .ok (.aload i, 2)) (hk : lv[j]? = some (i, w)) (hw : zrv w = true) (k : Zt X M u v (pc + 2) lv (w :: st) h r h') : Zt X M u v pc lv st h r h' := by
  intro l b D dT ak av p e R s m args below meth c H locs ls F P L
  have kk := k l b D dT ak av p e R s m args below meth c H locs ls F P L
  have hz := z_lv L hk
  cases w with
  | ref a => exact lv_aload F.1 F.2.1 hd hz kk
  | null => exact lv_aloadN F.1 F.2.1 hd hz kk
  | retAddr a =>
    simp only [List.map_cons, zr] at kk
    simp only [zr] at hz
    cases hq : ak a with
    | none => rw [hq] at kk hz; exact lv_aloadN F.1 F.2.1 hd hz kk
    | some c => rw [hq] at kk hz; exact lv_aload F.1 F.2.1 hd hz kk
  | _ => cases hw
theorem z_aload_n {n : Fin 4} {w : Value} (j : Nat) (hd : decode M.2.1 pc = .ok (.aload_n n, 1)) (hk : lv[j]? = some ((n : Nat), w)) (hw : zrv w = true) (k : Zt X M u v (pc + 1) lv (w :: st) h r h') : Zt X M u v pc lv st h r h' := by
  intro l b D dT ak av p e R s m args below meth c H locs ls F P L
  have kk := k l b D dT ak av p e R s m args below meth c H locs ls F P L
  have hz := z_lv L hk
  cases w with
  | ref a => exact lv_aload_n F.1 F.2.1 hd rfl hz kk
  | null => exact lv_aload_nN F.1 F.2.1 hd rfl hz kk
  | retAddr a =>
    simp only [List.map_cons, zr] at kk
    simp only [zr] at hz
    cases hq : ak a with
    | none => rw [hq] at kk hz; exact lv_aload_nN F.1 F.2.1 hd rfl hz kk
    | some c => rw [hq] at kk hz; exact lv_aload_n F.1 F.2.1 hd rfl hz kk
  | _ => cases hw
def zst1 (lv : List (Nat × Value)) (i : Nat) (w : Value) : List (Nat × Value) := (i, w) :: lv.filter (fun q => !(q.1 == i) && !(q.1 + 1 == i && q.2.category == 2))
def zst2 (lv : List (Nat × Value)) (i : Nat) (w : Value) : List (Nat × Value) := (i, w) :: lv.filter (fun q => !(q.1 == i) && (!(q.1 == i + 1) && !(q.1 + 1 == i && q.2.category == 2)))
theorem zst1_map {b : Nat} {ak : Nat → Option Nat} {i : Nat} {w : Value} : (i, zr b ak w) :: (zLs b ak lv).filter (fun q => !(q.1 == i) && !(q.1 + 1 == i && q.2.category == 2)) = zLs b ak (zst1 lv i w) := by
  simp only [zLs, zst1, List.map_cons, List.filter_map]
  congr 1
  congr 1
  apply List.filter_congr
  intro q _
  simp [zr_cat]
theorem zst2_map {b : Nat} {ak : Nat → Option Nat} {i : Nat} {w : Value} : (i, zr b ak w) :: (zLs b ak lv).filter (fun q => !(q.1 == i) && (!(q.1 == i + 1) && !(q.1 + 1 == i && q.2.category == 2))) = zLs b ak (zst2 lv i w) := by
  simp only [zLs, zst2, List.map_cons, List.filter_map]
  congr 1
  congr 1
  apply List.filter_congr
  intro q _
  simp [zr_cat]
theorem z_istore {i : Nat} {x : Int32} {lv' : List (Nat × Value)} (hd : decode M.2.1 pc = .ok (.istore i, 2)) (hi : i < M.2.2.1) (hl : zst1 lv i (.int x) = lv') (k : Zt X M u v (pc + 2) lv' st h r h') : Zt X M u v pc lv (.int x :: st) h r h' := fun l b D dT ak av p e R s m args below meth c H locs ls F P L => lv_istore F.1 F.2.1 hd L hi (zst1_map (w := .int x)) (fun ls L => k l b D dT ak av p e R s m args below meth c H locs ls F P (hl ▸ L))
theorem z_istore_n {n : Fin 4} {x : Int32} {lv' : List (Nat × Value)} (hd : decode M.2.1 pc = .ok (.istore_n n, 1)) (hi : (n : Nat) < M.2.2.1) (hl : zst1 lv n (.int x) = lv') (k : Zt X M u v (pc + 1) lv' st h r h') : Zt X M u v pc lv (.int x :: st) h r h' := fun l b D dT ak av p e R s m args below meth c H locs ls F P L => lv_istore_n F.1 F.2.1 hd rfl L hi (zst1_map (w := .int x)) (fun ls L => k l b D dT ak av p e R s m args below meth c H locs ls F P (hl ▸ L))
theorem z_lstore {i : Nat} {x : Int64} {lv' : List (Nat × Value)} (hd : decode M.2.1 pc = .ok (.lstore i, 2)) (hi : i + 1 < M.2.2.1) (hl : zst2 lv i (.long x) = lv') (k : Zt X M u v (pc + 2) lv' st h r h') : Zt X M u v pc lv (.long x :: st) h r h' := fun l b D dT ak av p e R s m args below meth c H locs ls F P L => lv_lstore F.1 F.2.1 hd L hi (zst2_map (w := .long x)) (fun ls L => k l b D dT ak av p e R s m args below meth c H locs ls F P (hl ▸ L))
theorem z_lstore_n {n : Fin 4} {x : Int64} {lv' : List (Nat × Value)} (hd : decode M.2.1 pc = .ok (.lstore_n n, 1)) (hi : (n : Nat) + 1 < M.2.2.1) (hl : zst2 lv n (.long x) = lv') (k : Zt X M u v (pc + 1) lv' st h r h') : Zt X M u v pc lv (.long x :: st) h r h' := fun l b D dT ak av p e R s m args below meth c H locs ls F P L => lv_lstore_n F.1 F.2.1 hd rfl L hi (zst2_map (w := .long x)) (fun ls L => k l b D dT ak av p e R s m args below meth c H locs ls F P (hl ▸ L))
theorem z_astore {i : Nat} {w : Value} {lv' : List (Nat × Value)} (hd : decode M.2.1 pc = .ok (.astore i, 2)) (hi : (i : Nat) < M.2.2.1) (hw : zrn w = true) (hl : zst1 lv i w = lv') (k : Zt X M u v (pc + 2) lv' st h r h') : Zt X M u v pc lv (w :: st) h r h' := by
  intro l b D dT ak av p e R s m args below meth c H locs ls F P L
  cases w with
  | ref a => exact lv_astore F.1 F.2.1 hd L hi (zst1_map (w := .ref a)) (fun ls L => k l b D dT ak av p e R s m args below meth c H locs ls F P (hl ▸ L))
  | null => exact lv_astoreN F.1 F.2.1 hd L hi (zst1_map (w := .null)) (fun ls L => k l b D dT ak av p e R s m args below meth c H locs ls F P (hl ▸ L))
  | _ => cases hw
theorem z_astore_n {i : Fin 4} {w : Value} {lv' : List (Nat × Value)} (hd : decode M.2.1 pc = .ok (.astore_n i, 1)) (hi : (i : Nat) < M.2.2.1) (hw : zrn w = true) (hl : zst1 lv i w = lv') (k : Zt X M u v (pc + 1) lv' st h r h') : Zt X M u v pc lv (w :: st) h r h' := by
  intro l b D dT ak av p e R s m args below meth c H locs ls F P L
  cases w with
  | ref a => exact lv_astore_n F.1 F.2.1 hd rfl L hi (zst1_map (w := .ref a)) (fun ls L => k l b D dT ak av p e R s m args below meth c H locs ls F P (hl ▸ L))
  | null => exact lv_astore_nN F.1 F.2.1 hd rfl L hi (zst1_map (w := .null)) (fun ls L => k l b D dT ak av p e R s m args below meth c H locs ls F P (hl ▸ L))
  | _ => cases hw
theorem z_iinc {i : Nat} {n : Int} {x y : Int32} {lv' : List (Nat × Value)} (j : Nat) (hd : decode M.2.1 pc = .ok (.iinc i n, 3)) (hk : lv[j]? = some (i, .int x)) (hv : x + Int32.ofInt n = y) (hi : i < M.2.2.1) (hl : zst1 lv i (.int y) = lv') (k : Zt X M u v (pc + 3) lv' st h r h') : Zt X M u v pc lv st h r h' := fun l b D dT ak av p e R s m args below meth c H locs ls F P L => lv_iinc (k := j) F.1 F.2.1 hd L (by simp [zLs, hk]; rfl) hv hi (zst1_map (w := .int y)) (fun ls L => k l b D dT ak av p e R s m args below meth c H locs ls F P (hl ▸ L))
theorem z_if_eq {x : Int32} {off : Int} {t : Nat} (hd : decode M.2.1 pc = .ok (.ifCond .eq off, 3)) (ht : (pc : Int) + off = (t : Int)) (kt : x = 0 → Zt X M u v t lv st h r h') (kf : ¬ x = 0 → Zt X M u v (pc + 3) lv st h r h') : Zt X M u v pc lv (.int x :: st) h r h' := fun l b D dT ak av p e R s m args below meth c H locs ls F P L => lv_if_eq F.1 F.2.1 hd ht (fun q => kt q l b D dT ak av p e R s m args below meth c H locs ls F P L) (fun q => kf q l b D dT ak av p e R s m args below meth c H locs ls F P L)
theorem z_icmp_eq {x y : Int32} {off : Int} {t : Nat} (hd : decode M.2.1 pc = .ok (.if_icmp .eq off, 3)) (ht : (pc : Int) + off = (t : Int)) (kt : x = y → Zt X M u v t lv st h r h') (kf : ¬ x = y → Zt X M u v (pc + 3) lv st h r h') : Zt X M u v pc lv (.int y :: .int x :: st) h r h' := fun l b D dT ak av p e R s m args below meth c H locs ls F P L => lv_icmp_eq F.1 F.2.1 hd ht (fun q => kt q l b D dT ak av p e R s m args below meth c H locs ls F P L) (fun q => kf q l b D dT ak av p e R s m args below meth c H locs ls F P L)
theorem z_if_ne {x : Int32} {off : Int} {t : Nat} (hd : decode M.2.1 pc = .ok (.ifCond .ne off, 3)) (ht : (pc : Int) + off = (t : Int)) (kt : ¬ x = 0 → Zt X M u v t lv st h r h') (kf : x = 0 → Zt X M u v (pc + 3) lv st h r h') : Zt X M u v pc lv (.int x :: st) h r h' := fun l b D dT ak av p e R s m args below meth c H locs ls F P L => lv_if_ne F.1 F.2.1 hd ht (fun q => kt q l b D dT ak av p e R s m args below meth c H locs ls F P L) (fun q => kf q l b D dT ak av p e R s m args below meth c H locs ls F P L)
theorem z_icmp_ne {x y : Int32} {off : Int} {t : Nat} (hd : decode M.2.1 pc = .ok (.if_icmp .ne off, 3)) (ht : (pc : Int) + off = (t : Int)) (kt : ¬ x = y → Zt X M u v t lv st h r h') (kf : x = y → Zt X M u v (pc + 3) lv st h r h') : Zt X M u v pc lv (.int y :: .int x :: st) h r h' := fun l b D dT ak av p e R s m args below meth c H locs ls F P L => lv_icmp_ne F.1 F.2.1 hd ht (fun q => kt q l b D dT ak av p e R s m args below meth c H locs ls F P L) (fun q => kf q l b D dT ak av p e R s m args below meth c H locs ls F P L)
theorem z_if_lt {x : Int32} {off : Int} {t : Nat} (hd : decode M.2.1 pc = .ok (.ifCond .lt off, 3)) (ht : (pc : Int) + off = (t : Int)) (kt : x < 0 → Zt X M u v t lv st h r h') (kf : ¬ x < 0 → Zt X M u v (pc + 3) lv st h r h') : Zt X M u v pc lv (.int x :: st) h r h' := fun l b D dT ak av p e R s m args below meth c H locs ls F P L => lv_if_lt F.1 F.2.1 hd ht (fun q => kt q l b D dT ak av p e R s m args below meth c H locs ls F P L) (fun q => kf q l b D dT ak av p e R s m args below meth c H locs ls F P L)
theorem z_icmp_lt {x y : Int32} {off : Int} {t : Nat} (hd : decode M.2.1 pc = .ok (.if_icmp .lt off, 3)) (ht : (pc : Int) + off = (t : Int)) (kt : x < y → Zt X M u v t lv st h r h') (kf : ¬ x < y → Zt X M u v (pc + 3) lv st h r h') : Zt X M u v pc lv (.int y :: .int x :: st) h r h' := fun l b D dT ak av p e R s m args below meth c H locs ls F P L => lv_icmp_lt F.1 F.2.1 hd ht (fun q => kt q l b D dT ak av p e R s m args below meth c H locs ls F P L) (fun q => kf q l b D dT ak av p e R s m args below meth c H locs ls F P L)
theorem z_if_ge {x : Int32} {off : Int} {t : Nat} (hd : decode M.2.1 pc = .ok (.ifCond .ge off, 3)) (ht : (pc : Int) + off = (t : Int)) (kt : 0 ≤ x → Zt X M u v t lv st h r h') (kf : ¬ 0 ≤ x → Zt X M u v (pc + 3) lv st h r h') : Zt X M u v pc lv (.int x :: st) h r h' := fun l b D dT ak av p e R s m args below meth c H locs ls F P L => lv_if_ge F.1 F.2.1 hd ht (fun q => kt q l b D dT ak av p e R s m args below meth c H locs ls F P L) (fun q => kf q l b D dT ak av p e R s m args below meth c H locs ls F P L)
theorem z_icmp_ge {x y : Int32} {off : Int} {t : Nat} (hd : decode M.2.1 pc = .ok (.if_icmp .ge off, 3)) (ht : (pc : Int) + off = (t : Int)) (kt : y ≤ x → Zt X M u v t lv st h r h') (kf : ¬ y ≤ x → Zt X M u v (pc + 3) lv st h r h') : Zt X M u v pc lv (.int y :: .int x :: st) h r h' := fun l b D dT ak av p e R s m args below meth c H locs ls F P L => lv_icmp_ge F.1 F.2.1 hd ht (fun q => kt q l b D dT ak av p e R s m args below meth c H locs ls F P L) (fun q => kf q l b D dT ak av p e R s m args below meth c H locs ls F P L)
theorem z_if_gt {x : Int32} {off : Int} {t : Nat} (hd : decode M.2.1 pc = .ok (.ifCond .gt off, 3)) (ht : (pc : Int) + off = (t : Int)) (kt : 0 < x → Zt X M u v t lv st h r h') (kf : ¬ 0 < x → Zt X M u v (pc + 3) lv st h r h') : Zt X M u v pc lv (.int x :: st) h r h' := fun l b D dT ak av p e R s m args below meth c H locs ls F P L => lv_if_gt F.1 F.2.1 hd ht (fun q => kt q l b D dT ak av p e R s m args below meth c H locs ls F P L) (fun q => kf q l b D dT ak av p e R s m args below meth c H locs ls F P L)
theorem z_icmp_gt {x y : Int32} {off : Int} {t : Nat} (hd : decode M.2.1 pc = .ok (.if_icmp .gt off, 3)) (ht : (pc : Int) + off = (t : Int)) (kt : y < x → Zt X M u v t lv st h r h') (kf : ¬ y < x → Zt X M u v (pc + 3) lv st h r h') : Zt X M u v pc lv (.int y :: .int x :: st) h r h' := fun l b D dT ak av p e R s m args below meth c H locs ls F P L => lv_icmp_gt F.1 F.2.1 hd ht (fun q => kt q l b D dT ak av p e R s m args below meth c H locs ls F P L) (fun q => kf q l b D dT ak av p e R s m args below meth c H locs ls F P L)
theorem z_if_le {x : Int32} {off : Int} {t : Nat} (hd : decode M.2.1 pc = .ok (.ifCond .le off, 3)) (ht : (pc : Int) + off = (t : Int)) (kt : x ≤ 0 → Zt X M u v t lv st h r h') (kf : ¬ x ≤ 0 → Zt X M u v (pc + 3) lv st h r h') : Zt X M u v pc lv (.int x :: st) h r h' := fun l b D dT ak av p e R s m args below meth c H locs ls F P L => lv_if_le F.1 F.2.1 hd ht (fun q => kt q l b D dT ak av p e R s m args below meth c H locs ls F P L) (fun q => kf q l b D dT ak av p e R s m args below meth c H locs ls F P L)
theorem z_icmp_le {x y : Int32} {off : Int} {t : Nat} (hd : decode M.2.1 pc = .ok (.if_icmp .le off, 3)) (ht : (pc : Int) + off = (t : Int)) (kt : x ≤ y → Zt X M u v t lv st h r h') (kf : ¬ x ≤ y → Zt X M u v (pc + 3) lv st h r h') : Zt X M u v pc lv (.int y :: .int x :: st) h r h' := fun l b D dT ak av p e R s m args below meth c H locs ls F P L => lv_icmp_le F.1 F.2.1 hd ht (fun q => kt q l b D dT ak av p e R s m args below meth c H locs ls F P L) (fun q => kf q l b D dT ak av p e R s m args below meth c H locs ls F P L)
theorem z_goto {off : Int} {t : Nat} (hd : decode M.2.1 pc = .ok (.goto off, 3)) (ht : (pc : Int) + off = (t : Int)) (k : Zt X M u v t lv st h r h') : Zt X M u v pc lv st h r h' := fun l b D dT ak av p e R s m args below meth c H locs ls F P L => lv_goto F.1 F.2.1 hd ht (k l b D dT ak av p e R s m args below meth c H locs ls F P L)
theorem z_ifnullR {a : Nat} {off : Int} (hd : decode M.2.1 pc = .ok (.ifnull off, 3)) (k : Zt X M u v (pc + 3) lv st h r h') : Zt X M u v pc lv (.ref a :: st) h r h' := fun l b D dT ak av p e R s m args below meth c H locs ls F P L => lv_ifnull F.1 F.2.1 hd (k l b D dT ak av p e R s m args below meth c H locs ls F P L)
theorem z_ifnullN {off : Int} {t : Nat} (hd : decode M.2.1 pc = .ok (.ifnull off, 3)) (ht : (pc : Int) + off = (t : Int)) (k : Zt X M u v t lv st h r h') : Zt X M u v pc lv (.null :: st) h r h' := fun l b D dT ak av p e R s m args below meth c H locs ls F P L => lv_ifnullN F.1 F.2.1 hd ht (k l b D dT ak av p e R s m args below meth c H locs ls F P L)
theorem z_ifnonnullR {a : Nat} {off : Int} {t : Nat} (hd : decode M.2.1 pc = .ok (.ifnonnull off, 3)) (ht : (pc : Int) + off = (t : Int)) (k : Zt X M u v t lv st h r h') : Zt X M u v pc lv (.ref a :: st) h r h' := fun l b D dT ak av p e R s m args below meth c H locs ls F P L => lv_ifnonnull F.1 F.2.1 hd ht (k l b D dT ak av p e R s m args below meth c H locs ls F P L)
theorem z_ifnonnullN {off : Int} (hd : decode M.2.1 pc = .ok (.ifnonnull off, 3)) (k : Zt X M u v (pc + 3) lv st h r h') : Zt X M u v pc lv (.null :: st) h r h' := fun l b D dT ak av p e R s m args below meth c H locs ls F P L => lv_ifnonnullN F.1 F.2.1 hd (k l b D dT ak av p e R s m args below meth c H locs ls F P L)
theorem z_tableOut {dflt lo hi : Int} {offs : Array Int} {len : Nat} {x : Int32} {t : Nat} (hd : decode M.2.1 pc = .ok (.tableswitch dflt lo hi offs, len)) (hx : x.toInt < lo ∨ hi < x.toInt) (ht : (pc : Int) + dflt = (t : Int)) (k : Zt X M u v t lv st h r h') : Zt X M u v pc lv (.int x :: st) h r h' := fun l b D dT ak av p e R s m args below meth c H locs ls F P L => lv_tableOut F.1 F.2.1 hd hx ht (k l b D dT ak av p e R s m args below meth c H locs ls F P L)
theorem z_tableIn {dflt lo hi off : Int} {offs : Array Int} {len : Nat} {x : Int32} {t : Nat} (hd : decode M.2.1 pc = .ok (.tableswitch dflt lo hi offs, len)) (h1 : ¬ x.toInt < lo) (h2 : ¬ hi < x.toInt) (ho : offs[(x.toInt - lo).toNat]? = some off) (ht : (pc : Int) + off = (t : Int)) (k : Zt X M u v t lv st h r h') : Zt X M u v pc lv (.int x :: st) h r h' := fun l b D dT ak av p e R s m args below meth c H locs ls F P L => lv_tableIn F.1 F.2.1 hd h1 h2 ho ht (k l b D dT ak av p e R s m args below meth c H locs ls F P L)
theorem z_lookup {dflt off : Int} {ps : Array (Int × Int)} {len : Nat} {x : Int32} {t : Nat} (hd : decode M.2.1 pc = .ok (.lookupswitch dflt ps, len)) (hp : (ps.toList.zip (ps.toList.drop 1)).all (fun (a, next) => a.1 < next.1) = true) (ho : Op.lookupswitch.offset ps.toList dflt x.toInt = off) (ht : (pc : Int) + off = (t : Int)) (k : Zt X M u v t lv st h r h') : Zt X M u v pc lv (.int x :: st) h r h' := fun l b D dT ak av p e R s m args below meth c H locs ls F P L => lv_lookup F.1 F.2.1 hd hp ho ht (k l b D dT ak av p e R s m args below meth c H locs ls F P L)
theorem z_less {lv' : List (Nat × Value)} (ks : List Nat) (hl : lv_pick lv ks = lv') (k : Zt X M u v pc lv' st h r h') : Zt X M u v pc lv st h r h' := by
  subst hl
  intro l b D dT ak av p e R s m args below meth c H locs ls F P L
  refine k l b D dT ak av p e R s m args below meth c H locs ls F P (lv_sub L ks ?_)
  simp only [lv_pick, zLs, List.getElem?_map, List.map_filterMap]
end ZR
end
section
/-! ===== rules of the heap, of returns and of entries ===== -/
/-- the cell at a is of kind c -/
def zo (h : zH) (a c : Nat) : Prop := a < h.1.1 ∧ h.1.2.1 a = c
theorem z_hts {b : Nat} {D : va_G} {dT : Nat → ClassId} {ak : Nat → Option Nat} {av : Nat → Nat} {s : State} {args : Array Value} (hV : zV b D dT ak av s) : ∀ w ∈ zGW, w.before args s = true := fun w hw => hV.2.1 w hw args
theorem zE_obj {dT : Nat → ClassId} {b : Nat} {h : zH} {a c : Nat} (ha : zo h a c) (hc : c < 13) : (zWs dT b h)[a]? = some (b + a, .inr (c, zFs b h a)) := by
  obtain ⟨h1, h2⟩ := ha
  subst h2
  rw [zWs_at h1]
  simp [zE, hc]
theorem zE_ints {dT : Nat → ClassId} {b : Nat} {h : zH} {a c : Nat} (ha : zo h a c) (hc : 13 ≤ c) (hc2 : c < 15) : (zWs dT b h)[a]? = some (b + a, .inl (dT c, h.1.2.2 a, .inl (h.2.1 a))) := by
  obtain ⟨h1, h2⟩ := ha
  subst h2
  rw [zWs_at h1]
  simp [zE, Nat.not_lt.mpr hc, hc2]
theorem zE_refs {dT : Nat → ClassId} {b : Nat} {h : zH} {a c : Nat} (ha : zo h a c) (hc : 15 ≤ c) : (zWs dT b h)[a]? = some (b + a, .inl (dT c, h.1.2.2 a, .inr (.inr (.inr (.inr (fun k => (h.2.2 a k).map (fun j => b + j))))))) := by
  obtain ⟨h1, h2⟩ := ha
  subst h2
  rw [zWs_at h1]
  have e1 : ¬ h.1.2.1 a < 13 := by omega
  have e2 : ¬ h.1.2.1 a < 15 := by omega
  simp only [zE, e1, e2, if_false]
theorem zFs_atI {b : Nat} {h : zH} {a c k : Nat} (ha : zo h a c) (hk : k < zN c) (hr : zRef c k = false) : (zFs b h a)[k]? = some (.int (h.2.1 a k)) := by
  obtain ⟨h1, h2⟩ := ha
  subst h2
  simp [zFs, hk, hr]
theorem zFs_atP {b : Nat} {h : zH} {a c k : Nat} (ha : zo h a c) (hk : k < zN c) (hr : zRef c k = true) : (zFs b h a)[k]? = some (va_rf ((h.2.2 a k).map (fun j => b + j))) := by
  obtain ⟨h1, h2⟩ := ha
  subst h2
  simp [zFs, hk, hr]
theorem zFs_len {b : Nat} {h : zH} {a c : Nat} (ha : zo h a c) : (zFs b h a).length = zN c := by
  obtain ⟨h1, h2⟩ := ha
  subst h2
  simp [zFs]
section ZH
variable {X : Option (Nat × (Nat → Int32))} {M : zM} {u v pc : Nat} {lv : List (Nat × Value)} {st : List Value} {h : zH} {r : Option Value} {h' : zH}
theorem z_same {s : State} {c k : Nat} (hc : c < 13) (hk : k < zN c) : ∀ x, s.fieldFound? (zTb c k).1 (zTb c k).2.1 (zTb c k).2.2.1 = some x → s.fieldFound? (zRn c) (zTb c k).2.1 (zTb c k).2.2.1 = some x := by
  intro x hx
  rw [zOwn_ok hc k hk] at hx
  exact hx
theorem z_getI {a c idx k : Nat} (hd : decode M.2.1 pc = .ok (.getfield idx, 3)) (hl : Cond.fieldLink M.1.cls idx (zRn c) (zTb c k).2.1 (zTb c k).2.2.1 ∈ zGW) (hc : c < 13) (hk : k < zN c) (hr : zRef c k = false) (ha : zo h a c) (kk : Zt X M u v (pc + 3) lv (.int (h.2.1 a k) :: st) h r h') : Zt X M u v pc lv (.ref a :: st) h r h' := by
  intro l b D dT ak av p e R s m args below meth c0 H locs ls F P L
  obtain ⟨hx, hb, hml, hret, hlocks, hname, hown, hV, hbs, hroom, hX⟩ := id F
  exact va_get hx hb (z_hts hV) (zWs_in hc) hown hV.1 P.2.1 a (zE_obj ha hc) (zCl_at hc) k hk (z_hts hV _ hl) (z_same hc hk) (zFs_atI ha hk hr) hd (kk l b D dT ak av p e R s m args below meth c0 H locs ls F P L)
theorem z_getP {a c idx k : Nat} (hd : decode M.2.1 pc = .ok (.getfield idx, 3)) (hl : Cond.fieldLink M.1.cls idx (zRn c) (zTb c k).2.1 (zTb c k).2.2.1 ∈ zGW) (hc : c < 13) (hk : k < zN c) (hr : zRef c k = true) (ha : zo h a c) (kn : h.2.2 a k = none → Zt X M u v (pc + 3) lv (.null :: st) h r h') (ks : ∀ j, h.2.2 a k = some j → Zt X M u v (pc + 3) lv (.ref j :: st) h r h') : Zt X M u v pc lv (.ref a :: st) h r h' := by
  intro l b D dT ak av p e R s m args below meth c0 H locs ls F P L
  obtain ⟨hx, hb, hml, hret, hlocks, hname, hown, hV, hbs, hroom, hX⟩ := id F
  refine va_get hx hb (z_hts hV) (zWs_in hc) hown hV.1 P.2.1 a (zE_obj ha hc) (zCl_at hc) k hk (z_hts hV _ hl) (z_same hc hk) (zFs_atP ha hk hr) hd ?_
  cases hp : h.2.2 a k with
  | none => exact kn hp l b D dT ak av p e R s m args below meth c0 H locs ls F P L
  | some j => exact ks j hp l b D dT ak av p e R s m args below meth c0 H locs ls F P L
/-- a value that a field of kind k of class c may hold -/
def zfit (c k : Nat) (w : Value) : Prop := narrow (zTyF c k) w = w ∧ fits (zTyF c k) w = true
theorem zfit_int {c k : Nat} {x : Int32} (h : zTyF c k = .int) : zfit c k (.int x) := by
  unfold zfit
  rw [h]
  exact ⟨vp_nar_int x, rfl⟩
theorem zfit_bool {c k : Nat} {x : Int32} (h : zTyF c k = .boolean) (hx : x = 0 ∨ x = 1) : zfit c k (.int x) := by
  unfold zfit
  rw [h]
  rcases hx with rfl | rfl <;> decide
theorem zfit_ref {c k : Nat} {o : Option Nat} (h : zRef c k = true) : zfit c k (va_rf o) := by
  unfold zfit
  unfold zRef at h
  cases hty : zTyF c k <;> rw [hty] at h <;> first | (cases h; done) | (cases o <;> exact ⟨rfl, rfl⟩)
/-- a field is written: what the machine does -/
theorem z_put1 {p : Program} {l : Launch} {e : Env} {R : Room} {s : State} {m : MethodId} {args : Array Value} {below : List Frame} {meth : Method} {c0 : Code} {H : Heap} {locs : List Loc} {Q : State → Prop} {b : Nat} {D : va_G} {dT : Nat → ClassId} {ak : Nat → Option Nat} {av : Nat → Nat} {ls : Array Slot} {rest : List Value} {a c idx k : Nat} {w : Value} (F : zFx X M R b D dT ak av p s m args meth c0) (P : zHp b D dT s H locs h) (hd : decode M.2.1 pc = .ok (.putfield idx, 3)) (hl : Cond.fieldLink M.1.cls idx (zRn c) (zTb c k).2.1 (zTb c k).2.2.1 ∈ zGW) (hc : c < 13) (hk : k < zN c) (hf : (zTb c k).2.2.2 = false ∨ (M.1.name = "<init>" ∧ M.1.cls = zRn c)) (hz : zfit c k w) (ha : zo h a c) (kk : ∀ (H1 : Heap) (locs1 : List Loc), H1.size = H.size → va_P D vwCl ((zWs dT b h).set a (b + a, .inr (c, (zFs b h a).set k w))) H1 → va_S (fun q => b ≤ q) s.heap H1 locs1 → W p l e R s m args below meth c0 H1 locs1 u v Q (F0 m (pc + 3) ls rest)) : W p l e R s m args below meth c0 H locs u v Q (F0 m pc ls (w :: .ref (b + a) :: rest)) := by
  obtain ⟨hx, hb, hml, hret, hlocks, hname, hown, hV, hbs, hroom, hX⟩ := id F
  obtain ⟨hsz, hP, hS⟩ := P
  have hts : ∀ w ∈ zGW, w.before args s = true := z_hts hV
  have he := zE_obj (dT := dT) (b := b) ha hc
  have hap := va_apart (own := M.1.cls) hts (zWs_in hc) (zTyF c) (zTyF_ok hc) (zNm_ok hc) hV.1 (zCl_at hc)
  obtain ⟨r', h1, cell, q1, q2, q3, q4⟩ := hP a _ he
  have hr' : r' = (zRn c, zTb c, zN c) := Option.some.inj (h1.symm.trans (zCl_at hc))
  subst hr'
  obtain ⟨hSl, hfc, kC, hkC, hkind⟩ := hV.1.1 c _ (zCl_at hc)
  obtain ⟨cf, kf, fi, f, hi, hsl⟩ := hSl k hk
  have hlay := hts _ (zWs_in hc _ (u_in_lay hk))
  have hst := (u_facts hfc hkC (u_lays hts (zWs_in hc) hk) hi).1
  have hlen : k < (zFs b h a).length := by rw [zFs_len ha]; exact hk
  have fin : ∀ (H1 : Heap), H1[b + a]? = some (cell.setSlot (D.2 c k) w) → H1.size = H.size → (∀ q, q ≠ b + a → H1[q]? = H[q]?) → va_P D vwCl ((zWs dT b h).set a (b + a, .inr (c, (zFs b h a).set k w))) H1 := by
    intro H1 e1 e2 e3
    exact hP.set (zWs_D dT b h) he ⟨_, zCl_at hc, t_OB.to (V := updV (vp_V (zFs b h a)) k w) ⟨_, e1, q2, q3, t_set q4 hap hk w⟩ (fun j _ => vp_updV_set hlen w j)⟩ e3
  by_cases hfin : (zTb c k).2.2.2 = true
  · obtain ⟨hin2, hdecl⟩ : M.1.name = "<init>" ∧ M.1.cls = zRn c := by
      rcases hf with q | q
      · rw [hfin] at q; cases q
      · exact q
    unfold u_lay at hlay
    rw [if_pos hfin] at hlay
    have hcf : m.cls = cf := by
      obtain ⟨_, _, c', _, _, _, -, -, hf', -, -, -, hown2, -⟩ := Cond.laysFinal_spec hlay
      have e1 : c' = cf := by have := hi.symm.trans hf'; simp at this; exact this.1.symm
      rw [zOwn_ok hc k hk, ← hdecl] at hown2
      rw [← e1]; exact Option.some.inj (hown.symm.trans hown2)
    have h6 := u_fits hfc hkC hkind (Or.inr hlay) hi (zTyF_ok hc k hk) hz.1 hz.2
    refine W.putFinK hx hb hown (z_hts hV _ hl) (z_same hc hk _ hi) hst hcf (hname.trans hin2) (by rw [q2]; exact h6) q1 q3 (by rw [hsl]; exact k2_hasslot (q4 k hk)) rfl rfl hd fun H' e1 e2 e3 => ?_
    rw [hsl] at e1 ⊢
    exact kk H' _ e2 (fin H' e1 e2 e3) (hS.put e2 e3 (Nat.le_add_right b a))
  · unfold u_lay at hlay
    rw [if_neg hfin] at hlay
    have h6 := u_store hfc hkC hkind hlay hi (zTyF_ok hc k hk) hz.1 hz.2
    refine W.putK hx hb (f := f) ⟨hown, z_hts hV _ hl, ⟨_, _, _, z_same hc hk _ hi⟩, hst⟩ (by rw [q2]; exact h6) q1 q3 (by rw [hsl]; exact k2_hasslot (q4 k hk)) rfl rfl hd fun H' e1 e2 e3 => ?_
    rw [hsl] at e1 ⊢
    exact kk H' _ e2 (fin H' e1 e2 e3) (hS.put e2 e3 (Nat.le_add_right b a))
theorem z_putI {g : zG} {I : Nat → Nat → Int32} {Q : Nat → Nat → Option Nat} {a c idx k : Nat} {x : Int32} (hd : decode M.2.1 pc = .ok (.putfield idx, 3)) (hl : Cond.fieldLink M.1.cls idx (zRn c) (zTb c k).2.1 (zTb c k).2.2.1 ∈ zGW) (hc : c < 13) (hk : k < zN c) (hr : zRef c k = false) (hf : (zTb c k).2.2.2 = false ∨ (M.1.name = "<init>" ∧ M.1.cls = zRn c)) (hz : zfit c k (.int x)) (ha : zo (g, I, Q) a c) (kk : Zt X M u v (pc + 3) lv st (g, zU I a k x, Q) r h') : Zt X M u v pc lv (.int x :: .ref a :: st) (g, I, Q) r h' := by
  intro l b D dT ak av p e R s m args below meth c0 H locs ls F P L
  refine z_put1 (w := .int x) F P hd hl hc hk hf hz ha fun H1 locs1 hs hP hS => ?_
  rw [zWs_setFI (g := g) (I := I) (P := Q) ha.2 hc hr] at hP
  exact kk l b D dT ak av p e R s m args below meth c0 H1 locs1 ls F ⟨hs.trans P.1, hP, hS⟩ L
theorem z_putP {g : zG} {I : Nat → Nat → Int32} {Q : Nat → Nat → Option Nat} {a c idx k j : Nat} (hd : decode M.2.1 pc = .ok (.putfield idx, 3)) (hl : Cond.fieldLink M.1.cls idx (zRn c) (zTb c k).2.1 (zTb c k).2.2.1 ∈ zGW) (hc : c < 13) (hk : k < zN c) (hr : zRef c k = true) (hf : (zTb c k).2.2.2 = false ∨ (M.1.name = "<init>" ∧ M.1.cls = zRn c)) (ha : zo (g, I, Q) a c) (kk : Zt X M u v (pc + 3) lv st (g, I, zU Q a k (some j)) r h') : Zt X M u v pc lv (.ref j :: .ref a :: st) (g, I, Q) r h' := by
  intro l b D dT ak av p e R s m args below meth c0 H locs ls F P L
  refine z_put1 (w := va_rf ((some j).map (fun j => b + j))) F P hd hl hc hk hf (zfit_ref hr) ha fun H1 locs1 hs hP hS => ?_
  rw [zWs_setFP (g := g) (I := I) (P := Q) ha.2 hc hr] at hP
  exact kk l b D dT ak av p e R s m args below meth c0 H1 locs1 ls F ⟨hs.trans P.1, hP, hS⟩ L
theorem z_iald {a : Nat} {i : Int32} (hd : decode M.2.1 pc = .ok (.iaload, 1)) (ha : zo h a 13) (hi : vp_in i (h.1.2.2 a)) (kk : Zt X M u v (pc + 1) lv (.int (h.2.1 a i.toNatClampNeg) :: st) h r h') : Zt X M u v pc lv (.int i :: .ref a :: st) h r h' := by
  intro l b D dT ak av p e R s m args below meth c0 H locs ls F P L
  obtain ⟨hx, hb, hml, hret, hlocks, hname, hown, hV, hbs, hroom, hX⟩ := id F
  exact va_iald hx hb hV.1 P.2.1 a 0 (zE_ints ha (by decide) (by decide)) (zTys_at dT (t := 13) (by decide) (by decide)) hi hd (kk l b D dT ak av p e R s m args below meth c0 H locs ls F P L)
theorem z_zald {a : Nat} {i : Int32} (hd : decode M.2.1 pc = .ok (.baload, 1)) (ha : zo h a 14) (hi : vp_in i (h.1.2.2 a)) (kk : Zt X M u v (pc + 1) lv (.int (h.2.1 a i.toNatClampNeg) :: st) h r h') : Zt X M u v pc lv (.int i :: .ref a :: st) h r h' := by
  intro l b D dT ak av p e R s m args below meth c0 H locs ls F P L
  obtain ⟨hx, hb, hml, hret, hlocks, hname, hown, hV, hbs, hroom, hX⟩ := id F
  exact va_zald hx hb hV.1 P.2.1 a 1 (zE_ints ha (by decide) (by decide)) (zTys_at dT (t := 14) (by decide) (by decide)) hi hd (kk l b D dT ak av p e R s m args below meth c0 H locs ls F P L)
theorem zTy_obj {c : Nat} (h1 : 15 ≤ c) : ∃ C, zTy c = .object C := by
  unfold zTy
  split <;> first | exact ⟨_, rfl⟩ | omega
theorem z_aald {a c : Nat} {i : Int32} (hd : decode M.2.1 pc = .ok (.aaload, 1)) (ha : zo h a c) (h1 : 15 ≤ c) (h2 : c < 20) (hi : vp_in i (h.1.2.2 a)) (kn : h.2.2 a i.toNatClampNeg = none → Zt X M u v (pc + 1) lv (.null :: st) h r h') (ks : ∀ j, h.2.2 a i.toNatClampNeg = some j → Zt X M u v (pc + 1) lv (.ref j :: st) h r h') : Zt X M u v pc lv (.int i :: .ref a :: st) h r h' := by
  intro l b D dT ak av p e R s m args below meth c0 H locs ls F P L
  obtain ⟨hx, hb, hml, hret, hlocks, hname, hown, hV, hbs, hroom, hX⟩ := id F
  obtain ⟨C, hC⟩ := zTy_obj h1
  refine va_aldq hx hb hV.1 P.2.1 a (c - 13) (zE_refs ha h1) ((zTys_at dT (t := c) (by omega) h2).trans (by rw [hC])) hi hd ?_
  cases hp : h.2.2 a i.toNatClampNeg with
  | none => exact kn hp l b D dT ak av p e R s m args below meth c0 H locs ls F P L
  | some j => exact ks j hp l b D dT ak av p e R s m args below meth c0 H locs ls F P L
theorem z_alen {a c : Nat} (hd : decode M.2.1 pc = .ok (.arraylength, 1)) (ha : zo h a c) (h1 : 13 ≤ c) (h2 : c < 20) (kk : Zt X M u v (pc + 1) lv (.int (Int32.ofNat (h.1.2.2 a)) :: st) h r h') : Zt X M u v pc lv (.ref a :: st) h r h' := by
  intro l b D dT ak av p e R s m args below meth c0 H locs ls F P L
  obtain ⟨hx, hb, hml, hret, hlocks, hname, hown, hV, hbs, hroom, hX⟩ := id F
  by_cases h15 : c < 15
  · exact va_alen hx hb hV.1 P.2.1 a (c - 13) (zE_ints ha h1 h15) (zTys_at dT (t := c) h1 h2) rfl hd (kk l b D dT ak av p e R s m args below meth c0 H locs ls F P L)
  · exact va_alen hx hb hV.1 P.2.1 a (c - 13) (zE_refs ha (by omega)) (zTys_at dT (t := c) h1 h2) rfl hd (kk l b D dT ak av p e R s m args below meth c0 H locs ls F P L)
theorem z_iast {g : zG} {I : Nat → Nat → Int32} {Q : Nat → Nat → Option Nat} {a : Nat} {i x : Int32} (hd : decode M.2.1 pc = .ok (.iastore, 1)) (ha : zo (g, I, Q) a 13) (hi : vp_in i (g.2.2 a)) (kk : Zt X M u v (pc + 1) lv st (g, zU I a i.toNatClampNeg x, Q) r h') : Zt X M u v pc lv (.int x :: .int i :: .ref a :: st) (g, I, Q) r h' := by
  intro l b D dT ak av p e R s m args below meth c0 H locs ls F P L
  obtain ⟨hx, hb, hml, hret, hlocks, hname, hown, hV, hbs, hroom, hX⟩ := id F
  have he := zE_ints (dT := dT) (b := b) ha (by decide) (by decide)
  refine W.iast hx hb (P.2.1 a _ he) ((hV.1.2 0 _ (zTys_at dT (t := 13) (by decide) (by decide))).1 (g.2.2 a) (fun j => .int (I a j))) (fun q => by cases q) (by show ¬ (i < 0 ∨ (arrV _ _ _).slots.size ≤ _); rw [arrV_size]; exact hi) rfl rfl hd fun H1 e1 z oq => ?_
  have hP : va_P D vwCl ((zWs dT b (g, I, Q)).set a (b + a, .inl (dT 13, g.2.2 a, .inl (upd (I a) i.toNatClampNeg x)))) H1 := by
    refine P.2.1.set (zWs_D dT b _) he ?_ oq
    show H1[b + a]? = some (vp_cell _ _)
    rw [e1, vp_cell_i, vp_cell_i, arrV_store]
    congr 2
    funext q
    by_cases hq : q = i.toNatClampNeg
    · subst hq
      simp [updV, upd]
    · simp [updV, upd, hq]
  rw [zWs_setAI ha.2 (by decide) (by decide)] at hP
  exact kk l b D dT ak av p e R s m args below meth c0 H1 _ ls F ⟨z.trans P.1, hP, P.2.2.put z oq (Nat.le_add_right b a)⟩ L
theorem z_zast {g : zG} {I : Nat → Nat → Int32} {Q : Nat → Nat → Option Nat} {a : Nat} {i x : Int32} (hd : decode M.2.1 pc = .ok (.bastore, 1)) (ha : zo (g, I, Q) a 14) (hi : vp_in i (g.2.2 a)) (hxb : x = 0 ∨ x = 1) (kk : Zt X M u v (pc + 1) lv st (g, zU I a i.toNatClampNeg x, Q) r h') : Zt X M u v pc lv (.int x :: .int i :: .ref a :: st) (g, I, Q) r h' := by
  intro l b D dT ak av p e R s m args below meth c0 H locs ls F P L
  obtain ⟨hx, hb, hml, hret, hlocks, hname, hown, hV, hbs, hroom, hX⟩ := id F
  have he := zE_ints (dT := dT) (b := b) ha (by decide) (by decide)
  refine W.zast hx hb (P.2.1 a _ he) ((hV.1.2 1 _ (zTys_at dT (t := 14) (by decide) (by decide))).1 (g.2.2 a) (fun j => .int (I a j))) (fun q => by cases q) (by show ¬ (i < 0 ∨ (arrV _ _ _).slots.size ≤ _); rw [arrV_size]; exact hi) rfl rfl hd fun H1 e1 z oq => ?_
  have hnx : narrow .boolean (.int x) = .int x := by rcases hxb with rfl | rfl <;> decide
  rw [hnx] at e1
  have hP : va_P D vwCl ((zWs dT b (g, I, Q)).set a (b + a, .inl (dT 14, g.2.2 a, .inl (upd (I a) i.toNatClampNeg x)))) H1 := by
    refine P.2.1.set (zWs_D dT b _) he ?_ oq
    show H1[b + a]? = some (vp_cell _ _)
    rw [e1, vp_cell_i, vp_cell_i, arrV_store]
    congr 2
    funext q
    by_cases hq : q = i.toNatClampNeg
    · subst hq
      simp [updV, upd]
    · simp [updV, upd, hq]
  rw [zWs_setAI ha.2 (by decide) (by decide)] at hP
  exact kk l b D dT ak av p e R s m args below meth c0 H1 _ ls F ⟨z.trans P.1, hP, P.2.2.put z oq (Nat.le_add_right b a)⟩ L
theorem z_aast {g : zG} {I : Nat → Nat → Int32} {Q : Nat → Nat → Option Nat} {a j t cv : Nat} {i : Int32} (hd : decode M.2.1 pc = .ok (.aastore, 1)) (ha : zo (g, I, Q) a t) (ht : 15 ≤ t ∧ t < 20) (hcv : cv < 13) (hty : zTy t = .object (zRn cv)) (hj : zo (g, I, Q) j cv) (hi : vp_in i (g.2.2 a)) (kk : Zt X M u v (pc + 1) lv st (g, I, zU Q a i.toNatClampNeg (some j)) r h') : Zt X M u v pc lv (.ref j :: .int i :: .ref a :: st) (g, I, Q) r h' := by
  intro l b D dT ak av p e R s m args below meth c0 H locs ls F P L
  obtain ⟨hx, hb, hml, hret, hlocks, hname, hown, hV, hbs, hroom, hX⟩ := id F
  have he := zE_refs (dT := dT) (b := b) ha ht.1
  have hev := zE_obj (dT := dT) (b := b) hj hcv
  have hty2 := (zTys_at dT (t := t) (by omega) ht.2).trans (by rw [hty])
  have hlt : i.toNatClampNeg < g.2.2 a := Nat.not_le.mp fun q => hi (Or.inr q)
  have h0 : ¬ i < 0 := fun q => hi (Or.inl q)
  obtain ⟨r', hr', cellV, g1, g2, g3, -⟩ := P.2.1 j _ hev
  have hcls := (hV.1.1 cv _ (zCl_at hcv)).2
  obtain ⟨kA, comp, k1, k2, k3, -⟩ := (hV.1.2 (t - 13) _ hty2).2
  have hcomp : comp = D.1 cv := Option.some.inj (k3.symm.trans hcls.1)
  subst hcomp
  have hasg := va_assign hcls
  obtain ⟨kC, hkC, -⟩ := hcls.2
  refine W.aast hx hb (P.2.1 a _ he) (fun q h => by cases h) (fun h => by cases h) k1 k2 rfl hkC ⟨h0, by show _ < (arrV _ _ _).slots.size; rw [arrV_size]; exact hlt⟩ g1 (fun q h => by rw [g3] at h; cases h) (by rw [g2]; exact hkC) (by rw [g2]; exact hasg) rfl rfl hd fun H1 e1 z oq => ?_
  have hP : va_P D vwCl ((zWs dT b (g, I, Q)).set a (b + a, .inl (dT t, g.2.2 a, .inr (.inr (.inr (.inr (va_up (fun j => (Q a j).map (fun j => b + j)) i.toNatClampNeg (some (b + j))))))))) H1 := by
    refine P.2.1.set (zWs_D dT b _) he ?_ oq
    show H1[b + a]? = some (vp_cell _ _)
    rw [e1, vp_cell_q, vp_cell_q, arrV_store]
    congr 2
    funext q
    by_cases hq : q = i.toNatClampNeg
    · subst hq
      simp [updV, va_up, va_rf]
    · simp [updV, va_up, hq]
  rw [zWs_setAP (g := g) (I := I) (P := Q) ha.2 ht.1] at hP
  exact kk l b D dT ak av p e R s m args below meth c0 H1 _ ls F ⟨z.trans P.1, hP, P.2.2.put z oq (Nat.le_add_right b a)⟩ L
end ZH
end
section
/-! ===== making cells, returns, entries, calls ===== -/
theorem zDf {c : Nat} (hc : c < 13) : ∀ k, k < zN c → defaultValue (zTyF c k) = (if zRef c k = true then Value.null else .int 0) := z_c13 (P := fun c => ∀ k, k < zN c → defaultValue (zTyF c k) = (if zRef c k = true then Value.null else .int 0)) ⟨by decide +kernel, by decide +kernel, by decide +kernel, by decide +kernel, by decide +kernel, by decide +kernel, by decide +kernel, by decide +kernel, by decide +kernel, by decide +kernel, by decide +kernel, by decide +kernel, by decide +kernel⟩ hc
section ZN
variable {X : Option (Nat × (Nat → Int32))} {M : zM} {u v pc : Nat} {lv : List (Nat × Value)} {st : List Value} {h : zH} {r : Option Value} {h' : zH}
theorem z_grow {b : Nat} {D : va_G} {dT : Nat → ClassId} {s : State} {H H1 : Heap} {locs : List Loc} {c n : Nat} (P : zHp b D dT s H locs h) (z1 : H1.size = H.size + 1) (o1 : ∀ q, q < H.size → H1[q]? = H[q]?) (he : va_at D vwCl (b + h.1.1, zE dT b (zNew h c n) h.1.1) H1) : zHp b D dT s H1 locs (zNew h c n) := by
  obtain ⟨hs, hP, hS⟩ := P
  refine ⟨by rw [z1, hs]; rfl, ?_, Nat.le_trans hS.1 (by omega), fun x h1 h2 => (o1 x (Nat.lt_of_lt_of_le h1 hS.1)).trans (hS.2.1 x h1 h2), hS.2.2⟩
  rw [← zWs_new (c := c) (n := n) rfl]
  have hk : ∀ (k : Nat) (x : Nat × va_E), (zWs dT b h)[k]? = some x → H1[x.1]? = H[x.1]? := fun k x hx => o1 x.1 ((hP k x hx).lt)
  refine (hP.kept hk).app (fun k x hx => ?_)
  have hz : k < 1 := (List.getElem?_eq_some_iff.mp hx).1
  rw [show k = 0 by omega] at hx
  cases hx
  exact he
theorem zNew_tag (h : zH) (c n : Nat) : (zNew h c n).1.2.1 h.1.1 = c := by simp [zNew]
theorem zNew_len (h : zH) (c n : Nat) : (zNew h c n).1.2.2 h.1.1 = n := by simp [zNew]
theorem zNew_I (h : zH) (c n k : Nat) : (zNew h c n).2.1 h.1.1 k = 0 := by simp [zNew]
theorem zNew_P (h : zH) (c n k : Nat) : (zNew h c n).2.2 h.1.1 k = none := by simp [zNew]
theorem z_new {c idx : Nat} (hd : decode M.2.1 pc = .ok (.new idx, 3)) (hl : Cond.classLink M.1.cls idx (zRn c) ∈ zGW) (hi : Cond.instantiable (zRn c) (zN c) ∈ zGW) (hn : Cond.initialized (zRn c) ∈ zGW) (hc : c < 13) (hu : u + 1 ≤ M.2.2.2.2.2.1) (hv : v + zN c ≤ M.2.2.2.2.2.2) (kk : Zt X M (u + 1) (v + zN c) (pc + 3) lv (.ref h.1.1 :: st) (zNew h c 0) r h') : Zt X M u v pc lv st h r h' := by
  intro l b D dT ak av p e R s m args below meth c0 H locs ls F P L
  obtain ⟨hx, hb, hml, hret, hlocks, hname, hown, hV, hbs, hroom, hX⟩ := id F
  have hKn := hV.1.1 c _ (zCl_at hc)
  refine W.newcK hx hb hown (z_hts hV _ hl) (z_hts hV _ hi) (z_hts hV _ hn) rfl hd (by rw [hroom.2.2.1]; exact hu) (by rw [hroom.2.2.2]; exact hv) hKn.2.1 rfl fun H1 kC hkC e1 z1 o1 => ?_
  have he : va_at D vwCl (b + h.1.1, zE dT b (zNew h c 0) h.1.1) H1 := by
    rw [show zE dT b (zNew h c 0) h.1.1 = .inr (c, zFs b (zNew h c 0) h.1.1) by unfold zE; rw [zNew_tag]; simp [hc]]
    refine ⟨_, zCl_at hc, ?_⟩
    rw [← P.1]
    refine (u_born (args := args) (zTyF c) (z_hts hV) (zWs_in hc) hKn hkC e1 (zTyF_ok hc)).to (fun j hj => ?_)
    rw [zDf hc j hj]
    have hj : j < zN c := hj
    simp only [vp_V, zFs, zNew_tag, zNew_I, zNew_P]
    rw [List.getD_eq_getElem?_getD]
    simp only [List.getElem?_map, List.getElem?_range hj, Option.map_some, Option.getD_some, Option.map_none, va_rf]
  have P1 := z_grow P z1 o1 he
  have k1 := kk l b D dT ak av p e R s m args below meth c0 H1 locs ls F P1 L
  rw [show (List.map (zr b ak) (Value.ref h.1.1 :: st)) = Value.ref H.size :: List.map (zr b ak) st by rw [P.1]; rfl] at k1
  exact k1
theorem z_newI {n : Int32} {N : Nat} (hd : decode M.2.1 pc = .ok (.newarray .int, 2)) (ha : Cond.arrayClass .int ∈ zGW) (hn : ¬ n < 0) (hN : n.toNatClampNeg = N) (hb2 : N * 4 ≤ 536870912) (hu : u + 1 ≤ M.2.2.2.2.2.1) (hv : v + N ≤ M.2.2.2.2.2.2) (kk : Zt X M (u + 1) (v + N) (pc + 2) lv (.ref h.1.1 :: st) (zNew h 13 N) r h') : Zt X M u v pc lv (.int n :: st) h r h' := by
  intro l b D dT ak av p e R s m args below meth c0 H locs ls F P L
  obtain ⟨hx, hb, hml, hret, hlocks, hname, hown, hV, hbs, hroom, hX⟩ := id F
  refine va_newaK (atype := .int) hx hb (z_hts hV _ ha) rfl hd rfl hn hN hb2 (by rw [hroom.2.2.1]; exact hu) (by rw [hroom.2.2.2]; exact hv) rfl fun H1 cA e1 z1 o1 hAr hNm => ?_
  have hcA : cA = dT 13 := Option.some.inj (hNm.symm.trans (hV.1.2 0 _ (zTys_at dT (t := 13) (by decide) (by decide))).2)
  subst hcA
  have he : va_at D vwCl (b + h.1.1, zE dT b (zNew h 13 N) h.1.1) H1 := by
    rw [show zE dT b (zNew h 13 N) h.1.1 = .inl (dT 13, N, .inl (fun _ => 0)) by unfold zE; rw [zNew_tag, zNew_len]; simp [zNew]]
    rw [← P.1]
    exact e1
  have P1 := z_grow P z1 o1 he
  have k1 := kk l b D dT ak av p e R s m args below meth c0 H1 locs ls F P1 L
  rw [show (List.map (zr b ak) (Value.ref h.1.1 :: st)) = Value.ref H.size :: List.map (zr b ak) st by rw [P.1]; rfl] at k1
  exact k1
theorem z_newZ {n : Int32} {N : Nat} (hd : decode M.2.1 pc = .ok (.newarray .boolean, 2)) (ha : Cond.arrayClass .boolean ∈ zGW) (hn : ¬ n < 0) (hN : n.toNatClampNeg = N) (hb2 : N * 1 ≤ 536870912) (hu : u + 1 ≤ M.2.2.2.2.2.1) (hv : v + N ≤ M.2.2.2.2.2.2) (kk : Zt X M (u + 1) (v + N) (pc + 2) lv (.ref h.1.1 :: st) (zNew h 14 N) r h') : Zt X M u v pc lv (.int n :: st) h r h' := by
  intro l b D dT ak av p e R s m args below meth c0 H locs ls F P L
  obtain ⟨hx, hb, hml, hret, hlocks, hname, hown, hV, hbs, hroom, hX⟩ := id F
  refine va_newaK (atype := .boolean) hx hb (z_hts hV _ ha) rfl hd rfl hn hN hb2 (by rw [hroom.2.2.1]; exact hu) (by rw [hroom.2.2.2]; exact hv) rfl fun H1 cA e1 z1 o1 hAr hNm => ?_
  have hcA : cA = dT 14 := Option.some.inj (hNm.symm.trans (hV.1.2 1 _ (zTys_at dT (t := 14) (by decide) (by decide))).2)
  subst hcA
  have he : va_at D vwCl (b + h.1.1, zE dT b (zNew h 14 N) h.1.1) H1 := by
    rw [show zE dT b (zNew h 14 N) h.1.1 = .inl (dT 14, N, .inl (fun _ => 0)) by unfold zE; rw [zNew_tag, zNew_len]; simp [zNew]]
    rw [← P.1]
    exact e1
  have P1 := z_grow P z1 o1 he
  have k1 := kk l b D dT ak av p e R s m args below meth c0 H1 locs ls F P1 L
  rw [show (List.map (zr b ak) (Value.ref h.1.1 :: st)) = Value.ref H.size :: List.map (zr b ak) st by rw [P.1]; rfl] at k1
  exact k1
theorem z_anew {n : Int32} {N t idx : Nat} {C : String} (hd : decode M.2.1 pc = .ok (.anewarray idx, 3)) (hl : Cond.classLink M.1.cls idx C ∈ zGW) (ht : 15 ≤ t ∧ t < 20) (hC : zTy t = .object C) (hCm : C ∈ [RX0, RX3, RX4, RX5, RX9]) (hn : ¬ n < 0) (hN : n.toNatClampNeg = N) (hb2 : N * 4 ≤ 536870912) (hu : u + 1 ≤ M.2.2.2.2.2.1) (hv : v + N ≤ M.2.2.2.2.2.2) (kk : Zt X M (u + 1) (v + N) (pc + 3) lv (.ref h.1.1 :: st) (zNew h t N) r h') : Zt X M u v pc lv (.int n :: st) h r h' := by
  subst hN
  intro l b D dT ak av p e R s m args below meth c0 H locs ls F P L
  obtain ⟨hx, hb, hml, hret, hlocks, hname, hown, hV, hbs, hroom, hX⟩ := id F
  refine W.anew hx hb hown (z_hts hV _ hl) (va_AO.use (hV.2.2.1 C hCm)) rfl hd rfl hn hb2 (by rw [hroom.2.2.1]; exact hu) (by rw [hroom.2.2.2]; exact hv) fun cA kA comp f1 f2 f3 f4 => ?_
  generalize hH1 : H.push ({ cls := cA, slots := Array.replicate n.toNatClampNeg .null, vm := .none } : Cell) = H1
  have z1 : H1.size = H.size + 1 := by rw [← hH1, Array.size_push]
  have e1 : H1[H.size]? = some (arrV cA n.toNatClampNeg (fun _ => .null)) := by rw [← hH1, Array.getElem?_push_size, ← arrV_new]
  have o1 : ∀ q : Nat, q < H.size → H1[q]? = H[q]? := fun q hq => by rw [← hH1, Array.getElem?_push, if_neg (Nat.ne_of_lt hq)]
  have hcA : cA = dT t := by
    have hq := (hV.1.2 (t - 13) _ (zTys_at dT (t := t) (by omega) ht.2)).2
    rw [hC] at hq
    obtain ⟨_, _, -, -, -, g4⟩ := hq
    exact Option.some.inj (f1.symm.trans g4)
  subst hcA
  have he : va_at D vwCl (b + h.1.1, zE dT b (zNew h t n.toNatClampNeg) h.1.1) H1 := by
    have a1 : ¬ t < 13 := by omega
    have a2 : ¬ t < 15 := by omega
    rw [show zE dT b (zNew h t n.toNatClampNeg) h.1.1 = .inl (dT t, n.toNatClampNeg, .inr (.inr (.inr (.inr (fun _ => none))))) by unfold zE; rw [zNew_tag, zNew_len]; simp [zNew, a1, a2]]
    rw [← P.1]
    exact e1
  have P1 := z_grow P z1 o1 he
  have k1 := kk l b D dT ak av p e R s m args below meth c0 H1 locs ls F P1 L
  rw [show (List.map (zr b ak) (Value.ref h.1.1 :: st)) = Value.ref H.size :: List.map (zr b ak) st by rw [P.1]; rfl] at k1
  exact k1
-- returns
theorem z_end {b : Nat} {D : va_G} {dT : Nat → ClassId} {ak : Nat → Option Nat} {s t : State} {H : Heap} {locs : List Loc} {args : Array Value} (P : zHp b D dT s H locs h) (ht : t.heap = H) (w : Option Value) : zQc b D dT ak w h args s (.returned (w.map (zr b ak))) t := ⟨rfl, by rw [ht]; exact P.1, by rw [ht]; exact P.2.1, P.2.2.F ht⟩
theorem z_iret {x : Int32} (hd : decode M.2.1 pc = .ok (.ireturn, 1)) (hr : M.2.2.2.1 = some .int) (hu : u ≤ M.2.2.2.2.2.1) (hv : v ≤ M.2.2.2.2.2.2) : Zt X M u v pc lv [.int x] h (some (.int x)) h := by
  intro l b D dT ak av p e R s m args below meth c0 H locs ls F P L
  exact W.widen hu hv (W.iret F.1 F.2.1 (F.2.2.2.1.trans hr) (fun t ht _ => z_end P ht (some (.int x))) P.2.2.2.2 hd F.2.2.2.2.1)
theorem z_zret {x : Int32} (hd : decode M.2.1 pc = .ok (.ireturn, 1)) (hr : M.2.2.2.1 = some .boolean) (hx : x = 0 ∨ x = 1) (hu : u ≤ M.2.2.2.2.2.1) (hv : v ≤ M.2.2.2.2.2.2) : Zt X M u v pc lv [.int x] h (some (.int x)) h := by
  intro l b D dT ak av p e R s m args below meth c0 H locs ls F P L
  exact W.widen hu hv (W.zret F.1 F.2.1 (F.2.2.2.1.trans hr) (by rcases hx with rfl | rfl <;> decide) (fun t ht _ => z_end P ht (some (.int x))) P.2.2.2.2 hd F.2.2.2.2.1)
theorem z_lret {x : Int64} (hd : decode M.2.1 pc = .ok (.lreturn, 1)) (hr : M.2.2.2.1 = some .long) (hu : u ≤ M.2.2.2.2.2.1) (hv : v ≤ M.2.2.2.2.2.2) : Zt X M u v pc lv [.long x] h (some (.long x)) h := by
  intro l b D dT ak av p e R s m args below meth c0 H locs ls F P L
  exact W.widen hu hv (W.lret F.1 F.2.1 (F.2.2.2.1.trans hr) (fun t ht _ => z_end P ht (some (.long x))) P.2.2.2.2 hd F.2.2.2.2.1)
theorem z_aret {w : Value} {C : String} (hd : decode M.2.1 pc = .ok (.areturn, 1)) (hr : M.2.2.2.1 = some (.object C)) (hw : zrn w = true) (hu : u ≤ M.2.2.2.2.2.1) (hv : v ≤ M.2.2.2.2.2.2) : Zt X M u v pc lv [w] h (some w) h := by
  intro l b D dT ak av p e R s m args below meth c0 H locs ls F P L
  refine W.widen hu hv (W.aret F.1 F.2.1 (F.2.2.2.1.trans hr) (Or.inl ⟨C, rfl⟩) ?_ (fun t ht _ => z_end P ht (some w)) P.2.2.2.2 hd F.2.2.2.2.1)
  cases w <;> first | exact Or.inl rfl | exact Or.inr ⟨_, rfl⟩ | cases hw
theorem z_vret (hd : decode M.2.1 pc = .ok (.return_, 1)) (hr : M.2.2.2.1 = none) (hu : u ≤ M.2.2.2.2.2.1) (hv : v ≤ M.2.2.2.2.2.2) : Zt X M u v pc lv [] h none h := by
  intro l b D dT ak av p e R s m args below meth c0 H locs ls F P L
  exact W.widen hu hv (W.vret F.1 F.2.1 (F.2.2.2.1.trans hr) (fun t ht _ => z_end P ht none) P.2.2.2.2 hd F.2.2.2.2.1)
end ZN
end
section
/-! ===== entries and calls ===== -/
theorem z_args (b : Nat) (ak : Nat → Option Nat) (as : List Value) : ∀ i, lv_args i (as.map (zr b ak)) = zLs b ak (lv_args i as) := by
  induction as with
  | nil => intro i; rfl
  | cons w t ih =>
    intro i
    simp only [List.map_cons, lv_args, zr_cat, zLs, ih]
theorem z_sl (b : Nat) (ak : Nat → Option Nat) (as : List Value) : (lg_sl (as.map (zr b ak))).length = (lg_sl as).length := by
  induction as with
  | nil => rfl
  | cons w t ih =>
    simp only [lg_sl, List.map_cons, List.flatMap_cons, List.length_append, zr_cat] at ih ⊢
    rw [ih]
    congr 1
    split <;> rfl
theorem Cl.of {M : zM} {as : List Value} {h : zH} {r : Option Value} {h' : zH} (hy : plainName M.1.cls = true) (hn : (lg_sl as).length ≤ M.2.2.1) (k : Zt none M 0 0 0 (lv_args 0 as) [] h r h') : Cl M as h r h' := by
  intro l b D dT ak av
  refine Met.ofW (cc := M.2.1) (maxL := M.2.2.1) (ret := M.2.2.2.1) hy rfl ?_
  intro p e s m args below meth c s₁ B hml hv
  obtain ⟨rfl, hb0, hsz, hP, hV⟩ := hv
  have hl := lv_entry (as.map (zr b ak)) (n := M.2.2.1) (by rw [z_sl]; exact hn)
  rw [lg_entry_eq]
  generalize (lg_sl (as.map (zr b ak)) ++ List.replicate (M.2.2.1 - (lg_sl (as.map (zr b ak))).length) Slot.unset).toArray = ls at hl ⊢
  rw [z_args] at hl
  exact k l b D dT ak av p e _ s m _ below meth c s.heap [] ls ⟨B.exec, B.bytes, hml, B.returns, B.notSynchronized, (name_of_methodNamed B.named B.method).1, findClass_of_methodNamed B.named, hV, hb0, ⟨Nat.le_refl _, Nat.le_refl _, rfl, rfl⟩, fun x hx => by cases hx⟩ ⟨hsz, hP, va_S.rf⟩ hl
/-- what the tables say of a callee -/
def zcF (M' : zM) (n : Nat) : Prop := Cond.code M'.1 M'.2.1 M'.2.2.1 M'.2.2.2.1 ∈ zGW ∧ Cond.initialized M'.1.cls ∈ zGW ∧ M'.1.cls ≠ "java/lang/invoke/MethodHandle" ∧ M'.1.cls ≠ "java/lang/invoke/VarHandle" ∧ (parseMethodDescriptor M'.1.desc).map (fun d => d.parameters.length) = some n
def zcV (M' : zM) (n c : Nat) : Prop := zcF M' n ∧ Cond.instanceMethod M'.1 ∈ zGW ∧ Cond.selects M'.1.cls M'.1 M'.1 ∈ zGW ∧ c < 13 ∧ zRn c = M'.1.cls
def zcS (M' : zM) (n : Nat) : Prop := zcF M' n ∧ Cond.static M'.1 ∈ zGW
def zcI (M' : zM) (n : Nat) : Prop := zcF M' n ∧ M'.1.name = "<init>" ∧ Cond.instanceMethod M'.1 ∈ zGW ∧ M'.2.2.2.1 = none
def zln (own : String) (idx : Nat) (y : MethodName) : Prop := Cond.methodLink own idx y ∈ zGW ∨ ∃ host, Cond.methodLinkNest own idx y host ∈ zGW
def zfr (M M' : zM) : Prop := M'.2.2.2.2.1 + 1 ≤ M.2.2.2.2.1 ∧ M'.2.2.1 ≤ 60
theorem zPc_blind {b : Nat} {D : va_G} {dT : Nat → ClassId} {ak : Nat → Option Nat} {av : Nat → Nat} {as : List Value} {h : zH} : FrameBlind (zPc b D dT ak av as h) := fun _ _ _ _ q => ⟨q.1, q.2.1, q.2.2.1, q.2.2.2.1, zV_calling q.2.2.2.2⟩
section ZC
variable {X : Option (Nat × (Nat → Int32))} {M : zM} {u v pc : Nat} {lv : List (Nat × Value)} {st : List Value} {h : zH} {r : Option Value} {h' : zH}
theorem z_run {p : Program} {l : Launch} {e : Env} {R : Room} {s : State} {m : MethodId} {args : Array Value} {below : List Frame} {meth : Method} {c0 : Code} {H : Heap} {locs : List Loc} {b : Nat} {D : va_G} {dT : Nat → ClassId} {ak : Nat → Option Nat} {av : Nat → Nat} {ls : Array Slot} {st0 : List Value} {mc ms : Nat} {r1 : Option Value} {h1 : zH} {a : Array Value} (hr : va_Run p l e R s m args below meth c0 H locs u v mc ms (F0 m pc ls st0) (st.map (zr b ak)) (zQc b D dT ak r1 h1 a) (fun q => b ≤ q)) (F : zFx X M R b D dT ak av p s m args meth c0) (P : zHp b D dT s H locs h) (L : lv_has ls M.2.2.1 (zLs b ak lv)) (k : Zt X M (u + mc) (v + ms) (pc + 3) lv (r1.toList ++ st) h1 r h') : W p l e R s m args below meth c0 H locs u v (MQ below (zQc b D dT ak r h') args s M.2.2.2.2.2.1 M.2.2.2.2.2.2 (fun q => b ≤ q)) (F0 m pc ls st0) := by
  intro T hT X1
  obtain ⟨w, st₀, t, T', L1, h0, X', hL, e1, e2, ⟨hv, hsz, hP, hF1, hF2⟩, go⟩ := hr T hT X1
  cases hv
  have hS := P.2.2
  rw [h0] at hF1 hF2
  have P1 : zHp b D dT s T'.heap (locs ++ L1) h1 := by
    refine ⟨by rw [e1]; exact hsz, by rw [e1]; exact hP, ?_⟩
    refine ⟨Nat.le_trans hS.1 (by rw [e1]; exact hF1), fun q g1 g2 => ?_, fun q hq => ?_⟩
    · rw [e1, hF2 q (Nat.lt_of_lt_of_le g1 hS.1) g2]
      exact hS.2.1 q g1 g2
    · rcases List.mem_append.mp hq with g | g
      · exact hS.2.2 q g
      · exact hL q g
  obtain ⟨t2, a1, b1⟩ := k l b D dT ak av p e R s m args below meth c0 T'.heap (locs ++ L1) ls F P1 L T' rfl X'
  refine ⟨t2, go t2 ?_, b1⟩
  have hstk : List.map (zr b ak) (r1.toList ++ st) = (r1.map (zr b ak)).toList ++ List.map (zr b ak) st := by cases r1 <;> rfl
  rw [hstk] at a1
  exact a1
theorem z_words {M' : zM} {n : Nat} {R : Room} {s : State} {args : Array Value} {b : Nat} {D : va_G} {dT : Nat → ClassId} {ak : Nat → Option Nat} {av : Nat → Nat} (hV : zV b D dT ak av s) (hcf : zcF M' n) : ∀ w ∈ [Cond.code M'.1 M'.2.1 M'.2.2.1 M'.2.2.2.1], ∀ (a' : Array Value) (U : State), s.WarmedH U.vm → w.before a' U = true := by
  intro w hw a' U hW
  rw [List.mem_singleton] at hw
  subst hw
  exact word_at hW (Or.inl rfl) (z_hts hV (args := args) _ hcf.1)
theorem z_callB {M' : zM} {n idx : Nat} {R : Room} {s : State} {args : Array Value} {b : Nat} {D : va_G} {dT : Nat → ClassId} {ak : Nat → Option Nat} {av : Nat → Nat} {own : String} (hV : zV b D dT ak av s) (hcf : zcF M' n) (hroom : M.2.2.2.2.1 ≤ R.frames ∧ 80 * M.2.2.2.2.1 ≤ R.locals) (hfr : zfr M M') (hl : Cond.methodLink own idx M'.1 ∈ zGW) : CallB R s args own idx M'.1 M'.2.1 M'.2.2.1 M'.2.2.2.1 [Cond.code M'.1 M'.2.1 M'.2.2.1 M'.2.2.2.1] (zRm M') M'.2.2.2.2.2.1 M'.2.2.2.2.2.2 n := by
  obtain ⟨f1, f2⟩ := hfr
  refine ⟨rfl, rfl, Nat.le_trans f1 hroom.1, ?_, z_words (R := R) (args := args) hV hcf, List.mem_cons_self, z_hts hV _ hcf.1, z_hts hV _ hcf.2.1, ⟨hcf.2.2.1, hcf.2.2.2.1⟩, fun sig hs => ?_, z_hts hV _ hl⟩
  · show 8 + (M'.2.2.1 + 11) + 80 * M'.2.2.2.2.1 ≤ R.locals
    have := hroom.2
    omega
  · have h2 := hcf.2.2.2.2
    rw [hs] at h2
    exact (Option.some.inj h2).symm
theorem z_callN {M' : zM} {n idx : Nat} {R : Room} {s : State} {args : Array Value} {b : Nat} {D : va_G} {dT : Nat → ClassId} {ak : Nat → Option Nat} {av : Nat → Nat} {own host : String} (hV : zV b D dT ak av s) (hcf : zcF M' n) (hroom : M.2.2.2.2.1 ≤ R.frames ∧ 80 * M.2.2.2.2.1 ≤ R.locals) (hfr : zfr M M') (hl : Cond.methodLinkNest own idx M'.1 host ∈ zGW) : va_CN R s args own idx M'.1 host M'.2.1 M'.2.2.1 M'.2.2.2.1 [Cond.code M'.1 M'.2.1 M'.2.2.1 M'.2.2.2.1] (zRm M') M'.2.2.2.2.2.1 M'.2.2.2.2.2.2 n := by
  obtain ⟨f1, f2⟩ := hfr
  refine ⟨⟨rfl, rfl, Nat.le_trans f1 hroom.1, ?_, z_words (R := R) (args := args) hV hcf, List.mem_cons_self⟩, z_hts hV _ hcf.1, z_hts hV _ hcf.2.1, ⟨hcf.2.2.1, hcf.2.2.2.1⟩, fun sig hs => ?_, z_hts hV _ hl⟩
  · show 8 + (M'.2.2.1 + 11) + 80 * M'.2.2.2.2.1 ≤ R.locals
    have := hroom.2
    omega
  · have h2 := hcf.2.2.2.2
    rw [hs] at h2
    exact (Option.some.inj h2).symm
theorem z_cats (b : Nat) (ak : Nat → Option Nat) (st : List Value) : ((st.map (zr b ak)).map fun v => v.category) = st.map fun v => v.category := by
  rw [List.map_map]
  apply List.map_congr_left
  intro w _
  exact zr_cat b ak w
theorem z_stk (b : Nat) (ak : Nat → Option Nat) (As st : List Value) : (As.reverse ++ st).map (zr b ak) = (As.map (zr b ak)).reverse ++ st.map (zr b ak) := by simp
theorem z_room {m : MethodId} {ls : Array Slot} {st0 : List Value} (b : Nat) (ak : Nat → Option Nat) (hst : (st.map fun v => v.category).sum ≤ 8) : 2 * (F0 m pc ls st0).monitorRoom + ((st.map (zr b ak)).map fun v => v.category).sum ≤ 8 := lv_room (by rw [z_cats]; exact hst)
theorem z_virt {M' : zM} {a c n idx : Nat} {As stk : List Value} {r1 : Option Value} {h1 : zH} (hd : decode M.2.1 pc = .ok (.invokevirtual idx, 3)) (hcv : zcV M' n c) (hl : zln M.1.cls idx M'.1) (hfr : zfr M M') (hn : As.length = n) (hstk : stk = As.reverse ++ .ref a :: st) (hst : (st.map fun v => v.category).sum ≤ 8) (hu : u + M'.2.2.2.2.2.1 ≤ M.2.2.2.2.2.1) (hv : v + M'.2.2.2.2.2.2 ≤ M.2.2.2.2.2.2) (ha : zo h a c) (hc : Cl M' (.ref a :: As) h r1 h1) (k : Zt X M (u + M'.2.2.2.2.2.1) (v + M'.2.2.2.2.2.2) (pc + 3) lv (r1.toList ++ st) h1 r h') : Zt X M u v pc lv stk h r h' := by
  subst hstk
  intro l b D dT ak av p e R s m args below meth c0 H locs ls F P L
  obtain ⟨hx, hb, hml, hret, hlocks, hname, hown, hV, hbs, hroom, hX⟩ := id F
  obtain ⟨hcf, hin, hse, hc13, hcn⟩ := hcv
  have hrec := va_recv hV.1 P.2.1 (zCl_at hc13) (zE_obj (dT := dT) (b := b) ha hc13)
  rw [hcn] at hrec
  have hpre : PreV s H M'.1.cls (b + a) (zPc b D dT ak av (.ref a :: As) h) (As.map (zr b ak)) := ⟨zPc_blind, hrec, fun U hU hW => ⟨rfl, by rw [hU]; have := P.2.2.1; omega, by rw [hU]; exact P.1, by rw [hU]; exact P.2.1, zV_go hV hW hU P.2.2⟩⟩
  have hstk2 : (As.reverse ++ .ref a :: st).map (zr b ak) = (As.map (zr b ak)).reverse ++ .ref (b + a) :: st.map (zr b ak) := z_stk b ak As (.ref a :: st)
  rw [hstk2]
  have hn2 : (As.map (zr b ak)).length = n := by rw [List.length_map]; exact hn
  have hcr : u + M'.2.2.2.2.2.1 ≤ R.cells ∧ v + M'.2.2.2.2.2.2 ≤ R.slots := ⟨by rw [hroom.2.2.1]; exact hu, by rw [hroom.2.2.2]; exact hv⟩
  rcases hl with hl | ⟨host, hl⟩
  · exact z_run (va_runV ⟨hx, hb, hml, hown, z_hts hV⟩ (hc l b D dT ak av) ⟨z_callB hV hcf ⟨hroom.1, hroom.2.1⟩ hfr hl, z_hts hV _ hin, z_hts hV _ hse⟩ hpre rfl hn2 L.1 rfl (z_room b ak hst) hd hcr) F P L k
  · exact z_run (va_runVN ⟨hx, hb, hml, hown, z_hts hV⟩ (hc l b D dT ak av) ⟨z_callN hV hcf ⟨hroom.1, hroom.2.1⟩ hfr hl, z_hts hV _ hin, z_hts hV _ hse⟩ hpre rfl hn2 L.1 rfl (z_room b ak hst) hd hcr) F P L k
theorem z_stat {M' : zM} {n idx : Nat} {As stk : List Value} {r1 : Option Value} {h1 : zH} (hd : decode M.2.1 pc = .ok (.invokestatic idx, 3)) (hcs : zcS M' n) (hl : zln M.1.cls idx M'.1) (hfr : zfr M M') (hn : As.length = n) (hstk : stk = As.reverse ++ st) (hst : (st.map fun v => v.category).sum ≤ 8) (hu : u + M'.2.2.2.2.2.1 ≤ M.2.2.2.2.2.1) (hv : v + M'.2.2.2.2.2.2 ≤ M.2.2.2.2.2.2) (hc : Cl M' As h r1 h1) (k : Zt X M (u + M'.2.2.2.2.2.1) (v + M'.2.2.2.2.2.2) (pc + 3) lv (r1.toList ++ st) h1 r h') : Zt X M u v pc lv stk h r h' := by
  subst hstk
  intro l b D dT ak av p e R s m args below meth c0 H locs ls F P L
  obtain ⟨hx, hb, hml, hret, hlocks, hname, hown, hV, hbs, hroom, hX⟩ := id F
  obtain ⟨hcf, hstt⟩ := hcs
  have hpre : PreS s H (zPc b D dT ak av As h) (As.map (zr b ak)) := ⟨zPc_blind, fun U hU hW => ⟨rfl, by rw [hU]; have := P.2.2.1; omega, by rw [hU]; exact P.1, by rw [hU]; exact P.2.1, zV_go hV hW hU P.2.2⟩⟩
  rw [z_stk b ak As st]
  have hn2 : (As.map (zr b ak)).length = n := by rw [List.length_map]; exact hn
  have hcr : u + M'.2.2.2.2.2.1 ≤ R.cells ∧ v + M'.2.2.2.2.2.2 ≤ R.slots := ⟨by rw [hroom.2.2.1]; exact hu, by rw [hroom.2.2.2]; exact hv⟩
  rcases hl with hl | ⟨host, hl⟩
  · exact z_run (va_runS ⟨hx, hb, hml, hown, z_hts hV⟩ (hc l b D dT ak av) ⟨z_callB hV hcf ⟨hroom.1, hroom.2.1⟩ hfr hl, z_hts hV _ hstt⟩ hpre rfl hn2 L.1 rfl (z_room b ak hst) hd hcr) F P L k
  · exact z_run (va_runSN ⟨hx, hb, hml, hown, z_hts hV⟩ (hc l b D dT ak av) ⟨z_callN hV hcf ⟨hroom.1, hroom.2.1⟩ hfr hl, z_hts hV _ hstt, trivial⟩ hpre rfl hn2 L.1 rfl (z_room b ak hst) hd hcr) F P L k
theorem z_init {M' : zM} {a n idx : Nat} {As stk : List Value} {h1 : zH} (hd : decode M.2.1 pc = .ok (.invokespecial idx, 3)) (hci : zcI M' n) (hl : zln M.1.cls idx M'.1) (hfr : zfr M M') (hn : As.length = n) (hstk : stk = As.reverse ++ .ref a :: st) (hst : (st.map fun v => v.category).sum ≤ 8) (hu : u + M'.2.2.2.2.2.1 ≤ M.2.2.2.2.2.1) (hv : v + M'.2.2.2.2.2.2 ≤ M.2.2.2.2.2.2) (hc : Cl M' (.ref a :: As) h none h1) (k : Zt X M (u + M'.2.2.2.2.2.1) (v + M'.2.2.2.2.2.2) (pc + 3) lv st h1 r h') : Zt X M u v pc lv stk h r h' := by
  subst hstk
  intro l b D dT ak av p e R s m args below meth c0 H locs ls F P L
  obtain ⟨hx, hb, hml, hret, hlocks, hname, hown, hV, hbs, hroom, hX⟩ := id F
  obtain ⟨hcf, hnm, hin, hrn⟩ := hci
  have hpre : PreS s H (zPc b D dT ak av (.ref a :: As) h) (.ref (b + a) :: As.map (zr b ak)) := ⟨zPc_blind, fun U hU hW => ⟨rfl, by rw [hU]; have := P.2.2.1; omega, by rw [hU]; exact P.1, by rw [hU]; exact P.2.1, zV_go hV hW hU P.2.2⟩⟩
  have hstk2 : (As.reverse ++ .ref a :: st).map (zr b ak) = (As.map (zr b ak)).reverse ++ .ref (b + a) :: st.map (zr b ak) := z_stk b ak As (.ref a :: st)
  rw [hstk2]
  have hn2 : (As.map (zr b ak)).length = n := by rw [List.length_map]; exact hn
  have hcr : u + M'.2.2.2.2.2.1 ≤ R.cells ∧ v + M'.2.2.2.2.2.2 ≤ R.slots := ⟨by rw [hroom.2.2.1]; exact hu, by rw [hroom.2.2.2]; exact hv⟩
  have hcw := hc l b D dT ak av
  rcases hl with hl | ⟨host, hl⟩
  · have hB := z_callB (M := M) (R := R) (args := args) (own := M.1.cls) hV hcf ⟨hroom.1, hroom.2.1⟩ hfr hl
    rw [hrn] at hB hcw
    exact z_run (r1 := none) (va_runI ⟨hx, hb, hml, hown, z_hts hV⟩ hcw ⟨hB, hnm, z_hts hV _ hin⟩ hpre rfl hn2 L.1 rfl (z_room b ak hst) hd hcr) F P L k
  · have hB := z_callN (M := M) (R := R) (args := args) (own := M.1.cls) hV hcf ⟨hroom.1, hroom.2.1⟩ hfr hl
    rw [hrn] at hB hcw
    exact z_run (r1 := none) (va_runIN ⟨hx, hb, hml, hown, z_hts hV⟩ hcw ⟨hB, hnm, z_hts hV _ hin⟩ hpre rfl hn2 L.1 rfl (z_room b ak hst) hd hcr) F P L k
theorem z_objInit {a idx : Nat} (hd : decode M.2.1 pc = .ok (.invokespecial idx, 3)) (hl : Cond.methodLink M.1.cls idx Lib.objectInit ∈ zGW) (hi : Cond.instanceMethod Lib.objectInit ∈ zGW) (hc : Cond.code Lib.objectInit ⟨#[0xb1]⟩ 1 none ∈ zGW) (hdep : 1 ≤ M.2.2.2.2.1) (hst : (st.map fun v => v.category).sum ≤ 8) (k : Zt X M u v (pc + 3) lv st h r h') : Zt X M u v pc lv (.ref a :: st) h r h' := by
  intro l b D dT ak av p e R s m args below meth c0 H locs ls F P L
  obtain ⟨hx, hb, hml, hret, hlocks, hname, hown, hV, hbs, hroom, hX⟩ := id F
  have hrm := z_room (m := m) (ls := ls) (pc := pc) (st0 := List.map (zr b ak) (.ref a :: st)) b ak hst
  exact W.objInit hx hb hown (z_hts hV _ hl) (z_hts hV _ hi) (z_hts hV _ hc) rfl (L.1.trans hml.symm) rfl hd (Nat.le_trans hdep hroom.1) (by have := hroom.2.1; omega) (k l b D dT ak av p e R s m args below meth c0 H locs ls F P L)
theorem z_ldc {idx : Nat} {w : Int32} (hd : decode M.2.1 pc = .ok (.ldc idx, 2)) (hl : Cond.constant M.1.cls idx w ∈ zGW) (k : Zt X M u v (pc + 2) lv (.int w :: st) h r h') : Zt X M u v pc lv st h r h' := by
  intro l b D dT ak av p e R s m args below meth c0 H locs ls F P L
  obtain ⟨hx, hb, hml, hret, hlocks, hname, hown, hV, hbs, hroom, hX⟩ := id F
  exact lv_ldc hx hb hown (z_hts hV _ hl) hd (k l b D dT ak av p e R s m args below meth c0 H locs ls F P L)
theorem z_ldcw {idx : Nat} {w : Int32} (hd : decode M.2.1 pc = .ok (.ldc_w idx, 3)) (hl : Cond.constant M.1.cls idx w ∈ zGW) (k : Zt X M u v (pc + 3) lv (.int w :: st) h r h') : Zt X M u v pc lv st h r h' := by
  intro l b D dT ak av p e R s m args below meth c0 H locs ls F P L
  obtain ⟨hx, hb, hml, hret, hlocks, hname, hown, hV, hbs, hroom, hX⟩ := id F
  exact lv_ldcw hx hb hown (z_hts hV _ hl) hd (k l b D dT ak av p e R s m args below meth c0 H locs ls F P L)
theorem z_ldc2 {idx : Nat} {w : Int64} (hd : decode M.2.1 pc = .ok (.ldc2_w idx, 3)) (hl : Cond.constantLong M.1.cls idx w ∈ zGW) (k : Zt X M u v (pc + 3) lv (.long w :: st) h r h') : Zt X M u v pc lv st h r h' := by
  intro l b D dT ak av p e R s m args below meth c0 H locs ls F P L
  obtain ⟨hx, hb, hml, hret, hlocks, hname, hown, hV, hbs, hroom, hX⟩ := id F
  exact lv_ldc2 hx hb hown (z_hts hV _ hl) hd (k l b D dT ak av p e R s m args below meth c0 H locs ls F P L)
theorem z_ldcS {idx j : Nat} {tx : String} (hd : decode M.2.1 pc = .ok (.ldc idx, 2)) (ho : M.1.cls = RX6) (hj : zTx[j]? = some (idx, tx)) (k : Zt X M u v (pc + 2) lv (.retAddr j :: st) h r h') : Zt X M u v pc lv st h r h' := by
  intro l b D dT ak av p e R s m args below meth c0 H locs ls F P L
  obtain ⟨hx, hb, hml, hret, hlocks, hname, hown, hV, hbs, hroom, hX⟩ := id F
  have kk := k l b D dT ak av p e R s m args below meth c0 H locs ls F P L
  have hj11 : j < 11 := by
    have h1 := (List.getElem?_eq_some_iff.mp hj).1
    exact h1
  simp only [List.map_cons, zr] at kk
  rw [(hV.2.2.2.2.2.2.2 j hj11).1] at kk
  exact va_ldcS hx hb (by rw [← ho]; exact hown) (hV.2.2.2.2.1 j _ hj) hd kk
theorem z_sld {Ls : Nat} {xs : Nat → Int32} {i : Int32} (hX : X = some (Ls, xs)) (hd : decode M.2.1 pc = .ok (.iaload, 1)) (hi : vp_in i Ls) (k : Zt X M u v (pc + 1) lv (.int (xs i.toNatClampNeg) :: st) h r h') : Zt X M u v pc lv (.int i :: .retAddr 1000 :: st) h r h' := by
  intro l b D dT ak av p e R s m args below meth c0 H locs ls F P L
  obtain ⟨hx, hb, hml, hret, hlocks, hname, hown, hV, hbs, hroom, hX2⟩ := id F
  obtain ⟨bs, g0, g1, g2⟩ := hX2 _ hX
  simp only [List.map_cons, zr, g0]
  exact va_sld hx hb g1 (Nat.lt_of_lt_of_le g2 hbs) (Nat.not_le.mpr g2) P.2.2 hi hd (k l b D dT ak av p e R s m args below meth c0 H locs ls F P L)
theorem z_slen {Ls : Nat} {xs : Nat → Int32} (hX : X = some (Ls, xs)) (hd : decode M.2.1 pc = .ok (.arraylength, 1)) (k : Zt X M u v (pc + 1) lv (.int (Int32.ofNat Ls) :: st) h r h') : Zt X M u v pc lv (.retAddr 1000 :: st) h r h' := by
  intro l b D dT ak av p e R s m args below meth c0 H locs ls F P L
  obtain ⟨hx, hb, hml, hret, hlocks, hname, hown, hV, hbs, hroom, hX2⟩ := id F
  obtain ⟨bs, g0, g1, g2⟩ := hX2 _ hX
  simp only [List.map_cons, zr, g0]
  exact va_slen hx hb g1 (Nat.lt_of_lt_of_le g2 hbs) (Nat.not_le.mpr g2) P.2.2 hd (k l b D dT ak av p e R s m args below meth c0 H locs ls F P L)
end ZC
end
section
/-! ===== System.arraycopy between int arrays ===== -/
/-- n elements of the array a0 from sp on come into the array a from dp on -/
def zCp (I : Nat → Nat → Int32) (a0 sp a dp n : Nat) : Nat → Nat → Int32 := fun q k => if q = a then va_cpy (I a0) (I a) sp dp n k else I q k
theorem zWs_setCp {dT : Nat → ClassId} {b : Nat} {g : zG} {I : Nat → Nat → Int32} {P : Nat → Nat → Option Nat} {a0 a sp dp n : Nat} (hc : g.2.1 a = 13) : (zWs dT b (g, I, P)).set a (b + a, .inl (dT 13, g.2.2 a, .inl (va_cpy (I a0) (I a) sp dp n))) = zWs dT b (g, zCp I a0 sp a dp n, P) := by
  refine z_map_set _ _ _ _ _ ?_ ?_
  · have e : zCp I a0 sp a dp n a = va_cpy (I a0) (I a) sp dp n := by funext j; simp [zCp]
    simp [zE, hc, e]
  · intro i hi
    have e : zCp I a0 sp a dp n i = I i := by funext j; simp [zCp, hi]
    simp only [zE, zFs, e]
theorem z_nn (z : Int32) (hz : ¬ z < 0) : z.toInt = (z.toNatClampNeg : Int) := by
  have hz0 : (0 : Int) ≤ z.toInt := by
    have := Int32.not_lt.mp hz
    simpa using Int32.le_iff_toInt_le.mp this
  show z.toInt = ((z.toInt.toNat : Nat) : Int)
  omega
theorem z_copy {X : Option (Nat × (Nat → Int32))} {M : zM} {u v pc : Nat} {lv : List (Nat × Value)} {st : List Value} {g : zG} {I : Nat → Nat → Int32} {Q : Nat → Nat → Option Nat} {r : Option Value} {h' : zH} {a0 a idx : Nat} {sp dp n : Int32} (hd : decode M.2.1 pc = .ok (.invokestatic idx, 3)) (hl : Cond.methodLink M.1.cls idx arraycopyName ∈ zGW) (hnat : Cond.native arraycopyName ∈ zGW) (hstat : Cond.static arraycopyName ∈ zGW) (hini : Cond.initialized "java/lang/System" ∈ zGW) (hdep : 1 ≤ M.2.2.2.2.1) (hst : (st.map fun v => v.category).sum ≤ 8) (ha0 : zo (g, I, Q) a0 13) (ha : zo (g, I, Q) a 13) (h1 : ¬ sp < 0) (h2 : ¬ dp < 0) (h3 : ¬ n < 0) (h4 : sp.toNatClampNeg + n.toNatClampNeg ≤ g.2.2 a0) (h5 : dp.toNatClampNeg + n.toNatClampNeg ≤ g.2.2 a) (kk : Zt X M u v (pc + 3) lv st (g, zCp I a0 sp.toNatClampNeg a dp.toNatClampNeg n.toNatClampNeg, Q) r h') : Zt X M u v pc lv (.int n :: .int dp :: .ref a :: .int sp :: .ref a0 :: st) (g, I, Q) r h' := by
  intro l b D dT ak av p e R s m args below meth c0 H locs ls F P L T hT X1
  obtain ⟨hx, hb, hml, hret, hlocks, hname, hown, hV, hbs, hroom, hX⟩ := id F
  have hsl : ls.size = c0.maxLocals := L.1.trans hml.symm
  have e0 := zE_ints (dT := dT) (b := b) ha0 (by decide) (by decide)
  have ee := zE_ints (dT := dT) (b := b) ha (by decide) (by decide)
  have hty := hV.1.2 0 _ (zTys_at dT (t := 13) (by decide) (by decide))
  have q0 : H[b + a0]? = some (vp_cell (dT 13) (g.2.2 a0, .inl (I a0))) := P.2.1 a0 _ e0
  have q1 : H[b + a]? = some (vp_cell (dT 13) (g.2.2 a, .inl (I a))) := P.2.1 a _ ee
  obtain ⟨-, k0, hk0, cm0, hkk0⟩ := hty.1 (g.2.2 a0) (fun j => .int (I a0 j))
  have hrm : (((st.map (zr b ak))).map fun v => v.category).sum ≤ 8 := by rw [z_cats]; exact hst
  obtain ⟨vm', X', step⟩ := X1.arraycopy hx hown (z_hts hV _ hl) (z_hts hV _ hnat) (z_hts hV _ hstat) (z_hts hV _ hini) (src := b + a0) (dst := b + a) (cs := vp_cell (dT 13) (g.2.2 a0, .inl (I a0))) (cd := vp_cell (dT 13) (g.2.2 a, .inl (I a))) (srcPos := sp) (destPos := dp) (n := n) (by rw [hT]; exact q0) (by rw [hT]; exact q1)
    (fun _ h => by cases h) (fun _ h => by cases h) (fun h => by cases h) (fun h => by cases h) hk0 hk0 hkk0 hkk0 (by simp [zTy, refKind]) h1 h2 h3
    (by rw [z_nn sp h1, z_nn n h3]; show ¬ _ > ((arrV (dT 13) (g.2.2 a0) (fun j => .int (I a0 j))).slots.size : Int); rw [arrV_size]; omega)
    (by rw [z_nn dp h2, z_nn n h3]; show ¬ _ > ((arrV (dT 13) (g.2.2 a) (fun j => .int (I a j))).slots.size : Int); rw [arrV_size]; omega)
    (fun vm₁ _ i hi => by
      have e : (vp_cell (dT 13) (g.2.2 a0, .inl (I a0))).slots.getD (sp.toNatClampNeg + i) .null = .int (I a0 (sp.toNatClampNeg + i)) := by
        show (arrV (dT 13) (g.2.2 a0) (fun j => .int (I a0 j))).slots.getD _ _ = _
        rw [Array.getD_eq_getD_getElem?, arrV_read _ _ (by omega)]
        rfl
      refine ⟨?_, ?_⟩
      · rw [e]
        rfl
      · rw [e]
        exact trivial)
    (g := F0 m pc ls (.int n :: .int dp :: .ref (b + a) :: .int sp :: .ref (b + a0) :: st.map (zr b ak))) rfl hsl (rest := st.map (zr b ak)) rfl (by rw [hb]; exact hd) (Nat.le_trans hdep hroom.1) (by show 2 * 0 + _ + (nativeFrameWords "java/lang/System" "arraycopy" 5 + 11) ≤ _; have := hroom.2.1; have hnw : nativeFrameWords "java/lang/System" "arraycopy" 5 ≤ 40 := (by decide); have hrm2 := hrm; omega)
  have e1 : copied (vp_cell (dT 13) (g.2.2 a0, .inl (I a0))) (vp_cell (dT 13) (g.2.2 a, .inl (I a))) sp dp n = vp_cell (dT 13) (g.2.2 a, .inl (va_cpy (I a0) (I a) sp.toNatClampNeg dp.toNatClampNeg n.toNatClampNeg)) := va_copied (fun z => .int z) (dT 13) (dT 13) (I a0) (I a) h4
  rw [e1] at X' step
  have hla : b + a < H.size := (Array.getElem?_eq_some_iff.mp q1).1
  generalize hnc : vp_cell (dT 13) (g.2.2 a, .inl (va_cpy (I a0) (I a) sp.toNatClampNeg dp.toNatClampNeg n.toNatClampNeg)) = nc at X' step
  have hheap : ((T.setVm vm').setCell (b + a) nc).heap = H.setIfInBounds (b + a) nc := by rw [← hT]; rfl
  have oq : ∀ q : Nat, q ≠ b + a → (H.setIfInBounds (b + a) nc)[q]? = H[q]? := fun q hq => by simp [Array.getElem?_setIfInBounds, Ne.symm hq]
  have hP1 : va_P D vwCl ((zWs dT b (g, I, Q)).set a (b + a, .inl (dT 13, g.2.2 a, .inl (va_cpy (I a0) (I a) sp.toNatClampNeg dp.toNatClampNeg n.toNatClampNeg)))) (H.setIfInBounds (b + a) nc) := by
    refine P.2.1.set (zWs_D dT b _) ee ?_ oq
    show (H.setIfInBounds (b + a) nc)[b + a]? = some (vp_cell (dT 13) (g.2.2 a, .inl (va_cpy (I a0) (I a) sp.toNatClampNeg dp.toNatClampNeg n.toNatClampNeg)))
    rw [hnc]
    simp [Array.getElem?_setIfInBounds, hla]
  rw [zWs_setCp ha.2] at hP1
  have hS1 : ∀ L1 : List Loc, (∀ q ∈ L1, b ≤ q.base) → va_S (fun q => b ≤ q) s.heap (H.setIfInBounds (b + a) nc) (locs ++ L1) := by
    intro L1 hL1
    refine ⟨by simp; exact P.2.2.1, fun q g1 g2 => ?_, fun q hq => ?_⟩
    · rw [oq q (fun e => g2 (by rw [e]; exact Nat.le_add_right b a))]
      exact P.2.2.2.1 q g1 g2
    · rcases List.mem_append.mp hq with h | h
      · exact P.2.2.2.2 q h
      · exact hL1 q h
  obtain ⟨t, a1, b1⟩ := kk l b D dT ak av p e R s m args below meth c0 (H.setIfInBounds (b + a) nc) _ ls F ⟨by rw [Array.size_setIfInBounds]; exact P.1, hP1, hS1 _ (fun q hq => by
      obtain ⟨z, -, hz⟩ := List.mem_map.mp hq
      rw [← hz]
      exact Nat.le_add_right b a)⟩ L _ hheap X'
  exact ⟨t, step t a1, b1⟩
/-! ===== Math.max, Math.min ===== -/
def zmmax (x y : Int32) : Int32 := if x < y then y else x
def zmmin (x y : Int32) : Int32 := if y < x then y else x
section ZM
variable {X : Option (Nat × (Nat → Int32))} {M : zM} {u v pc : Nat} {lv : List (Nat × Value)} {st : List Value} {h : zH} {r : Option Value} {h' : zH}
theorem z_mmax {idx : Nat} {x y : Int32} (hd : decode M.2.1 pc = .ok (.invokestatic idx, 3)) (hl : Cond.methodLink M.1.cls idx Lib.Math.max.name ∈ zGW) (hdep : 1 ≤ M.2.2.2.2.1) (hst : (st.map fun v => v.category).sum ≤ 8) (hu : u ≤ M.2.2.2.2.2.1) (hv : v ≤ M.2.2.2.2.2.2) (hS : Cond.static Lib.Math.max.name ∈ zGW) (hI : Cond.initialized "java/lang/Math" ∈ zGW) (hC : Cond.code Lib.Math.max.name Lib.Math.max.code 2 (some .int) ∈ zGW) (k : Zt X M u v (pc + 3) lv (.int (zmmax x y) :: st) h r h') : Zt X M u v pc lv (.int y :: .int x :: st) h r h' := by
  intro l b D dT ak av p e R s m args below meth c0 H locs ls F P L
  obtain ⟨hx, hb, hml, hret, hlocks, hname, hown, hV, hbs, hroom, hX⟩ := id F
  have hrm : ((st.map (zr b ak)).map fun v => v.category).sum ≤ 8 := by rw [z_cats]; exact hst
  exact va_mmax hx hb (hml.trans L.1.symm) hown (z_hts hV _ hl) (z_hts hV _ hS) (z_hts hV _ hI) (z_hts hV _ hC) (Nat.le_trans hdep hroom.1) (by have := hroom.2.1; omega) (by rw [hroom.2.2.1]; exact hu) (by rw [hroom.2.2.2]; exact hv) hd (k l b D dT ak av p e R s m args below meth c0 H locs ls F P L)
theorem z_mmin {idx : Nat} {x y : Int32} (hd : decode M.2.1 pc = .ok (.invokestatic idx, 3)) (hl : Cond.methodLink M.1.cls idx Lib.Math.min.name ∈ zGW) (hdep : 1 ≤ M.2.2.2.2.1) (hst : (st.map fun v => v.category).sum ≤ 8) (hu : u ≤ M.2.2.2.2.2.1) (hv : v ≤ M.2.2.2.2.2.2) (hS : Cond.static Lib.Math.min.name ∈ zGW) (hI : Cond.initialized "java/lang/Math" ∈ zGW) (hC : Cond.code Lib.Math.min.name Lib.Math.min.code 2 (some .int) ∈ zGW) (k : Zt X M u v (pc + 3) lv (.int (zmmin x y) :: st) h r h') : Zt X M u v pc lv (.int y :: .int x :: st) h r h' := by
  intro l b D dT ak av p e R s m args below meth c0 H locs ls F P L
  obtain ⟨hx, hb, hml, hret, hlocks, hname, hown, hV, hbs, hroom, hX⟩ := id F
  have hrm : ((st.map (zr b ak)).map fun v => v.category).sum ≤ 8 := by rw [z_cats]; exact hst
  exact va_mmin hx hb (hml.trans L.1.symm) hown (z_hts hV _ hl) (z_hts hV _ hS) (z_hts hV _ hI) (z_hts hV _ hC) (Nat.le_trans hdep hroom.1) (by have := hroom.2.1; omega) (by rw [hroom.2.2.1]; exact hu) (by rw [hroom.2.2.2]; exact hv) hd (k l b D dT ak av p e R s m args below meth c0 H locs ls F P L)
end ZM
end
section
/-! ===== methods, links: printed by wip/whole/gen/methods.py ===== -/
def zk (g : zG) (a c : Nat) : Prop := a < g.1 ∧ g.2.1 a = c
def zov : Option Nat → Value
  | none => .null
  | some j => .ref j
theorem z_nm {X : Option (Nat × (Nat → Int32))} {M : zM} {u v pc : Nat} {lv : List (Nat × Value)} {st : List Value} {h : zH} {r : Option Value} {h' : zH} {x : Int32} (k : ∀ y : Int32, y = x → Zt X M u v pc lv (.int y :: st) h r h') : Zt X M u v pc lv (.int x :: st) h r h' := k x rfl
def RJ6 : String := "java/lang/Integer"
def RJ7 : String := "java/util/Arrays"
abbrev cJ6_bitCount_0f7a4 : ByteArray := prog_15_method_49_code
def yJ6_bitCount_0f7a4 : MethodName := ⟨RJ6, "bitCount", "(I)I"⟩
abbrev cJ7_fill_53178 : ByteArray := prog_21_method_103_code
def yJ7_fill_53178 : MethodName := ⟨RJ7, "fill", "([II)V"⟩
abbrev mX0_init : zM := (yX0_init, cX0_init, 1, none, 1, 3, 120)
abbrev mX0_copy : zM := (yX0_copy, cX0_copy, 2, none, 2, 0, 0)
abbrev mX0_look : zM := (yX0_look, cX0_look, 3, (some .int), 2, 0, 0)
abbrev mX1_init : zM := (yX1_init, cX1_init, 1, none, 2, 9, 260)
abbrev mX1_hears : zM := (yX1_hears, cX1_hears, 5, (some .boolean), 3, 0, 0)
abbrev mX1_heard : zM := (yX1_heard, cX1_heard, 1, (some .int), 3, 0, 0)
abbrev mX1_likely : zM := (yX1_likely, cX1_likely, 4, (some .int), 4, 0, 0)
abbrev mX1_lettersBehind : zM := (yX1_lettersBehind, cX1_lettersBehind, 4, (some .int), 4, 0, 0)
abbrev mX1_keenest : zM := (yX1_keenest, cX1_keenest, 6, (some .int), 5, 0, 0)
abbrev mX1_oftenGoingOn : zM := (yX1_oftenGoingOn, cX1_oftenGoingOn, 5, (some .int), 4, 0, 0)
abbrev mX1_readings : zM := (yX1_readings, cX1_readings, 3, (some .int), 5, 0, 0)
abbrev mX1_countReadings : zM := (yX1_countReadings, cX1_countReadings, 4, none, 4, 0, 0)
abbrev mX1_readingsBehind : zM := (yX1_readingsBehind, cX1_readingsBehind, 6, (some .int), 3, 0, 0)
abbrev mX1_wordOfFirstReading : zM := (yX1_wordOfFirstReading, cX1_wordOfFirstReading, 5, (some .int), 5, 0, 0)
abbrev mX1_leastReadAt : zM := (yX1_leastReadAt, cX1_leastReadAt, 5, (some .int), 3, 0, 0)
abbrev mX1_mended : zM := (yX1_mended, cX1_mended, 5, (some .int), 4, 0, 0)
abbrev mX1_fewestBehind : zM := (yX1_fewestBehind, cX1_fewestBehind, 5, (some .int), 2, 0, 0)
abbrev mX1_slipsUpTo : zM := (yX1_slipsUpTo, cX1_slipsUpTo, 4, (some .int), 4, 0, 0)
abbrev mX1_changesBetween : zM := (yX1_changesBetween, cX1_changesBetween, 4, (some .int), 4, 0, 0)
abbrev mX1_changesTo : zM := (yX1_changesTo, cX1_changesTo, 11, (some .int), 3, 0, 0)
abbrev mX1_closest : zM := (yX1_closest, cX1_closest, 8, (some .int), 5, 0, 0)
abbrev mX2_init : zM := (yX2_init, cX2_init, 1, none, 2, 13, 265)
abbrev mX2_begin : zM := (yX2_begin, cX2_begin, 2, none, 2, 0, 0)
abbrev mX2_play : zM := (yX2_play, cX2_play, 6, (some .int), 6, 0, 0)
abbrev mX2_draw : zM := (yX2_draw, cX2_draw, 10, none, 6, 0, 0)
abbrev mX2_stir : zM := (yX2_stir, cX2_stir, 1, (some .int), 1, 0, 0)
abbrev mX2_below : zM := (yX2_below, cX2_below, 2, (some .int), 1, 0, 0)
abbrev mX2_does : zM := (yX2_does, cX2_does, 4, (some .boolean), 5, 0, 0)
abbrev mX2_isStone : zM := (yX2_isStone, cX2_isStone, 2, (some .boolean), 1, 0, 0)
abbrev mX2_open : zM := (yX2_open, cX2_open, 2, (some .int), 2, 0, 0)
abbrev mX2_freeze : zM := (yX2_freeze, cX2_freeze, 6, (some .boolean), 4, 0, 0)
abbrev mX2_falsify : zM := (yX2_falsify, cX2_falsify, 3, (some .boolean), 3, 0, 0)
abbrev mX2_add : zM := (yX2_add, cX2_add, 7, none, 2, 0, 0)
abbrev mX2_overgrow : zM := (yX2_overgrow, cX2_overgrow, 4, (some .boolean), 4, 0, 0)
abbrev mX2_chipOff : zM := (yX2_chipOff, cX2_chipOff, 2, (some .boolean), 3, 0, 0)
abbrev mX2_fitting : zM := (yX2_fitting, cX2_fitting, 4, (some .int), 3, 0, 0)
abbrev mX2_forgeriesOn : zM := (yX2_forgeriesOn, cX2_forgeriesOn, 4, (some .int), 2, 0, 0)
abbrev mX2_look : zM := (yX2_look, cX2_look, 2, (some .int), 5, 0, 0)
abbrev mX2_lookAtLetter : zM := (yX2_lookAtLetter, cX2_lookAtLetter, 4, (some .int), 2, 0, 0)
abbrev mX2_lookAtStone : zM := (yX2_lookAtStone, cX2_lookAtStone, 3, (some .int), 4, 0, 0)
abbrev mX2_wordiest : zM := (yX2_wordiest, cX2_wordiest, 4, (some .int), 2, 0, 0)
abbrev mX2_feigned : zM := (yX2_feigned, cX2_feigned, 3, (some .int), 3, 0, 0)
abbrev mX3_init : zM := (yX3_init, cX3_init, 1, none, 1, 5, 96)
abbrev mX3_clear : zM := (yX3_clear, cX3_clear, 1, none, 2, 0, 0)
abbrev mX3_copy : zM := (yX3_copy, cX3_copy, 2, none, 2, 0, 0)
abbrev mX3_look : zM := (yX3_look, cX3_look, 5, (some .int), 4, 0, 0)
abbrev mX3_lookAtWord : zM := (yX3_lookAtWord, cX3_lookAtWord, 3, (some .int), 3, 0, 0)
abbrev mX3_hasWord : zM := (yX3_hasWord, cX3_hasWord, 2, (some .boolean), 1, 0, 0)
abbrev mX3_sizeOf : zM := (yX3_sizeOf, cX3_sizeOf, 2, (some .int), 2, 0, 0)
abbrev mX3_oftenOf : zM := (yX3_oftenOf, cX3_oftenOf, 2, (some .int), 2, 0, 0)
abbrev mX3_letterOf : zM := (yX3_letterOf, cX3_letterOf, 3, (some .int), 2, 0, 0)
abbrev mX3_all : zM := (yX3_all, cX3_all, 1, (some .int), 1, 0, 0)
abbrev mX3_behind : zM := (yX3_behind, cX3_behind, 2, (some .int), 2, 0, 0)
abbrev mX3_oftenOfAll : zM := (yX3_oftenOfAll, cX3_oftenOfAll, 4, (some .int), 3, 0, 0)
abbrev mX3_beginningWith : zM := (yX3_beginningWith, cX3_beginningWith, 8, (some .int), 2, 0, 0)
abbrev mX3_changesAt : zM := (yX3_changesAt, cX3_changesAt, 7, (some .int), 3, 0, 0)
abbrev mX3_sameLettersAtFirst : zM := (yX3_sameLettersAtFirst, cX3_sameLettersAtFirst, 5, (some .int), 3, 0, 0)
abbrev mX3_isWithin : zM := (yX3_isWithin, cX3_isWithin, 3, (some .boolean), 4, 0, 0)
abbrev mX3_lettersTillSure : zM := (yX3_lettersTillSure, cX3_lettersTillSure, 5, (some .int), 5, 0, 0)
abbrev mX3_lettersToTell : zM := (yX3_lettersToTell, cX3_lettersToTell, 6, (some .int), 4, 0, 0)
abbrev mX3_soonestAnswered : zM := (yX3_soonestAnswered, cX3_soonestAnswered, 12, (some .int), 6, 0, 0)
abbrev mX3_wordGoingOn : zM := (yX3_wordGoingOn, cX3_wordGoingOn, 5, (some .int), 4, 0, 0)
abbrev mX3_isWhole : zM := (yX3_isWhole, cX3_isWhole, 4, (some .boolean), 4, 0, 0)
abbrev mX3_unlikeBeginnings : zM := (yX3_unlikeBeginnings, cX3_unlikeBeginnings, 5, (some .int), 4, 0, 0)
abbrev mX3_wordsWithin : zM := (yX3_wordsWithin, cX3_wordsWithin, 5, (some .int), 5, 0, 0)
abbrev mX3_unsureQuestions : zM := (yX3_unsureQuestions, cX3_unsureQuestions, 3, (some .int), 6, 0, 0)
abbrev mX3_leadsOf : zM := (yX3_leadsOf, cX3_leadsOf, 5, (some .int), 3, 0, 0)
abbrev mX3_hasTwoAlike : zM := (yX3_hasTwoAlike, cX3_hasTwoAlike, 3, (some .boolean), 4, 0, 0)
abbrev mX4_init : zM := (yX4_init, cX4_init, 1, none, 1, 2, 78)
abbrev mX4_copy : zM := (yX4_copy, cX4_copy, 2, none, 2, 0, 0)
abbrev mX4_hasLine : zM := (yX4_hasLine, cX4_hasLine, 2, (some .boolean), 1, 0, 0)
abbrev mX4_letterOf : zM := (yX4_letterOf, cX4_letterOf, 3, (some .int), 2, 0, 0)
abbrev mX4_look : zM := (yX4_look, cX4_look, 3, (some .int), 3, 0, 0)
abbrev mX4_longestInBoth : zM := (yX4_longestInBoth, cX4_longestInBoth, 9, (some .int), 4, 0, 0)
abbrev mX4_sameFrom : zM := (yX4_sameFrom, cX4_sameFrom, 7, (some .int), 3, 0, 0)
abbrev mX5_init : zM := (yX5_init, cX5_init, 1, none, 1, 2, 16)
abbrev mX5_copy : zM := (yX5_copy, cX5_copy, 2, none, 2, 0, 0)
abbrev mX5_look : zM := (yX5_look, cX5_look, 3, (some .int), 2, 0, 0)
abbrev mX5_lastPlace : zM := (yX5_lastPlace, cX5_lastPlace, 3, (some .int), 2, 0, 0)
abbrev mX6_init : zM := (yX6_init, cX6_init, 1, none, 2, 17, 336)
abbrev mX6_read : zM := (yX6_read, cX6_read, 6, none, 9, 0, 0)
abbrev mX6_readOne : zM := (yX6_readOne, cX6_readOne, 2, (some .boolean), 5, 0, 0)
abbrev mX6_keepFirst : zM := (yX6_keepFirst, cX6_keepFirst, 1, none, 1, 0, 0)
abbrev mX6_keepSecond : zM := (yX6_keepSecond, cX6_keepSecond, 1, none, 1, 0, 0)
abbrev mX6_refuse : zM := (yX6_refuse, cX6_refuse, 1, (some .boolean), 1, 0, 0)
abbrev mX6_keyOf : zM := (yX6_keyOf, cX6_keyOf, 2, (some .int), 8, 0, 0)
abbrev mX6_hillKey : zM := (yX6_hillKey, cX6_hillKey, 1, (some .int), 6, 0, 0)
abbrev mX6_centuryKey : zM := (yX6_centuryKey, cX6_centuryKey, 1, (some .int), 7, 0, 0)
abbrev mX6_deedOfToken : zM := (yX6_deedOfToken, cX6_deedOfToken, 1, (some .int), 6, 0, 0)
abbrev mX6_tell : zM := (yX6_tell, cX6_tell, 2, none, 4, 0, 0)
abbrev mX6_tellWord : zM := (yX6_tellWord, cX6_tellWord, 4, none, 3, 0, 0)
abbrev mX6_tellFollows : zM := (yX6_tellFollows, cX6_tellFollows, 1, none, 3, 0, 0)
abbrev mX6_tellAsks : zM := (yX6_tellAsks, cX6_tellAsks, 1, none, 3, 0, 0)
abbrev mX6_tellStones : zM := (yX6_tellStones, cX6_tellStones, 1, none, 3, 0, 0)
abbrev mX6_tellDeed : zM := (yX6_tellDeed, cX6_tellDeed, 3, none, 3, 0, 0)
abbrev mX6_tellLine : zM := (yX6_tellLine, cX6_tellLine, 3, none, 3, 0, 0)
abbrev mX6_tellFact : zM := (yX6_tellFact, cX6_tellFact, 2, none, 3, 0, 0)
abbrev mX6_needRoom : zM := (yX6_needRoom, cX6_needRoom, 3, (some .boolean), 2, 0, 0)
abbrev mX6_needNumber : zM := (yX6_needNumber, cX6_needNumber, 5, none, 2, 0, 0)
abbrev mX6_needRow : zM := (yX6_needRow, cX6_needRow, 6, none, 2, 0, 0)
abbrev mX6_letterAt : zM := (yX6_letterAt, cX6_letterAt, 2, (some .int), 2, 0, 0)
abbrev mX6_note : zM := (yX6_note, cX6_note, 3, none, 1, 0, 0)
abbrev mX6_lookAtHill : zM := (yX6_lookAtHill, cX6_lookAtHill, 2, none, 5, 0, 0)
abbrev mX7_init : zM := (yX7_init, cX7_init, 1, none, 2, 6, 1649)
abbrev mX7_gap : zM := (yX7_gap, cX7_gap, 1, (some .int), 1, 0, 0)
abbrev mX7_wear : zM := (yX7_wear, cX7_wear, 1, (some .int), 1, 0, 0)
abbrev mX7_since : zM := (yX7_since, cX7_since, 1, (some .int), 1, 0, 0)
abbrev mX7_weigh : zM := (yX7_weigh, cX7_weigh, 3, none, 4, 0, 0)
abbrev mX7_countHits : zM := (yX7_countHits, cX7_countHits, 8, none, 3, 0, 0)
abbrev mX7_lessBy : zM := (yX7_lessBy, cX7_lessBy, 4, (some .int), 2, 0, 0)
abbrev mX7_keepBest : zM := (yX7_keepBest, cX7_keepBest, 6, none, 2, 0, 0)
abbrev mX7_startsOf : zM := (yX7_startsOf, cX7_startsOf, 2, (some .int), 2, 0, 0)
abbrev mX7_judge : zM := (yX7_judge, cX7_judge, 2, (some .int), 5, 0, 0)
abbrev mX7_howMany : zM := (yX7_howMany, cX7_howMany, 3, (some .int), 3, 0, 0)
abbrev mX7_ruleOf : zM := (yX7_ruleOf, cX7_ruleOf, 5, (some .int), 3, 0, 0)
abbrev mX7_missedByAll : zM := (yX7_missedByAll, cX7_missedByAll, 4, (some .int), 4, 0, 0)
abbrev mX7_missedPlaces : zM := (yX7_missedPlaces, cX7_missedPlaces, 6, (some .int), 3, 0, 0)
abbrev mX7_years : zM := (yX7_years, cX7_years, 6, (some .int), 3, 0, 0)
abbrev mX8_init : zM := (yX8_init, cX8_init, 1, none, 1, 0, 0)
abbrev mX8_begin : zM := (yX8_begin, cX8_begin, 3, none, 1, 0, 0)
abbrev mX8_step : zM := (yX8_step, cX8_step, 1, none, 3, 0, 0)
abbrev mX8_stepOverRow : zM := (yX8_stepOverRow, cX8_stepOverRow, 1, none, 2, 0, 0)
abbrev mX8_stepOverDigits : zM := (yX8_stepOverDigits, cX8_stepOverDigits, 1, none, 2, 0, 0)
abbrev mX8_is : zM := (yX8_is, cX8_is, 3, (some .boolean), 5, 0, 0)
abbrev mX8_isBlank : zM := (yX8_isBlank, cX8_isBlank, 1, (some .boolean), 1, 0, 0)
abbrev mX8_isLetter : zM := (yX8_isLetter, cX8_isLetter, 1, (some .boolean), 1, 0, 0)
abbrev mX8_isDigit : zM := (yX8_isDigit, cX8_isDigit, 1, (some .boolean), 1, 0, 0)
abbrev mX9_init : zM := (yX9_init, cX9_init, 2, none, 2, 38, 1270)
abbrev mX9_copy : zM := (yX9_copy, cX9_copy, 3, none, 3, 0, 0)
abbrev mX9_addBytes : zM := (yX9_addBytes, cX9_addBytes, 3, none, 2, 0, 0)
abbrev mX9_many : zM := (yX9_many, cX9_many, 2, (some .int), 2, 0, 0)
abbrev mX9_keep : zM := (yX9_keep, cX9_keep, 4, none, 3, 0, 0)
abbrev mX9_hasOne : zM := (yX9_hasOne, cX9_hasOne, 3, (some .boolean), 2, 0, 0)
abbrev mX9_hillOf : zM := (yX9_hillOf, cX9_hillOf, 2, (some (.object "FrostReplies$Hill")), 3, 0, 0)
abbrev mX9_centuryOf : zM := (yX9_centuryOf, cX9_centuryOf, 2, (some (.object "FrostReplies$Century")), 3, 0, 0)
abbrev mX9_linesOf : zM := (yX9_linesOf, cX9_linesOf, 2, (some (.object "FrostReplies$Lines")), 3, 0, 0)
abbrev mX9_logOf : zM := (yX9_logOf, cX9_logOf, 2, (some (.object "FrostReplies$Log")), 3, 0, 0)
abbrev mX10_init : zM := (yX10_init, cX10_init, 1, none, 1, 4, 1644)
abbrev mX10_rowsOf : zM := (yX10_rowsOf, cX10_rowsOf, 5, (some .int), 3, 0, 0)
abbrev mX10_sumOf : zM := (yX10_sumOf, cX10_sumOf, 4, (some .int), 2, 0, 0)
abbrev mX10_shortestReadTwice : zM := (yX10_shortestReadTwice, cX10_shortestReadTwice, 4, (some .int), 6, 0, 0)
abbrev mX10_endsAt : zM := (yX10_endsAt, cX10_endsAt, 6, (some .boolean), 5, 0, 0)
abbrev mX10_goOn : zM := (yX10_goOn, cX10_goOn, 10, (some .boolean), 4, 0, 0)
abbrev mX10_shorten : zM := (yX10_shorten, cX10_shorten, 6, none, 2, 0, 0)
abbrev mX10_pair : zM := (yX10_pair, cX10_pair, 3, (some .int), 1, 0, 0)
abbrev mX10_longestChain : zM := (yX10_longestChain, cX10_longestChain, 4, (some .int), 4, 0, 0)
abbrev mX10_headsOf : zM := (yX10_headsOf, cX10_headsOf, 6, (some .int), 3, 0, 0)
abbrev mX10_wordOfFirstChain : zM := (yX10_wordOfFirstChain, cX10_wordOfFirstChain, 8, (some .int), 3, 0, 0)
abbrev mX10_headsWithout : zM := (yX10_headsWithout, cX10_headsWithout, 6, (some .int), 2, 0, 0)
abbrev mX11_init : zM := (yX11_init, cX11_init, 1, none, 3, 94, 5478)
abbrev mX11_feed : zM := (yX11_feed, cX11_feed, 6, (some .int), 3, 0, 0)
abbrev mX11_end : zM := (yX11_end, cX11_end, 2, (some .int), 1, 0, 0)
abbrev mX11_text : zM := (yX11_text, cX11_text, 8, (some .int), 10, 0, 0)
abbrev mX11_fault : zM := (yX11_fault, cX11_fault, 2, (some .int), 1, 0, 0)
abbrev mX11_hill : zM := (yX11_hill, cX11_hill, 4, (some .int), 5, 0, 0)
abbrev mX11_deed : zM := (yX11_deed, cX11_deed, 5, (some .int), 4, 0, 0)
abbrev mX11_stop : zM := (yX11_stop, cX11_stop, 5, (some .int), 7, 0, 0)
abbrev mX11_state : zM := (yX11_state, cX11_state, 7, (some .int), 7, 0, 0)
abbrev mX11_line : zM := (yX11_line, cX11_line, 5, (some .int), 4, 0, 0)
abbrev mX11_said : zM := (yX11_said, cX11_said, 5, (some .int), 5, 0, 0)
abbrev mX11_odds : zM := (yX11_odds, cX11_odds, 8, (some .long), 4, 0, 0)
abbrev mX11_sure : zM := (yX11_sure, cX11_sure, 7, (some .long), 6, 0, 0)
abbrev mX11_reading : zM := (yX11_reading, cX11_reading, 5, (some .int), 6, 0, 0)
abbrev mX11_slips : zM := (yX11_slips, cX11_slips, 5, (some .int), 5, 0, 0)
abbrev mX11_asked : zM := (yX11_asked, cX11_asked, 6, (some .long), 6, 0, 0)
abbrev mX11_soonest : zM := (yX11_soonest, cX11_soonest, 3, (some .int), 7, 0, 0)
abbrev mX11_sentences : zM := (yX11_sentences, cX11_sentences, 4, (some .int), 4, 0, 0)
abbrev mX11_twice : zM := (yX11_twice, cX11_twice, 3, (some .int), 7, 0, 0)
abbrev mX11_ghost : zM := (yX11_ghost, cX11_ghost, 5, (some .int), 13, 0, 0)
abbrev mX11_fact : zM := (yX11_fact, cX11_fact, 5, (some .int), 4, 0, 0)
abbrev mX11_forged : zM := (yX11_forged, cX11_forged, 4, (some .int), 6, 0, 0)
abbrev mX11_chance : zM := (yX11_chance, cX11_chance, 10, (some .long), 3, 0, 0)
abbrev mX11_drawn : zM := (yX11_drawn, cX11_drawn, 6, (some .int), 7, 0, 0)
abbrev mX11_next : zM := (yX11_next, cX11_next, 5, (some .int), 6, 0, 0)
abbrev mX11_echo : zM := (yX11_echo, cX11_echo, 6, (some .int), 5, 0, 0)
abbrev mX11_alike : zM := (yX11_alike, cX11_alike, 6, (some .int), 5, 0, 0)
abbrev mX11_tree : zM := (yX11_tree, cX11_tree, 4, (some .int), 7, 0, 0)
abbrev mX11_chain : zM := (yX11_chain, cX11_chain, 5, (some .int), 5, 0, 0)
abbrev mX11_after : zM := (yX11_after, cX11_after, 6, (some .int), 7, 0, 0)
abbrev mX11_age : zM := (yX11_age, cX11_age, 4, (some .int), 5, 0, 0)
abbrev mX11_waits : zM := (yX11_waits, cX11_waits, 4, (some .long), 3, 0, 0)
abbrev mX11_count : zM := (yX11_count, cX11_count, 2, (some .int), 3, 0, 0)
abbrev mX11_image : zM := (yX11_image, cX11_image, 3, (some .boolean), 4, 39, 1279)
abbrev mX11_again : zM := (yX11_again, cX11_again, 3, (some .boolean), 4, 0, 0)
abbrev mX11_winningLetter (j : Nat) : zM := (yX11_winningLetter, cX11_winningLetter, 5, (some .int), 5 + j, 0, 0)
abbrev mX11_waysOfExactly : zM := (yX11_waysOfExactly, cX11_waysOfExactly, 6, (some .long), 1, 0, 0)
abbrev mX11_least : zM := (yX11_least, cX11_least, 7, (some .long), 2, 0, 0)
abbrev mX11_commonDivisor : zM := (yX11_commonDivisor, cX11_commonDivisor, 11, (some .long), 1, 0, 0)
abbrev mX11_has : zM := (yX11_has, cX11_has, 2, (some .boolean), 1, 0, 0)
abbrev mX11_bit : zM := (yX11_bit, cX11_bit, 1, (some .int), 1, 0, 0)
abbrev mX11_lowest : zM := (yX11_lowest, cX11_lowest, 2, (some .int), 2, 0, 0)
abbrev mX11_got : zM := (yX11_got, cX11_got, 2, (some .int), 1, 0, 0)
abbrev mX11_put : zM := (yX11_put, cX11_put, 3, none, 1, 0, 0)
abbrev mX11_copyRow : zM := (yX11_copyRow, cX11_copyRow, 2, none, 1, 0, 0)
abbrev mX12_init : zM := (yX12_init, cX12_init, 1, none, 1, 18, 16510)
abbrev mX12_isIn : zM := (yX12_isIn, cX12_isIn, 3, (some .boolean), 1, 0, 0)
abbrev mX12_feed : zM := (yX12_feed, cX12_feed, 8, (some .int), 1, 0, 0)
abbrev mX12_end : zM := (yX12_end, cX12_end, 2, (some .int), 1, 0, 0)
abbrev mX12_byteAt : zM := (yX12_byteAt, cX12_byteAt, 2, (some .int), 1, 0, 0)
abbrev mX12_isLetter : zM := (yX12_isLetter, cX12_isLetter, 1, (some .boolean), 1, 0, 0)
abbrev mX12_isDigit : zM := (yX12_isDigit, cX12_isDigit, 1, (some .boolean), 1, 0, 0)
abbrev mX12_four : zM := (yX12_four, cX12_four, 4, (some .long), 1, 0, 0)
abbrev mX12_eight : zM := (yX12_eight, cX12_eight, 8, (some .long), 2, 0, 0)
abbrev mX12_wordOf : zM := (yX12_wordOf, cX12_wordOf, 2, (some .int), 3, 0, 0)
abbrev mX12_advance : zM := (yX12_advance, cX12_advance, 4, none, 4, 0, 0)
abbrev mX12_ends : zM := (yX12_ends, cX12_ends, 1, none, 1, 0, 0)
abbrev mX12_also : zM := (yX12_also, cX12_also, 3, none, 1, 0, 0)
abbrev mX12_numbered : zM := (yX12_numbered, cX12_numbered, 4, (some .int), 5, 0, 0)
abbrev mX12_wordIn : zM := (yX12_wordIn, cX12_wordIn, 4, (some .int), 5, 0, 0)
abbrev mX12_endsLine : zM := (yX12_endsLine, cX12_endsLine, 1, none, 5, 0, 0)
abbrev mX12_rowTold : zM := (yX12_rowTold, cX12_rowTold, 5, none, 5, 0, 0)
abbrev mX12_wordTold : zM := (yX12_wordTold, cX12_wordTold, 2, (some .int), 6, 0, 0)
abbrev mX12_wordLine : zM := (yX12_wordLine, cX12_wordLine, 6, none, 6, 0, 0)
abbrev mX12_hillLine : zM := (yX12_hillLine, cX12_hillLine, 5, none, 7, 0, 0)
abbrev mX12_centuryLine : zM := (yX12_centuryLine, cX12_centuryLine, 6, none, 6, 0, 0)
abbrev mX12_linesLine : zM := (yX12_linesLine, cX12_linesLine, 4, none, 6, 0, 0)
abbrev mX12_logLine : zM := (yX12_logLine, cX12_logLine, 4, none, 6, 0, 0)
abbrev mX12_isTwice : zM := (yX12_isTwice, cX12_isTwice, 6, (some .boolean), 1, 0, 0)
abbrev mX12_placeOf : zM := (yX12_placeOf, cX12_placeOf, 2, (some .int), 1, 0, 0)
abbrev mX12_sizeOf : zM := (yX12_sizeOf, cX12_sizeOf, 1, (some .int), 1, 0, 0)
abbrev mX12_isOf : zM := (yX12_isOf, cX12_isOf, 3, (some .boolean), 2, 0, 0)
abbrev mX12_text : zM := (yX12_text, cX12_text, 5, (some .int), 8, 0, 0)
abbrev mX12_fault : zM := (yX12_fault, cX12_fault, 2, (some .int), 1, 0, 0)
abbrev mX12_isHill : zM := (yX12_isHill, cX12_isHill, 2, (some .boolean), 3, 0, 0)
abbrev mX12_isWord : zM := (yX12_isWord, cX12_isWord, 2, (some .boolean), 2, 0, 0)
abbrev mX12_isStone : zM := (yX12_isStone, cX12_isStone, 2, (some .boolean), 2, 0, 0)
abbrev mX12_longOf : zM := (yX12_longOf, cX12_longOf, 2, (some .int), 1, 0, 0)
abbrev mX12_oftenOf : zM := (yX12_oftenOf, cX12_oftenOf, 2, (some .int), 1, 0, 0)
abbrev mX12_letterOf : zM := (yX12_letterOf, cX12_letterOf, 3, (some .int), 1, 0, 0)
abbrev mX12_everyWord : zM := (yX12_everyWord, cX12_everyWord, 1, (some .int), 1, 0, 0)
abbrev mX12_behind : zM := (yX12_behind, cX12_behind, 2, (some .int), 2, 0, 0)
abbrev mX12_answersTo : zM := (yX12_answersTo, cX12_answersTo, 2, (some .int), 1, 0, 0)
abbrev mX12_holds : zM := (yX12_holds, cX12_holds, 2, (some .boolean), 1, 0, 0)
abbrev mX12_bitsOf : zM := (yX12_bitsOf, cX12_bitsOf, 3, (some .int), 1, 0, 0)
abbrev mX12_hill : zM := (yX12_hill, cX12_hill, 5, (some .int), 4, 0, 0)
abbrev mX12_isCentury : zM := (yX12_isCentury, cX12_isCentury, 2, (some .boolean), 3, 0, 0)
abbrev mX12_deed : zM := (yX12_deed, cX12_deed, 4, (some .int), 4, 0, 0)
abbrev mX12_begins : zM := (yX12_begins, cX12_begins, 2, none, 1, 0, 0)
abbrev mX12_begins0 : zM := (yX12_begins0, cX12_begins0, 5, (some .boolean), 2, 0, 0)
abbrev mX12_fitting : zM := (yX12_fitting, cX12_fitting, 4, (some .int), 3, 0, 0)
abbrev mX12_puts : zM := (yX12_puts, cX12_puts, 6, none, 1, 0, 0)
abbrev mX12_freezes : zM := (yX12_freezes, cX12_freezes, 4, (some .boolean), 4, 0, 0)
abbrev mX12_tells : zM := (yX12_tells, cX12_tells, 3, (some .boolean), 4, 0, 0)
abbrev mX12_does : zM := (yX12_does, cX12_does, 4, (some .boolean), 5, 0, 0)
abbrev mX12_runs : zM := (yX12_runs, cX12_runs, 2, none, 6, 0, 0)
abbrev mX12_stop : zM := (yX12_stop, cX12_stop, 3, (some .int), 7, 0, 0)
abbrev mX12_feignedOn : zM := (yX12_feignedOn, cX12_feignedOn, 4, (some .int), 1, 0, 0)
abbrev mX12_nowOf : zM := (yX12_nowOf, cX12_nowOf, 4, (some .int), 4, 0, 0)
abbrev mX12_state : zM := (yX12_state, cX12_state, 5, (some .int), 7, 0, 0)
abbrev mX12_after : zM := (yX12_after, cX12_after, 9, (some .int), 6, 0, 0)
abbrev mX12_isLine : zM := (yX12_isLine, cX12_isLine, 3, (some .boolean), 3, 0, 0)
abbrev mX12_inLine : zM := (yX12_inLine, cX12_inLine, 2, (some .int), 1, 0, 0)
abbrev mX12_line : zM := (yX12_line, cX12_line, 4, (some .int), 4, 0, 0)
abbrev mX12_saidOf : zM := (yX12_saidOf, cX12_saidOf, 5, (some .int), 2, 0, 0)
abbrev mX12_oftenIn : zM := (yX12_oftenIn, cX12_oftenIn, 4, (some .int), 2, 0, 0)
abbrev mX12_said : zM := (yX12_said, cX12_said, 8, (some .int), 4, 0, 0)
abbrev mX12_common : zM := (yX12_common, cX12_common, 10, (some .long), 1, 0, 0)
abbrev mX12_least : zM := (yX12_least, cX12_least, 5, (some .long), 2, 0, 0)
abbrev mX12_odds : zM := (yX12_odds, cX12_odds, 8, (some .long), 4, 0, 0)
abbrev mX12_alikeOf : zM := (yX12_alikeOf, cX12_alikeOf, 4, (some .int), 2, 0, 0)
abbrev mX12_sureIn : zM := (yX12_sureIn, cX12_sureIn, 7, (some .int), 3, 0, 0)
abbrev mX12_sure : zM := (yX12_sure, cX12_sure, 6, (some .long), 4, 0, 0)
abbrev mX12_asked : zM := (yX12_asked, cX12_asked, 5, (some .long), 4, 0, 0)
abbrev mX12_soonest : zM := (yX12_soonest, cX12_soonest, 5, (some .int), 4, 0, 0)
abbrev mX12_unlike : zM := (yX12_unlike, cX12_unlike, 5, (some .int), 2, 0, 0)
abbrev mX12_laysReadings : zM := (yX12_laysReadings, cX12_laysReadings, 5, none, 3, 0, 0)
abbrev mX12_reading : zM := (yX12_reading, cX12_reading, 9, (some .int), 4, 0, 0)
abbrev mX12_mendedOf : zM := (yX12_mendedOf, cX12_mendedOf, 6, (some .int), 3, 0, 0)
abbrev mX12_next : zM := (yX12_next, cX12_next, 13, (some .int), 4, 0, 0)
abbrev mX12_takesWord : zM := (yX12_takesWord, cX12_takesWord, 4, none, 2, 0, 0)
abbrev mX12_changesOf : zM := (yX12_changesOf, cX12_changesOf, 4, (some .int), 1, 0, 0)
abbrev mX12_slips : zM := (yX12_slips, cX12_slips, 8, (some .int), 4, 0, 0)
abbrev mX12_echo : zM := (yX12_echo, cX12_echo, 10, (some .int), 4, 0, 0)
abbrev mX12_apartOf : zM := (yX12_apartOf, cX12_apartOf, 3, (some .int), 3, 0, 0)
abbrev mX12_alike : zM := (yX12_alike, cX12_alike, 5, (some .int), 4, 0, 0)
abbrev mX12_closestOf : zM := (yX12_closestOf, cX12_closestOf, 4, (some .int), 4, 0, 0)
abbrev mX12_treeOf : zM := (yX12_treeOf, cX12_treeOf, 5, (some .int), 3, 0, 0)
abbrev mX12_isBeginning : zM := (yX12_isBeginning, cX12_isBeginning, 3, (some .boolean), 3, 0, 0)
abbrev mX12_withinOf : zM := (yX12_withinOf, cX12_withinOf, 5, (some .int), 4, 0, 0)
abbrev mX12_leadsOf : zM := (yX12_leadsOf, cX12_leadsOf, 6, (some .int), 3, 0, 0)
abbrev mX12_tree : zM := (yX12_tree, cX12_tree, 5, (some .int), 5, 0, 0)
abbrev mX12_bestBehind : zM := (yX12_bestBehind, cX12_bestBehind, 5, (some .int), 3, 0, 0)
abbrev mX12_chain : zM := (yX12_chain, cX12_chain, 8, (some .int), 4, 0, 0)
abbrev mX12_sentences : zM := (yX12_sentences, cX12_sentences, 7, (some .int), 4, 0, 0)
abbrev mX12_goesOn : zM := (yX12_goesOn, cX12_goesOn, 8, (some .boolean), 3, 0, 0)
abbrev mX12_twice : zM := (yX12_twice, cX12_twice, 5, (some .int), 4, 0, 0)
abbrev mX12_isWhole : zM := (yX12_isWhole, cX12_isWhole, 5, (some .boolean), 3, 0, 0)
abbrev mX12_isWon : zM := (yX12_isWon, cX12_isWon, 5, (some .boolean), 4, 0, 0)
abbrev mX12_ghost : zM := (yX12_ghost, cX12_ghost, 5, (some .int), 5, 0, 0)
abbrev mX12_isLog : zM := (yX12_isLog, cX12_isLog, 3, (some .boolean), 3, 0, 0)
abbrev mX12_fact : zM := (yX12_fact, cX12_fact, 4, (some .int), 4, 0, 0)
abbrev mX12_digit : zM := (yX12_digit, cX12_digit, 2, (some .int), 1, 0, 0)
abbrev mX12_isSo : zM := (yX12_isSo, cX12_isSo, 4, (some .boolean), 2, 0, 0)
abbrev mX12_isRule : zM := (yX12_isRule, cX12_isRule, 1, (some .boolean), 2, 0, 0)
abbrev mX12_notSo : zM := (yX12_notSo, cX12_notSo, 4, (some .int), 3, 0, 0)
abbrev mX12_placesNotSo : zM := (yX12_placesNotSo, cX12_placesNotSo, 4, (some .int), 3, 0, 0)
abbrev mX12_fewest : zM := (yX12_fewest, cX12_fewest, 3, (some .int), 4, 0, 0)
abbrev mX12_forged : zM := (yX12_forged, cX12_forged, 7, (some .int), 5, 0, 0)
abbrev mX12_age : zM := (yX12_age, cX12_age, 7, (some .int), 5, 0, 0)
abbrev mX12_power : zM := (yX12_power, cX12_power, 6, (some .long), 1, 0, 0)
abbrev mX12_chance : zM := (yX12_chance, cX12_chance, 8, (some .long), 3, 0, 0)
abbrev mX12_waits : zM := (yX12_waits, cX12_waits, 4, (some .long), 3, 0, 0)
abbrev mX12_below : zM := (yX12_below, cX12_below, 2, (some .int), 1, 0, 0)
abbrev mX12_draws : zM := (yX12_draws, cX12_draws, 3, none, 6, 0, 0)
abbrev mX12_drawn : zM := (yX12_drawn, cX12_drawn, 6, (some .int), 7, 0, 0)
abbrev mX12_count : zM := (yX12_count, cX12_count, 2, (some .int), 2, 0, 0)
abbrev mX12_image : zM := (yX12_image, cX12_image, 3, (some .boolean), 2, 0, 0)
abbrev mX12_again : zM := (yX12_again, cX12_again, 3, (some .boolean), 2, 0, 0)
abbrev mJ6_bitCount_0f7a4 : zM := (yJ6_bitCount_0f7a4, cJ6_bitCount_0f7a4, 1, (some .int), 1, 0, 0)
abbrev mJ7_fill_53178 : zM := (yJ7_fill_53178, cJ7_fill_53178, 4, none, 1, 0, 0)
abbrev mL_law : zM := (x, code, 4, (some .boolean), 40, 600000, 7302250)
theorem wi_X11 : Cond.initialized RX11 ∈ zGW := z_mem (z_tA (List.mem_of_getElem? (i := 1) rfl)) rfl
theorem wi_X12 : Cond.initialized RX12 ∈ zGW := z_mem (z_tA (List.mem_of_getElem? (i := 13) rfl)) rfl
theorem wi_X0 : Cond.initialized RX0 ∈ zGW := z_mem (z_tA (List.mem_of_getElem? (i := 4) rfl)) rfl
theorem wi_X1 : Cond.initialized RX1 ∈ zGW := z_mem (z_tA (List.mem_of_getElem? (i := 10) rfl)) rfl
theorem wi_X2 : Cond.initialized RX2 ∈ zGW := z_mem (z_tA (List.mem_of_getElem? (i := 9) rfl)) rfl
theorem wi_X3 : Cond.initialized RX3 ∈ zGW := z_mem (z_tA (List.mem_of_getElem? (i := 3) rfl)) rfl
theorem wi_X4 : Cond.initialized RX4 ∈ zGW := z_mem (z_tA (List.mem_of_getElem? (i := 5) rfl)) rfl
theorem wi_X5 : Cond.initialized RX5 ∈ zGW := z_mem (z_tA (List.mem_of_getElem? (i := 6) rfl)) rfl
theorem wi_X6 : Cond.initialized RX6 ∈ zGW := z_mem (z_tA (List.mem_of_getElem? (i := 7) rfl)) rfl
theorem wi_X7 : Cond.initialized RX7 ∈ zGW := z_mem (z_tA (List.mem_of_getElem? (i := 12) rfl)) rfl
theorem wi_X8 : Cond.initialized RX8 ∈ zGW := z_mem (z_tA (List.mem_of_getElem? (i := 8) rfl)) rfl
theorem wi_X9 : Cond.initialized RX9 ∈ zGW := z_mem (z_tA (List.mem_of_getElem? (i := 2) rfl)) rfl
theorem wi_X10 : Cond.initialized RX10 ∈ zGW := z_mem (z_tA (List.mem_of_getElem? (i := 11) rfl)) rfl
theorem wi_J7 : Cond.initialized RJ7 ∈ zGW := z_mem (z_tA (List.mem_of_getElem? (i := 14) rfl)) rfl
theorem wi_J6 : Cond.initialized RJ6 ∈ zGW := z_mem (z_tA (List.mem_of_getElem? (i := 21) rfl)) rfl
theorem kX0_init : zcI mX0_init 0 := ⟨⟨z_mem (z_tA (List.mem_of_getElem? (i := 97) rfl)) rfl, wi_X0, by decide, by decide, by decide +kernel⟩, rfl, z_mem (z_tA (List.mem_of_getElem? (i := 96) rfl)) rfl, rfl⟩
theorem kX0_copy : zcS (mX0_copy) 2 := ⟨⟨z_mem (z_tC (List.mem_of_getElem? (i := 211) rfl)) rfl, wi_X0, by decide, by decide, by decide +kernel⟩, z_mem (z_tC (List.mem_of_getElem? (i := 210) rfl)) rfl⟩
theorem kX0_look : zcV mX0_look 2 0 := ⟨⟨z_mem (z_tD (List.mem_of_getElem? (i := 33) rfl)) rfl, wi_X0, by decide, by decide, by decide +kernel⟩, z_mem (z_tD (List.mem_of_getElem? (i := 31) rfl)) rfl, z_mem (z_tD (List.mem_of_getElem? (i := 32) rfl)) rfl, by decide, rfl⟩
theorem kX1_init : zcI mX1_init 0 := ⟨⟨z_mem (z_tB (List.mem_of_getElem? (i := 102) rfl)) rfl, wi_X1, by decide, by decide, by decide +kernel⟩, rfl, z_mem (z_tB (List.mem_of_getElem? (i := 101) rfl)) rfl, rfl⟩
theorem kX1_hears : zcV mX1_hears 3 1 := ⟨⟨z_mem (z_tD (List.mem_of_getElem? (i := 146) rfl)) rfl, wi_X1, by decide, by decide, by decide +kernel⟩, z_mem (z_tD (List.mem_of_getElem? (i := 144) rfl)) rfl, z_mem (z_tD (List.mem_of_getElem? (i := 145) rfl)) rfl, by decide, rfl⟩
theorem kX1_heard : zcV mX1_heard 0 1 := ⟨⟨z_mem (z_tD (List.mem_of_getElem? (i := 154) rfl)) rfl, wi_X1, by decide, by decide, by decide +kernel⟩, z_mem (z_tD (List.mem_of_getElem? (i := 152) rfl)) rfl, z_mem (z_tD (List.mem_of_getElem? (i := 153) rfl)) rfl, by decide, rfl⟩
theorem kX1_likely : zcV mX1_likely 0 1 := ⟨⟨z_mem (z_tD (List.mem_of_getElem? (i := 159) rfl)) rfl, wi_X1, by decide, by decide, by decide +kernel⟩, z_mem (z_tD (List.mem_of_getElem? (i := 157) rfl)) rfl, z_mem (z_tD (List.mem_of_getElem? (i := 158) rfl)) rfl, by decide, rfl⟩
theorem kX1_lettersBehind : zcV mX1_lettersBehind 0 1 := ⟨⟨z_mem (z_tE (List.mem_of_getElem? (i := 194) rfl)) rfl, wi_X1, by decide, by decide, by decide +kernel⟩, z_mem (z_tE (List.mem_of_getElem? (i := 192) rfl)) rfl, z_mem (z_tE (List.mem_of_getElem? (i := 193) rfl)) rfl, by decide, rfl⟩
theorem kX1_keenest : zcV mX1_keenest 0 1 := ⟨⟨z_mem (z_tE (List.mem_of_getElem? (i := 198) rfl)) rfl, wi_X1, by decide, by decide, by decide +kernel⟩, z_mem (z_tE (List.mem_of_getElem? (i := 196) rfl)) rfl, z_mem (z_tE (List.mem_of_getElem? (i := 197) rfl)) rfl, by decide, rfl⟩
theorem kX1_oftenGoingOn : zcV mX1_oftenGoingOn 1 1 := ⟨⟨z_mem (z_tE (List.mem_of_getElem? (i := 203) rfl)) rfl, wi_X1, by decide, by decide, by decide +kernel⟩, z_mem (z_tE (List.mem_of_getElem? (i := 202) rfl)) rfl, z_mem (z_tS (List.mem_of_getElem? (i := 56) rfl)) rfl, by decide, rfl⟩
theorem kX1_readings : zcV mX1_readings 0 1 := ⟨⟨z_mem (z_tD (List.mem_of_getElem? (i := 202) rfl)) rfl, wi_X1, by decide, by decide, by decide +kernel⟩, z_mem (z_tD (List.mem_of_getElem? (i := 200) rfl)) rfl, z_mem (z_tD (List.mem_of_getElem? (i := 201) rfl)) rfl, by decide, rfl⟩
theorem kX1_countReadings : zcV mX1_countReadings 0 1 := ⟨⟨z_mem (z_tD (List.mem_of_getElem? (i := 206) rfl)) rfl, wi_X1, by decide, by decide, by decide +kernel⟩, z_mem (z_tD (List.mem_of_getElem? (i := 205) rfl)) rfl, z_mem (z_tS (List.mem_of_getElem? (i := 40) rfl)) rfl, by decide, rfl⟩
theorem kX1_readingsBehind : zcV mX1_readingsBehind 2 1 := ⟨⟨z_mem (z_tD (List.mem_of_getElem? (i := 216) rfl)) rfl, wi_X1, by decide, by decide, by decide +kernel⟩, z_mem (z_tD (List.mem_of_getElem? (i := 215) rfl)) rfl, z_mem (z_tS (List.mem_of_getElem? (i := 41) rfl)) rfl, by decide, rfl⟩
theorem kX1_wordOfFirstReading : zcV mX1_wordOfFirstReading 1 1 := ⟨⟨z_mem (z_tD (List.mem_of_getElem? (i := 221) rfl)) rfl, wi_X1, by decide, by decide, by decide +kernel⟩, z_mem (z_tD (List.mem_of_getElem? (i := 219) rfl)) rfl, z_mem (z_tD (List.mem_of_getElem? (i := 220) rfl)) rfl, by decide, rfl⟩
theorem kX1_leastReadAt : zcV mX1_leastReadAt 2 1 := ⟨⟨z_mem (z_tD (List.mem_of_getElem? (i := 225) rfl)) rfl, wi_X1, by decide, by decide, by decide +kernel⟩, z_mem (z_tD (List.mem_of_getElem? (i := 224) rfl)) rfl, z_mem (z_tS (List.mem_of_getElem? (i := 42) rfl)) rfl, by decide, rfl⟩
theorem kX1_mended : zcV mX1_mended 0 1 := ⟨⟨z_mem (z_tE (List.mem_of_getElem? (i := 207) rfl)) rfl, wi_X1, by decide, by decide, by decide +kernel⟩, z_mem (z_tE (List.mem_of_getElem? (i := 205) rfl)) rfl, z_mem (z_tE (List.mem_of_getElem? (i := 206) rfl)) rfl, by decide, rfl⟩
theorem kX1_fewestBehind : zcV mX1_fewestBehind 2 1 := ⟨⟨z_mem (z_tE (List.mem_of_getElem? (i := 211) rfl)) rfl, wi_X1, by decide, by decide, by decide +kernel⟩, z_mem (z_tE (List.mem_of_getElem? (i := 210) rfl)) rfl, z_mem (z_tS (List.mem_of_getElem? (i := 57) rfl)) rfl, by decide, rfl⟩
theorem kX1_slipsUpTo : zcV mX1_slipsUpTo 1 1 := ⟨⟨z_mem (z_tD (List.mem_of_getElem? (i := 233) rfl)) rfl, wi_X1, by decide, by decide, by decide +kernel⟩, z_mem (z_tD (List.mem_of_getElem? (i := 231) rfl)) rfl, z_mem (z_tD (List.mem_of_getElem? (i := 232) rfl)) rfl, by decide, rfl⟩
theorem kX1_changesBetween : zcV mX1_changesBetween 3 1 := ⟨⟨z_mem (z_tE (List.mem_of_getElem? (i := 234) rfl)) rfl, wi_X1, by decide, by decide, by decide +kernel⟩, z_mem (z_tE (List.mem_of_getElem? (i := 232) rfl)) rfl, z_mem (z_tE (List.mem_of_getElem? (i := 233) rfl)) rfl, by decide, rfl⟩
theorem kX1_changesTo : zcV mX1_changesTo 5 1 := ⟨⟨z_mem (z_tD (List.mem_of_getElem? (i := 237) rfl)) rfl, wi_X1, by decide, by decide, by decide +kernel⟩, z_mem (z_tD (List.mem_of_getElem? (i := 236) rfl)) rfl, z_mem (z_tS (List.mem_of_getElem? (i := 43) rfl)) rfl, by decide, rfl⟩
theorem kX1_closest : zcV mX1_closest 2 1 := ⟨⟨z_mem (z_tF (List.mem_of_getElem? (i := 3) rfl)) rfl, wi_X1, by decide, by decide, by decide +kernel⟩, z_mem (z_tF (List.mem_of_getElem? (i := 1) rfl)) rfl, z_mem (z_tF (List.mem_of_getElem? (i := 2) rfl)) rfl, by decide, rfl⟩
theorem kX2_init : zcI mX2_init 0 := ⟨⟨z_mem (z_tB (List.mem_of_getElem? (i := 58) rfl)) rfl, wi_X2, by decide, by decide, by decide +kernel⟩, rfl, z_mem (z_tB (List.mem_of_getElem? (i := 57) rfl)) rfl, rfl⟩
theorem kX2_begin : zcV mX2_begin 1 2 := ⟨⟨z_mem (z_tD (List.mem_of_getElem? (i := 46) rfl)) rfl, wi_X2, by decide, by decide, by decide +kernel⟩, z_mem (z_tD (List.mem_of_getElem? (i := 45) rfl)) rfl, z_mem (z_tS (List.mem_of_getElem? (i := 26) rfl)) rfl, by decide, rfl⟩
theorem kX2_play : zcV mX2_play 3 2 := ⟨⟨z_mem (z_tD (List.mem_of_getElem? (i := 42) rfl)) rfl, wi_X2, by decide, by decide, by decide +kernel⟩, z_mem (z_tD (List.mem_of_getElem? (i := 40) rfl)) rfl, z_mem (z_tD (List.mem_of_getElem? (i := 41) rfl)) rfl, by decide, rfl⟩
theorem kX2_draw : zcV mX2_draw 3 2 := ⟨⟨z_mem (z_tE (List.mem_of_getElem? (i := 179) rfl)) rfl, wi_X2, by decide, by decide, by decide +kernel⟩, z_mem (z_tE (List.mem_of_getElem? (i := 177) rfl)) rfl, z_mem (z_tE (List.mem_of_getElem? (i := 178) rfl)) rfl, by decide, rfl⟩
theorem kX2_stir : zcS (mX2_stir) 1 := ⟨⟨z_mem (z_tE (List.mem_of_getElem? (i := 182) rfl)) rfl, wi_X2, by decide, by decide, by decide +kernel⟩, z_mem (z_tE (List.mem_of_getElem? (i := 181) rfl)) rfl⟩
theorem kX2_below : zcS (mX2_below) 2 := ⟨⟨z_mem (z_tE (List.mem_of_getElem? (i := 186) rfl)) rfl, wi_X2, by decide, by decide, by decide +kernel⟩, z_mem (z_tE (List.mem_of_getElem? (i := 185) rfl)) rfl⟩
theorem kX2_does : zcV mX2_does 3 2 := ⟨⟨z_mem (z_tD (List.mem_of_getElem? (i := 52) rfl)) rfl, wi_X2, by decide, by decide, by decide +kernel⟩, z_mem (z_tD (List.mem_of_getElem? (i := 51) rfl)) rfl, z_mem (z_tS (List.mem_of_getElem? (i := 27) rfl)) rfl, by decide, rfl⟩
theorem kX2_isStone : zcV mX2_isStone 1 2 := ⟨⟨z_mem (z_tD (List.mem_of_getElem? (i := 56) rfl)) rfl, wi_X2, by decide, by decide, by decide +kernel⟩, z_mem (z_tD (List.mem_of_getElem? (i := 55) rfl)) rfl, z_mem (z_tS (List.mem_of_getElem? (i := 28) rfl)) rfl, by decide, rfl⟩
theorem kX2_open : zcV mX2_open 1 2 := ⟨⟨z_mem (z_tD (List.mem_of_getElem? (i := 68) rfl)) rfl, wi_X2, by decide, by decide, by decide +kernel⟩, z_mem (z_tD (List.mem_of_getElem? (i := 67) rfl)) rfl, z_mem (z_tS (List.mem_of_getElem? (i := 30) rfl)) rfl, by decide, rfl⟩
theorem kX2_freeze : zcV mX2_freeze 2 2 := ⟨⟨z_mem (z_tD (List.mem_of_getElem? (i := 63) rfl)) rfl, wi_X2, by decide, by decide, by decide +kernel⟩, z_mem (z_tD (List.mem_of_getElem? (i := 62) rfl)) rfl, z_mem (z_tS (List.mem_of_getElem? (i := 29) rfl)) rfl, by decide, rfl⟩
theorem kX2_falsify : zcV mX2_falsify 2 2 := ⟨⟨z_mem (z_tD (List.mem_of_getElem? (i := 87) rfl)) rfl, wi_X2, by decide, by decide, by decide +kernel⟩, z_mem (z_tD (List.mem_of_getElem? (i := 86) rfl)) rfl, z_mem (z_tS (List.mem_of_getElem? (i := 33) rfl)) rfl, by decide, rfl⟩
theorem kX2_add : zcV mX2_add 4 2 := ⟨⟨z_mem (z_tD (List.mem_of_getElem? (i := 83) rfl)) rfl, wi_X2, by decide, by decide, by decide +kernel⟩, z_mem (z_tD (List.mem_of_getElem? (i := 82) rfl)) rfl, z_mem (z_tS (List.mem_of_getElem? (i := 32) rfl)) rfl, by decide, rfl⟩
theorem kX2_overgrow : zcV mX2_overgrow 1 2 := ⟨⟨z_mem (z_tD (List.mem_of_getElem? (i := 91) rfl)) rfl, wi_X2, by decide, by decide, by decide +kernel⟩, z_mem (z_tD (List.mem_of_getElem? (i := 90) rfl)) rfl, z_mem (z_tS (List.mem_of_getElem? (i := 34) rfl)) rfl, by decide, rfl⟩
theorem kX2_chipOff : zcV mX2_chipOff 1 2 := ⟨⟨z_mem (z_tD (List.mem_of_getElem? (i := 96) rfl)) rfl, wi_X2, by decide, by decide, by decide +kernel⟩, z_mem (z_tD (List.mem_of_getElem? (i := 95) rfl)) rfl, z_mem (z_tS (List.mem_of_getElem? (i := 35) rfl)) rfl, by decide, rfl⟩
theorem kX2_fitting : zcV mX2_fitting 2 2 := ⟨⟨z_mem (z_tD (List.mem_of_getElem? (i := 72) rfl)) rfl, wi_X2, by decide, by decide, by decide +kernel⟩, z_mem (z_tD (List.mem_of_getElem? (i := 71) rfl)) rfl, z_mem (z_tS (List.mem_of_getElem? (i := 31) rfl)) rfl, by decide, rfl⟩
theorem kX2_forgeriesOn : zcV mX2_forgeriesOn 1 2 := ⟨⟨z_mem (z_tD (List.mem_of_getElem? (i := 117) rfl)) rfl, wi_X2, by decide, by decide, by decide +kernel⟩, z_mem (z_tD (List.mem_of_getElem? (i := 116) rfl)) rfl, z_mem (z_tS (List.mem_of_getElem? (i := 38) rfl)) rfl, by decide, rfl⟩
theorem kX2_look : zcV mX2_look 1 2 := ⟨⟨z_mem (z_tD (List.mem_of_getElem? (i := 105) rfl)) rfl, wi_X2, by decide, by decide, by decide +kernel⟩, z_mem (z_tD (List.mem_of_getElem? (i := 103) rfl)) rfl, z_mem (z_tD (List.mem_of_getElem? (i := 104) rfl)) rfl, by decide, rfl⟩
theorem kX2_lookAtLetter : zcV mX2_lookAtLetter 2 2 := ⟨⟨z_mem (z_tD (List.mem_of_getElem? (i := 109) rfl)) rfl, wi_X2, by decide, by decide, by decide +kernel⟩, z_mem (z_tD (List.mem_of_getElem? (i := 108) rfl)) rfl, z_mem (z_tS (List.mem_of_getElem? (i := 36) rfl)) rfl, by decide, rfl⟩
theorem kX2_lookAtStone : zcV mX2_lookAtStone 2 2 := ⟨⟨z_mem (z_tD (List.mem_of_getElem? (i := 113) rfl)) rfl, wi_X2, by decide, by decide, by decide +kernel⟩, z_mem (z_tD (List.mem_of_getElem? (i := 112) rfl)) rfl, z_mem (z_tS (List.mem_of_getElem? (i := 37) rfl)) rfl, by decide, rfl⟩
theorem kX2_wordiest : zcV mX2_wordiest 0 2 := ⟨⟨z_mem (z_tF (List.mem_of_getElem? (i := 57) rfl)) rfl, wi_X2, by decide, by decide, by decide +kernel⟩, z_mem (z_tF (List.mem_of_getElem? (i := 55) rfl)) rfl, z_mem (z_tF (List.mem_of_getElem? (i := 56) rfl)) rfl, by decide, rfl⟩
theorem kX2_feigned : zcV mX2_feigned 0 2 := ⟨⟨z_mem (z_tF (List.mem_of_getElem? (i := 61) rfl)) rfl, wi_X2, by decide, by decide, by decide +kernel⟩, z_mem (z_tF (List.mem_of_getElem? (i := 59) rfl)) rfl, z_mem (z_tF (List.mem_of_getElem? (i := 60) rfl)) rfl, by decide, rfl⟩
theorem kX3_init : zcI mX3_init 0 := ⟨⟨z_mem (z_tA (List.mem_of_getElem? (i := 47) rfl)) rfl, wi_X3, by decide, by decide, by decide +kernel⟩, rfl, z_mem (z_tA (List.mem_of_getElem? (i := 46) rfl)) rfl, rfl⟩
theorem kX3_clear : zcV mX3_clear 0 3 := ⟨⟨z_mem (z_tB (List.mem_of_getElem? (i := 228) rfl)) rfl, wi_X3, by decide, by decide, by decide +kernel⟩, z_mem (z_tB (List.mem_of_getElem? (i := 226) rfl)) rfl, z_mem (z_tB (List.mem_of_getElem? (i := 227) rfl)) rfl, by decide, rfl⟩
theorem kX3_copy : zcS (mX3_copy) 2 := ⟨⟨z_mem (z_tC (List.mem_of_getElem? (i := 201) rfl)) rfl, wi_X3, by decide, by decide, by decide +kernel⟩, z_mem (z_tC (List.mem_of_getElem? (i := 200) rfl)) rfl⟩
theorem kX3_look : zcV mX3_look 1 3 := ⟨⟨z_mem (z_tD (List.mem_of_getElem? (i := 1) rfl)) rfl, wi_X3, by decide, by decide, by decide +kernel⟩, z_mem (z_tC (List.mem_of_getElem? (i := 239) rfl)) rfl, z_mem (z_tD (List.mem_of_getElem? (i := 0) rfl)) rfl, by decide, rfl⟩
theorem kX3_lookAtWord : zcV mX3_lookAtWord 2 3 := ⟨⟨z_mem (z_tD (List.mem_of_getElem? (i := 9) rfl)) rfl, wi_X3, by decide, by decide, by decide +kernel⟩, z_mem (z_tD (List.mem_of_getElem? (i := 8) rfl)) rfl, z_mem (z_tS (List.mem_of_getElem? (i := 25) rfl)) rfl, by decide, rfl⟩
theorem kX3_hasWord : zcV mX3_hasWord 1 3 := ⟨⟨z_mem (z_tD (List.mem_of_getElem? (i := 5) rfl)) rfl, wi_X3, by decide, by decide, by decide +kernel⟩, z_mem (z_tD (List.mem_of_getElem? (i := 3) rfl)) rfl, z_mem (z_tD (List.mem_of_getElem? (i := 4) rfl)) rfl, by decide, rfl⟩
theorem kX3_sizeOf : zcV mX3_sizeOf 1 3 := ⟨⟨z_mem (z_tC (List.mem_of_getElem? (i := 183) rfl)) rfl, wi_X3, by decide, by decide, by decide +kernel⟩, z_mem (z_tC (List.mem_of_getElem? (i := 181) rfl)) rfl, z_mem (z_tC (List.mem_of_getElem? (i := 182) rfl)) rfl, by decide, rfl⟩
theorem kX3_oftenOf : zcV mX3_oftenOf 1 3 := ⟨⟨z_mem (z_tD (List.mem_of_getElem? (i := 13) rfl)) rfl, wi_X3, by decide, by decide, by decide +kernel⟩, z_mem (z_tD (List.mem_of_getElem? (i := 11) rfl)) rfl, z_mem (z_tD (List.mem_of_getElem? (i := 12) rfl)) rfl, by decide, rfl⟩
theorem kX3_letterOf : zcV mX3_letterOf 2 3 := ⟨⟨z_mem (z_tC (List.mem_of_getElem? (i := 193) rfl)) rfl, wi_X3, by decide, by decide, by decide +kernel⟩, z_mem (z_tC (List.mem_of_getElem? (i := 191) rfl)) rfl, z_mem (z_tC (List.mem_of_getElem? (i := 192) rfl)) rfl, by decide, rfl⟩
theorem kX3_all : zcV mX3_all 0 3 := ⟨⟨z_mem (z_tD (List.mem_of_getElem? (i := 21) rfl)) rfl, wi_X3, by decide, by decide, by decide +kernel⟩, z_mem (z_tD (List.mem_of_getElem? (i := 19) rfl)) rfl, z_mem (z_tD (List.mem_of_getElem? (i := 20) rfl)) rfl, by decide, rfl⟩
theorem kX3_behind : zcV mX3_behind 1 3 := ⟨⟨z_mem (z_tD (List.mem_of_getElem? (i := 17) rfl)) rfl, wi_X3, by decide, by decide, by decide +kernel⟩, z_mem (z_tD (List.mem_of_getElem? (i := 15) rfl)) rfl, z_mem (z_tD (List.mem_of_getElem? (i := 16) rfl)) rfl, by decide, rfl⟩
theorem kX3_oftenOfAll : zcV mX3_oftenOfAll 1 3 := ⟨⟨z_mem (z_tD (List.mem_of_getElem? (i := 174) rfl)) rfl, wi_X3, by decide, by decide, by decide +kernel⟩, z_mem (z_tD (List.mem_of_getElem? (i := 172) rfl)) rfl, z_mem (z_tD (List.mem_of_getElem? (i := 173) rfl)) rfl, by decide, rfl⟩
theorem kX3_beginningWith : zcV mX3_beginningWith 3 3 := ⟨⟨z_mem (z_tD (List.mem_of_getElem? (i := 76) rfl)) rfl, wi_X3, by decide, by decide, by decide +kernel⟩, z_mem (z_tD (List.mem_of_getElem? (i := 74) rfl)) rfl, z_mem (z_tD (List.mem_of_getElem? (i := 75) rfl)) rfl, by decide, rfl⟩
theorem kX3_changesAt : zcV mX3_changesAt 4 3 := ⟨⟨z_mem (z_tD (List.mem_of_getElem? (i := 212) rfl)) rfl, wi_X3, by decide, by decide, by decide +kernel⟩, z_mem (z_tD (List.mem_of_getElem? (i := 210) rfl)) rfl, z_mem (z_tD (List.mem_of_getElem? (i := 211) rfl)) rfl, by decide, rfl⟩
theorem kX3_sameLettersAtFirst : zcV mX3_sameLettersAtFirst 2 3 := ⟨⟨z_mem (z_tC (List.mem_of_getElem? (i := 188) rfl)) rfl, wi_X3, by decide, by decide, by decide +kernel⟩, z_mem (z_tC (List.mem_of_getElem? (i := 186) rfl)) rfl, z_mem (z_tC (List.mem_of_getElem? (i := 187) rfl)) rfl, by decide, rfl⟩
theorem kX3_isWithin : zcV mX3_isWithin 2 3 := ⟨⟨z_mem (z_tE (List.mem_of_getElem? (i := 46) rfl)) rfl, wi_X3, by decide, by decide, by decide +kernel⟩, z_mem (z_tE (List.mem_of_getElem? (i := 44) rfl)) rfl, z_mem (z_tE (List.mem_of_getElem? (i := 45) rfl)) rfl, by decide, rfl⟩
theorem kX3_lettersTillSure : zcV mX3_lettersTillSure 2 3 := ⟨⟨z_mem (z_tD (List.mem_of_getElem? (i := 189) rfl)) rfl, wi_X3, by decide, by decide, by decide +kernel⟩, z_mem (z_tD (List.mem_of_getElem? (i := 187) rfl)) rfl, z_mem (z_tD (List.mem_of_getElem? (i := 188) rfl)) rfl, by decide, rfl⟩
theorem kX3_lettersToTell : zcV mX3_lettersToTell 3 3 := ⟨⟨z_mem (z_tD (List.mem_of_getElem? (i := 193) rfl)) rfl, wi_X3, by decide, by decide, by decide +kernel⟩, z_mem (z_tD (List.mem_of_getElem? (i := 192) rfl)) rfl, z_mem (z_tS (List.mem_of_getElem? (i := 39) rfl)) rfl, by decide, rfl⟩
theorem kX3_soonestAnswered : zcV mX3_soonestAnswered 0 3 := ⟨⟨z_mem (z_tE (List.mem_of_getElem? (i := 13) rfl)) rfl, wi_X3, by decide, by decide, by decide +kernel⟩, z_mem (z_tE (List.mem_of_getElem? (i := 11) rfl)) rfl, z_mem (z_tE (List.mem_of_getElem? (i := 12) rfl)) rfl, by decide, rfl⟩
theorem kX3_wordGoingOn : zcV mX3_wordGoingOn 3 3 := ⟨⟨z_mem (z_tE (List.mem_of_getElem? (i := 75) rfl)) rfl, wi_X3, by decide, by decide, by decide +kernel⟩, z_mem (z_tE (List.mem_of_getElem? (i := 73) rfl)) rfl, z_mem (z_tE (List.mem_of_getElem? (i := 74) rfl)) rfl, by decide, rfl⟩
theorem kX3_isWhole : zcV mX3_isWhole 2 3 := ⟨⟨z_mem (z_tE (List.mem_of_getElem? (i := 79) rfl)) rfl, wi_X3, by decide, by decide, by decide +kernel⟩, z_mem (z_tE (List.mem_of_getElem? (i := 77) rfl)) rfl, z_mem (z_tE (List.mem_of_getElem? (i := 78) rfl)) rfl, by decide, rfl⟩
theorem kX3_unlikeBeginnings : zcV mX3_unlikeBeginnings 0 3 := ⟨⟨z_mem (z_tF (List.mem_of_getElem? (i := 8) rfl)) rfl, wi_X3, by decide, by decide, by decide +kernel⟩, z_mem (z_tF (List.mem_of_getElem? (i := 6) rfl)) rfl, z_mem (z_tF (List.mem_of_getElem? (i := 7) rfl)) rfl, by decide, rfl⟩
theorem kX3_wordsWithin : zcV mX3_wordsWithin 1 3 := ⟨⟨z_mem (z_tF (List.mem_of_getElem? (i := 13) rfl)) rfl, wi_X3, by decide, by decide, by decide +kernel⟩, z_mem (z_tF (List.mem_of_getElem? (i := 11) rfl)) rfl, z_mem (z_tF (List.mem_of_getElem? (i := 12) rfl)) rfl, by decide, rfl⟩
theorem kX3_unsureQuestions : zcV mX3_unsureQuestions 0 3 := ⟨⟨z_mem (z_tF (List.mem_of_getElem? (i := 18) rfl)) rfl, wi_X3, by decide, by decide, by decide +kernel⟩, z_mem (z_tF (List.mem_of_getElem? (i := 16) rfl)) rfl, z_mem (z_tF (List.mem_of_getElem? (i := 17) rfl)) rfl, by decide, rfl⟩
theorem kX3_leadsOf : zcV mX3_leadsOf 1 3 := ⟨⟨z_mem (z_tF (List.mem_of_getElem? (i := 23) rfl)) rfl, wi_X3, by decide, by decide, by decide +kernel⟩, z_mem (z_tF (List.mem_of_getElem? (i := 21) rfl)) rfl, z_mem (z_tF (List.mem_of_getElem? (i := 22) rfl)) rfl, by decide, rfl⟩
theorem kX3_hasTwoAlike : zcV mX3_hasTwoAlike 0 3 := ⟨⟨z_mem (z_tC (List.mem_of_getElem? (i := 179) rfl)) rfl, wi_X3, by decide, by decide, by decide +kernel⟩, z_mem (z_tC (List.mem_of_getElem? (i := 177) rfl)) rfl, z_mem (z_tC (List.mem_of_getElem? (i := 178) rfl)) rfl, by decide, rfl⟩
theorem kX4_init : zcI mX4_init 0 := ⟨⟨z_mem (z_tA (List.mem_of_getElem? (i := 123) rfl)) rfl, wi_X4, by decide, by decide, by decide +kernel⟩, rfl, z_mem (z_tA (List.mem_of_getElem? (i := 122) rfl)) rfl, rfl⟩
theorem kX4_copy : zcS (mX4_copy) 2 := ⟨⟨z_mem (z_tC (List.mem_of_getElem? (i := 215) rfl)) rfl, wi_X4, by decide, by decide, by decide +kernel⟩, z_mem (z_tC (List.mem_of_getElem? (i := 214) rfl)) rfl⟩
theorem kX4_hasLine : zcV mX4_hasLine 1 4 := ⟨⟨z_mem (z_tD (List.mem_of_getElem? (i := 133) rfl)) rfl, wi_X4, by decide, by decide, by decide +kernel⟩, z_mem (z_tD (List.mem_of_getElem? (i := 131) rfl)) rfl, z_mem (z_tD (List.mem_of_getElem? (i := 132) rfl)) rfl, by decide, rfl⟩
theorem kX4_letterOf : zcV mX4_letterOf 2 4 := ⟨⟨z_mem (z_tD (List.mem_of_getElem? (i := 138) rfl)) rfl, wi_X4, by decide, by decide, by decide +kernel⟩, z_mem (z_tD (List.mem_of_getElem? (i := 136) rfl)) rfl, z_mem (z_tD (List.mem_of_getElem? (i := 137) rfl)) rfl, by decide, rfl⟩
theorem kX4_look : zcV mX4_look 2 4 := ⟨⟨z_mem (z_tD (List.mem_of_getElem? (i := 129) rfl)) rfl, wi_X4, by decide, by decide, by decide +kernel⟩, z_mem (z_tD (List.mem_of_getElem? (i := 127) rfl)) rfl, z_mem (z_tD (List.mem_of_getElem? (i := 128) rfl)) rfl, by decide, rfl⟩
theorem kX4_longestInBoth : zcV mX4_longestInBoth 3 4 := ⟨⟨z_mem (z_tE (List.mem_of_getElem? (i := 221) rfl)) rfl, wi_X4, by decide, by decide, by decide +kernel⟩, z_mem (z_tE (List.mem_of_getElem? (i := 219) rfl)) rfl, z_mem (z_tE (List.mem_of_getElem? (i := 220) rfl)) rfl, by decide, rfl⟩
theorem kX4_sameFrom : zcV mX4_sameFrom 4 4 := ⟨⟨z_mem (z_tE (List.mem_of_getElem? (i := 225) rfl)) rfl, wi_X4, by decide, by decide, by decide +kernel⟩, z_mem (z_tE (List.mem_of_getElem? (i := 224) rfl)) rfl, z_mem (z_tS (List.mem_of_getElem? (i := 58) rfl)) rfl, by decide, rfl⟩
theorem kX5_init : zcI mX5_init 0 := ⟨⟨z_mem (z_tA (List.mem_of_getElem? (i := 142) rfl)) rfl, wi_X5, by decide, by decide, by decide +kernel⟩, rfl, z_mem (z_tA (List.mem_of_getElem? (i := 141) rfl)) rfl, rfl⟩
theorem kX5_copy : zcS (mX5_copy) 2 := ⟨⟨z_mem (z_tC (List.mem_of_getElem? (i := 219) rfl)) rfl, wi_X5, by decide, by decide, by decide +kernel⟩, z_mem (z_tC (List.mem_of_getElem? (i := 218) rfl)) rfl⟩
theorem kX5_look : zcV mX5_look 2 5 := ⟨⟨z_mem (z_tE (List.mem_of_getElem? (i := 91) rfl)) rfl, wi_X5, by decide, by decide, by decide +kernel⟩, z_mem (z_tE (List.mem_of_getElem? (i := 89) rfl)) rfl, z_mem (z_tE (List.mem_of_getElem? (i := 90) rfl)) rfl, by decide, rfl⟩
theorem kX5_lastPlace : zcV mX5_lastPlace 0 5 := ⟨⟨z_mem (z_tE (List.mem_of_getElem? (i := 104) rfl)) rfl, wi_X5, by decide, by decide, by decide +kernel⟩, z_mem (z_tE (List.mem_of_getElem? (i := 102) rfl)) rfl, z_mem (z_tE (List.mem_of_getElem? (i := 103) rfl)) rfl, by decide, rfl⟩
theorem kX6_init : zcI mX6_init 0 := ⟨⟨z_mem (z_tA (List.mem_of_getElem? (i := 197) rfl)) rfl, wi_X6, by decide, by decide, by decide +kernel⟩, rfl, z_mem (z_tA (List.mem_of_getElem? (i := 196) rfl)) rfl, rfl⟩
theorem kX6_read : zcV mX6_read 3 6 := ⟨⟨z_mem (z_tB (List.mem_of_getElem? (i := 220) rfl)) rfl, wi_X6, by decide, by decide, by decide +kernel⟩, z_mem (z_tB (List.mem_of_getElem? (i := 218) rfl)) rfl, z_mem (z_tB (List.mem_of_getElem? (i := 219) rfl)) rfl, by decide, rfl⟩
theorem kX6_readOne : zcV mX6_readOne 1 6 := ⟨⟨z_mem (z_tC (List.mem_of_getElem? (i := 96) rfl)) rfl, wi_X6, by decide, by decide, by decide +kernel⟩, z_mem (z_tC (List.mem_of_getElem? (i := 95) rfl)) rfl, z_mem (z_tS (List.mem_of_getElem? (i := 6) rfl)) rfl, by decide, rfl⟩
theorem kX6_keepFirst : zcV mX6_keepFirst 0 6 := ⟨⟨z_mem (z_tC (List.mem_of_getElem? (i := 104) rfl)) rfl, wi_X6, by decide, by decide, by decide +kernel⟩, z_mem (z_tC (List.mem_of_getElem? (i := 103) rfl)) rfl, z_mem (z_tS (List.mem_of_getElem? (i := 8) rfl)) rfl, by decide, rfl⟩
theorem kX6_keepSecond : zcV mX6_keepSecond 0 6 := ⟨⟨z_mem (z_tC (List.mem_of_getElem? (i := 108) rfl)) rfl, wi_X6, by decide, by decide, by decide +kernel⟩, z_mem (z_tC (List.mem_of_getElem? (i := 107) rfl)) rfl, z_mem (z_tS (List.mem_of_getElem? (i := 9) rfl)) rfl, by decide, rfl⟩
theorem kX6_refuse : zcV mX6_refuse 0 6 := ⟨⟨z_mem (z_tC (List.mem_of_getElem? (i := 100) rfl)) rfl, wi_X6, by decide, by decide, by decide +kernel⟩, z_mem (z_tC (List.mem_of_getElem? (i := 99) rfl)) rfl, z_mem (z_tS (List.mem_of_getElem? (i := 7) rfl)) rfl, by decide, rfl⟩
theorem kX6_keyOf : zcV mX6_keyOf 1 6 := ⟨⟨z_mem (z_tC (List.mem_of_getElem? (i := 17) rfl)) rfl, wi_X6, by decide, by decide, by decide +kernel⟩, z_mem (z_tC (List.mem_of_getElem? (i := 16) rfl)) rfl, z_mem (z_tS (List.mem_of_getElem? (i := 2) rfl)) rfl, by decide, rfl⟩
theorem kX6_hillKey : zcV mX6_hillKey 0 6 := ⟨⟨z_mem (z_tC (List.mem_of_getElem? (i := 21) rfl)) rfl, wi_X6, by decide, by decide, by decide +kernel⟩, z_mem (z_tC (List.mem_of_getElem? (i := 20) rfl)) rfl, z_mem (z_tS (List.mem_of_getElem? (i := 3) rfl)) rfl, by decide, rfl⟩
theorem kX6_centuryKey : zcV mX6_centuryKey 0 6 := ⟨⟨z_mem (z_tC (List.mem_of_getElem? (i := 81) rfl)) rfl, wi_X6, by decide, by decide, by decide +kernel⟩, z_mem (z_tC (List.mem_of_getElem? (i := 80) rfl)) rfl, z_mem (z_tS (List.mem_of_getElem? (i := 4) rfl)) rfl, by decide, rfl⟩
theorem kX6_deedOfToken : zcV mX6_deedOfToken 0 6 := ⟨⟨z_mem (z_tC (List.mem_of_getElem? (i := 85) rfl)) rfl, wi_X6, by decide, by decide, by decide +kernel⟩, z_mem (z_tC (List.mem_of_getElem? (i := 84) rfl)) rfl, z_mem (z_tS (List.mem_of_getElem? (i := 5) rfl)) rfl, by decide, rfl⟩
theorem kX6_tell : zcV mX6_tell 1 6 := ⟨⟨z_mem (z_tC (List.mem_of_getElem? (i := 112) rfl)) rfl, wi_X6, by decide, by decide, by decide +kernel⟩, z_mem (z_tC (List.mem_of_getElem? (i := 111) rfl)) rfl, z_mem (z_tS (List.mem_of_getElem? (i := 10) rfl)) rfl, by decide, rfl⟩
theorem kX6_tellWord : zcV mX6_tellWord 0 6 := ⟨⟨z_mem (z_tC (List.mem_of_getElem? (i := 116) rfl)) rfl, wi_X6, by decide, by decide, by decide +kernel⟩, z_mem (z_tC (List.mem_of_getElem? (i := 115) rfl)) rfl, z_mem (z_tS (List.mem_of_getElem? (i := 11) rfl)) rfl, by decide, rfl⟩
theorem kX6_tellFollows : zcV mX6_tellFollows 0 6 := ⟨⟨z_mem (z_tC (List.mem_of_getElem? (i := 145) rfl)) rfl, wi_X6, by decide, by decide, by decide +kernel⟩, z_mem (z_tC (List.mem_of_getElem? (i := 144) rfl)) rfl, z_mem (z_tS (List.mem_of_getElem? (i := 17) rfl)) rfl, by decide, rfl⟩
theorem kX6_tellAsks : zcV mX6_tellAsks 0 6 := ⟨⟨z_mem (z_tC (List.mem_of_getElem? (i := 155) rfl)) rfl, wi_X6, by decide, by decide, by decide +kernel⟩, z_mem (z_tC (List.mem_of_getElem? (i := 154) rfl)) rfl, z_mem (z_tS (List.mem_of_getElem? (i := 18) rfl)) rfl, by decide, rfl⟩
theorem kX6_tellStones : zcV mX6_tellStones 0 6 := ⟨⟨z_mem (z_tC (List.mem_of_getElem? (i := 159) rfl)) rfl, wi_X6, by decide, by decide, by decide +kernel⟩, z_mem (z_tC (List.mem_of_getElem? (i := 158) rfl)) rfl, z_mem (z_tS (List.mem_of_getElem? (i := 19) rfl)) rfl, by decide, rfl⟩
theorem kX6_tellDeed : zcV mX6_tellDeed 1 6 := ⟨⟨z_mem (z_tC (List.mem_of_getElem? (i := 163) rfl)) rfl, wi_X6, by decide, by decide, by decide +kernel⟩, z_mem (z_tC (List.mem_of_getElem? (i := 162) rfl)) rfl, z_mem (z_tS (List.mem_of_getElem? (i := 20) rfl)) rfl, by decide, rfl⟩
theorem kX6_tellLine : zcV mX6_tellLine 0 6 := ⟨⟨z_mem (z_tC (List.mem_of_getElem? (i := 167) rfl)) rfl, wi_X6, by decide, by decide, by decide +kernel⟩, z_mem (z_tC (List.mem_of_getElem? (i := 166) rfl)) rfl, z_mem (z_tS (List.mem_of_getElem? (i := 21) rfl)) rfl, by decide, rfl⟩
theorem kX6_tellFact : zcV mX6_tellFact 0 6 := ⟨⟨z_mem (z_tC (List.mem_of_getElem? (i := 171) rfl)) rfl, wi_X6, by decide, by decide, by decide +kernel⟩, z_mem (z_tC (List.mem_of_getElem? (i := 170) rfl)) rfl, z_mem (z_tS (List.mem_of_getElem? (i := 22) rfl)) rfl, by decide, rfl⟩
theorem kX6_needRoom : zcV mX6_needRoom 2 6 := ⟨⟨z_mem (z_tC (List.mem_of_getElem? (i := 120) rfl)) rfl, wi_X6, by decide, by decide, by decide +kernel⟩, z_mem (z_tC (List.mem_of_getElem? (i := 119) rfl)) rfl, z_mem (z_tS (List.mem_of_getElem? (i := 12) rfl)) rfl, by decide, rfl⟩
theorem kX6_needNumber : zcV mX6_needNumber 4 6 := ⟨⟨z_mem (z_tC (List.mem_of_getElem? (i := 133) rfl)) rfl, wi_X6, by decide, by decide, by decide +kernel⟩, z_mem (z_tC (List.mem_of_getElem? (i := 132) rfl)) rfl, z_mem (z_tS (List.mem_of_getElem? (i := 15) rfl)) rfl, by decide, rfl⟩
theorem kX6_needRow : zcV mX6_needRow 3 6 := ⟨⟨z_mem (z_tC (List.mem_of_getElem? (i := 128) rfl)) rfl, wi_X6, by decide, by decide, by decide +kernel⟩, z_mem (z_tC (List.mem_of_getElem? (i := 127) rfl)) rfl, z_mem (z_tS (List.mem_of_getElem? (i := 14) rfl)) rfl, by decide, rfl⟩
theorem kX6_letterAt : zcV mX6_letterAt 1 6 := ⟨⟨z_mem (z_tC (List.mem_of_getElem? (i := 141) rfl)) rfl, wi_X6, by decide, by decide, by decide +kernel⟩, z_mem (z_tC (List.mem_of_getElem? (i := 140) rfl)) rfl, z_mem (z_tS (List.mem_of_getElem? (i := 16) rfl)) rfl, by decide, rfl⟩
theorem kX6_note : zcV mX6_note 2 6 := ⟨⟨z_mem (z_tC (List.mem_of_getElem? (i := 124) rfl)) rfl, wi_X6, by decide, by decide, by decide +kernel⟩, z_mem (z_tC (List.mem_of_getElem? (i := 123) rfl)) rfl, z_mem (z_tS (List.mem_of_getElem? (i := 13) rfl)) rfl, by decide, rfl⟩
theorem kX6_lookAtHill : zcV mX6_lookAtHill 1 6 := ⟨⟨z_mem (z_tC (List.mem_of_getElem? (i := 175) rfl)) rfl, wi_X6, by decide, by decide, by decide +kernel⟩, z_mem (z_tC (List.mem_of_getElem? (i := 174) rfl)) rfl, z_mem (z_tS (List.mem_of_getElem? (i := 23) rfl)) rfl, by decide, rfl⟩
theorem kX7_init : zcI mX7_init 0 := ⟨⟨z_mem (z_tB (List.mem_of_getElem? (i := 146) rfl)) rfl, wi_X7, by decide, by decide, by decide +kernel⟩, rfl, z_mem (z_tB (List.mem_of_getElem? (i := 145) rfl)) rfl, rfl⟩
theorem kX7_gap : zcS (mX7_gap) 1 := ⟨⟨z_mem (z_tE (List.mem_of_getElem? (i := 121) rfl)) rfl, wi_X7, by decide, by decide, by decide +kernel⟩, z_mem (z_tE (List.mem_of_getElem? (i := 120) rfl)) rfl⟩
theorem kX7_wear : zcS (mX7_wear) 1 := ⟨⟨z_mem (z_tE (List.mem_of_getElem? (i := 118) rfl)) rfl, wi_X7, by decide, by decide, by decide +kernel⟩, z_mem (z_tE (List.mem_of_getElem? (i := 117) rfl)) rfl⟩
theorem kX7_since : zcS (mX7_since) 1 := ⟨⟨z_mem (z_tE (List.mem_of_getElem? (i := 124) rfl)) rfl, wi_X7, by decide, by decide, by decide +kernel⟩, z_mem (z_tE (List.mem_of_getElem? (i := 123) rfl)) rfl⟩
theorem kX7_weigh : zcV mX7_weigh 1 7 := ⟨⟨z_mem (z_tE (List.mem_of_getElem? (i := 100) rfl)) rfl, wi_X7, by decide, by decide, by decide +kernel⟩, z_mem (z_tE (List.mem_of_getElem? (i := 98) rfl)) rfl, z_mem (z_tE (List.mem_of_getElem? (i := 99) rfl)) rfl, by decide, rfl⟩
theorem kX7_countHits : zcV mX7_countHits 1 7 := ⟨⟨z_mem (z_tE (List.mem_of_getElem? (i := 109) rfl)) rfl, wi_X7, by decide, by decide, by decide +kernel⟩, z_mem (z_tE (List.mem_of_getElem? (i := 108) rfl)) rfl, z_mem (z_tS (List.mem_of_getElem? (i := 48) rfl)) rfl, by decide, rfl⟩
theorem kX7_lessBy : zcV mX7_lessBy 2 7 := ⟨⟨z_mem (z_tE (List.mem_of_getElem? (i := 115) rfl)) rfl, wi_X7, by decide, by decide, by decide +kernel⟩, z_mem (z_tE (List.mem_of_getElem? (i := 114) rfl)) rfl, z_mem (z_tS (List.mem_of_getElem? (i := 49) rfl)) rfl, by decide, rfl⟩
theorem kX7_keepBest : zcV mX7_keepBest 1 7 := ⟨⟨z_mem (z_tE (List.mem_of_getElem? (i := 130) rfl)) rfl, wi_X7, by decide, by decide, by decide +kernel⟩, z_mem (z_tE (List.mem_of_getElem? (i := 129) rfl)) rfl, z_mem (z_tS (List.mem_of_getElem? (i := 50) rfl)) rfl, by decide, rfl⟩
theorem kX7_startsOf : zcV mX7_startsOf 1 7 := ⟨⟨z_mem (z_tE (List.mem_of_getElem? (i := 144) rfl)) rfl, wi_X7, by decide, by decide, by decide +kernel⟩, z_mem (z_tE (List.mem_of_getElem? (i := 143) rfl)) rfl, z_mem (z_tS (List.mem_of_getElem? (i := 52) rfl)) rfl, by decide, rfl⟩
theorem kX7_judge : zcV mX7_judge 1 7 := ⟨⟨z_mem (z_tE (List.mem_of_getElem? (i := 136) rfl)) rfl, wi_X7, by decide, by decide, by decide +kernel⟩, z_mem (z_tE (List.mem_of_getElem? (i := 134) rfl)) rfl, z_mem (z_tE (List.mem_of_getElem? (i := 135) rfl)) rfl, by decide, rfl⟩
theorem kX7_howMany : zcV mX7_howMany 0 7 := ⟨⟨z_mem (z_tE (List.mem_of_getElem? (i := 140) rfl)) rfl, wi_X7, by decide, by decide, by decide +kernel⟩, z_mem (z_tE (List.mem_of_getElem? (i := 139) rfl)) rfl, z_mem (z_tS (List.mem_of_getElem? (i := 51) rfl)) rfl, by decide, rfl⟩
theorem kX7_ruleOf : zcV mX7_ruleOf 1 7 := ⟨⟨z_mem (z_tE (List.mem_of_getElem? (i := 163) rfl)) rfl, wi_X7, by decide, by decide, by decide +kernel⟩, z_mem (z_tE (List.mem_of_getElem? (i := 162) rfl)) rfl, z_mem (z_tS (List.mem_of_getElem? (i := 55) rfl)) rfl, by decide, rfl⟩
theorem kX7_missedByAll : zcV mX7_missedByAll 0 7 := ⟨⟨z_mem (z_tE (List.mem_of_getElem? (i := 154) rfl)) rfl, wi_X7, by decide, by decide, by decide +kernel⟩, z_mem (z_tE (List.mem_of_getElem? (i := 153) rfl)) rfl, z_mem (z_tS (List.mem_of_getElem? (i := 53) rfl)) rfl, by decide, rfl⟩
theorem kX7_missedPlaces : zcV mX7_missedPlaces 2 7 := ⟨⟨z_mem (z_tE (List.mem_of_getElem? (i := 159) rfl)) rfl, wi_X7, by decide, by decide, by decide +kernel⟩, z_mem (z_tE (List.mem_of_getElem? (i := 158) rfl)) rfl, z_mem (z_tS (List.mem_of_getElem? (i := 54) rfl)) rfl, by decide, rfl⟩
theorem kX7_years : zcV mX7_years 1 7 := ⟨⟨z_mem (z_tF (List.mem_of_getElem? (i := 69) rfl)) rfl, wi_X7, by decide, by decide, by decide +kernel⟩, z_mem (z_tF (List.mem_of_getElem? (i := 67) rfl)) rfl, z_mem (z_tF (List.mem_of_getElem? (i := 68) rfl)) rfl, by decide, rfl⟩
theorem kX8_init : zcI mX8_init 0 := ⟨⟨z_mem (z_tA (List.mem_of_getElem? (i := 211) rfl)) rfl, wi_X8, by decide, by decide, by decide +kernel⟩, rfl, z_mem (z_tA (List.mem_of_getElem? (i := 210) rfl)) rfl, rfl⟩
theorem kX8_begin : zcV mX8_begin 2 8 := ⟨⟨z_mem (z_tB (List.mem_of_getElem? (i := 224) rfl)) rfl, wi_X8, by decide, by decide, by decide +kernel⟩, z_mem (z_tB (List.mem_of_getElem? (i := 222) rfl)) rfl, z_mem (z_tB (List.mem_of_getElem? (i := 223) rfl)) rfl, by decide, rfl⟩
theorem kX8_step : zcV mX8_step 0 8 := ⟨⟨z_mem (z_tB (List.mem_of_getElem? (i := 235) rfl)) rfl, wi_X8, by decide, by decide, by decide +kernel⟩, z_mem (z_tB (List.mem_of_getElem? (i := 233) rfl)) rfl, z_mem (z_tB (List.mem_of_getElem? (i := 234) rfl)) rfl, by decide, rfl⟩
theorem kX8_stepOverRow : zcV mX8_stepOverRow 0 8 := ⟨⟨z_mem (z_tC (List.mem_of_getElem? (i := 6) rfl)) rfl, wi_X8, by decide, by decide, by decide +kernel⟩, z_mem (z_tC (List.mem_of_getElem? (i := 5) rfl)) rfl, z_mem (z_tS (List.mem_of_getElem? (i := 0) rfl)) rfl, by decide, rfl⟩
theorem kX8_stepOverDigits : zcV mX8_stepOverDigits 0 8 := ⟨⟨z_mem (z_tC (List.mem_of_getElem? (i := 13) rfl)) rfl, wi_X8, by decide, by decide, by decide +kernel⟩, z_mem (z_tC (List.mem_of_getElem? (i := 12) rfl)) rfl, z_mem (z_tS (List.mem_of_getElem? (i := 1) rfl)) rfl, by decide, rfl⟩
theorem kX8_is : zcV mX8_is 1 8 := ⟨⟨z_mem (z_tC (List.mem_of_getElem? (i := 26) rfl)) rfl, wi_X8, by decide, by decide, by decide +kernel⟩, z_mem (z_tC (List.mem_of_getElem? (i := 24) rfl)) rfl, z_mem (z_tC (List.mem_of_getElem? (i := 25) rfl)) rfl, by decide, rfl⟩
theorem kX8_isBlank : zcS (mX8_isBlank) 1 := ⟨⟨z_mem (z_tB (List.mem_of_getElem? (i := 239) rfl)) rfl, wi_X8, by decide, by decide, by decide +kernel⟩, z_mem (z_tB (List.mem_of_getElem? (i := 238) rfl)) rfl⟩
theorem kX8_isLetter : zcS (mX8_isLetter) 1 := ⟨⟨z_mem (z_tC (List.mem_of_getElem? (i := 2) rfl)) rfl, wi_X8, by decide, by decide, by decide +kernel⟩, z_mem (z_tC (List.mem_of_getElem? (i := 1) rfl)) rfl⟩
theorem kX8_isDigit : zcS (mX8_isDigit) 1 := ⟨⟨z_mem (z_tC (List.mem_of_getElem? (i := 9) rfl)) rfl, wi_X8, by decide, by decide, by decide +kernel⟩, z_mem (z_tC (List.mem_of_getElem? (i := 8) rfl)) rfl⟩
theorem kX9_init : zcI mX9_init 0 := ⟨⟨z_mem (z_tA (List.mem_of_getElem? (i := 34) rfl)) rfl, wi_X9, by decide, by decide, by decide +kernel⟩, rfl, z_mem (z_tA (List.mem_of_getElem? (i := 33) rfl)) rfl, rfl⟩
theorem kX9_copy : zcV mX9_copy 1 9 := ⟨⟨z_mem (z_tF (List.mem_of_getElem? (i := 85) rfl)) rfl, wi_X9, by decide, by decide, by decide +kernel⟩, z_mem (z_tF (List.mem_of_getElem? (i := 83) rfl)) rfl, z_mem (z_tF (List.mem_of_getElem? (i := 84) rfl)) rfl, by decide, rfl⟩
theorem kX9_addBytes : zcV mX9_addBytes 1 9 := ⟨⟨z_mem (z_tB (List.mem_of_getElem? (i := 198) rfl)) rfl, wi_X9, by decide, by decide, by decide +kernel⟩, z_mem (z_tB (List.mem_of_getElem? (i := 196) rfl)) rfl, z_mem (z_tB (List.mem_of_getElem? (i := 197) rfl)) rfl, by decide, rfl⟩
theorem kX9_many : zcV mX9_many 1 9 := ⟨⟨z_mem (z_tB (List.mem_of_getElem? (i := 213) rfl)) rfl, wi_X9, by decide, by decide, by decide +kernel⟩, z_mem (z_tB (List.mem_of_getElem? (i := 211) rfl)) rfl, z_mem (z_tB (List.mem_of_getElem? (i := 212) rfl)) rfl, by decide, rfl⟩
theorem kX9_keep : zcV mX9_keep 3 9 := ⟨⟨z_mem (z_tC (List.mem_of_getElem? (i := 197) rfl)) rfl, wi_X9, by decide, by decide, by decide +kernel⟩, z_mem (z_tC (List.mem_of_getElem? (i := 195) rfl)) rfl, z_mem (z_tC (List.mem_of_getElem? (i := 196) rfl)) rfl, by decide, rfl⟩
theorem kX9_hasOne : zcV mX9_hasOne 2 9 := ⟨⟨z_mem (z_tC (List.mem_of_getElem? (i := 237) rfl)) rfl, wi_X9, by decide, by decide, by decide +kernel⟩, z_mem (z_tC (List.mem_of_getElem? (i := 236) rfl)) rfl, z_mem (z_tS (List.mem_of_getElem? (i := 24) rfl)) rfl, by decide, rfl⟩
theorem kX9_hillOf : zcV mX9_hillOf 1 9 := ⟨⟨z_mem (z_tC (List.mem_of_getElem? (i := 233) rfl)) rfl, wi_X9, by decide, by decide, by decide +kernel⟩, z_mem (z_tC (List.mem_of_getElem? (i := 231) rfl)) rfl, z_mem (z_tC (List.mem_of_getElem? (i := 232) rfl)) rfl, by decide, rfl⟩
theorem kX9_centuryOf : zcV mX9_centuryOf 1 9 := ⟨⟨z_mem (z_tD (List.mem_of_getElem? (i := 29) rfl)) rfl, wi_X9, by decide, by decide, by decide +kernel⟩, z_mem (z_tD (List.mem_of_getElem? (i := 27) rfl)) rfl, z_mem (z_tD (List.mem_of_getElem? (i := 28) rfl)) rfl, by decide, rfl⟩
theorem kX9_linesOf : zcV mX9_linesOf 1 9 := ⟨⟨z_mem (z_tD (List.mem_of_getElem? (i := 125) rfl)) rfl, wi_X9, by decide, by decide, by decide +kernel⟩, z_mem (z_tD (List.mem_of_getElem? (i := 123) rfl)) rfl, z_mem (z_tD (List.mem_of_getElem? (i := 124) rfl)) rfl, by decide, rfl⟩
theorem kX9_logOf : zcV mX9_logOf 1 9 := ⟨⟨z_mem (z_tE (List.mem_of_getElem? (i := 87) rfl)) rfl, wi_X9, by decide, by decide, by decide +kernel⟩, z_mem (z_tE (List.mem_of_getElem? (i := 85) rfl)) rfl, z_mem (z_tE (List.mem_of_getElem? (i := 86) rfl)) rfl, by decide, rfl⟩
theorem kX10_init : zcI mX10_init 0 := ⟨⟨z_mem (z_tB (List.mem_of_getElem? (i := 127) rfl)) rfl, wi_X10, by decide, by decide, by decide +kernel⟩, rfl, z_mem (z_tB (List.mem_of_getElem? (i := 126) rfl)) rfl, rfl⟩
theorem kX10_rowsOf : zcV mX10_rowsOf 2 10 := ⟨⟨z_mem (z_tE (List.mem_of_getElem? (i := 23) rfl)) rfl, wi_X10, by decide, by decide, by decide +kernel⟩, z_mem (z_tE (List.mem_of_getElem? (i := 21) rfl)) rfl, z_mem (z_tE (List.mem_of_getElem? (i := 22) rfl)) rfl, by decide, rfl⟩
theorem kX10_sumOf : zcV mX10_sumOf 1 10 := ⟨⟨z_mem (z_tE (List.mem_of_getElem? (i := 29) rfl)) rfl, wi_X10, by decide, by decide, by decide +kernel⟩, z_mem (z_tE (List.mem_of_getElem? (i := 28) rfl)) rfl, z_mem (z_tS (List.mem_of_getElem? (i := 44) rfl)) rfl, by decide, rfl⟩
theorem kX10_shortestReadTwice : zcV mX10_shortestReadTwice 1 10 := ⟨⟨z_mem (z_tE (List.mem_of_getElem? (i := 42) rfl)) rfl, wi_X10, by decide, by decide, by decide +kernel⟩, z_mem (z_tE (List.mem_of_getElem? (i := 40) rfl)) rfl, z_mem (z_tE (List.mem_of_getElem? (i := 41) rfl)) rfl, by decide, rfl⟩
theorem kX10_endsAt : zcV mX10_endsAt 2 10 := ⟨⟨z_mem (z_tE (List.mem_of_getElem? (i := 59) rfl)) rfl, wi_X10, by decide, by decide, by decide +kernel⟩, z_mem (z_tE (List.mem_of_getElem? (i := 58) rfl)) rfl, z_mem (z_tS (List.mem_of_getElem? (i := 46) rfl)) rfl, by decide, rfl⟩
theorem kX10_goOn : zcV mX10_goOn 5 10 := ⟨⟨z_mem (z_tE (List.mem_of_getElem? (i := 63) rfl)) rfl, wi_X10, by decide, by decide, by decide +kernel⟩, z_mem (z_tE (List.mem_of_getElem? (i := 62) rfl)) rfl, z_mem (z_tS (List.mem_of_getElem? (i := 47) rfl)) rfl, by decide, rfl⟩
theorem kX10_shorten : zcV mX10_shorten 4 10 := ⟨⟨z_mem (z_tE (List.mem_of_getElem? (i := 51) rfl)) rfl, wi_X10, by decide, by decide, by decide +kernel⟩, z_mem (z_tE (List.mem_of_getElem? (i := 50) rfl)) rfl, z_mem (z_tS (List.mem_of_getElem? (i := 45) rfl)) rfl, by decide, rfl⟩
theorem kX10_pair : zcS (mX10_pair) 3 := ⟨⟨z_mem (z_tE (List.mem_of_getElem? (i := 54) rfl)) rfl, wi_X10, by decide, by decide, by decide +kernel⟩, z_mem (z_tE (List.mem_of_getElem? (i := 53) rfl)) rfl⟩
theorem kX10_longestChain : zcV mX10_longestChain 1 10 := ⟨⟨z_mem (z_tF (List.mem_of_getElem? (i := 31) rfl)) rfl, wi_X10, by decide, by decide, by decide +kernel⟩, z_mem (z_tF (List.mem_of_getElem? (i := 29) rfl)) rfl, z_mem (z_tF (List.mem_of_getElem? (i := 30) rfl)) rfl, by decide, rfl⟩
theorem kX10_headsOf : zcV mX10_headsOf 2 10 := ⟨⟨z_mem (z_tF (List.mem_of_getElem? (i := 35) rfl)) rfl, wi_X10, by decide, by decide, by decide +kernel⟩, z_mem (z_tF (List.mem_of_getElem? (i := 34) rfl)) rfl, z_mem (z_tS (List.mem_of_getElem? (i := 59) rfl)) rfl, by decide, rfl⟩
theorem kX10_wordOfFirstChain : zcV mX10_wordOfFirstChain 3 10 := ⟨⟨z_mem (z_tF (List.mem_of_getElem? (i := 42) rfl)) rfl, wi_X10, by decide, by decide, by decide +kernel⟩, z_mem (z_tF (List.mem_of_getElem? (i := 40) rfl)) rfl, z_mem (z_tF (List.mem_of_getElem? (i := 41) rfl)) rfl, by decide, rfl⟩
theorem kX10_headsWithout : zcV mX10_headsWithout 3 10 := ⟨⟨z_mem (z_tF (List.mem_of_getElem? (i := 46) rfl)) rfl, wi_X10, by decide, by decide, by decide +kernel⟩, z_mem (z_tF (List.mem_of_getElem? (i := 45) rfl)) rfl, z_mem (z_tS (List.mem_of_getElem? (i := 60) rfl)) rfl, by decide, rfl⟩
theorem kX11_init : zcI mX11_init 0 := ⟨⟨z_mem (z_tA (List.mem_of_getElem? (i := 26) rfl)) rfl, wi_X11, by decide, by decide, by decide +kernel⟩, rfl, z_mem (z_tA (List.mem_of_getElem? (i := 25) rfl)) rfl, rfl⟩
theorem kX11_feed : zcV mX11_feed 5 11 := ⟨⟨z_mem (z_tB (List.mem_of_getElem? (i := 194) rfl)) rfl, wi_X11, by decide, by decide, by decide +kernel⟩, z_mem (z_tB (List.mem_of_getElem? (i := 192) rfl)) rfl, z_mem (z_tB (List.mem_of_getElem? (i := 193) rfl)) rfl, by decide, rfl⟩
theorem kX11_end : zcV mX11_end 1 11 := ⟨⟨z_mem (z_tB (List.mem_of_getElem? (i := 205) rfl)) rfl, wi_X11, by decide, by decide, by decide +kernel⟩, z_mem (z_tB (List.mem_of_getElem? (i := 203) rfl)) rfl, z_mem (z_tB (List.mem_of_getElem? (i := 204) rfl)) rfl, by decide, rfl⟩
theorem kX11_text : zcV mX11_text 2 11 := ⟨⟨z_mem (z_tB (List.mem_of_getElem? (i := 209) rfl)) rfl, wi_X11, by decide, by decide, by decide +kernel⟩, z_mem (z_tB (List.mem_of_getElem? (i := 207) rfl)) rfl, z_mem (z_tB (List.mem_of_getElem? (i := 208) rfl)) rfl, by decide, rfl⟩
theorem kX11_fault : zcV mX11_fault 1 11 := ⟨⟨z_mem (z_tC (List.mem_of_getElem? (i := 225) rfl)) rfl, wi_X11, by decide, by decide, by decide +kernel⟩, z_mem (z_tC (List.mem_of_getElem? (i := 223) rfl)) rfl, z_mem (z_tC (List.mem_of_getElem? (i := 224) rfl)) rfl, by decide, rfl⟩
theorem kX11_hill : zcV mX11_hill 2 11 := ⟨⟨z_mem (z_tC (List.mem_of_getElem? (i := 229) rfl)) rfl, wi_X11, by decide, by decide, by decide +kernel⟩, z_mem (z_tC (List.mem_of_getElem? (i := 227) rfl)) rfl, z_mem (z_tC (List.mem_of_getElem? (i := 228) rfl)) rfl, by decide, rfl⟩
theorem kX11_deed : zcV mX11_deed 3 11 := ⟨⟨z_mem (z_tD (List.mem_of_getElem? (i := 25) rfl)) rfl, wi_X11, by decide, by decide, by decide +kernel⟩, z_mem (z_tD (List.mem_of_getElem? (i := 23) rfl)) rfl, z_mem (z_tD (List.mem_of_getElem? (i := 24) rfl)) rfl, by decide, rfl⟩
theorem kX11_stop : zcV mX11_stop 2 11 := ⟨⟨z_mem (z_tD (List.mem_of_getElem? (i := 38) rfl)) rfl, wi_X11, by decide, by decide, by decide +kernel⟩, z_mem (z_tD (List.mem_of_getElem? (i := 36) rfl)) rfl, z_mem (z_tD (List.mem_of_getElem? (i := 37) rfl)) rfl, by decide, rfl⟩
theorem kX11_state : zcV mX11_state 4 11 := ⟨⟨z_mem (z_tD (List.mem_of_getElem? (i := 101) rfl)) rfl, wi_X11, by decide, by decide, by decide +kernel⟩, z_mem (z_tD (List.mem_of_getElem? (i := 99) rfl)) rfl, z_mem (z_tD (List.mem_of_getElem? (i := 100) rfl)) rfl, by decide, rfl⟩
theorem kX11_line : zcV mX11_line 3 11 := ⟨⟨z_mem (z_tD (List.mem_of_getElem? (i := 121) rfl)) rfl, wi_X11, by decide, by decide, by decide +kernel⟩, z_mem (z_tD (List.mem_of_getElem? (i := 119) rfl)) rfl, z_mem (z_tD (List.mem_of_getElem? (i := 120) rfl)) rfl, by decide, rfl⟩
theorem kX11_said : zcV mX11_said 4 11 := ⟨⟨z_mem (z_tD (List.mem_of_getElem? (i := 142) rfl)) rfl, wi_X11, by decide, by decide, by decide +kernel⟩, z_mem (z_tD (List.mem_of_getElem? (i := 140) rfl)) rfl, z_mem (z_tD (List.mem_of_getElem? (i := 141) rfl)) rfl, by decide, rfl⟩
theorem kX11_odds : zcV mX11_odds 5 11 := ⟨⟨z_mem (z_tD (List.mem_of_getElem? (i := 166) rfl)) rfl, wi_X11, by decide, by decide, by decide +kernel⟩, z_mem (z_tD (List.mem_of_getElem? (i := 164) rfl)) rfl, z_mem (z_tD (List.mem_of_getElem? (i := 165) rfl)) rfl, by decide, rfl⟩
theorem kX11_sure : zcV mX11_sure 4 11 := ⟨⟨z_mem (z_tD (List.mem_of_getElem? (i := 185) rfl)) rfl, wi_X11, by decide, by decide, by decide +kernel⟩, z_mem (z_tD (List.mem_of_getElem? (i := 183) rfl)) rfl, z_mem (z_tD (List.mem_of_getElem? (i := 184) rfl)) rfl, by decide, rfl⟩
theorem kX11_reading : zcV mX11_reading 4 11 := ⟨⟨z_mem (z_tD (List.mem_of_getElem? (i := 198) rfl)) rfl, wi_X11, by decide, by decide, by decide +kernel⟩, z_mem (z_tD (List.mem_of_getElem? (i := 196) rfl)) rfl, z_mem (z_tD (List.mem_of_getElem? (i := 197) rfl)) rfl, by decide, rfl⟩
theorem kX11_slips : zcV mX11_slips 4 11 := ⟨⟨z_mem (z_tD (List.mem_of_getElem? (i := 229) rfl)) rfl, wi_X11, by decide, by decide, by decide +kernel⟩, z_mem (z_tD (List.mem_of_getElem? (i := 227) rfl)) rfl, z_mem (z_tD (List.mem_of_getElem? (i := 228) rfl)) rfl, by decide, rfl⟩
theorem kX11_asked : zcV mX11_asked 3 11 := ⟨⟨z_mem (z_tE (List.mem_of_getElem? (i := 4) rfl)) rfl, wi_X11, by decide, by decide, by decide +kernel⟩, z_mem (z_tE (List.mem_of_getElem? (i := 2) rfl)) rfl, z_mem (z_tE (List.mem_of_getElem? (i := 3) rfl)) rfl, by decide, rfl⟩
theorem kX11_soonest : zcV mX11_soonest 1 11 := ⟨⟨z_mem (z_tE (List.mem_of_getElem? (i := 9) rfl)) rfl, wi_X11, by decide, by decide, by decide +kernel⟩, z_mem (z_tE (List.mem_of_getElem? (i := 7) rfl)) rfl, z_mem (z_tE (List.mem_of_getElem? (i := 8) rfl)) rfl, by decide, rfl⟩
theorem kX11_sentences : zcV mX11_sentences 2 11 := ⟨⟨z_mem (z_tE (List.mem_of_getElem? (i := 19) rfl)) rfl, wi_X11, by decide, by decide, by decide +kernel⟩, z_mem (z_tE (List.mem_of_getElem? (i := 17) rfl)) rfl, z_mem (z_tE (List.mem_of_getElem? (i := 18) rfl)) rfl, by decide, rfl⟩
theorem kX11_twice : zcV mX11_twice 1 11 := ⟨⟨z_mem (z_tE (List.mem_of_getElem? (i := 38) rfl)) rfl, wi_X11, by decide, by decide, by decide +kernel⟩, z_mem (z_tE (List.mem_of_getElem? (i := 36) rfl)) rfl, z_mem (z_tE (List.mem_of_getElem? (i := 37) rfl)) rfl, by decide, rfl⟩
theorem kX11_ghost : zcV mX11_ghost 2 11 := ⟨⟨z_mem (z_tE (List.mem_of_getElem? (i := 68) rfl)) rfl, wi_X11, by decide, by decide, by decide +kernel⟩, z_mem (z_tE (List.mem_of_getElem? (i := 66) rfl)) rfl, z_mem (z_tE (List.mem_of_getElem? (i := 67) rfl)) rfl, by decide, rfl⟩
theorem kX11_fact : zcV mX11_fact 3 11 := ⟨⟨z_mem (z_tE (List.mem_of_getElem? (i := 83) rfl)) rfl, wi_X11, by decide, by decide, by decide +kernel⟩, z_mem (z_tE (List.mem_of_getElem? (i := 81) rfl)) rfl, z_mem (z_tE (List.mem_of_getElem? (i := 82) rfl)) rfl, by decide, rfl⟩
theorem kX11_forged : zcV mX11_forged 2 11 := ⟨⟨z_mem (z_tE (List.mem_of_getElem? (i := 96) rfl)) rfl, wi_X11, by decide, by decide, by decide +kernel⟩, z_mem (z_tE (List.mem_of_getElem? (i := 94) rfl)) rfl, z_mem (z_tE (List.mem_of_getElem? (i := 95) rfl)) rfl, by decide, rfl⟩
theorem kX11_chance : zcV mX11_chance 4 11 := ⟨⟨z_mem (z_tE (List.mem_of_getElem? (i := 167) rfl)) rfl, wi_X11, by decide, by decide, by decide +kernel⟩, z_mem (z_tE (List.mem_of_getElem? (i := 165) rfl)) rfl, z_mem (z_tE (List.mem_of_getElem? (i := 166) rfl)) rfl, by decide, rfl⟩
theorem kX11_drawn : zcV mX11_drawn 4 11 := ⟨⟨z_mem (z_tE (List.mem_of_getElem? (i := 175) rfl)) rfl, wi_X11, by decide, by decide, by decide +kernel⟩, z_mem (z_tE (List.mem_of_getElem? (i := 173) rfl)) rfl, z_mem (z_tE (List.mem_of_getElem? (i := 174) rfl)) rfl, by decide, rfl⟩
theorem kX11_next : zcV mX11_next 4 11 := ⟨⟨z_mem (z_tE (List.mem_of_getElem? (i := 190) rfl)) rfl, wi_X11, by decide, by decide, by decide +kernel⟩, z_mem (z_tE (List.mem_of_getElem? (i := 188) rfl)) rfl, z_mem (z_tE (List.mem_of_getElem? (i := 189) rfl)) rfl, by decide, rfl⟩
theorem kX11_echo : zcV mX11_echo 4 11 := ⟨⟨z_mem (z_tE (List.mem_of_getElem? (i := 216) rfl)) rfl, wi_X11, by decide, by decide, by decide +kernel⟩, z_mem (z_tE (List.mem_of_getElem? (i := 214) rfl)) rfl, z_mem (z_tE (List.mem_of_getElem? (i := 215) rfl)) rfl, by decide, rfl⟩
theorem kX11_alike : zcV mX11_alike 4 11 := ⟨⟨z_mem (z_tE (List.mem_of_getElem? (i := 230) rfl)) rfl, wi_X11, by decide, by decide, by decide +kernel⟩, z_mem (z_tE (List.mem_of_getElem? (i := 228) rfl)) rfl, z_mem (z_tE (List.mem_of_getElem? (i := 229) rfl)) rfl, by decide, rfl⟩
theorem kX11_tree : zcV mX11_tree 2 11 := ⟨⟨z_mem (z_tE (List.mem_of_getElem? (i := 239) rfl)) rfl, wi_X11, by decide, by decide, by decide +kernel⟩, z_mem (z_tE (List.mem_of_getElem? (i := 237) rfl)) rfl, z_mem (z_tE (List.mem_of_getElem? (i := 238) rfl)) rfl, by decide, rfl⟩
theorem kX11_chain : zcV mX11_chain 2 11 := ⟨⟨z_mem (z_tF (List.mem_of_getElem? (i := 27) rfl)) rfl, wi_X11, by decide, by decide, by decide +kernel⟩, z_mem (z_tF (List.mem_of_getElem? (i := 25) rfl)) rfl, z_mem (z_tF (List.mem_of_getElem? (i := 26) rfl)) rfl, by decide, rfl⟩
theorem kX11_after : zcV mX11_after 3 11 := ⟨⟨z_mem (z_tF (List.mem_of_getElem? (i := 53) rfl)) rfl, wi_X11, by decide, by decide, by decide +kernel⟩, z_mem (z_tF (List.mem_of_getElem? (i := 51) rfl)) rfl, z_mem (z_tF (List.mem_of_getElem? (i := 52) rfl)) rfl, by decide, rfl⟩
theorem kX11_age : zcV mX11_age 2 11 := ⟨⟨z_mem (z_tF (List.mem_of_getElem? (i := 65) rfl)) rfl, wi_X11, by decide, by decide, by decide +kernel⟩, z_mem (z_tF (List.mem_of_getElem? (i := 63) rfl)) rfl, z_mem (z_tF (List.mem_of_getElem? (i := 64) rfl)) rfl, by decide, rfl⟩
theorem kX11_waits : zcV mX11_waits 3 11 := ⟨⟨z_mem (z_tF (List.mem_of_getElem? (i := 73) rfl)) rfl, wi_X11, by decide, by decide, by decide +kernel⟩, z_mem (z_tF (List.mem_of_getElem? (i := 71) rfl)) rfl, z_mem (z_tF (List.mem_of_getElem? (i := 72) rfl)) rfl, by decide, rfl⟩
theorem kX11_count : zcV mX11_count 1 11 := ⟨⟨z_mem (z_tF (List.mem_of_getElem? (i := 77) rfl)) rfl, wi_X11, by decide, by decide, by decide +kernel⟩, z_mem (z_tF (List.mem_of_getElem? (i := 75) rfl)) rfl, z_mem (z_tF (List.mem_of_getElem? (i := 76) rfl)) rfl, by decide, rfl⟩
theorem kX11_image : zcV mX11_image 1 11 := ⟨⟨z_mem (z_tF (List.mem_of_getElem? (i := 81) rfl)) rfl, wi_X11, by decide, by decide, by decide +kernel⟩, z_mem (z_tF (List.mem_of_getElem? (i := 79) rfl)) rfl, z_mem (z_tF (List.mem_of_getElem? (i := 80) rfl)) rfl, by decide, rfl⟩
theorem kX11_again : zcV mX11_again 1 11 := ⟨⟨z_mem (z_tF (List.mem_of_getElem? (i := 90) rfl)) rfl, wi_X11, by decide, by decide, by decide +kernel⟩, z_mem (z_tF (List.mem_of_getElem? (i := 88) rfl)) rfl, z_mem (z_tF (List.mem_of_getElem? (i := 89) rfl)) rfl, by decide, rfl⟩
theorem kX11_winningLetter (j : Nat) : zcS (mX11_winningLetter j) 3 := ⟨⟨z_mem (z_tE (List.mem_of_getElem? (i := 71) rfl)) rfl, wi_X11, (by show yX11_winningLetter.cls ≠ _; decide), (by show yX11_winningLetter.cls ≠ _; decide), (by show (parseMethodDescriptor yX11_winningLetter.desc).map _ = _; decide +kernel)⟩, z_mem (z_tE (List.mem_of_getElem? (i := 70) rfl)) rfl⟩
theorem kX11_waysOfExactly : zcS (mX11_waysOfExactly) 3 := ⟨⟨z_mem (z_tE (List.mem_of_getElem? (i := 171) rfl)) rfl, wi_X11, by decide, by decide, by decide +kernel⟩, z_mem (z_tE (List.mem_of_getElem? (i := 170) rfl)) rfl⟩
theorem kX11_least : zcS (mX11_least) 3 := ⟨⟨z_mem (z_tD (List.mem_of_getElem? (i := 178) rfl)) rfl, wi_X11, by decide, by decide, by decide +kernel⟩, z_mem (z_tD (List.mem_of_getElem? (i := 177) rfl)) rfl⟩
theorem kX11_commonDivisor : zcS (mX11_commonDivisor) 2 := ⟨⟨z_mem (z_tD (List.mem_of_getElem? (i := 181) rfl)) rfl, wi_X11, by decide, by decide, by decide +kernel⟩, z_mem (z_tD (List.mem_of_getElem? (i := 180) rfl)) rfl⟩
theorem kX11_has : zcS (mX11_has) 2 := ⟨⟨z_mem (z_tD (List.mem_of_getElem? (i := 59) rfl)) rfl, wi_X11, by decide, by decide, by decide +kernel⟩, z_mem (z_tD (List.mem_of_getElem? (i := 58) rfl)) rfl⟩
theorem kX11_bit : zcS (mX11_bit) 1 := ⟨⟨z_mem (z_tC (List.mem_of_getElem? (i := 148) rfl)) rfl, wi_X11, by decide, by decide, by decide +kernel⟩, z_mem (z_tC (List.mem_of_getElem? (i := 147) rfl)) rfl⟩
theorem kX11_lowest : zcS (mX11_lowest) 1 := ⟨⟨z_mem (z_tF (List.mem_of_getElem? (i := 49) rfl)) rfl, wi_X11, by decide, by decide, by decide +kernel⟩, z_mem (z_tF (List.mem_of_getElem? (i := 48) rfl)) rfl⟩
theorem kX11_got : zcS (mX11_got) 2 := ⟨⟨z_mem (z_tB (List.mem_of_getElem? (i := 216) rfl)) rfl, wi_X11, by decide, by decide, by decide +kernel⟩, z_mem (z_tB (List.mem_of_getElem? (i := 215) rfl)) rfl⟩
theorem kX11_put : zcS (mX11_put) 3 := ⟨⟨z_mem (z_tB (List.mem_of_getElem? (i := 201) rfl)) rfl, wi_X11, by decide, by decide, by decide +kernel⟩, z_mem (z_tB (List.mem_of_getElem? (i := 200) rfl)) rfl⟩
theorem kX11_copyRow : zcS (mX11_copyRow) 2 := ⟨⟨z_mem (z_tC (List.mem_of_getElem? (i := 204) rfl)) rfl, wi_X11, by decide, by decide, by decide +kernel⟩, z_mem (z_tC (List.mem_of_getElem? (i := 203) rfl)) rfl⟩
theorem kX12_init : zcI mX12_init 0 := ⟨⟨z_mem (z_tF (List.mem_of_getElem? (i := 95) rfl)) rfl, wi_X12, by decide, by decide, by decide +kernel⟩, rfl, z_mem (z_tF (List.mem_of_getElem? (i := 94) rfl)) rfl, rfl⟩
theorem kX12_isIn : zcS (mX12_isIn) 3 := ⟨⟨z_mem (z_tF (List.mem_of_getElem? (i := 236) rfl)) rfl, wi_X12, by decide, by decide, by decide +kernel⟩, z_mem (z_tF (List.mem_of_getElem? (i := 235) rfl)) rfl⟩
theorem kX12_feed : zcV mX12_feed 5 12 := ⟨⟨z_mem (z_tF (List.mem_of_getElem? (i := 225) rfl)) rfl, wi_X12, by decide, by decide, by decide +kernel⟩, z_mem (z_tF (List.mem_of_getElem? (i := 223) rfl)) rfl, z_mem (z_tF (List.mem_of_getElem? (i := 224) rfl)) rfl, by decide, rfl⟩
theorem kX12_end : zcV mX12_end 1 12 := ⟨⟨z_mem (z_tF (List.mem_of_getElem? (i := 229) rfl)) rfl, wi_X12, by decide, by decide, by decide +kernel⟩, z_mem (z_tF (List.mem_of_getElem? (i := 227) rfl)) rfl, z_mem (z_tF (List.mem_of_getElem? (i := 228) rfl)) rfl, by decide, rfl⟩
theorem kX12_byteAt : zcV mX12_byteAt 1 12 := ⟨⟨z_mem (z_tG (List.mem_of_getElem? (i := 8) rfl)) rfl, wi_X12, by decide, by decide, by decide +kernel⟩, z_mem (z_tG (List.mem_of_getElem? (i := 7) rfl)) rfl, z_mem (z_tS (List.mem_of_getElem? (i := 63) rfl)) rfl, by decide, rfl⟩
theorem kX12_isLetter : zcS (mX12_isLetter) 1 := ⟨⟨z_mem (z_tG (List.mem_of_getElem? (i := 11) rfl)) rfl, wi_X12, by decide, by decide, by decide +kernel⟩, z_mem (z_tG (List.mem_of_getElem? (i := 10) rfl)) rfl⟩
theorem kX12_isDigit : zcS (mX12_isDigit) 1 := ⟨⟨z_mem (z_tG (List.mem_of_getElem? (i := 26) rfl)) rfl, wi_X12, by decide, by decide, by decide +kernel⟩, z_mem (z_tG (List.mem_of_getElem? (i := 25) rfl)) rfl⟩
theorem kX12_four : zcS (mX12_four) 4 := ⟨⟨z_mem (z_tG (List.mem_of_getElem? (i := 19) rfl)) rfl, wi_X12, by decide, by decide, by decide +kernel⟩, z_mem (z_tG (List.mem_of_getElem? (i := 18) rfl)) rfl⟩
theorem kX12_eight : zcS (mX12_eight) 8 := ⟨⟨z_mem (z_tG (List.mem_of_getElem? (i := 22) rfl)) rfl, wi_X12, by decide, by decide, by decide +kernel⟩, z_mem (z_tG (List.mem_of_getElem? (i := 21) rfl)) rfl⟩
theorem kX12_wordOf : zcS (mX12_wordOf) 1 := ⟨⟨z_mem (z_tG (List.mem_of_getElem? (i := 16) rfl)) rfl, wi_X12, by decide, by decide, by decide +kernel⟩, z_mem (z_tG (List.mem_of_getElem? (i := 15) rfl)) rfl⟩
theorem kX12_advance : zcV mX12_advance 0 12 := ⟨⟨z_mem (z_tG (List.mem_of_getElem? (i := 4) rfl)) rfl, wi_X12, by decide, by decide, by decide +kernel⟩, z_mem (z_tG (List.mem_of_getElem? (i := 3) rfl)) rfl, z_mem (z_tS (List.mem_of_getElem? (i := 62) rfl)) rfl, by decide, rfl⟩
theorem kX12_ends : zcV mX12_ends 0 12 := ⟨⟨z_mem (z_tG (List.mem_of_getElem? (i := 38) rfl)) rfl, wi_X12, by decide, by decide, by decide +kernel⟩, z_mem (z_tG (List.mem_of_getElem? (i := 37) rfl)) rfl, z_mem (z_tS (List.mem_of_getElem? (i := 66) rfl)) rfl, by decide, rfl⟩
theorem kX12_also : zcV mX12_also 2 12 := ⟨⟨z_mem (z_tG (List.mem_of_getElem? (i := 46) rfl)) rfl, wi_X12, by decide, by decide, by decide +kernel⟩, z_mem (z_tG (List.mem_of_getElem? (i := 45) rfl)) rfl, z_mem (z_tS (List.mem_of_getElem? (i := 68) rfl)) rfl, by decide, rfl⟩
theorem kX12_numbered : zcV mX12_numbered 2 12 := ⟨⟨z_mem (z_tG (List.mem_of_getElem? (i := 54) rfl)) rfl, wi_X12, by decide, by decide, by decide +kernel⟩, z_mem (z_tG (List.mem_of_getElem? (i := 53) rfl)) rfl, z_mem (z_tS (List.mem_of_getElem? (i := 70) rfl)) rfl, by decide, rfl⟩
theorem kX12_wordIn : zcV mX12_wordIn 2 12 := ⟨⟨z_mem (z_tG (List.mem_of_getElem? (i := 34) rfl)) rfl, wi_X12, by decide, by decide, by decide +kernel⟩, z_mem (z_tG (List.mem_of_getElem? (i := 33) rfl)) rfl, z_mem (z_tS (List.mem_of_getElem? (i := 65) rfl)) rfl, by decide, rfl⟩
theorem kX12_endsLine : zcV mX12_endsLine 0 12 := ⟨⟨z_mem (z_tG (List.mem_of_getElem? (i := 62) rfl)) rfl, wi_X12, by decide, by decide, by decide +kernel⟩, z_mem (z_tG (List.mem_of_getElem? (i := 61) rfl)) rfl, z_mem (z_tS (List.mem_of_getElem? (i := 72) rfl)) rfl, by decide, rfl⟩
theorem kX12_rowTold : zcV mX12_rowTold 1 12 := ⟨⟨z_mem (z_tG (List.mem_of_getElem? (i := 50) rfl)) rfl, wi_X12, by decide, by decide, by decide +kernel⟩, z_mem (z_tG (List.mem_of_getElem? (i := 49) rfl)) rfl, z_mem (z_tS (List.mem_of_getElem? (i := 69) rfl)) rfl, by decide, rfl⟩
theorem kX12_wordTold : zcV mX12_wordTold 0 12 := ⟨⟨z_mem (z_tG (List.mem_of_getElem? (i := 58) rfl)) rfl, wi_X12, by decide, by decide, by decide +kernel⟩, z_mem (z_tG (List.mem_of_getElem? (i := 57) rfl)) rfl, z_mem (z_tS (List.mem_of_getElem? (i := 71) rfl)) rfl, by decide, rfl⟩
theorem kX12_wordLine : zcV mX12_wordLine 1 12 := ⟨⟨z_mem (z_tG (List.mem_of_getElem? (i := 42) rfl)) rfl, wi_X12, by decide, by decide, by decide +kernel⟩, z_mem (z_tG (List.mem_of_getElem? (i := 41) rfl)) rfl, z_mem (z_tS (List.mem_of_getElem? (i := 67) rfl)) rfl, by decide, rfl⟩
theorem kX12_hillLine : zcV mX12_hillLine 0 12 := ⟨⟨z_mem (z_tG (List.mem_of_getElem? (i := 30) rfl)) rfl, wi_X12, by decide, by decide, by decide +kernel⟩, z_mem (z_tG (List.mem_of_getElem? (i := 29) rfl)) rfl, z_mem (z_tS (List.mem_of_getElem? (i := 64) rfl)) rfl, by decide, rfl⟩
theorem kX12_centuryLine : zcV mX12_centuryLine 0 12 := ⟨⟨z_mem (z_tG (List.mem_of_getElem? (i := 66) rfl)) rfl, wi_X12, by decide, by decide, by decide +kernel⟩, z_mem (z_tG (List.mem_of_getElem? (i := 65) rfl)) rfl, z_mem (z_tS (List.mem_of_getElem? (i := 73) rfl)) rfl, by decide, rfl⟩
theorem kX12_linesLine : zcV mX12_linesLine 0 12 := ⟨⟨z_mem (z_tG (List.mem_of_getElem? (i := 70) rfl)) rfl, wi_X12, by decide, by decide, by decide +kernel⟩, z_mem (z_tG (List.mem_of_getElem? (i := 69) rfl)) rfl, z_mem (z_tS (List.mem_of_getElem? (i := 74) rfl)) rfl, by decide, rfl⟩
theorem kX12_logLine : zcV mX12_logLine 0 12 := ⟨⟨z_mem (z_tG (List.mem_of_getElem? (i := 74) rfl)) rfl, wi_X12, by decide, by decide, by decide +kernel⟩, z_mem (z_tG (List.mem_of_getElem? (i := 73) rfl)) rfl, z_mem (z_tS (List.mem_of_getElem? (i := 75) rfl)) rfl, by decide, rfl⟩
theorem kX12_isTwice : zcV mX12_isTwice 0 12 := ⟨⟨z_mem (z_tG (List.mem_of_getElem? (i := 78) rfl)) rfl, wi_X12, by decide, by decide, by decide +kernel⟩, z_mem (z_tG (List.mem_of_getElem? (i := 77) rfl)) rfl, z_mem (z_tS (List.mem_of_getElem? (i := 76) rfl)) rfl, by decide, rfl⟩
theorem kX12_placeOf : zcS (mX12_placeOf) 2 := ⟨⟨z_mem (z_tG (List.mem_of_getElem? (i := 84) rfl)) rfl, wi_X12, by decide, by decide, by decide +kernel⟩, z_mem (z_tG (List.mem_of_getElem? (i := 83) rfl)) rfl⟩
theorem kX12_sizeOf : zcS (mX12_sizeOf) 1 := ⟨⟨z_mem (z_tG (List.mem_of_getElem? (i := 81) rfl)) rfl, wi_X12, by decide, by decide, by decide +kernel⟩, z_mem (z_tG (List.mem_of_getElem? (i := 80) rfl)) rfl⟩
theorem kX12_isOf : zcV mX12_isOf 2 12 := ⟨⟨z_mem (z_tG (List.mem_of_getElem? (i := 0) rfl)) rfl, wi_X12, by decide, by decide, by decide +kernel⟩, z_mem (z_tF (List.mem_of_getElem? (i := 239) rfl)) rfl, z_mem (z_tS (List.mem_of_getElem? (i := 61) rfl)) rfl, by decide, rfl⟩
theorem kX12_text : zcV mX12_text 2 12 := ⟨⟨z_mem (z_tF (List.mem_of_getElem? (i := 233) rfl)) rfl, wi_X12, by decide, by decide, by decide +kernel⟩, z_mem (z_tF (List.mem_of_getElem? (i := 231) rfl)) rfl, z_mem (z_tF (List.mem_of_getElem? (i := 232) rfl)) rfl, by decide, rfl⟩
theorem kX12_fault : zcV mX12_fault 1 12 := ⟨⟨z_mem (z_tG (List.mem_of_getElem? (i := 88) rfl)) rfl, wi_X12, by decide, by decide, by decide +kernel⟩, z_mem (z_tG (List.mem_of_getElem? (i := 86) rfl)) rfl, z_mem (z_tG (List.mem_of_getElem? (i := 87) rfl)) rfl, by decide, rfl⟩
theorem kX12_isHill : zcV mX12_isHill 1 12 := ⟨⟨z_mem (z_tG (List.mem_of_getElem? (i := 96) rfl)) rfl, wi_X12, by decide, by decide, by decide +kernel⟩, z_mem (z_tG (List.mem_of_getElem? (i := 95) rfl)) rfl, z_mem (z_tS (List.mem_of_getElem? (i := 77) rfl)) rfl, by decide, rfl⟩
theorem kX12_isWord : zcV mX12_isWord 1 12 := ⟨⟨z_mem (z_tG (List.mem_of_getElem? (i := 104) rfl)) rfl, wi_X12, by decide, by decide, by decide +kernel⟩, z_mem (z_tG (List.mem_of_getElem? (i := 103) rfl)) rfl, z_mem (z_tS (List.mem_of_getElem? (i := 79) rfl)) rfl, by decide, rfl⟩
theorem kX12_isStone : zcV mX12_isStone 1 12 := ⟨⟨z_mem (z_tG (List.mem_of_getElem? (i := 152) rfl)) rfl, wi_X12, by decide, by decide, by decide +kernel⟩, z_mem (z_tG (List.mem_of_getElem? (i := 151) rfl)) rfl, z_mem (z_tS (List.mem_of_getElem? (i := 89) rfl)) rfl, by decide, rfl⟩
theorem kX12_longOf : zcV mX12_longOf 1 12 := ⟨⟨z_mem (z_tG (List.mem_of_getElem? (i := 108) rfl)) rfl, wi_X12, by decide, by decide, by decide +kernel⟩, z_mem (z_tG (List.mem_of_getElem? (i := 107) rfl)) rfl, z_mem (z_tS (List.mem_of_getElem? (i := 80) rfl)) rfl, by decide, rfl⟩
theorem kX12_oftenOf : zcV mX12_oftenOf 1 12 := ⟨⟨z_mem (z_tG (List.mem_of_getElem? (i := 112) rfl)) rfl, wi_X12, by decide, by decide, by decide +kernel⟩, z_mem (z_tG (List.mem_of_getElem? (i := 111) rfl)) rfl, z_mem (z_tS (List.mem_of_getElem? (i := 81) rfl)) rfl, by decide, rfl⟩
theorem kX12_letterOf : zcV mX12_letterOf 2 12 := ⟨⟨z_mem (z_tG (List.mem_of_getElem? (i := 124) rfl)) rfl, wi_X12, by decide, by decide, by decide +kernel⟩, z_mem (z_tG (List.mem_of_getElem? (i := 123) rfl)) rfl, z_mem (z_tS (List.mem_of_getElem? (i := 84) rfl)) rfl, by decide, rfl⟩
theorem kX12_everyWord : zcV mX12_everyWord 0 12 := ⟨⟨z_mem (z_tG (List.mem_of_getElem? (i := 120) rfl)) rfl, wi_X12, by decide, by decide, by decide +kernel⟩, z_mem (z_tG (List.mem_of_getElem? (i := 119) rfl)) rfl, z_mem (z_tS (List.mem_of_getElem? (i := 83) rfl)) rfl, by decide, rfl⟩
theorem kX12_behind : zcV mX12_behind 1 12 := ⟨⟨z_mem (z_tG (List.mem_of_getElem? (i := 116) rfl)) rfl, wi_X12, by decide, by decide, by decide +kernel⟩, z_mem (z_tG (List.mem_of_getElem? (i := 115) rfl)) rfl, z_mem (z_tS (List.mem_of_getElem? (i := 82) rfl)) rfl, by decide, rfl⟩
theorem kX12_answersTo : zcV mX12_answersTo 1 12 := ⟨⟨z_mem (z_tG (List.mem_of_getElem? (i := 100) rfl)) rfl, wi_X12, by decide, by decide, by decide +kernel⟩, z_mem (z_tG (List.mem_of_getElem? (i := 99) rfl)) rfl, z_mem (z_tS (List.mem_of_getElem? (i := 78) rfl)) rfl, by decide, rfl⟩
theorem kX12_holds : zcS (mX12_holds) 2 := ⟨⟨z_mem (z_tG (List.mem_of_getElem? (i := 155) rfl)) rfl, wi_X12, by decide, by decide, by decide +kernel⟩, z_mem (z_tG (List.mem_of_getElem? (i := 154) rfl)) rfl⟩
theorem kX12_bitsOf : zcS (mX12_bitsOf) 1 := ⟨⟨z_mem (z_tH (List.mem_of_getElem? (i := 151) rfl)) rfl, wi_X12, by decide, by decide, by decide +kernel⟩, z_mem (z_tH (List.mem_of_getElem? (i := 150) rfl)) rfl⟩
theorem kX12_hill : zcV mX12_hill 2 12 := ⟨⟨z_mem (z_tG (List.mem_of_getElem? (i := 92) rfl)) rfl, wi_X12, by decide, by decide, by decide +kernel⟩, z_mem (z_tG (List.mem_of_getElem? (i := 90) rfl)) rfl, z_mem (z_tG (List.mem_of_getElem? (i := 91) rfl)) rfl, by decide, rfl⟩
theorem kX12_isCentury : zcV mX12_isCentury 1 12 := ⟨⟨z_mem (z_tG (List.mem_of_getElem? (i := 132) rfl)) rfl, wi_X12, by decide, by decide, by decide +kernel⟩, z_mem (z_tG (List.mem_of_getElem? (i := 131) rfl)) rfl, z_mem (z_tS (List.mem_of_getElem? (i := 85) rfl)) rfl, by decide, rfl⟩
theorem kX12_deed : zcV mX12_deed 3 12 := ⟨⟨z_mem (z_tG (List.mem_of_getElem? (i := 128) rfl)) rfl, wi_X12, by decide, by decide, by decide +kernel⟩, z_mem (z_tG (List.mem_of_getElem? (i := 126) rfl)) rfl, z_mem (z_tG (List.mem_of_getElem? (i := 127) rfl)) rfl, by decide, rfl⟩
theorem kX12_begins : zcV mX12_begins 0 12 := ⟨⟨z_mem (z_tG (List.mem_of_getElem? (i := 144) rfl)) rfl, wi_X12, by decide, by decide, by decide +kernel⟩, z_mem (z_tG (List.mem_of_getElem? (i := 143) rfl)) rfl, z_mem (z_tS (List.mem_of_getElem? (i := 87) rfl)) rfl, by decide, rfl⟩
theorem kX12_begins0 : zcV mX12_begins0 2 12 := ⟨⟨z_mem (z_tG (List.mem_of_getElem? (i := 171) rfl)) rfl, wi_X12, by decide, by decide, by decide +kernel⟩, z_mem (z_tG (List.mem_of_getElem? (i := 170) rfl)) rfl, z_mem (z_tS (List.mem_of_getElem? (i := 93) rfl)) rfl, by decide, rfl⟩
theorem kX12_fitting : zcV mX12_fitting 1 12 := ⟨⟨z_mem (z_tG (List.mem_of_getElem? (i := 167) rfl)) rfl, wi_X12, by decide, by decide, by decide +kernel⟩, z_mem (z_tG (List.mem_of_getElem? (i := 166) rfl)) rfl, z_mem (z_tS (List.mem_of_getElem? (i := 92) rfl)) rfl, by decide, rfl⟩
theorem kX12_puts : zcV mX12_puts 4 12 := ⟨⟨z_mem (z_tG (List.mem_of_getElem? (i := 163) rfl)) rfl, wi_X12, by decide, by decide, by decide +kernel⟩, z_mem (z_tG (List.mem_of_getElem? (i := 162) rfl)) rfl, z_mem (z_tS (List.mem_of_getElem? (i := 91) rfl)) rfl, by decide, rfl⟩
theorem kX12_freezes : zcV mX12_freezes 2 12 := ⟨⟨z_mem (z_tG (List.mem_of_getElem? (i := 159) rfl)) rfl, wi_X12, by decide, by decide, by decide +kernel⟩, z_mem (z_tG (List.mem_of_getElem? (i := 158) rfl)) rfl, z_mem (z_tS (List.mem_of_getElem? (i := 90) rfl)) rfl, by decide, rfl⟩
theorem kX12_tells : zcV mX12_tells 1 12 := ⟨⟨z_mem (z_tG (List.mem_of_getElem? (i := 175) rfl)) rfl, wi_X12, by decide, by decide, by decide +kernel⟩, z_mem (z_tG (List.mem_of_getElem? (i := 174) rfl)) rfl, z_mem (z_tS (List.mem_of_getElem? (i := 94) rfl)) rfl, by decide, rfl⟩
theorem kX12_does : zcV mX12_does 3 12 := ⟨⟨z_mem (z_tG (List.mem_of_getElem? (i := 148) rfl)) rfl, wi_X12, by decide, by decide, by decide +kernel⟩, z_mem (z_tG (List.mem_of_getElem? (i := 147) rfl)) rfl, z_mem (z_tS (List.mem_of_getElem? (i := 88) rfl)) rfl, by decide, rfl⟩
theorem kX12_runs : zcV mX12_runs 1 12 := ⟨⟨z_mem (z_tG (List.mem_of_getElem? (i := 140) rfl)) rfl, wi_X12, by decide, by decide, by decide +kernel⟩, z_mem (z_tG (List.mem_of_getElem? (i := 139) rfl)) rfl, z_mem (z_tS (List.mem_of_getElem? (i := 86) rfl)) rfl, by decide, rfl⟩
theorem kX12_stop : zcV mX12_stop 2 12 := ⟨⟨z_mem (z_tG (List.mem_of_getElem? (i := 136) rfl)) rfl, wi_X12, by decide, by decide, by decide +kernel⟩, z_mem (z_tG (List.mem_of_getElem? (i := 134) rfl)) rfl, z_mem (z_tG (List.mem_of_getElem? (i := 135) rfl)) rfl, by decide, rfl⟩
theorem kX12_feignedOn : zcV mX12_feignedOn 1 12 := ⟨⟨z_mem (z_tG (List.mem_of_getElem? (i := 187) rfl)) rfl, wi_X12, by decide, by decide, by decide +kernel⟩, z_mem (z_tG (List.mem_of_getElem? (i := 186) rfl)) rfl, z_mem (z_tS (List.mem_of_getElem? (i := 96) rfl)) rfl, by decide, rfl⟩
theorem kX12_nowOf : zcV mX12_nowOf 1 12 := ⟨⟨z_mem (z_tG (List.mem_of_getElem? (i := 183) rfl)) rfl, wi_X12, by decide, by decide, by decide +kernel⟩, z_mem (z_tG (List.mem_of_getElem? (i := 182) rfl)) rfl, z_mem (z_tS (List.mem_of_getElem? (i := 95) rfl)) rfl, by decide, rfl⟩
theorem kX12_state : zcV mX12_state 4 12 := ⟨⟨z_mem (z_tG (List.mem_of_getElem? (i := 179) rfl)) rfl, wi_X12, by decide, by decide, by decide +kernel⟩, z_mem (z_tG (List.mem_of_getElem? (i := 177) rfl)) rfl, z_mem (z_tG (List.mem_of_getElem? (i := 178) rfl)) rfl, by decide, rfl⟩
theorem kX12_after : zcV mX12_after 3 12 := ⟨⟨z_mem (z_tG (List.mem_of_getElem? (i := 191) rfl)) rfl, wi_X12, by decide, by decide, by decide +kernel⟩, z_mem (z_tG (List.mem_of_getElem? (i := 189) rfl)) rfl, z_mem (z_tG (List.mem_of_getElem? (i := 190) rfl)) rfl, by decide, rfl⟩
theorem kX12_isLine : zcV mX12_isLine 2 12 := ⟨⟨z_mem (z_tG (List.mem_of_getElem? (i := 199) rfl)) rfl, wi_X12, by decide, by decide, by decide +kernel⟩, z_mem (z_tG (List.mem_of_getElem? (i := 198) rfl)) rfl, z_mem (z_tS (List.mem_of_getElem? (i := 97) rfl)) rfl, by decide, rfl⟩
theorem kX12_inLine : zcV mX12_inLine 1 12 := ⟨⟨z_mem (z_tG (List.mem_of_getElem? (i := 203) rfl)) rfl, wi_X12, by decide, by decide, by decide +kernel⟩, z_mem (z_tG (List.mem_of_getElem? (i := 202) rfl)) rfl, z_mem (z_tS (List.mem_of_getElem? (i := 98) rfl)) rfl, by decide, rfl⟩
theorem kX12_line : zcV mX12_line 3 12 := ⟨⟨z_mem (z_tG (List.mem_of_getElem? (i := 195) rfl)) rfl, wi_X12, by decide, by decide, by decide +kernel⟩, z_mem (z_tG (List.mem_of_getElem? (i := 193) rfl)) rfl, z_mem (z_tG (List.mem_of_getElem? (i := 194) rfl)) rfl, by decide, rfl⟩
theorem kX12_saidOf : zcV mX12_saidOf 0 12 := ⟨⟨z_mem (z_tG (List.mem_of_getElem? (i := 211) rfl)) rfl, wi_X12, by decide, by decide, by decide +kernel⟩, z_mem (z_tG (List.mem_of_getElem? (i := 210) rfl)) rfl, z_mem (z_tS (List.mem_of_getElem? (i := 99) rfl)) rfl, by decide, rfl⟩
theorem kX12_oftenIn : zcV mX12_oftenIn 1 12 := ⟨⟨z_mem (z_tG (List.mem_of_getElem? (i := 220) rfl)) rfl, wi_X12, by decide, by decide, by decide +kernel⟩, z_mem (z_tG (List.mem_of_getElem? (i := 219) rfl)) rfl, z_mem (z_tS (List.mem_of_getElem? (i := 100) rfl)) rfl, by decide, rfl⟩
theorem kX12_said : zcV mX12_said 4 12 := ⟨⟨z_mem (z_tG (List.mem_of_getElem? (i := 207) rfl)) rfl, wi_X12, by decide, by decide, by decide +kernel⟩, z_mem (z_tG (List.mem_of_getElem? (i := 205) rfl)) rfl, z_mem (z_tG (List.mem_of_getElem? (i := 206) rfl)) rfl, by decide, rfl⟩
theorem kX12_common : zcS (mX12_common) 2 := ⟨⟨z_mem (z_tG (List.mem_of_getElem? (i := 226) rfl)) rfl, wi_X12, by decide, by decide, by decide +kernel⟩, z_mem (z_tG (List.mem_of_getElem? (i := 225) rfl)) rfl⟩
theorem kX12_least : zcS (mX12_least) 3 := ⟨⟨z_mem (z_tG (List.mem_of_getElem? (i := 223) rfl)) rfl, wi_X12, by decide, by decide, by decide +kernel⟩, z_mem (z_tG (List.mem_of_getElem? (i := 222) rfl)) rfl⟩
theorem kX12_odds : zcV mX12_odds 5 12 := ⟨⟨z_mem (z_tG (List.mem_of_getElem? (i := 215) rfl)) rfl, wi_X12, by decide, by decide, by decide +kernel⟩, z_mem (z_tG (List.mem_of_getElem? (i := 213) rfl)) rfl, z_mem (z_tG (List.mem_of_getElem? (i := 214) rfl)) rfl, by decide, rfl⟩
theorem kX12_alikeOf : zcV mX12_alikeOf 2 12 := ⟨⟨z_mem (z_tG (List.mem_of_getElem? (i := 238) rfl)) rfl, wi_X12, by decide, by decide, by decide +kernel⟩, z_mem (z_tG (List.mem_of_getElem? (i := 237) rfl)) rfl, z_mem (z_tS (List.mem_of_getElem? (i := 102) rfl)) rfl, by decide, rfl⟩
theorem kX12_sureIn : zcV mX12_sureIn 2 12 := ⟨⟨z_mem (z_tG (List.mem_of_getElem? (i := 234) rfl)) rfl, wi_X12, by decide, by decide, by decide +kernel⟩, z_mem (z_tG (List.mem_of_getElem? (i := 233) rfl)) rfl, z_mem (z_tS (List.mem_of_getElem? (i := 101) rfl)) rfl, by decide, rfl⟩
theorem kX12_sure : zcV mX12_sure 4 12 := ⟨⟨z_mem (z_tG (List.mem_of_getElem? (i := 230) rfl)) rfl, wi_X12, by decide, by decide, by decide +kernel⟩, z_mem (z_tG (List.mem_of_getElem? (i := 228) rfl)) rfl, z_mem (z_tG (List.mem_of_getElem? (i := 229) rfl)) rfl, by decide, rfl⟩
theorem kX12_asked : zcV mX12_asked 3 12 := ⟨⟨z_mem (z_tH (List.mem_of_getElem? (i := 2) rfl)) rfl, wi_X12, by decide, by decide, by decide +kernel⟩, z_mem (z_tH (List.mem_of_getElem? (i := 0) rfl)) rfl, z_mem (z_tH (List.mem_of_getElem? (i := 1) rfl)) rfl, by decide, rfl⟩
theorem kX12_soonest : zcV mX12_soonest 1 12 := ⟨⟨z_mem (z_tH (List.mem_of_getElem? (i := 6) rfl)) rfl, wi_X12, by decide, by decide, by decide +kernel⟩, z_mem (z_tH (List.mem_of_getElem? (i := 4) rfl)) rfl, z_mem (z_tH (List.mem_of_getElem? (i := 5) rfl)) rfl, by decide, rfl⟩
theorem kX12_unlike : zcV mX12_unlike 2 12 := ⟨⟨z_mem (z_tH (List.mem_of_getElem? (i := 18) rfl)) rfl, wi_X12, by decide, by decide, by decide +kernel⟩, z_mem (z_tH (List.mem_of_getElem? (i := 17) rfl)) rfl, z_mem (z_tS (List.mem_of_getElem? (i := 104) rfl)) rfl, by decide, rfl⟩
theorem kX12_laysReadings : zcV mX12_laysReadings 0 12 := ⟨⟨z_mem (z_tH (List.mem_of_getElem? (i := 14) rfl)) rfl, wi_X12, by decide, by decide, by decide +kernel⟩, z_mem (z_tH (List.mem_of_getElem? (i := 13) rfl)) rfl, z_mem (z_tS (List.mem_of_getElem? (i := 103) rfl)) rfl, by decide, rfl⟩
theorem kX12_reading : zcV mX12_reading 4 12 := ⟨⟨z_mem (z_tH (List.mem_of_getElem? (i := 10) rfl)) rfl, wi_X12, by decide, by decide, by decide +kernel⟩, z_mem (z_tH (List.mem_of_getElem? (i := 8) rfl)) rfl, z_mem (z_tH (List.mem_of_getElem? (i := 9) rfl)) rfl, by decide, rfl⟩
theorem kX12_mendedOf : zcV mX12_mendedOf 0 12 := ⟨⟨z_mem (z_tH (List.mem_of_getElem? (i := 26) rfl)) rfl, wi_X12, by decide, by decide, by decide +kernel⟩, z_mem (z_tH (List.mem_of_getElem? (i := 25) rfl)) rfl, z_mem (z_tS (List.mem_of_getElem? (i := 105) rfl)) rfl, by decide, rfl⟩
theorem kX12_next : zcV mX12_next 4 12 := ⟨⟨z_mem (z_tH (List.mem_of_getElem? (i := 22) rfl)) rfl, wi_X12, by decide, by decide, by decide +kernel⟩, z_mem (z_tH (List.mem_of_getElem? (i := 20) rfl)) rfl, z_mem (z_tH (List.mem_of_getElem? (i := 21) rfl)) rfl, by decide, rfl⟩
theorem kX12_takesWord : zcV mX12_takesWord 2 12 := ⟨⟨z_mem (z_tH (List.mem_of_getElem? (i := 34) rfl)) rfl, wi_X12, by decide, by decide, by decide +kernel⟩, z_mem (z_tH (List.mem_of_getElem? (i := 33) rfl)) rfl, z_mem (z_tS (List.mem_of_getElem? (i := 106) rfl)) rfl, by decide, rfl⟩
theorem kX12_changesOf : zcV mX12_changesOf 0 12 := ⟨⟨z_mem (z_tH (List.mem_of_getElem? (i := 38) rfl)) rfl, wi_X12, by decide, by decide, by decide +kernel⟩, z_mem (z_tH (List.mem_of_getElem? (i := 37) rfl)) rfl, z_mem (z_tS (List.mem_of_getElem? (i := 107) rfl)) rfl, by decide, rfl⟩
theorem kX12_slips : zcV mX12_slips 4 12 := ⟨⟨z_mem (z_tH (List.mem_of_getElem? (i := 30) rfl)) rfl, wi_X12, by decide, by decide, by decide +kernel⟩, z_mem (z_tH (List.mem_of_getElem? (i := 28) rfl)) rfl, z_mem (z_tH (List.mem_of_getElem? (i := 29) rfl)) rfl, by decide, rfl⟩
theorem kX12_echo : zcV mX12_echo 4 12 := ⟨⟨z_mem (z_tH (List.mem_of_getElem? (i := 42) rfl)) rfl, wi_X12, by decide, by decide, by decide +kernel⟩, z_mem (z_tH (List.mem_of_getElem? (i := 40) rfl)) rfl, z_mem (z_tH (List.mem_of_getElem? (i := 41) rfl)) rfl, by decide, rfl⟩
theorem kX12_apartOf : zcV mX12_apartOf 2 12 := ⟨⟨z_mem (z_tH (List.mem_of_getElem? (i := 50) rfl)) rfl, wi_X12, by decide, by decide, by decide +kernel⟩, z_mem (z_tH (List.mem_of_getElem? (i := 49) rfl)) rfl, z_mem (z_tS (List.mem_of_getElem? (i := 108) rfl)) rfl, by decide, rfl⟩
theorem kX12_alike : zcV mX12_alike 4 12 := ⟨⟨z_mem (z_tH (List.mem_of_getElem? (i := 46) rfl)) rfl, wi_X12, by decide, by decide, by decide +kernel⟩, z_mem (z_tH (List.mem_of_getElem? (i := 44) rfl)) rfl, z_mem (z_tH (List.mem_of_getElem? (i := 45) rfl)) rfl, by decide, rfl⟩
theorem kX12_closestOf : zcV mX12_closestOf 0 12 := ⟨⟨z_mem (z_tH (List.mem_of_getElem? (i := 70) rfl)) rfl, wi_X12, by decide, by decide, by decide +kernel⟩, z_mem (z_tH (List.mem_of_getElem? (i := 69) rfl)) rfl, z_mem (z_tS (List.mem_of_getElem? (i := 112) rfl)) rfl, by decide, rfl⟩
theorem kX12_treeOf : zcV mX12_treeOf 0 12 := ⟨⟨z_mem (z_tH (List.mem_of_getElem? (i := 74) rfl)) rfl, wi_X12, by decide, by decide, by decide +kernel⟩, z_mem (z_tH (List.mem_of_getElem? (i := 73) rfl)) rfl, z_mem (z_tS (List.mem_of_getElem? (i := 113) rfl)) rfl, by decide, rfl⟩
theorem kX12_isBeginning : zcV mX12_isBeginning 2 12 := ⟨⟨z_mem (z_tH (List.mem_of_getElem? (i := 66) rfl)) rfl, wi_X12, by decide, by decide, by decide +kernel⟩, z_mem (z_tH (List.mem_of_getElem? (i := 65) rfl)) rfl, z_mem (z_tS (List.mem_of_getElem? (i := 111) rfl)) rfl, by decide, rfl⟩
theorem kX12_withinOf : zcV mX12_withinOf 1 12 := ⟨⟨z_mem (z_tH (List.mem_of_getElem? (i := 62) rfl)) rfl, wi_X12, by decide, by decide, by decide +kernel⟩, z_mem (z_tH (List.mem_of_getElem? (i := 61) rfl)) rfl, z_mem (z_tS (List.mem_of_getElem? (i := 110) rfl)) rfl, by decide, rfl⟩
theorem kX12_leadsOf : zcV mX12_leadsOf 1 12 := ⟨⟨z_mem (z_tH (List.mem_of_getElem? (i := 58) rfl)) rfl, wi_X12, by decide, by decide, by decide +kernel⟩, z_mem (z_tH (List.mem_of_getElem? (i := 57) rfl)) rfl, z_mem (z_tS (List.mem_of_getElem? (i := 109) rfl)) rfl, by decide, rfl⟩
theorem kX12_tree : zcV mX12_tree 2 12 := ⟨⟨z_mem (z_tH (List.mem_of_getElem? (i := 54) rfl)) rfl, wi_X12, by decide, by decide, by decide +kernel⟩, z_mem (z_tH (List.mem_of_getElem? (i := 52) rfl)) rfl, z_mem (z_tH (List.mem_of_getElem? (i := 53) rfl)) rfl, by decide, rfl⟩
theorem kX12_bestBehind : zcV mX12_bestBehind 2 12 := ⟨⟨z_mem (z_tH (List.mem_of_getElem? (i := 82) rfl)) rfl, wi_X12, by decide, by decide, by decide +kernel⟩, z_mem (z_tH (List.mem_of_getElem? (i := 81) rfl)) rfl, z_mem (z_tS (List.mem_of_getElem? (i := 114) rfl)) rfl, by decide, rfl⟩
theorem kX12_chain : zcV mX12_chain 2 12 := ⟨⟨z_mem (z_tH (List.mem_of_getElem? (i := 78) rfl)) rfl, wi_X12, by decide, by decide, by decide +kernel⟩, z_mem (z_tH (List.mem_of_getElem? (i := 76) rfl)) rfl, z_mem (z_tH (List.mem_of_getElem? (i := 77) rfl)) rfl, by decide, rfl⟩
theorem kX12_sentences : zcV mX12_sentences 2 12 := ⟨⟨z_mem (z_tH (List.mem_of_getElem? (i := 86) rfl)) rfl, wi_X12, by decide, by decide, by decide +kernel⟩, z_mem (z_tH (List.mem_of_getElem? (i := 84) rfl)) rfl, z_mem (z_tH (List.mem_of_getElem? (i := 85) rfl)) rfl, by decide, rfl⟩
theorem kX12_goesOn : zcV mX12_goesOn 2 12 := ⟨⟨z_mem (z_tH (List.mem_of_getElem? (i := 94) rfl)) rfl, wi_X12, by decide, by decide, by decide +kernel⟩, z_mem (z_tH (List.mem_of_getElem? (i := 93) rfl)) rfl, z_mem (z_tS (List.mem_of_getElem? (i := 115) rfl)) rfl, by decide, rfl⟩
theorem kX12_twice : zcV mX12_twice 1 12 := ⟨⟨z_mem (z_tH (List.mem_of_getElem? (i := 90) rfl)) rfl, wi_X12, by decide, by decide, by decide +kernel⟩, z_mem (z_tH (List.mem_of_getElem? (i := 88) rfl)) rfl, z_mem (z_tH (List.mem_of_getElem? (i := 89) rfl)) rfl, by decide, rfl⟩
theorem kX12_isWhole : zcV mX12_isWhole 2 12 := ⟨⟨z_mem (z_tH (List.mem_of_getElem? (i := 106) rfl)) rfl, wi_X12, by decide, by decide, by decide +kernel⟩, z_mem (z_tH (List.mem_of_getElem? (i := 105) rfl)) rfl, z_mem (z_tS (List.mem_of_getElem? (i := 117) rfl)) rfl, by decide, rfl⟩
theorem kX12_isWon : zcV mX12_isWon 2 12 := ⟨⟨z_mem (z_tH (List.mem_of_getElem? (i := 102) rfl)) rfl, wi_X12, by decide, by decide, by decide +kernel⟩, z_mem (z_tH (List.mem_of_getElem? (i := 101) rfl)) rfl, z_mem (z_tS (List.mem_of_getElem? (i := 116) rfl)) rfl, by decide, rfl⟩
theorem kX12_ghost : zcV mX12_ghost 2 12 := ⟨⟨z_mem (z_tH (List.mem_of_getElem? (i := 98) rfl)) rfl, wi_X12, by decide, by decide, by decide +kernel⟩, z_mem (z_tH (List.mem_of_getElem? (i := 96) rfl)) rfl, z_mem (z_tH (List.mem_of_getElem? (i := 97) rfl)) rfl, by decide, rfl⟩
theorem kX12_isLog : zcV mX12_isLog 1 12 := ⟨⟨z_mem (z_tH (List.mem_of_getElem? (i := 114) rfl)) rfl, wi_X12, by decide, by decide, by decide +kernel⟩, z_mem (z_tH (List.mem_of_getElem? (i := 113) rfl)) rfl, z_mem (z_tS (List.mem_of_getElem? (i := 118) rfl)) rfl, by decide, rfl⟩
theorem kX12_fact : zcV mX12_fact 3 12 := ⟨⟨z_mem (z_tH (List.mem_of_getElem? (i := 110) rfl)) rfl, wi_X12, by decide, by decide, by decide +kernel⟩, z_mem (z_tH (List.mem_of_getElem? (i := 108) rfl)) rfl, z_mem (z_tH (List.mem_of_getElem? (i := 109) rfl)) rfl, by decide, rfl⟩
theorem kX12_digit : zcS (mX12_digit) 2 := ⟨⟨z_mem (z_tH (List.mem_of_getElem? (i := 128) rfl)) rfl, wi_X12, by decide, by decide, by decide +kernel⟩, z_mem (z_tH (List.mem_of_getElem? (i := 127) rfl)) rfl⟩
theorem kX12_isSo : zcV mX12_isSo 2 12 := ⟨⟨z_mem (z_tH (List.mem_of_getElem? (i := 136) rfl)) rfl, wi_X12, by decide, by decide, by decide +kernel⟩, z_mem (z_tH (List.mem_of_getElem? (i := 135) rfl)) rfl, z_mem (z_tS (List.mem_of_getElem? (i := 121) rfl)) rfl, by decide, rfl⟩
theorem kX12_isRule : zcS (mX12_isRule) 1 := ⟨⟨z_mem (z_tH (List.mem_of_getElem? (i := 125) rfl)) rfl, wi_X12, by decide, by decide, by decide +kernel⟩, z_mem (z_tH (List.mem_of_getElem? (i := 124) rfl)) rfl⟩
theorem kX12_notSo : zcV mX12_notSo 1 12 := ⟨⟨z_mem (z_tH (List.mem_of_getElem? (i := 132) rfl)) rfl, wi_X12, by decide, by decide, by decide +kernel⟩, z_mem (z_tH (List.mem_of_getElem? (i := 131) rfl)) rfl, z_mem (z_tS (List.mem_of_getElem? (i := 120) rfl)) rfl, by decide, rfl⟩
theorem kX12_placesNotSo : zcV mX12_placesNotSo 1 12 := ⟨⟨z_mem (z_tH (List.mem_of_getElem? (i := 140) rfl)) rfl, wi_X12, by decide, by decide, by decide +kernel⟩, z_mem (z_tH (List.mem_of_getElem? (i := 139) rfl)) rfl, z_mem (z_tS (List.mem_of_getElem? (i := 122) rfl)) rfl, by decide, rfl⟩
theorem kX12_fewest : zcV mX12_fewest 0 12 := ⟨⟨z_mem (z_tH (List.mem_of_getElem? (i := 122) rfl)) rfl, wi_X12, by decide, by decide, by decide +kernel⟩, z_mem (z_tH (List.mem_of_getElem? (i := 121) rfl)) rfl, z_mem (z_tS (List.mem_of_getElem? (i := 119) rfl)) rfl, by decide, rfl⟩
theorem kX12_forged : zcV mX12_forged 2 12 := ⟨⟨z_mem (z_tH (List.mem_of_getElem? (i := 118) rfl)) rfl, wi_X12, by decide, by decide, by decide +kernel⟩, z_mem (z_tH (List.mem_of_getElem? (i := 116) rfl)) rfl, z_mem (z_tH (List.mem_of_getElem? (i := 117) rfl)) rfl, by decide, rfl⟩
theorem kX12_age : zcV mX12_age 2 12 := ⟨⟨z_mem (z_tH (List.mem_of_getElem? (i := 144) rfl)) rfl, wi_X12, by decide, by decide, by decide +kernel⟩, z_mem (z_tH (List.mem_of_getElem? (i := 142) rfl)) rfl, z_mem (z_tH (List.mem_of_getElem? (i := 143) rfl)) rfl, by decide, rfl⟩
theorem kX12_power : zcS (mX12_power) 2 := ⟨⟨z_mem (z_tH (List.mem_of_getElem? (i := 154) rfl)) rfl, wi_X12, by decide, by decide, by decide +kernel⟩, z_mem (z_tH (List.mem_of_getElem? (i := 153) rfl)) rfl⟩
theorem kX12_chance : zcV mX12_chance 4 12 := ⟨⟨z_mem (z_tH (List.mem_of_getElem? (i := 148) rfl)) rfl, wi_X12, by decide, by decide, by decide +kernel⟩, z_mem (z_tH (List.mem_of_getElem? (i := 146) rfl)) rfl, z_mem (z_tH (List.mem_of_getElem? (i := 147) rfl)) rfl, by decide, rfl⟩
theorem kX12_waits : zcV mX12_waits 3 12 := ⟨⟨z_mem (z_tH (List.mem_of_getElem? (i := 159) rfl)) rfl, wi_X12, by decide, by decide, by decide +kernel⟩, z_mem (z_tH (List.mem_of_getElem? (i := 157) rfl)) rfl, z_mem (z_tH (List.mem_of_getElem? (i := 158) rfl)) rfl, by decide, rfl⟩
theorem kX12_below : zcV mX12_below 1 12 := ⟨⟨z_mem (z_tH (List.mem_of_getElem? (i := 171) rfl)) rfl, wi_X12, by decide, by decide, by decide +kernel⟩, z_mem (z_tH (List.mem_of_getElem? (i := 170) rfl)) rfl, z_mem (z_tS (List.mem_of_getElem? (i := 124) rfl)) rfl, by decide, rfl⟩
theorem kX12_draws : zcV mX12_draws 0 12 := ⟨⟨z_mem (z_tH (List.mem_of_getElem? (i := 167) rfl)) rfl, wi_X12, by decide, by decide, by decide +kernel⟩, z_mem (z_tH (List.mem_of_getElem? (i := 166) rfl)) rfl, z_mem (z_tS (List.mem_of_getElem? (i := 123) rfl)) rfl, by decide, rfl⟩
theorem kX12_drawn : zcV mX12_drawn 4 12 := ⟨⟨z_mem (z_tH (List.mem_of_getElem? (i := 163) rfl)) rfl, wi_X12, by decide, by decide, by decide +kernel⟩, z_mem (z_tH (List.mem_of_getElem? (i := 161) rfl)) rfl, z_mem (z_tH (List.mem_of_getElem? (i := 162) rfl)) rfl, by decide, rfl⟩
theorem kX12_count : zcV mX12_count 1 12 := ⟨⟨z_mem (z_tH (List.mem_of_getElem? (i := 176) rfl)) rfl, wi_X12, by decide, by decide, by decide +kernel⟩, z_mem (z_tH (List.mem_of_getElem? (i := 174) rfl)) rfl, z_mem (z_tH (List.mem_of_getElem? (i := 175) rfl)) rfl, by decide, rfl⟩
theorem kX12_image : zcV mX12_image 1 12 := ⟨⟨z_mem (z_tH (List.mem_of_getElem? (i := 180) rfl)) rfl, wi_X12, by decide, by decide, by decide +kernel⟩, z_mem (z_tH (List.mem_of_getElem? (i := 178) rfl)) rfl, z_mem (z_tH (List.mem_of_getElem? (i := 179) rfl)) rfl, by decide, rfl⟩
theorem kX12_again : zcV mX12_again 1 12 := ⟨⟨z_mem (z_tH (List.mem_of_getElem? (i := 184) rfl)) rfl, wi_X12, by decide, by decide, by decide +kernel⟩, z_mem (z_tH (List.mem_of_getElem? (i := 182) rfl)) rfl, z_mem (z_tH (List.mem_of_getElem? (i := 183) rfl)) rfl, by decide, rfl⟩
theorem kJ6_bitCount_0f7a4 : zcS (mJ6_bitCount_0f7a4) 1 := ⟨⟨z_mem (z_tE (List.mem_of_getElem? (i := 147) rfl)) rfl, wi_J6, by decide, by decide, by decide +kernel⟩, z_mem (z_tE (List.mem_of_getElem? (i := 146) rfl)) rfl⟩
theorem kJ7_fill_53178 : zcS (mJ7_fill_53178) 2 := ⟨⟨z_mem (z_tB (List.mem_of_getElem? (i := 231) rfl)) rfl, wi_J7, by decide, by decide, by decide +kernel⟩, z_mem (z_tB (List.mem_of_getElem? (i := 230) rfl)) rfl⟩
theorem wm_X0_3 : Cond.methodLink RX0 3 Lib.objectInit ∈ zGW := z_mem (z_tA (List.mem_of_getElem? (i := 98) rfl)) rfl
theorem wf_X0_9 : Cond.fieldLink RX0 9 (zRn 0) (zTb 0 1).2.1 (zTb 0 1).2.2.1 ∈ zGW := z_mem (z_tA (List.mem_of_getElem? (i := 102) rfl)) rfl
theorem wf_X0_15 : Cond.fieldLink RX0 15 (zRn 0) (zTb 0 2).2.1 (zTb 0 2).2.2.1 ∈ zGW := z_mem (z_tA (List.mem_of_getElem? (i := 105) rfl)) rfl
theorem wf_X0_18 : Cond.fieldLink RX0 18 (zRn 0) (zTb 0 3).2.1 (zTb 0 3).2.2.1 ∈ zGW := z_mem (z_tA (List.mem_of_getElem? (i := 108) rfl)) rfl
theorem wf_X0_21 : Cond.fieldLink RX0 21 (zRn 0) (zTb 0 0).2.1 (zTb 0 0).2.2.1 ∈ zGW := z_mem (z_tA (List.mem_of_getElem? (i := 99) rfl)) rfl
theorem wm_X0_25 : zln RX0 25 yX11_copyRow := Or.inr ⟨_, z_mem (z_tC (List.mem_of_getElem? (i := 212) rfl)) rfl⟩
theorem wm_X0_29 : zln RX0 29 yX11_got := Or.inr ⟨_, z_mem (z_tD (List.mem_of_getElem? (i := 34) rfl)) rfl⟩
theorem wm_X1_3 : Cond.methodLink RX1 3 Lib.objectInit ∈ zGW := z_mem (z_tB (List.mem_of_getElem? (i := 103) rfl)) rfl
theorem wc_X1_9 : Cond.classLink RX1 9 RX3 ∈ zGW := z_mem (z_tB (List.mem_of_getElem? (i := 104) rfl)) rfl
theorem wm_X1_11 : zln RX1 11 yX3_init := Or.inr ⟨_, z_mem (z_tB (List.mem_of_getElem? (i := 105) rfl)) rfl⟩
theorem wf_X1_12 : Cond.fieldLink RX1 12 (zRn 1) (zTb 1 0).2.1 (zTb 1 0).2.2.1 ∈ zGW := z_mem (z_tB (List.mem_of_getElem? (i := 106) rfl)) rfl
theorem wf_X1_18 : Cond.fieldLink RX1 18 (zRn 1) (zTb 1 2).2.1 (zTb 1 2).2.2.1 ∈ zGW := z_mem (z_tB (List.mem_of_getElem? (i := 109) rfl)) rfl
theorem wf_X1_22 : Cond.fieldLink RX1 22 (zRn 1) (zTb 1 3).2.1 (zTb 1 3).2.2.1 ∈ zGW := z_mem (z_tB (List.mem_of_getElem? (i := 110) rfl)) rfl
theorem wf_X1_25 : Cond.fieldLink RX1 25 (zRn 1) (zTb 1 4).2.1 (zTb 1 4).2.2.1 ∈ zGW := z_mem (z_tB (List.mem_of_getElem? (i := 111) rfl)) rfl
theorem wm_X1_28 : zln RX1 28 yX4_hasLine := Or.inl (z_mem (z_tD (List.mem_of_getElem? (i := 147) rfl)) rfl)
theorem wf_X1_34 : Cond.fieldLink RX1 34 (zRn 4) (zTb 4 1).2.1 (zTb 4 1).2.2.1 ∈ zGW := z_mem (z_tA (List.mem_of_getElem? (i := 128) rfl)) rfl
theorem wm_X1_37 : zln RX1 37 yX11_got := Or.inr ⟨_, z_mem (z_tD (List.mem_of_getElem? (i := 148) rfl)) rfl⟩
theorem wf_X1_41 : Cond.fieldLink RX1 41 (zRn 1) (zTb 1 1).2.1 (zTb 1 1).2.2.1 ∈ zGW := z_mem (z_tB (List.mem_of_getElem? (i := 107) rfl)) rfl
theorem wm_X1_45 : zln RX1 45 yX4_letterOf := Or.inl (z_mem (z_tD (List.mem_of_getElem? (i := 149) rfl)) rfl)
theorem wm_X1_49 : zln RX1 49 yX11_put := Or.inr ⟨_, z_mem (z_tD (List.mem_of_getElem? (i := 150) rfl)) rfl⟩
theorem wm_X1_53 : zln RX1 53 yX3_beginningWith := Or.inl (z_mem (z_tD (List.mem_of_getElem? (i := 155) rfl)) rfl)
theorem wm_X1_57 : zln RX1 57 yX1_heard := Or.inl (z_mem (z_tD (List.mem_of_getElem? (i := 160) rfl)) rfl)
theorem wm_X1_61 : zln RX1 61 yX11_has := Or.inr ⟨_, z_mem (z_tD (List.mem_of_getElem? (i := 161) rfl)) rfl⟩
theorem wm_X1_65 : zln RX1 65 yX3_oftenOf := Or.inl (z_mem (z_tD (List.mem_of_getElem? (i := 162) rfl)) rfl)
theorem wm_X1_69 : zln RX1 69 yX3_sizeOf := Or.inl (z_mem (z_tD (List.mem_of_getElem? (i := 208) rfl)) rfl)
theorem wm_X1_72 : zln RX1 72 yX3_letterOf := Or.inl (z_mem (z_tD (List.mem_of_getElem? (i := 238) rfl)) rfl)
theorem wm_X1_73 : zln RX1 73 yX11_bit := Or.inr ⟨_, z_mem (z_tE (List.mem_of_getElem? (i := 0) rfl)) rfl⟩
theorem wm_X1_76 : zln RX1 76 yX1_lettersBehind := Or.inl (z_mem (z_tE (List.mem_of_getElem? (i := 199) rfl)) rfl)
theorem wm_X1_79 : zln RX1 79 yX1_oftenGoingOn := Or.inl (z_mem (z_tE (List.mem_of_getElem? (i := 200) rfl)) rfl)
theorem wm_X1_82 : zln RX1 82 yX1_countReadings := Or.inl (z_mem (z_tD (List.mem_of_getElem? (i := 203) rfl)) rfl)
theorem wm_X1_85 : zln RX1 85 yJ7_fill_53178 := Or.inl (z_mem (z_tD (List.mem_of_getElem? (i := 207) rfl)) rfl)
theorem wf_X1_91 : Cond.fieldLink RX1 91 (zRn 3) (zTb 3 1).2.1 (zTb 3 1).2.2.1 ∈ zGW := z_mem (z_tA (List.mem_of_getElem? (i := 54) rfl)) rfl
theorem wm_X1_94 : zln RX1 94 yX3_changesAt := Or.inl (z_mem (z_tD (List.mem_of_getElem? (i := 209) rfl)) rfl)
theorem wm_X1_98 : zln RX1 98 yX1_readingsBehind := Or.inl (z_mem (z_tD (List.mem_of_getElem? (i := 213) rfl)) rfl)
theorem wm_X1_101 : zln RX1 101 yX3_behind := Or.inl (z_mem (z_tD (List.mem_of_getElem? (i := 217) rfl)) rfl)
theorem wm_X1_104 : zln RX1 104 yX1_leastReadAt := Or.inl (z_mem (z_tD (List.mem_of_getElem? (i := 222) rfl)) rfl)
theorem wm_X1_107 : zln RX1 107 yX1_fewestBehind := Or.inl (z_mem (z_tE (List.mem_of_getElem? (i := 208) rfl)) rfl)
theorem wm_X1_110 : zln RX1 110 yX3_all := Or.inl (z_mem (z_tE (List.mem_of_getElem? (i := 212) rfl)) rfl)
theorem wm_X1_113 : Cond.methodLink RX1 113 Lib.Math.min.name ∈ zGW := z_mem (z_tD (List.mem_of_getElem? (i := 239) rfl)) rfl
theorem wm_X1_118 : zln RX1 118 yX1_changesTo := Or.inl (z_mem (z_tD (List.mem_of_getElem? (i := 234) rfl)) rfl)
theorem wf_X1_122 : Cond.fieldLink RX1 122 (zRn 3) (zTb 3 7).2.1 (zTb 3 7).2.2.1 ∈ zGW := z_mem (z_tA (List.mem_of_getElem? (i := 70) rfl)) rfl
theorem wm_X1_125 : zln RX1 125 yX1_changesBetween := Or.inl (z_mem (z_tF (List.mem_of_getElem? (i := 4) rfl)) rfl)
theorem wm_X2_3 : Cond.methodLink RX2 3 Lib.objectInit ∈ zGW := z_mem (z_tB (List.mem_of_getElem? (i := 59) rfl)) rfl
theorem wc_X2_9 : Cond.classLink RX2 9 RX3 ∈ zGW := z_mem (z_tB (List.mem_of_getElem? (i := 60) rfl)) rfl
theorem wm_X2_11 : zln RX2 11 yX3_init := Or.inr ⟨_, z_mem (z_tB (List.mem_of_getElem? (i := 61) rfl)) rfl⟩
theorem wf_X2_12 : Cond.fieldLink RX2 12 (zRn 2) (zTb 2 0).2.1 (zTb 2 0).2.2.1 ∈ zGW := z_mem (z_tB (List.mem_of_getElem? (i := 62) rfl)) rfl
theorem wf_X2_18 : Cond.fieldLink RX2 18 (zRn 2) (zTb 2 4).2.1 (zTb 2 4).2.2.1 ∈ zGW := z_mem (z_tB (List.mem_of_getElem? (i := 68) rfl)) rfl
theorem wf_X2_22 : Cond.fieldLink RX2 22 (zRn 2) (zTb 2 5).2.1 (zTb 2 5).2.2.1 ∈ zGW := z_mem (z_tB (List.mem_of_getElem? (i := 69) rfl)) rfl
theorem wf_X2_25 : Cond.fieldLink RX2 25 (zRn 2) (zTb 2 6).2.1 (zTb 2 6).2.2.1 ∈ zGW := z_mem (z_tB (List.mem_of_getElem? (i := 70) rfl)) rfl
theorem wf_X2_28 : Cond.fieldLink RX2 28 (zRn 2) (zTb 2 7).2.1 (zTb 2 7).2.2.1 ∈ zGW := z_mem (z_tB (List.mem_of_getElem? (i := 71) rfl)) rfl
theorem wf_X2_31 : Cond.fieldLink RX2 31 (zRn 2) (zTb 2 8).2.1 (zTb 2 8).2.2.1 ∈ zGW := z_mem (z_tB (List.mem_of_getElem? (i := 72) rfl)) rfl
theorem wf_X2_34 : Cond.fieldLink RX2 34 (zRn 2) (zTb 2 9).2.1 (zTb 2 9).2.2.1 ∈ zGW := z_mem (z_tB (List.mem_of_getElem? (i := 73) rfl)) rfl
theorem wf_X2_37 : Cond.fieldLink RX2 37 (zRn 2) (zTb 2 10).2.1 (zTb 2 10).2.2.1 ∈ zGW := z_mem (z_tB (List.mem_of_getElem? (i := 74) rfl)) rfl
theorem wf_X2_40 : Cond.fieldLink RX2 40 (zRn 2) (zTb 2 1).2.1 (zTb 2 1).2.2.1 ∈ zGW := z_mem (z_tB (List.mem_of_getElem? (i := 63) rfl)) rfl
theorem wf_X2_44 : Cond.fieldLink RX2 44 (zRn 2) (zTb 2 2).2.1 (zTb 2 2).2.2.1 ∈ zGW := z_mem (z_tB (List.mem_of_getElem? (i := 64) rfl)) rfl
theorem wf_X2_47 : Cond.fieldLink RX2 47 (zRn 2) (zTb 2 3).2.1 (zTb 2 3).2.2.1 ∈ zGW := z_mem (z_tB (List.mem_of_getElem? (i := 66) rfl)) rfl
theorem wm_X2_50 : zln RX2 50 yJ7_fill_53178 := Or.inl (z_mem (z_tD (List.mem_of_getElem? (i := 47) rfl)) rfl)
theorem wm_X2_56 : zln RX2 56 yX2_begin := Or.inl (z_mem (z_tD (List.mem_of_getElem? (i := 43) rfl)) rfl)
theorem wf_X2_60 : Cond.fieldLink RX2 60 (zRn 0) (zTb 0 1).2.1 (zTb 0 1).2.2.1 ∈ zGW := z_mem (z_tA (List.mem_of_getElem? (i := 103) rfl)) rfl
theorem wm_X2_65 : zln RX2 65 yX11_got := Or.inr ⟨_, z_mem (z_tD (List.mem_of_getElem? (i := 48) rfl)) rfl⟩
theorem wf_X2_69 : Cond.fieldLink RX2 69 (zRn 0) (zTb 0 2).2.1 (zTb 0 2).2.2.1 ∈ zGW := z_mem (z_tA (List.mem_of_getElem? (i := 106) rfl)) rfl
theorem wf_X2_72 : Cond.fieldLink RX2 72 (zRn 0) (zTb 0 3).2.1 (zTb 0 3).2.2.1 ∈ zGW := z_mem (z_tA (List.mem_of_getElem? (i := 109) rfl)) rfl
theorem wm_X2_73 : zln RX2 73 yX2_does := Or.inl (z_mem (z_tD (List.mem_of_getElem? (i := 49) rfl)) rfl)
theorem wm_X2_77 : zln RX2 77 yX2_stir := Or.inl (z_mem (z_tE (List.mem_of_getElem? (i := 180) rfl)) rfl)
theorem wm_X2_81 : zln RX2 81 yX2_below := Or.inl (z_mem (z_tE (List.mem_of_getElem? (i := 184) rfl)) rfl)
theorem wf_X2_85 : Cond.fieldLink RX2 85 (zRn 3) (zTb 3 0).2.1 (zTb 3 0).2.2.1 ∈ zGW := z_mem (z_tA (List.mem_of_getElem? (i := 50) rfl)) rfl
theorem wk_X2_87 : Cond.constant RX2 87 (1103515245) ∈ zGW := z_mem (z_tE (List.mem_of_getElem? (i := 183) rfl)) rfl
theorem wm_X2_88 : zln RX2 88 yX2_isStone := Or.inl (z_mem (z_tD (List.mem_of_getElem? (i := 53) rfl)) rfl)
theorem wm_X2_92 : zln RX2 92 yX11_has := Or.inr ⟨_, z_mem (z_tD (List.mem_of_getElem? (i := 57) rfl)) rfl⟩
theorem wm_X2_96 : zln RX2 96 yX2_freeze := Or.inl (z_mem (z_tD (List.mem_of_getElem? (i := 60) rfl)) rfl)
theorem wm_X2_99 : zln RX2 99 yX2_falsify := Or.inl (z_mem (z_tD (List.mem_of_getElem? (i := 84) rfl)) rfl)
theorem wm_X2_102 : zln RX2 102 yX2_overgrow := Or.inl (z_mem (z_tD (List.mem_of_getElem? (i := 88) rfl)) rfl)
theorem wm_X2_105 : zln RX2 105 yX2_chipOff := Or.inl (z_mem (z_tD (List.mem_of_getElem? (i := 93) rfl)) rfl)
theorem wm_X2_108 : zln RX2 108 yX11_bit := Or.inr ⟨_, z_mem (z_tD (List.mem_of_getElem? (i := 97) rfl)) rfl⟩
theorem wm_X2_111 : zln RX2 111 yX11_put := Or.inr ⟨_, z_mem (z_tD (List.mem_of_getElem? (i := 64) rfl)) rfl⟩
theorem wm_X2_115 : zln RX2 115 yX2_open := Or.inl (z_mem (z_tD (List.mem_of_getElem? (i := 65) rfl)) rfl)
theorem wm_X2_118 : zln RX2 118 yX2_fitting := Or.inl (z_mem (z_tD (List.mem_of_getElem? (i := 69) rfl)) rfl)
theorem wm_X2_121 : Cond.methodLink RX2 121 Lib.Math.max.name ∈ zGW := z_mem (z_tD (List.mem_of_getElem? (i := 79) rfl)) rfl
theorem wm_X2_126 : zln RX2 126 yX2_add := Or.inl (z_mem (z_tD (List.mem_of_getElem? (i := 80) rfl)) rfl)
theorem wf_X2_130 : Cond.fieldLink RX2 130 (zRn 3) (zTb 3 1).2.1 (zTb 3 1).2.2.1 ∈ zGW := z_mem (z_tA (List.mem_of_getElem? (i := 56) rfl)) rfl
theorem wm_X2_133 : zln RX2 133 yX3_sizeOf := Or.inl (z_mem (z_tD (List.mem_of_getElem? (i := 92) rfl)) rfl)
theorem wm_X2_136 : zln RX2 136 yX3_beginningWith := Or.inl (z_mem (z_tD (List.mem_of_getElem? (i := 73) rfl)) rfl)
theorem wm_X2_140 : zln RX2 140 yX3_behind := Or.inl (z_mem (z_tD (List.mem_of_getElem? (i := 78) rfl)) rfl)
theorem wm_X2_143 : zln RX2 143 yX2_lookAtLetter := Or.inl (z_mem (z_tD (List.mem_of_getElem? (i := 106) rfl)) rfl)
theorem wm_X2_146 : zln RX2 146 yX2_lookAtStone := Or.inl (z_mem (z_tD (List.mem_of_getElem? (i := 110) rfl)) rfl)
theorem wm_X2_149 : zln RX2 149 yX2_forgeriesOn := Or.inl (z_mem (z_tD (List.mem_of_getElem? (i := 114) rfl)) rfl)
theorem wm_X3_3 : Cond.methodLink RX3 3 Lib.objectInit ∈ zGW := z_mem (z_tA (List.mem_of_getElem? (i := 48) rfl)) rfl
theorem wf_X3_9 : Cond.fieldLink RX3 9 (zRn 3) (zTb 3 0).2.1 (zTb 3 0).2.2.1 ∈ zGW := z_mem (z_tA (List.mem_of_getElem? (i := 49) rfl)) rfl
theorem wf_X3_15 : Cond.fieldLink RX3 15 (zRn 3) (zTb 3 4).2.1 (zTb 3 4).2.2.1 ∈ zGW := z_mem (z_tA (List.mem_of_getElem? (i := 61) rfl)) rfl
theorem wf_X3_19 : Cond.fieldLink RX3 19 (zRn 3) (zTb 3 5).2.1 (zTb 3 5).2.2.1 ∈ zGW := z_mem (z_tA (List.mem_of_getElem? (i := 63) rfl)) rfl
theorem wf_X3_22 : Cond.fieldLink RX3 22 (zRn 3) (zTb 3 6).2.1 (zTb 3 6).2.2.1 ∈ zGW := z_mem (z_tA (List.mem_of_getElem? (i := 65) rfl)) rfl
theorem wf_X3_25 : Cond.fieldLink RX3 25 (zRn 3) (zTb 3 7).2.1 (zTb 3 7).2.2.1 ∈ zGW := z_mem (z_tA (List.mem_of_getElem? (i := 67) rfl)) rfl
theorem wf_X3_28 : Cond.fieldLink RX3 28 (zRn 3) (zTb 3 8).2.1 (zTb 3 8).2.2.1 ∈ zGW := z_mem (z_tA (List.mem_of_getElem? (i := 71) rfl)) rfl
theorem wf_X3_31 : Cond.fieldLink RX3 31 (zRn 3) (zTb 3 1).2.1 (zTb 3 1).2.2.1 ∈ zGW := z_mem (z_tA (List.mem_of_getElem? (i := 52) rfl)) rfl
theorem wf_X3_34 : Cond.fieldLink RX3 34 (zRn 3) (zTb 3 2).2.1 (zTb 3 2).2.2.1 ∈ zGW := z_mem (z_tA (List.mem_of_getElem? (i := 57) rfl)) rfl
theorem wf_X3_38 : Cond.fieldLink RX3 38 (zRn 3) (zTb 3 3).2.1 (zTb 3 3).2.2.1 ∈ zGW := z_mem (z_tA (List.mem_of_getElem? (i := 59) rfl)) rfl
theorem wm_X3_41 : zln RX3 41 yJ7_fill_53178 := Or.inl (z_mem (z_tB (List.mem_of_getElem? (i := 229) rfl)) rfl)
theorem wm_X3_47 : zln RX3 47 yX11_copyRow := Or.inr ⟨_, z_mem (z_tC (List.mem_of_getElem? (i := 202) rfl)) rfl⟩
theorem wm_X3_51 : zln RX3 51 yX3_hasWord := Or.inl (z_mem (z_tD (List.mem_of_getElem? (i := 2) rfl)) rfl)
theorem wm_X3_55 : zln RX3 55 yX3_sizeOf := Or.inl (z_mem (z_tC (List.mem_of_getElem? (i := 180) rfl)) rfl)
theorem wm_X3_59 : zln RX3 59 yX3_letterOf := Or.inl (z_mem (z_tC (List.mem_of_getElem? (i := 190) rfl)) rfl)
theorem wm_X3_63 : zln RX3 63 yX11_got := Or.inr ⟨_, z_mem (z_tC (List.mem_of_getElem? (i := 184) rfl)) rfl⟩
theorem wm_X3_67 : zln RX3 67 yX3_lookAtWord := Or.inl (z_mem (z_tD (List.mem_of_getElem? (i := 6) rfl)) rfl)
theorem wm_X3_70 : zln RX3 70 yX3_oftenOf := Or.inl (z_mem (z_tD (List.mem_of_getElem? (i := 10) rfl)) rfl)
theorem wm_X3_73 : zln RX3 73 yX3_behind := Or.inl (z_mem (z_tD (List.mem_of_getElem? (i := 14) rfl)) rfl)
theorem wm_X3_76 : zln RX3 76 yX3_all := Or.inl (z_mem (z_tD (List.mem_of_getElem? (i := 18) rfl)) rfl)
theorem wm_X3_80 : zln RX3 80 yX11_has := Or.inr ⟨_, z_mem (z_tD (List.mem_of_getElem? (i := 175) rfl)) rfl⟩
theorem wm_X3_84 : zln RX3 84 yX11_bit := Or.inr ⟨_, z_mem (z_tD (List.mem_of_getElem? (i := 77) rfl)) rfl⟩
theorem wm_X3_87 : Cond.methodLink RX3 87 Lib.Math.min.name ∈ zGW := z_mem (z_tC (List.mem_of_getElem? (i := 189) rfl)) rfl
theorem wm_X3_92 : zln RX3 92 yX3_sameLettersAtFirst := Or.inl (z_mem (z_tC (List.mem_of_getElem? (i := 185) rfl)) rfl)
theorem wm_X3_95 : zln RX3 95 yX3_lettersToTell := Or.inl (z_mem (z_tD (List.mem_of_getElem? (i := 190) rfl)) rfl)
theorem wm_X3_99 : Cond.methodLink RX3 99 Lib.Math.max.name ∈ zGW := z_mem (z_tD (List.mem_of_getElem? (i := 194) rfl)) rfl
theorem wm_X3_102 : zln RX3 102 yX3_lettersTillSure := Or.inl (z_mem (z_tE (List.mem_of_getElem? (i := 14) rfl)) rfl)
theorem wm_X3_105 : zln RX3 105 yX3_oftenOfAll := Or.inl (z_mem (z_tE (List.mem_of_getElem? (i := 15) rfl)) rfl)
theorem wm_X3_108 : zln RX3 108 yX3_isWithin := Or.inl (z_mem (z_tF (List.mem_of_getElem? (i := 14) rfl)) rfl)
theorem wm_X3_111 : zln RX3 111 yX3_wordsWithin := Or.inl (z_mem (z_tF (List.mem_of_getElem? (i := 19) rfl)) rfl)
theorem wm_X4_3 : Cond.methodLink RX4 3 Lib.objectInit ∈ zGW := z_mem (z_tA (List.mem_of_getElem? (i := 124) rfl)) rfl
theorem wf_X4_9 : Cond.fieldLink RX4 9 (zRn 4) (zTb 4 1).2.1 (zTb 4 1).2.2.1 ∈ zGW := z_mem (z_tA (List.mem_of_getElem? (i := 127) rfl)) rfl
theorem wf_X4_15 : Cond.fieldLink RX4 15 (zRn 4) (zTb 4 2).2.1 (zTb 4 2).2.2.1 ∈ zGW := z_mem (z_tA (List.mem_of_getElem? (i := 130) rfl)) rfl
theorem wf_X4_18 : Cond.fieldLink RX4 18 (zRn 4) (zTb 4 0).2.1 (zTb 4 0).2.2.1 ∈ zGW := z_mem (z_tA (List.mem_of_getElem? (i := 125) rfl)) rfl
theorem wm_X4_22 : zln RX4 22 yX11_copyRow := Or.inr ⟨_, z_mem (z_tC (List.mem_of_getElem? (i := 216) rfl)) rfl⟩
theorem wm_X4_26 : zln RX4 26 yX11_got := Or.inr ⟨_, z_mem (z_tD (List.mem_of_getElem? (i := 134) rfl)) rfl⟩
theorem wm_X4_30 : zln RX4 30 yX4_hasLine := Or.inl (z_mem (z_tD (List.mem_of_getElem? (i := 130) rfl)) rfl)
theorem wm_X4_34 : zln RX4 34 yX4_letterOf := Or.inl (z_mem (z_tD (List.mem_of_getElem? (i := 135) rfl)) rfl)
theorem wm_X4_38 : zln RX4 38 yX4_sameFrom := Or.inl (z_mem (z_tE (List.mem_of_getElem? (i := 222) rfl)) rfl)
theorem wm_X4_42 : Cond.methodLink RX4 42 Lib.Math.min.name ∈ zGW := z_mem (z_tE (List.mem_of_getElem? (i := 226) rfl)) rfl
theorem wm_X5_3 : Cond.methodLink RX5 3 Lib.objectInit ∈ zGW := z_mem (z_tA (List.mem_of_getElem? (i := 143) rfl)) rfl
theorem wf_X5_9 : Cond.fieldLink RX5 9 (zRn 5) (zTb 5 1).2.1 (zTb 5 1).2.2.1 ∈ zGW := z_mem (z_tA (List.mem_of_getElem? (i := 147) rfl)) rfl
theorem wf_X5_15 : Cond.fieldLink RX5 15 (zRn 5) (zTb 5 2).2.1 (zTb 5 2).2.2.1 ∈ zGW := z_mem (z_tA (List.mem_of_getElem? (i := 150) rfl)) rfl
theorem wf_X5_18 : Cond.fieldLink RX5 18 (zRn 5) (zTb 5 0).2.1 (zTb 5 0).2.2.1 ∈ zGW := z_mem (z_tA (List.mem_of_getElem? (i := 144) rfl)) rfl
theorem wm_X5_22 : zln RX5 22 yX11_copyRow := Or.inr ⟨_, z_mem (z_tC (List.mem_of_getElem? (i := 220) rfl)) rfl⟩
theorem wm_X5_26 : zln RX5 26 yX11_got := Or.inr ⟨_, z_mem (z_tE (List.mem_of_getElem? (i := 92) rfl)) rfl⟩
theorem wm_X5_30 : Cond.methodLink RX5 30 Lib.Math.max.name ∈ zGW := z_mem (z_tE (List.mem_of_getElem? (i := 105) rfl)) rfl
theorem wm_X6_3 : Cond.methodLink RX6 3 Lib.objectInit ∈ zGW := z_mem (z_tA (List.mem_of_getElem? (i := 198) rfl)) rfl
theorem wc_X6_9 : Cond.classLink RX6 9 RX3 ∈ zGW := z_mem (z_tA (List.mem_of_getElem? (i := 199) rfl)) rfl
theorem wm_X6_11 : zln RX6 11 yX3_init := Or.inr ⟨_, z_mem (z_tA (List.mem_of_getElem? (i := 200) rfl)) rfl⟩
theorem wf_X6_12 : Cond.fieldLink RX6 12 (zRn 6) (zTb 6 0).2.1 (zTb 6 0).2.2.1 ∈ zGW := z_mem (z_tA (List.mem_of_getElem? (i := 239) rfl)) rfl
theorem wc_X6_18 : Cond.classLink RX6 18 RX0 ∈ zGW := z_mem (z_tA (List.mem_of_getElem? (i := 201) rfl)) rfl
theorem wm_X6_20 : zln RX6 20 yX0_init := Or.inr ⟨_, z_mem (z_tA (List.mem_of_getElem? (i := 202) rfl)) rfl⟩
theorem wf_X6_21 : Cond.fieldLink RX6 21 (zRn 6) (zTb 6 1).2.1 (zTb 6 1).2.2.1 ∈ zGW := z_mem (z_tB (List.mem_of_getElem? (i := 1) rfl)) rfl
theorem wc_X6_25 : Cond.classLink RX6 25 RX4 ∈ zGW := z_mem (z_tA (List.mem_of_getElem? (i := 203) rfl)) rfl
theorem wm_X6_27 : zln RX6 27 yX4_init := Or.inr ⟨_, z_mem (z_tA (List.mem_of_getElem? (i := 204) rfl)) rfl⟩
theorem wf_X6_28 : Cond.fieldLink RX6 28 (zRn 6) (zTb 6 2).2.1 (zTb 6 2).2.2.1 ∈ zGW := z_mem (z_tB (List.mem_of_getElem? (i := 3) rfl)) rfl
theorem wc_X6_32 : Cond.classLink RX6 32 RX5 ∈ zGW := z_mem (z_tA (List.mem_of_getElem? (i := 205) rfl)) rfl
theorem wm_X6_34 : zln RX6 34 yX5_init := Or.inr ⟨_, z_mem (z_tA (List.mem_of_getElem? (i := 206) rfl)) rfl⟩
theorem wf_X6_35 : Cond.fieldLink RX6 35 (zRn 6) (zTb 6 3).2.1 (zTb 6 3).2.2.1 ∈ zGW := z_mem (z_tB (List.mem_of_getElem? (i := 5) rfl)) rfl
theorem wc_X6_39 : Cond.classLink RX6 39 RX8 ∈ zGW := z_mem (z_tA (List.mem_of_getElem? (i := 207) rfl)) rfl
theorem wm_X6_41 : zln RX6 41 yX8_init := Or.inr ⟨_, z_mem (z_tA (List.mem_of_getElem? (i := 209) rfl)) rfl⟩
theorem wf_X6_42 : Cond.fieldLink RX6 42 (zRn 6) (zTb 6 6).2.1 (zTb 6 6).2.2.1 ∈ zGW := z_mem (z_tB (List.mem_of_getElem? (i := 11) rfl)) rfl
theorem wf_X6_46 : Cond.fieldLink RX6 46 (zRn 6) (zTb 6 7).2.1 (zTb 6 7).2.2.1 ∈ zGW := z_mem (z_tB (List.mem_of_getElem? (i := 12) rfl)) rfl
theorem wm_X6_50 : zln RX6 50 yX8_begin := Or.inl (z_mem (z_tB (List.mem_of_getElem? (i := 221) rfl)) rfl)
theorem wf_X6_54 : Cond.fieldLink RX6 54 (zRn 6) (zTb 6 4).2.1 (zTb 6 4).2.2.1 ∈ zGW := z_mem (z_tB (List.mem_of_getElem? (i := 7) rfl)) rfl
theorem wf_X6_58 : Cond.fieldLink RX6 58 (zRn 6) (zTb 6 5).2.1 (zTb 6 5).2.2.1 ∈ zGW := z_mem (z_tB (List.mem_of_getElem? (i := 9) rfl)) rfl
theorem wm_X6_61 : zln RX6 61 yX3_clear := Or.inl (z_mem (z_tB (List.mem_of_getElem? (i := 225) rfl)) rfl)
theorem wf_X6_64 : Cond.fieldLink RX6 64 (zRn 0) (zTb 0 0).2.1 (zTb 0 0).2.2.1 ∈ zGW := z_mem (z_tA (List.mem_of_getElem? (i := 100) rfl)) rfl
theorem wf_X6_67 : Cond.fieldLink RX6 67 (zRn 4) (zTb 4 0).2.1 (zTb 4 0).2.2.1 ∈ zGW := z_mem (z_tA (List.mem_of_getElem? (i := 126) rfl)) rfl
theorem wf_X6_68 : Cond.fieldLink RX6 68 (zRn 5) (zTb 5 0).2.1 (zTb 5 0).2.2.1 ∈ zGW := z_mem (z_tA (List.mem_of_getElem? (i := 145) rfl)) rfl
theorem wm_X6_69 : zln RX6 69 yX8_step := Or.inl (z_mem (z_tB (List.mem_of_getElem? (i := 232) rfl)) rfl)
theorem wf_X6_72 : Cond.fieldLink RX6 72 (zRn 8) (zTb 8 3).2.1 (zTb 8 3).2.2.1 ∈ zGW := z_mem (z_tA (List.mem_of_getElem? (i := 216) rfl)) rfl
theorem wm_X6_75 : zln RX6 75 yX6_keyOf := Or.inl (z_mem (z_tC (List.mem_of_getElem? (i := 14) rfl)) rfl)
theorem wm_X6_79 : zln RX6 79 yX6_readOne := Or.inl (z_mem (z_tC (List.mem_of_getElem? (i := 93) rfl)) rfl)
theorem wm_X6_83 : zln RX6 83 yX6_lookAtHill := Or.inl (z_mem (z_tC (List.mem_of_getElem? (i := 172) rfl)) rfl)
theorem wf_X6_87 : Cond.fieldLink RX6 87 (zRn 8) (zTb 8 4).2.1 (zTb 8 4).2.2.1 ∈ zGW := z_mem (z_tA (List.mem_of_getElem? (i := 218) rfl)) rfl
theorem wf_X6_90 : Cond.fieldLink RX6 90 (zRn 6) (zTb 6 8).2.1 (zTb 6 8).2.2.1 ∈ zGW := z_mem (z_tB (List.mem_of_getElem? (i := 13) rfl)) rfl
theorem wm_X6_93 : zln RX6 93 yX6_refuse := Or.inl (z_mem (z_tC (List.mem_of_getElem? (i := 97) rfl)) rfl)
theorem wm_X6_97 : zln RX6 97 yX6_keepFirst := Or.inl (z_mem (z_tC (List.mem_of_getElem? (i := 101) rfl)) rfl)
theorem wm_X6_100 : zln RX6 100 yX6_keepSecond := Or.inl (z_mem (z_tC (List.mem_of_getElem? (i := 105) rfl)) rfl)
theorem wm_X6_103 : zln RX6 103 yX6_tell := Or.inl (z_mem (z_tC (List.mem_of_getElem? (i := 109) rfl)) rfl)
theorem wf_X6_106 : Cond.fieldLink RX6 106 (zRn 6) (zTb 6 10).2.1 (zTb 6 10).2.2.1 ∈ zGW := z_mem (z_tB (List.mem_of_getElem? (i := 15) rfl)) rfl
theorem wf_X6_109 : Cond.fieldLink RX6 109 (zRn 8) (zTb 8 5).2.1 (zTb 8 5).2.2.1 ∈ zGW := z_mem (z_tA (List.mem_of_getElem? (i := 221) rfl)) rfl
theorem wf_X6_110 : Cond.fieldLink RX6 110 (zRn 6) (zTb 6 11).2.1 (zTb 6 11).2.2.1 ∈ zGW := z_mem (z_tB (List.mem_of_getElem? (i := 16) rfl)) rfl
theorem wf_X6_113 : Cond.fieldLink RX6 113 (zRn 8) (zTb 8 6).2.1 (zTb 8 6).2.2.1 ∈ zGW := z_mem (z_tA (List.mem_of_getElem? (i := 222) rfl)) rfl
theorem wf_X6_116 : Cond.fieldLink RX6 116 (zRn 6) (zTb 6 12).2.1 (zTb 6 12).2.2.1 ∈ zGW := z_mem (z_tB (List.mem_of_getElem? (i := 17) rfl)) rfl
theorem wf_X6_119 : Cond.fieldLink RX6 119 (zRn 6) (zTb 6 13).2.1 (zTb 6 13).2.2.1 ∈ zGW := z_mem (z_tB (List.mem_of_getElem? (i := 18) rfl)) rfl
theorem wf_X6_122 : Cond.fieldLink RX6 122 (zRn 6) (zTb 6 14).2.1 (zTb 6 14).2.2.1 ∈ zGW := z_mem (z_tB (List.mem_of_getElem? (i := 19) rfl)) rfl
theorem wf_X6_125 : Cond.fieldLink RX6 125 (zRn 6) (zTb 6 15).2.1 (zTb 6 15).2.2.1 ∈ zGW := z_mem (z_tB (List.mem_of_getElem? (i := 20) rfl)) rfl
theorem wm_X6_128 : zln RX6 128 yX6_hillKey := Or.inl (z_mem (z_tC (List.mem_of_getElem? (i := 18) rfl)) rfl)
theorem wm_X6_132 : zln RX6 132 yX6_centuryKey := Or.inl (z_mem (z_tC (List.mem_of_getElem? (i := 78) rfl)) rfl)
theorem wm_X6_137 : zln RX6 137 yX8_is := Or.inl (z_mem (z_tC (List.mem_of_getElem? (i := 23) rfl)) rfl)
theorem wm_X6_151 : zln RX6 151 yX6_deedOfToken := Or.inl (z_mem (z_tC (List.mem_of_getElem? (i := 82) rfl)) rfl)
theorem wf_X6_154 : Cond.fieldLink RX6 154 (zRn 6) (zTb 6 9).2.1 (zTb 6 9).2.2.1 ∈ zGW := z_mem (z_tB (List.mem_of_getElem? (i := 14) rfl)) rfl
theorem wm_X6_167 : zln RX6 167 yX6_tellWord := Or.inl (z_mem (z_tC (List.mem_of_getElem? (i := 113) rfl)) rfl)
theorem wm_X6_170 : zln RX6 170 yX6_tellFollows := Or.inl (z_mem (z_tC (List.mem_of_getElem? (i := 142) rfl)) rfl)
theorem wm_X6_173 : zln RX6 173 yX6_tellAsks := Or.inl (z_mem (z_tC (List.mem_of_getElem? (i := 152) rfl)) rfl)
theorem wm_X6_176 : zln RX6 176 yX6_tellStones := Or.inl (z_mem (z_tC (List.mem_of_getElem? (i := 156) rfl)) rfl)
theorem wm_X6_179 : zln RX6 179 yX6_tellDeed := Or.inl (z_mem (z_tC (List.mem_of_getElem? (i := 160) rfl)) rfl)
theorem wm_X6_183 : zln RX6 183 yX6_tellLine := Or.inl (z_mem (z_tC (List.mem_of_getElem? (i := 164) rfl)) rfl)
theorem wm_X6_186 : zln RX6 186 yX6_tellFact := Or.inl (z_mem (z_tC (List.mem_of_getElem? (i := 168) rfl)) rfl)
theorem wf_X6_189 : Cond.fieldLink RX6 189 (zRn 3) (zTb 3 1).2.1 (zTb 3 1).2.2.1 ∈ zGW := z_mem (z_tA (List.mem_of_getElem? (i := 55) rfl)) rfl
theorem wm_X6_192 : zln RX6 192 yX6_needRoom := Or.inl (z_mem (z_tC (List.mem_of_getElem? (i := 117) rfl)) rfl)
theorem wm_X6_196 : zln RX6 196 yX6_needRow := Or.inl (z_mem (z_tC (List.mem_of_getElem? (i := 125) rfl)) rfl)
theorem wm_X6_200 : zln RX6 200 yX6_needNumber := Or.inl (z_mem (z_tC (List.mem_of_getElem? (i := 130) rfl)) rfl)
theorem wf_X6_204 : Cond.fieldLink RX6 204 (zRn 3) (zTb 3 4).2.1 (zTb 3 4).2.2.1 ∈ zGW := z_mem (z_tA (List.mem_of_getElem? (i := 62) rfl)) rfl
theorem wm_X6_207 : Cond.methodLink RX6 207 Lib.Math.min.name ∈ zGW := z_mem (z_tC (List.mem_of_getElem? (i := 134) rfl)) rfl
theorem wm_X6_213 : zln RX6 213 yX11_put := Or.inr ⟨_, z_mem (z_tC (List.mem_of_getElem? (i := 137) rfl)) rfl⟩
theorem wf_X6_217 : Cond.fieldLink RX6 217 (zRn 3) (zTb 3 5).2.1 (zTb 3 5).2.2.1 ∈ zGW := z_mem (z_tA (List.mem_of_getElem? (i := 64) rfl)) rfl
theorem wf_X6_220 : Cond.fieldLink RX6 220 (zRn 3) (zTb 3 7).2.1 (zTb 3 7).2.2.1 ∈ zGW := z_mem (z_tA (List.mem_of_getElem? (i := 69) rfl)) rfl
theorem wm_X6_223 : zln RX6 223 yX6_letterAt := Or.inl (z_mem (z_tC (List.mem_of_getElem? (i := 138) rfl)) rfl)
theorem wf_X6_226 : Cond.fieldLink RX6 226 (zRn 3) (zTb 3 2).2.1 (zTb 3 2).2.2.1 ∈ zGW := z_mem (z_tA (List.mem_of_getElem? (i := 58) rfl)) rfl
theorem wf_X6_230 : Cond.fieldLink RX6 230 (zRn 3) (zTb 3 6).2.1 (zTb 3 6).2.2.1 ∈ zGW := z_mem (z_tA (List.mem_of_getElem? (i := 66) rfl)) rfl
theorem wm_X6_232 : zln RX6 232 yX11_got := Or.inr ⟨_, z_mem (z_tC (List.mem_of_getElem? (i := 129) rfl)) rfl⟩
theorem wm_X6_236 : zln RX6 236 yX11_bit := Or.inr ⟨_, z_mem (z_tC (List.mem_of_getElem? (i := 146) rfl)) rfl⟩
theorem wf_X6_239 : Cond.fieldLink RX6 239 (zRn 3) (zTb 3 3).2.1 (zTb 3 3).2.2.1 ∈ zGW := z_mem (z_tA (List.mem_of_getElem? (i := 60) rfl)) rfl
theorem wm_X6_242 : Cond.methodLink RX6 242 Lib.Math.max.name ∈ zGW := z_mem (z_tC (List.mem_of_getElem? (i := 149) rfl)) rfl
theorem wf_X6_245 : Cond.fieldLink RX6 245 (zRn 3) (zTb 3 8).2.1 (zTb 3 8).2.2.1 ∈ zGW := z_mem (z_tA (List.mem_of_getElem? (i := 72) rfl)) rfl
theorem wf_X6_248 : Cond.fieldLink RX6 248 (zRn 3) (zTb 3 0).2.1 (zTb 3 0).2.2.1 ∈ zGW := z_mem (z_tA (List.mem_of_getElem? (i := 51) rfl)) rfl
theorem wf_X6_250 : Cond.fieldLink RX6 250 (zRn 0) (zTb 0 1).2.1 (zTb 0 1).2.2.1 ∈ zGW := z_mem (z_tA (List.mem_of_getElem? (i := 104) rfl)) rfl
theorem wf_X6_253 : Cond.fieldLink RX6 253 (zRn 0) (zTb 0 2).2.1 (zTb 0 2).2.2.1 ∈ zGW := z_mem (z_tA (List.mem_of_getElem? (i := 107) rfl)) rfl
theorem wf_X6_255 : Cond.fieldLink RX6 255 (zRn 0) (zTb 0 3).2.1 (zTb 0 3).2.2.1 ∈ zGW := z_mem (z_tA (List.mem_of_getElem? (i := 110) rfl)) rfl
theorem wf_X6_256 : Cond.fieldLink RX6 256 (zRn 4) (zTb 4 1).2.1 (zTb 4 1).2.2.1 ∈ zGW := z_mem (z_tA (List.mem_of_getElem? (i := 129) rfl)) rfl
theorem wf_X6_257 : Cond.fieldLink RX6 257 (zRn 4) (zTb 4 2).2.1 (zTb 4 2).2.2.1 ∈ zGW := z_mem (z_tA (List.mem_of_getElem? (i := 131) rfl)) rfl
theorem wf_X6_258 : Cond.fieldLink RX6 258 (zRn 5) (zTb 5 1).2.1 (zTb 5 1).2.2.1 ∈ zGW := z_mem (z_tA (List.mem_of_getElem? (i := 149) rfl)) rfl
theorem wf_X6_261 : Cond.fieldLink RX6 261 (zRn 5) (zTb 5 2).2.1 (zTb 5 2).2.2.1 ∈ zGW := z_mem (z_tA (List.mem_of_getElem? (i := 152) rfl)) rfl
theorem wm_X6_264 : zln RX6 264 yX6_note := Or.inl (z_mem (z_tC (List.mem_of_getElem? (i := 121) rfl)) rfl)
theorem wm_X6_268 : zln RX6 268 yX3_hasTwoAlike := Or.inl (z_mem (z_tC (List.mem_of_getElem? (i := 176) rfl)) rfl)
theorem wm_X7_3 : Cond.methodLink RX7 3 Lib.objectInit ∈ zGW := z_mem (z_tB (List.mem_of_getElem? (i := 147) rfl)) rfl
theorem wc_X7_9 : Cond.classLink RX7 9 RX5 ∈ zGW := z_mem (z_tB (List.mem_of_getElem? (i := 148) rfl)) rfl
theorem wm_X7_11 : zln RX7 11 yX5_init := Or.inr ⟨_, z_mem (z_tB (List.mem_of_getElem? (i := 149) rfl)) rfl⟩
theorem wf_X7_12 : Cond.fieldLink RX7 12 (zRn 7) (zTb 7 0).2.1 (zTb 7 0).2.2.1 ∈ zGW := z_mem (z_tB (List.mem_of_getElem? (i := 150) rfl)) rfl
theorem wf_X7_18 : Cond.fieldLink RX7 18 (zRn 7) (zTb 7 3).2.1 (zTb 7 3).2.2.1 ∈ zGW := z_mem (z_tB (List.mem_of_getElem? (i := 153) rfl)) rfl
theorem wf_X7_22 : Cond.fieldLink RX7 22 (zRn 7) (zTb 7 4).2.1 (zTb 7 4).2.2.1 ∈ zGW := z_mem (z_tB (List.mem_of_getElem? (i := 154) rfl)) rfl
theorem wf_X7_25 : Cond.fieldLink RX7 25 (zRn 7) (zTb 7 5).2.1 (zTb 7 5).2.2.1 ∈ zGW := z_mem (z_tB (List.mem_of_getElem? (i := 155) rfl)) rfl
theorem wm_X7_28 : zln RX7 28 yX5_lastPlace := Or.inl (z_mem (z_tE (List.mem_of_getElem? (i := 101) rfl)) rfl)
theorem wf_X7_32 : Cond.fieldLink RX7 32 (zRn 7) (zTb 7 1).2.1 (zTb 7 1).2.2.1 ∈ zGW := z_mem (z_tB (List.mem_of_getElem? (i := 151) rfl)) rfl
theorem wf_X7_36 : Cond.fieldLink RX7 36 (zRn 7) (zTb 7 2).2.1 (zTb 7 2).2.2.1 ∈ zGW := z_mem (z_tB (List.mem_of_getElem? (i := 152) rfl)) rfl
theorem wm_X7_39 : zln RX7 39 yX7_countHits := Or.inl (z_mem (z_tE (List.mem_of_getElem? (i := 106) rfl)) rfl)
theorem wm_X7_43 : zln RX7 43 yX7_keepBest := Or.inl (z_mem (z_tE (List.mem_of_getElem? (i := 127) rfl)) rfl)
theorem wm_X7_46 : zln RX7 46 yX11_got := Or.inr ⟨_, z_mem (z_tE (List.mem_of_getElem? (i := 111) rfl)) rfl⟩
theorem wm_X7_50 : Cond.methodLink RX7 50 Lib.Math.max.name ∈ zGW := z_mem (z_tE (List.mem_of_getElem? (i := 132) rfl)) rfl
theorem wm_X7_56 : zln RX7 56 yJ7_fill_53178 := Or.inl (z_mem (z_tE (List.mem_of_getElem? (i := 110) rfl)) rfl)
theorem wf_X7_62 : Cond.fieldLink RX7 62 (zRn 5) (zTb 5 0).2.1 (zTb 5 0).2.2.1 ∈ zGW := z_mem (z_tA (List.mem_of_getElem? (i := 146) rfl)) rfl
theorem wf_X7_65 : Cond.fieldLink RX7 65 (zRn 5) (zTb 5 2).2.1 (zTb 5 2).2.2.1 ∈ zGW := z_mem (z_tA (List.mem_of_getElem? (i := 151) rfl)) rfl
theorem wf_X7_68 : Cond.fieldLink RX7 68 (zRn 5) (zTb 5 1).2.1 (zTb 5 1).2.2.1 ∈ zGW := z_mem (z_tA (List.mem_of_getElem? (i := 148) rfl)) rfl
theorem wm_X7_71 : zln RX7 71 yX7_lessBy := Or.inl (z_mem (z_tE (List.mem_of_getElem? (i := 112) rfl)) rfl)
theorem wm_X7_74 : Cond.methodLink RX7 74 Lib.Math.min.name ∈ zGW := z_mem (z_tE (List.mem_of_getElem? (i := 125) rfl)) rfl
theorem wm_X7_77 : zln RX7 77 yX11_put := Or.inr ⟨_, z_mem (z_tE (List.mem_of_getElem? (i := 126) rfl)) rfl⟩
theorem wm_X7_81 : zln RX7 81 yX7_wear := Or.inl (z_mem (z_tE (List.mem_of_getElem? (i := 116) rfl)) rfl)
theorem wm_X7_85 : zln RX7 85 yX7_gap := Or.inl (z_mem (z_tE (List.mem_of_getElem? (i := 119) rfl)) rfl)
theorem wm_X7_88 : zln RX7 88 yX7_since := Or.inl (z_mem (z_tE (List.mem_of_getElem? (i := 122) rfl)) rfl)
theorem wm_X7_91 : zln RX7 91 yX11_bit := Or.inr ⟨_, z_mem (z_tE (List.mem_of_getElem? (i := 131) rfl)) rfl⟩
theorem wm_X7_94 : zln RX7 94 yX7_howMany := Or.inl (z_mem (z_tE (List.mem_of_getElem? (i := 137) rfl)) rfl)
theorem wm_X7_97 : zln RX7 97 yX7_missedByAll := Or.inl (z_mem (z_tE (List.mem_of_getElem? (i := 151) rfl)) rfl)
theorem wm_X7_100 : zln RX7 100 yX7_ruleOf := Or.inl (z_mem (z_tE (List.mem_of_getElem? (i := 160) rfl)) rfl)
theorem wm_X7_103 : zln RX7 103 yX7_startsOf := Or.inl (z_mem (z_tE (List.mem_of_getElem? (i := 141) rfl)) rfl)
theorem wm_X7_106 : zln RX7 106 yJ6_bitCount_0f7a4 := Or.inl (z_mem (z_tE (List.mem_of_getElem? (i := 145) rfl)) rfl)
theorem wm_X7_111 : zln RX7 111 yX11_has := Or.inr ⟨_, z_mem (z_tE (List.mem_of_getElem? (i := 155) rfl)) rfl⟩
theorem wm_X7_115 : zln RX7 115 yX7_missedPlaces := Or.inl (z_mem (z_tE (List.mem_of_getElem? (i := 156) rfl)) rfl)
theorem wm_X8_1 : Cond.methodLink RX8 1 Lib.objectInit ∈ zGW := z_mem (z_tA (List.mem_of_getElem? (i := 212) rfl)) rfl
theorem wf_X8_7 : Cond.fieldLink RX8 7 (zRn 8) (zTb 8 0).2.1 (zTb 8 0).2.2.1 ∈ zGW := z_mem (z_tA (List.mem_of_getElem? (i := 213) rfl)) rfl
theorem wf_X8_13 : Cond.fieldLink RX8 13 (zRn 8) (zTb 8 1).2.1 (zTb 8 1).2.2.1 ∈ zGW := z_mem (z_tA (List.mem_of_getElem? (i := 214) rfl)) rfl
theorem wf_X8_17 : Cond.fieldLink RX8 17 (zRn 8) (zTb 8 2).2.1 (zTb 8 2).2.2.1 ∈ zGW := z_mem (z_tA (List.mem_of_getElem? (i := 215) rfl)) rfl
theorem wm_X8_20 : zln RX8 20 yX11_got := Or.inr ⟨_, z_mem (z_tB (List.mem_of_getElem? (i := 236) rfl)) rfl⟩
theorem wm_X8_26 : zln RX8 26 yX8_isBlank := Or.inl (z_mem (z_tB (List.mem_of_getElem? (i := 237) rfl)) rfl)
theorem wf_X8_30 : Cond.fieldLink RX8 30 (zRn 8) (zTb 8 4).2.1 (zTb 8 4).2.2.1 ∈ zGW := z_mem (z_tA (List.mem_of_getElem? (i := 219) rfl)) rfl
theorem wf_X8_33 : Cond.fieldLink RX8 33 (zRn 8) (zTb 8 3).2.1 (zTb 8 3).2.2.1 ∈ zGW := z_mem (z_tA (List.mem_of_getElem? (i := 217) rfl)) rfl
theorem wm_X8_36 : zln RX8 36 yX8_isLetter := Or.inl (z_mem (z_tC (List.mem_of_getElem? (i := 0) rfl)) rfl)
theorem wm_X8_39 : zln RX8 39 yX8_stepOverRow := Or.inl (z_mem (z_tC (List.mem_of_getElem? (i := 3) rfl)) rfl)
theorem wm_X8_42 : zln RX8 42 yX8_isDigit := Or.inl (z_mem (z_tC (List.mem_of_getElem? (i := 7) rfl)) rfl)
theorem wm_X8_45 : zln RX8 45 yX8_stepOverDigits := Or.inl (z_mem (z_tC (List.mem_of_getElem? (i := 10) rfl)) rfl)
theorem wf_X8_48 : Cond.fieldLink RX8 48 (zRn 8) (zTb 8 5).2.1 (zTb 8 5).2.2.1 ∈ zGW := z_mem (z_tA (List.mem_of_getElem? (i := 220) rfl)) rfl
theorem wf_X8_51 : Cond.fieldLink RX8 51 (zRn 8) (zTb 8 6).2.1 (zTb 8 6).2.2.1 ∈ zGW := z_mem (z_tA (List.mem_of_getElem? (i := 223) rfl)) rfl
theorem wm_X9_3 : Cond.methodLink RX9 3 Lib.objectInit ∈ zGW := z_mem (z_tA (List.mem_of_getElem? (i := 35) rfl)) rfl
theorem wf_X9_9 : Cond.fieldLink RX9 9 (zRn 9) (zTb 9 0).2.1 (zTb 9 0).2.2.1 ∈ zGW := z_mem (z_tA (List.mem_of_getElem? (i := 160) rfl)) rfl
theorem wf_X9_15 : Cond.fieldLink RX9 15 (zRn 9) (zTb 9 3).2.1 (zTb 9 3).2.2.1 ∈ zGW := z_mem (z_tA (List.mem_of_getElem? (i := 166) rfl)) rfl
theorem wf_X9_19 : Cond.fieldLink RX9 19 (zRn 9) (zTb 9 4).2.1 (zTb 9 4).2.2.1 ∈ zGW := z_mem (z_tA (List.mem_of_getElem? (i := 168) rfl)) rfl
theorem wc_X9_22 : Cond.classLink RX9 22 RX3 ∈ zGW := z_mem (z_tA (List.mem_of_getElem? (i := 36) rfl)) rfl
theorem wf_X9_24 : Cond.fieldLink RX9 24 (zRn 9) (zTb 9 5).2.1 (zTb 9 5).2.2.1 ∈ zGW := z_mem (z_tA (List.mem_of_getElem? (i := 169) rfl)) rfl
theorem wc_X9_28 : Cond.classLink RX9 28 RX0 ∈ zGW := z_mem (z_tA (List.mem_of_getElem? (i := 38) rfl)) rfl
theorem wf_X9_30 : Cond.fieldLink RX9 30 (zRn 9) (zTb 9 6).2.1 (zTb 9 6).2.2.1 ∈ zGW := z_mem (z_tA (List.mem_of_getElem? (i := 170) rfl)) rfl
theorem wc_X9_34 : Cond.classLink RX9 34 RX4 ∈ zGW := z_mem (z_tA (List.mem_of_getElem? (i := 40) rfl)) rfl
theorem wf_X9_36 : Cond.fieldLink RX9 36 (zRn 9) (zTb 9 7).2.1 (zTb 9 7).2.2.1 ∈ zGW := z_mem (z_tA (List.mem_of_getElem? (i := 171) rfl)) rfl
theorem wc_X9_40 : Cond.classLink RX9 40 RX5 ∈ zGW := z_mem (z_tA (List.mem_of_getElem? (i := 42) rfl)) rfl
theorem wf_X9_42 : Cond.fieldLink RX9 42 (zRn 9) (zTb 9 8).2.1 (zTb 9 8).2.2.1 ∈ zGW := z_mem (z_tA (List.mem_of_getElem? (i := 172) rfl)) rfl
theorem wm_X9_46 : zln RX9 46 yX3_init := Or.inr ⟨_, z_mem (z_tA (List.mem_of_getElem? (i := 45) rfl)) rfl⟩
theorem wm_X9_47 : zln RX9 47 yX0_init := Or.inr ⟨_, z_mem (z_tA (List.mem_of_getElem? (i := 95) rfl)) rfl⟩
theorem wm_X9_48 : zln RX9 48 yX4_init := Or.inr ⟨_, z_mem (z_tA (List.mem_of_getElem? (i := 121) rfl)) rfl⟩
theorem wm_X9_49 : zln RX9 49 yX5_init := Or.inr ⟨_, z_mem (z_tA (List.mem_of_getElem? (i := 140) rfl)) rfl⟩
theorem wm_X9_50 : zln RX9 50 yX11_copyRow := Or.inr ⟨_, z_mem (z_tF (List.mem_of_getElem? (i := 86) rfl)) rfl⟩
theorem wf_X9_54 : Cond.fieldLink RX9 54 (zRn 9) (zTb 9 1).2.1 (zTb 9 1).2.2.1 ∈ zGW := z_mem (z_tA (List.mem_of_getElem? (i := 163) rfl)) rfl
theorem wf_X9_57 : Cond.fieldLink RX9 57 (zRn 9) (zTb 9 2).2.1 (zTb 9 2).2.2.1 ∈ zGW := z_mem (z_tA (List.mem_of_getElem? (i := 164) rfl)) rfl
theorem wm_X9_60 : zln RX9 60 yX3_copy := Or.inl (z_mem (z_tC (List.mem_of_getElem? (i := 199) rfl)) rfl)
theorem wm_X9_64 : zln RX9 64 yX0_copy := Or.inl (z_mem (z_tC (List.mem_of_getElem? (i := 209) rfl)) rfl)
theorem wm_X9_67 : zln RX9 67 yX4_copy := Or.inl (z_mem (z_tC (List.mem_of_getElem? (i := 213) rfl)) rfl)
theorem wm_X9_70 : zln RX9 70 yX5_copy := Or.inl (z_mem (z_tC (List.mem_of_getElem? (i := 217) rfl)) rfl)
theorem wm_X9_73 : zln RX9 73 yX11_put := Or.inr ⟨_, z_mem (z_tB (List.mem_of_getElem? (i := 199) rfl)) rfl⟩
theorem wm_X9_77 : zln RX9 77 yX11_got := Or.inr ⟨_, z_mem (z_tB (List.mem_of_getElem? (i := 214) rfl)) rfl⟩
theorem wm_X9_81 : Cond.methodLink RX9 81 Lib.Math.max.name ∈ zGW := z_mem (z_tC (List.mem_of_getElem? (i := 198) rfl)) rfl
theorem wf_X9_87 : Cond.fieldLink RX9 87 (zRn 6) (zTb 6 0).2.1 (zTb 6 0).2.2.1 ∈ zGW := z_mem (z_tB (List.mem_of_getElem? (i := 0) rfl)) rfl
theorem wf_X9_93 : Cond.fieldLink RX9 93 (zRn 6) (zTb 6 1).2.1 (zTb 6 1).2.2.1 ∈ zGW := z_mem (z_tB (List.mem_of_getElem? (i := 2) rfl)) rfl
theorem wf_X9_97 : Cond.fieldLink RX9 97 (zRn 6) (zTb 6 2).2.1 (zTb 6 2).2.2.1 ∈ zGW := z_mem (z_tB (List.mem_of_getElem? (i := 4) rfl)) rfl
theorem wf_X9_100 : Cond.fieldLink RX9 100 (zRn 6) (zTb 6 3).2.1 (zTb 6 3).2.2.1 ∈ zGW := z_mem (z_tB (List.mem_of_getElem? (i := 6) rfl)) rfl
theorem wm_X9_104 : zln RX9 104 yX9_hasOne := Or.inl (z_mem (z_tC (List.mem_of_getElem? (i := 234) rfl)) rfl)
theorem wm_X10_3 : Cond.methodLink RX10 3 Lib.objectInit ∈ zGW := z_mem (z_tB (List.mem_of_getElem? (i := 128) rfl)) rfl
theorem wf_X10_9 : Cond.fieldLink RX10 9 (zRn 10) (zTb 10 0).2.1 (zTb 10 0).2.2.1 ∈ zGW := z_mem (z_tB (List.mem_of_getElem? (i := 129) rfl)) rfl
theorem wf_X10_15 : Cond.fieldLink RX10 15 (zRn 10) (zTb 10 1).2.1 (zTb 10 1).2.2.1 ∈ zGW := z_mem (z_tB (List.mem_of_getElem? (i := 130) rfl)) rfl
theorem wf_X10_18 : Cond.fieldLink RX10 18 (zRn 10) (zTb 10 2).2.1 (zTb 10 2).2.2.1 ∈ zGW := z_mem (z_tB (List.mem_of_getElem? (i := 131) rfl)) rfl
theorem wf_X10_21 : Cond.fieldLink RX10 21 (zRn 10) (zTb 10 3).2.1 (zTb 10 3).2.2.1 ∈ zGW := z_mem (z_tB (List.mem_of_getElem? (i := 132) rfl)) rfl
theorem wm_X10_24 : zln RX10 24 yJ7_fill_53178 := Or.inl (z_mem (z_tE (List.mem_of_getElem? (i := 24) rfl)) rfl)
theorem wf_X10_30 : Cond.fieldLink RX10 30 (zRn 3) (zTb 3 1).2.1 (zTb 3 1).2.2.1 ∈ zGW := z_mem (z_tA (List.mem_of_getElem? (i := 53) rfl)) rfl
theorem wm_X10_36 : zln RX10 36 yX3_behind := Or.inl (z_mem (z_tE (List.mem_of_getElem? (i := 25) rfl)) rfl)
theorem wm_X10_40 : zln RX10 40 yX10_sumOf := Or.inl (z_mem (z_tE (List.mem_of_getElem? (i := 26) rfl)) rfl)
theorem wm_X10_43 : zln RX10 43 yX11_put := Or.inr ⟨_, z_mem (z_tE (List.mem_of_getElem? (i := 32) rfl)) rfl⟩
theorem wm_X10_47 : zln RX10 47 yX11_copyRow := Or.inr ⟨_, z_mem (z_tE (List.mem_of_getElem? (i := 33) rfl)) rfl⟩
theorem wm_X10_51 : zln RX10 51 yX3_all := Or.inl (z_mem (z_tE (List.mem_of_getElem? (i := 34) rfl)) rfl)
theorem wm_X10_55 : zln RX10 55 yX11_has := Or.inr ⟨_, z_mem (z_tE (List.mem_of_getElem? (i := 30) rfl)) rfl⟩
theorem wm_X10_59 : zln RX10 59 yX11_got := Or.inr ⟨_, z_mem (z_tE (List.mem_of_getElem? (i := 31) rfl)) rfl⟩
theorem wm_X10_63 : zln RX10 63 yX3_isWithin := Or.inl (z_mem (z_tE (List.mem_of_getElem? (i := 43) rfl)) rfl)
theorem wm_X10_66 : zln RX10 66 yX3_sizeOf := Or.inl (z_mem (z_tE (List.mem_of_getElem? (i := 47) rfl)) rfl)
theorem wm_X10_69 : zln RX10 69 yX10_shorten := Or.inl (z_mem (z_tE (List.mem_of_getElem? (i := 48) rfl)) rfl)
theorem wm_X10_73 : zln RX10 73 yX10_endsAt := Or.inl (z_mem (z_tE (List.mem_of_getElem? (i := 56) rfl)) rfl)
theorem wm_X10_77 : zln RX10 77 yX10_pair := Or.inl (z_mem (z_tE (List.mem_of_getElem? (i := 52) rfl)) rfl)
theorem wm_X10_81 : zln RX10 81 yX10_goOn := Or.inl (z_mem (z_tE (List.mem_of_getElem? (i := 60) rfl)) rfl)
theorem wf_X10_85 : Cond.fieldLink RX10 85 (zRn 3) (zTb 3 7).2.1 (zTb 3 7).2.2.1 ∈ zGW := z_mem (z_tA (List.mem_of_getElem? (i := 68) rfl)) rfl
theorem wm_X10_88 : Cond.methodLink RX10 88 Lib.Math.min.name ∈ zGW := z_mem (z_tE (List.mem_of_getElem? (i := 55) rfl)) rfl
theorem wm_X10_94 : zln RX10 94 yX3_changesAt := Or.inl (z_mem (z_tE (List.mem_of_getElem? (i := 64) rfl)) rfl)
theorem wm_X10_98 : zln RX10 98 yX10_headsOf := Or.inl (z_mem (z_tF (List.mem_of_getElem? (i := 32) rfl)) rfl)
theorem wm_X10_102 : zln RX10 102 yJ6_bitCount_0f7a4 := Or.inl (z_mem (z_tF (List.mem_of_getElem? (i := 37) rfl)) rfl)
theorem wm_X10_107 : Cond.methodLink RX10 107 Lib.Math.max.name ∈ zGW := z_mem (z_tF (List.mem_of_getElem? (i := 38) rfl)) rfl
theorem wm_X10_110 : zln RX10 110 yX11_bit := Or.inr ⟨_, z_mem (z_tF (List.mem_of_getElem? (i := 36) rfl)) rfl⟩
theorem wm_X10_113 : zln RX10 113 yX10_headsWithout := Or.inl (z_mem (z_tF (List.mem_of_getElem? (i := 43) rfl)) rfl)
theorem wm_X10_117 : zln RX10 117 yX11_lowest := Or.inr ⟨_, z_mem (z_tF (List.mem_of_getElem? (i := 47) rfl)) rfl⟩
theorem wm_X11_1 : Cond.methodLink RX11 1 Lib.objectInit ∈ zGW := z_mem (z_tA (List.mem_of_getElem? (i := 27) rfl)) rfl
theorem wc_X11_7 : Cond.classLink RX11 7 RX9 ∈ zGW := z_mem (z_tA (List.mem_of_getElem? (i := 30) rfl)) rfl
theorem wm_X11_9 : zln RX11 9 yX9_init := Or.inl (z_mem (z_tA (List.mem_of_getElem? (i := 32) rfl)) rfl)
theorem wf_X11_10 : Cond.fieldLink RX11 10 (zRn 11) (zTb 11 0).2.1 (zTb 11 0).2.2.1 ∈ zGW := z_mem (z_tB (List.mem_of_getElem? (i := 169) rfl)) rfl
theorem wf_X11_16 : Cond.fieldLink RX11 16 (zRn 11) (zTb 11 1).2.1 (zTb 11 1).2.2.1 ∈ zGW := z_mem (z_tB (List.mem_of_getElem? (i := 170) rfl)) rfl
theorem wc_X11_20 : Cond.classLink RX11 20 RX6 ∈ zGW := z_mem (z_tA (List.mem_of_getElem? (i := 193) rfl)) rfl
theorem wm_X11_22 : zln RX11 22 yX6_init := Or.inr ⟨_, z_mem (z_tA (List.mem_of_getElem? (i := 195) rfl)) rfl⟩
theorem wf_X11_23 : Cond.fieldLink RX11 23 (zRn 11) (zTb 11 2).2.1 (zTb 11 2).2.2.1 ∈ zGW := z_mem (z_tB (List.mem_of_getElem? (i := 171) rfl)) rfl
theorem wc_X11_27 : Cond.classLink RX11 27 RX2 ∈ zGW := z_mem (z_tB (List.mem_of_getElem? (i := 54) rfl)) rfl
theorem wm_X11_29 : zln RX11 29 yX2_init := Or.inr ⟨_, z_mem (z_tB (List.mem_of_getElem? (i := 56) rfl)) rfl⟩
theorem wf_X11_30 : Cond.fieldLink RX11 30 (zRn 11) (zTb 11 3).2.1 (zTb 11 3).2.2.1 ∈ zGW := z_mem (z_tB (List.mem_of_getElem? (i := 172) rfl)) rfl
theorem wc_X11_34 : Cond.classLink RX11 34 RX1 ∈ zGW := z_mem (z_tB (List.mem_of_getElem? (i := 98) rfl)) rfl
theorem wm_X11_36 : zln RX11 36 yX1_init := Or.inr ⟨_, z_mem (z_tB (List.mem_of_getElem? (i := 100) rfl)) rfl⟩
theorem wf_X11_37 : Cond.fieldLink RX11 37 (zRn 11) (zTb 11 4).2.1 (zTb 11 4).2.2.1 ∈ zGW := z_mem (z_tB (List.mem_of_getElem? (i := 173) rfl)) rfl
theorem wc_X11_41 : Cond.classLink RX11 41 RX10 ∈ zGW := z_mem (z_tB (List.mem_of_getElem? (i := 123) rfl)) rfl
theorem wm_X11_43 : zln RX11 43 yX10_init := Or.inr ⟨_, z_mem (z_tB (List.mem_of_getElem? (i := 125) rfl)) rfl⟩
theorem wf_X11_44 : Cond.fieldLink RX11 44 (zRn 11) (zTb 11 5).2.1 (zTb 11 5).2.2.1 ∈ zGW := z_mem (z_tB (List.mem_of_getElem? (i := 174) rfl)) rfl
theorem wc_X11_48 : Cond.classLink RX11 48 RX7 ∈ zGW := z_mem (z_tB (List.mem_of_getElem? (i := 142) rfl)) rfl
theorem wm_X11_50 : zln RX11 50 yX7_init := Or.inr ⟨_, z_mem (z_tB (List.mem_of_getElem? (i := 144) rfl)) rfl⟩
theorem wf_X11_51 : Cond.fieldLink RX11 51 (zRn 11) (zTb 11 6).2.1 (zTb 11 6).2.2.1 ∈ zGW := z_mem (z_tB (List.mem_of_getElem? (i := 175) rfl)) rfl
theorem wf_X11_55 : Cond.fieldLink RX11 55 (zRn 9) (zTb 9 1).2.1 (zTb 9 1).2.2.1 ∈ zGW := z_mem (z_tA (List.mem_of_getElem? (i := 162) rfl)) rfl
theorem wm_X11_59 : zln RX11 59 yX9_addBytes := Or.inl (z_mem (z_tB (List.mem_of_getElem? (i := 195) rfl)) rfl)
theorem wf_X11_63 : Cond.fieldLink RX11 63 (zRn 9) (zTb 9 2).2.1 (zTb 9 2).2.2.1 ∈ zGW := z_mem (z_tA (List.mem_of_getElem? (i := 165) rfl)) rfl
theorem wf_X11_66 : Cond.fieldLink RX11 66 (zRn 9) (zTb 9 3).2.1 (zTb 9 3).2.2.1 ∈ zGW := z_mem (z_tA (List.mem_of_getElem? (i := 167) rfl)) rfl
theorem wm_X11_69 : zln RX11 69 yX9_many := Or.inl (z_mem (z_tB (List.mem_of_getElem? (i := 210) rfl)) rfl)
theorem wf_X11_73 : Cond.fieldLink RX11 73 (zRn 9) (zTb 9 0).2.1 (zTb 9 0).2.2.1 ∈ zGW := z_mem (z_tA (List.mem_of_getElem? (i := 161) rfl)) rfl
theorem wm_X11_77 : zln RX11 77 yX6_read := Or.inl (z_mem (z_tB (List.mem_of_getElem? (i := 217) rfl)) rfl)
theorem wf_X11_81 : Cond.fieldLink RX11 81 (zRn 6) (zTb 6 4).2.1 (zTb 6 4).2.2.1 ∈ zGW := z_mem (z_tB (List.mem_of_getElem? (i := 8) rfl)) rfl
theorem wf_X11_82 : Cond.fieldLink RX11 82 (zRn 6) (zTb 6 5).2.1 (zTb 6 5).2.2.1 ∈ zGW := z_mem (z_tB (List.mem_of_getElem? (i := 10) rfl)) rfl
theorem wm_X11_83 : zln RX11 83 yX9_keep := Or.inl (z_mem (z_tC (List.mem_of_getElem? (i := 194) rfl)) rfl)
theorem wm_X11_87 : zln RX11 87 yX9_hillOf := Or.inl (z_mem (z_tC (List.mem_of_getElem? (i := 230) rfl)) rfl)
theorem wm_X11_91 : zln RX11 91 yX3_look := Or.inl (z_mem (z_tC (List.mem_of_getElem? (i := 238) rfl)) rfl)
theorem wm_X11_96 : zln RX11 96 yX9_centuryOf := Or.inl (z_mem (z_tD (List.mem_of_getElem? (i := 26) rfl)) rfl)
theorem wm_X11_100 : zln RX11 100 yX0_look := Or.inl (z_mem (z_tD (List.mem_of_getElem? (i := 30) rfl)) rfl)
theorem wf_X11_105 : Cond.fieldLink RX11 105 (zRn 0) (zTb 0 0).2.1 (zTb 0 0).2.2.1 ∈ zGW := z_mem (z_tA (List.mem_of_getElem? (i := 101) rfl)) rfl
theorem wm_X11_108 : zln RX11 108 yX2_play := Or.inl (z_mem (z_tD (List.mem_of_getElem? (i := 39) rfl)) rfl)
theorem wm_X11_112 : zln RX11 112 yX2_look := Or.inl (z_mem (z_tD (List.mem_of_getElem? (i := 102) rfl)) rfl)
theorem wm_X11_113 : zln RX11 113 yX9_linesOf := Or.inl (z_mem (z_tD (List.mem_of_getElem? (i := 122) rfl)) rfl)
theorem wm_X11_117 : zln RX11 117 yX4_look := Or.inl (z_mem (z_tD (List.mem_of_getElem? (i := 126) rfl)) rfl)
theorem wm_X11_120 : zln RX11 120 yX1_hears := Or.inl (z_mem (z_tD (List.mem_of_getElem? (i := 143) rfl)) rfl)
theorem wm_X11_124 : zln RX11 124 yX1_heard := Or.inl (z_mem (z_tD (List.mem_of_getElem? (i := 151) rfl)) rfl)
theorem wm_X11_128 : zln RX11 128 yX1_likely := Or.inl (z_mem (z_tD (List.mem_of_getElem? (i := 156) rfl)) rfl)
theorem wm_X11_131 : zln RX11 131 yX3_hasWord := Or.inl (z_mem (z_tD (List.mem_of_getElem? (i := 167) rfl)) rfl)
theorem wk_X11_135 : Cond.constantLong RX11 135 (-1) ∈ zGW := z_mem (z_tD (List.mem_of_getElem? (i := 168) rfl)) rfl
theorem wm_X11_137 : zln RX11 137 yX11_has := Or.inl (z_mem (z_tD (List.mem_of_getElem? (i := 169) rfl)) rfl)
theorem wm_X11_141 : zln RX11 141 yX3_oftenOf := Or.inl (z_mem (z_tD (List.mem_of_getElem? (i := 170) rfl)) rfl)
theorem wm_X11_144 : zln RX11 144 yX3_oftenOfAll := Or.inl (z_mem (z_tD (List.mem_of_getElem? (i := 171) rfl)) rfl)
theorem wm_X11_147 : zln RX11 147 yX11_least := Or.inl (z_mem (z_tD (List.mem_of_getElem? (i := 176) rfl)) rfl)
theorem wf_X11_151 : Cond.fieldLink RX11 151 (zRn 1) (zTb 1 1).2.1 (zTb 1 1).2.2.1 ∈ zGW := z_mem (z_tB (List.mem_of_getElem? (i := 108) rfl)) rfl
theorem wm_X11_152 : zln RX11 152 yX3_lettersTillSure := Or.inl (z_mem (z_tD (List.mem_of_getElem? (i := 186) rfl)) rfl)
theorem wm_X11_155 : zln RX11 155 yX1_readings := Or.inl (z_mem (z_tD (List.mem_of_getElem? (i := 199) rfl)) rfl)
theorem wm_X11_158 : zln RX11 158 yX1_wordOfFirstReading := Or.inl (z_mem (z_tD (List.mem_of_getElem? (i := 218) rfl)) rfl)
theorem wm_X11_161 : zln RX11 161 yX1_slipsUpTo := Or.inl (z_mem (z_tD (List.mem_of_getElem? (i := 230) rfl)) rfl)
theorem wf_X11_164 : Cond.fieldLink RX11 164 (zRn 3) (zTb 3 8).2.1 (zTb 3 8).2.2.1 ∈ zGW := z_mem (z_tA (List.mem_of_getElem? (i := 73) rfl)) rfl
theorem wm_X11_167 : zln RX11 167 yX11_got := Or.inl (z_mem (z_tE (List.mem_of_getElem? (i := 5) rfl)) rfl)
theorem wm_X11_171 : zln RX11 171 yX3_soonestAnswered := Or.inl (z_mem (z_tE (List.mem_of_getElem? (i := 10) rfl)) rfl)
theorem wm_X11_174 : zln RX11 174 yX10_rowsOf := Or.inl (z_mem (z_tE (List.mem_of_getElem? (i := 20) rfl)) rfl)
theorem wm_X11_178 : zln RX11 178 yX10_shortestReadTwice := Or.inl (z_mem (z_tE (List.mem_of_getElem? (i := 39) rfl)) rfl)
theorem wm_X11_182 : zln RX11 182 yX11_winningLetter := Or.inl (z_mem (z_tE (List.mem_of_getElem? (i := 69) rfl)) rfl)
theorem wm_X11_186 : zln RX11 186 yX9_logOf := Or.inl (z_mem (z_tE (List.mem_of_getElem? (i := 84) rfl)) rfl)
theorem wm_X11_190 : zln RX11 190 yX5_look := Or.inl (z_mem (z_tE (List.mem_of_getElem? (i := 88) rfl)) rfl)
theorem wm_X11_193 : zln RX11 193 yX7_weigh := Or.inl (z_mem (z_tE (List.mem_of_getElem? (i := 97) rfl)) rfl)
theorem wm_X11_197 : zln RX11 197 yX7_judge := Or.inl (z_mem (z_tE (List.mem_of_getElem? (i := 133) rfl)) rfl)
theorem wk_X11_200 : Cond.constantLong RX11 200 (10) ∈ zGW := z_mem (z_tE (List.mem_of_getElem? (i := 168) rfl)) rfl
theorem wm_X11_202 : zln RX11 202 yX11_waysOfExactly := Or.inl (z_mem (z_tE (List.mem_of_getElem? (i := 169) rfl)) rfl)
theorem wm_X11_206 : zln RX11 206 yX2_draw := Or.inl (z_mem (z_tE (List.mem_of_getElem? (i := 176) rfl)) rfl)
theorem wm_X11_210 : zln RX11 210 yX1_lettersBehind := Or.inl (z_mem (z_tE (List.mem_of_getElem? (i := 191) rfl)) rfl)
theorem wm_X11_213 : zln RX11 213 yX1_keenest := Or.inl (z_mem (z_tE (List.mem_of_getElem? (i := 195) rfl)) rfl)
theorem wm_X11_216 : zln RX11 216 yX1_mended := Or.inl (z_mem (z_tE (List.mem_of_getElem? (i := 204) rfl)) rfl)
theorem wm_X11_219 : zln RX11 219 yX4_hasLine := Or.inl (z_mem (z_tE (List.mem_of_getElem? (i := 217) rfl)) rfl)
theorem wm_X11_222 : zln RX11 222 yX4_longestInBoth := Or.inl (z_mem (z_tE (List.mem_of_getElem? (i := 218) rfl)) rfl)
theorem wm_X11_226 : zln RX11 226 yX1_changesBetween := Or.inl (z_mem (z_tE (List.mem_of_getElem? (i := 231) rfl)) rfl)
theorem wm_X11_229 : zln RX11 229 yX3_sameLettersAtFirst := Or.inl (z_mem (z_tE (List.mem_of_getElem? (i := 235) rfl)) rfl)
theorem wm_X11_232 : zln RX11 232 yX1_closest := Or.inl (z_mem (z_tF (List.mem_of_getElem? (i := 0) rfl)) rfl)
theorem wm_X11_236 : zln RX11 236 yX3_unlikeBeginnings := Or.inl (z_mem (z_tF (List.mem_of_getElem? (i := 5) rfl)) rfl)
theorem wm_X11_239 : zln RX11 239 yX3_all := Or.inl (z_mem (z_tF (List.mem_of_getElem? (i := 9) rfl)) rfl)
theorem wm_X11_242 : zln RX11 242 yX3_wordsWithin := Or.inl (z_mem (z_tF (List.mem_of_getElem? (i := 10) rfl)) rfl)
theorem wm_X11_245 : zln RX11 245 yX3_unsureQuestions := Or.inl (z_mem (z_tF (List.mem_of_getElem? (i := 15) rfl)) rfl)
theorem wm_X11_248 : zln RX11 248 yX3_leadsOf := Or.inl (z_mem (z_tF (List.mem_of_getElem? (i := 20) rfl)) rfl)
theorem wm_X11_251 : zln RX11 251 yX10_longestChain := Or.inl (z_mem (z_tF (List.mem_of_getElem? (i := 28) rfl)) rfl)
theorem wm_X11_254 : zln RX11 254 yX10_wordOfFirstChain := Or.inl (z_mem (z_tF (List.mem_of_getElem? (i := 39) rfl)) rfl)
theorem wm_X11_257 : zln RX11 257 yX2_wordiest := Or.inl (z_mem (z_tF (List.mem_of_getElem? (i := 54) rfl)) rfl)
theorem wf_X11_260 : Cond.fieldLink RX11 260 (zRn 2) (zTb 2 2).2.1 (zTb 2 2).2.2.1 ∈ zGW := z_mem (z_tB (List.mem_of_getElem? (i := 65) rfl)) rfl
theorem wf_X11_263 : Cond.fieldLink RX11 263 (zRn 2) (zTb 2 3).2.1 (zTb 2 3).2.2.1 ∈ zGW := z_mem (z_tB (List.mem_of_getElem? (i := 67) rfl)) rfl
theorem wm_X11_266 : zln RX11 266 yX2_feigned := Or.inl (z_mem (z_tF (List.mem_of_getElem? (i := 58) rfl)) rfl)
theorem wm_X11_269 : zln RX11 269 yX7_years := Or.inl (z_mem (z_tF (List.mem_of_getElem? (i := 66) rfl)) rfl)
theorem wm_X11_273 : zln RX11 273 yX9_copy := Or.inl (z_mem (z_tF (List.mem_of_getElem? (i := 82) rfl)) rfl)
theorem wm_X11_277 : zln RX11 277 yX3_wordGoingOn := Or.inl (z_mem (z_tE (List.mem_of_getElem? (i := 72) rfl)) rfl)
theorem wm_X11_281 : zln RX11 281 yX3_isWhole := Or.inl (z_mem (z_tE (List.mem_of_getElem? (i := 76) rfl)) rfl)
theorem wm_X11_284 : zln RX11 284 yX11_commonDivisor := Or.inl (z_mem (z_tD (List.mem_of_getElem? (i := 179) rfl)) rfl)
theorem wm_X11_288 : Cond.methodLink RX11 288 Lib.Math.min.name ∈ zGW := z_mem (z_tC (List.mem_of_getElem? (i := 205) rfl)) rfl
theorem wm_X11_293 : Cond.methodLink RX11 293 arraycopyName ∈ zGW := z_mem (z_tC (List.mem_of_getElem? (i := 206) rfl)) rfl
theorem wm_X12_1 : Cond.methodLink RX12 1 Lib.objectInit ∈ zGW := z_mem (z_tF (List.mem_of_getElem? (i := 96) rfl)) rfl
theorem wf_X12_7 : Cond.fieldLink RX12 7 (zRn 12) (zTb 12 0).2.1 (zTb 12 0).2.2.1 ∈ zGW := z_mem (z_tF (List.mem_of_getElem? (i := 97) rfl)) rfl
theorem wf_X12_13 : Cond.fieldLink RX12 13 (zRn 12) (zTb 12 1).2.1 (zTb 12 1).2.2.1 ∈ zGW := z_mem (z_tF (List.mem_of_getElem? (i := 98) rfl)) rfl
theorem wf_X12_17 : Cond.fieldLink RX12 17 (zRn 12) (zTb 12 10).2.1 (zTb 12 10).2.2.1 ∈ zGW := z_mem (z_tF (List.mem_of_getElem? (i := 107) rfl)) rfl
theorem wf_X12_20 : Cond.fieldLink RX12 20 (zRn 12) (zTb 12 11).2.1 (zTb 12 11).2.2.1 ∈ zGW := z_mem (z_tF (List.mem_of_getElem? (i := 108) rfl)) rfl
theorem wf_X12_23 : Cond.fieldLink RX12 23 (zRn 12) (zTb 12 18).2.1 (zTb 12 18).2.2.1 ∈ zGW := z_mem (z_tF (List.mem_of_getElem? (i := 115) rfl)) rfl
theorem wf_X12_26 : Cond.fieldLink RX12 26 (zRn 12) (zTb 12 19).2.1 (zTb 12 19).2.2.1 ∈ zGW := z_mem (z_tF (List.mem_of_getElem? (i := 116) rfl)) rfl
theorem wf_X12_29 : Cond.fieldLink RX12 29 (zRn 12) (zTb 12 20).2.1 (zTb 12 20).2.2.1 ∈ zGW := z_mem (z_tF (List.mem_of_getElem? (i := 117) rfl)) rfl
theorem wf_X12_32 : Cond.fieldLink RX12 32 (zRn 12) (zTb 12 21).2.1 (zTb 12 21).2.2.1 ∈ zGW := z_mem (z_tF (List.mem_of_getElem? (i := 118) rfl)) rfl
theorem wf_X12_35 : Cond.fieldLink RX12 35 (zRn 12) (zTb 12 22).2.1 (zTb 12 22).2.2.1 ∈ zGW := z_mem (z_tF (List.mem_of_getElem? (i := 119) rfl)) rfl
theorem wf_X12_38 : Cond.fieldLink RX12 38 (zRn 12) (zTb 12 23).2.1 (zTb 12 23).2.2.1 ∈ zGW := z_mem (z_tF (List.mem_of_getElem? (i := 120) rfl)) rfl
theorem wf_X12_41 : Cond.fieldLink RX12 41 (zRn 12) (zTb 12 24).2.1 (zTb 12 24).2.2.1 ∈ zGW := z_mem (z_tF (List.mem_of_getElem? (i := 121) rfl)) rfl
theorem wf_X12_44 : Cond.fieldLink RX12 44 (zRn 12) (zTb 12 28).2.1 (zTb 12 28).2.2.1 ∈ zGW := z_mem (z_tF (List.mem_of_getElem? (i := 125) rfl)) rfl
theorem wf_X12_47 : Cond.fieldLink RX12 47 (zRn 12) (zTb 12 29).2.1 (zTb 12 29).2.2.1 ∈ zGW := z_mem (z_tF (List.mem_of_getElem? (i := 126) rfl)) rfl
theorem wf_X12_50 : Cond.fieldLink RX12 50 (zRn 12) (zTb 12 30).2.1 (zTb 12 30).2.2.1 ∈ zGW := z_mem (z_tF (List.mem_of_getElem? (i := 127) rfl)) rfl
theorem wf_X12_53 : Cond.fieldLink RX12 53 (zRn 12) (zTb 12 33).2.1 (zTb 12 33).2.2.1 ∈ zGW := z_mem (z_tF (List.mem_of_getElem? (i := 130) rfl)) rfl
theorem wf_X12_56 : Cond.fieldLink RX12 56 (zRn 12) (zTb 12 34).2.1 (zTb 12 34).2.2.1 ∈ zGW := z_mem (z_tF (List.mem_of_getElem? (i := 131) rfl)) rfl
theorem wf_X12_59 : Cond.fieldLink RX12 59 (zRn 12) (zTb 12 35).2.1 (zTb 12 35).2.2.1 ∈ zGW := z_mem (z_tF (List.mem_of_getElem? (i := 132) rfl)) rfl
theorem wf_X12_62 : Cond.fieldLink RX12 62 (zRn 12) (zTb 12 37).2.1 (zTb 12 37).2.2.1 ∈ zGW := z_mem (z_tF (List.mem_of_getElem? (i := 134) rfl)) rfl
theorem wf_X12_65 : Cond.fieldLink RX12 65 (zRn 12) (zTb 12 2).2.1 (zTb 12 2).2.2.1 ∈ zGW := z_mem (z_tF (List.mem_of_getElem? (i := 99) rfl)) rfl
theorem wm_X12_69 : zln RX12 69 yX12_four := Or.inl (z_mem (z_tG (List.mem_of_getElem? (i := 17) rfl)) rfl)
theorem wk_X12_73 : Cond.constantLong RX12 73 (1048576) ∈ zGW := z_mem (z_tG (List.mem_of_getElem? (i := 23) rfl)) rfl
theorem wm_X12_75 : zln RX12 75 yX12_eight := Or.inl (z_mem (z_tG (List.mem_of_getElem? (i := 20) rfl)) rfl)
theorem wf_X12_79 : Cond.fieldLink RX12 79 (zRn 12) (zTb 12 3).2.1 (zTb 12 3).2.2.1 ∈ zGW := z_mem (z_tF (List.mem_of_getElem? (i := 100) rfl)) rfl
theorem wm_X12_82 : zln RX12 82 yX12_byteAt := Or.inl (z_mem (z_tG (List.mem_of_getElem? (i := 5) rfl)) rfl)
theorem wf_X12_86 : Cond.fieldLink RX12 86 (zRn 12) (zTb 12 4).2.1 (zTb 12 4).2.2.1 ∈ zGW := z_mem (z_tF (List.mem_of_getElem? (i := 101) rfl)) rfl
theorem wf_X12_89 : Cond.fieldLink RX12 89 (zRn 12) (zTb 12 5).2.1 (zTb 12 5).2.2.1 ∈ zGW := z_mem (z_tF (List.mem_of_getElem? (i := 102) rfl)) rfl
theorem wm_X12_92 : zln RX12 92 yX12_isLetter := Or.inl (z_mem (z_tG (List.mem_of_getElem? (i := 9) rfl)) rfl)
theorem wk_X12_96 : Cond.constantLong RX12 96 (32) ∈ zGW := z_mem (z_tG (List.mem_of_getElem? (i := 12) rfl)) rfl
theorem wk_X12_98 : Cond.constantLong RX12 98 (96) ∈ zGW := z_mem (z_tG (List.mem_of_getElem? (i := 13) rfl)) rfl
theorem wm_X12_100 : zln RX12 100 yX12_wordOf := Or.inl (z_mem (z_tG (List.mem_of_getElem? (i := 14) rfl)) rfl)
theorem wf_X12_104 : Cond.fieldLink RX12 104 (zRn 12) (zTb 12 7).2.1 (zTb 12 7).2.2.1 ∈ zGW := z_mem (z_tF (List.mem_of_getElem? (i := 104) rfl)) rfl
theorem wm_X12_107 : zln RX12 107 yX12_isDigit := Or.inl (z_mem (z_tG (List.mem_of_getElem? (i := 24) rfl)) rfl)
theorem wf_X12_110 : Cond.fieldLink RX12 110 (zRn 12) (zTb 12 6).2.1 (zTb 12 6).2.2.1 ∈ zGW := z_mem (z_tF (List.mem_of_getElem? (i := 103) rfl)) rfl
theorem wf_X12_113 : Cond.fieldLink RX12 113 (zRn 12) (zTb 12 8).2.1 (zTb 12 8).2.2.1 ∈ zGW := z_mem (z_tF (List.mem_of_getElem? (i := 105) rfl)) rfl
theorem wm_X12_117 : zln RX12 117 yX12_ends := Or.inl (z_mem (z_tG (List.mem_of_getElem? (i := 35) rfl)) rfl)
theorem wm_X12_120 : zln RX12 120 yX12_isIn := Or.inl (z_mem (z_tF (List.mem_of_getElem? (i := 234) rfl)) rfl)
theorem wm_X12_124 : zln RX12 124 yX12_also := Or.inl (z_mem (z_tG (List.mem_of_getElem? (i := 43) rfl)) rfl)
theorem wm_X12_128 : zln RX12 128 yX12_advance := Or.inl (z_mem (z_tG (List.mem_of_getElem? (i := 1) rfl)) rfl)
theorem wf_X12_131 : Cond.fieldLink RX12 131 (zRn 12) (zTb 12 12).2.1 (zTb 12 12).2.2.1 ∈ zGW := z_mem (z_tF (List.mem_of_getElem? (i := 109) rfl)) rfl
theorem wm_X12_134 : zln RX12 134 yX12_numbered := Or.inl (z_mem (z_tG (List.mem_of_getElem? (i := 51) rfl)) rfl)
theorem wf_X12_138 : Cond.fieldLink RX12 138 (zRn 12) (zTb 12 9).2.1 (zTb 12 9).2.2.1 ∈ zGW := z_mem (z_tF (List.mem_of_getElem? (i := 106) rfl)) rfl
theorem wm_X12_141 : zln RX12 141 yX12_rowTold := Or.inl (z_mem (z_tG (List.mem_of_getElem? (i := 47) rfl)) rfl)
theorem wm_X12_145 : zln RX12 145 yX12_wordIn := Or.inl (z_mem (z_tG (List.mem_of_getElem? (i := 31) rfl)) rfl)
theorem wm_X12_148 : zln RX12 148 yX12_wordLine := Or.inl (z_mem (z_tG (List.mem_of_getElem? (i := 39) rfl)) rfl)
theorem wm_X12_151 : zln RX12 151 yX12_wordTold := Or.inl (z_mem (z_tG (List.mem_of_getElem? (i := 55) rfl)) rfl)
theorem wm_X12_155 : zln RX12 155 yX12_endsLine := Or.inl (z_mem (z_tG (List.mem_of_getElem? (i := 59) rfl)) rfl)
theorem wm_X12_158 : zln RX12 158 yX12_isOf := Or.inl (z_mem (z_tF (List.mem_of_getElem? (i := 237) rfl)) rfl)
theorem wm_X12_162 : zln RX12 162 yX12_hillLine := Or.inl (z_mem (z_tG (List.mem_of_getElem? (i := 27) rfl)) rfl)
theorem wm_X12_165 : zln RX12 165 yX12_centuryLine := Or.inl (z_mem (z_tG (List.mem_of_getElem? (i := 63) rfl)) rfl)
theorem wm_X12_168 : zln RX12 168 yX12_linesLine := Or.inl (z_mem (z_tG (List.mem_of_getElem? (i := 67) rfl)) rfl)
theorem wm_X12_171 : zln RX12 171 yX12_logLine := Or.inl (z_mem (z_tG (List.mem_of_getElem? (i := 71) rfl)) rfl)
theorem wm_X12_174 : zln RX12 174 yX12_isTwice := Or.inl (z_mem (z_tG (List.mem_of_getElem? (i := 75) rfl)) rfl)
theorem wm_X12_178 : zln RX12 178 yX12_sizeOf := Or.inl (z_mem (z_tG (List.mem_of_getElem? (i := 79) rfl)) rfl)
theorem wm_X12_181 : zln RX12 181 yX12_placeOf := Or.inl (z_mem (z_tG (List.mem_of_getElem? (i := 82) rfl)) rfl)
theorem wf_X12_184 : Cond.fieldLink RX12 184 (zRn 12) (zTb 12 13).2.1 (zTb 12 13).2.2.1 ∈ zGW := z_mem (z_tF (List.mem_of_getElem? (i := 110) rfl)) rfl
theorem wf_X12_187 : Cond.fieldLink RX12 187 (zRn 12) (zTb 12 14).2.1 (zTb 12 14).2.2.1 ∈ zGW := z_mem (z_tF (List.mem_of_getElem? (i := 111) rfl)) rfl
theorem wf_X12_190 : Cond.fieldLink RX12 190 (zRn 12) (zTb 12 15).2.1 (zTb 12 15).2.2.1 ∈ zGW := z_mem (z_tF (List.mem_of_getElem? (i := 112) rfl)) rfl
theorem wm_X12_193 : zln RX12 193 yX12_everyWord := Or.inl (z_mem (z_tG (List.mem_of_getElem? (i := 117) rfl)) rfl)
theorem wm_X12_196 : zln RX12 196 yX12_isHill := Or.inl (z_mem (z_tG (List.mem_of_getElem? (i := 93) rfl)) rfl)
theorem wm_X12_199 : zln RX12 199 yX12_answersTo := Or.inl (z_mem (z_tG (List.mem_of_getElem? (i := 97) rfl)) rfl)
theorem wm_X12_202 : zln RX12 202 yX12_isWord := Or.inl (z_mem (z_tG (List.mem_of_getElem? (i := 101) rfl)) rfl)
theorem wm_X12_205 : zln RX12 205 yX12_longOf := Or.inl (z_mem (z_tG (List.mem_of_getElem? (i := 105) rfl)) rfl)
theorem wm_X12_208 : zln RX12 208 yX12_oftenOf := Or.inl (z_mem (z_tG (List.mem_of_getElem? (i := 109) rfl)) rfl)
theorem wm_X12_211 : zln RX12 211 yX12_behind := Or.inl (z_mem (z_tG (List.mem_of_getElem? (i := 113) rfl)) rfl)
theorem wm_X12_214 : zln RX12 214 yX12_letterOf := Or.inl (z_mem (z_tG (List.mem_of_getElem? (i := 121) rfl)) rfl)
theorem wf_X12_217 : Cond.fieldLink RX12 217 (zRn 12) (zTb 12 16).2.1 (zTb 12 16).2.2.1 ∈ zGW := z_mem (z_tF (List.mem_of_getElem? (i := 113) rfl)) rfl
theorem wm_X12_220 : zln RX12 220 yX12_isCentury := Or.inl (z_mem (z_tG (List.mem_of_getElem? (i := 129) rfl)) rfl)
theorem wf_X12_223 : Cond.fieldLink RX12 223 (zRn 12) (zTb 12 17).2.1 (zTb 12 17).2.2.1 ∈ zGW := z_mem (z_tF (List.mem_of_getElem? (i := 114) rfl)) rfl
theorem wf_X12_226 : Cond.fieldLink RX12 226 (zRn 12) (zTb 12 25).2.1 (zTb 12 25).2.2.1 ∈ zGW := z_mem (z_tF (List.mem_of_getElem? (i := 122) rfl)) rfl
theorem wm_X12_229 : zln RX12 229 yX12_holds := Or.inl (z_mem (z_tG (List.mem_of_getElem? (i := 153) rfl)) rfl)
theorem wm_X12_232 : zln RX12 232 yX12_begins0 := Or.inl (z_mem (z_tG (List.mem_of_getElem? (i := 168) rfl)) rfl)
theorem wm_X12_235 : zln RX12 235 yX12_puts := Or.inl (z_mem (z_tG (List.mem_of_getElem? (i := 160) rfl)) rfl)
theorem wm_X12_239 : zln RX12 239 yX12_fitting := Or.inl (z_mem (z_tG (List.mem_of_getElem? (i := 164) rfl)) rfl)
theorem wm_X12_242 : zln RX12 242 yX12_isStone := Or.inl (z_mem (z_tG (List.mem_of_getElem? (i := 149) rfl)) rfl)
theorem wm_X12_245 : zln RX12 245 yX12_freezes := Or.inl (z_mem (z_tG (List.mem_of_getElem? (i := 156) rfl)) rfl)
theorem wm_X12_248 : zln RX12 248 yX12_tells := Or.inl (z_mem (z_tG (List.mem_of_getElem? (i := 172) rfl)) rfl)
theorem wm_X12_251 : zln RX12 251 yX12_begins := Or.inl (z_mem (z_tG (List.mem_of_getElem? (i := 141) rfl)) rfl)
theorem wm_X12_254 : zln RX12 254 yX12_does := Or.inl (z_mem (z_tG (List.mem_of_getElem? (i := 145) rfl)) rfl)
theorem wm_X12_257 : zln RX12 257 yX12_runs := Or.inl (z_mem (z_tG (List.mem_of_getElem? (i := 137) rfl)) rfl)
theorem wm_X12_260 : zln RX12 260 yX12_feignedOn := Or.inl (z_mem (z_tG (List.mem_of_getElem? (i := 184) rfl)) rfl)
theorem wm_X12_263 : zln RX12 263 yX12_nowOf := Or.inl (z_mem (z_tG (List.mem_of_getElem? (i := 180) rfl)) rfl)
theorem wf_X12_266 : Cond.fieldLink RX12 266 (zRn 12) (zTb 12 26).2.1 (zTb 12 26).2.2.1 ∈ zGW := z_mem (z_tF (List.mem_of_getElem? (i := 123) rfl)) rfl
theorem wf_X12_269 : Cond.fieldLink RX12 269 (zRn 12) (zTb 12 27).2.1 (zTb 12 27).2.2.1 ∈ zGW := z_mem (z_tF (List.mem_of_getElem? (i := 124) rfl)) rfl
theorem wm_X12_272 : zln RX12 272 yX12_isLine := Or.inl (z_mem (z_tG (List.mem_of_getElem? (i := 196) rfl)) rfl)
theorem wm_X12_275 : zln RX12 275 yX12_inLine := Or.inl (z_mem (z_tG (List.mem_of_getElem? (i := 200) rfl)) rfl)
theorem wm_X12_278 : zln RX12 278 yX12_saidOf := Or.inl (z_mem (z_tG (List.mem_of_getElem? (i := 208) rfl)) rfl)
theorem wm_X12_281 : zln RX12 281 yX12_common := Or.inl (z_mem (z_tG (List.mem_of_getElem? (i := 224) rfl)) rfl)
theorem wk_X12_285 : Cond.constantLong RX12 285 (-1) ∈ zGW := z_mem (z_tG (List.mem_of_getElem? (i := 216) rfl)) rfl
theorem wm_X12_287 : zln RX12 287 yX12_oftenIn := Or.inl (z_mem (z_tG (List.mem_of_getElem? (i := 217) rfl)) rfl)
theorem wm_X12_290 : zln RX12 290 yX12_least := Or.inl (z_mem (z_tG (List.mem_of_getElem? (i := 221) rfl)) rfl)
theorem wm_X12_294 : zln RX12 294 yX12_alikeOf := Or.inl (z_mem (z_tG (List.mem_of_getElem? (i := 235) rfl)) rfl)
theorem wm_X12_297 : zln RX12 297 yX12_sureIn := Or.inl (z_mem (z_tG (List.mem_of_getElem? (i := 231) rfl)) rfl)
theorem wm_X12_300 : zln RX12 300 yX12_unlike := Or.inl (z_mem (z_tH (List.mem_of_getElem? (i := 15) rfl)) rfl)
theorem wm_X12_303 : zln RX12 303 yX12_laysReadings := Or.inl (z_mem (z_tH (List.mem_of_getElem? (i := 11) rfl)) rfl)
theorem wm_X12_306 : zln RX12 306 yX12_mendedOf := Or.inl (z_mem (z_tH (List.mem_of_getElem? (i := 23) rfl)) rfl)
theorem wf_X12_309 : Cond.fieldLink RX12 309 (zRn 12) (zTb 12 31).2.1 (zTb 12 31).2.2.1 ∈ zGW := z_mem (z_tF (List.mem_of_getElem? (i := 128) rfl)) rfl
theorem wf_X12_312 : Cond.fieldLink RX12 312 (zRn 12) (zTb 12 32).2.1 (zTb 12 32).2.2.1 ∈ zGW := z_mem (z_tF (List.mem_of_getElem? (i := 129) rfl)) rfl
theorem wm_X12_315 : zln RX12 315 yX12_takesWord := Or.inl (z_mem (z_tH (List.mem_of_getElem? (i := 31) rfl)) rfl)
theorem wm_X12_319 : zln RX12 319 yX12_changesOf := Or.inl (z_mem (z_tH (List.mem_of_getElem? (i := 35) rfl)) rfl)
theorem wm_X12_322 : zln RX12 322 yX12_apartOf := Or.inl (z_mem (z_tH (List.mem_of_getElem? (i := 47) rfl)) rfl)
theorem wm_X12_325 : zln RX12 325 yX12_isBeginning := Or.inl (z_mem (z_tH (List.mem_of_getElem? (i := 63) rfl)) rfl)
theorem wm_X12_328 : zln RX12 328 yX12_leadsOf := Or.inl (z_mem (z_tH (List.mem_of_getElem? (i := 55) rfl)) rfl)
theorem wm_X12_331 : zln RX12 331 yX12_withinOf := Or.inl (z_mem (z_tH (List.mem_of_getElem? (i := 59) rfl)) rfl)
theorem wm_X12_334 : zln RX12 334 yX12_closestOf := Or.inl (z_mem (z_tH (List.mem_of_getElem? (i := 67) rfl)) rfl)
theorem wm_X12_337 : zln RX12 337 yX12_treeOf := Or.inl (z_mem (z_tH (List.mem_of_getElem? (i := 71) rfl)) rfl)
theorem wm_X12_340 : zln RX12 340 yX12_bestBehind := Or.inl (z_mem (z_tH (List.mem_of_getElem? (i := 79) rfl)) rfl)
theorem wf_X12_343 : Cond.fieldLink RX12 343 (zRn 12) (zTb 12 36).2.1 (zTb 12 36).2.2.1 ∈ zGW := z_mem (z_tF (List.mem_of_getElem? (i := 133) rfl)) rfl
theorem wm_X12_346 : zln RX12 346 yX12_goesOn := Or.inl (z_mem (z_tH (List.mem_of_getElem? (i := 91) rfl)) rfl)
theorem wm_X12_349 : zln RX12 349 yX12_isWhole := Or.inl (z_mem (z_tH (List.mem_of_getElem? (i := 103) rfl)) rfl)
theorem wm_X12_352 : zln RX12 352 yX12_isWon := Or.inl (z_mem (z_tH (List.mem_of_getElem? (i := 99) rfl)) rfl)
theorem wf_X12_355 : Cond.fieldLink RX12 355 (zRn 12) (zTb 12 38).2.1 (zTb 12 38).2.2.1 ∈ zGW := z_mem (z_tF (List.mem_of_getElem? (i := 135) rfl)) rfl
theorem wf_X12_358 : Cond.fieldLink RX12 358 (zRn 12) (zTb 12 39).2.1 (zTb 12 39).2.2.1 ∈ zGW := z_mem (z_tF (List.mem_of_getElem? (i := 136) rfl)) rfl
theorem wm_X12_361 : zln RX12 361 yX12_isLog := Or.inl (z_mem (z_tH (List.mem_of_getElem? (i := 111) rfl)) rfl)
theorem wm_X12_364 : zln RX12 364 yX12_digit := Or.inl (z_mem (z_tH (List.mem_of_getElem? (i := 126) rfl)) rfl)
theorem wm_X12_367 : zln RX12 367 yX12_isSo := Or.inl (z_mem (z_tH (List.mem_of_getElem? (i := 133) rfl)) rfl)
theorem wm_X12_370 : zln RX12 370 yX12_isRule := Or.inl (z_mem (z_tH (List.mem_of_getElem? (i := 123) rfl)) rfl)
theorem wm_X12_373 : zln RX12 373 yX12_notSo := Or.inl (z_mem (z_tH (List.mem_of_getElem? (i := 129) rfl)) rfl)
theorem wm_X12_376 : zln RX12 376 yX12_fewest := Or.inl (z_mem (z_tH (List.mem_of_getElem? (i := 119) rfl)) rfl)
theorem wm_X12_379 : zln RX12 379 yX12_placesNotSo := Or.inl (z_mem (z_tH (List.mem_of_getElem? (i := 137) rfl)) rfl)
theorem wm_X12_382 : zln RX12 382 yX12_bitsOf := Or.inl (z_mem (z_tH (List.mem_of_getElem? (i := 149) rfl)) rfl)
theorem wm_X12_385 : zln RX12 385 yX12_power := Or.inl (z_mem (z_tH (List.mem_of_getElem? (i := 152) rfl)) rfl)
theorem wk_X12_389 : Cond.constantLong RX12 389 (10) ∈ zGW := z_mem (z_tH (List.mem_of_getElem? (i := 155) rfl)) rfl
theorem wf_X12_391 : Cond.fieldLink RX12 391 (zRn 12) (zTb 12 40).2.1 (zTb 12 40).2.2.1 ∈ zGW := z_mem (z_tF (List.mem_of_getElem? (i := 137) rfl)) rfl
theorem wk_X12_394 : Cond.constant RX12 394 (1103515245) ∈ zGW := z_mem (z_tH (List.mem_of_getElem? (i := 172) rfl)) rfl
theorem wm_X12_395 : zln RX12 395 yX12_below := Or.inl (z_mem (z_tH (List.mem_of_getElem? (i := 168) rfl)) rfl)
theorem wm_X12_398 : zln RX12 398 yX12_draws := Or.inl (z_mem (z_tH (List.mem_of_getElem? (i := 164) rfl)) rfl)
theorem wk_J6_265 : Cond.constant RJ6 265 (1431655765) ∈ zGW := z_mem (z_tE (List.mem_of_getElem? (i := 148) rfl)) rfl
theorem wk_J6_266 : Cond.constant RJ6 266 (858993459) ∈ zGW := z_mem (z_tE (List.mem_of_getElem? (i := 149) rfl)) rfl
theorem wk_J6_267 : Cond.constant RJ6 267 (252645135) ∈ zGW := z_mem (z_tE (List.mem_of_getElem? (i := 150) rfl)) rfl
theorem wc_L_7 : Cond.classLink RL 7 RX11 ∈ zGW := z_mem (z_tA (List.mem_of_getElem? (i := 22) rfl)) rfl
theorem wm_L_9 : zln RL 9 yX11_init := Or.inl (z_mem (z_tA (List.mem_of_getElem? (i := 24) rfl)) rfl)
theorem wc_L_10 : Cond.classLink RL 10 RX12 ∈ zGW := z_mem (z_tF (List.mem_of_getElem? (i := 91) rfl)) rfl
theorem wm_L_12 : zln RL 12 yX12_init := Or.inl (z_mem (z_tF (List.mem_of_getElem? (i := 93) rfl)) rfl)
theorem wm_L_13 : zln RL 13 yX11_feed := Or.inl (z_mem (z_tB (List.mem_of_getElem? (i := 191) rfl)) rfl)
theorem wm_L_17 : zln RL 17 yX12_feed := Or.inl (z_mem (z_tF (List.mem_of_getElem? (i := 222) rfl)) rfl)
theorem wm_L_18 : zln RL 18 yX11_end := Or.inl (z_mem (z_tB (List.mem_of_getElem? (i := 202) rfl)) rfl)
theorem wm_L_22 : zln RL 22 yX12_end := Or.inl (z_mem (z_tF (List.mem_of_getElem? (i := 226) rfl)) rfl)
theorem wm_L_23 : zln RL 23 yX11_text := Or.inl (z_mem (z_tB (List.mem_of_getElem? (i := 206) rfl)) rfl)
theorem wm_L_27 : zln RL 27 yX12_text := Or.inl (z_mem (z_tF (List.mem_of_getElem? (i := 230) rfl)) rfl)
theorem wm_L_28 : zln RL 28 yX11_fault := Or.inl (z_mem (z_tC (List.mem_of_getElem? (i := 222) rfl)) rfl)
theorem wm_L_31 : zln RL 31 yX12_fault := Or.inl (z_mem (z_tG (List.mem_of_getElem? (i := 85) rfl)) rfl)
theorem wm_L_32 : zln RL 32 yX11_hill := Or.inl (z_mem (z_tC (List.mem_of_getElem? (i := 226) rfl)) rfl)
theorem wm_L_35 : zln RL 35 yX12_hill := Or.inl (z_mem (z_tG (List.mem_of_getElem? (i := 89) rfl)) rfl)
theorem wm_L_36 : zln RL 36 yX11_deed := Or.inl (z_mem (z_tD (List.mem_of_getElem? (i := 22) rfl)) rfl)
theorem wm_L_40 : zln RL 40 yX12_deed := Or.inl (z_mem (z_tG (List.mem_of_getElem? (i := 125) rfl)) rfl)
theorem wm_L_41 : zln RL 41 yX11_stop := Or.inl (z_mem (z_tD (List.mem_of_getElem? (i := 35) rfl)) rfl)
theorem wm_L_44 : zln RL 44 yX12_stop := Or.inl (z_mem (z_tG (List.mem_of_getElem? (i := 133) rfl)) rfl)
theorem wm_L_45 : zln RL 45 yX11_state := Or.inl (z_mem (z_tD (List.mem_of_getElem? (i := 98) rfl)) rfl)
theorem wm_L_49 : zln RL 49 yX12_state := Or.inl (z_mem (z_tG (List.mem_of_getElem? (i := 176) rfl)) rfl)
theorem wm_L_50 : zln RL 50 yX11_line := Or.inl (z_mem (z_tD (List.mem_of_getElem? (i := 118) rfl)) rfl)
theorem wm_L_53 : zln RL 53 yX12_line := Or.inl (z_mem (z_tG (List.mem_of_getElem? (i := 192) rfl)) rfl)
theorem wm_L_54 : zln RL 54 yX11_said := Or.inl (z_mem (z_tD (List.mem_of_getElem? (i := 139) rfl)) rfl)
theorem wm_L_57 : zln RL 57 yX12_said := Or.inl (z_mem (z_tG (List.mem_of_getElem? (i := 204) rfl)) rfl)
theorem wm_L_58 : zln RL 58 yX11_odds := Or.inl (z_mem (z_tD (List.mem_of_getElem? (i := 163) rfl)) rfl)
theorem wm_L_62 : zln RL 62 yX12_odds := Or.inl (z_mem (z_tG (List.mem_of_getElem? (i := 212) rfl)) rfl)
theorem wm_L_63 : zln RL 63 yX11_sure := Or.inl (z_mem (z_tD (List.mem_of_getElem? (i := 182) rfl)) rfl)
theorem wm_L_67 : zln RL 67 yX12_sure := Or.inl (z_mem (z_tG (List.mem_of_getElem? (i := 227) rfl)) rfl)
theorem wm_L_68 : zln RL 68 yX11_reading := Or.inl (z_mem (z_tD (List.mem_of_getElem? (i := 195) rfl)) rfl)
theorem wm_L_71 : zln RL 71 yX12_reading := Or.inl (z_mem (z_tH (List.mem_of_getElem? (i := 7) rfl)) rfl)
theorem wm_L_72 : zln RL 72 yX11_slips := Or.inl (z_mem (z_tD (List.mem_of_getElem? (i := 226) rfl)) rfl)
theorem wm_L_75 : zln RL 75 yX12_slips := Or.inl (z_mem (z_tH (List.mem_of_getElem? (i := 27) rfl)) rfl)
theorem wm_L_76 : zln RL 76 yX11_asked := Or.inl (z_mem (z_tE (List.mem_of_getElem? (i := 1) rfl)) rfl)
theorem wm_L_80 : zln RL 80 yX12_asked := Or.inl (z_mem (z_tG (List.mem_of_getElem? (i := 239) rfl)) rfl)
theorem wm_L_81 : zln RL 81 yX11_soonest := Or.inl (z_mem (z_tE (List.mem_of_getElem? (i := 6) rfl)) rfl)
theorem wm_L_84 : zln RL 84 yX12_soonest := Or.inl (z_mem (z_tH (List.mem_of_getElem? (i := 3) rfl)) rfl)
theorem wm_L_85 : zln RL 85 yX11_sentences := Or.inl (z_mem (z_tE (List.mem_of_getElem? (i := 16) rfl)) rfl)
theorem wm_L_88 : zln RL 88 yX12_sentences := Or.inl (z_mem (z_tH (List.mem_of_getElem? (i := 83) rfl)) rfl)
theorem wm_L_89 : zln RL 89 yX11_twice := Or.inl (z_mem (z_tE (List.mem_of_getElem? (i := 35) rfl)) rfl)
theorem wm_L_92 : zln RL 92 yX12_twice := Or.inl (z_mem (z_tH (List.mem_of_getElem? (i := 87) rfl)) rfl)
theorem wm_L_93 : zln RL 93 yX11_ghost := Or.inl (z_mem (z_tE (List.mem_of_getElem? (i := 65) rfl)) rfl)
theorem wm_L_97 : zln RL 97 yX12_ghost := Or.inl (z_mem (z_tH (List.mem_of_getElem? (i := 95) rfl)) rfl)
theorem wm_L_98 : zln RL 98 yX11_fact := Or.inl (z_mem (z_tE (List.mem_of_getElem? (i := 80) rfl)) rfl)
theorem wm_L_101 : zln RL 101 yX12_fact := Or.inl (z_mem (z_tH (List.mem_of_getElem? (i := 107) rfl)) rfl)
theorem wm_L_102 : zln RL 102 yX11_forged := Or.inl (z_mem (z_tE (List.mem_of_getElem? (i := 93) rfl)) rfl)
theorem wm_L_105 : zln RL 105 yX12_forged := Or.inl (z_mem (z_tH (List.mem_of_getElem? (i := 115) rfl)) rfl)
theorem wm_L_106 : zln RL 106 yX11_chance := Or.inl (z_mem (z_tE (List.mem_of_getElem? (i := 164) rfl)) rfl)
theorem wm_L_109 : zln RL 109 yX12_chance := Or.inl (z_mem (z_tH (List.mem_of_getElem? (i := 145) rfl)) rfl)
theorem wm_L_110 : zln RL 110 yX11_drawn := Or.inl (z_mem (z_tE (List.mem_of_getElem? (i := 172) rfl)) rfl)
theorem wm_L_113 : zln RL 113 yX12_drawn := Or.inl (z_mem (z_tH (List.mem_of_getElem? (i := 160) rfl)) rfl)
theorem wm_L_114 : zln RL 114 yX11_next := Or.inl (z_mem (z_tE (List.mem_of_getElem? (i := 187) rfl)) rfl)
theorem wm_L_117 : zln RL 117 yX12_next := Or.inl (z_mem (z_tH (List.mem_of_getElem? (i := 19) rfl)) rfl)
theorem wm_L_118 : zln RL 118 yX11_echo := Or.inl (z_mem (z_tE (List.mem_of_getElem? (i := 213) rfl)) rfl)
theorem wm_L_122 : zln RL 122 yX12_echo := Or.inl (z_mem (z_tH (List.mem_of_getElem? (i := 39) rfl)) rfl)
theorem wm_L_123 : zln RL 123 yX11_alike := Or.inl (z_mem (z_tE (List.mem_of_getElem? (i := 227) rfl)) rfl)
theorem wm_L_126 : zln RL 126 yX12_alike := Or.inl (z_mem (z_tH (List.mem_of_getElem? (i := 43) rfl)) rfl)
theorem wm_L_127 : zln RL 127 yX11_tree := Or.inl (z_mem (z_tE (List.mem_of_getElem? (i := 236) rfl)) rfl)
theorem wm_L_130 : zln RL 130 yX12_tree := Or.inl (z_mem (z_tH (List.mem_of_getElem? (i := 51) rfl)) rfl)
theorem wm_L_131 : zln RL 131 yX11_chain := Or.inl (z_mem (z_tF (List.mem_of_getElem? (i := 24) rfl)) rfl)
theorem wm_L_134 : zln RL 134 yX12_chain := Or.inl (z_mem (z_tH (List.mem_of_getElem? (i := 75) rfl)) rfl)
theorem wm_L_135 : zln RL 135 yX11_after := Or.inl (z_mem (z_tF (List.mem_of_getElem? (i := 50) rfl)) rfl)
theorem wm_L_138 : zln RL 138 yX12_after := Or.inl (z_mem (z_tG (List.mem_of_getElem? (i := 188) rfl)) rfl)
theorem wm_L_139 : zln RL 139 yX11_age := Or.inl (z_mem (z_tF (List.mem_of_getElem? (i := 62) rfl)) rfl)
theorem wm_L_142 : zln RL 142 yX12_age := Or.inl (z_mem (z_tH (List.mem_of_getElem? (i := 141) rfl)) rfl)
theorem wm_L_143 : zln RL 143 yX11_waits := Or.inl (z_mem (z_tF (List.mem_of_getElem? (i := 70) rfl)) rfl)
theorem wm_L_146 : zln RL 146 yX12_waits := Or.inl (z_mem (z_tH (List.mem_of_getElem? (i := 156) rfl)) rfl)
theorem wm_L_147 : zln RL 147 yX11_count := Or.inl (z_mem (z_tF (List.mem_of_getElem? (i := 74) rfl)) rfl)
theorem wm_L_150 : zln RL 150 yX12_count := Or.inl (z_mem (z_tH (List.mem_of_getElem? (i := 173) rfl)) rfl)
theorem wm_L_151 : zln RL 151 yX11_image := Or.inl (z_mem (z_tF (List.mem_of_getElem? (i := 78) rfl)) rfl)
theorem wm_L_155 : zln RL 155 yX12_image := Or.inl (z_mem (z_tH (List.mem_of_getElem? (i := 177) rfl)) rfl)
theorem wm_L_156 : zln RL 156 yX11_again := Or.inl (z_mem (z_tF (List.mem_of_getElem? (i := 87) rfl)) rfl)
theorem wm_L_159 : zln RL 159 yX12_again := Or.inl (z_mem (z_tH (List.mem_of_getElem? (i := 181) rfl)) rfl)
theorem wn_11 : Cond.instantiable (zRn 11) (zN 11) ∈ zGW := z_mem (z_tA (List.mem_of_getElem? (i := 23) rfl)) rfl
theorem wn_9 : Cond.instantiable (zRn 9) (zN 9) ∈ zGW := z_mem (z_tA (List.mem_of_getElem? (i := 31) rfl)) rfl
theorem wn_3 : Cond.instantiable (zRn 3) (zN 3) ∈ zGW := z_mem (z_tA (List.mem_of_getElem? (i := 44) rfl)) rfl
theorem wn_0 : Cond.instantiable (zRn 0) (zN 0) ∈ zGW := z_mem (z_tA (List.mem_of_getElem? (i := 94) rfl)) rfl
theorem wn_4 : Cond.instantiable (zRn 4) (zN 4) ∈ zGW := z_mem (z_tA (List.mem_of_getElem? (i := 120) rfl)) rfl
theorem wn_5 : Cond.instantiable (zRn 5) (zN 5) ∈ zGW := z_mem (z_tA (List.mem_of_getElem? (i := 139) rfl)) rfl
theorem wn_6 : Cond.instantiable (zRn 6) (zN 6) ∈ zGW := z_mem (z_tA (List.mem_of_getElem? (i := 194) rfl)) rfl
theorem wn_8 : Cond.instantiable (zRn 8) (zN 8) ∈ zGW := z_mem (z_tA (List.mem_of_getElem? (i := 208) rfl)) rfl
theorem wn_2 : Cond.instantiable (zRn 2) (zN 2) ∈ zGW := z_mem (z_tB (List.mem_of_getElem? (i := 55) rfl)) rfl
theorem wn_1 : Cond.instantiable (zRn 1) (zN 1) ∈ zGW := z_mem (z_tB (List.mem_of_getElem? (i := 99) rfl)) rfl
theorem wn_10 : Cond.instantiable (zRn 10) (zN 10) ∈ zGW := z_mem (z_tB (List.mem_of_getElem? (i := 124) rfl)) rfl
theorem wn_7 : Cond.instantiable (zRn 7) (zN 7) ∈ zGW := z_mem (z_tB (List.mem_of_getElem? (i := 143) rfl)) rfl
theorem wn_12 : Cond.instantiable (zRn 12) (zN 12) ∈ zGW := z_mem (z_tF (List.mem_of_getElem? (i := 92) rfl)) rfl
theorem w_arrI : Cond.arrayClass .int ∈ zGW := z_mem (z_tA (List.mem_of_getElem? (i := 93) rfl)) rfl
theorem w_arrZ : Cond.arrayClass .boolean ∈ zGW := z_mem (z_tF (List.mem_of_getElem? (i := 221) rfl)) rfl
theorem w_objI : Cond.instanceMethod Lib.objectInit ∈ zGW := z_mem (z_tA (List.mem_of_getElem? (i := 28) rfl)) rfl
theorem w_objC : Cond.code Lib.objectInit ⟨#[0xb1]⟩ 1 none ∈ zGW := z_mem (z_tA (List.mem_of_getElem? (i := 29) rfl)) rfl
theorem w_cpN : Cond.native arraycopyName ∈ zGW := z_mem (z_tC (List.mem_of_getElem? (i := 208) rfl)) rfl
theorem w_cpS : Cond.static arraycopyName ∈ zGW := z_mem (z_tC (List.mem_of_getElem? (i := 207) rfl)) rfl
theorem w_mxC : Cond.code Lib.Math.max.name Lib.Math.max.code 2 (some .int) ∈ zGW := z_mem (z_tC (List.mem_of_getElem? (i := 151) rfl)) rfl
theorem w_mnC : Cond.code Lib.Math.min.name Lib.Math.min.code 2 (some .int) ∈ zGW := z_mem (z_tC (List.mem_of_getElem? (i := 136) rfl)) rfl
theorem w_mxS : Cond.static Lib.Math.max.name ∈ zGW := z_mem (z_tC (List.mem_of_getElem? (i := 150) rfl)) rfl
theorem w_mnS : Cond.static Lib.Math.min.name ∈ zGW := z_mem (z_tC (List.mem_of_getElem? (i := 135) rfl)) rfl
theorem w_mI : Cond.initialized "java/lang/Math" ∈ zGW := z_mem (z_tA (List.mem_of_getElem? (i := 19) rfl)) rfl
theorem w_cpI : Cond.initialized "java/lang/System" ∈ zGW := z_mem (z_tA (List.mem_of_getElem? (i := 20) rfl)) rfl
end
