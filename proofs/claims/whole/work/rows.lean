section
-- ===== PART A: goes FIRST, ahead of the names: the tables' words, and 'selects' of the private methods out of them =====
/-- a private method of a class that the tables say can be made, by its rows of tables_1 -/
def lw_okq (q : MethodName × Nat) : Prop := (q.1.cls ≠ "java/lang/invoke/MethodHandle" ∧ q.1.cls ≠ "java/lang/invoke/VarHandle") ∧ Cond.instantiable q.1.cls q.2 ∈ tables_1 ∧ Cond.privateMethod q.1 ∈ tables_1 ∧ Cond.instanceMethod q.1 ∈ tables_1
theorem lw_p0 : lw_okq (⟨"HearDifference$Past", "forget", "()V"⟩, 6) := ⟨⟨by decide +kernel, by decide +kernel⟩, List.mem_of_getElem? (i := 164) (by decide +kernel), List.mem_of_getElem? (i := 371) (by decide +kernel), List.mem_of_getElem? (i := 372) (by decide +kernel)⟩
theorem lw_p1 : lw_okq (⟨"HearDifference", "tellSlip", "(I)Z"⟩, 13) := ⟨⟨by decide +kernel, by decide +kernel⟩, List.mem_of_getElem? (i := 23) (by decide +kernel), List.mem_of_getElem? (i := 386) (by decide +kernel), List.mem_of_getElem? (i := 387) (by decide +kernel)⟩
theorem lw_p2 : lw_okq (⟨"HearDifference$World", "isPerson", "(I)Z"⟩, 16) := ⟨⟨by decide +kernel, by decide +kernel⟩, List.mem_of_getElem? (i := 31) (by decide +kernel), List.mem_of_getElem? (i := 390) (by decide +kernel), List.mem_of_getElem? (i := 391) (by decide +kernel)⟩
theorem lw_p3 : lw_okq (⟨"HearDifference", "tellOfPerson", "(III)Z"⟩, 13) := ⟨⟨by decide +kernel, by decide +kernel⟩, List.mem_of_getElem? (i := 23) (by decide +kernel), List.mem_of_getElem? (i := 394) (by decide +kernel), List.mem_of_getElem? (i := 395) (by decide +kernel)⟩
theorem lw_p4 : lw_okq (⟨"HearDifference", "tellHum", "(II)Z"⟩, 13) := ⟨⟨by decide +kernel, by decide +kernel⟩, List.mem_of_getElem? (i := 23) (by decide +kernel), List.mem_of_getElem? (i := 398) (by decide +kernel), List.mem_of_getElem? (i := 399) (by decide +kernel)⟩
theorem lw_p5 : lw_okq (⟨"HearDifference", "tellSounding", "(II)Z"⟩, 13) := ⟨⟨by decide +kernel, by decide +kernel⟩, List.mem_of_getElem? (i := 23) (by decide +kernel), List.mem_of_getElem? (i := 402) (by decide +kernel), List.mem_of_getElem? (i := 403) (by decide +kernel)⟩
theorem lw_p6 : lw_okq (⟨"HearDifference$World", "hasHum", "(I)Z"⟩, 16) := ⟨⟨by decide +kernel, by decide +kernel⟩, List.mem_of_getElem? (i := 31) (by decide +kernel), List.mem_of_getElem? (i := 406) (by decide +kernel), List.mem_of_getElem? (i := 407) (by decide +kernel)⟩
theorem lw_p7 : lw_okq (⟨"HearDifference", "tellLoud", "(II)Z"⟩, 13) := ⟨⟨by decide +kernel, by decide +kernel⟩, List.mem_of_getElem? (i := 23) (by decide +kernel), List.mem_of_getElem? (i := 411) (by decide +kernel), List.mem_of_getElem? (i := 412) (by decide +kernel)⟩
theorem lw_p8 : lw_okq (⟨"HearDifference", "putBytes", "(I)V"⟩, 13) := ⟨⟨by decide +kernel, by decide +kernel⟩, List.mem_of_getElem? (i := 23) (by decide +kernel), List.mem_of_getElem? (i := 419) (by decide +kernel), List.mem_of_getElem? (i := 420) (by decide +kernel)⟩
theorem lw_p9 : lw_okq (⟨"HearDifference$Reader", "readLaw", "(I)Z"⟩, 15) := ⟨⟨by decide +kernel, by decide +kernel⟩, List.mem_of_getElem? (i := 190) (by decide +kernel), List.mem_of_getElem? (i := 431) (by decide +kernel), List.mem_of_getElem? (i := 432) (by decide +kernel)⟩
theorem lw_p10 : lw_okq (⟨"HearDifference$Law", "empty", "()V"⟩, 5) := ⟨⟨by decide +kernel, by decide +kernel⟩, List.mem_of_getElem? (i := 40) (by decide +kernel), List.mem_of_getElem? (i := 435) (by decide +kernel), List.mem_of_getElem? (i := 436) (by decide +kernel)⟩
theorem lw_p11 : lw_okq (⟨"HearDifference$Reader", "step", "()V"⟩, 15) := ⟨⟨by decide +kernel, by decide +kernel⟩, List.mem_of_getElem? (i := 190) (by decide +kernel), List.mem_of_getElem? (i := 439) (by decide +kernel), List.mem_of_getElem? (i := 440) (by decide +kernel)⟩
theorem lw_p12 : lw_okq (⟨"HearDifference$Reader", "signAt", "(I)I"⟩, 15) := ⟨⟨by decide +kernel, by decide +kernel⟩, List.mem_of_getElem? (i := 190) (by decide +kernel), List.mem_of_getElem? (i := 443) (by decide +kernel), List.mem_of_getElem? (i := 444) (by decide +kernel)⟩
theorem lw_p13 : lw_okq (⟨"HearDifference$Reader", "takeLetters", "()V"⟩, 15) := ⟨⟨by decide +kernel, by decide +kernel⟩, List.mem_of_getElem? (i := 190) (by decide +kernel), List.mem_of_getElem? (i := 453) (by decide +kernel), List.mem_of_getElem? (i := 454) (by decide +kernel)⟩
theorem lw_p14 : lw_okq (⟨"HearDifference$Reader", "isSpelt", "(Ljava/lang/String;)Z"⟩, 15) := ⟨⟨by decide +kernel, by decide +kernel⟩, List.mem_of_getElem? (i := 190) (by decide +kernel), List.mem_of_getElem? (i := 476) (by decide +kernel), List.mem_of_getElem? (i := 477) (by decide +kernel)⟩
theorem lw_p15 : lw_okq (⟨"HearDifference$Reader", "takeDigits", "()V"⟩, 15) := ⟨⟨by decide +kernel, by decide +kernel⟩, List.mem_of_getElem? (i := 190) (by decide +kernel), List.mem_of_getElem? (i := 531) (by decide +kernel), List.mem_of_getElem? (i := 532) (by decide +kernel)⟩
def lw_privs_1 : List (MethodName × Nat) := [(⟨"HearDifference$Past", "forget", "()V"⟩, 6), (⟨"HearDifference", "tellSlip", "(I)Z"⟩, 13), (⟨"HearDifference$World", "isPerson", "(I)Z"⟩, 16), (⟨"HearDifference", "tellOfPerson", "(III)Z"⟩, 13), (⟨"HearDifference", "tellHum", "(II)Z"⟩, 13), (⟨"HearDifference", "tellSounding", "(II)Z"⟩, 13), (⟨"HearDifference$World", "hasHum", "(I)Z"⟩, 16), (⟨"HearDifference", "tellLoud", "(II)Z"⟩, 13), (⟨"HearDifference", "putBytes", "(I)V"⟩, 13), (⟨"HearDifference$Reader", "readLaw", "(I)Z"⟩, 15), (⟨"HearDifference$Law", "empty", "()V"⟩, 5), (⟨"HearDifference$Reader", "step", "()V"⟩, 15), (⟨"HearDifference$Reader", "signAt", "(I)I"⟩, 15), (⟨"HearDifference$Reader", "takeLetters", "()V"⟩, 15), (⟨"HearDifference$Reader", "isSpelt", "(Ljava/lang/String;)Z"⟩, 15), (⟨"HearDifference$Reader", "takeDigits", "()V"⟩, 15)]
theorem lw_r1 : ∀ q ∈ lw_privs_1, lw_okq q := List.forall_mem_cons.mpr ⟨lw_p0, List.forall_mem_cons.mpr ⟨lw_p1, List.forall_mem_cons.mpr ⟨lw_p2, List.forall_mem_cons.mpr ⟨lw_p3, List.forall_mem_cons.mpr ⟨lw_p4, List.forall_mem_cons.mpr ⟨lw_p5, List.forall_mem_cons.mpr ⟨lw_p6, List.forall_mem_cons.mpr ⟨lw_p7, List.forall_mem_cons.mpr ⟨lw_p8, List.forall_mem_cons.mpr ⟨lw_p9, List.forall_mem_cons.mpr ⟨lw_p10, List.forall_mem_cons.mpr ⟨lw_p11, List.forall_mem_cons.mpr ⟨lw_p12, List.forall_mem_cons.mpr ⟨lw_p13, List.forall_mem_cons.mpr ⟨lw_p14, List.forall_mem_cons.mpr ⟨lw_p15, fun _ h => absurd h List.not_mem_nil⟩⟩⟩⟩⟩⟩⟩⟩⟩⟩⟩⟩⟩⟩⟩⟩
theorem lw_p16 : lw_okq (⟨"HearDifference$Reader", "accept", "()Z"⟩, 15) := ⟨⟨by decide +kernel, by decide +kernel⟩, List.mem_of_getElem? (i := 190) (by decide +kernel), List.mem_of_getElem? (i := 598) (by decide +kernel), List.mem_of_getElem? (i := 599) (by decide +kernel)⟩
theorem lw_p17 : lw_okq (⟨"HearDifference$Reader", "acceptLine", "()Z"⟩, 15) := ⟨⟨by decide +kernel, by decide +kernel⟩, List.mem_of_getElem? (i := 190) (by decide +kernel), List.mem_of_getElem? (i := 602) (by decide +kernel), List.mem_of_getElem? (i := 603) (by decide +kernel)⟩
theorem lw_p18 : lw_okq (⟨"HearDifference$Reader", "refuse", "(I)Z"⟩, 15) := ⟨⟨by decide +kernel, by decide +kernel⟩, List.mem_of_getElem? (i := 190) (by decide +kernel), List.mem_of_getElem? (i := 606) (by decide +kernel), List.mem_of_getElem? (i := 607) (by decide +kernel)⟩
theorem lw_p19 : lw_okq (⟨"HearDifference$Reader", "acceptLineTail", "()Z"⟩, 15) := ⟨⟨by decide +kernel, by decide +kernel⟩, List.mem_of_getElem? (i := 190) (by decide +kernel), List.mem_of_getElem? (i := 610) (by decide +kernel), List.mem_of_getElem? (i := 611) (by decide +kernel)⟩
theorem lw_p20 : lw_okq (⟨"HearDifference$Reader", "closeLine", "()Z"⟩, 15) := ⟨⟨by decide +kernel, by decide +kernel⟩, List.mem_of_getElem? (i := 190) (by decide +kernel), List.mem_of_getElem? (i := 614) (by decide +kernel), List.mem_of_getElem? (i := 615) (by decide +kernel)⟩
theorem lw_p21 : lw_okq (⟨"HearDifference$Law", "closeLine", "(Z)V"⟩, 5) := ⟨⟨by decide +kernel, by decide +kernel⟩, List.mem_of_getElem? (i := 40) (by decide +kernel), List.mem_of_getElem? (i := 618) (by decide +kernel), List.mem_of_getElem? (i := 619) (by decide +kernel)⟩
theorem lw_p22 : lw_okq (⟨"HearDifference$Reader", "acceptCondition", "()Z"⟩, 15) := ⟨⟨by decide +kernel, by decide +kernel⟩, List.mem_of_getElem? (i := 190) (by decide +kernel), List.mem_of_getElem? (i := 622) (by decide +kernel), List.mem_of_getElem? (i := 623) (by decide +kernel)⟩
theorem lw_p23 : lw_okq (⟨"HearDifference$Reader", "acceptValue", "()Z"⟩, 15) := ⟨⟨by decide +kernel, by decide +kernel⟩, List.mem_of_getElem? (i := 190) (by decide +kernel), List.mem_of_getElem? (i := 626) (by decide +kernel), List.mem_of_getElem? (i := 627) (by decide +kernel)⟩
theorem lw_p24 : lw_okq (⟨"HearDifference$Law", "add", "(I)V"⟩, 5) := ⟨⟨by decide +kernel, by decide +kernel⟩, List.mem_of_getElem? (i := 40) (by decide +kernel), List.mem_of_getElem? (i := 630) (by decide +kernel), List.mem_of_getElem? (i := 631) (by decide +kernel)⟩
theorem lw_p25 : lw_okq (⟨"HearDifference$Reader", "holdSign", "(II)Z"⟩, 15) := ⟨⟨by decide +kernel, by decide +kernel⟩, List.mem_of_getElem? (i := 190) (by decide +kernel), List.mem_of_getElem? (i := 634) (by decide +kernel), List.mem_of_getElem? (i := 635) (by decide +kernel)⟩
theorem lw_p26 : lw_okq (⟨"HearDifference$Reader", "acceptDivisor", "()Z"⟩, 15) := ⟨⟨by decide +kernel, by decide +kernel⟩, List.mem_of_getElem? (i := 190) (by decide +kernel), List.mem_of_getElem? (i := 638) (by decide +kernel), List.mem_of_getElem? (i := 639) (by decide +kernel)⟩
theorem lw_p27 : lw_okq (⟨"HearDifference$Reader", "acceptValueTail", "()Z"⟩, 15) := ⟨⟨by decide +kernel, by decide +kernel⟩, List.mem_of_getElem? (i := 190) (by decide +kernel), List.mem_of_getElem? (i := 642) (by decide +kernel), List.mem_of_getElem? (i := 643) (by decide +kernel)⟩
theorem lw_p28 : lw_okq (⟨"HearDifference$Reader", "settle", "(I)V"⟩, 15) := ⟨⟨by decide +kernel, by decide +kernel⟩, List.mem_of_getElem? (i := 190) (by decide +kernel), List.mem_of_getElem? (i := 649) (by decide +kernel), List.mem_of_getElem? (i := 650) (by decide +kernel)⟩
theorem lw_p29 : lw_okq (⟨"HearDifference$Reader", "acceptConditionTail", "()Z"⟩, 15) := ⟨⟨by decide +kernel, by decide +kernel⟩, List.mem_of_getElem? (i := 190) (by decide +kernel), List.mem_of_getElem? (i := 653) (by decide +kernel), List.mem_of_getElem? (i := 654) (by decide +kernel)⟩
theorem lw_p30 : lw_okq (⟨"HearDifference$Reader", "closeBracket", "()Z"⟩, 15) := ⟨⟨by decide +kernel, by decide +kernel⟩, List.mem_of_getElem? (i := 190) (by decide +kernel), List.mem_of_getElem? (i := 657) (by decide +kernel), List.mem_of_getElem? (i := 658) (by decide +kernel)⟩
theorem lw_p31 : lw_okq (⟨"HearDifference$Law", "copyFrom", "(LHearDifference$Law;)V"⟩, 5) := ⟨⟨by decide +kernel, by decide +kernel⟩, List.mem_of_getElem? (i := 40) (by decide +kernel), List.mem_of_getElem? (i := 661) (by decide +kernel), List.mem_of_getElem? (i := 662) (by decide +kernel)⟩
def lw_privs_2 : List (MethodName × Nat) := [(⟨"HearDifference$Reader", "accept", "()Z"⟩, 15), (⟨"HearDifference$Reader", "acceptLine", "()Z"⟩, 15), (⟨"HearDifference$Reader", "refuse", "(I)Z"⟩, 15), (⟨"HearDifference$Reader", "acceptLineTail", "()Z"⟩, 15), (⟨"HearDifference$Reader", "closeLine", "()Z"⟩, 15), (⟨"HearDifference$Law", "closeLine", "(Z)V"⟩, 5), (⟨"HearDifference$Reader", "acceptCondition", "()Z"⟩, 15), (⟨"HearDifference$Reader", "acceptValue", "()Z"⟩, 15), (⟨"HearDifference$Law", "add", "(I)V"⟩, 5), (⟨"HearDifference$Reader", "holdSign", "(II)Z"⟩, 15), (⟨"HearDifference$Reader", "acceptDivisor", "()Z"⟩, 15), (⟨"HearDifference$Reader", "acceptValueTail", "()Z"⟩, 15), (⟨"HearDifference$Reader", "settle", "(I)V"⟩, 15), (⟨"HearDifference$Reader", "acceptConditionTail", "()Z"⟩, 15), (⟨"HearDifference$Reader", "closeBracket", "()Z"⟩, 15), (⟨"HearDifference$Law", "copyFrom", "(LHearDifference$Law;)V"⟩, 5)]
theorem lw_r2 : ∀ q ∈ lw_privs_2, lw_okq q := List.forall_mem_cons.mpr ⟨lw_p16, List.forall_mem_cons.mpr ⟨lw_p17, List.forall_mem_cons.mpr ⟨lw_p18, List.forall_mem_cons.mpr ⟨lw_p19, List.forall_mem_cons.mpr ⟨lw_p20, List.forall_mem_cons.mpr ⟨lw_p21, List.forall_mem_cons.mpr ⟨lw_p22, List.forall_mem_cons.mpr ⟨lw_p23, List.forall_mem_cons.mpr ⟨lw_p24, List.forall_mem_cons.mpr ⟨lw_p25, List.forall_mem_cons.mpr ⟨lw_p26, List.forall_mem_cons.mpr ⟨lw_p27, List.forall_mem_cons.mpr ⟨lw_p28, List.forall_mem_cons.mpr ⟨lw_p29, List.forall_mem_cons.mpr ⟨lw_p30, List.forall_mem_cons.mpr ⟨lw_p31, fun _ h => absurd h List.not_mem_nil⟩⟩⟩⟩⟩⟩⟩⟩⟩⟩⟩⟩⟩⟩⟩⟩
theorem lw_p32 : lw_okq (⟨"HearDifference$Past", "keep", "(LHearDifference$World;)V"⟩, 6) := ⟨⟨by decide +kernel, by decide +kernel⟩, List.mem_of_getElem? (i := 164) (by decide +kernel), List.mem_of_getElem? (i := 676) (by decide +kernel), List.mem_of_getElem? (i := 677) (by decide +kernel)⟩
theorem lw_p33 : lw_okq (⟨"HearDifference$Ear", "hearersOf", "(II)I"⟩, 9) := ⟨⟨by decide +kernel, by decide +kernel⟩, List.mem_of_getElem? (i := 248) (by decide +kernel), List.mem_of_getElem? (i := 682) (by decide +kernel), List.mem_of_getElem? (i := 683) (by decide +kernel)⟩
theorem lw_p34 : lw_okq (⟨"HearDifference$Ear", "hearsNow", "(IIII)Z"⟩, 9) := ⟨⟨by decide +kernel, by decide +kernel⟩, List.mem_of_getElem? (i := 248) (by decide +kernel), List.mem_of_getElem? (i := 686) (by decide +kernel), List.mem_of_getElem? (i := 687) (by decide +kernel)⟩
theorem lw_p35 : lw_okq (⟨"HearDifference$Ear", "hearsTones", "(IIIIII)Z"⟩, 9) := ⟨⟨by decide +kernel, by decide +kernel⟩, List.mem_of_getElem? (i := 248) (by decide +kernel), List.mem_of_getElem? (i := 690) (by decide +kernel), List.mem_of_getElem? (i := 691) (by decide +kernel)⟩
theorem lw_p36 : lw_okq (⟨"HearDifference$Ear", "isSo", "(LHearDifference$Law;II)Z"⟩, 9) := ⟨⟨by decide +kernel, by decide +kernel⟩, List.mem_of_getElem? (i := 248) (by decide +kernel), List.mem_of_getElem? (i := 703) (by decide +kernel), List.mem_of_getElem? (i := 704) (by decide +kernel)⟩
theorem lw_p37 : lw_okq (⟨"HearDifference$Ear", "push", "(I)V"⟩, 9) := ⟨⟨by decide +kernel, by decide +kernel⟩, List.mem_of_getElem? (i := 248) (by decide +kernel), List.mem_of_getElem? (i := 707) (by decide +kernel), List.mem_of_getElem? (i := 708) (by decide +kernel)⟩
theorem lw_p38 : lw_okq (⟨"HearDifference$Ear", "valueOf", "(I)I"⟩, 9) := ⟨⟨by decide +kernel, by decide +kernel⟩, List.mem_of_getElem? (i := 248) (by decide +kernel), List.mem_of_getElem? (i := 711) (by decide +kernel), List.mem_of_getElem? (i := 712) (by decide +kernel)⟩
theorem lw_p39 : lw_okq (⟨"HearDifference$Ear", "pop", "()I"⟩, 9) := ⟨⟨by decide +kernel, by decide +kernel⟩, List.mem_of_getElem? (i := 248) (by decide +kernel), List.mem_of_getElem? (i := 718) (by decide +kernel), List.mem_of_getElem? (i := 719) (by decide +kernel)⟩
theorem lw_p40 : lw_okq (⟨"HearDifference$World", "wordOf", "(II)I"⟩, 16) := ⟨⟨by decide +kernel, by decide +kernel⟩, List.mem_of_getElem? (i := 31) (by decide +kernel), List.mem_of_getElem? (i := 727) (by decide +kernel), List.mem_of_getElem? (i := 728) (by decide +kernel)⟩
theorem lw_p41 : lw_okq (⟨"HearDifference$Book", "write", "(IIIII)V"⟩, 2) := ⟨⟨by decide +kernel, by decide +kernel⟩, List.mem_of_getElem? (i := 69) (by decide +kernel), List.mem_of_getElem? (i := 732) (by decide +kernel), List.mem_of_getElem? (i := 733) (by decide +kernel)⟩
theorem lw_p42 : lw_okq (⟨"HearDifference$World", "passHour", "()I"⟩, 16) := ⟨⟨by decide +kernel, by decide +kernel⟩, List.mem_of_getElem? (i := 31) (by decide +kernel), List.mem_of_getElem? (i := 740) (by decide +kernel), List.mem_of_getElem? (i := 741) (by decide +kernel)⟩
theorem lw_p43 : lw_okq (⟨"HearDifference$World", "draw", "(I)I"⟩, 16) := ⟨⟨by decide +kernel, by decide +kernel⟩, List.mem_of_getElem? (i := 31) (by decide +kernel), List.mem_of_getElem? (i := 744) (by decide +kernel), List.mem_of_getElem? (i := 745) (by decide +kernel)⟩
theorem lw_p44 : lw_okq (⟨"HearDifference$Ear", "couplesHeard", "(II)I"⟩, 9) := ⟨⟨by decide +kernel, by decide +kernel⟩, List.mem_of_getElem? (i := 248) (by decide +kernel), List.mem_of_getElem? (i := 756) (by decide +kernel), List.mem_of_getElem? (i := 757) (by decide +kernel)⟩
theorem lw_p45 : lw_okq (⟨"HearDifference$Ear", "wordsHeard", "(II)I"⟩, 9) := ⟨⟨by decide +kernel, by decide +kernel⟩, List.mem_of_getElem? (i := 248) (by decide +kernel), List.mem_of_getElem? (i := 760) (by decide +kernel), List.mem_of_getElem? (i := 761) (by decide +kernel)⟩
theorem lw_p46 : lw_okq (⟨"HearDifference", "areThree", "(III)Z"⟩, 13) := ⟨⟨by decide +kernel, by decide +kernel⟩, List.mem_of_getElem? (i := 23) (by decide +kernel), List.mem_of_getElem? (i := 775) (by decide +kernel), List.mem_of_getElem? (i := 776) (by decide +kernel)⟩
theorem lw_p47 : lw_okq (⟨"HearDifference$Book", "read", "(II)I"⟩, 2) := ⟨⟨by decide +kernel, by decide +kernel⟩, List.mem_of_getElem? (i := 69) (by decide +kernel), List.mem_of_getElem? (i := 788) (by decide +kernel), List.mem_of_getElem? (i := 789) (by decide +kernel)⟩
def lw_privs_3 : List (MethodName × Nat) := [(⟨"HearDifference$Past", "keep", "(LHearDifference$World;)V"⟩, 6), (⟨"HearDifference$Ear", "hearersOf", "(II)I"⟩, 9), (⟨"HearDifference$Ear", "hearsNow", "(IIII)Z"⟩, 9), (⟨"HearDifference$Ear", "hearsTones", "(IIIIII)Z"⟩, 9), (⟨"HearDifference$Ear", "isSo", "(LHearDifference$Law;II)Z"⟩, 9), (⟨"HearDifference$Ear", "push", "(I)V"⟩, 9), (⟨"HearDifference$Ear", "valueOf", "(I)I"⟩, 9), (⟨"HearDifference$Ear", "pop", "()I"⟩, 9), (⟨"HearDifference$World", "wordOf", "(II)I"⟩, 16), (⟨"HearDifference$Book", "write", "(IIIII)V"⟩, 2), (⟨"HearDifference$World", "passHour", "()I"⟩, 16), (⟨"HearDifference$World", "draw", "(I)I"⟩, 16), (⟨"HearDifference$Ear", "couplesHeard", "(II)I"⟩, 9), (⟨"HearDifference$Ear", "wordsHeard", "(II)I"⟩, 9), (⟨"HearDifference", "areThree", "(III)Z"⟩, 13), (⟨"HearDifference$Book", "read", "(II)I"⟩, 2)]
theorem lw_r3 : ∀ q ∈ lw_privs_3, lw_okq q := List.forall_mem_cons.mpr ⟨lw_p32, List.forall_mem_cons.mpr ⟨lw_p33, List.forall_mem_cons.mpr ⟨lw_p34, List.forall_mem_cons.mpr ⟨lw_p35, List.forall_mem_cons.mpr ⟨lw_p36, List.forall_mem_cons.mpr ⟨lw_p37, List.forall_mem_cons.mpr ⟨lw_p38, List.forall_mem_cons.mpr ⟨lw_p39, List.forall_mem_cons.mpr ⟨lw_p40, List.forall_mem_cons.mpr ⟨lw_p41, List.forall_mem_cons.mpr ⟨lw_p42, List.forall_mem_cons.mpr ⟨lw_p43, List.forall_mem_cons.mpr ⟨lw_p44, List.forall_mem_cons.mpr ⟨lw_p45, List.forall_mem_cons.mpr ⟨lw_p46, List.forall_mem_cons.mpr ⟨lw_p47, fun _ h => absurd h List.not_mem_nil⟩⟩⟩⟩⟩⟩⟩⟩⟩⟩⟩⟩⟩⟩⟩⟩
theorem lw_p48 : lw_okq (⟨"HearDifference", "stepsAgree", "(IIII)Z"⟩, 13) := ⟨⟨by decide +kernel, by decide +kernel⟩, List.mem_of_getElem? (i := 23) (by decide +kernel), List.mem_of_getElem? (i := 803) (by decide +kernel), List.mem_of_getElem? (i := 804) (by decide +kernel)⟩
theorem lw_p49 : lw_okq (⟨"HearDifference$World", "toneOf", "(II)I"⟩, 16) := ⟨⟨by decide +kernel, by decide +kernel⟩, List.mem_of_getElem? (i := 31) (by decide +kernel), List.mem_of_getElem? (i := 807) (by decide +kernel), List.mem_of_getElem? (i := 808) (by decide +kernel)⟩
theorem lw_p50 : lw_okq (⟨"HearDifference$Turns", "arrange", "(LHearDifference$World;)I"⟩, 2) := ⟨⟨by decide +kernel, by decide +kernel⟩, List.mem_of_getElem? (i := 282) (by decide +kernel), List.mem_of_getElem? (i := 819) (by decide +kernel), List.mem_of_getElem? (i := 820) (by decide +kernel)⟩
theorem lw_p51 : lw_okq (⟨"HearDifference$Turns", "place", "(IIII)Z"⟩, 2) := ⟨⟨by decide +kernel, by decide +kernel⟩, List.mem_of_getElem? (i := 282) (by decide +kernel), List.mem_of_getElem? (i := 828) (by decide +kernel), List.mem_of_getElem? (i := 829) (by decide +kernel)⟩
theorem lw_p52 : lw_okq (⟨"HearDifference$Turns", "isFree", "(II)Z"⟩, 2) := ⟨⟨by decide +kernel, by decide +kernel⟩, List.mem_of_getElem? (i := 282) (by decide +kernel), List.mem_of_getElem? (i := 832) (by decide +kernel), List.mem_of_getElem? (i := 833) (by decide +kernel)⟩
theorem lw_p53 : lw_okq (⟨"HearDifference$Fitting", "countRows", "(ILHearDifference$World;)I"⟩, 4) := ⟨⟨by decide +kernel, by decide +kernel⟩, List.mem_of_getElem? (i := 296) (by decide +kernel), List.mem_of_getElem? (i := 848) (by decide +kernel), List.mem_of_getElem? (i := 849) (by decide +kernel)⟩
theorem lw_p54 : lw_okq (⟨"HearDifference$Fitting", "extend", "(II)V"⟩, 4) := ⟨⟨by decide +kernel, by decide +kernel⟩, List.mem_of_getElem? (i := 296) (by decide +kernel), List.mem_of_getElem? (i := 853) (by decide +kernel), List.mem_of_getElem? (i := 854) (by decide +kernel)⟩
theorem lw_p55 : lw_okq (⟨"HearDifference$Fitting", "hasWordsFor", "(II)Z"⟩, 4) := ⟨⟨by decide +kernel, by decide +kernel⟩, List.mem_of_getElem? (i := 296) (by decide +kernel), List.mem_of_getElem? (i := 858) (by decide +kernel), List.mem_of_getElem? (i := 859) (by decide +kernel)⟩
theorem lw_p56 : lw_okq (⟨"HearDifference$Fitting", "changeLeft", "(III)V"⟩, 4) := ⟨⟨by decide +kernel, by decide +kernel⟩, List.mem_of_getElem? (i := 296) (by decide +kernel), List.mem_of_getElem? (i := 862) (by decide +kernel), List.mem_of_getElem? (i := 863) (by decide +kernel)⟩
theorem lw_p57 : lw_okq (⟨"HearDifference$World", "toldSet", "()I"⟩, 16) := ⟨⟨by decide +kernel, by decide +kernel⟩, List.mem_of_getElem? (i := 31) (by decide +kernel), List.mem_of_getElem? (i := 870) (by decide +kernel), List.mem_of_getElem? (i := 871) (by decide +kernel)⟩
theorem lw_p58 : lw_okq (⟨"HearDifference$Cover", "leastSize", "(I)I"⟩, 1) := ⟨⟨by decide +kernel, by decide +kernel⟩, List.mem_of_getElem? (i := 316) (by decide +kernel), List.mem_of_getElem? (i := 874) (by decide +kernel), List.mem_of_getElem? (i := 875) (by decide +kernel)⟩
theorem lw_p59 : lw_okq (⟨"HearDifference$Cover", "extend", "(IIII)Z"⟩, 1) := ⟨⟨by decide +kernel, by decide +kernel⟩, List.mem_of_getElem? (i := 316) (by decide +kernel), List.mem_of_getElem? (i := 879) (by decide +kernel), List.mem_of_getElem? (i := 880) (by decide +kernel)⟩
theorem lw_p60 : lw_okq (⟨"HearDifference$Ear", "onlyOneHears", "(IIIII)Z"⟩, 9) := ⟨⟨by decide +kernel, by decide +kernel⟩, List.mem_of_getElem? (i := 248) (by decide +kernel), List.mem_of_getElem? (i := 894) (by decide +kernel), List.mem_of_getElem? (i := 895) (by decide +kernel)⟩
theorem lw_p61 : lw_okq (⟨"HearDifference$World", "wordsSayable", "()I"⟩, 16) := ⟨⟨by decide +kernel, by decide +kernel⟩, List.mem_of_getElem? (i := 31) (by decide +kernel), List.mem_of_getElem? (i := 902) (by decide +kernel), List.mem_of_getElem? (i := 903) (by decide +kernel)⟩
theorem lw_p62 : lw_okq (⟨"HearDifference$Past", "goBack", "(LHearDifference$World;)Z"⟩, 6) := ⟨⟨by decide +kernel, by decide +kernel⟩, List.mem_of_getElem? (i := 164) (by decide +kernel), List.mem_of_getElem? (i := 916) (by decide +kernel), List.mem_of_getElem? (i := 917) (by decide +kernel)⟩
theorem lw_p63 : lw_okq (⟨"HearDifference$World", "copyFrom", "(LHearDifference$World;)V"⟩, 16) := ⟨⟨by decide +kernel, by decide +kernel⟩, List.mem_of_getElem? (i := 31) (by decide +kernel), List.mem_of_getElem? (i := 924) (by decide +kernel), List.mem_of_getElem? (i := 925) (by decide +kernel)⟩
def lw_privs_4 : List (MethodName × Nat) := [(⟨"HearDifference", "stepsAgree", "(IIII)Z"⟩, 13), (⟨"HearDifference$World", "toneOf", "(II)I"⟩, 16), (⟨"HearDifference$Turns", "arrange", "(LHearDifference$World;)I"⟩, 2), (⟨"HearDifference$Turns", "place", "(IIII)Z"⟩, 2), (⟨"HearDifference$Turns", "isFree", "(II)Z"⟩, 2), (⟨"HearDifference$Fitting", "countRows", "(ILHearDifference$World;)I"⟩, 4), (⟨"HearDifference$Fitting", "extend", "(II)V"⟩, 4), (⟨"HearDifference$Fitting", "hasWordsFor", "(II)Z"⟩, 4), (⟨"HearDifference$Fitting", "changeLeft", "(III)V"⟩, 4), (⟨"HearDifference$World", "toldSet", "()I"⟩, 16), (⟨"HearDifference$Cover", "leastSize", "(I)I"⟩, 1), (⟨"HearDifference$Cover", "extend", "(IIII)Z"⟩, 1), (⟨"HearDifference$Ear", "onlyOneHears", "(IIIII)Z"⟩, 9), (⟨"HearDifference$World", "wordsSayable", "()I"⟩, 16), (⟨"HearDifference$Past", "goBack", "(LHearDifference$World;)Z"⟩, 6), (⟨"HearDifference$World", "copyFrom", "(LHearDifference$World;)V"⟩, 16)]
theorem lw_r4 : ∀ q ∈ lw_privs_4, lw_okq q := List.forall_mem_cons.mpr ⟨lw_p48, List.forall_mem_cons.mpr ⟨lw_p49, List.forall_mem_cons.mpr ⟨lw_p50, List.forall_mem_cons.mpr ⟨lw_p51, List.forall_mem_cons.mpr ⟨lw_p52, List.forall_mem_cons.mpr ⟨lw_p53, List.forall_mem_cons.mpr ⟨lw_p54, List.forall_mem_cons.mpr ⟨lw_p55, List.forall_mem_cons.mpr ⟨lw_p56, List.forall_mem_cons.mpr ⟨lw_p57, List.forall_mem_cons.mpr ⟨lw_p58, List.forall_mem_cons.mpr ⟨lw_p59, List.forall_mem_cons.mpr ⟨lw_p60, List.forall_mem_cons.mpr ⟨lw_p61, List.forall_mem_cons.mpr ⟨lw_p62, List.forall_mem_cons.mpr ⟨lw_p63, fun _ h => absurd h List.not_mem_nil⟩⟩⟩⟩⟩⟩⟩⟩⟩⟩⟩⟩⟩⟩⟩⟩
theorem lw_p64 : lw_okq (⟨"HearDifference$Book", "copyFrom", "(LHearDifference$Book;)V"⟩, 2) := ⟨⟨by decide +kernel, by decide +kernel⟩, List.mem_of_getElem? (i := 69) (by decide +kernel), List.mem_of_getElem? (i := 930) (by decide +kernel), List.mem_of_getElem? (i := 931) (by decide +kernel)⟩
theorem lw_p65 : lw_okq (⟨"HearDifferenceModel", "isIn", "(III)Z"⟩, 48) := ⟨⟨by decide +kernel, by decide +kernel⟩, List.mem_of_getElem? (i := 939) (by decide +kernel), List.mem_of_getElem? (i := 1103) (by decide +kernel), List.mem_of_getElem? (i := 1104) (by decide +kernel)⟩
theorem lw_p66 : lw_okq (⟨"HearDifferenceModel", "canSet", "(III)Z"⟩, 48) := ⟨⟨by decide +kernel, by decide +kernel⟩, List.mem_of_getElem? (i := 939) (by decide +kernel), List.mem_of_getElem? (i := 1111) (by decide +kernel), List.mem_of_getElem? (i := 1112) (by decide +kernel)⟩
theorem lw_p67 : lw_okq (⟨"HearDifferenceModel", "isPerson", "(I)Z"⟩, 48) := ⟨⟨by decide +kernel, by decide +kernel⟩, List.mem_of_getElem? (i := 939) (by decide +kernel), List.mem_of_getElem? (i := 1115) (by decide +kernel), List.mem_of_getElem? (i := 1116) (by decide +kernel)⟩
theorem lw_p68 : lw_okq (⟨"HearDifferenceModel", "humOf", "(I)I"⟩, 48) := ⟨⟨by decide +kernel, by decide +kernel⟩, List.mem_of_getElem? (i := 939) (by decide +kernel), List.mem_of_getElem? (i := 1119) (by decide +kernel), List.mem_of_getElem? (i := 1120) (by decide +kernel)⟩
theorem lw_p69 : lw_okq (⟨"HearDifferenceModel", "types", "(I)V"⟩, 48) := ⟨⟨by decide +kernel, by decide +kernel⟩, List.mem_of_getElem? (i := 939) (by decide +kernel), List.mem_of_getElem? (i := 1127) (by decide +kernel), List.mem_of_getElem? (i := 1128) (by decide +kernel)⟩
theorem lw_p70 : lw_okq (⟨"HearDifferenceModel", "reads", "()V"⟩, 48) := ⟨⟨by decide +kernel, by decide +kernel⟩, List.mem_of_getElem? (i := 939) (by decide +kernel), List.mem_of_getElem? (i := 1139) (by decide +kernel), List.mem_of_getElem? (i := 1140) (by decide +kernel)⟩
theorem lw_p71 : lw_okq (⟨"HearDifferenceModel", "raw", "(I)I"⟩, 48) := ⟨⟨by decide +kernel, by decide +kernel⟩, List.mem_of_getElem? (i := 939) (by decide +kernel), List.mem_of_getElem? (i := 1143) (by decide +kernel), List.mem_of_getElem? (i := 1144) (by decide +kernel)⟩
theorem lw_p72 : lw_okq (⟨"HearDifferenceModel", "isLetter", "(I)Z"⟩, 48) := ⟨⟨by decide +kernel, by decide +kernel⟩, List.mem_of_getElem? (i := 939) (by decide +kernel), List.mem_of_getElem? (i := 1147) (by decide +kernel), List.mem_of_getElem? (i := 1148) (by decide +kernel)⟩
theorem lw_p73 : lw_okq (⟨"HearDifferenceModel", "wordAt", "(II)I"⟩, 48) := ⟨⟨by decide +kernel, by decide +kernel⟩, List.mem_of_getElem? (i := 939) (by decide +kernel), List.mem_of_getElem? (i := 1151) (by decide +kernel), List.mem_of_getElem? (i := 1152) (by decide +kernel)⟩
theorem lw_p74 : lw_okq (⟨"HearDifferenceModel", "isDigit", "(I)Z"⟩, 48) := ⟨⟨by decide +kernel, by decide +kernel⟩, List.mem_of_getElem? (i := 939) (by decide +kernel), List.mem_of_getElem? (i := 1155) (by decide +kernel), List.mem_of_getElem? (i := 1156) (by decide +kernel)⟩
theorem lw_p75 : lw_okq (⟨"HearDifferenceModel", "isMarkSign", "(I)Z"⟩, 48) := ⟨⟨by decide +kernel, by decide +kernel⟩, List.mem_of_getElem? (i := 939) (by decide +kernel), List.mem_of_getElem? (i := 1159) (by decide +kernel), List.mem_of_getElem? (i := 1160) (by decide +kernel)⟩
theorem lw_p76 : lw_okq (⟨"HearDifferenceModel", "readText", "()I"⟩, 48) := ⟨⟨by decide +kernel, by decide +kernel⟩, List.mem_of_getElem? (i := 939) (by decide +kernel), List.mem_of_getElem? (i := 1163) (by decide +kernel), List.mem_of_getElem? (i := 1164) (by decide +kernel)⟩
theorem lw_p77 : lw_okq (⟨"HearDifferenceModel", "errs", "(I)I"⟩, 48) := ⟨⟨by decide +kernel, by decide +kernel⟩, List.mem_of_getElem? (i := 939) (by decide +kernel), List.mem_of_getElem? (i := 1167) (by decide +kernel), List.mem_of_getElem? (i := 1168) (by decide +kernel)⟩
theorem lw_p78 : lw_okq (⟨"HearDifferenceModel", "isWord", "(I)Z"⟩, 48) := ⟨⟨by decide +kernel, by decide +kernel⟩, List.mem_of_getElem? (i := 939) (by decide +kernel), List.mem_of_getElem? (i := 1171) (by decide +kernel), List.mem_of_getElem? (i := 1172) (by decide +kernel)⟩
theorem lw_p79 : lw_okq (⟨"HearDifferenceModel", "readAny", "()I"⟩, 48) := ⟨⟨by decide +kernel, by decide +kernel⟩, List.mem_of_getElem? (i := 939) (by decide +kernel), List.mem_of_getElem? (i := 1175) (by decide +kernel), List.mem_of_getElem? (i := 1176) (by decide +kernel)⟩
def lw_privs_5 : List (MethodName × Nat) := [(⟨"HearDifference$Book", "copyFrom", "(LHearDifference$Book;)V"⟩, 2), (⟨"HearDifferenceModel", "isIn", "(III)Z"⟩, 48), (⟨"HearDifferenceModel", "canSet", "(III)Z"⟩, 48), (⟨"HearDifferenceModel", "isPerson", "(I)Z"⟩, 48), (⟨"HearDifferenceModel", "humOf", "(I)I"⟩, 48), (⟨"HearDifferenceModel", "types", "(I)V"⟩, 48), (⟨"HearDifferenceModel", "reads", "()V"⟩, 48), (⟨"HearDifferenceModel", "raw", "(I)I"⟩, 48), (⟨"HearDifferenceModel", "isLetter", "(I)Z"⟩, 48), (⟨"HearDifferenceModel", "wordAt", "(II)I"⟩, 48), (⟨"HearDifferenceModel", "isDigit", "(I)Z"⟩, 48), (⟨"HearDifferenceModel", "isMarkSign", "(I)Z"⟩, 48), (⟨"HearDifferenceModel", "readText", "()I"⟩, 48), (⟨"HearDifferenceModel", "errs", "(I)I"⟩, 48), (⟨"HearDifferenceModel", "isWord", "(I)Z"⟩, 48), (⟨"HearDifferenceModel", "readAny", "()I"⟩, 48)]
theorem lw_r5 : ∀ q ∈ lw_privs_5, lw_okq q := List.forall_mem_cons.mpr ⟨lw_p64, List.forall_mem_cons.mpr ⟨lw_p65, List.forall_mem_cons.mpr ⟨lw_p66, List.forall_mem_cons.mpr ⟨lw_p67, List.forall_mem_cons.mpr ⟨lw_p68, List.forall_mem_cons.mpr ⟨lw_p69, List.forall_mem_cons.mpr ⟨lw_p70, List.forall_mem_cons.mpr ⟨lw_p71, List.forall_mem_cons.mpr ⟨lw_p72, List.forall_mem_cons.mpr ⟨lw_p73, List.forall_mem_cons.mpr ⟨lw_p74, List.forall_mem_cons.mpr ⟨lw_p75, List.forall_mem_cons.mpr ⟨lw_p76, List.forall_mem_cons.mpr ⟨lw_p77, List.forall_mem_cons.mpr ⟨lw_p78, List.forall_mem_cons.mpr ⟨lw_p79, fun _ h => absurd h List.not_mem_nil⟩⟩⟩⟩⟩⟩⟩⟩⟩⟩⟩⟩⟩⟩⟩⟩
theorem lw_p80 : lw_okq (⟨"HearDifferenceModel", "isSign", "(I)Z"⟩, 48) := ⟨⟨by decide +kernel, by decide +kernel⟩, List.mem_of_getElem? (i := 939) (by decide +kernel), List.mem_of_getElem? (i := 1179) (by decide +kernel), List.mem_of_getElem? (i := 1180) (by decide +kernel)⟩
theorem lw_p81 : lw_okq (⟨"HearDifferenceModel", "waits", "(I)V"⟩, 48) := ⟨⟨by decide +kernel, by decide +kernel⟩, List.mem_of_getElem? (i := 939) (by decide +kernel), List.mem_of_getElem? (i := 1183) (by decide +kernel), List.mem_of_getElem? (i := 1184) (by decide +kernel)⟩
theorem lw_p82 : lw_okq (⟨"HearDifferenceModel", "readCompared", "()I"⟩, 48) := ⟨⟨by decide +kernel, by decide +kernel⟩, List.mem_of_getElem? (i := 939) (by decide +kernel), List.mem_of_getElem? (i := 1187) (by decide +kernel), List.mem_of_getElem? (i := 1188) (by decide +kernel)⟩
theorem lw_p83 : lw_okq (⟨"HearDifferenceModel", "readSum", "()I"⟩, 48) := ⟨⟨by decide +kernel, by decide +kernel⟩, List.mem_of_getElem? (i := 939) (by decide +kernel), List.mem_of_getElem? (i := 1191) (by decide +kernel), List.mem_of_getElem? (i := 1192) (by decide +kernel)⟩
theorem lw_p84 : lw_okq (⟨"HearDifferenceModel", "readProduct", "()I"⟩, 48) := ⟨⟨by decide +kernel, by decide +kernel⟩, List.mem_of_getElem? (i := 939) (by decide +kernel), List.mem_of_getElem? (i := 1195) (by decide +kernel), List.mem_of_getElem? (i := 1196) (by decide +kernel)⟩
theorem lw_p85 : lw_okq (⟨"HearDifferenceModel", "readUnit", "()I"⟩, 48) := ⟨⟨by decide +kernel, by decide +kernel⟩, List.mem_of_getElem? (i := 939) (by decide +kernel), List.mem_of_getElem? (i := 1199) (by decide +kernel), List.mem_of_getElem? (i := 1200) (by decide +kernel)⟩
theorem lw_p86 : lw_okq (⟨"HearDifferenceModel", "emits", "(II)V"⟩, 48) := ⟨⟨by decide +kernel, by decide +kernel⟩, List.mem_of_getElem? (i := 939) (by decide +kernel), List.mem_of_getElem? (i := 1203) (by decide +kernel), List.mem_of_getElem? (i := 1204) (by decide +kernel)⟩
theorem lw_p87 : lw_okq (⟨"HearDifferenceModel", "settles", "(I)V"⟩, 48) := ⟨⟨by decide +kernel, by decide +kernel⟩, List.mem_of_getElem? (i := 939) (by decide +kernel), List.mem_of_getElem? (i := 1207) (by decide +kernel), List.mem_of_getElem? (i := 1208) (by decide +kernel)⟩
theorem lw_p88 : lw_okq (⟨"HearDifferenceModel", "areThree", "(III)Z"⟩, 48) := ⟨⟨by decide +kernel, by decide +kernel⟩, List.mem_of_getElem? (i := 939) (by decide +kernel), List.mem_of_getElem? (i := 1219) (by decide +kernel), List.mem_of_getElem? (i := 1220) (by decide +kernel)⟩
theorem lw_p89 : lw_okq (⟨"HearDifferenceModel", "hearsNow", "(IIII)Z"⟩, 48) := ⟨⟨by decide +kernel, by decide +kernel⟩, List.mem_of_getElem? (i := 939) (by decide +kernel), List.mem_of_getElem? (i := 1223) (by decide +kernel), List.mem_of_getElem? (i := 1224) (by decide +kernel)⟩
theorem lw_p90 : lw_okq (⟨"HearDifferenceModel", "doesHear", "(IIIIII)Z"⟩, 48) := ⟨⟨by decide +kernel, by decide +kernel⟩, List.mem_of_getElem? (i := 939) (by decide +kernel), List.mem_of_getElem? (i := 1227) (by decide +kernel), List.mem_of_getElem? (i := 1228) (by decide +kernel)⟩
theorem lw_p91 : lw_okq (⟨"HearDifferenceModel", "without", "(I)I"⟩, 48) := ⟨⟨by decide +kernel, by decide +kernel⟩, List.mem_of_getElem? (i := 939) (by decide +kernel), List.mem_of_getElem? (i := 1231) (by decide +kernel), List.mem_of_getElem? (i := 1232) (by decide +kernel)⟩
theorem lw_p92 : lw_okq (⟨"HearDifferenceModel", "ones", "(I)I"⟩, 48) := ⟨⟨by decide +kernel, by decide +kernel⟩, List.mem_of_getElem? (i := 939) (by decide +kernel), List.mem_of_getElem? (i := 1235) (by decide +kernel), List.mem_of_getElem? (i := 1236) (by decide +kernel)⟩
theorem lw_p93 : lw_okq (⟨"HearDifferenceModel", "isSo", "(II)Z"⟩, 48) := ⟨⟨by decide +kernel, by decide +kernel⟩, List.mem_of_getElem? (i := 939) (by decide +kernel), List.mem_of_getElem? (i := 1239) (by decide +kernel), List.mem_of_getElem? (i := 1240) (by decide +kernel)⟩
theorem lw_p94 : lw_okq (⟨"HearDifferenceModel", "twoOf", "(III)I"⟩, 48) := ⟨⟨by decide +kernel, by decide +kernel⟩, List.mem_of_getElem? (i := 939) (by decide +kernel), List.mem_of_getElem? (i := 1243) (by decide +kernel), List.mem_of_getElem? (i := 1244) (by decide +kernel)⟩
theorem lw_p95 : lw_okq (⟨"HearDifferenceModel", "couplesOf", "(II)I"⟩, 48) := ⟨⟨by decide +kernel, by decide +kernel⟩, List.mem_of_getElem? (i := 939) (by decide +kernel), List.mem_of_getElem? (i := 1251) (by decide +kernel), List.mem_of_getElem? (i := 1252) (by decide +kernel)⟩
def lw_privs_6 : List (MethodName × Nat) := [(⟨"HearDifferenceModel", "isSign", "(I)Z"⟩, 48), (⟨"HearDifferenceModel", "waits", "(I)V"⟩, 48), (⟨"HearDifferenceModel", "readCompared", "()I"⟩, 48), (⟨"HearDifferenceModel", "readSum", "()I"⟩, 48), (⟨"HearDifferenceModel", "readProduct", "()I"⟩, 48), (⟨"HearDifferenceModel", "readUnit", "()I"⟩, 48), (⟨"HearDifferenceModel", "emits", "(II)V"⟩, 48), (⟨"HearDifferenceModel", "settles", "(I)V"⟩, 48), (⟨"HearDifferenceModel", "areThree", "(III)Z"⟩, 48), (⟨"HearDifferenceModel", "hearsNow", "(IIII)Z"⟩, 48), (⟨"HearDifferenceModel", "doesHear", "(IIIIII)Z"⟩, 48), (⟨"HearDifferenceModel", "without", "(I)I"⟩, 48), (⟨"HearDifferenceModel", "ones", "(I)I"⟩, 48), (⟨"HearDifferenceModel", "isSo", "(II)Z"⟩, 48), (⟨"HearDifferenceModel", "twoOf", "(III)I"⟩, 48), (⟨"HearDifferenceModel", "couplesOf", "(II)I"⟩, 48)]
theorem lw_r6 : ∀ q ∈ lw_privs_6, lw_okq q := List.forall_mem_cons.mpr ⟨lw_p80, List.forall_mem_cons.mpr ⟨lw_p81, List.forall_mem_cons.mpr ⟨lw_p82, List.forall_mem_cons.mpr ⟨lw_p83, List.forall_mem_cons.mpr ⟨lw_p84, List.forall_mem_cons.mpr ⟨lw_p85, List.forall_mem_cons.mpr ⟨lw_p86, List.forall_mem_cons.mpr ⟨lw_p87, List.forall_mem_cons.mpr ⟨lw_p88, List.forall_mem_cons.mpr ⟨lw_p89, List.forall_mem_cons.mpr ⟨lw_p90, List.forall_mem_cons.mpr ⟨lw_p91, List.forall_mem_cons.mpr ⟨lw_p92, List.forall_mem_cons.mpr ⟨lw_p93, List.forall_mem_cons.mpr ⟨lw_p94, List.forall_mem_cons.mpr ⟨lw_p95, fun _ h => absurd h List.not_mem_nil⟩⟩⟩⟩⟩⟩⟩⟩⟩⟩⟩⟩⟩⟩⟩⟩
theorem lw_p96 : lw_okq (⟨"HearDifferenceModel", "wordsOf", "(I)I"⟩, 48) := ⟨⟨by decide +kernel, by decide +kernel⟩, List.mem_of_getElem? (i := 939) (by decide +kernel), List.mem_of_getElem? (i := 1259) (by decide +kernel), List.mem_of_getElem? (i := 1260) (by decide +kernel)⟩
theorem lw_p97 : lw_okq (⟨"HearDifferenceModel", "keepsAhead", "()V"⟩, 48) := ⟨⟨by decide +kernel, by decide +kernel⟩, List.mem_of_getElem? (i := 939) (by decide +kernel), List.mem_of_getElem? (i := 1267) (by decide +kernel), List.mem_of_getElem? (i := 1268) (by decide +kernel)⟩
theorem lw_p98 : lw_okq (⟨"HearDifferenceModel", "notes", "(III)V"⟩, 48) := ⟨⟨by decide +kernel, by decide +kernel⟩, List.mem_of_getElem? (i := 939) (by decide +kernel), List.mem_of_getElem? (i := 1271) (by decide +kernel), List.mem_of_getElem? (i := 1272) (by decide +kernel)⟩
theorem lw_p99 : lw_okq (⟨"HearDifferenceModel", "slips", "()I"⟩, 48) := ⟨⟨by decide +kernel, by decide +kernel⟩, List.mem_of_getElem? (i := 939) (by decide +kernel), List.mem_of_getElem? (i := 1279) (by decide +kernel), List.mem_of_getElem? (i := 1280) (by decide +kernel)⟩
theorem lw_p100 : lw_okq (⟨"HearDifferenceModel", "draw", "(I)I"⟩, 48) := ⟨⟨by decide +kernel, by decide +kernel⟩, List.mem_of_getElem? (i := 939) (by decide +kernel), List.mem_of_getElem? (i := 1283) (by decide +kernel), List.mem_of_getElem? (i := 1284) (by decide +kernel)⟩
theorem lw_p101 : lw_okq (⟨"HearDifferenceModel", "isTune", "(I)Z"⟩, 48) := ⟨⟨by decide +kernel, by decide +kernel⟩, List.mem_of_getElem? (i := 939) (by decide +kernel), List.mem_of_getElem? (i := 1297) (by decide +kernel), List.mem_of_getElem? (i := 1298) (by decide +kernel)⟩
theorem lw_p102 : lw_okq (⟨"HearDifferenceModel", "hasSteps", "(III)Z"⟩, 48) := ⟨⟨by decide +kernel, by decide +kernel⟩, List.mem_of_getElem? (i := 939) (by decide +kernel), List.mem_of_getElem? (i := 1305) (by decide +kernel), List.mem_of_getElem? (i := 1306) (by decide +kernel)⟩
theorem lw_p103 : lw_okq (⟨"HearDifferenceModel", "canAll", "(I)Z"⟩, 48) := ⟨⟨by decide +kernel, by decide +kernel⟩, List.mem_of_getElem? (i := 939) (by decide +kernel), List.mem_of_getElem? (i := 1317) (by decide +kernel), List.mem_of_getElem? (i := 1318) (by decide +kernel)⟩
theorem lw_p104 : lw_okq (⟨"HearDifferenceModel", "canHave", "(II)Z"⟩, 48) := ⟨⟨by decide +kernel, by decide +kernel⟩, List.mem_of_getElem? (i := 939) (by decide +kernel), List.mem_of_getElem? (i := 1321) (by decide +kernel), List.mem_of_getElem? (i := 1322) (by decide +kernel)⟩
theorem lw_p105 : lw_okq (⟨"HearDifferenceModel", "cannotBoth", "(II)Z"⟩, 48) := ⟨⟨by decide +kernel, by decide +kernel⟩, List.mem_of_getElem? (i := 939) (by decide +kernel), List.mem_of_getElem? (i := 1325) (by decide +kernel), List.mem_of_getElem? (i := 1326) (by decide +kernel)⟩
theorem lw_p106 : lw_okq (⟨"HearDifferenceModel", "areWithHums", "(I)Z"⟩, 48) := ⟨⟨by decide +kernel, by decide +kernel⟩, List.mem_of_getElem? (i := 939) (by decide +kernel), List.mem_of_getElem? (i := 1329) (by decide +kernel), List.mem_of_getElem? (i := 1330) (by decide +kernel)⟩
theorem lw_p107 : lw_okq (⟨"HearDifferenceModel", "fits", "(I)I"⟩, 48) := ⟨⟨by decide +kernel, by decide +kernel⟩, List.mem_of_getElem? (i := 939) (by decide +kernel), List.mem_of_getElem? (i := 1341) (by decide +kernel), List.mem_of_getElem? (i := 1342) (by decide +kernel)⟩
theorem lw_p108 : lw_okq (⟨"HearDifferenceModel", "firstRow", "(I)V"⟩, 48) := ⟨⟨by decide +kernel, by decide +kernel⟩, List.mem_of_getElem? (i := 939) (by decide +kernel), List.mem_of_getElem? (i := 1345) (by decide +kernel), List.mem_of_getElem? (i := 1346) (by decide +kernel)⟩
theorem lw_p109 : lw_okq (⟨"HearDifferenceModel", "areJustTold", "(I)Z"⟩, 48) := ⟨⟨by decide +kernel, by decide +kernel⟩, List.mem_of_getElem? (i := 939) (by decide +kernel), List.mem_of_getElem? (i := 1349) (by decide +kernel), List.mem_of_getElem? (i := 1350) (by decide +kernel)⟩
theorem lw_p110 : lw_okq (⟨"HearDifferenceModel", "countsWords", "(I)V"⟩, 48) := ⟨⟨by decide +kernel, by decide +kernel⟩, List.mem_of_getElem? (i := 939) (by decide +kernel), List.mem_of_getElem? (i := 1353) (by decide +kernel), List.mem_of_getElem? (i := 1354) (by decide +kernel)⟩
theorem lw_p111 : lw_okq (⟨"HearDifferenceModel", "nextRow", "(II)Z"⟩, 48) := ⟨⟨by decide +kernel, by decide +kernel⟩, List.mem_of_getElem? (i := 939) (by decide +kernel), List.mem_of_getElem? (i := 1357) (by decide +kernel), List.mem_of_getElem? (i := 1358) (by decide +kernel)⟩
def lw_privs_7 : List (MethodName × Nat) := [(⟨"HearDifferenceModel", "wordsOf", "(I)I"⟩, 48), (⟨"HearDifferenceModel", "keepsAhead", "()V"⟩, 48), (⟨"HearDifferenceModel", "notes", "(III)V"⟩, 48), (⟨"HearDifferenceModel", "slips", "()I"⟩, 48), (⟨"HearDifferenceModel", "draw", "(I)I"⟩, 48), (⟨"HearDifferenceModel", "isTune", "(I)Z"⟩, 48), (⟨"HearDifferenceModel", "hasSteps", "(III)Z"⟩, 48), (⟨"HearDifferenceModel", "canAll", "(I)Z"⟩, 48), (⟨"HearDifferenceModel", "canHave", "(II)Z"⟩, 48), (⟨"HearDifferenceModel", "cannotBoth", "(II)Z"⟩, 48), (⟨"HearDifferenceModel", "areWithHums", "(I)Z"⟩, 48), (⟨"HearDifferenceModel", "fits", "(I)I"⟩, 48), (⟨"HearDifferenceModel", "firstRow", "(I)V"⟩, 48), (⟨"HearDifferenceModel", "areJustTold", "(I)Z"⟩, 48), (⟨"HearDifferenceModel", "countsWords", "(I)V"⟩, 48), (⟨"HearDifferenceModel", "nextRow", "(II)Z"⟩, 48)]
theorem lw_r7 : ∀ q ∈ lw_privs_7, lw_okq q := List.forall_mem_cons.mpr ⟨lw_p96, List.forall_mem_cons.mpr ⟨lw_p97, List.forall_mem_cons.mpr ⟨lw_p98, List.forall_mem_cons.mpr ⟨lw_p99, List.forall_mem_cons.mpr ⟨lw_p100, List.forall_mem_cons.mpr ⟨lw_p101, List.forall_mem_cons.mpr ⟨lw_p102, List.forall_mem_cons.mpr ⟨lw_p103, List.forall_mem_cons.mpr ⟨lw_p104, List.forall_mem_cons.mpr ⟨lw_p105, List.forall_mem_cons.mpr ⟨lw_p106, List.forall_mem_cons.mpr ⟨lw_p107, List.forall_mem_cons.mpr ⟨lw_p108, List.forall_mem_cons.mpr ⟨lw_p109, List.forall_mem_cons.mpr ⟨lw_p110, List.forall_mem_cons.mpr ⟨lw_p111, fun _ h => absurd h List.not_mem_nil⟩⟩⟩⟩⟩⟩⟩⟩⟩⟩⟩⟩⟩⟩⟩⟩
theorem lw_p112 : lw_okq (⟨"HearDifferenceModel", "fewestTones", "()I"⟩, 48) := ⟨⟨by decide +kernel, by decide +kernel⟩, List.mem_of_getElem? (i := 939) (by decide +kernel), List.mem_of_getElem? (i := 1365) (by decide +kernel), List.mem_of_getElem? (i := 1366) (by decide +kernel)⟩
theorem lw_p113 : lw_okq (⟨"HearDifferenceModel", "haveAllTold", "(I)Z"⟩, 48) := ⟨⟨by decide +kernel, by decide +kernel⟩, List.mem_of_getElem? (i := 939) (by decide +kernel), List.mem_of_getElem? (i := 1369) (by decide +kernel), List.mem_of_getElem? (i := 1370) (by decide +kernel)⟩
theorem lw_p114 : lw_okq (⟨"HearDifferenceModel", "findsRuler", "(I)V"⟩, 48) := ⟨⟨by decide +kernel, by decide +kernel⟩, List.mem_of_getElem? (i := 939) (by decide +kernel), List.mem_of_getElem? (i := 1377) (by decide +kernel), List.mem_of_getElem? (i := 1378) (by decide +kernel)⟩
theorem lw_p115 : lw_okq (⟨"HearDifferenceModel", "areUnlike", "(I)Z"⟩, 48) := ⟨⟨by decide +kernel, by decide +kernel⟩, List.mem_of_getElem? (i := 939) (by decide +kernel), List.mem_of_getElem? (i := 1381) (by decide +kernel), List.mem_of_getElem? (i := 1382) (by decide +kernel)⟩
theorem lw_p116 : lw_okq (⟨"HearDifferenceModel", "isAlone", "(IIIII)Z"⟩, 48) := ⟨⟨by decide +kernel, by decide +kernel⟩, List.mem_of_getElem? (i := 939) (by decide +kernel), List.mem_of_getElem? (i := 1389) (by decide +kernel), List.mem_of_getElem? (i := 1390) (by decide +kernel)⟩
theorem lw_p117 : lw_okq (⟨"HearDifferenceModel", "canSay", "(I)Z"⟩, 48) := ⟨⟨by decide +kernel, by decide +kernel⟩, List.mem_of_getElem? (i := 939) (by decide +kernel), List.mem_of_getElem? (i := 1397) (by decide +kernel), List.mem_of_getElem? (i := 1398) (by decide +kernel)⟩
theorem lw_p118 : lw_okq (⟨"HearDifferenceModel", "kept", "(I)I"⟩, 48) := ⟨⟨by decide +kernel, by decide +kernel⟩, List.mem_of_getElem? (i := 939) (by decide +kernel), List.mem_of_getElem? (i := 1405) (by decide +kernel), List.mem_of_getElem? (i := 1406) (by decide +kernel)⟩
theorem lw_p119 : lw_okq (⟨"HearDifferenceModel", "keepsRows", "()V"⟩, 48) := ⟨⟨by decide +kernel, by decide +kernel⟩, List.mem_of_getElem? (i := 939) (by decide +kernel), List.mem_of_getElem? (i := 1409) (by decide +kernel), List.mem_of_getElem? (i := 1410) (by decide +kernel)⟩
theorem lw_p120 : lw_okq (⟨"HearDifferenceModel", "keepsLaw", "()V"⟩, 48) := ⟨⟨by decide +kernel, by decide +kernel⟩, List.mem_of_getElem? (i := 939) (by decide +kernel), List.mem_of_getElem? (i := 1413) (by decide +kernel), List.mem_of_getElem? (i := 1414) (by decide +kernel)⟩
def lw_privs_8 : List (MethodName × Nat) := [(⟨"HearDifferenceModel", "fewestTones", "()I"⟩, 48), (⟨"HearDifferenceModel", "haveAllTold", "(I)Z"⟩, 48), (⟨"HearDifferenceModel", "findsRuler", "(I)V"⟩, 48), (⟨"HearDifferenceModel", "areUnlike", "(I)Z"⟩, 48), (⟨"HearDifferenceModel", "isAlone", "(IIIII)Z"⟩, 48), (⟨"HearDifferenceModel", "canSay", "(I)Z"⟩, 48), (⟨"HearDifferenceModel", "kept", "(I)I"⟩, 48), (⟨"HearDifferenceModel", "keepsRows", "()V"⟩, 48), (⟨"HearDifferenceModel", "keepsLaw", "()V"⟩, 48)]
theorem lw_r8 : ∀ q ∈ lw_privs_8, lw_okq q := List.forall_mem_cons.mpr ⟨lw_p112, List.forall_mem_cons.mpr ⟨lw_p113, List.forall_mem_cons.mpr ⟨lw_p114, List.forall_mem_cons.mpr ⟨lw_p115, List.forall_mem_cons.mpr ⟨lw_p116, List.forall_mem_cons.mpr ⟨lw_p117, List.forall_mem_cons.mpr ⟨lw_p118, List.forall_mem_cons.mpr ⟨lw_p119, List.forall_mem_cons.mpr ⟨lw_p120, fun _ h => absurd h List.not_mem_nil⟩⟩⟩⟩⟩⟩⟩⟩⟩
def lw_privs : List (MethodName × Nat) := lw_privs_1 ++ (lw_privs_2 ++ (lw_privs_3 ++ (lw_privs_4 ++ (lw_privs_5 ++ (lw_privs_6 ++ (lw_privs_7 ++ (lw_privs_8)))))))
def lw_tbl : List Cond := k2_sels lw_privs ++ tables_1
theorem lw_privs_ok : ∀ q ∈ lw_privs, lw_okq q := by
  show ∀ q ∈ lw_privs_1 ++ (lw_privs_2 ++ (lw_privs_3 ++ (lw_privs_4 ++ (lw_privs_5 ++ (lw_privs_6 ++ (lw_privs_7 ++ (lw_privs_8))))))), lw_okq q
  exact List.forall_mem_append.mpr ⟨lw_r1, List.forall_mem_append.mpr ⟨lw_r2, List.forall_mem_append.mpr ⟨lw_r3, List.forall_mem_append.mpr ⟨lw_r4, List.forall_mem_append.mpr ⟨lw_r5, List.forall_mem_append.mpr ⟨lw_r6, List.forall_mem_append.mpr ⟨lw_r7, lw_r8⟩⟩⟩⟩⟩⟩⟩
end
section
def RX0 : String := "HearDifference$Book"
def TX0 : u_T := fun k => match k with
  | 0 => ("HearDifference$Book", "lines", "I", false)
  | _ => ("HearDifference$Book", "cells", "[I", true)
def tyX0 : Nat → FieldType := fun k => match k with
  | 0 => .int
  | _ => .array .int
abbrev wsX00 : List Cond := u_ws RX0 TX0 2
theorem nmX0 : ∀ a, a < 2 → ∀ b, b < 2 → a ≠ b → (TX0 a).2.1 ≠ (TX0 b).2.1 := by decide +kernel
theorem tyX0_ok : ∀ k, k < 2 → parseFieldDescriptor (TX0 k).2.2.1 = some (tyX0 k) := by decide +kernel
abbrev cX0_init : ByteArray := prog_2_method_1_code
def yX0_init : MethodName := ⟨RX0, "<init>", "()V"⟩
abbrev cX0_copyFrom : ByteArray := prog_2_method_2_code
def yX0_copyFrom : MethodName := ⟨RX0, "copyFrom", "(LHearDifference$Book;)V"⟩
abbrev cX0_write : ByteArray := prog_2_method_3_code
def yX0_write : MethodName := ⟨RX0, "write", "(IIIII)V"⟩
abbrev cX0_read : ByteArray := prog_2_method_4_code
def yX0_read : MethodName := ⟨RX0, "read", "(II)I"⟩
def RX1 : String := "HearDifference$Cover"
def TX1 : u_T := fun k => match k with
  | _ => ("HearDifference$Cover", "row", "[I", true)
def tyX1 : Nat → FieldType := fun k => match k with
  | _ => .array .int
abbrev wsX10 : List Cond := u_ws RX1 TX1 1
theorem nmX1 : ∀ a, a < 1 → ∀ b, b < 1 → a ≠ b → (TX1 a).2.1 ≠ (TX1 b).2.1 := by decide +kernel
theorem tyX1_ok : ∀ k, k < 1 → parseFieldDescriptor (TX1 k).2.2.1 = some (tyX1 k) := by decide +kernel
abbrev cX1_init : ByteArray := prog_3_method_1_code
def yX1_init : MethodName := ⟨RX1, "<init>", "()V"⟩
abbrev cX1_leastSize : ByteArray := prog_3_method_2_code
def yX1_leastSize : MethodName := ⟨RX1, "leastSize", "(I)I"⟩
abbrev cX1_extend : ByteArray := prog_3_method_3_code
def yX1_extend : MethodName := ⟨RX1, "extend", "(IIII)Z"⟩
def RX2 : String := "HearDifference$Ear"
def TX2 : u_T := fun k => match k with
  | 0 => ("HearDifference$Ear", "world", "LHearDifference$World;", true)
  | 1 => ("HearDifference$Ear", "stack", "[I", true)
  | 2 => ("HearDifference$Ear", "top", "I", false)
  | 3 => ("HearDifference$Ear", "low", "I", false)
  | 4 => ("HearDifference$Ear", "high", "I", false)
  | 5 => ("HearDifference$Ear", "own", "I", false)
  | 6 => ("HearDifference$Ear", "bothLoud", "I", false)
  | 7 => ("HearDifference$Ear", "crowd", "I", false)
  | _ => ("HearDifference$Ear", "listener", "I", false)
def tyX2 : Nat → FieldType := fun k => match k with
  | 0 => .object "HearDifference$World"
  | 1 => .array .int
  | 2 => .int
  | 3 => .int
  | 4 => .int
  | 5 => .int
  | 6 => .int
  | 7 => .int
  | _ => .int
abbrev wsX20 : List Cond := u_ws RX2 TX2 9
theorem nmX2 : ∀ a, a < 9 → ∀ b, b < 9 → a ≠ b → (TX2 a).2.1 ≠ (TX2 b).2.1 := by decide +kernel
theorem tyX2_ok : ∀ k, k < 9 → parseFieldDescriptor (TX2 k).2.2.1 = some (tyX2 k) := by decide +kernel
abbrev cX2_init : ByteArray := prog_4_method_1_code
def yX2_init : MethodName := ⟨RX2, "<init>", "(LHearDifference$World;)V"⟩
abbrev cX2_hearersOf : ByteArray := prog_4_method_2_code
def yX2_hearersOf : MethodName := ⟨RX2, "hearersOf", "(II)I"⟩
abbrev cX2_couplesHeard : ByteArray := prog_4_method_3_code
def yX2_couplesHeard : MethodName := ⟨RX2, "couplesHeard", "(II)I"⟩
abbrev cX2_wordsHeard : ByteArray := prog_4_method_4_code
def yX2_wordsHeard : MethodName := ⟨RX2, "wordsHeard", "(II)I"⟩
abbrev cX2_hearsNow : ByteArray := prog_4_method_5_code
def yX2_hearsNow : MethodName := ⟨RX2, "hearsNow", "(IIII)Z"⟩
abbrev cX2_onlyOneHears : ByteArray := prog_4_method_6_code
def yX2_onlyOneHears : MethodName := ⟨RX2, "onlyOneHears", "(IIIII)Z"⟩
abbrev cX2_hearsTones : ByteArray := prog_4_method_7_code
def yX2_hearsTones : MethodName := ⟨RX2, "hearsTones", "(IIIIII)Z"⟩
abbrev cX2_isSo : ByteArray := prog_4_method_8_code
def yX2_isSo : MethodName := ⟨RX2, "isSo", "(LHearDifference$Law;II)Z"⟩
abbrev cX2_push : ByteArray := prog_4_method_9_code
def yX2_push : MethodName := ⟨RX2, "push", "(I)V"⟩
abbrev cX2_pop : ByteArray := prog_4_method_10_code
def yX2_pop : MethodName := ⟨RX2, "pop", "()I"⟩
abbrev cX2_valueOf : ByteArray := prog_4_method_11_code
def yX2_valueOf : MethodName := ⟨RX2, "valueOf", "(I)I"⟩
abbrev cX2_joined : ByteArray := prog_4_method_12_code
def yX2_joined : MethodName := ⟨RX2, "joined", "(III)I"⟩
def RX3 : String := "HearDifference$Fitting"
def TX3 : u_T := fun k => match k with
  | 0 => ("HearDifference$Fitting", "first", "[I", true)
  | 1 => ("HearDifference$Fitting", "row", "[I", true)
  | 2 => ("HearDifference$Fitting", "left", "[I", true)
  | _ => ("HearDifference$Fitting", "rows", "I", false)
def tyX3 : Nat → FieldType := fun k => match k with
  | 0 => .array .int
  | 1 => .array .int
  | 2 => .array .int
  | _ => .int
abbrev wsX30 : List Cond := u_ws RX3 TX3 4
theorem nmX3 : ∀ a, a < 4 → ∀ b, b < 4 → a ≠ b → (TX3 a).2.1 ≠ (TX3 b).2.1 := by decide +kernel
theorem tyX3_ok : ∀ k, k < 4 → parseFieldDescriptor (TX3 k).2.2.1 = some (tyX3 k) := by decide +kernel
abbrev cX3_init : ByteArray := prog_5_method_1_code
def yX3_init : MethodName := ⟨RX3, "<init>", "()V"⟩
abbrev cX3_countRows : ByteArray := prog_5_method_2_code
def yX3_countRows : MethodName := ⟨RX3, "countRows", "(ILHearDifference$World;)I"⟩
abbrev cX3_extend : ByteArray := prog_5_method_3_code
def yX3_extend : MethodName := ⟨RX3, "extend", "(II)V"⟩
abbrev cX3_hasWordsFor : ByteArray := prog_5_method_4_code
def yX3_hasWordsFor : MethodName := ⟨RX3, "hasWordsFor", "(II)Z"⟩
abbrev cX3_changeLeft : ByteArray := prog_5_method_5_code
def yX3_changeLeft : MethodName := ⟨RX3, "changeLeft", "(III)V"⟩
def RX4 : String := "HearDifference$Law"
def TX4 : u_T := fun k => match k with
  | 0 => ("HearDifference$Law", "lines", "I", false)
  | 1 => ("HearDifference$Law", "hearLines", "I", false)
  | 2 => ("HearDifference$Law", "lineEnds", "[I", true)
  | 3 => ("HearDifference$Law", "size", "I", false)
  | _ => ("HearDifference$Law", "steps", "[I", true)
def tyX4 : Nat → FieldType := fun k => match k with
  | 0 => .int
  | 1 => .int
  | 2 => .array .int
  | 3 => .int
  | _ => .array .int
abbrev wsX40 : List Cond := u_ws RX4 TX4 5
theorem nmX4 : ∀ a, a < 5 → ∀ b, b < 5 → a ≠ b → (TX4 a).2.1 ≠ (TX4 b).2.1 := by decide +kernel
theorem tyX4_ok : ∀ k, k < 5 → parseFieldDescriptor (TX4 k).2.2.1 = some (tyX4 k) := by decide +kernel
abbrev cX4_init : ByteArray := prog_6_method_1_code
def yX4_init : MethodName := ⟨RX4, "<init>", "()V"⟩
abbrev cX4_copyFrom : ByteArray := prog_6_method_2_code
def yX4_copyFrom : MethodName := ⟨RX4, "copyFrom", "(LHearDifference$Law;)V"⟩
abbrev cX4_empty : ByteArray := prog_6_method_3_code
def yX4_empty : MethodName := ⟨RX4, "empty", "()V"⟩
abbrev cX4_add : ByteArray := prog_6_method_4_code
def yX4_add : MethodName := ⟨RX4, "add", "(I)V"⟩
abbrev cX4_closeLine : ByteArray := prog_6_method_5_code
def yX4_closeLine : MethodName := ⟨RX4, "closeLine", "(Z)V"⟩
def RX5 : String := "HearDifference$Past"
def TX5 : u_T := fun k => match k with
  | 0 => ("HearDifference$Past", "next", "I", false)
  | 1 => ("HearDifference$Past", "count", "I", false)
  | 2 => ("HearDifference$Past", "hums", "[I", true)
  | 3 => ("HearDifference$Past", "draws", "[I", true)
  | 4 => ("HearDifference$Past", "hours", "[I", true)
  | _ => ("HearDifference$Past", "bookLines", "[I", true)
def tyX5 : Nat → FieldType := fun k => match k with
  | 0 => .int
  | 1 => .int
  | 2 => .array .int
  | 3 => .array .int
  | 4 => .array .int
  | _ => .array .int
abbrev wsX50 : List Cond := u_ws RX5 TX5 6
theorem nmX5 : ∀ a, a < 6 → ∀ b, b < 6 → a ≠ b → (TX5 a).2.1 ≠ (TX5 b).2.1 := by decide +kernel
theorem tyX5_ok : ∀ k, k < 6 → parseFieldDescriptor (TX5 k).2.2.1 = some (tyX5 k) := by decide +kernel
abbrev cX5_init : ByteArray := prog_7_method_1_code
def yX5_init : MethodName := ⟨RX5, "<init>", "()V"⟩
abbrev cX5_forget : ByteArray := prog_7_method_2_code
def yX5_forget : MethodName := ⟨RX5, "forget", "()V"⟩
abbrev cX5_keep : ByteArray := prog_7_method_3_code
def yX5_keep : MethodName := ⟨RX5, "keep", "(LHearDifference$World;)V"⟩
abbrev cX5_goBack : ByteArray := prog_7_method_4_code
def yX5_goBack : MethodName := ⟨RX5, "goBack", "(LHearDifference$World;)Z"⟩
def RX6 : String := "HearDifference$Reader"
def TX6 : u_T := fun k => match k with
  | 0 => ("HearDifference$Reader", "draft", "LHearDifference$Law;", true)
  | 1 => ("HearDifference$Reader", "foundFault", "I", false)
  | 2 => ("HearDifference$Reader", "foundPlace", "I", false)
  | 3 => ("HearDifference$Reader", "bytes", "[B", true)
  | 4 => ("HearDifference$Reader", "length", "I", false)
  | 5 => ("HearDifference$Reader", "kind", "I", false)
  | 6 => ("HearDifference$Reader", "number", "I", false)
  | 7 => ("HearDifference$Reader", "place", "I", false)
  | 8 => ("HearDifference$Reader", "behind", "I", false)
  | 9 => ("HearDifference$Reader", "awaited", "I", false)
  | 10 => ("HearDifference$Reader", "lineHear", "Z", false)
  | 11 => ("HearDifference$Reader", "compared", "Z", false)
  | 12 => ("HearDifference$Reader", "waiting", "[I", true)
  | 13 => ("HearDifference$Reader", "top", "I", false)
  | _ => ("HearDifference$Reader", "open", "I", false)
def tyX6 : Nat → FieldType := fun k => match k with
  | 0 => .object "HearDifference$Law"
  | 1 => .int
  | 2 => .int
  | 3 => .array .byte
  | 4 => .int
  | 5 => .int
  | 6 => .int
  | 7 => .int
  | 8 => .int
  | 9 => .int
  | 10 => .boolean
  | 11 => .boolean
  | 12 => .array .int
  | 13 => .int
  | _ => .int
abbrev wsX60 : List Cond := u_ws RX6 TX6 15
theorem nmX6 : ∀ a, a < 15 → ∀ b, b < 15 → a ≠ b → (TX6 a).2.1 ≠ (TX6 b).2.1 := by decide +kernel
theorem tyX6_ok : ∀ k, k < 15 → parseFieldDescriptor (TX6 k).2.2.1 = some (tyX6 k) := by decide +kernel
abbrev cX6_init : ByteArray := prog_8_method_1_code
def yX6_init : MethodName := ⟨RX6, "<init>", "([B)V"⟩
abbrev cX6_readLaw : ByteArray := prog_8_method_2_code
def yX6_readLaw : MethodName := ⟨RX6, "readLaw", "(I)Z"⟩
abbrev cX6_refuse : ByteArray := prog_8_method_3_code
def yX6_refuse : MethodName := ⟨RX6, "refuse", "(I)Z"⟩
abbrev cX6_accept : ByteArray := prog_8_method_4_code
def yX6_accept : MethodName := ⟨RX6, "accept", "()Z"⟩
abbrev cX6_acceptLine : ByteArray := prog_8_method_5_code
def yX6_acceptLine : MethodName := ⟨RX6, "acceptLine", "()Z"⟩
abbrev cX6_acceptLineTail : ByteArray := prog_8_method_6_code
def yX6_acceptLineTail : MethodName := ⟨RX6, "acceptLineTail", "()Z"⟩
abbrev cX6_acceptCondition : ByteArray := prog_8_method_7_code
def yX6_acceptCondition : MethodName := ⟨RX6, "acceptCondition", "()Z"⟩
abbrev cX6_acceptValue : ByteArray := prog_8_method_8_code
def yX6_acceptValue : MethodName := ⟨RX6, "acceptValue", "()Z"⟩
abbrev cX6_acceptDivisor : ByteArray := prog_8_method_9_code
def yX6_acceptDivisor : MethodName := ⟨RX6, "acceptDivisor", "()Z"⟩
abbrev cX6_acceptValueTail : ByteArray := prog_8_method_10_code
def yX6_acceptValueTail : MethodName := ⟨RX6, "acceptValueTail", "()Z"⟩
abbrev cX6_acceptConditionTail : ByteArray := prog_8_method_11_code
def yX6_acceptConditionTail : MethodName := ⟨RX6, "acceptConditionTail", "()Z"⟩
abbrev cX6_closeBracket : ByteArray := prog_8_method_12_code
def yX6_closeBracket : MethodName := ⟨RX6, "closeBracket", "()Z"⟩
abbrev cX6_closeLine : ByteArray := prog_8_method_13_code
def yX6_closeLine : MethodName := ⟨RX6, "closeLine", "()Z"⟩
abbrev cX6_holdSign : ByteArray := prog_8_method_14_code
def yX6_holdSign : MethodName := ⟨RX6, "holdSign", "(II)Z"⟩
abbrev cX6_settle : ByteArray := prog_8_method_15_code
def yX6_settle : MethodName := ⟨RX6, "settle", "(I)V"⟩
abbrev cX6_rankOf : ByteArray := prog_8_method_16_code
def yX6_rankOf : MethodName := ⟨RX6, "rankOf", "(I)I"⟩
abbrev cX6_step : ByteArray := prog_8_method_17_code
def yX6_step : MethodName := ⟨RX6, "step", "()V"⟩
abbrev cX6_takeLetters : ByteArray := prog_8_method_18_code
def yX6_takeLetters : MethodName := ⟨RX6, "takeLetters", "()V"⟩
abbrev cX6_takeDigits : ByteArray := prog_8_method_19_code
def yX6_takeDigits : MethodName := ⟨RX6, "takeDigits", "()V"⟩
abbrev cX6_isSpelt : ByteArray := prog_8_method_20_code
def yX6_isSpelt : MethodName := ⟨RX6, "isSpelt", "(Ljava/lang/String;)Z"⟩
abbrev cX6_signAt : ByteArray := prog_8_method_21_code
def yX6_signAt : MethodName := ⟨RX6, "signAt", "(I)I"⟩
abbrev cX6_isBlank : ByteArray := prog_8_method_22_code
def yX6_isBlank : MethodName := ⟨RX6, "isBlank", "(I)Z"⟩
abbrev cX6_isLetter : ByteArray := prog_8_method_23_code
def yX6_isLetter : MethodName := ⟨RX6, "isLetter", "(I)Z"⟩
abbrev cX6_isDigit : ByteArray := prog_8_method_24_code
def yX6_isDigit : MethodName := ⟨RX6, "isDigit", "(I)Z"⟩
abbrev cX6_isSign : ByteArray := prog_8_method_25_code
def yX6_isSign : MethodName := ⟨RX6, "isSign", "(I)Z"⟩
abbrev cX6_nameOf : ByteArray := prog_8_method_26_code
def yX6_nameOf : MethodName := ⟨RX6, "nameOf", "(I)Ljava/lang/String;"⟩
def RX7 : String := "HearDifference$Turns"
def TX7 : u_T := fun k => match k with
  | 0 => ("HearDifference$Turns", "given", "[I", true)
  | _ => ("HearDifference$Turns", "clashes", "[I", true)
def tyX7 : Nat → FieldType := fun k => match k with
  | 0 => .array .int
  | _ => .array .int
abbrev wsX70 : List Cond := u_ws RX7 TX7 2
theorem nmX7 : ∀ a, a < 2 → ∀ b, b < 2 → a ≠ b → (TX7 a).2.1 ≠ (TX7 b).2.1 := by decide +kernel
theorem tyX7_ok : ∀ k, k < 2 → parseFieldDescriptor (TX7 k).2.2.1 = some (tyX7 k) := by decide +kernel
abbrev cX7_init : ByteArray := prog_9_method_1_code
def yX7_init : MethodName := ⟨RX7, "<init>", "()V"⟩
abbrev cX7_arrange : ByteArray := prog_9_method_2_code
def yX7_arrange : MethodName := ⟨RX7, "arrange", "(LHearDifference$World;)I"⟩
abbrev cX7_clash : ByteArray := prog_9_method_3_code
def yX7_clash : MethodName := ⟨RX7, "clash", "(LHearDifference$World;II)Z"⟩
abbrev cX7_place : ByteArray := prog_9_method_4_code
def yX7_place : MethodName := ⟨RX7, "place", "(IIII)Z"⟩
abbrev cX7_isFree : ByteArray := prog_9_method_5_code
def yX7_isFree : MethodName := ⟨RX7, "isFree", "(II)Z"⟩
def RX8 : String := "HearDifference$World"
def TX8 : u_T := fun k => match k with
  | 0 => ("HearDifference$World", "draws", "I", false)
  | 1 => ("HearDifference$World", "people", "I", false)
  | 2 => ("HearDifference$World", "hums", "[I", true)
  | 3 => ("HearDifference$World", "louds", "[I", true)
  | 4 => ("HearDifference$World", "voices", "I", false)
  | 5 => ("HearDifference$World", "slip", "I", false)
  | 6 => ("HearDifference$World", "hourNow", "I", false)
  | 7 => ("HearDifference$World", "tones", "[I", true)
  | 8 => ("HearDifference$World", "tuneLengths", "[I", true)
  | 9 => ("HearDifference$World", "pairs", "I", false)
  | 10 => ("HearDifference$World", "pairOnes", "[I", true)
  | 11 => ("HearDifference$World", "pairOthers", "[I", true)
  | 12 => ("HearDifference$World", "toldCount", "I", false)
  | 13 => ("HearDifference$World", "told", "[I", true)
  | 14 => ("HearDifference$World", "law", "LHearDifference$Law;", true)
  | _ => ("HearDifference$World", "book", "LHearDifference$Book;", true)
def tyX8 : Nat → FieldType := fun k => match k with
  | 0 => .int
  | 1 => .int
  | 2 => .array .int
  | 3 => .array .int
  | 4 => .int
  | 5 => .int
  | 6 => .int
  | 7 => .array .int
  | 8 => .array .int
  | 9 => .int
  | 10 => .array .int
  | 11 => .array .int
  | 12 => .int
  | 13 => .array .int
  | 14 => .object "HearDifference$Law"
  | _ => .object "HearDifference$Book"
abbrev wsX80 : List Cond := u_ws RX8 TX8 16
theorem nmX8 : ∀ a, a < 16 → ∀ b, b < 16 → a ≠ b → (TX8 a).2.1 ≠ (TX8 b).2.1 := by decide +kernel
theorem tyX8_ok : ∀ k, k < 16 → parseFieldDescriptor (TX8 k).2.2.1 = some (tyX8 k) := by decide +kernel
abbrev cX8_init : ByteArray := prog_10_method_1_code
def yX8_init : MethodName := ⟨RX8, "<init>", "()V"⟩
abbrev cX8_copyFrom : ByteArray := prog_10_method_2_code
def yX8_copyFrom : MethodName := ⟨RX8, "copyFrom", "(LHearDifference$World;)V"⟩
abbrev cX8_isPerson : ByteArray := prog_10_method_3_code
def yX8_isPerson : MethodName := ⟨RX8, "isPerson", "(I)Z"⟩
abbrev cX8_hasHum : ByteArray := prog_10_method_4_code
def yX8_hasHum : MethodName := ⟨RX8, "hasHum", "(I)Z"⟩
abbrev cX8_wordOf : ByteArray := prog_10_method_5_code
def yX8_wordOf : MethodName := ⟨RX8, "wordOf", "(II)I"⟩
abbrev cX8_toneOf : ByteArray := prog_10_method_6_code
def yX8_toneOf : MethodName := ⟨RX8, "toneOf", "(II)I"⟩
abbrev cX8_toldSet : ByteArray := prog_10_method_7_code
def yX8_toldSet : MethodName := ⟨RX8, "toldSet", "()I"⟩
abbrev cX8_wordsSayable : ByteArray := prog_10_method_8_code
def yX8_wordsSayable : MethodName := ⟨RX8, "wordsSayable", "()I"⟩
abbrev cX8_draw : ByteArray := prog_10_method_9_code
def yX8_draw : MethodName := ⟨RX8, "draw", "(I)I"⟩
abbrev cX8_passHour : ByteArray := prog_10_method_10_code
def yX8_passHour : MethodName := ⟨RX8, "passHour", "()I"⟩
def RX9 : String := "HearDifference"
def TX9 : u_T := fun k => match k with
  | 0 => ("HearDifference", "world", "LHearDifference$World;", true)
  | 1 => ("HearDifference", "kept", "LHearDifference$World;", true)
  | 2 => ("HearDifference", "imageTaken", "Z", false)
  | 3 => ("HearDifference", "past", "LHearDifference$Past;", true)
  | 4 => ("HearDifference", "tape", "[B", true)
  | 5 => ("HearDifference", "tapeLength", "I", false)
  | 6 => ("HearDifference", "reader", "LHearDifference$Reader;", true)
  | 7 => ("HearDifference", "latestFault", "I", false)
  | 8 => ("HearDifference", "latestPlace", "I", false)
  | 9 => ("HearDifference", "ear", "LHearDifference$Ear;", true)
  | 10 => ("HearDifference", "turns", "LHearDifference$Turns;", true)
  | 11 => ("HearDifference", "fitting", "LHearDifference$Fitting;", true)
  | _ => ("HearDifference", "cover", "LHearDifference$Cover;", true)
def tyX9 : Nat → FieldType := fun k => match k with
  | 0 => .object "HearDifference$World"
  | 1 => .object "HearDifference$World"
  | 2 => .boolean
  | 3 => .object "HearDifference$Past"
  | 4 => .array .byte
  | 5 => .int
  | 6 => .object "HearDifference$Reader"
  | 7 => .int
  | 8 => .int
  | 9 => .object "HearDifference$Ear"
  | 10 => .object "HearDifference$Turns"
  | 11 => .object "HearDifference$Fitting"
  | _ => .object "HearDifference$Cover"
abbrev wsX90 : List Cond := u_ws RX9 TX9 13
theorem nmX9 : ∀ a, a < 13 → ∀ b, b < 13 → a ≠ b → (TX9 a).2.1 ≠ (TX9 b).2.1 := by decide +kernel
theorem tyX9_ok : ∀ k, k < 13 → parseFieldDescriptor (TX9 k).2.2.1 = some (tyX9 k) := by decide +kernel
abbrev cX9_init : ByteArray := prog_1_method_1_code
def yX9_init : MethodName := ⟨RX9, "<init>", "()V"⟩
abbrev cX9_state : ByteArray := prog_1_method_2_code
def yX9_state : MethodName := ⟨RX9, "state", "(I)I"⟩
abbrev cX9_person : ByteArray := prog_1_method_3_code
def yX9_person : MethodName := ⟨RX9, "person", "(I)I"⟩
abbrev cX9_set : ByteArray := prog_1_method_4_code
def yX9_set : MethodName := ⟨RX9, "set", "(III)Z"⟩
abbrev cX9_feed : ByteArray := prog_1_method_5_code
def yX9_feed : MethodName := ⟨RX9, "feed", "(IIIII)I"⟩
abbrev cX9_end : ByteArray := prog_1_method_6_code
def yX9_end : MethodName := ⟨RX9, "end", "(I)Z"⟩
abbrev cX9_text : ByteArray := prog_1_method_7_code
def yX9_text : MethodName := ⟨RX9, "text", "()I"⟩
abbrev cX9_fault : ByteArray := prog_1_method_8_code
def yX9_fault : MethodName := ⟨RX9, "fault", "(I)I"⟩
abbrev cX9_speak : ByteArray := prog_1_method_9_code
def yX9_speak : MethodName := ⟨RX9, "speak", "(II)I"⟩
abbrev cX9_hours : ByteArray := prog_1_method_10_code
def yX9_hours : MethodName := ⟨RX9, "hours", "(I)I"⟩
abbrev cX9_of : ByteArray := prog_1_method_11_code
def yX9_of : MethodName := ⟨RX9, "of", "(II)I"⟩
abbrev cX9_hears : ByteArray := prog_1_method_12_code
def yX9_hears : MethodName := ⟨RX9, "hears", "(III)I"⟩
abbrev cX9_deaf : ByteArray := prog_1_method_13_code
def yX9_deaf : MethodName := ⟨RX9, "deaf", "(II)I"⟩
abbrev cX9_book : ByteArray := prog_1_method_14_code
def yX9_book : MethodName := ⟨RX9, "book", "(II)I"⟩
abbrev cX9_tune : ByteArray := prog_1_method_15_code
def yX9_tune : MethodName := ⟨RX9, "tune", "(II)I"⟩
abbrev cX9_same : ByteArray := prog_1_method_16_code
def yX9_same : MethodName := ⟨RX9, "same", "(II)I"⟩
abbrev cX9_pair : ByteArray := prog_1_method_17_code
def yX9_pair : MethodName := ⟨RX9, "pair", "(II)I"⟩
abbrev cX9_turnOf : ByteArray := prog_1_method_18_code
def yX9_turnOf : MethodName := ⟨RX9, "turnOf", "(I)I"⟩
abbrev cX9_tell : ByteArray := prog_1_method_19_code
def yX9_tell : MethodName := ⟨RX9, "tell", "(I)I"⟩
abbrev cX9_fit : ByteArray := prog_1_method_20_code
def yX9_fit : MethodName := ⟨RX9, "fit", "(II)I"⟩
abbrev cX9_fewest : ByteArray := prog_1_method_21_code
def yX9_fewest : MethodName := ⟨RX9, "fewest", "(I)I"⟩
abbrev cX9_ruler : ByteArray := prog_1_method_22_code
def yX9_ruler : MethodName := ⟨RX9, "ruler", "(II)I"⟩
abbrev cX9_alone : ByteArray := prog_1_method_23_code
def yX9_alone : MethodName := ⟨RX9, "alone", "(IIIII)I"⟩
abbrev cX9_safe : ByteArray := prog_1_method_24_code
def yX9_safe : MethodName := ⟨RX9, "safe", "(I)I"⟩
abbrev cX9_undo : ByteArray := prog_1_method_25_code
def yX9_undo : MethodName := ⟨RX9, "undo", "()Z"⟩
abbrev cX9_image : ByteArray := prog_1_method_26_code
def yX9_image : MethodName := ⟨RX9, "image", "(Z)Z"⟩
abbrev cX9_look : ByteArray := prog_1_method_27_code
def yX9_look : MethodName := ⟨RX9, "look", "(I)I"⟩
abbrev cX9_isToneOrNone : ByteArray := prog_1_method_28_code
def yX9_isToneOrNone : MethodName := ⟨RX9, "isToneOrNone", "(I)Z"⟩
abbrev cX9_isTune : ByteArray := prog_1_method_29_code
def yX9_isTune : MethodName := ⟨RX9, "isTune", "(I)Z"⟩
abbrev cX9_isInRow : ByteArray := prog_1_method_30_code
def yX9_isInRow : MethodName := ⟨RX9, "isInRow", "(II)Z"⟩
abbrev cX9_areThree : ByteArray := prog_1_method_31_code
def yX9_areThree : MethodName := ⟨RX9, "areThree", "(III)Z"⟩
abbrev cX9_tellSlip : ByteArray := prog_1_method_32_code
def yX9_tellSlip : MethodName := ⟨RX9, "tellSlip", "(I)Z"⟩
abbrev cX9_tellOfPerson : ByteArray := prog_1_method_33_code
def yX9_tellOfPerson : MethodName := ⟨RX9, "tellOfPerson", "(III)Z"⟩
abbrev cX9_tellHum : ByteArray := prog_1_method_34_code
def yX9_tellHum : MethodName := ⟨RX9, "tellHum", "(II)Z"⟩
abbrev cX9_tellSounding : ByteArray := prog_1_method_35_code
def yX9_tellSounding : MethodName := ⟨RX9, "tellSounding", "(II)Z"⟩
abbrev cX9_tellLoud : ByteArray := prog_1_method_36_code
def yX9_tellLoud : MethodName := ⟨RX9, "tellLoud", "(II)Z"⟩
abbrev cX9_putBytes : ByteArray := prog_1_method_37_code
def yX9_putBytes : MethodName := ⟨RX9, "putBytes", "(I)V"⟩
abbrev cX9_stepsAgree : ByteArray := prog_1_method_38_code
def yX9_stepsAgree : MethodName := ⟨RX9, "stepsAgree", "(IIII)Z"⟩
abbrev cX9_firstSafeWords : ByteArray := prog_1_method_39_code
def yX9_firstSafeWords : MethodName := ⟨RX9, "firstSafeWords", "(I)I"⟩
def RX10 : String := "HearDifferenceModel"
def TX10 : u_T := fun k => match k with
  | 0 => ("HearDifferenceModel", "told", "I", false)
  | 1 => ("HearDifferenceModel", "now", "[I", true)
  | 2 => ("HearDifferenceModel", "rows", "[I", true)
  | 3 => ("HearDifferenceModel", "undoable", "I", false)
  | 4 => ("HearDifferenceModel", "people", "I", false)
  | 5 => ("HearDifferenceModel", "sounding", "I", false)
  | 6 => ("HearDifferenceModel", "loudOf", "[I", true)
  | 7 => ("HearDifferenceModel", "slip", "I", false)
  | 8 => ("HearDifferenceModel", "book", "[I", true)
  | 9 => ("HearDifferenceModel", "tape", "[I", true)
  | 10 => ("HearDifferenceModel", "taped", "I", false)
  | 11 => ("HearDifferenceModel", "spot", "I", false)
  | 12 => ("HearDifferenceModel", "from", "I", false)
  | 13 => ("HearDifferenceModel", "token", "I", false)
  | 14 => ("HearDifferenceModel", "value", "I", false)
  | 15 => ("HearDifferenceModel", "words", "[I", true)
  | 16 => ("HearDifferenceModel", "lineMany", "I", false)
  | 17 => ("HearDifferenceModel", "lineWord", "[I", true)
  | 18 => ("HearDifferenceModel", "lineFrom", "[I", true)
  | 19 => ("HearDifferenceModel", "lineTo", "[I", true)
  | 20 => ("HearDifferenceModel", "op", "[I", true)
  | 21 => ("HearDifferenceModel", "arg", "[I", true)
  | 22 => ("HearDifferenceModel", "codes", "I", false)
  | 23 => ("HearDifferenceModel", "open", "I", false)
  | 24 => ("HearDifferenceModel", "pending", "[I", true)
  | 25 => ("HearDifferenceModel", "pendings", "I", false)
  | 26 => ("HearDifferenceModel", "readFault", "I", false)
  | 27 => ("HearDifferenceModel", "readPlace", "I", false)
  | 28 => ("HearDifferenceModel", "faultKind", "I", false)
  | 29 => ("HearDifferenceModel", "faultPlace", "I", false)
  | 30 => ("HearDifferenceModel", "asked", "[I", true)
  | 31 => ("HearDifferenceModel", "stack", "[I", true)
  | 32 => ("HearDifferenceModel", "isWordHeard", "[Z", true)
  | 33 => ("HearDifferenceModel", "tuneLong", "[I", true)
  | 34 => ("HearDifferenceModel", "tuneOf", "[I", true)
  | 35 => ("HearDifferenceModel", "pairs", "I", false)
  | 36 => ("HearDifferenceModel", "pairA", "[I", true)
  | 37 => ("HearDifferenceModel", "pairB", "[I", true)
  | 38 => ("HearDifferenceModel", "turnAt", "[I", true)
  | 39 => ("HearDifferenceModel", "tells", "I", false)
  | 40 => ("HearDifferenceModel", "wordTold", "[I", true)
  | 41 => ("HearDifferenceModel", "row", "[I", true)
  | 42 => ("HearDifferenceModel", "howOften", "[I", true)
  | 43 => ("HearDifferenceModel", "firstFit", "[I", true)
  | 44 => ("HearDifferenceModel", "isTaking", "Z", false)
  | 45 => ("HearDifferenceModel", "hasImage", "Z", false)
  | 46 => ("HearDifferenceModel", "keptAt", "I", false)
  | _ => ("HearDifferenceModel", "images", "[I", true)
def tyX10 : Nat → FieldType := fun k => match k with
  | 0 => .int
  | 1 => .array .int
  | 2 => .array .int
  | 3 => .int
  | 4 => .int
  | 5 => .int
  | 6 => .array .int
  | 7 => .int
  | 8 => .array .int
  | 9 => .array .int
  | 10 => .int
  | 11 => .int
  | 12 => .int
  | 13 => .int
  | 14 => .int
  | 15 => .array .int
  | 16 => .int
  | 17 => .array .int
  | 18 => .array .int
  | 19 => .array .int
  | 20 => .array .int
  | 21 => .array .int
  | 22 => .int
  | 23 => .int
  | 24 => .array .int
  | 25 => .int
  | 26 => .int
  | 27 => .int
  | 28 => .int
  | 29 => .int
  | 30 => .array .int
  | 31 => .array .int
  | 32 => .array .boolean
  | 33 => .array .int
  | 34 => .array .int
  | 35 => .int
  | 36 => .array .int
  | 37 => .array .int
  | 38 => .array .int
  | 39 => .int
  | 40 => .array .int
  | 41 => .array .int
  | 42 => .array .int
  | 43 => .array .int
  | 44 => .boolean
  | 45 => .boolean
  | 46 => .int
  | _ => .array .int
abbrev wsX100 : List Cond := u_ws RX10 TX10 48
theorem nmX10 : ∀ a, a < 48 → ∀ b, b < 48 → a ≠ b → (TX10 a).2.1 ≠ (TX10 b).2.1 := by decide +kernel
theorem tyX10_ok : ∀ k, k < 48 → parseFieldDescriptor (TX10 k).2.2.1 = some (tyX10 k) := by decide +kernel
abbrev cX10_init : ByteArray := prog_12_method_1_code
def yX10_init : MethodName := ⟨RX10, "<init>", "()V"⟩
abbrev cX10_isIn : ByteArray := prog_12_method_3_code
def yX10_isIn : MethodName := ⟨RX10, "isIn", "(III)Z"⟩
abbrev cX10_ones : ByteArray := prog_12_method_4_code
def yX10_ones : MethodName := ⟨RX10, "ones", "(I)I"⟩
abbrev cX10_without : ByteArray := prog_12_method_5_code
def yX10_without : MethodName := ⟨RX10, "without", "(I)I"⟩
abbrev cX10_keepsAhead : ByteArray := prog_12_method_6_code
def yX10_keepsAhead : MethodName := ⟨RX10, "keepsAhead", "()V"⟩
abbrev cX10_undo : ByteArray := prog_12_method_7_code
def yX10_undo : MethodName := ⟨RX10, "undo", "()Z"⟩
abbrev cX10_state : ByteArray := prog_12_method_8_code
def yX10_state : MethodName := ⟨RX10, "state", "(I)I"⟩
abbrev cX10_draw : ByteArray := prog_12_method_9_code
def yX10_draw : MethodName := ⟨RX10, "draw", "(I)I"⟩
abbrev cX10_isPerson : ByteArray := prog_12_method_10_code
def yX10_isPerson : MethodName := ⟨RX10, "isPerson", "(I)Z"⟩
abbrev cX10_humOf : ByteArray := prog_12_method_11_code
def yX10_humOf : MethodName := ⟨RX10, "humOf", "(I)I"⟩
abbrev cX10_person : ByteArray := prog_12_method_12_code
def yX10_person : MethodName := ⟨RX10, "person", "(I)I"⟩
abbrev cX10_canSet : ByteArray := prog_12_method_13_code
def yX10_canSet : MethodName := ⟨RX10, "canSet", "(III)Z"⟩
abbrev cX10_set : ByteArray := prog_12_method_14_code
def yX10_set : MethodName := ⟨RX10, "set", "(III)Z"⟩
abbrev cX10_types : ByteArray := prog_12_method_15_code
def yX10_types : MethodName := ⟨RX10, "types", "(I)V"⟩
abbrev cX10_feed : ByteArray := prog_12_method_16_code
def yX10_feed : MethodName := ⟨RX10, "feed", "(IIIII)I"⟩
abbrev cX10_end : ByteArray := prog_12_method_17_code
def yX10_end : MethodName := ⟨RX10, "end", "(I)Z"⟩
abbrev cX10_raw : ByteArray := prog_12_method_18_code
def yX10_raw : MethodName := ⟨RX10, "raw", "(I)I"⟩
abbrev cX10_isLetter : ByteArray := prog_12_method_19_code
def yX10_isLetter : MethodName := ⟨RX10, "isLetter", "(I)Z"⟩
abbrev cX10_isDigit : ByteArray := prog_12_method_20_code
def yX10_isDigit : MethodName := ⟨RX10, "isDigit", "(I)Z"⟩
abbrev cX10_isMarkSign : ByteArray := prog_12_method_21_code
def yX10_isMarkSign : MethodName := ⟨RX10, "isMarkSign", "(I)Z"⟩
abbrev cX10_wordAt : ByteArray := prog_12_method_22_code
def yX10_wordAt : MethodName := ⟨RX10, "wordAt", "(II)I"⟩
abbrev cX10_reads : ByteArray := prog_12_method_23_code
def yX10_reads : MethodName := ⟨RX10, "reads", "()V"⟩
abbrev cX10_errs : ByteArray := prog_12_method_24_code
def yX10_errs : MethodName := ⟨RX10, "errs", "(I)I"⟩
abbrev cX10_isWord : ByteArray := prog_12_method_25_code
def yX10_isWord : MethodName := ⟨RX10, "isWord", "(I)Z"⟩
abbrev cX10_isSign : ByteArray := prog_12_method_26_code
def yX10_isSign : MethodName := ⟨RX10, "isSign", "(I)Z"⟩
abbrev cX10_emits : ByteArray := prog_12_method_27_code
def yX10_emits : MethodName := ⟨RX10, "emits", "(II)V"⟩
abbrev cX10_readUnit : ByteArray := prog_12_method_28_code
def yX10_readUnit : MethodName := ⟨RX10, "readUnit", "()I"⟩
abbrev cX10_readProduct : ByteArray := prog_12_method_29_code
def yX10_readProduct : MethodName := ⟨RX10, "readProduct", "()I"⟩
abbrev cX10_readSum : ByteArray := prog_12_method_30_code
def yX10_readSum : MethodName := ⟨RX10, "readSum", "()I"⟩
abbrev cX10_readCompared : ByteArray := prog_12_method_31_code
def yX10_readCompared : MethodName := ⟨RX10, "readCompared", "()I"⟩
abbrev cX10_waits : ByteArray := prog_12_method_32_code
def yX10_waits : MethodName := ⟨RX10, "waits", "(I)V"⟩
abbrev cX10_settles : ByteArray := prog_12_method_33_code
def yX10_settles : MethodName := ⟨RX10, "settles", "(I)V"⟩
abbrev cX10_readAny : ByteArray := prog_12_method_34_code
def yX10_readAny : MethodName := ⟨RX10, "readAny", "()I"⟩
abbrev cX10_readText : ByteArray := prog_12_method_35_code
def yX10_readText : MethodName := ⟨RX10, "readText", "()I"⟩
abbrev cX10_text : ByteArray := prog_12_method_36_code
def yX10_text : MethodName := ⟨RX10, "text", "()I"⟩
abbrev cX10_fault : ByteArray := prog_12_method_37_code
def yX10_fault : MethodName := ⟨RX10, "fault", "(I)I"⟩
abbrev cX10_twoOf : ByteArray := prog_12_method_38_code
def yX10_twoOf : MethodName := ⟨RX10, "twoOf", "(III)I"⟩
abbrev cX10_isSo : ByteArray := prog_12_method_39_code
def yX10_isSo : MethodName := ⟨RX10, "isSo", "(II)Z"⟩
abbrev cX10_doesHear : ByteArray := prog_12_method_40_code
def yX10_doesHear : MethodName := ⟨RX10, "doesHear", "(IIIIII)Z"⟩
abbrev cX10_hearsNow : ByteArray := prog_12_method_41_code
def yX10_hearsNow : MethodName := ⟨RX10, "hearsNow", "(IIII)Z"⟩
abbrev cX10_areThree : ByteArray := prog_12_method_42_code
def yX10_areThree : MethodName := ⟨RX10, "areThree", "(III)Z"⟩
abbrev cX10_hears : ByteArray := prog_12_method_43_code
def yX10_hears : MethodName := ⟨RX10, "hears", "(III)I"⟩
abbrev cX10_couplesOf : ByteArray := prog_12_method_44_code
def yX10_couplesOf : MethodName := ⟨RX10, "couplesOf", "(II)I"⟩
abbrev cX10_wordsOf : ByteArray := prog_12_method_45_code
def yX10_wordsOf : MethodName := ⟨RX10, "wordsOf", "(I)I"⟩
abbrev cX10_deaf : ByteArray := prog_12_method_46_code
def yX10_deaf : MethodName := ⟨RX10, "deaf", "(II)I"⟩
abbrev cX10_of : ByteArray := prog_12_method_47_code
def yX10_of : MethodName := ⟨RX10, "of", "(II)I"⟩
abbrev cX10_notes : ByteArray := prog_12_method_48_code
def yX10_notes : MethodName := ⟨RX10, "notes", "(III)V"⟩
abbrev cX10_speak : ByteArray := prog_12_method_49_code
def yX10_speak : MethodName := ⟨RX10, "speak", "(II)I"⟩
abbrev cX10_slips : ByteArray := prog_12_method_50_code
def yX10_slips : MethodName := ⟨RX10, "slips", "()I"⟩
abbrev cX10_hours : ByteArray := prog_12_method_51_code
def yX10_hours : MethodName := ⟨RX10, "hours", "(I)I"⟩
abbrev cX10_book : ByteArray := prog_12_method_52_code
def yX10_book : MethodName := ⟨RX10, "book", "(II)I"⟩
abbrev cX10_isTune : ByteArray := prog_12_method_53_code
def yX10_isTune : MethodName := ⟨RX10, "isTune", "(I)Z"⟩
abbrev cX10_tune : ByteArray := prog_12_method_54_code
def yX10_tune : MethodName := ⟨RX10, "tune", "(II)I"⟩
abbrev cX10_hasSteps : ByteArray := prog_12_method_55_code
def yX10_hasSteps : MethodName := ⟨RX10, "hasSteps", "(III)Z"⟩
abbrev cX10_same : ByteArray := prog_12_method_56_code
def yX10_same : MethodName := ⟨RX10, "same", "(II)I"⟩
abbrev cX10_pair : ByteArray := prog_12_method_57_code
def yX10_pair : MethodName := ⟨RX10, "pair", "(II)I"⟩
abbrev cX10_areWithHums : ByteArray := prog_12_method_58_code
def yX10_areWithHums : MethodName := ⟨RX10, "areWithHums", "(I)Z"⟩
abbrev cX10_cannotBoth : ByteArray := prog_12_method_59_code
def yX10_cannotBoth : MethodName := ⟨RX10, "cannotBoth", "(II)Z"⟩
abbrev cX10_canHave : ByteArray := prog_12_method_60_code
def yX10_canHave : MethodName := ⟨RX10, "canHave", "(II)Z"⟩
abbrev cX10_canAll : ByteArray := prog_12_method_61_code
def yX10_canAll : MethodName := ⟨RX10, "canAll", "(I)Z"⟩
abbrev cX10_turnOf : ByteArray := prog_12_method_62_code
def yX10_turnOf : MethodName := ⟨RX10, "turnOf", "(I)I"⟩
abbrev cX10_tell : ByteArray := prog_12_method_63_code
def yX10_tell : MethodName := ⟨RX10, "tell", "(I)I"⟩
abbrev cX10_firstRow : ByteArray := prog_12_method_64_code
def yX10_firstRow : MethodName := ⟨RX10, "firstRow", "(I)V"⟩
abbrev cX10_nextRow : ByteArray := prog_12_method_65_code
def yX10_nextRow : MethodName := ⟨RX10, "nextRow", "(II)Z"⟩
abbrev cX10_countsWords : ByteArray := prog_12_method_66_code
def yX10_countsWords : MethodName := ⟨RX10, "countsWords", "(I)V"⟩
abbrev cX10_areJustTold : ByteArray := prog_12_method_67_code
def yX10_areJustTold : MethodName := ⟨RX10, "areJustTold", "(I)Z"⟩
abbrev cX10_fits : ByteArray := prog_12_method_68_code
def yX10_fits : MethodName := ⟨RX10, "fits", "(I)I"⟩
abbrev cX10_fit : ByteArray := prog_12_method_69_code
def yX10_fit : MethodName := ⟨RX10, "fit", "(II)I"⟩
abbrev cX10_haveAllTold : ByteArray := prog_12_method_70_code
def yX10_haveAllTold : MethodName := ⟨RX10, "haveAllTold", "(I)Z"⟩
abbrev cX10_fewestTones : ByteArray := prog_12_method_71_code
def yX10_fewestTones : MethodName := ⟨RX10, "fewestTones", "()I"⟩
abbrev cX10_fewest : ByteArray := prog_12_method_72_code
def yX10_fewest : MethodName := ⟨RX10, "fewest", "(I)I"⟩
abbrev cX10_areUnlike : ByteArray := prog_12_method_73_code
def yX10_areUnlike : MethodName := ⟨RX10, "areUnlike", "(I)Z"⟩
abbrev cX10_findsRuler : ByteArray := prog_12_method_74_code
def yX10_findsRuler : MethodName := ⟨RX10, "findsRuler", "(I)V"⟩
abbrev cX10_ruler : ByteArray := prog_12_method_75_code
def yX10_ruler : MethodName := ⟨RX10, "ruler", "(II)I"⟩
abbrev cX10_isAlone : ByteArray := prog_12_method_76_code
def yX10_isAlone : MethodName := ⟨RX10, "isAlone", "(IIIII)Z"⟩
abbrev cX10_alone : ByteArray := prog_12_method_77_code
def yX10_alone : MethodName := ⟨RX10, "alone", "(IIIII)I"⟩
abbrev cX10_canSay : ByteArray := prog_12_method_78_code
def yX10_canSay : MethodName := ⟨RX10, "canSay", "(I)Z"⟩
abbrev cX10_safe : ByteArray := prog_12_method_79_code
def yX10_safe : MethodName := ⟨RX10, "safe", "(I)I"⟩
abbrev cX10_kept : ByteArray := prog_12_method_80_code
def yX10_kept : MethodName := ⟨RX10, "kept", "(I)I"⟩
abbrev cX10_keepsLaw : ByteArray := prog_12_method_81_code
def yX10_keepsLaw : MethodName := ⟨RX10, "keepsLaw", "()V"⟩
abbrev cX10_keepsRows : ByteArray := prog_12_method_82_code
def yX10_keepsRows : MethodName := ⟨RX10, "keepsRows", "()V"⟩
abbrev cX10_image : ByteArray := prog_12_method_83_code
def yX10_image : MethodName := ⟨RX10, "image", "(Z)Z"⟩
abbrev cX10_look : ByteArray := prog_12_method_84_code
def yX10_look : MethodName := ⟨RX10, "look", "(I)I"⟩
def RJx145de : String := "java/io/Serializable"
def TJx145de : u_T := fun k => match k with
  | _ => ("", "", "", false)
def tyJx145de : Nat → FieldType := fun k => match k with
  | _ => .int
abbrev wsJx145de0 : List Cond := u_ws RJx145de TJx145de 0
theorem nmJx145de : ∀ a, a < 0 → ∀ b, b < 0 → a ≠ b → (TJx145de a).2.1 ≠ (TJx145de b).2.1 := by decide +kernel
theorem tyJx145de_ok : ∀ k, k < 0 → parseFieldDescriptor (TJx145de k).2.2.1 = some (tyJx145de k) := by decide +kernel
def RJx9f9b0 : String := "java/lang/CharSequence"
def TJx9f9b0 : u_T := fun k => match k with
  | _ => ("", "", "", false)
def tyJx9f9b0 : Nat → FieldType := fun k => match k with
  | _ => .int
abbrev wsJx9f9b00 : List Cond := u_ws RJx9f9b0 TJx9f9b0 0
theorem nmJx9f9b0 : ∀ a, a < 0 → ∀ b, b < 0 → a ≠ b → (TJx9f9b0 a).2.1 ≠ (TJx9f9b0 b).2.1 := by decide +kernel
theorem tyJx9f9b0_ok : ∀ k, k < 0 → parseFieldDescriptor (TJx9f9b0 k).2.2.1 = some (tyJx9f9b0 k) := by decide +kernel
def RJ11 : String := "java/lang/Character"
def TJ11 : u_T := fun k => match k with
  | _ => ("", "", "", false)
def tyJ11 : Nat → FieldType := fun k => match k with
  | _ => .int
abbrev wsJ110 : List Cond := u_ws RJ11 TJ11 0
theorem nmJ11 : ∀ a, a < 0 → ∀ b, b < 0 → a ≠ b → (TJ11 a).2.1 ≠ (TJ11 b).2.1 := by decide +kernel
theorem tyJ11_ok : ∀ k, k < 0 → parseFieldDescriptor (TJ11 k).2.2.1 = some (tyJ11 k) := by decide +kernel
abbrev cJ11_isValidCodePoint_9a6ad : ByteArray := prog_13_method_11_code
def yJ11_isValidCodePoint_9a6ad : MethodName := ⟨RJ11, "isValidCodePoint", "(I)Z"⟩
abbrev cJ11_highSurrogate_5068e : ByteArray := prog_13_method_28_code
def yJ11_highSurrogate_5068e : MethodName := ⟨RJ11, "highSurrogate", "(I)C"⟩
abbrev cJ11_lowSurrogate_5068e : ByteArray := prog_13_method_29_code
def yJ11_lowSurrogate_5068e : MethodName := ⟨RJ11, "lowSurrogate", "(I)C"⟩
def RJxb160c : String := "java/lang/Comparable"
def TJxb160c : u_T := fun k => match k with
  | _ => ("", "", "", false)
def tyJxb160c : Nat → FieldType := fun k => match k with
  | _ => .int
abbrev wsJxb160c0 : List Cond := u_ws RJxb160c TJxb160c 0
theorem nmJxb160c : ∀ a, a < 0 → ∀ b, b < 0 → a ≠ b → (TJxb160c a).2.1 ≠ (TJxb160c b).2.1 := by decide +kernel
theorem tyJxb160c_ok : ∀ k, k < 0 → parseFieldDescriptor (TJxb160c k).2.2.1 = some (tyJxb160c k) := by decide +kernel
def RJ6 : String := "java/lang/Integer"
def TJ6 : u_T := fun k => match k with
  | _ => ("", "", "", false)
def tyJ6 : Nat → FieldType := fun k => match k with
  | _ => .int
abbrev wsJ60 : List Cond := u_ws RJ6 TJ6 0
theorem nmJ6 : ∀ a, a < 0 → ∀ b, b < 0 → a ≠ b → (TJ6 a).2.1 ≠ (TJ6 b).2.1 := by decide +kernel
theorem tyJ6_ok : ∀ k, k < 0 → parseFieldDescriptor (TJ6 k).2.2.1 = some (tyJ6 k) := by decide +kernel
abbrev cJ6_bitCount_0f7a4 : ByteArray := prog_14_method_49_code
def yJ6_bitCount_0f7a4 : MethodName := ⟨RJ6, "bitCount", "(I)I"⟩
def RJ13 : String := "java/lang/Long"
def TJ13 : u_T := fun k => match k with
  | _ => ("", "", "", false)
def tyJ13 : Nat → FieldType := fun k => match k with
  | _ => .int
abbrev wsJ130 : List Cond := u_ws RJ13 TJ13 0
theorem nmJ13 : ∀ a, a < 0 → ∀ b, b < 0 → a ≠ b → (TJ13 a).2.1 ≠ (TJ13 b).2.1 := by decide +kernel
theorem tyJ13_ok : ∀ k, k < 0 → parseFieldDescriptor (TJ13 k).2.2.1 = some (tyJ13 k) := by decide +kernel
abbrev cJ13_bitCount_95d88 : ByteArray := prog_15_method_50_code
def yJ13_bitCount_95d88 : MethodName := ⟨RJ13, "bitCount", "(J)I"⟩
def RJ9 : String := "java/lang/Math"
def TJ9 : u_T := fun k => match k with
  | _ => ("", "", "", false)
def tyJ9 : Nat → FieldType := fun k => match k with
  | _ => .int
abbrev wsJ90 : List Cond := u_ws RJ9 TJ9 0
theorem nmJ9 : ∀ a, a < 0 → ∀ b, b < 0 → a ≠ b → (TJ9 a).2.1 ≠ (TJ9 b).2.1 := by decide +kernel
theorem tyJ9_ok : ∀ k, k < 0 → parseFieldDescriptor (TJ9 k).2.2.1 = some (tyJ9 k) := by decide +kernel
abbrev cJ9_abs_0f7a4 : ByteArray := prog_16_method_59_code
def yJ9_abs_0f7a4 : MethodName := ⟨RJ9, "abs", "(I)I"⟩
abbrev cJ9_max_7cf53 : ByteArray := prog_16_method_65_code
def yJ9_max_7cf53 : MethodName := ⟨RJ9, "max", "(II)I"⟩
abbrev cJ9_min_7cf53 : ByteArray := prog_16_method_69_code
def yJ9_min_7cf53 : MethodName := ⟨RJ9, "min", "(II)I"⟩
def RJ0 : String := "java/lang/String"
def TJ0 : u_T := fun k => match k with
  | _ => ("", "", "", false)
def tyJ0 : Nat → FieldType := fun k => match k with
  | _ => .int
abbrev wsJ00 : List Cond := u_ws RJ0 TJ0 0
theorem nmJ0 : ∀ a, a < 0 → ∀ b, b < 0 → a ≠ b → (TJ0 a).2.1 ≠ (TJ0 b).2.1 := by decide +kernel
theorem tyJ0_ok : ∀ k, k < 0 → parseFieldDescriptor (TJ0 k).2.2.1 = some (tyJ0 k) := by decide +kernel
abbrev cJ0_length_8abf5 : ByteArray := prog_17_method_54_code
def yJ0_length_8abf5 : MethodName := ⟨RJ0, "length", "()I"⟩
abbrev cJ0_charAt_5068e : ByteArray := prog_17_method_56_code
def yJ0_charAt_5068e : MethodName := ⟨RJ0, "charAt", "(I)C"⟩
abbrev cJ0_indexOf_0f7a4 : ByteArray := prog_17_method_79_code
def yJ0_indexOf_0f7a4 : MethodName := ⟨RJ0, "indexOf", "(I)I"⟩
abbrev cJ0_indexOf_7cf53 : ByteArray := prog_17_method_80_code
def yJ0_indexOf_7cf53 : MethodName := ⟨RJ0, "indexOf", "(II)I"⟩
abbrev cJ0_coder_7d493 : ByteArray := prog_17_method_152_code
def yJ0_coder_7d493 : MethodName := ⟨RJ0, "coder", "()B"⟩
abbrev cJ0_isLatin1_aae02 : ByteArray := prog_17_method_154_code
def yJ0_isLatin1_aae02 : MethodName := ⟨RJ0, "isLatin1", "()Z"⟩
abbrev cJ0_checkIndex_df160 : ByteArray := prog_17_method_155_code
def yJ0_checkIndex_df160 : MethodName := ⟨RJ0, "checkIndex", "(II)V"⟩
abbrev cJ0_checkBoundsBeginEnd_23922 : ByteArray := prog_17_method_158_code
def yJ0_checkBoundsBeginEnd_23922 : MethodName := ⟨RJ0, "checkBoundsBeginEnd", "(III)V"⟩
def RJ1 : String := "java/lang/StringLatin1"
def TJ1 : u_T := fun k => match k with
  | _ => ("", "", "", false)
def tyJ1 : Nat → FieldType := fun k => match k with
  | _ => .int
abbrev wsJ10 : List Cond := u_ws RJ1 TJ1 0
theorem nmJ1 : ∀ a, a < 0 → ∀ b, b < 0 → a ≠ b → (TJ1 a).2.1 ≠ (TJ1 b).2.1 := by decide +kernel
theorem tyJ1_ok : ∀ k, k < 0 → parseFieldDescriptor (TJ1 k).2.2.1 = some (tyJ1 k) := by decide +kernel
abbrev cJ1_charAt_3b067 : ByteArray := prog_18_method_2_code
def yJ1_charAt_3b067 : MethodName := ⟨RJ1, "charAt", "([BI)C"⟩
abbrev cJ1_canEncode_9a6ad : ByteArray := prog_18_method_4_code
def yJ1_canEncode_9a6ad : MethodName := ⟨RJ1, "canEncode", "(I)Z"⟩
abbrev cJ1_indexOf_4cfef : ByteArray := prog_18_method_22_code
def yJ1_indexOf_4cfef : MethodName := ⟨RJ1, "indexOf", "([BIII)I"⟩
abbrev cJ1_indexOfChar_4cfef : ByteArray := prog_18_method_23_code
def yJ1_indexOfChar_4cfef : MethodName := ⟨RJ1, "indexOfChar", "([BIII)I"⟩
def RJ2 : String := "java/lang/StringUTF16"
def TJ2 : u_T := fun k => match k with
  | _ => ("", "", "", false)
def tyJ2 : Nat → FieldType := fun k => match k with
  | _ => .int
abbrev wsJ20 : List Cond := u_ws RJ2 TJ2 0
theorem nmJ2 : ∀ a, a < 0 → ∀ b, b < 0 → a ≠ b → (TJ2 a).2.1 ≠ (TJ2 b).2.1 := by decide +kernel
theorem tyJ2_ok : ∀ k, k < 0 → parseFieldDescriptor (TJ2 k).2.2.1 = some (tyJ2 k) := by decide +kernel
abbrev cJ2_getChar_3b067 : ByteArray := prog_19_method_5_code
def yJ2_getChar_3b067 : MethodName := ⟨RJ2, "getChar", "([BI)C"⟩
abbrev cJ2_length_9d52b : ByteArray := prog_19_method_6_code
def yJ2_length_9d52b : MethodName := ⟨RJ2, "length", "([B)I"⟩
abbrev cJ2_indexOf_4cfef : ByteArray := prog_19_method_40_code
def yJ2_indexOf_4cfef : MethodName := ⟨RJ2, "indexOf", "([BIII)I"⟩
abbrev cJ2_indexOfChar_4cfef : ByteArray := prog_19_method_47_code
def yJ2_indexOfChar_4cfef : MethodName := ⟨RJ2, "indexOfChar", "([BIII)I"⟩
abbrev cJ2_indexOfCharUnsafe_4cfef : ByteArray := prog_19_method_48_code
def yJ2_indexOfCharUnsafe_4cfef : MethodName := ⟨RJ2, "indexOfCharUnsafe", "([BIII)I"⟩
abbrev cJ2_indexOfSupplementary_4cfef : ByteArray := prog_19_method_49_code
def yJ2_indexOfSupplementary_4cfef : MethodName := ⟨RJ2, "indexOfSupplementary", "([BIII)I"⟩
abbrev cJ2_charAt_3b067 : ByteArray := prog_19_method_83_code
def yJ2_charAt_3b067 : MethodName := ⟨RJ2, "charAt", "([BI)C"⟩
abbrev cJ2_checkIndex_2214a : ByteArray := prog_19_method_91_code
def yJ2_checkIndex_2214a : MethodName := ⟨RJ2, "checkIndex", "(I[B)V"⟩
abbrev cJ2_checkBoundsBeginEnd_d044e : ByteArray := prog_19_method_93_code
def yJ2_checkBoundsBeginEnd_d044e : MethodName := ⟨RJ2, "checkBoundsBeginEnd", "(II[B)V"⟩
def RJ10 : String := "java/lang/System"
def TJ10 : u_T := fun k => match k with
  | _ => ("", "", "", false)
def tyJ10 : Nat → FieldType := fun k => match k with
  | _ => .int
abbrev wsJ100 : List Cond := u_ws RJ10 TJ10 0
theorem nmJ10 : ∀ a, a < 0 → ∀ b, b < 0 → a ≠ b → (TJ10 a).2.1 ≠ (TJ10 b).2.1 := by decide +kernel
theorem tyJ10_ok : ∀ k, k < 0 → parseFieldDescriptor (TJ10 k).2.2.1 = some (tyJ10 k) := by decide +kernel
def RJxfd54e : String := "java/lang/constant/Constable"
def TJxfd54e : u_T := fun k => match k with
  | _ => ("", "", "", false)
def tyJxfd54e : Nat → FieldType := fun k => match k with
  | _ => .int
abbrev wsJxfd54e0 : List Cond := u_ws RJxfd54e TJxfd54e 0
theorem nmJxfd54e : ∀ a, a < 0 → ∀ b, b < 0 → a ≠ b → (TJxfd54e a).2.1 ≠ (TJxfd54e b).2.1 := by decide +kernel
theorem tyJxfd54e_ok : ∀ k, k < 0 → parseFieldDescriptor (TJxfd54e k).2.2.1 = some (tyJxfd54e k) := by decide +kernel
def RJx3cf43 : String := "java/lang/constant/ConstantDesc"
def TJx3cf43 : u_T := fun k => match k with
  | _ => ("", "", "", false)
def tyJx3cf43 : Nat → FieldType := fun k => match k with
  | _ => .int
abbrev wsJx3cf430 : List Cond := u_ws RJx3cf43 TJx3cf43 0
theorem nmJx3cf43 : ∀ a, a < 0 → ∀ b, b < 0 → a ≠ b → (TJx3cf43 a).2.1 ≠ (TJx3cf43 b).2.1 := by decide +kernel
theorem tyJx3cf43_ok : ∀ k, k < 0 → parseFieldDescriptor (TJx3cf43 k).2.2.1 = some (tyJx3cf43 k) := by decide +kernel
def RJ7 : String := "java/util/Arrays"
def TJ7 : u_T := fun k => match k with
  | _ => ("", "", "", false)
def tyJ7 : Nat → FieldType := fun k => match k with
  | _ => .int
abbrev wsJ70 : List Cond := u_ws RJ7 TJ7 0
theorem nmJ7 : ∀ a, a < 0 → ∀ b, b < 0 → a ≠ b → (TJ7 a).2.1 ≠ (TJ7 b).2.1 := by decide +kernel
theorem tyJ7_ok : ∀ k, k < 0 → parseFieldDescriptor (TJ7 k).2.2.1 = some (tyJ7 k) := by decide +kernel
abbrev cJ7_fill_53178 : ByteArray := prog_21_method_103_code
def yJ7_fill_53178 : MethodName := ⟨RJ7, "fill", "([II)V"⟩
def RJ3 : String := "jdk/internal/util/Preconditions"
def TJ3 : u_T := fun k => match k with
  | _ => ("", "", "", false)
def tyJ3 : Nat → FieldType := fun k => match k with
  | _ => .int
abbrev wsJ30 : List Cond := u_ws RJ3 TJ3 0
theorem nmJ3 : ∀ a, a < 0 → ∀ b, b < 0 → a ≠ b → (TJ3 a).2.1 ≠ (TJ3 b).2.1 := by decide +kernel
theorem tyJ3_ok : ∀ k, k < 0 → parseFieldDescriptor (TJ3 k).2.2.1 = some (tyJ3 k) := by decide +kernel
abbrev cJ3_checkIndex_8e157 : ByteArray := prog_22_method_11_code
def yJ3_checkIndex_8e157 : MethodName := ⟨RJ3, "checkIndex", "(IILjava/util/function/BiFunction;)I"⟩
abbrev cJ3_checkFromToIndex_8c36e : ByteArray := prog_22_method_12_code
def yJ3_checkFromToIndex_8c36e : MethodName := ⟨RJ3, "checkFromToIndex", "(IIILjava/util/function/BiFunction;)I"⟩
def RL : String := "HearDifferenceLaw"
abbrev cL_law : ByteArray := code
def yL_law : MethodName := ⟨RL, "law", "([I)Z"⟩
abbrev vwCl : List vw_C := [(RX0, TX0, 2), (RX1, TX1, 1), (RX2, TX2, 9), (RX3, TX3, 4), (RX4, TX4, 5), (RX5, TX5, 6), (RX6, TX6, 15), (RX7, TX7, 2), (RX8, TX8, 16), (RX9, TX9, 13), (RX10, TX10, 48)]
end
section
theorem dX0_init_0 : decode cX0_init 0 = .ok (.aload_n 0, 1) := by decide +kernel
theorem dX0_init_1 : decode cX0_init 1 = .ok (.invokespecial 3, 3) := by decide +kernel
theorem dX0_init_4 : decode cX0_init 4 = .ok (.aload_n 0, 1) := by decide +kernel
theorem dX0_init_5 : decode cX0_init 5 = .ok (.sipush 500, 3) := by decide +kernel
theorem dX0_init_8 : decode cX0_init 8 = .ok (.newarray .int, 2) := by decide +kernel
theorem dX0_init_10 : decode cX0_init 10 = .ok (.putfield 9, 3) := by decide +kernel
theorem dX0_init_13 : decode cX0_init 13 = .ok (.return_, 1) := by decide +kernel
theorem dX0_copyFrom_0 : decode cX0_copyFrom 0 = .ok (.aload_n 0, 1) := by decide +kernel
theorem dX0_copyFrom_1 : decode cX0_copyFrom 1 = .ok (.aload_n 1, 1) := by decide +kernel
theorem dX0_copyFrom_2 : decode cX0_copyFrom 2 = .ok (.getfield 15, 3) := by decide +kernel
theorem dX0_copyFrom_5 : decode cX0_copyFrom 5 = .ok (.putfield 15, 3) := by decide +kernel
theorem dX0_copyFrom_8 : decode cX0_copyFrom 8 = .ok (.aload_n 1, 1) := by decide +kernel
theorem dX0_copyFrom_9 : decode cX0_copyFrom 9 = .ok (.getfield 9, 3) := by decide +kernel
theorem dX0_copyFrom_12 : decode cX0_copyFrom 12 = .ok (.iconst 0, 1) := by decide +kernel
theorem dX0_copyFrom_13 : decode cX0_copyFrom 13 = .ok (.aload_n 0, 1) := by decide +kernel
theorem dX0_copyFrom_14 : decode cX0_copyFrom 14 = .ok (.getfield 9, 3) := by decide +kernel
theorem dX0_copyFrom_17 : decode cX0_copyFrom 17 = .ok (.iconst 0, 1) := by decide +kernel
theorem dX0_copyFrom_18 : decode cX0_copyFrom 18 = .ok (.aload_n 0, 1) := by decide +kernel
theorem dX0_copyFrom_19 : decode cX0_copyFrom 19 = .ok (.getfield 15, 3) := by decide +kernel
theorem dX0_copyFrom_22 : decode cX0_copyFrom 22 = .ok (.iconst 5, 1) := by decide +kernel
theorem dX0_copyFrom_23 : decode cX0_copyFrom 23 = .ok (.imul, 1) := by decide +kernel
theorem dX0_copyFrom_24 : decode cX0_copyFrom 24 = .ok (.invokestatic 19, 3) := by decide +kernel
theorem dX0_copyFrom_27 : decode cX0_copyFrom 27 = .ok (.return_, 1) := by decide +kernel
theorem dX0_write_0 : decode cX0_write 0 = .ok (.aload_n 0, 1) := by decide +kernel
theorem dX0_write_1 : decode cX0_write 1 = .ok (.getfield 15, 3) := by decide +kernel
theorem dX0_write_4 : decode cX0_write 4 = .ok (.bipush 100, 2) := by decide +kernel
theorem dX0_write_6 : decode cX0_write 6 = .ok (.if_icmp .lt 4, 3) := by decide +kernel
theorem dX0_write_9 : decode cX0_write 9 = .ok (.return_, 1) := by decide +kernel
theorem dX0_write_10 : decode cX0_write 10 = .ok (.aload_n 0, 1) := by decide +kernel
theorem dX0_write_11 : decode cX0_write 11 = .ok (.getfield 15, 3) := by decide +kernel
theorem dX0_write_14 : decode cX0_write 14 = .ok (.iconst 5, 1) := by decide +kernel
theorem dX0_write_15 : decode cX0_write 15 = .ok (.imul, 1) := by decide +kernel
theorem dX0_write_16 : decode cX0_write 16 = .ok (.istore 6, 2) := by decide +kernel
theorem dX0_write_18 : decode cX0_write 18 = .ok (.aload_n 0, 1) := by decide +kernel
theorem dX0_write_19 : decode cX0_write 19 = .ok (.getfield 9, 3) := by decide +kernel
theorem dX0_write_22 : decode cX0_write 22 = .ok (.iload 6, 2) := by decide +kernel
theorem dX0_write_24 : decode cX0_write 24 = .ok (.iload_n 1, 1) := by decide +kernel
theorem dX0_write_25 : decode cX0_write 25 = .ok (.iastore, 1) := by decide +kernel
theorem dX0_write_26 : decode cX0_write 26 = .ok (.aload_n 0, 1) := by decide +kernel
theorem dX0_write_27 : decode cX0_write 27 = .ok (.getfield 9, 3) := by decide +kernel
theorem dX0_write_30 : decode cX0_write 30 = .ok (.iload 6, 2) := by decide +kernel
theorem dX0_write_32 : decode cX0_write 32 = .ok (.iconst 1, 1) := by decide +kernel
theorem dX0_write_33 : decode cX0_write 33 = .ok (.iadd, 1) := by decide +kernel
theorem dX0_write_34 : decode cX0_write 34 = .ok (.iload_n 2, 1) := by decide +kernel
theorem dX0_write_35 : decode cX0_write 35 = .ok (.iastore, 1) := by decide +kernel
theorem dX0_write_36 : decode cX0_write 36 = .ok (.aload_n 0, 1) := by decide +kernel
theorem dX0_write_37 : decode cX0_write 37 = .ok (.getfield 9, 3) := by decide +kernel
theorem dX0_write_40 : decode cX0_write 40 = .ok (.iload 6, 2) := by decide +kernel
theorem dX0_write_42 : decode cX0_write 42 = .ok (.iconst 2, 1) := by decide +kernel
theorem dX0_write_43 : decode cX0_write 43 = .ok (.iadd, 1) := by decide +kernel
theorem dX0_write_44 : decode cX0_write 44 = .ok (.iload_n 3, 1) := by decide +kernel
theorem dX0_write_45 : decode cX0_write 45 = .ok (.iastore, 1) := by decide +kernel
theorem dX0_write_46 : decode cX0_write 46 = .ok (.aload_n 0, 1) := by decide +kernel
theorem dX0_write_47 : decode cX0_write 47 = .ok (.getfield 9, 3) := by decide +kernel
theorem dX0_write_50 : decode cX0_write 50 = .ok (.iload 6, 2) := by decide +kernel
theorem dX0_write_52 : decode cX0_write 52 = .ok (.iconst 3, 1) := by decide +kernel
theorem dX0_write_53 : decode cX0_write 53 = .ok (.iadd, 1) := by decide +kernel
theorem dX0_write_54 : decode cX0_write 54 = .ok (.iload 4, 2) := by decide +kernel
theorem dX0_write_56 : decode cX0_write 56 = .ok (.iastore, 1) := by decide +kernel
theorem dX0_write_57 : decode cX0_write 57 = .ok (.aload_n 0, 1) := by decide +kernel
theorem dX0_write_58 : decode cX0_write 58 = .ok (.getfield 9, 3) := by decide +kernel
theorem dX0_write_61 : decode cX0_write 61 = .ok (.iload 6, 2) := by decide +kernel
theorem dX0_write_63 : decode cX0_write 63 = .ok (.iconst 4, 1) := by decide +kernel
theorem dX0_write_64 : decode cX0_write 64 = .ok (.iadd, 1) := by decide +kernel
theorem dX0_write_65 : decode cX0_write 65 = .ok (.iload 5, 2) := by decide +kernel
theorem dX0_write_67 : decode cX0_write 67 = .ok (.iastore, 1) := by decide +kernel
theorem dX0_write_68 : decode cX0_write 68 = .ok (.aload_n 0, 1) := by decide +kernel
theorem dX0_write_69 : decode cX0_write 69 = .ok (.dup, 1) := by decide +kernel
theorem dX0_write_70 : decode cX0_write 70 = .ok (.getfield 15, 3) := by decide +kernel
theorem dX0_write_73 : decode cX0_write 73 = .ok (.iconst 1, 1) := by decide +kernel
theorem dX0_write_74 : decode cX0_write 74 = .ok (.iadd, 1) := by decide +kernel
theorem dX0_write_75 : decode cX0_write 75 = .ok (.putfield 15, 3) := by decide +kernel
theorem dX0_write_78 : decode cX0_write 78 = .ok (.return_, 1) := by decide +kernel
theorem dX0_read_0 : decode cX0_read 0 = .ok (.iload_n 1, 1) := by decide +kernel
theorem dX0_read_1 : decode cX0_read 1 = .ok (.ifCond .lt 20, 3) := by decide +kernel
theorem dX0_read_4 : decode cX0_read 4 = .ok (.iload_n 1, 1) := by decide +kernel
theorem dX0_read_5 : decode cX0_read 5 = .ok (.aload_n 0, 1) := by decide +kernel
theorem dX0_read_6 : decode cX0_read 6 = .ok (.getfield 15, 3) := by decide +kernel
theorem dX0_read_9 : decode cX0_read 9 = .ok (.if_icmp .ge 12, 3) := by decide +kernel
theorem dX0_read_12 : decode cX0_read 12 = .ok (.iload_n 2, 1) := by decide +kernel
theorem dX0_read_13 : decode cX0_read 13 = .ok (.ifCond .lt 8, 3) := by decide +kernel
theorem dX0_read_16 : decode cX0_read 16 = .ok (.iload_n 2, 1) := by decide +kernel
theorem dX0_read_17 : decode cX0_read 17 = .ok (.iconst 5, 1) := by decide +kernel
theorem dX0_read_18 : decode cX0_read 18 = .ok (.if_icmp .lt 5, 3) := by decide +kernel
theorem dX0_read_21 : decode cX0_read 21 = .ok (.iconst (-1), 1) := by decide +kernel
theorem dX0_read_22 : decode cX0_read 22 = .ok (.ireturn, 1) := by decide +kernel
theorem dX0_read_23 : decode cX0_read 23 = .ok (.aload_n 0, 1) := by decide +kernel
theorem dX0_read_24 : decode cX0_read 24 = .ok (.getfield 9, 3) := by decide +kernel
theorem dX0_read_27 : decode cX0_read 27 = .ok (.iload_n 1, 1) := by decide +kernel
theorem dX0_read_28 : decode cX0_read 28 = .ok (.iconst 5, 1) := by decide +kernel
theorem dX0_read_29 : decode cX0_read 29 = .ok (.imul, 1) := by decide +kernel
theorem dX0_read_30 : decode cX0_read 30 = .ok (.iload_n 2, 1) := by decide +kernel
theorem dX0_read_31 : decode cX0_read 31 = .ok (.iadd, 1) := by decide +kernel
theorem dX0_read_32 : decode cX0_read 32 = .ok (.iaload, 1) := by decide +kernel
theorem dX0_read_33 : decode cX0_read 33 = .ok (.ireturn, 1) := by decide +kernel
theorem dX1_init_0 : decode cX1_init 0 = .ok (.aload_n 0, 1) := by decide +kernel
theorem dX1_init_1 : decode cX1_init 1 = .ok (.invokespecial 3, 3) := by decide +kernel
theorem dX1_init_4 : decode cX1_init 4 = .ok (.aload_n 0, 1) := by decide +kernel
theorem dX1_init_5 : decode cX1_init 5 = .ok (.iconst 5, 1) := by decide +kernel
theorem dX1_init_6 : decode cX1_init 6 = .ok (.newarray .int, 2) := by decide +kernel
theorem dX1_init_8 : decode cX1_init 8 = .ok (.putfield 9, 3) := by decide +kernel
theorem dX1_init_11 : decode cX1_init 11 = .ok (.return_, 1) := by decide +kernel
theorem dX1_leastSize_0 : decode cX1_leastSize 0 = .ok (.aload_n 0, 1) := by decide +kernel
theorem dX1_leastSize_1 : decode cX1_leastSize 1 = .ok (.getfield 9, 3) := by decide +kernel
theorem dX1_leastSize_4 : decode cX1_leastSize 4 = .ok (.iconst 0, 1) := by decide +kernel
theorem dX1_leastSize_5 : decode cX1_leastSize 5 = .ok (.iconst 0, 1) := by decide +kernel
theorem dX1_leastSize_6 : decode cX1_leastSize 6 = .ok (.iastore, 1) := by decide +kernel
theorem dX1_leastSize_7 : decode cX1_leastSize 7 = .ok (.iconst 1, 1) := by decide +kernel
theorem dX1_leastSize_8 : decode cX1_leastSize 8 = .ok (.istore_n 2, 1) := by decide +kernel
theorem dX1_leastSize_9 : decode cX1_leastSize 9 = .ok (.iload_n 2, 1) := by decide +kernel
theorem dX1_leastSize_10 : decode cX1_leastSize 10 = .ok (.iconst 5, 1) := by decide +kernel
theorem dX1_leastSize_11 : decode cX1_leastSize 11 = .ok (.if_icmp .gt 23, 3) := by decide +kernel
theorem dX1_leastSize_14 : decode cX1_leastSize 14 = .ok (.aload_n 0, 1) := by decide +kernel
theorem dX1_leastSize_15 : decode cX1_leastSize 15 = .ok (.iconst 1, 1) := by decide +kernel
theorem dX1_leastSize_16 : decode cX1_leastSize 16 = .ok (.iload_n 2, 1) := by decide +kernel
theorem dX1_leastSize_17 : decode cX1_leastSize 17 = .ok (.ldc 15, 2) := by decide +kernel
theorem dX1_leastSize_19 : decode cX1_leastSize 19 = .ok (.iload_n 1, 1) := by decide +kernel
theorem dX1_leastSize_20 : decode cX1_leastSize 20 = .ok (.invokevirtual 16, 3) := by decide +kernel
theorem dX1_leastSize_23 : decode cX1_leastSize 23 = .ok (.ifCond .eq 5, 3) := by decide +kernel
theorem dX1_leastSize_26 : decode cX1_leastSize 26 = .ok (.iload_n 2, 1) := by decide +kernel
theorem dX1_leastSize_27 : decode cX1_leastSize 27 = .ok (.ireturn, 1) := by decide +kernel
theorem dX1_leastSize_28 : decode cX1_leastSize 28 = .ok (.iinc 2 1, 3) := by decide +kernel
theorem dX1_leastSize_31 : decode cX1_leastSize 31 = .ok (.goto (-22), 3) := by decide +kernel
theorem dX1_leastSize_34 : decode cX1_leastSize 34 = .ok (.iconst (-1), 1) := by decide +kernel
theorem dX1_leastSize_35 : decode cX1_leastSize 35 = .ok (.ireturn, 1) := by decide +kernel
theorem dX1_extend_0 : decode cX1_extend 0 = .ok (.iload_n 1, 1) := by decide +kernel
theorem dX1_extend_1 : decode cX1_extend 1 = .ok (.iload_n 2, 1) := by decide +kernel
theorem dX1_extend_2 : decode cX1_extend 2 = .ok (.if_icmp .ge 8, 3) := by decide +kernel
theorem dX1_extend_5 : decode cX1_extend 5 = .ok (.iload_n 1, 1) := by decide +kernel
theorem dX1_extend_6 : decode cX1_extend 6 = .ok (.iconst 5, 1) := by decide +kernel
theorem dX1_extend_7 : decode cX1_extend 7 = .ok (.if_icmp .lt 14, 3) := by decide +kernel
theorem dX1_extend_10 : decode cX1_extend 10 = .ok (.iload 4, 2) := by decide +kernel
theorem dX1_extend_12 : decode cX1_extend 12 = .ok (.ifCond .ne 7, 3) := by decide +kernel
theorem dX1_extend_15 : decode cX1_extend 15 = .ok (.iconst 1, 1) := by decide +kernel
theorem dX1_extend_16 : decode cX1_extend 16 = .ok (.goto 4, 3) := by decide +kernel
theorem dX1_extend_19 : decode cX1_extend 19 = .ok (.iconst 0, 1) := by decide +kernel
theorem dX1_extend_20 : decode cX1_extend 20 = .ok (.ireturn, 1) := by decide +kernel
theorem dX1_extend_21 : decode cX1_extend 21 = .ok (.iload_n 2, 1) := by decide +kernel
theorem dX1_extend_22 : decode cX1_extend 22 = .ok (.iload_n 2, 1) := by decide +kernel
theorem dX1_extend_23 : decode cX1_extend 23 = .ok (.iconst 1, 1) := by decide +kernel
theorem dX1_extend_24 : decode cX1_extend 24 = .ok (.isub, 1) := by decide +kernel
theorem dX1_extend_25 : decode cX1_extend 25 = .ok (.imul, 1) := by decide +kernel
theorem dX1_extend_26 : decode cX1_extend 26 = .ok (.iload_n 1, 1) := by decide +kernel
theorem dX1_extend_27 : decode cX1_extend 27 = .ok (.iload_n 1, 1) := by decide +kernel
theorem dX1_extend_28 : decode cX1_extend 28 = .ok (.iconst 1, 1) := by decide +kernel
theorem dX1_extend_29 : decode cX1_extend 29 = .ok (.isub, 1) := by decide +kernel
theorem dX1_extend_30 : decode cX1_extend 30 = .ok (.imul, 1) := by decide +kernel
theorem dX1_extend_31 : decode cX1_extend 31 = .ok (.isub, 1) := by decide +kernel
theorem dX1_extend_32 : decode cX1_extend 32 = .ok (.iconst 2, 1) := by decide +kernel
theorem dX1_extend_33 : decode cX1_extend 33 = .ok (.idiv, 1) := by decide +kernel
theorem dX1_extend_34 : decode cX1_extend 34 = .ok (.istore 5, 2) := by decide +kernel
theorem dX1_extend_36 : decode cX1_extend 36 = .ok (.iload 4, 2) := by decide +kernel
theorem dX1_extend_38 : decode cX1_extend 38 = .ok (.invokestatic 20, 3) := by decide +kernel
theorem dX1_extend_41 : decode cX1_extend 41 = .ok (.iload 5, 2) := by decide +kernel
theorem dX1_extend_43 : decode cX1_extend 43 = .ok (.if_icmp .le 5, 3) := by decide +kernel
theorem dX1_extend_46 : decode cX1_extend 46 = .ok (.iconst 0, 1) := by decide +kernel
theorem dX1_extend_47 : decode cX1_extend 47 = .ok (.ireturn, 1) := by decide +kernel
theorem dX1_extend_48 : decode cX1_extend 48 = .ok (.aload_n 0, 1) := by decide +kernel
theorem dX1_extend_49 : decode cX1_extend 49 = .ok (.getfield 9, 3) := by decide +kernel
theorem dX1_extend_52 : decode cX1_extend 52 = .ok (.iload_n 1, 1) := by decide +kernel
theorem dX1_extend_53 : decode cX1_extend 53 = .ok (.iconst 1, 1) := by decide +kernel
theorem dX1_extend_54 : decode cX1_extend 54 = .ok (.isub, 1) := by decide +kernel
theorem dX1_extend_55 : decode cX1_extend 55 = .ok (.iaload, 1) := by decide +kernel
theorem dX1_extend_56 : decode cX1_extend 56 = .ok (.iconst 1, 1) := by decide +kernel
theorem dX1_extend_57 : decode cX1_extend 57 = .ok (.iadd, 1) := by decide +kernel
theorem dX1_extend_58 : decode cX1_extend 58 = .ok (.istore 6, 2) := by decide +kernel
theorem dX1_extend_60 : decode cX1_extend 60 = .ok (.iload 6, 2) := by decide +kernel
theorem dX1_extend_62 : decode cX1_extend 62 = .ok (.bipush 24, 2) := by decide +kernel
theorem dX1_extend_64 : decode cX1_extend 64 = .ok (.if_icmp .gt 52, 3) := by decide +kernel
theorem dX1_extend_67 : decode cX1_extend 67 = .ok (.aload_n 0, 1) := by decide +kernel
theorem dX1_extend_68 : decode cX1_extend 68 = .ok (.getfield 9, 3) := by decide +kernel
theorem dX1_extend_71 : decode cX1_extend 71 = .ok (.iload_n 1, 1) := by decide +kernel
theorem dX1_extend_72 : decode cX1_extend 72 = .ok (.iload 6, 2) := by decide +kernel
theorem dX1_extend_74 : decode cX1_extend 74 = .ok (.iastore, 1) := by decide +kernel
theorem dX1_extend_75 : decode cX1_extend 75 = .ok (.bipush 24, 2) := by decide +kernel
theorem dX1_extend_77 : decode cX1_extend 77 = .ok (.iload 6, 2) := by decide +kernel
theorem dX1_extend_79 : decode cX1_extend 79 = .ok (.isub, 1) := by decide +kernel
theorem dX1_extend_80 : decode cX1_extend 80 = .ok (.istore 7, 2) := by decide +kernel
theorem dX1_extend_82 : decode cX1_extend 82 = .ok (.aload_n 0, 1) := by decide +kernel
theorem dX1_extend_83 : decode cX1_extend 83 = .ok (.iload_n 1, 1) := by decide +kernel
theorem dX1_extend_84 : decode cX1_extend 84 = .ok (.iconst 1, 1) := by decide +kernel
theorem dX1_extend_85 : decode cX1_extend 85 = .ok (.iadd, 1) := by decide +kernel
theorem dX1_extend_86 : decode cX1_extend 86 = .ok (.iload_n 2, 1) := by decide +kernel
theorem dX1_extend_87 : decode cX1_extend 87 = .ok (.iload_n 3, 1) := by decide +kernel
theorem dX1_extend_88 : decode cX1_extend 88 = .ok (.iconst 1, 1) := by decide +kernel
theorem dX1_extend_89 : decode cX1_extend 89 = .ok (.iload 7, 2) := by decide +kernel
theorem dX1_extend_91 : decode cX1_extend 91 = .ok (.ishl, 1) := by decide +kernel
theorem dX1_extend_92 : decode cX1_extend 92 = .ok (.ior, 1) := by decide +kernel
theorem dX1_extend_93 : decode cX1_extend 93 = .ok (.iload 4, 2) := by decide +kernel
theorem dX1_extend_95 : decode cX1_extend 95 = .ok (.iload_n 3, 1) := by decide +kernel
theorem dX1_extend_96 : decode cX1_extend 96 = .ok (.iload 7, 2) := by decide +kernel
theorem dX1_extend_98 : decode cX1_extend 98 = .ok (.iushr, 1) := by decide +kernel
theorem dX1_extend_99 : decode cX1_extend 99 = .ok (.iconst (-1), 1) := by decide +kernel
theorem dX1_extend_100 : decode cX1_extend 100 = .ok (.ixor, 1) := by decide +kernel
theorem dX1_extend_101 : decode cX1_extend 101 = .ok (.iand, 1) := by decide +kernel
theorem dX1_extend_102 : decode cX1_extend 102 = .ok (.invokevirtual 16, 3) := by decide +kernel
theorem dX1_extend_105 : decode cX1_extend 105 = .ok (.ifCond .eq 5, 3) := by decide +kernel
theorem dX1_extend_108 : decode cX1_extend 108 = .ok (.iconst 1, 1) := by decide +kernel
theorem dX1_extend_109 : decode cX1_extend 109 = .ok (.ireturn, 1) := by decide +kernel
theorem dX1_extend_110 : decode cX1_extend 110 = .ok (.iinc 6 1, 3) := by decide +kernel
theorem dX1_extend_113 : decode cX1_extend 113 = .ok (.goto (-53), 3) := by decide +kernel
theorem dX1_extend_116 : decode cX1_extend 116 = .ok (.iconst 0, 1) := by decide +kernel
theorem dX1_extend_117 : decode cX1_extend 117 = .ok (.ireturn, 1) := by decide +kernel
theorem dX2_init_0 : decode cX2_init 0 = .ok (.aload_n 0, 1) := by decide +kernel
theorem dX2_init_1 : decode cX2_init 1 = .ok (.invokespecial 3, 3) := by decide +kernel
theorem dX2_init_4 : decode cX2_init 4 = .ok (.aload_n 0, 1) := by decide +kernel
theorem dX2_init_5 : decode cX2_init 5 = .ok (.aload_n 1, 1) := by decide +kernel
theorem dX2_init_6 : decode cX2_init 6 = .ok (.putfield 9, 3) := by decide +kernel
theorem dX2_init_9 : decode cX2_init 9 = .ok (.aload_n 0, 1) := by decide +kernel
theorem dX2_init_10 : decode cX2_init 10 = .ok (.bipush 32, 2) := by decide +kernel
theorem dX2_init_12 : decode cX2_init 12 = .ok (.newarray .int, 2) := by decide +kernel
theorem dX2_init_14 : decode cX2_init 14 = .ok (.putfield 15, 3) := by decide +kernel
theorem dX2_init_17 : decode cX2_init 17 = .ok (.return_, 1) := by decide +kernel
theorem dX2_hearersOf_0 : decode cX2_hearersOf 0 = .ok (.iconst 0, 1) := by decide +kernel
theorem dX2_hearersOf_1 : decode cX2_hearersOf 1 = .ok (.istore_n 3, 1) := by decide +kernel
theorem dX2_hearersOf_2 : decode cX2_hearersOf 2 = .ok (.iconst 0, 1) := by decide +kernel
theorem dX2_hearersOf_3 : decode cX2_hearersOf 3 = .ok (.istore 4, 2) := by decide +kernel
theorem dX2_hearersOf_5 : decode cX2_hearersOf 5 = .ok (.iload 4, 2) := by decide +kernel
theorem dX2_hearersOf_7 : decode cX2_hearersOf 7 = .ok (.aload_n 0, 1) := by decide +kernel
theorem dX2_hearersOf_8 : decode cX2_hearersOf 8 = .ok (.getfield 9, 3) := by decide +kernel
theorem dX2_hearersOf_11 : decode cX2_hearersOf 11 = .ok (.getfield 19, 3) := by decide +kernel
theorem dX2_hearersOf_14 : decode cX2_hearersOf 14 = .ok (.if_icmp .ge 46, 3) := by decide +kernel
theorem dX2_hearersOf_17 : decode cX2_hearersOf 17 = .ok (.iload 4, 2) := by decide +kernel
theorem dX2_hearersOf_19 : decode cX2_hearersOf 19 = .ok (.iload_n 1, 1) := by decide +kernel
theorem dX2_hearersOf_20 : decode cX2_hearersOf 20 = .ok (.if_icmp .eq 34, 3) := by decide +kernel
theorem dX2_hearersOf_23 : decode cX2_hearersOf 23 = .ok (.iload 4, 2) := by decide +kernel
theorem dX2_hearersOf_25 : decode cX2_hearersOf 25 = .ok (.iload_n 2, 1) := by decide +kernel
theorem dX2_hearersOf_26 : decode cX2_hearersOf 26 = .ok (.if_icmp .eq 28, 3) := by decide +kernel
theorem dX2_hearersOf_29 : decode cX2_hearersOf 29 = .ok (.aload_n 0, 1) := by decide +kernel
theorem dX2_hearersOf_30 : decode cX2_hearersOf 30 = .ok (.iload 4, 2) := by decide +kernel
theorem dX2_hearersOf_32 : decode cX2_hearersOf 32 = .ok (.aload_n 0, 1) := by decide +kernel
theorem dX2_hearersOf_33 : decode cX2_hearersOf 33 = .ok (.getfield 9, 3) := by decide +kernel
theorem dX2_hearersOf_36 : decode cX2_hearersOf 36 = .ok (.getfield 25, 3) := by decide +kernel
theorem dX2_hearersOf_39 : decode cX2_hearersOf 39 = .ok (.iload_n 1, 1) := by decide +kernel
theorem dX2_hearersOf_40 : decode cX2_hearersOf 40 = .ok (.iload_n 2, 1) := by decide +kernel
theorem dX2_hearersOf_41 : decode cX2_hearersOf 41 = .ok (.invokevirtual 28, 3) := by decide +kernel
theorem dX2_hearersOf_44 : decode cX2_hearersOf 44 = .ok (.ifCond .eq 10, 3) := by decide +kernel
theorem dX2_hearersOf_47 : decode cX2_hearersOf 47 = .ok (.iload_n 3, 1) := by decide +kernel
theorem dX2_hearersOf_48 : decode cX2_hearersOf 48 = .ok (.iconst 1, 1) := by decide +kernel
theorem dX2_hearersOf_49 : decode cX2_hearersOf 49 = .ok (.iload 4, 2) := by decide +kernel
theorem dX2_hearersOf_51 : decode cX2_hearersOf 51 = .ok (.ishl, 1) := by decide +kernel
theorem dX2_hearersOf_52 : decode cX2_hearersOf 52 = .ok (.ior, 1) := by decide +kernel
theorem dX2_hearersOf_53 : decode cX2_hearersOf 53 = .ok (.istore_n 3, 1) := by decide +kernel
theorem dX2_hearersOf_54 : decode cX2_hearersOf 54 = .ok (.iinc 4 1, 3) := by decide +kernel
theorem dX2_hearersOf_57 : decode cX2_hearersOf 57 = .ok (.goto (-52), 3) := by decide +kernel
theorem dX2_hearersOf_60 : decode cX2_hearersOf 60 = .ok (.iload_n 3, 1) := by decide +kernel
theorem dX2_hearersOf_61 : decode cX2_hearersOf 61 = .ok (.ireturn, 1) := by decide +kernel
theorem dX2_couplesHeard_0 : decode cX2_couplesHeard 0 = .ok (.iconst 0, 1) := by decide +kernel
theorem dX2_couplesHeard_1 : decode cX2_couplesHeard 1 = .ok (.istore_n 3, 1) := by decide +kernel
theorem dX2_couplesHeard_2 : decode cX2_couplesHeard 2 = .ok (.iload_n 2, 1) := by decide +kernel
theorem dX2_couplesHeard_3 : decode cX2_couplesHeard 3 = .ok (.iconst 1, 1) := by decide +kernel
theorem dX2_couplesHeard_4 : decode cX2_couplesHeard 4 = .ok (.iload_n 1, 1) := by decide +kernel
theorem dX2_couplesHeard_5 : decode cX2_couplesHeard 5 = .ok (.ishl, 1) := by decide +kernel
theorem dX2_couplesHeard_6 : decode cX2_couplesHeard 6 = .ok (.iconst (-1), 1) := by decide +kernel
theorem dX2_couplesHeard_7 : decode cX2_couplesHeard 7 = .ok (.ixor, 1) := by decide +kernel
theorem dX2_couplesHeard_8 : decode cX2_couplesHeard 8 = .ok (.iand, 1) := by decide +kernel
theorem dX2_couplesHeard_9 : decode cX2_couplesHeard 9 = .ok (.istore 4, 2) := by decide +kernel
theorem dX2_couplesHeard_11 : decode cX2_couplesHeard 11 = .ok (.iconst 0, 1) := by decide +kernel
theorem dX2_couplesHeard_12 : decode cX2_couplesHeard 12 = .ok (.istore 5, 2) := by decide +kernel
theorem dX2_couplesHeard_14 : decode cX2_couplesHeard 14 = .ok (.iload 5, 2) := by decide +kernel
theorem dX2_couplesHeard_16 : decode cX2_couplesHeard 16 = .ok (.aload_n 0, 1) := by decide +kernel
theorem dX2_couplesHeard_17 : decode cX2_couplesHeard 17 = .ok (.getfield 9, 3) := by decide +kernel
theorem dX2_couplesHeard_20 : decode cX2_couplesHeard 20 = .ok (.getfield 19, 3) := by decide +kernel
theorem dX2_couplesHeard_23 : decode cX2_couplesHeard 23 = .ok (.if_icmp .ge 58, 3) := by decide +kernel
theorem dX2_couplesHeard_26 : decode cX2_couplesHeard 26 = .ok (.iconst 0, 1) := by decide +kernel
theorem dX2_couplesHeard_27 : decode cX2_couplesHeard 27 = .ok (.istore 6, 2) := by decide +kernel
theorem dX2_couplesHeard_29 : decode cX2_couplesHeard 29 = .ok (.iload 6, 2) := by decide +kernel
theorem dX2_couplesHeard_31 : decode cX2_couplesHeard 31 = .ok (.iload 5, 2) := by decide +kernel
theorem dX2_couplesHeard_33 : decode cX2_couplesHeard 33 = .ok (.if_icmp .ge 42, 3) := by decide +kernel
theorem dX2_couplesHeard_36 : decode cX2_couplesHeard 36 = .ok (.iload 4, 2) := by decide +kernel
theorem dX2_couplesHeard_38 : decode cX2_couplesHeard 38 = .ok (.iload 5, 2) := by decide +kernel
theorem dX2_couplesHeard_40 : decode cX2_couplesHeard 40 = .ok (.ishr, 1) := by decide +kernel
theorem dX2_couplesHeard_41 : decode cX2_couplesHeard 41 = .ok (.iload 4, 2) := by decide +kernel
theorem dX2_couplesHeard_43 : decode cX2_couplesHeard 43 = .ok (.iload 6, 2) := by decide +kernel
theorem dX2_couplesHeard_45 : decode cX2_couplesHeard 45 = .ok (.ishr, 1) := by decide +kernel
theorem dX2_couplesHeard_46 : decode cX2_couplesHeard 46 = .ok (.iand, 1) := by decide +kernel
theorem dX2_couplesHeard_47 : decode cX2_couplesHeard 47 = .ok (.iconst 1, 1) := by decide +kernel
theorem dX2_couplesHeard_48 : decode cX2_couplesHeard 48 = .ok (.iand, 1) := by decide +kernel
theorem dX2_couplesHeard_49 : decode cX2_couplesHeard 49 = .ok (.iconst 1, 1) := by decide +kernel
theorem dX2_couplesHeard_50 : decode cX2_couplesHeard 50 = .ok (.if_icmp .ne 19, 3) := by decide +kernel
theorem dX2_couplesHeard_53 : decode cX2_couplesHeard 53 = .ok (.aload_n 0, 1) := by decide +kernel
theorem dX2_couplesHeard_54 : decode cX2_couplesHeard 54 = .ok (.iload_n 1, 1) := by decide +kernel
theorem dX2_couplesHeard_55 : decode cX2_couplesHeard 55 = .ok (.iload_n 2, 1) := by decide +kernel
theorem dX2_couplesHeard_56 : decode cX2_couplesHeard 56 = .ok (.iload 5, 2) := by decide +kernel
theorem dX2_couplesHeard_58 : decode cX2_couplesHeard 58 = .ok (.iload 6, 2) := by decide +kernel
theorem dX2_couplesHeard_60 : decode cX2_couplesHeard 60 = .ok (.invokevirtual 28, 3) := by decide +kernel
theorem dX2_couplesHeard_63 : decode cX2_couplesHeard 63 = .ok (.ifCond .eq 6, 3) := by decide +kernel
theorem dX2_couplesHeard_66 : decode cX2_couplesHeard 66 = .ok (.iinc 3 1, 3) := by decide +kernel
theorem dX2_couplesHeard_69 : decode cX2_couplesHeard 69 = .ok (.iinc 6 1, 3) := by decide +kernel
theorem dX2_couplesHeard_72 : decode cX2_couplesHeard 72 = .ok (.goto (-43), 3) := by decide +kernel
theorem dX2_couplesHeard_75 : decode cX2_couplesHeard 75 = .ok (.iinc 5 1, 3) := by decide +kernel
theorem dX2_couplesHeard_78 : decode cX2_couplesHeard 78 = .ok (.goto (-64), 3) := by decide +kernel
theorem dX2_couplesHeard_81 : decode cX2_couplesHeard 81 = .ok (.iload_n 3, 1) := by decide +kernel
theorem dX2_couplesHeard_82 : decode cX2_couplesHeard 82 = .ok (.ireturn, 1) := by decide +kernel
theorem dX2_wordsHeard_0 : decode cX2_wordsHeard 0 = .ok (.lconst 0, 1) := by decide +kernel
theorem dX2_wordsHeard_1 : decode cX2_wordsHeard 1 = .ok (.lstore_n 3, 1) := by decide +kernel
theorem dX2_wordsHeard_2 : decode cX2_wordsHeard 2 = .ok (.iload_n 2, 1) := by decide +kernel
theorem dX2_wordsHeard_3 : decode cX2_wordsHeard 3 = .ok (.iconst 1, 1) := by decide +kernel
theorem dX2_wordsHeard_4 : decode cX2_wordsHeard 4 = .ok (.iload_n 1, 1) := by decide +kernel
theorem dX2_wordsHeard_5 : decode cX2_wordsHeard 5 = .ok (.ishl, 1) := by decide +kernel
theorem dX2_wordsHeard_6 : decode cX2_wordsHeard 6 = .ok (.iconst (-1), 1) := by decide +kernel
theorem dX2_wordsHeard_7 : decode cX2_wordsHeard 7 = .ok (.ixor, 1) := by decide +kernel
theorem dX2_wordsHeard_8 : decode cX2_wordsHeard 8 = .ok (.iand, 1) := by decide +kernel
theorem dX2_wordsHeard_9 : decode cX2_wordsHeard 9 = .ok (.istore 5, 2) := by decide +kernel
theorem dX2_wordsHeard_11 : decode cX2_wordsHeard 11 = .ok (.iconst 0, 1) := by decide +kernel
theorem dX2_wordsHeard_12 : decode cX2_wordsHeard 12 = .ok (.istore 6, 2) := by decide +kernel
theorem dX2_wordsHeard_14 : decode cX2_wordsHeard 14 = .ok (.iload 6, 2) := by decide +kernel
theorem dX2_wordsHeard_16 : decode cX2_wordsHeard 16 = .ok (.aload_n 0, 1) := by decide +kernel
theorem dX2_wordsHeard_17 : decode cX2_wordsHeard 17 = .ok (.getfield 9, 3) := by decide +kernel
theorem dX2_wordsHeard_20 : decode cX2_wordsHeard 20 = .ok (.getfield 19, 3) := by decide +kernel
theorem dX2_wordsHeard_23 : decode cX2_wordsHeard 23 = .ok (.if_icmp .ge 71, 3) := by decide +kernel
theorem dX2_wordsHeard_26 : decode cX2_wordsHeard 26 = .ok (.iconst 0, 1) := by decide +kernel
theorem dX2_wordsHeard_27 : decode cX2_wordsHeard 27 = .ok (.istore 7, 2) := by decide +kernel
theorem dX2_wordsHeard_29 : decode cX2_wordsHeard 29 = .ok (.iload 7, 2) := by decide +kernel
theorem dX2_wordsHeard_31 : decode cX2_wordsHeard 31 = .ok (.iload 6, 2) := by decide +kernel
theorem dX2_wordsHeard_33 : decode cX2_wordsHeard 33 = .ok (.if_icmp .ge 55, 3) := by decide +kernel
theorem dX2_wordsHeard_36 : decode cX2_wordsHeard 36 = .ok (.iload 5, 2) := by decide +kernel
theorem dX2_wordsHeard_38 : decode cX2_wordsHeard 38 = .ok (.iload 6, 2) := by decide +kernel
theorem dX2_wordsHeard_40 : decode cX2_wordsHeard 40 = .ok (.ishr, 1) := by decide +kernel
theorem dX2_wordsHeard_41 : decode cX2_wordsHeard 41 = .ok (.iload 5, 2) := by decide +kernel
theorem dX2_wordsHeard_43 : decode cX2_wordsHeard 43 = .ok (.iload 7, 2) := by decide +kernel
theorem dX2_wordsHeard_45 : decode cX2_wordsHeard 45 = .ok (.ishr, 1) := by decide +kernel
theorem dX2_wordsHeard_46 : decode cX2_wordsHeard 46 = .ok (.iand, 1) := by decide +kernel
theorem dX2_wordsHeard_47 : decode cX2_wordsHeard 47 = .ok (.iconst 1, 1) := by decide +kernel
theorem dX2_wordsHeard_48 : decode cX2_wordsHeard 48 = .ok (.iand, 1) := by decide +kernel
theorem dX2_wordsHeard_49 : decode cX2_wordsHeard 49 = .ok (.iconst 1, 1) := by decide +kernel
theorem dX2_wordsHeard_50 : decode cX2_wordsHeard 50 = .ok (.if_icmp .ne 32, 3) := by decide +kernel
theorem dX2_wordsHeard_53 : decode cX2_wordsHeard 53 = .ok (.aload_n 0, 1) := by decide +kernel
theorem dX2_wordsHeard_54 : decode cX2_wordsHeard 54 = .ok (.iload_n 1, 1) := by decide +kernel
theorem dX2_wordsHeard_55 : decode cX2_wordsHeard 55 = .ok (.iload_n 2, 1) := by decide +kernel
theorem dX2_wordsHeard_56 : decode cX2_wordsHeard 56 = .ok (.iload 6, 2) := by decide +kernel
theorem dX2_wordsHeard_58 : decode cX2_wordsHeard 58 = .ok (.iload 7, 2) := by decide +kernel
theorem dX2_wordsHeard_60 : decode cX2_wordsHeard 60 = .ok (.invokevirtual 28, 3) := by decide +kernel
theorem dX2_wordsHeard_63 : decode cX2_wordsHeard 63 = .ok (.ifCond .eq 19, 3) := by decide +kernel
theorem dX2_wordsHeard_66 : decode cX2_wordsHeard 66 = .ok (.lload_n 3, 1) := by decide +kernel
theorem dX2_wordsHeard_67 : decode cX2_wordsHeard 67 = .ok (.lconst 1, 1) := by decide +kernel
theorem dX2_wordsHeard_68 : decode cX2_wordsHeard 68 = .ok (.aload_n 0, 1) := by decide +kernel
theorem dX2_wordsHeard_69 : decode cX2_wordsHeard 69 = .ok (.getfield 9, 3) := by decide +kernel
theorem dX2_wordsHeard_72 : decode cX2_wordsHeard 72 = .ok (.iload 6, 2) := by decide +kernel
theorem dX2_wordsHeard_74 : decode cX2_wordsHeard 74 = .ok (.iload 7, 2) := by decide +kernel
theorem dX2_wordsHeard_76 : decode cX2_wordsHeard 76 = .ok (.invokevirtual 32, 3) := by decide +kernel
theorem dX2_wordsHeard_79 : decode cX2_wordsHeard 79 = .ok (.lshl, 1) := by decide +kernel
theorem dX2_wordsHeard_80 : decode cX2_wordsHeard 80 = .ok (.lor, 1) := by decide +kernel
theorem dX2_wordsHeard_81 : decode cX2_wordsHeard 81 = .ok (.lstore_n 3, 1) := by decide +kernel
theorem dX2_wordsHeard_82 : decode cX2_wordsHeard 82 = .ok (.iinc 7 1, 3) := by decide +kernel
theorem dX2_wordsHeard_85 : decode cX2_wordsHeard 85 = .ok (.goto (-56), 3) := by decide +kernel
theorem dX2_wordsHeard_88 : decode cX2_wordsHeard 88 = .ok (.iinc 6 1, 3) := by decide +kernel
theorem dX2_wordsHeard_91 : decode cX2_wordsHeard 91 = .ok (.goto (-77), 3) := by decide +kernel
theorem dX2_wordsHeard_94 : decode cX2_wordsHeard 94 = .ok (.lload_n 3, 1) := by decide +kernel
theorem dX2_wordsHeard_95 : decode cX2_wordsHeard 95 = .ok (.invokestatic 36, 3) := by decide +kernel
theorem dX2_wordsHeard_98 : decode cX2_wordsHeard 98 = .ok (.ireturn, 1) := by decide +kernel
theorem dX2_hearsNow_0 : decode cX2_hearsNow 0 = .ok (.aload_n 0, 1) := by decide +kernel
theorem dX2_hearsNow_1 : decode cX2_hearsNow 1 = .ok (.iload_n 1, 1) := by decide +kernel
theorem dX2_hearsNow_2 : decode cX2_hearsNow 2 = .ok (.iload_n 2, 1) := by decide +kernel
theorem dX2_hearsNow_3 : decode cX2_hearsNow 3 = .ok (.iload_n 3, 1) := by decide +kernel
theorem dX2_hearsNow_4 : decode cX2_hearsNow 4 = .ok (.iload 4, 2) := by decide +kernel
theorem dX2_hearsNow_6 : decode cX2_hearsNow 6 = .ok (.aload_n 0, 1) := by decide +kernel
theorem dX2_hearsNow_7 : decode cX2_hearsNow 7 = .ok (.getfield 9, 3) := by decide +kernel
theorem dX2_hearsNow_10 : decode cX2_hearsNow 10 = .ok (.getfield 42, 3) := by decide +kernel
theorem dX2_hearsNow_13 : decode cX2_hearsNow 13 = .ok (.iload_n 3, 1) := by decide +kernel
theorem dX2_hearsNow_14 : decode cX2_hearsNow 14 = .ok (.iaload, 1) := by decide +kernel
theorem dX2_hearsNow_15 : decode cX2_hearsNow 15 = .ok (.aload_n 0, 1) := by decide +kernel
theorem dX2_hearsNow_16 : decode cX2_hearsNow 16 = .ok (.getfield 9, 3) := by decide +kernel
theorem dX2_hearsNow_19 : decode cX2_hearsNow 19 = .ok (.getfield 42, 3) := by decide +kernel
theorem dX2_hearsNow_22 : decode cX2_hearsNow 22 = .ok (.iload 4, 2) := by decide +kernel
theorem dX2_hearsNow_24 : decode cX2_hearsNow 24 = .ok (.iaload, 1) := by decide +kernel
theorem dX2_hearsNow_25 : decode cX2_hearsNow 25 = .ok (.invokevirtual 45, 3) := by decide +kernel
theorem dX2_hearsNow_28 : decode cX2_hearsNow 28 = .ok (.ireturn, 1) := by decide +kernel
theorem dX2_onlyOneHears_0 : decode cX2_onlyOneHears 0 = .ok (.aload_n 0, 1) := by decide +kernel
theorem dX2_onlyOneHears_1 : decode cX2_onlyOneHears 1 = .ok (.iload_n 1, 1) := by decide +kernel
theorem dX2_onlyOneHears_2 : decode cX2_onlyOneHears 2 = .ok (.aload_n 0, 1) := by decide +kernel
theorem dX2_onlyOneHears_3 : decode cX2_onlyOneHears 3 = .ok (.getfield 9, 3) := by decide +kernel
theorem dX2_onlyOneHears_6 : decode cX2_onlyOneHears 6 = .ok (.getfield 25, 3) := by decide +kernel
theorem dX2_onlyOneHears_9 : decode cX2_onlyOneHears 9 = .ok (.iload_n 2, 1) := by decide +kernel
theorem dX2_onlyOneHears_10 : decode cX2_onlyOneHears 10 = .ok (.iload_n 3, 1) := by decide +kernel
theorem dX2_onlyOneHears_11 : decode cX2_onlyOneHears 11 = .ok (.iload 4, 2) := by decide +kernel
theorem dX2_onlyOneHears_13 : decode cX2_onlyOneHears 13 = .ok (.iload 5, 2) := by decide +kernel
theorem dX2_onlyOneHears_15 : decode cX2_onlyOneHears 15 = .ok (.invokevirtual 45, 3) := by decide +kernel
theorem dX2_onlyOneHears_18 : decode cX2_onlyOneHears 18 = .ok (.ifCond .ne 5, 3) := by decide +kernel
theorem dX2_onlyOneHears_21 : decode cX2_onlyOneHears 21 = .ok (.iconst 0, 1) := by decide +kernel
theorem dX2_onlyOneHears_22 : decode cX2_onlyOneHears 22 = .ok (.ireturn, 1) := by decide +kernel
theorem dX2_onlyOneHears_23 : decode cX2_onlyOneHears 23 = .ok (.iconst 0, 1) := by decide +kernel
theorem dX2_onlyOneHears_24 : decode cX2_onlyOneHears 24 = .ok (.istore 6, 2) := by decide +kernel
theorem dX2_onlyOneHears_26 : decode cX2_onlyOneHears 26 = .ok (.iload 6, 2) := by decide +kernel
theorem dX2_onlyOneHears_28 : decode cX2_onlyOneHears 28 = .ok (.aload_n 0, 1) := by decide +kernel
theorem dX2_onlyOneHears_29 : decode cX2_onlyOneHears 29 = .ok (.getfield 9, 3) := by decide +kernel
theorem dX2_onlyOneHears_32 : decode cX2_onlyOneHears 32 = .ok (.getfield 19, 3) := by decide +kernel
theorem dX2_onlyOneHears_35 : decode cX2_onlyOneHears 35 = .ok (.if_icmp .ge 51, 3) := by decide +kernel
theorem dX2_onlyOneHears_38 : decode cX2_onlyOneHears 38 = .ok (.iload 6, 2) := by decide +kernel
theorem dX2_onlyOneHears_40 : decode cX2_onlyOneHears 40 = .ok (.iload_n 1, 1) := by decide +kernel
theorem dX2_onlyOneHears_41 : decode cX2_onlyOneHears 41 = .ok (.if_icmp .eq 39, 3) := by decide +kernel
theorem dX2_onlyOneHears_44 : decode cX2_onlyOneHears 44 = .ok (.iload 6, 2) := by decide +kernel
theorem dX2_onlyOneHears_46 : decode cX2_onlyOneHears 46 = .ok (.iload_n 2, 1) := by decide +kernel
theorem dX2_onlyOneHears_47 : decode cX2_onlyOneHears 47 = .ok (.if_icmp .eq 33, 3) := by decide +kernel
theorem dX2_onlyOneHears_50 : decode cX2_onlyOneHears 50 = .ok (.iload 6, 2) := by decide +kernel
theorem dX2_onlyOneHears_52 : decode cX2_onlyOneHears 52 = .ok (.iload_n 3, 1) := by decide +kernel
theorem dX2_onlyOneHears_53 : decode cX2_onlyOneHears 53 = .ok (.if_icmp .eq 27, 3) := by decide +kernel
theorem dX2_onlyOneHears_56 : decode cX2_onlyOneHears 56 = .ok (.aload_n 0, 1) := by decide +kernel
theorem dX2_onlyOneHears_57 : decode cX2_onlyOneHears 57 = .ok (.iload 6, 2) := by decide +kernel
theorem dX2_onlyOneHears_59 : decode cX2_onlyOneHears 59 = .ok (.aload_n 0, 1) := by decide +kernel
theorem dX2_onlyOneHears_60 : decode cX2_onlyOneHears 60 = .ok (.getfield 9, 3) := by decide +kernel
theorem dX2_onlyOneHears_63 : decode cX2_onlyOneHears 63 = .ok (.getfield 25, 3) := by decide +kernel
theorem dX2_onlyOneHears_66 : decode cX2_onlyOneHears 66 = .ok (.iload_n 2, 1) := by decide +kernel
theorem dX2_onlyOneHears_67 : decode cX2_onlyOneHears 67 = .ok (.iload_n 3, 1) := by decide +kernel
theorem dX2_onlyOneHears_68 : decode cX2_onlyOneHears 68 = .ok (.iload 4, 2) := by decide +kernel
theorem dX2_onlyOneHears_70 : decode cX2_onlyOneHears 70 = .ok (.iload 5, 2) := by decide +kernel
theorem dX2_onlyOneHears_72 : decode cX2_onlyOneHears 72 = .ok (.invokevirtual 45, 3) := by decide +kernel
theorem dX2_onlyOneHears_75 : decode cX2_onlyOneHears 75 = .ok (.ifCond .eq 5, 3) := by decide +kernel
theorem dX2_onlyOneHears_78 : decode cX2_onlyOneHears 78 = .ok (.iconst 0, 1) := by decide +kernel
theorem dX2_onlyOneHears_79 : decode cX2_onlyOneHears 79 = .ok (.ireturn, 1) := by decide +kernel
theorem dX2_onlyOneHears_80 : decode cX2_onlyOneHears 80 = .ok (.iinc 6 1, 3) := by decide +kernel
theorem dX2_onlyOneHears_83 : decode cX2_onlyOneHears 83 = .ok (.goto (-57), 3) := by decide +kernel
theorem dX2_onlyOneHears_86 : decode cX2_onlyOneHears 86 = .ok (.iconst 1, 1) := by decide +kernel
theorem dX2_onlyOneHears_87 : decode cX2_onlyOneHears 87 = .ok (.ireturn, 1) := by decide +kernel
theorem dX2_hearsTones_0 : decode cX2_hearsTones 0 = .ok (.aload_n 0, 1) := by decide +kernel
theorem dX2_hearsTones_1 : decode cX2_hearsTones 1 = .ok (.getfield 9, 3) := by decide +kernel
theorem dX2_hearsTones_4 : decode cX2_hearsTones 4 = .ok (.iload_n 1, 1) := by decide +kernel
theorem dX2_hearsTones_5 : decode cX2_hearsTones 5 = .ok (.invokevirtual 49, 3) := by decide +kernel
theorem dX2_hearsTones_8 : decode cX2_hearsTones 8 = .ok (.ifCond .ne 5, 3) := by decide +kernel
theorem dX2_hearsTones_11 : decode cX2_hearsTones 11 = .ok (.iconst 0, 1) := by decide +kernel
theorem dX2_hearsTones_12 : decode cX2_hearsTones 12 = .ok (.ireturn, 1) := by decide +kernel
theorem dX2_hearsTones_13 : decode cX2_hearsTones 13 = .ok (.aload_n 0, 1) := by decide +kernel
theorem dX2_hearsTones_14 : decode cX2_hearsTones 14 = .ok (.iload 5, 2) := by decide +kernel
theorem dX2_hearsTones_16 : decode cX2_hearsTones 16 = .ok (.iload 6, 2) := by decide +kernel
theorem dX2_hearsTones_18 : decode cX2_hearsTones 18 = .ok (.invokestatic 53, 3) := by decide +kernel
theorem dX2_hearsTones_21 : decode cX2_hearsTones 21 = .ok (.putfield 58, 3) := by decide +kernel
theorem dX2_hearsTones_24 : decode cX2_hearsTones 24 = .ok (.aload_n 0, 1) := by decide +kernel
theorem dX2_hearsTones_25 : decode cX2_hearsTones 25 = .ok (.iload 5, 2) := by decide +kernel
theorem dX2_hearsTones_27 : decode cX2_hearsTones 27 = .ok (.iload 6, 2) := by decide +kernel
theorem dX2_hearsTones_29 : decode cX2_hearsTones 29 = .ok (.invokestatic 61, 3) := by decide +kernel
theorem dX2_hearsTones_32 : decode cX2_hearsTones 32 = .ok (.putfield 64, 3) := by decide +kernel
theorem dX2_hearsTones_35 : decode cX2_hearsTones 35 = .ok (.aload_n 0, 1) := by decide +kernel
theorem dX2_hearsTones_36 : decode cX2_hearsTones 36 = .ok (.aload_n 0, 1) := by decide +kernel
theorem dX2_hearsTones_37 : decode cX2_hearsTones 37 = .ok (.getfield 9, 3) := by decide +kernel
theorem dX2_hearsTones_40 : decode cX2_hearsTones 40 = .ok (.getfield 42, 3) := by decide +kernel
theorem dX2_hearsTones_43 : decode cX2_hearsTones 43 = .ok (.iload_n 1, 1) := by decide +kernel
theorem dX2_hearsTones_44 : decode cX2_hearsTones 44 = .ok (.iaload, 1) := by decide +kernel
theorem dX2_hearsTones_45 : decode cX2_hearsTones 45 = .ok (.putfield 67, 3) := by decide +kernel
theorem dX2_hearsTones_48 : decode cX2_hearsTones 48 = .ok (.aload_n 0, 1) := by decide +kernel
theorem dX2_hearsTones_49 : decode cX2_hearsTones 49 = .ok (.aload_n 0, 1) := by decide +kernel
theorem dX2_hearsTones_50 : decode cX2_hearsTones 50 = .ok (.getfield 9, 3) := by decide +kernel
theorem dX2_hearsTones_53 : decode cX2_hearsTones 53 = .ok (.getfield 70, 3) := by decide +kernel
theorem dX2_hearsTones_56 : decode cX2_hearsTones 56 = .ok (.iload_n 3, 1) := by decide +kernel
theorem dX2_hearsTones_57 : decode cX2_hearsTones 57 = .ok (.iaload, 1) := by decide +kernel
theorem dX2_hearsTones_58 : decode cX2_hearsTones 58 = .ok (.aload_n 0, 1) := by decide +kernel
theorem dX2_hearsTones_59 : decode cX2_hearsTones 59 = .ok (.getfield 9, 3) := by decide +kernel
theorem dX2_hearsTones_62 : decode cX2_hearsTones 62 = .ok (.getfield 70, 3) := by decide +kernel
theorem dX2_hearsTones_65 : decode cX2_hearsTones 65 = .ok (.iload 4, 2) := by decide +kernel
theorem dX2_hearsTones_67 : decode cX2_hearsTones 67 = .ok (.iaload, 1) := by decide +kernel
theorem dX2_hearsTones_68 : decode cX2_hearsTones 68 = .ok (.iadd, 1) := by decide +kernel
theorem dX2_hearsTones_69 : decode cX2_hearsTones 69 = .ok (.putfield 73, 3) := by decide +kernel
theorem dX2_hearsTones_72 : decode cX2_hearsTones 72 = .ok (.aload_n 0, 1) := by decide +kernel
theorem dX2_hearsTones_73 : decode cX2_hearsTones 73 = .ok (.iload_n 2, 1) := by decide +kernel
theorem dX2_hearsTones_74 : decode cX2_hearsTones 74 = .ok (.iconst 1, 1) := by decide +kernel
theorem dX2_hearsTones_75 : decode cX2_hearsTones 75 = .ok (.iload_n 1, 1) := by decide +kernel
theorem dX2_hearsTones_76 : decode cX2_hearsTones 76 = .ok (.ishl, 1) := by decide +kernel
theorem dX2_hearsTones_77 : decode cX2_hearsTones 77 = .ok (.iconst 1, 1) := by decide +kernel
theorem dX2_hearsTones_78 : decode cX2_hearsTones 78 = .ok (.iload_n 3, 1) := by decide +kernel
theorem dX2_hearsTones_79 : decode cX2_hearsTones 79 = .ok (.ishl, 1) := by decide +kernel
theorem dX2_hearsTones_80 : decode cX2_hearsTones 80 = .ok (.ior, 1) := by decide +kernel
theorem dX2_hearsTones_81 : decode cX2_hearsTones 81 = .ok (.iconst 1, 1) := by decide +kernel
theorem dX2_hearsTones_82 : decode cX2_hearsTones 82 = .ok (.iload 4, 2) := by decide +kernel
theorem dX2_hearsTones_84 : decode cX2_hearsTones 84 = .ok (.ishl, 1) := by decide +kernel
theorem dX2_hearsTones_85 : decode cX2_hearsTones 85 = .ok (.ior, 1) := by decide +kernel
theorem dX2_hearsTones_86 : decode cX2_hearsTones 86 = .ok (.iconst (-1), 1) := by decide +kernel
theorem dX2_hearsTones_87 : decode cX2_hearsTones 87 = .ok (.ixor, 1) := by decide +kernel
theorem dX2_hearsTones_88 : decode cX2_hearsTones 88 = .ok (.iand, 1) := by decide +kernel
theorem dX2_hearsTones_89 : decode cX2_hearsTones 89 = .ok (.invokestatic 76, 3) := by decide +kernel
theorem dX2_hearsTones_92 : decode cX2_hearsTones 92 = .ok (.putfield 81, 3) := by decide +kernel
theorem dX2_hearsTones_95 : decode cX2_hearsTones 95 = .ok (.aload_n 0, 1) := by decide +kernel
theorem dX2_hearsTones_96 : decode cX2_hearsTones 96 = .ok (.iload_n 1, 1) := by decide +kernel
theorem dX2_hearsTones_97 : decode cX2_hearsTones 97 = .ok (.putfield 84, 3) := by decide +kernel
theorem dX2_hearsTones_100 : decode cX2_hearsTones 100 = .ok (.aload_n 0, 1) := by decide +kernel
theorem dX2_hearsTones_101 : decode cX2_hearsTones 101 = .ok (.getfield 9, 3) := by decide +kernel
theorem dX2_hearsTones_104 : decode cX2_hearsTones 104 = .ok (.getfield 87, 3) := by decide +kernel
theorem dX2_hearsTones_107 : decode cX2_hearsTones 107 = .ok (.astore 7, 2) := by decide +kernel
theorem dX2_hearsTones_109 : decode cX2_hearsTones 109 = .ok (.iconst 0, 1) := by decide +kernel
theorem dX2_hearsTones_110 : decode cX2_hearsTones 110 = .ok (.istore 8, 2) := by decide +kernel
theorem dX2_hearsTones_112 : decode cX2_hearsTones 112 = .ok (.iconst 0, 1) := by decide +kernel
theorem dX2_hearsTones_113 : decode cX2_hearsTones 113 = .ok (.istore 9, 2) := by decide +kernel
theorem dX2_hearsTones_115 : decode cX2_hearsTones 115 = .ok (.iload 9, 2) := by decide +kernel
theorem dX2_hearsTones_117 : decode cX2_hearsTones 117 = .ok (.aload 7, 2) := by decide +kernel
theorem dX2_hearsTones_119 : decode cX2_hearsTones 119 = .ok (.getfield 91, 3) := by decide +kernel
theorem dX2_hearsTones_122 : decode cX2_hearsTones 122 = .ok (.if_icmp .ge 58, 3) := by decide +kernel
theorem dX2_hearsTones_125 : decode cX2_hearsTones 125 = .ok (.aload_n 0, 1) := by decide +kernel
theorem dX2_hearsTones_126 : decode cX2_hearsTones 126 = .ok (.aload 7, 2) := by decide +kernel
theorem dX2_hearsTones_128 : decode cX2_hearsTones 128 = .ok (.iload 8, 2) := by decide +kernel
theorem dX2_hearsTones_130 : decode cX2_hearsTones 130 = .ok (.aload 7, 2) := by decide +kernel
theorem dX2_hearsTones_132 : decode cX2_hearsTones 132 = .ok (.getfield 96, 3) := by decide +kernel
theorem dX2_hearsTones_135 : decode cX2_hearsTones 135 = .ok (.iload 9, 2) := by decide +kernel
theorem dX2_hearsTones_137 : decode cX2_hearsTones 137 = .ok (.iaload, 1) := by decide +kernel
theorem dX2_hearsTones_138 : decode cX2_hearsTones 138 = .ok (.invokevirtual 99, 3) := by decide +kernel
theorem dX2_hearsTones_141 : decode cX2_hearsTones 141 = .ok (.ifCond .eq 23, 3) := by decide +kernel
theorem dX2_hearsTones_144 : decode cX2_hearsTones 144 = .ok (.aload 7, 2) := by decide +kernel
theorem dX2_hearsTones_146 : decode cX2_hearsTones 146 = .ok (.getfield 103, 3) := by decide +kernel
theorem dX2_hearsTones_149 : decode cX2_hearsTones 149 = .ok (.iload 9, 2) := by decide +kernel
theorem dX2_hearsTones_151 : decode cX2_hearsTones 151 = .ok (.ishr, 1) := by decide +kernel
theorem dX2_hearsTones_152 : decode cX2_hearsTones 152 = .ok (.iconst 1, 1) := by decide +kernel
theorem dX2_hearsTones_153 : decode cX2_hearsTones 153 = .ok (.iand, 1) := by decide +kernel
theorem dX2_hearsTones_154 : decode cX2_hearsTones 154 = .ok (.iconst 1, 1) := by decide +kernel
theorem dX2_hearsTones_155 : decode cX2_hearsTones 155 = .ok (.if_icmp .ne 7, 3) := by decide +kernel
theorem dX2_hearsTones_158 : decode cX2_hearsTones 158 = .ok (.iconst 1, 1) := by decide +kernel
theorem dX2_hearsTones_159 : decode cX2_hearsTones 159 = .ok (.goto 4, 3) := by decide +kernel
theorem dX2_hearsTones_162 : decode cX2_hearsTones 162 = .ok (.iconst 0, 1) := by decide +kernel
theorem dX2_hearsTones_163 : decode cX2_hearsTones 163 = .ok (.ireturn, 1) := by decide +kernel
theorem dX2_hearsTones_164 : decode cX2_hearsTones 164 = .ok (.aload 7, 2) := by decide +kernel
theorem dX2_hearsTones_166 : decode cX2_hearsTones 166 = .ok (.getfield 96, 3) := by decide +kernel
theorem dX2_hearsTones_169 : decode cX2_hearsTones 169 = .ok (.iload 9, 2) := by decide +kernel
theorem dX2_hearsTones_171 : decode cX2_hearsTones 171 = .ok (.iaload, 1) := by decide +kernel
theorem dX2_hearsTones_172 : decode cX2_hearsTones 172 = .ok (.istore 8, 2) := by decide +kernel
theorem dX2_hearsTones_174 : decode cX2_hearsTones 174 = .ok (.iinc 9 1, 3) := by decide +kernel
theorem dX2_hearsTones_177 : decode cX2_hearsTones 177 = .ok (.goto (-62), 3) := by decide +kernel
theorem dX2_hearsTones_180 : decode cX2_hearsTones 180 = .ok (.iconst 1, 1) := by decide +kernel
theorem dX2_hearsTones_181 : decode cX2_hearsTones 181 = .ok (.ireturn, 1) := by decide +kernel
theorem dX2_isSo_0 : decode cX2_isSo 0 = .ok (.iload_n 2, 1) := by decide +kernel
theorem dX2_isSo_1 : decode cX2_isSo 1 = .ok (.iload_n 3, 1) := by decide +kernel
theorem dX2_isSo_2 : decode cX2_isSo 2 = .ok (.if_icmp .lt 5, 3) := by decide +kernel
theorem dX2_isSo_5 : decode cX2_isSo 5 = .ok (.iconst 1, 1) := by decide +kernel
theorem dX2_isSo_6 : decode cX2_isSo 6 = .ok (.ireturn, 1) := by decide +kernel
theorem dX2_isSo_7 : decode cX2_isSo 7 = .ok (.aload_n 0, 1) := by decide +kernel
theorem dX2_isSo_8 : decode cX2_isSo 8 = .ok (.iconst 0, 1) := by decide +kernel
theorem dX2_isSo_9 : decode cX2_isSo 9 = .ok (.putfield 106, 3) := by decide +kernel
theorem dX2_isSo_12 : decode cX2_isSo 12 = .ok (.iload_n 2, 1) := by decide +kernel
theorem dX2_isSo_13 : decode cX2_isSo 13 = .ok (.istore 4, 2) := by decide +kernel
theorem dX2_isSo_15 : decode cX2_isSo 15 = .ok (.iload 4, 2) := by decide +kernel
theorem dX2_isSo_17 : decode cX2_isSo 17 = .ok (.iload_n 3, 1) := by decide +kernel
theorem dX2_isSo_18 : decode cX2_isSo 18 = .ok (.if_icmp .ge 97, 3) := by decide +kernel
theorem dX2_isSo_21 : decode cX2_isSo 21 = .ok (.aload_n 1, 1) := by decide +kernel
theorem dX2_isSo_22 : decode cX2_isSo 22 = .ok (.getfield 109, 3) := by decide +kernel
theorem dX2_isSo_25 : decode cX2_isSo 25 = .ok (.iload 4, 2) := by decide +kernel
theorem dX2_isSo_27 : decode cX2_isSo 27 = .ok (.iaload, 1) := by decide +kernel
theorem dX2_isSo_28 : decode cX2_isSo 28 = .ok (.istore 5, 2) := by decide +kernel
theorem dX2_isSo_30 : decode cX2_isSo 30 = .ok (.iload 5, 2) := by decide +kernel
theorem dX2_isSo_32 : decode cX2_isSo 32 = .ok (.ifCond .lt 12, 3) := by decide +kernel
theorem dX2_isSo_35 : decode cX2_isSo 35 = .ok (.aload_n 0, 1) := by decide +kernel
theorem dX2_isSo_36 : decode cX2_isSo 36 = .ok (.iload 5, 2) := by decide +kernel
theorem dX2_isSo_38 : decode cX2_isSo 38 = .ok (.invokevirtual 112, 3) := by decide +kernel
theorem dX2_isSo_41 : decode cX2_isSo 41 = .ok (.goto 68, 3) := by decide +kernel
theorem dX2_isSo_44 : decode cX2_isSo 44 = .ok (.iload 5, 2) := by decide +kernel
theorem dX2_isSo_46 : decode cX2_isSo 46 = .ok (.sipush (-206), 3) := by decide +kernel
theorem dX2_isSo_49 : decode cX2_isSo 49 = .ok (.if_icmp .gt 17, 3) := by decide +kernel
theorem dX2_isSo_52 : decode cX2_isSo 52 = .ok (.aload_n 0, 1) := by decide +kernel
theorem dX2_isSo_53 : decode cX2_isSo 53 = .ok (.aload_n 0, 1) := by decide +kernel
theorem dX2_isSo_54 : decode cX2_isSo 54 = .ok (.iload 5, 2) := by decide +kernel
theorem dX2_isSo_56 : decode cX2_isSo 56 = .ok (.ineg, 1) := by decide +kernel
theorem dX2_isSo_57 : decode cX2_isSo 57 = .ok (.invokevirtual 116, 3) := by decide +kernel
theorem dX2_isSo_60 : decode cX2_isSo 60 = .ok (.invokevirtual 112, 3) := by decide +kernel
theorem dX2_isSo_63 : decode cX2_isSo 63 = .ok (.goto 46, 3) := by decide +kernel
theorem dX2_isSo_66 : decode cX2_isSo 66 = .ok (.iload 5, 2) := by decide +kernel
theorem dX2_isSo_68 : decode cX2_isSo 68 = .ok (.sipush (-205), 3) := by decide +kernel
theorem dX2_isSo_71 : decode cX2_isSo 71 = .ok (.if_icmp .ne 16, 3) := by decide +kernel
theorem dX2_isSo_74 : decode cX2_isSo 74 = .ok (.aload_n 0, 1) := by decide +kernel
theorem dX2_isSo_75 : decode cX2_isSo 75 = .ok (.iconst 1, 1) := by decide +kernel
theorem dX2_isSo_76 : decode cX2_isSo 76 = .ok (.aload_n 0, 1) := by decide +kernel
theorem dX2_isSo_77 : decode cX2_isSo 77 = .ok (.invokevirtual 119, 3) := by decide +kernel
theorem dX2_isSo_80 : decode cX2_isSo 80 = .ok (.isub, 1) := by decide +kernel
theorem dX2_isSo_81 : decode cX2_isSo 81 = .ok (.invokevirtual 112, 3) := by decide +kernel
theorem dX2_isSo_84 : decode cX2_isSo 84 = .ok (.goto 25, 3) := by decide +kernel
theorem dX2_isSo_87 : decode cX2_isSo 87 = .ok (.aload_n 0, 1) := by decide +kernel
theorem dX2_isSo_88 : decode cX2_isSo 88 = .ok (.invokevirtual 119, 3) := by decide +kernel
theorem dX2_isSo_91 : decode cX2_isSo 91 = .ok (.istore 6, 2) := by decide +kernel
theorem dX2_isSo_93 : decode cX2_isSo 93 = .ok (.aload_n 0, 1) := by decide +kernel
theorem dX2_isSo_94 : decode cX2_isSo 94 = .ok (.iload 5, 2) := by decide +kernel
theorem dX2_isSo_96 : decode cX2_isSo 96 = .ok (.ineg, 1) := by decide +kernel
theorem dX2_isSo_97 : decode cX2_isSo 97 = .ok (.aload_n 0, 1) := by decide +kernel
theorem dX2_isSo_98 : decode cX2_isSo 98 = .ok (.invokevirtual 119, 3) := by decide +kernel
theorem dX2_isSo_101 : decode cX2_isSo 101 = .ok (.iload 6, 2) := by decide +kernel
theorem dX2_isSo_103 : decode cX2_isSo 103 = .ok (.invokestatic 123, 3) := by decide +kernel
theorem dX2_isSo_106 : decode cX2_isSo 106 = .ok (.invokevirtual 112, 3) := by decide +kernel
theorem dX2_isSo_109 : decode cX2_isSo 109 = .ok (.iinc 4 1, 3) := by decide +kernel
theorem dX2_isSo_112 : decode cX2_isSo 112 = .ok (.goto (-97), 3) := by decide +kernel
theorem dX2_isSo_115 : decode cX2_isSo 115 = .ok (.aload_n 0, 1) := by decide +kernel
theorem dX2_isSo_116 : decode cX2_isSo 116 = .ok (.invokevirtual 119, 3) := by decide +kernel
theorem dX2_isSo_119 : decode cX2_isSo 119 = .ok (.iconst 1, 1) := by decide +kernel
theorem dX2_isSo_120 : decode cX2_isSo 120 = .ok (.if_icmp .ne 7, 3) := by decide +kernel
theorem dX2_isSo_123 : decode cX2_isSo 123 = .ok (.iconst 1, 1) := by decide +kernel
theorem dX2_isSo_124 : decode cX2_isSo 124 = .ok (.goto 4, 3) := by decide +kernel
theorem dX2_isSo_127 : decode cX2_isSo 127 = .ok (.iconst 0, 1) := by decide +kernel
theorem dX2_isSo_128 : decode cX2_isSo 128 = .ok (.ireturn, 1) := by decide +kernel
theorem dX2_push_0 : decode cX2_push 0 = .ok (.aload_n 0, 1) := by decide +kernel
theorem dX2_push_1 : decode cX2_push 1 = .ok (.getfield 106, 3) := by decide +kernel
theorem dX2_push_4 : decode cX2_push 4 = .ok (.bipush 32, 2) := by decide +kernel
theorem dX2_push_6 : decode cX2_push 6 = .ok (.if_icmp .ge 23, 3) := by decide +kernel
theorem dX2_push_9 : decode cX2_push 9 = .ok (.aload_n 0, 1) := by decide +kernel
theorem dX2_push_10 : decode cX2_push 10 = .ok (.getfield 15, 3) := by decide +kernel
theorem dX2_push_13 : decode cX2_push 13 = .ok (.aload_n 0, 1) := by decide +kernel
theorem dX2_push_14 : decode cX2_push 14 = .ok (.getfield 106, 3) := by decide +kernel
theorem dX2_push_17 : decode cX2_push 17 = .ok (.iload_n 1, 1) := by decide +kernel
theorem dX2_push_18 : decode cX2_push 18 = .ok (.iastore, 1) := by decide +kernel
theorem dX2_push_19 : decode cX2_push 19 = .ok (.aload_n 0, 1) := by decide +kernel
theorem dX2_push_20 : decode cX2_push 20 = .ok (.dup, 1) := by decide +kernel
theorem dX2_push_21 : decode cX2_push 21 = .ok (.getfield 106, 3) := by decide +kernel
theorem dX2_push_24 : decode cX2_push 24 = .ok (.iconst 1, 1) := by decide +kernel
theorem dX2_push_25 : decode cX2_push 25 = .ok (.iadd, 1) := by decide +kernel
theorem dX2_push_26 : decode cX2_push 26 = .ok (.putfield 106, 3) := by decide +kernel
theorem dX2_push_29 : decode cX2_push 29 = .ok (.return_, 1) := by decide +kernel
theorem dX2_pop_0 : decode cX2_pop 0 = .ok (.aload_n 0, 1) := by decide +kernel
theorem dX2_pop_1 : decode cX2_pop 1 = .ok (.getfield 106, 3) := by decide +kernel
theorem dX2_pop_4 : decode cX2_pop 4 = .ok (.ifCond .gt 5, 3) := by decide +kernel
theorem dX2_pop_7 : decode cX2_pop 7 = .ok (.iconst 0, 1) := by decide +kernel
theorem dX2_pop_8 : decode cX2_pop 8 = .ok (.ireturn, 1) := by decide +kernel
theorem dX2_pop_9 : decode cX2_pop 9 = .ok (.aload_n 0, 1) := by decide +kernel
theorem dX2_pop_10 : decode cX2_pop 10 = .ok (.dup, 1) := by decide +kernel
theorem dX2_pop_11 : decode cX2_pop 11 = .ok (.getfield 106, 3) := by decide +kernel
theorem dX2_pop_14 : decode cX2_pop 14 = .ok (.iconst 1, 1) := by decide +kernel
theorem dX2_pop_15 : decode cX2_pop 15 = .ok (.isub, 1) := by decide +kernel
theorem dX2_pop_16 : decode cX2_pop 16 = .ok (.putfield 106, 3) := by decide +kernel
theorem dX2_pop_19 : decode cX2_pop 19 = .ok (.aload_n 0, 1) := by decide +kernel
theorem dX2_pop_20 : decode cX2_pop 20 = .ok (.getfield 15, 3) := by decide +kernel
theorem dX2_pop_23 : decode cX2_pop 23 = .ok (.aload_n 0, 1) := by decide +kernel
theorem dX2_pop_24 : decode cX2_pop 24 = .ok (.getfield 106, 3) := by decide +kernel
theorem dX2_pop_27 : decode cX2_pop 27 = .ok (.iaload, 1) := by decide +kernel
theorem dX2_pop_28 : decode cX2_pop 28 = .ok (.ireturn, 1) := by decide +kernel
theorem dX2_valueOf_0 : decode cX2_valueOf 0 = .ok (.iload_n 1, 1) := by decide +kernel
theorem dX2_valueOf_1 : decode cX2_valueOf 1 = .ok (.tableswitch 127 206 214 #[51, 56, 61, 71, 76, 104, 109, 114, 122], 51) := by decide +kernel
theorem dX2_valueOf_52 : decode cX2_valueOf 52 = .ok (.aload_n 0, 1) := by decide +kernel
theorem dX2_valueOf_53 : decode cX2_valueOf 53 = .ok (.getfield 58, 3) := by decide +kernel
theorem dX2_valueOf_56 : decode cX2_valueOf 56 = .ok (.ireturn, 1) := by decide +kernel
theorem dX2_valueOf_57 : decode cX2_valueOf 57 = .ok (.aload_n 0, 1) := by decide +kernel
theorem dX2_valueOf_58 : decode cX2_valueOf 58 = .ok (.getfield 64, 3) := by decide +kernel
theorem dX2_valueOf_61 : decode cX2_valueOf 61 = .ok (.ireturn, 1) := by decide +kernel
theorem dX2_valueOf_62 : decode cX2_valueOf 62 = .ok (.aload_n 0, 1) := by decide +kernel
theorem dX2_valueOf_63 : decode cX2_valueOf 63 = .ok (.getfield 64, 3) := by decide +kernel
theorem dX2_valueOf_66 : decode cX2_valueOf 66 = .ok (.aload_n 0, 1) := by decide +kernel
theorem dX2_valueOf_67 : decode cX2_valueOf 67 = .ok (.getfield 58, 3) := by decide +kernel
theorem dX2_valueOf_70 : decode cX2_valueOf 70 = .ok (.isub, 1) := by decide +kernel
theorem dX2_valueOf_71 : decode cX2_valueOf 71 = .ok (.ireturn, 1) := by decide +kernel
theorem dX2_valueOf_72 : decode cX2_valueOf 72 = .ok (.aload_n 0, 1) := by decide +kernel
theorem dX2_valueOf_73 : decode cX2_valueOf 73 = .ok (.getfield 67, 3) := by decide +kernel
theorem dX2_valueOf_76 : decode cX2_valueOf 76 = .ok (.ireturn, 1) := by decide +kernel
theorem dX2_valueOf_77 : decode cX2_valueOf 77 = .ok (.aload_n 0, 1) := by decide +kernel
theorem dX2_valueOf_78 : decode cX2_valueOf 78 = .ok (.getfield 58, 3) := by decide +kernel
theorem dX2_valueOf_81 : decode cX2_valueOf 81 = .ok (.aload_n 0, 1) := by decide +kernel
theorem dX2_valueOf_82 : decode cX2_valueOf 82 = .ok (.getfield 67, 3) := by decide +kernel
theorem dX2_valueOf_85 : decode cX2_valueOf 85 = .ok (.isub, 1) := by decide +kernel
theorem dX2_valueOf_86 : decode cX2_valueOf 86 = .ok (.invokestatic 127, 3) := by decide +kernel
theorem dX2_valueOf_89 : decode cX2_valueOf 89 = .ok (.aload_n 0, 1) := by decide +kernel
theorem dX2_valueOf_90 : decode cX2_valueOf 90 = .ok (.getfield 64, 3) := by decide +kernel
theorem dX2_valueOf_93 : decode cX2_valueOf 93 = .ok (.aload_n 0, 1) := by decide +kernel
theorem dX2_valueOf_94 : decode cX2_valueOf 94 = .ok (.getfield 67, 3) := by decide +kernel
theorem dX2_valueOf_97 : decode cX2_valueOf 97 = .ok (.isub, 1) := by decide +kernel
theorem dX2_valueOf_98 : decode cX2_valueOf 98 = .ok (.invokestatic 127, 3) := by decide +kernel
theorem dX2_valueOf_101 : decode cX2_valueOf 101 = .ok (.invokestatic 53, 3) := by decide +kernel
theorem dX2_valueOf_104 : decode cX2_valueOf 104 = .ok (.ireturn, 1) := by decide +kernel
theorem dX2_valueOf_105 : decode cX2_valueOf 105 = .ok (.aload_n 0, 1) := by decide +kernel
theorem dX2_valueOf_106 : decode cX2_valueOf 106 = .ok (.getfield 73, 3) := by decide +kernel
theorem dX2_valueOf_109 : decode cX2_valueOf 109 = .ok (.ireturn, 1) := by decide +kernel
theorem dX2_valueOf_110 : decode cX2_valueOf 110 = .ok (.aload_n 0, 1) := by decide +kernel
theorem dX2_valueOf_111 : decode cX2_valueOf 111 = .ok (.getfield 81, 3) := by decide +kernel
theorem dX2_valueOf_114 : decode cX2_valueOf 114 = .ok (.ireturn, 1) := by decide +kernel
theorem dX2_valueOf_115 : decode cX2_valueOf 115 = .ok (.aload_n 0, 1) := by decide +kernel
theorem dX2_valueOf_116 : decode cX2_valueOf 116 = .ok (.getfield 9, 3) := by decide +kernel
theorem dX2_valueOf_119 : decode cX2_valueOf 119 = .ok (.getfield 130, 3) := by decide +kernel
theorem dX2_valueOf_122 : decode cX2_valueOf 122 = .ok (.ireturn, 1) := by decide +kernel
theorem dX2_valueOf_123 : decode cX2_valueOf 123 = .ok (.aload_n 0, 1) := by decide +kernel
theorem dX2_valueOf_124 : decode cX2_valueOf 124 = .ok (.getfield 84, 3) := by decide +kernel
theorem dX2_valueOf_127 : decode cX2_valueOf 127 = .ok (.ireturn, 1) := by decide +kernel
theorem dX2_valueOf_128 : decode cX2_valueOf 128 = .ok (.iconst 0, 1) := by decide +kernel
theorem dX2_valueOf_129 : decode cX2_valueOf 129 = .ok (.ireturn, 1) := by decide +kernel
theorem dX2_joined_0 : decode cX2_joined 0 = .ok (.iload_n 0, 1) := by decide +kernel
theorem dX2_joined_1 : decode cX2_joined 1 = .ok (.lookupswitch 148 #[(42, 91), (43, 83), (45, 87), (47, 95), (60, 107), (61, 118), (62, 129), (203, 144), (204, 140)], 83) := by decide +kernel
theorem dX2_joined_84 : decode cX2_joined 84 = .ok (.iload_n 1, 1) := by decide +kernel
theorem dX2_joined_85 : decode cX2_joined 85 = .ok (.iload_n 2, 1) := by decide +kernel
theorem dX2_joined_86 : decode cX2_joined 86 = .ok (.iadd, 1) := by decide +kernel
theorem dX2_joined_87 : decode cX2_joined 87 = .ok (.ireturn, 1) := by decide +kernel
theorem dX2_joined_88 : decode cX2_joined 88 = .ok (.iload_n 1, 1) := by decide +kernel
theorem dX2_joined_89 : decode cX2_joined 89 = .ok (.iload_n 2, 1) := by decide +kernel
theorem dX2_joined_90 : decode cX2_joined 90 = .ok (.isub, 1) := by decide +kernel
theorem dX2_joined_91 : decode cX2_joined 91 = .ok (.ireturn, 1) := by decide +kernel
theorem dX2_joined_92 : decode cX2_joined 92 = .ok (.iload_n 1, 1) := by decide +kernel
theorem dX2_joined_93 : decode cX2_joined 93 = .ok (.iload_n 2, 1) := by decide +kernel
theorem dX2_joined_94 : decode cX2_joined 94 = .ok (.imul, 1) := by decide +kernel
theorem dX2_joined_95 : decode cX2_joined 95 = .ok (.ireturn, 1) := by decide +kernel
theorem dX2_joined_96 : decode cX2_joined 96 = .ok (.iload_n 2, 1) := by decide +kernel
theorem dX2_joined_97 : decode cX2_joined 97 = .ok (.ifCond .ne 7, 3) := by decide +kernel
theorem dX2_joined_100 : decode cX2_joined 100 = .ok (.iconst 0, 1) := by decide +kernel
theorem dX2_joined_101 : decode cX2_joined 101 = .ok (.goto 6, 3) := by decide +kernel
theorem dX2_joined_104 : decode cX2_joined 104 = .ok (.iload_n 1, 1) := by decide +kernel
theorem dX2_joined_105 : decode cX2_joined 105 = .ok (.iload_n 2, 1) := by decide +kernel
theorem dX2_joined_106 : decode cX2_joined 106 = .ok (.idiv, 1) := by decide +kernel
theorem dX2_joined_107 : decode cX2_joined 107 = .ok (.ireturn, 1) := by decide +kernel
theorem dX2_joined_108 : decode cX2_joined 108 = .ok (.iload_n 1, 1) := by decide +kernel
theorem dX2_joined_109 : decode cX2_joined 109 = .ok (.iload_n 2, 1) := by decide +kernel
theorem dX2_joined_110 : decode cX2_joined 110 = .ok (.if_icmp .ge 7, 3) := by decide +kernel
theorem dX2_joined_113 : decode cX2_joined 113 = .ok (.iconst 1, 1) := by decide +kernel
theorem dX2_joined_114 : decode cX2_joined 114 = .ok (.goto 4, 3) := by decide +kernel
theorem dX2_joined_117 : decode cX2_joined 117 = .ok (.iconst 0, 1) := by decide +kernel
theorem dX2_joined_118 : decode cX2_joined 118 = .ok (.ireturn, 1) := by decide +kernel
theorem dX2_joined_119 : decode cX2_joined 119 = .ok (.iload_n 1, 1) := by decide +kernel
theorem dX2_joined_120 : decode cX2_joined 120 = .ok (.iload_n 2, 1) := by decide +kernel
theorem dX2_joined_121 : decode cX2_joined 121 = .ok (.if_icmp .ne 7, 3) := by decide +kernel
theorem dX2_joined_124 : decode cX2_joined 124 = .ok (.iconst 1, 1) := by decide +kernel
theorem dX2_joined_125 : decode cX2_joined 125 = .ok (.goto 4, 3) := by decide +kernel
theorem dX2_joined_128 : decode cX2_joined 128 = .ok (.iconst 0, 1) := by decide +kernel
theorem dX2_joined_129 : decode cX2_joined 129 = .ok (.ireturn, 1) := by decide +kernel
theorem dX2_joined_130 : decode cX2_joined 130 = .ok (.iload_n 1, 1) := by decide +kernel
theorem dX2_joined_131 : decode cX2_joined 131 = .ok (.iload_n 2, 1) := by decide +kernel
theorem dX2_joined_132 : decode cX2_joined 132 = .ok (.if_icmp .le 7, 3) := by decide +kernel
theorem dX2_joined_135 : decode cX2_joined 135 = .ok (.iconst 1, 1) := by decide +kernel
theorem dX2_joined_136 : decode cX2_joined 136 = .ok (.goto 4, 3) := by decide +kernel
theorem dX2_joined_139 : decode cX2_joined 139 = .ok (.iconst 0, 1) := by decide +kernel
theorem dX2_joined_140 : decode cX2_joined 140 = .ok (.ireturn, 1) := by decide +kernel
theorem dX2_joined_141 : decode cX2_joined 141 = .ok (.iload_n 1, 1) := by decide +kernel
theorem dX2_joined_142 : decode cX2_joined 142 = .ok (.iload_n 2, 1) := by decide +kernel
theorem dX2_joined_143 : decode cX2_joined 143 = .ok (.iand, 1) := by decide +kernel
theorem dX2_joined_144 : decode cX2_joined 144 = .ok (.ireturn, 1) := by decide +kernel
theorem dX2_joined_145 : decode cX2_joined 145 = .ok (.iload_n 1, 1) := by decide +kernel
theorem dX2_joined_146 : decode cX2_joined 146 = .ok (.iload_n 2, 1) := by decide +kernel
theorem dX2_joined_147 : decode cX2_joined 147 = .ok (.ior, 1) := by decide +kernel
theorem dX2_joined_148 : decode cX2_joined 148 = .ok (.ireturn, 1) := by decide +kernel
theorem dX2_joined_149 : decode cX2_joined 149 = .ok (.iconst 0, 1) := by decide +kernel
theorem dX2_joined_150 : decode cX2_joined 150 = .ok (.ireturn, 1) := by decide +kernel
theorem dX3_init_0 : decode cX3_init 0 = .ok (.aload_n 0, 1) := by decide +kernel
theorem dX3_init_1 : decode cX3_init 1 = .ok (.invokespecial 3, 3) := by decide +kernel
theorem dX3_init_4 : decode cX3_init 4 = .ok (.aload_n 0, 1) := by decide +kernel
theorem dX3_init_5 : decode cX3_init 5 = .ok (.bipush 6, 2) := by decide +kernel
theorem dX3_init_7 : decode cX3_init 7 = .ok (.newarray .int, 2) := by decide +kernel
theorem dX3_init_9 : decode cX3_init 9 = .ok (.putfield 9, 3) := by decide +kernel
theorem dX3_init_12 : decode cX3_init 12 = .ok (.aload_n 0, 1) := by decide +kernel
theorem dX3_init_13 : decode cX3_init 13 = .ok (.bipush 6, 2) := by decide +kernel
theorem dX3_init_15 : decode cX3_init 15 = .ok (.newarray .int, 2) := by decide +kernel
theorem dX3_init_17 : decode cX3_init 17 = .ok (.putfield 15, 3) := by decide +kernel
theorem dX3_init_20 : decode cX3_init 20 = .ok (.aload_n 0, 1) := by decide +kernel
theorem dX3_init_21 : decode cX3_init 21 = .ok (.bipush 25, 2) := by decide +kernel
theorem dX3_init_23 : decode cX3_init 23 = .ok (.newarray .int, 2) := by decide +kernel
theorem dX3_init_25 : decode cX3_init 25 = .ok (.putfield 18, 3) := by decide +kernel
theorem dX3_init_28 : decode cX3_init 28 = .ok (.return_, 1) := by decide +kernel
theorem dX3_countRows_0 : decode cX3_countRows 0 = .ok (.aload_n 0, 1) := by decide +kernel
theorem dX3_countRows_1 : decode cX3_countRows 1 = .ok (.iconst 0, 1) := by decide +kernel
theorem dX3_countRows_2 : decode cX3_countRows 2 = .ok (.putfield 21, 3) := by decide +kernel
theorem dX3_countRows_5 : decode cX3_countRows 5 = .ok (.aload_n 2, 1) := by decide +kernel
theorem dX3_countRows_6 : decode cX3_countRows 6 = .ok (.getfield 25, 3) := by decide +kernel
theorem dX3_countRows_9 : decode cX3_countRows 9 = .ok (.iload_n 1, 1) := by decide +kernel
theorem dX3_countRows_10 : decode cX3_countRows 10 = .ok (.iload_n 1, 1) := by decide +kernel
theorem dX3_countRows_11 : decode cX3_countRows 11 = .ok (.iconst 1, 1) := by decide +kernel
theorem dX3_countRows_12 : decode cX3_countRows 12 = .ok (.isub, 1) := by decide +kernel
theorem dX3_countRows_13 : decode cX3_countRows 13 = .ok (.imul, 1) := by decide +kernel
theorem dX3_countRows_14 : decode cX3_countRows 14 = .ok (.iconst 2, 1) := by decide +kernel
theorem dX3_countRows_15 : decode cX3_countRows 15 = .ok (.idiv, 1) := by decide +kernel
theorem dX3_countRows_16 : decode cX3_countRows 16 = .ok (.if_icmp .eq 5, 3) := by decide +kernel
theorem dX3_countRows_19 : decode cX3_countRows 19 = .ok (.iconst 0, 1) := by decide +kernel
theorem dX3_countRows_20 : decode cX3_countRows 20 = .ok (.ireturn, 1) := by decide +kernel
theorem dX3_countRows_21 : decode cX3_countRows 21 = .ok (.aload_n 0, 1) := by decide +kernel
theorem dX3_countRows_22 : decode cX3_countRows 22 = .ok (.getfield 18, 3) := by decide +kernel
theorem dX3_countRows_25 : decode cX3_countRows 25 = .ok (.iconst 0, 1) := by decide +kernel
theorem dX3_countRows_26 : decode cX3_countRows 26 = .ok (.invokestatic 30, 3) := by decide +kernel
theorem dX3_countRows_29 : decode cX3_countRows 29 = .ok (.iconst 0, 1) := by decide +kernel
theorem dX3_countRows_30 : decode cX3_countRows 30 = .ok (.istore_n 3, 1) := by decide +kernel
theorem dX3_countRows_31 : decode cX3_countRows 31 = .ok (.iload_n 3, 1) := by decide +kernel
theorem dX3_countRows_32 : decode cX3_countRows 32 = .ok (.aload_n 2, 1) := by decide +kernel
theorem dX3_countRows_33 : decode cX3_countRows 33 = .ok (.getfield 25, 3) := by decide +kernel
theorem dX3_countRows_36 : decode cX3_countRows 36 = .ok (.if_icmp .ge 24, 3) := by decide +kernel
theorem dX3_countRows_39 : decode cX3_countRows 39 = .ok (.aload_n 0, 1) := by decide +kernel
theorem dX3_countRows_40 : decode cX3_countRows 40 = .ok (.getfield 18, 3) := by decide +kernel
theorem dX3_countRows_43 : decode cX3_countRows 43 = .ok (.aload_n 2, 1) := by decide +kernel
theorem dX3_countRows_44 : decode cX3_countRows 44 = .ok (.getfield 36, 3) := by decide +kernel
theorem dX3_countRows_47 : decode cX3_countRows 47 = .ok (.iload_n 3, 1) := by decide +kernel
theorem dX3_countRows_48 : decode cX3_countRows 48 = .ok (.iaload, 1) := by decide +kernel
theorem dX3_countRows_49 : decode cX3_countRows 49 = .ok (.dup2, 1) := by decide +kernel
theorem dX3_countRows_50 : decode cX3_countRows 50 = .ok (.iaload, 1) := by decide +kernel
theorem dX3_countRows_51 : decode cX3_countRows 51 = .ok (.iconst 1, 1) := by decide +kernel
theorem dX3_countRows_52 : decode cX3_countRows 52 = .ok (.iadd, 1) := by decide +kernel
theorem dX3_countRows_53 : decode cX3_countRows 53 = .ok (.iastore, 1) := by decide +kernel
theorem dX3_countRows_54 : decode cX3_countRows 54 = .ok (.iinc 3 1, 3) := by decide +kernel
theorem dX3_countRows_57 : decode cX3_countRows 57 = .ok (.goto (-26), 3) := by decide +kernel
theorem dX3_countRows_60 : decode cX3_countRows 60 = .ok (.aload_n 0, 1) := by decide +kernel
theorem dX3_countRows_61 : decode cX3_countRows 61 = .ok (.getfield 15, 3) := by decide +kernel
theorem dX3_countRows_64 : decode cX3_countRows 64 = .ok (.iconst 0, 1) := by decide +kernel
theorem dX3_countRows_65 : decode cX3_countRows 65 = .ok (.iconst 0, 1) := by decide +kernel
theorem dX3_countRows_66 : decode cX3_countRows 66 = .ok (.iastore, 1) := by decide +kernel
theorem dX3_countRows_67 : decode cX3_countRows 67 = .ok (.aload_n 0, 1) := by decide +kernel
theorem dX3_countRows_68 : decode cX3_countRows 68 = .ok (.iconst 1, 1) := by decide +kernel
theorem dX3_countRows_69 : decode cX3_countRows 69 = .ok (.iload_n 1, 1) := by decide +kernel
theorem dX3_countRows_70 : decode cX3_countRows 70 = .ok (.invokevirtual 39, 3) := by decide +kernel
theorem dX3_countRows_73 : decode cX3_countRows 73 = .ok (.aload_n 0, 1) := by decide +kernel
theorem dX3_countRows_74 : decode cX3_countRows 74 = .ok (.getfield 21, 3) := by decide +kernel
theorem dX3_countRows_77 : decode cX3_countRows 77 = .ok (.ireturn, 1) := by decide +kernel
theorem dX3_extend_0 : decode cX3_extend 0 = .ok (.iload_n 1, 1) := by decide +kernel
theorem dX3_extend_1 : decode cX3_extend 1 = .ok (.iload_n 2, 1) := by decide +kernel
theorem dX3_extend_2 : decode cX3_extend 2 = .ok (.if_icmp .ge 9, 3) := by decide +kernel
theorem dX3_extend_5 : decode cX3_extend 5 = .ok (.iload_n 1, 1) := by decide +kernel
theorem dX3_extend_6 : decode cX3_extend 6 = .ok (.bipush 6, 2) := by decide +kernel
theorem dX3_extend_8 : decode cX3_extend 8 = .ok (.if_icmp .lt 36, 3) := by decide +kernel
theorem dX3_extend_11 : decode cX3_extend 11 = .ok (.aload_n 0, 1) := by decide +kernel
theorem dX3_extend_12 : decode cX3_extend 12 = .ok (.getfield 21, 3) := by decide +kernel
theorem dX3_extend_15 : decode cX3_extend 15 = .ok (.ifCond .ne 18, 3) := by decide +kernel
theorem dX3_extend_18 : decode cX3_extend 18 = .ok (.aload_n 0, 1) := by decide +kernel
theorem dX3_extend_19 : decode cX3_extend 19 = .ok (.getfield 15, 3) := by decide +kernel
theorem dX3_extend_22 : decode cX3_extend 22 = .ok (.iconst 0, 1) := by decide +kernel
theorem dX3_extend_23 : decode cX3_extend 23 = .ok (.aload_n 0, 1) := by decide +kernel
theorem dX3_extend_24 : decode cX3_extend 24 = .ok (.getfield 9, 3) := by decide +kernel
theorem dX3_extend_27 : decode cX3_extend 27 = .ok (.iconst 0, 1) := by decide +kernel
theorem dX3_extend_28 : decode cX3_extend 28 = .ok (.bipush 6, 2) := by decide +kernel
theorem dX3_extend_30 : decode cX3_extend 30 = .ok (.invokestatic 43, 3) := by decide +kernel
theorem dX3_extend_33 : decode cX3_extend 33 = .ok (.aload_n 0, 1) := by decide +kernel
theorem dX3_extend_34 : decode cX3_extend 34 = .ok (.dup, 1) := by decide +kernel
theorem dX3_extend_35 : decode cX3_extend 35 = .ok (.getfield 21, 3) := by decide +kernel
theorem dX3_extend_38 : decode cX3_extend 38 = .ok (.iconst 1, 1) := by decide +kernel
theorem dX3_extend_39 : decode cX3_extend 39 = .ok (.iadd, 1) := by decide +kernel
theorem dX3_extend_40 : decode cX3_extend 40 = .ok (.putfield 21, 3) := by decide +kernel
theorem dX3_extend_43 : decode cX3_extend 43 = .ok (.return_, 1) := by decide +kernel
theorem dX3_extend_44 : decode cX3_extend 44 = .ok (.aload_n 0, 1) := by decide +kernel
theorem dX3_extend_45 : decode cX3_extend 45 = .ok (.getfield 15, 3) := by decide +kernel
theorem dX3_extend_48 : decode cX3_extend 48 = .ok (.iload_n 1, 1) := by decide +kernel
theorem dX3_extend_49 : decode cX3_extend 49 = .ok (.iconst 1, 1) := by decide +kernel
theorem dX3_extend_50 : decode cX3_extend 50 = .ok (.isub, 1) := by decide +kernel
theorem dX3_extend_51 : decode cX3_extend 51 = .ok (.iaload, 1) := by decide +kernel
theorem dX3_extend_52 : decode cX3_extend 52 = .ok (.iconst 1, 1) := by decide +kernel
theorem dX3_extend_53 : decode cX3_extend 53 = .ok (.iadd, 1) := by decide +kernel
theorem dX3_extend_54 : decode cX3_extend 54 = .ok (.istore_n 3, 1) := by decide +kernel
theorem dX3_extend_55 : decode cX3_extend 55 = .ok (.iload_n 3, 1) := by decide +kernel
theorem dX3_extend_56 : decode cX3_extend 56 = .ok (.bipush 24, 2) := by decide +kernel
theorem dX3_extend_58 : decode cX3_extend 58 = .ok (.if_icmp .gt 47, 3) := by decide +kernel
theorem dX3_extend_61 : decode cX3_extend 61 = .ok (.aload_n 0, 1) := by decide +kernel
theorem dX3_extend_62 : decode cX3_extend 62 = .ok (.iload_n 3, 1) := by decide +kernel
theorem dX3_extend_63 : decode cX3_extend 63 = .ok (.iload_n 1, 1) := by decide +kernel
theorem dX3_extend_64 : decode cX3_extend 64 = .ok (.invokevirtual 49, 3) := by decide +kernel
theorem dX3_extend_67 : decode cX3_extend 67 = .ok (.ifCond .eq 32, 3) := by decide +kernel
theorem dX3_extend_70 : decode cX3_extend 70 = .ok (.aload_n 0, 1) := by decide +kernel
theorem dX3_extend_71 : decode cX3_extend 71 = .ok (.getfield 15, 3) := by decide +kernel
theorem dX3_extend_74 : decode cX3_extend 74 = .ok (.iload_n 1, 1) := by decide +kernel
theorem dX3_extend_75 : decode cX3_extend 75 = .ok (.iload_n 3, 1) := by decide +kernel
theorem dX3_extend_76 : decode cX3_extend 76 = .ok (.iastore, 1) := by decide +kernel
theorem dX3_extend_77 : decode cX3_extend 77 = .ok (.aload_n 0, 1) := by decide +kernel
theorem dX3_extend_78 : decode cX3_extend 78 = .ok (.iload_n 3, 1) := by decide +kernel
theorem dX3_extend_79 : decode cX3_extend 79 = .ok (.iload_n 1, 1) := by decide +kernel
theorem dX3_extend_80 : decode cX3_extend 80 = .ok (.iconst (-1), 1) := by decide +kernel
theorem dX3_extend_81 : decode cX3_extend 81 = .ok (.invokevirtual 53, 3) := by decide +kernel
theorem dX3_extend_84 : decode cX3_extend 84 = .ok (.aload_n 0, 1) := by decide +kernel
theorem dX3_extend_85 : decode cX3_extend 85 = .ok (.iload_n 1, 1) := by decide +kernel
theorem dX3_extend_86 : decode cX3_extend 86 = .ok (.iconst 1, 1) := by decide +kernel
theorem dX3_extend_87 : decode cX3_extend 87 = .ok (.iadd, 1) := by decide +kernel
theorem dX3_extend_88 : decode cX3_extend 88 = .ok (.iload_n 2, 1) := by decide +kernel
theorem dX3_extend_89 : decode cX3_extend 89 = .ok (.invokevirtual 39, 3) := by decide +kernel
theorem dX3_extend_92 : decode cX3_extend 92 = .ok (.aload_n 0, 1) := by decide +kernel
theorem dX3_extend_93 : decode cX3_extend 93 = .ok (.iload_n 3, 1) := by decide +kernel
theorem dX3_extend_94 : decode cX3_extend 94 = .ok (.iload_n 1, 1) := by decide +kernel
theorem dX3_extend_95 : decode cX3_extend 95 = .ok (.iconst 1, 1) := by decide +kernel
theorem dX3_extend_96 : decode cX3_extend 96 = .ok (.invokevirtual 53, 3) := by decide +kernel
theorem dX3_extend_99 : decode cX3_extend 99 = .ok (.iinc 3 1, 3) := by decide +kernel
theorem dX3_extend_102 : decode cX3_extend 102 = .ok (.goto (-47), 3) := by decide +kernel
theorem dX3_extend_105 : decode cX3_extend 105 = .ok (.return_, 1) := by decide +kernel
theorem dX3_hasWordsFor_0 : decode cX3_hasWordsFor 0 = .ok (.iconst 0, 1) := by decide +kernel
theorem dX3_hasWordsFor_1 : decode cX3_hasWordsFor 1 = .ok (.istore_n 3, 1) := by decide +kernel
theorem dX3_hasWordsFor_2 : decode cX3_hasWordsFor 2 = .ok (.iload_n 3, 1) := by decide +kernel
theorem dX3_hasWordsFor_3 : decode cX3_hasWordsFor 3 = .ok (.iload_n 2, 1) := by decide +kernel
theorem dX3_hasWordsFor_4 : decode cX3_hasWordsFor 4 = .ok (.if_icmp .ge 27, 3) := by decide +kernel
theorem dX3_hasWordsFor_7 : decode cX3_hasWordsFor 7 = .ok (.aload_n 0, 1) := by decide +kernel
theorem dX3_hasWordsFor_8 : decode cX3_hasWordsFor 8 = .ok (.getfield 18, 3) := by decide +kernel
theorem dX3_hasWordsFor_11 : decode cX3_hasWordsFor 11 = .ok (.iload_n 1, 1) := by decide +kernel
theorem dX3_hasWordsFor_12 : decode cX3_hasWordsFor 12 = .ok (.aload_n 0, 1) := by decide +kernel
theorem dX3_hasWordsFor_13 : decode cX3_hasWordsFor 13 = .ok (.getfield 15, 3) := by decide +kernel
theorem dX3_hasWordsFor_16 : decode cX3_hasWordsFor 16 = .ok (.iload_n 3, 1) := by decide +kernel
theorem dX3_hasWordsFor_17 : decode cX3_hasWordsFor 17 = .ok (.iaload, 1) := by decide +kernel
theorem dX3_hasWordsFor_18 : decode cX3_hasWordsFor 18 = .ok (.isub, 1) := by decide +kernel
theorem dX3_hasWordsFor_19 : decode cX3_hasWordsFor 19 = .ok (.iaload, 1) := by decide +kernel
theorem dX3_hasWordsFor_20 : decode cX3_hasWordsFor 20 = .ok (.ifCond .ne 5, 3) := by decide +kernel
theorem dX3_hasWordsFor_23 : decode cX3_hasWordsFor 23 = .ok (.iconst 0, 1) := by decide +kernel
theorem dX3_hasWordsFor_24 : decode cX3_hasWordsFor 24 = .ok (.ireturn, 1) := by decide +kernel
theorem dX3_hasWordsFor_25 : decode cX3_hasWordsFor 25 = .ok (.iinc 3 1, 3) := by decide +kernel
theorem dX3_hasWordsFor_28 : decode cX3_hasWordsFor 28 = .ok (.goto (-26), 3) := by decide +kernel
theorem dX3_hasWordsFor_31 : decode cX3_hasWordsFor 31 = .ok (.iconst 1, 1) := by decide +kernel
theorem dX3_hasWordsFor_32 : decode cX3_hasWordsFor 32 = .ok (.ireturn, 1) := by decide +kernel
theorem dX3_changeLeft_0 : decode cX3_changeLeft 0 = .ok (.iconst 0, 1) := by decide +kernel
theorem dX3_changeLeft_1 : decode cX3_changeLeft 1 = .ok (.istore 4, 2) := by decide +kernel
theorem dX3_changeLeft_3 : decode cX3_changeLeft 3 = .ok (.iload 4, 2) := by decide +kernel
theorem dX3_changeLeft_5 : decode cX3_changeLeft 5 = .ok (.iload_n 2, 1) := by decide +kernel
theorem dX3_changeLeft_6 : decode cX3_changeLeft 6 = .ok (.if_icmp .ge 27, 3) := by decide +kernel
theorem dX3_changeLeft_9 : decode cX3_changeLeft 9 = .ok (.aload_n 0, 1) := by decide +kernel
theorem dX3_changeLeft_10 : decode cX3_changeLeft 10 = .ok (.getfield 18, 3) := by decide +kernel
theorem dX3_changeLeft_13 : decode cX3_changeLeft 13 = .ok (.iload_n 1, 1) := by decide +kernel
theorem dX3_changeLeft_14 : decode cX3_changeLeft 14 = .ok (.aload_n 0, 1) := by decide +kernel
theorem dX3_changeLeft_15 : decode cX3_changeLeft 15 = .ok (.getfield 15, 3) := by decide +kernel
theorem dX3_changeLeft_18 : decode cX3_changeLeft 18 = .ok (.iload 4, 2) := by decide +kernel
theorem dX3_changeLeft_20 : decode cX3_changeLeft 20 = .ok (.iaload, 1) := by decide +kernel
theorem dX3_changeLeft_21 : decode cX3_changeLeft 21 = .ok (.isub, 1) := by decide +kernel
theorem dX3_changeLeft_22 : decode cX3_changeLeft 22 = .ok (.dup2, 1) := by decide +kernel
theorem dX3_changeLeft_23 : decode cX3_changeLeft 23 = .ok (.iaload, 1) := by decide +kernel
theorem dX3_changeLeft_24 : decode cX3_changeLeft 24 = .ok (.iload_n 3, 1) := by decide +kernel
theorem dX3_changeLeft_25 : decode cX3_changeLeft 25 = .ok (.iadd, 1) := by decide +kernel
theorem dX3_changeLeft_26 : decode cX3_changeLeft 26 = .ok (.iastore, 1) := by decide +kernel
theorem dX3_changeLeft_27 : decode cX3_changeLeft 27 = .ok (.iinc 4 1, 3) := by decide +kernel
theorem dX3_changeLeft_30 : decode cX3_changeLeft 30 = .ok (.goto (-27), 3) := by decide +kernel
theorem dX3_changeLeft_33 : decode cX3_changeLeft 33 = .ok (.return_, 1) := by decide +kernel
theorem dX4_init_0 : decode cX4_init 0 = .ok (.aload_n 0, 1) := by decide +kernel
theorem dX4_init_1 : decode cX4_init 1 = .ok (.invokespecial 3, 3) := by decide +kernel
theorem dX4_init_4 : decode cX4_init 4 = .ok (.aload_n 0, 1) := by decide +kernel
theorem dX4_init_5 : decode cX4_init 5 = .ok (.bipush 16, 2) := by decide +kernel
theorem dX4_init_7 : decode cX4_init 7 = .ok (.newarray .int, 2) := by decide +kernel
theorem dX4_init_9 : decode cX4_init 9 = .ok (.putfield 9, 3) := by decide +kernel
theorem dX4_init_12 : decode cX4_init 12 = .ok (.aload_n 0, 1) := by decide +kernel
theorem dX4_init_13 : decode cX4_init 13 = .ok (.sipush 400, 3) := by decide +kernel
theorem dX4_init_16 : decode cX4_init 16 = .ok (.newarray .int, 2) := by decide +kernel
theorem dX4_init_18 : decode cX4_init 18 = .ok (.putfield 15, 3) := by decide +kernel
theorem dX4_init_21 : decode cX4_init 21 = .ok (.return_, 1) := by decide +kernel
theorem dX4_copyFrom_0 : decode cX4_copyFrom 0 = .ok (.aload_n 0, 1) := by decide +kernel
theorem dX4_copyFrom_1 : decode cX4_copyFrom 1 = .ok (.aload_n 1, 1) := by decide +kernel
theorem dX4_copyFrom_2 : decode cX4_copyFrom 2 = .ok (.getfield 18, 3) := by decide +kernel
theorem dX4_copyFrom_5 : decode cX4_copyFrom 5 = .ok (.putfield 18, 3) := by decide +kernel
theorem dX4_copyFrom_8 : decode cX4_copyFrom 8 = .ok (.aload_n 0, 1) := by decide +kernel
theorem dX4_copyFrom_9 : decode cX4_copyFrom 9 = .ok (.aload_n 1, 1) := by decide +kernel
theorem dX4_copyFrom_10 : decode cX4_copyFrom 10 = .ok (.getfield 22, 3) := by decide +kernel
theorem dX4_copyFrom_13 : decode cX4_copyFrom 13 = .ok (.putfield 22, 3) := by decide +kernel
theorem dX4_copyFrom_16 : decode cX4_copyFrom 16 = .ok (.aload_n 1, 1) := by decide +kernel
theorem dX4_copyFrom_17 : decode cX4_copyFrom 17 = .ok (.getfield 9, 3) := by decide +kernel
theorem dX4_copyFrom_20 : decode cX4_copyFrom 20 = .ok (.iconst 0, 1) := by decide +kernel
theorem dX4_copyFrom_21 : decode cX4_copyFrom 21 = .ok (.aload_n 0, 1) := by decide +kernel
theorem dX4_copyFrom_22 : decode cX4_copyFrom 22 = .ok (.getfield 9, 3) := by decide +kernel
theorem dX4_copyFrom_25 : decode cX4_copyFrom 25 = .ok (.iconst 0, 1) := by decide +kernel
theorem dX4_copyFrom_26 : decode cX4_copyFrom 26 = .ok (.bipush 16, 2) := by decide +kernel
theorem dX4_copyFrom_28 : decode cX4_copyFrom 28 = .ok (.invokestatic 25, 3) := by decide +kernel
theorem dX4_copyFrom_31 : decode cX4_copyFrom 31 = .ok (.aload_n 0, 1) := by decide +kernel
theorem dX4_copyFrom_32 : decode cX4_copyFrom 32 = .ok (.aload_n 1, 1) := by decide +kernel
theorem dX4_copyFrom_33 : decode cX4_copyFrom 33 = .ok (.getfield 31, 3) := by decide +kernel
theorem dX4_copyFrom_36 : decode cX4_copyFrom 36 = .ok (.putfield 31, 3) := by decide +kernel
theorem dX4_copyFrom_39 : decode cX4_copyFrom 39 = .ok (.aload_n 1, 1) := by decide +kernel
theorem dX4_copyFrom_40 : decode cX4_copyFrom 40 = .ok (.getfield 15, 3) := by decide +kernel
theorem dX4_copyFrom_43 : decode cX4_copyFrom 43 = .ok (.iconst 0, 1) := by decide +kernel
theorem dX4_copyFrom_44 : decode cX4_copyFrom 44 = .ok (.aload_n 0, 1) := by decide +kernel
theorem dX4_copyFrom_45 : decode cX4_copyFrom 45 = .ok (.getfield 15, 3) := by decide +kernel
theorem dX4_copyFrom_48 : decode cX4_copyFrom 48 = .ok (.iconst 0, 1) := by decide +kernel
theorem dX4_copyFrom_49 : decode cX4_copyFrom 49 = .ok (.aload_n 0, 1) := by decide +kernel
theorem dX4_copyFrom_50 : decode cX4_copyFrom 50 = .ok (.getfield 31, 3) := by decide +kernel
theorem dX4_copyFrom_53 : decode cX4_copyFrom 53 = .ok (.invokestatic 25, 3) := by decide +kernel
theorem dX4_copyFrom_56 : decode cX4_copyFrom 56 = .ok (.return_, 1) := by decide +kernel
theorem dX4_empty_0 : decode cX4_empty 0 = .ok (.aload_n 0, 1) := by decide +kernel
theorem dX4_empty_1 : decode cX4_empty 1 = .ok (.iconst 0, 1) := by decide +kernel
theorem dX4_empty_2 : decode cX4_empty 2 = .ok (.putfield 18, 3) := by decide +kernel
theorem dX4_empty_5 : decode cX4_empty 5 = .ok (.aload_n 0, 1) := by decide +kernel
theorem dX4_empty_6 : decode cX4_empty 6 = .ok (.iconst 0, 1) := by decide +kernel
theorem dX4_empty_7 : decode cX4_empty 7 = .ok (.putfield 22, 3) := by decide +kernel
theorem dX4_empty_10 : decode cX4_empty 10 = .ok (.aload_n 0, 1) := by decide +kernel
theorem dX4_empty_11 : decode cX4_empty 11 = .ok (.iconst 0, 1) := by decide +kernel
theorem dX4_empty_12 : decode cX4_empty 12 = .ok (.putfield 31, 3) := by decide +kernel
theorem dX4_empty_15 : decode cX4_empty 15 = .ok (.return_, 1) := by decide +kernel
theorem dX4_add_0 : decode cX4_add 0 = .ok (.aload_n 0, 1) := by decide +kernel
theorem dX4_add_1 : decode cX4_add 1 = .ok (.getfield 31, 3) := by decide +kernel
theorem dX4_add_4 : decode cX4_add 4 = .ok (.sipush 400, 3) := by decide +kernel
theorem dX4_add_7 : decode cX4_add 7 = .ok (.if_icmp .ge 23, 3) := by decide +kernel
theorem dX4_add_10 : decode cX4_add 10 = .ok (.aload_n 0, 1) := by decide +kernel
theorem dX4_add_11 : decode cX4_add 11 = .ok (.getfield 15, 3) := by decide +kernel
theorem dX4_add_14 : decode cX4_add 14 = .ok (.aload_n 0, 1) := by decide +kernel
theorem dX4_add_15 : decode cX4_add 15 = .ok (.getfield 31, 3) := by decide +kernel
theorem dX4_add_18 : decode cX4_add 18 = .ok (.iload_n 1, 1) := by decide +kernel
theorem dX4_add_19 : decode cX4_add 19 = .ok (.iastore, 1) := by decide +kernel
theorem dX4_add_20 : decode cX4_add 20 = .ok (.aload_n 0, 1) := by decide +kernel
theorem dX4_add_21 : decode cX4_add 21 = .ok (.dup, 1) := by decide +kernel
theorem dX4_add_22 : decode cX4_add 22 = .ok (.getfield 31, 3) := by decide +kernel
theorem dX4_add_25 : decode cX4_add 25 = .ok (.iconst 1, 1) := by decide +kernel
theorem dX4_add_26 : decode cX4_add 26 = .ok (.iadd, 1) := by decide +kernel
theorem dX4_add_27 : decode cX4_add 27 = .ok (.putfield 31, 3) := by decide +kernel
theorem dX4_add_30 : decode cX4_add 30 = .ok (.return_, 1) := by decide +kernel
theorem dX4_closeLine_0 : decode cX4_closeLine 0 = .ok (.aload_n 0, 1) := by decide +kernel
theorem dX4_closeLine_1 : decode cX4_closeLine 1 = .ok (.getfield 18, 3) := by decide +kernel
theorem dX4_closeLine_4 : decode cX4_closeLine 4 = .ok (.bipush 16, 2) := by decide +kernel
theorem dX4_closeLine_6 : decode cX4_closeLine 6 = .ok (.if_icmp .ge 49, 3) := by decide +kernel
theorem dX4_closeLine_9 : decode cX4_closeLine 9 = .ok (.aload_n 0, 1) := by decide +kernel
theorem dX4_closeLine_10 : decode cX4_closeLine 10 = .ok (.dup, 1) := by decide +kernel
theorem dX4_closeLine_11 : decode cX4_closeLine 11 = .ok (.getfield 22, 3) := by decide +kernel
theorem dX4_closeLine_14 : decode cX4_closeLine 14 = .ok (.iload_n 1, 1) := by decide +kernel
theorem dX4_closeLine_15 : decode cX4_closeLine 15 = .ok (.ifCond .eq 12, 3) := by decide +kernel
theorem dX4_closeLine_18 : decode cX4_closeLine 18 = .ok (.iconst 1, 1) := by decide +kernel
theorem dX4_closeLine_19 : decode cX4_closeLine 19 = .ok (.aload_n 0, 1) := by decide +kernel
theorem dX4_closeLine_20 : decode cX4_closeLine 20 = .ok (.getfield 18, 3) := by decide +kernel
theorem dX4_closeLine_23 : decode cX4_closeLine 23 = .ok (.ishl, 1) := by decide +kernel
theorem dX4_closeLine_24 : decode cX4_closeLine 24 = .ok (.goto 4, 3) := by decide +kernel
theorem dX4_closeLine_27 : decode cX4_closeLine 27 = .ok (.iconst 0, 1) := by decide +kernel
theorem dX4_closeLine_28 : decode cX4_closeLine 28 = .ok (.ior, 1) := by decide +kernel
theorem dX4_closeLine_29 : decode cX4_closeLine 29 = .ok (.putfield 22, 3) := by decide +kernel
theorem dX4_closeLine_32 : decode cX4_closeLine 32 = .ok (.aload_n 0, 1) := by decide +kernel
theorem dX4_closeLine_33 : decode cX4_closeLine 33 = .ok (.getfield 9, 3) := by decide +kernel
theorem dX4_closeLine_36 : decode cX4_closeLine 36 = .ok (.aload_n 0, 1) := by decide +kernel
theorem dX4_closeLine_37 : decode cX4_closeLine 37 = .ok (.getfield 18, 3) := by decide +kernel
theorem dX4_closeLine_40 : decode cX4_closeLine 40 = .ok (.aload_n 0, 1) := by decide +kernel
theorem dX4_closeLine_41 : decode cX4_closeLine 41 = .ok (.getfield 31, 3) := by decide +kernel
theorem dX4_closeLine_44 : decode cX4_closeLine 44 = .ok (.iastore, 1) := by decide +kernel
theorem dX4_closeLine_45 : decode cX4_closeLine 45 = .ok (.aload_n 0, 1) := by decide +kernel
theorem dX4_closeLine_46 : decode cX4_closeLine 46 = .ok (.dup, 1) := by decide +kernel
theorem dX4_closeLine_47 : decode cX4_closeLine 47 = .ok (.getfield 18, 3) := by decide +kernel
theorem dX4_closeLine_50 : decode cX4_closeLine 50 = .ok (.iconst 1, 1) := by decide +kernel
theorem dX4_closeLine_51 : decode cX4_closeLine 51 = .ok (.iadd, 1) := by decide +kernel
theorem dX4_closeLine_52 : decode cX4_closeLine 52 = .ok (.putfield 18, 3) := by decide +kernel
theorem dX4_closeLine_55 : decode cX4_closeLine 55 = .ok (.return_, 1) := by decide +kernel
theorem dX5_init_0 : decode cX5_init 0 = .ok (.aload_n 0, 1) := by decide +kernel
theorem dX5_init_1 : decode cX5_init 1 = .ok (.invokespecial 3, 3) := by decide +kernel
theorem dX5_init_4 : decode cX5_init 4 = .ok (.aload_n 0, 1) := by decide +kernel
theorem dX5_init_5 : decode cX5_init 5 = .ok (.bipush 80, 2) := by decide +kernel
theorem dX5_init_7 : decode cX5_init 7 = .ok (.newarray .int, 2) := by decide +kernel
theorem dX5_init_9 : decode cX5_init 9 = .ok (.putfield 9, 3) := by decide +kernel
theorem dX5_init_12 : decode cX5_init 12 = .ok (.aload_n 0, 1) := by decide +kernel
theorem dX5_init_13 : decode cX5_init 13 = .ok (.bipush 8, 2) := by decide +kernel
theorem dX5_init_15 : decode cX5_init 15 = .ok (.newarray .int, 2) := by decide +kernel
theorem dX5_init_17 : decode cX5_init 17 = .ok (.putfield 15, 3) := by decide +kernel
theorem dX5_init_20 : decode cX5_init 20 = .ok (.aload_n 0, 1) := by decide +kernel
theorem dX5_init_21 : decode cX5_init 21 = .ok (.bipush 8, 2) := by decide +kernel
theorem dX5_init_23 : decode cX5_init 23 = .ok (.newarray .int, 2) := by decide +kernel
theorem dX5_init_25 : decode cX5_init 25 = .ok (.putfield 18, 3) := by decide +kernel
theorem dX5_init_28 : decode cX5_init 28 = .ok (.aload_n 0, 1) := by decide +kernel
theorem dX5_init_29 : decode cX5_init 29 = .ok (.bipush 8, 2) := by decide +kernel
theorem dX5_init_31 : decode cX5_init 31 = .ok (.newarray .int, 2) := by decide +kernel
theorem dX5_init_33 : decode cX5_init 33 = .ok (.putfield 21, 3) := by decide +kernel
theorem dX5_init_36 : decode cX5_init 36 = .ok (.return_, 1) := by decide +kernel
theorem dX5_forget_0 : decode cX5_forget 0 = .ok (.aload_n 0, 1) := by decide +kernel
theorem dX5_forget_1 : decode cX5_forget 1 = .ok (.iconst 0, 1) := by decide +kernel
theorem dX5_forget_2 : decode cX5_forget 2 = .ok (.putfield 24, 3) := by decide +kernel
theorem dX5_forget_5 : decode cX5_forget 5 = .ok (.return_, 1) := by decide +kernel
theorem dX5_keep_0 : decode cX5_keep 0 = .ok (.aload_n 1, 1) := by decide +kernel
theorem dX5_keep_1 : decode cX5_keep 1 = .ok (.getfield 28, 3) := by decide +kernel
theorem dX5_keep_4 : decode cX5_keep 4 = .ok (.iconst 0, 1) := by decide +kernel
theorem dX5_keep_5 : decode cX5_keep 5 = .ok (.aload_n 0, 1) := by decide +kernel
theorem dX5_keep_6 : decode cX5_keep 6 = .ok (.getfield 9, 3) := by decide +kernel
theorem dX5_keep_9 : decode cX5_keep 9 = .ok (.aload_n 0, 1) := by decide +kernel
theorem dX5_keep_10 : decode cX5_keep 10 = .ok (.getfield 31, 3) := by decide +kernel
theorem dX5_keep_13 : decode cX5_keep 13 = .ok (.bipush 10, 2) := by decide +kernel
theorem dX5_keep_15 : decode cX5_keep 15 = .ok (.imul, 1) := by decide +kernel
theorem dX5_keep_16 : decode cX5_keep 16 = .ok (.bipush 10, 2) := by decide +kernel
theorem dX5_keep_18 : decode cX5_keep 18 = .ok (.invokestatic 34, 3) := by decide +kernel
theorem dX5_keep_21 : decode cX5_keep 21 = .ok (.aload_n 0, 1) := by decide +kernel
theorem dX5_keep_22 : decode cX5_keep 22 = .ok (.getfield 15, 3) := by decide +kernel
theorem dX5_keep_25 : decode cX5_keep 25 = .ok (.aload_n 0, 1) := by decide +kernel
theorem dX5_keep_26 : decode cX5_keep 26 = .ok (.getfield 31, 3) := by decide +kernel
theorem dX5_keep_29 : decode cX5_keep 29 = .ok (.aload_n 1, 1) := by decide +kernel
theorem dX5_keep_30 : decode cX5_keep 30 = .ok (.getfield 40, 3) := by decide +kernel
theorem dX5_keep_33 : decode cX5_keep 33 = .ok (.iastore, 1) := by decide +kernel
theorem dX5_keep_34 : decode cX5_keep 34 = .ok (.aload_n 0, 1) := by decide +kernel
theorem dX5_keep_35 : decode cX5_keep 35 = .ok (.getfield 18, 3) := by decide +kernel
theorem dX5_keep_38 : decode cX5_keep 38 = .ok (.aload_n 0, 1) := by decide +kernel
theorem dX5_keep_39 : decode cX5_keep 39 = .ok (.getfield 31, 3) := by decide +kernel
theorem dX5_keep_42 : decode cX5_keep 42 = .ok (.aload_n 1, 1) := by decide +kernel
theorem dX5_keep_43 : decode cX5_keep 43 = .ok (.getfield 42, 3) := by decide +kernel
theorem dX5_keep_46 : decode cX5_keep 46 = .ok (.iastore, 1) := by decide +kernel
theorem dX5_keep_47 : decode cX5_keep 47 = .ok (.aload_n 0, 1) := by decide +kernel
theorem dX5_keep_48 : decode cX5_keep 48 = .ok (.getfield 21, 3) := by decide +kernel
theorem dX5_keep_51 : decode cX5_keep 51 = .ok (.aload_n 0, 1) := by decide +kernel
theorem dX5_keep_52 : decode cX5_keep 52 = .ok (.getfield 31, 3) := by decide +kernel
theorem dX5_keep_55 : decode cX5_keep 55 = .ok (.aload_n 1, 1) := by decide +kernel
theorem dX5_keep_56 : decode cX5_keep 56 = .ok (.getfield 45, 3) := by decide +kernel
theorem dX5_keep_59 : decode cX5_keep 59 = .ok (.getfield 49, 3) := by decide +kernel
theorem dX5_keep_62 : decode cX5_keep 62 = .ok (.iastore, 1) := by decide +kernel
theorem dX5_keep_63 : decode cX5_keep 63 = .ok (.aload_n 0, 1) := by decide +kernel
theorem dX5_keep_64 : decode cX5_keep 64 = .ok (.aload_n 0, 1) := by decide +kernel
theorem dX5_keep_65 : decode cX5_keep 65 = .ok (.getfield 31, 3) := by decide +kernel
theorem dX5_keep_68 : decode cX5_keep 68 = .ok (.iconst 1, 1) := by decide +kernel
theorem dX5_keep_69 : decode cX5_keep 69 = .ok (.iadd, 1) := by decide +kernel
theorem dX5_keep_70 : decode cX5_keep 70 = .ok (.bipush 8, 2) := by decide +kernel
theorem dX5_keep_72 : decode cX5_keep 72 = .ok (.irem, 1) := by decide +kernel
theorem dX5_keep_73 : decode cX5_keep 73 = .ok (.putfield 31, 3) := by decide +kernel
theorem dX5_keep_76 : decode cX5_keep 76 = .ok (.aload_n 0, 1) := by decide +kernel
theorem dX5_keep_77 : decode cX5_keep 77 = .ok (.aload_n 0, 1) := by decide +kernel
theorem dX5_keep_78 : decode cX5_keep 78 = .ok (.getfield 24, 3) := by decide +kernel
theorem dX5_keep_81 : decode cX5_keep 81 = .ok (.iconst 1, 1) := by decide +kernel
theorem dX5_keep_82 : decode cX5_keep 82 = .ok (.iadd, 1) := by decide +kernel
theorem dX5_keep_83 : decode cX5_keep 83 = .ok (.bipush 8, 2) := by decide +kernel
theorem dX5_keep_85 : decode cX5_keep 85 = .ok (.invokestatic 54, 3) := by decide +kernel
theorem dX5_keep_88 : decode cX5_keep 88 = .ok (.putfield 24, 3) := by decide +kernel
theorem dX5_keep_91 : decode cX5_keep 91 = .ok (.return_, 1) := by decide +kernel
theorem dX5_goBack_0 : decode cX5_goBack 0 = .ok (.aload_n 0, 1) := by decide +kernel
theorem dX5_goBack_1 : decode cX5_goBack 1 = .ok (.getfield 24, 3) := by decide +kernel
theorem dX5_goBack_4 : decode cX5_goBack 4 = .ok (.ifCond .ne 5, 3) := by decide +kernel
theorem dX5_goBack_7 : decode cX5_goBack 7 = .ok (.iconst 0, 1) := by decide +kernel
theorem dX5_goBack_8 : decode cX5_goBack 8 = .ok (.ireturn, 1) := by decide +kernel
theorem dX5_goBack_9 : decode cX5_goBack 9 = .ok (.aload_n 0, 1) := by decide +kernel
theorem dX5_goBack_10 : decode cX5_goBack 10 = .ok (.aload_n 0, 1) := by decide +kernel
theorem dX5_goBack_11 : decode cX5_goBack 11 = .ok (.getfield 31, 3) := by decide +kernel
theorem dX5_goBack_14 : decode cX5_goBack 14 = .ok (.bipush 8, 2) := by decide +kernel
theorem dX5_goBack_16 : decode cX5_goBack 16 = .ok (.iadd, 1) := by decide +kernel
theorem dX5_goBack_17 : decode cX5_goBack 17 = .ok (.iconst 1, 1) := by decide +kernel
theorem dX5_goBack_18 : decode cX5_goBack 18 = .ok (.isub, 1) := by decide +kernel
theorem dX5_goBack_19 : decode cX5_goBack 19 = .ok (.bipush 8, 2) := by decide +kernel
theorem dX5_goBack_21 : decode cX5_goBack 21 = .ok (.irem, 1) := by decide +kernel
theorem dX5_goBack_22 : decode cX5_goBack 22 = .ok (.putfield 31, 3) := by decide +kernel
theorem dX5_goBack_25 : decode cX5_goBack 25 = .ok (.aload_n 0, 1) := by decide +kernel
theorem dX5_goBack_26 : decode cX5_goBack 26 = .ok (.dup, 1) := by decide +kernel
theorem dX5_goBack_27 : decode cX5_goBack 27 = .ok (.getfield 24, 3) := by decide +kernel
theorem dX5_goBack_30 : decode cX5_goBack 30 = .ok (.iconst 1, 1) := by decide +kernel
theorem dX5_goBack_31 : decode cX5_goBack 31 = .ok (.isub, 1) := by decide +kernel
theorem dX5_goBack_32 : decode cX5_goBack 32 = .ok (.putfield 24, 3) := by decide +kernel
theorem dX5_goBack_35 : decode cX5_goBack 35 = .ok (.aload_n 0, 1) := by decide +kernel
theorem dX5_goBack_36 : decode cX5_goBack 36 = .ok (.getfield 9, 3) := by decide +kernel
theorem dX5_goBack_39 : decode cX5_goBack 39 = .ok (.aload_n 0, 1) := by decide +kernel
theorem dX5_goBack_40 : decode cX5_goBack 40 = .ok (.getfield 31, 3) := by decide +kernel
theorem dX5_goBack_43 : decode cX5_goBack 43 = .ok (.bipush 10, 2) := by decide +kernel
theorem dX5_goBack_45 : decode cX5_goBack 45 = .ok (.imul, 1) := by decide +kernel
theorem dX5_goBack_46 : decode cX5_goBack 46 = .ok (.aload_n 1, 1) := by decide +kernel
theorem dX5_goBack_47 : decode cX5_goBack 47 = .ok (.getfield 28, 3) := by decide +kernel
theorem dX5_goBack_50 : decode cX5_goBack 50 = .ok (.iconst 0, 1) := by decide +kernel
theorem dX5_goBack_51 : decode cX5_goBack 51 = .ok (.bipush 10, 2) := by decide +kernel
theorem dX5_goBack_53 : decode cX5_goBack 53 = .ok (.invokestatic 34, 3) := by decide +kernel
theorem dX5_goBack_56 : decode cX5_goBack 56 = .ok (.aload_n 1, 1) := by decide +kernel
theorem dX5_goBack_57 : decode cX5_goBack 57 = .ok (.aload_n 0, 1) := by decide +kernel
theorem dX5_goBack_58 : decode cX5_goBack 58 = .ok (.getfield 15, 3) := by decide +kernel
theorem dX5_goBack_61 : decode cX5_goBack 61 = .ok (.aload_n 0, 1) := by decide +kernel
theorem dX5_goBack_62 : decode cX5_goBack 62 = .ok (.getfield 31, 3) := by decide +kernel
theorem dX5_goBack_65 : decode cX5_goBack 65 = .ok (.iaload, 1) := by decide +kernel
theorem dX5_goBack_66 : decode cX5_goBack 66 = .ok (.putfield 40, 3) := by decide +kernel
theorem dX5_goBack_69 : decode cX5_goBack 69 = .ok (.aload_n 1, 1) := by decide +kernel
theorem dX5_goBack_70 : decode cX5_goBack 70 = .ok (.aload_n 0, 1) := by decide +kernel
theorem dX5_goBack_71 : decode cX5_goBack 71 = .ok (.getfield 18, 3) := by decide +kernel
theorem dX5_goBack_74 : decode cX5_goBack 74 = .ok (.aload_n 0, 1) := by decide +kernel
theorem dX5_goBack_75 : decode cX5_goBack 75 = .ok (.getfield 31, 3) := by decide +kernel
theorem dX5_goBack_78 : decode cX5_goBack 78 = .ok (.iaload, 1) := by decide +kernel
theorem dX5_goBack_79 : decode cX5_goBack 79 = .ok (.putfield 42, 3) := by decide +kernel
theorem dX5_goBack_82 : decode cX5_goBack 82 = .ok (.aload_n 1, 1) := by decide +kernel
theorem dX5_goBack_83 : decode cX5_goBack 83 = .ok (.getfield 45, 3) := by decide +kernel
theorem dX5_goBack_86 : decode cX5_goBack 86 = .ok (.aload_n 0, 1) := by decide +kernel
theorem dX5_goBack_87 : decode cX5_goBack 87 = .ok (.getfield 21, 3) := by decide +kernel
theorem dX5_goBack_90 : decode cX5_goBack 90 = .ok (.aload_n 0, 1) := by decide +kernel
theorem dX5_goBack_91 : decode cX5_goBack 91 = .ok (.getfield 31, 3) := by decide +kernel
theorem dX5_goBack_94 : decode cX5_goBack 94 = .ok (.iaload, 1) := by decide +kernel
theorem dX5_goBack_95 : decode cX5_goBack 95 = .ok (.putfield 49, 3) := by decide +kernel
theorem dX5_goBack_98 : decode cX5_goBack 98 = .ok (.iconst 1, 1) := by decide +kernel
theorem dX5_goBack_99 : decode cX5_goBack 99 = .ok (.ireturn, 1) := by decide +kernel
theorem dX6_init_0 : decode cX6_init 0 = .ok (.aload_n 0, 1) := by decide +kernel
theorem dX6_init_1 : decode cX6_init 1 = .ok (.invokespecial 3, 3) := by decide +kernel
theorem dX6_init_4 : decode cX6_init 4 = .ok (.aload_n 0, 1) := by decide +kernel
theorem dX6_init_5 : decode cX6_init 5 = .ok (.aload_n 1, 1) := by decide +kernel
theorem dX6_init_6 : decode cX6_init 6 = .ok (.putfield 9, 3) := by decide +kernel
theorem dX6_init_9 : decode cX6_init 9 = .ok (.aload_n 0, 1) := by decide +kernel
theorem dX6_init_10 : decode cX6_init 10 = .ok (.new 15, 3) := by decide +kernel
theorem dX6_init_13 : decode cX6_init 13 = .ok (.dup, 1) := by decide +kernel
theorem dX6_init_14 : decode cX6_init 14 = .ok (.invokespecial 17, 3) := by decide +kernel
theorem dX6_init_17 : decode cX6_init 17 = .ok (.putfield 18, 3) := by decide +kernel
theorem dX6_init_20 : decode cX6_init 20 = .ok (.aload_n 0, 1) := by decide +kernel
theorem dX6_init_21 : decode cX6_init 21 = .ok (.bipush 32, 2) := by decide +kernel
theorem dX6_init_23 : decode cX6_init 23 = .ok (.newarray .int, 2) := by decide +kernel
theorem dX6_init_25 : decode cX6_init 25 = .ok (.putfield 22, 3) := by decide +kernel
theorem dX6_init_28 : decode cX6_init 28 = .ok (.aload_n 0, 1) := by decide +kernel
theorem dX6_init_29 : decode cX6_init 29 = .ok (.iconst (-1), 1) := by decide +kernel
theorem dX6_init_30 : decode cX6_init 30 = .ok (.putfield 26, 3) := by decide +kernel
theorem dX6_init_33 : decode cX6_init 33 = .ok (.return_, 1) := by decide +kernel
theorem dX6_readLaw_0 : decode cX6_readLaw 0 = .ok (.aload_n 0, 1) := by decide +kernel
theorem dX6_readLaw_1 : decode cX6_readLaw 1 = .ok (.iload_n 1, 1) := by decide +kernel
theorem dX6_readLaw_2 : decode cX6_readLaw 2 = .ok (.putfield 30, 3) := by decide +kernel
theorem dX6_readLaw_5 : decode cX6_readLaw 5 = .ok (.aload_n 0, 1) := by decide +kernel
theorem dX6_readLaw_6 : decode cX6_readLaw 6 = .ok (.iconst 0, 1) := by decide +kernel
theorem dX6_readLaw_7 : decode cX6_readLaw 7 = .ok (.putfield 33, 3) := by decide +kernel
theorem dX6_readLaw_10 : decode cX6_readLaw 10 = .ok (.aload_n 0, 1) := by decide +kernel
theorem dX6_readLaw_11 : decode cX6_readLaw 11 = .ok (.iconst 0, 1) := by decide +kernel
theorem dX6_readLaw_12 : decode cX6_readLaw 12 = .ok (.putfield 36, 3) := by decide +kernel
theorem dX6_readLaw_15 : decode cX6_readLaw 15 = .ok (.aload_n 0, 1) := by decide +kernel
theorem dX6_readLaw_16 : decode cX6_readLaw 16 = .ok (.iconst (-1), 1) := by decide +kernel
theorem dX6_readLaw_17 : decode cX6_readLaw 17 = .ok (.putfield 26, 3) := by decide +kernel
theorem dX6_readLaw_20 : decode cX6_readLaw 20 = .ok (.aload_n 0, 1) := by decide +kernel
theorem dX6_readLaw_21 : decode cX6_readLaw 21 = .ok (.iconst 0, 1) := by decide +kernel
theorem dX6_readLaw_22 : decode cX6_readLaw 22 = .ok (.putfield 39, 3) := by decide +kernel
theorem dX6_readLaw_25 : decode cX6_readLaw 25 = .ok (.aload_n 0, 1) := by decide +kernel
theorem dX6_readLaw_26 : decode cX6_readLaw 26 = .ok (.iconst 0, 1) := by decide +kernel
theorem dX6_readLaw_27 : decode cX6_readLaw 27 = .ok (.putfield 42, 3) := by decide +kernel
theorem dX6_readLaw_30 : decode cX6_readLaw 30 = .ok (.aload_n 0, 1) := by decide +kernel
theorem dX6_readLaw_31 : decode cX6_readLaw 31 = .ok (.iconst 0, 1) := by decide +kernel
theorem dX6_readLaw_32 : decode cX6_readLaw 32 = .ok (.putfield 45, 3) := by decide +kernel
theorem dX6_readLaw_35 : decode cX6_readLaw 35 = .ok (.aload_n 0, 1) := by decide +kernel
theorem dX6_readLaw_36 : decode cX6_readLaw 36 = .ok (.getfield 18, 3) := by decide +kernel
theorem dX6_readLaw_39 : decode cX6_readLaw 39 = .ok (.invokevirtual 48, 3) := by decide +kernel
theorem dX6_readLaw_42 : decode cX6_readLaw 42 = .ok (.iconst 0, 1) := by decide +kernel
theorem dX6_readLaw_43 : decode cX6_readLaw 43 = .ok (.istore_n 2, 1) := by decide +kernel
theorem dX6_readLaw_44 : decode cX6_readLaw 44 = .ok (.iload_n 2, 1) := by decide +kernel
theorem dX6_readLaw_45 : decode cX6_readLaw 45 = .ok (.sipush 400, 3) := by decide +kernel
theorem dX6_readLaw_48 : decode cX6_readLaw 48 = .ok (.if_icmp .gt 38, 3) := by decide +kernel
theorem dX6_readLaw_51 : decode cX6_readLaw 51 = .ok (.aload_n 0, 1) := by decide +kernel
theorem dX6_readLaw_52 : decode cX6_readLaw 52 = .ok (.invokevirtual 51, 3) := by decide +kernel
theorem dX6_readLaw_55 : decode cX6_readLaw 55 = .ok (.aload_n 0, 1) := by decide +kernel
theorem dX6_readLaw_56 : decode cX6_readLaw 56 = .ok (.getfield 54, 3) := by decide +kernel
theorem dX6_readLaw_59 : decode cX6_readLaw 59 = .ok (.ifCond .ne 12, 3) := by decide +kernel
theorem dX6_readLaw_62 : decode cX6_readLaw 62 = .ok (.aload_n 0, 1) := by decide +kernel
theorem dX6_readLaw_63 : decode cX6_readLaw 63 = .ok (.getfield 39, 3) := by decide +kernel
theorem dX6_readLaw_66 : decode cX6_readLaw 66 = .ok (.ifCond .ne 5, 3) := by decide +kernel
theorem dX6_readLaw_69 : decode cX6_readLaw 69 = .ok (.iconst 1, 1) := by decide +kernel
theorem dX6_readLaw_70 : decode cX6_readLaw 70 = .ok (.ireturn, 1) := by decide +kernel
theorem dX6_readLaw_71 : decode cX6_readLaw 71 = .ok (.aload_n 0, 1) := by decide +kernel
theorem dX6_readLaw_72 : decode cX6_readLaw 72 = .ok (.invokevirtual 57, 3) := by decide +kernel
theorem dX6_readLaw_75 : decode cX6_readLaw 75 = .ok (.ifCond .ne 5, 3) := by decide +kernel
theorem dX6_readLaw_78 : decode cX6_readLaw 78 = .ok (.iconst 0, 1) := by decide +kernel
theorem dX6_readLaw_79 : decode cX6_readLaw 79 = .ok (.ireturn, 1) := by decide +kernel
theorem dX6_readLaw_80 : decode cX6_readLaw 80 = .ok (.iinc 2 1, 3) := by decide +kernel
theorem dX6_readLaw_83 : decode cX6_readLaw 83 = .ok (.goto (-39), 3) := by decide +kernel
theorem dX6_readLaw_86 : decode cX6_readLaw 86 = .ok (.iconst 0, 1) := by decide +kernel
theorem dX6_readLaw_87 : decode cX6_readLaw 87 = .ok (.ireturn, 1) := by decide +kernel
theorem dX6_refuse_0 : decode cX6_refuse 0 = .ok (.aload_n 0, 1) := by decide +kernel
theorem dX6_refuse_1 : decode cX6_refuse 1 = .ok (.iload_n 1, 1) := by decide +kernel
theorem dX6_refuse_2 : decode cX6_refuse 2 = .ok (.putfield 36, 3) := by decide +kernel
theorem dX6_refuse_5 : decode cX6_refuse 5 = .ok (.aload_n 0, 1) := by decide +kernel
theorem dX6_refuse_6 : decode cX6_refuse 6 = .ok (.aload_n 0, 1) := by decide +kernel
theorem dX6_refuse_7 : decode cX6_refuse 7 = .ok (.getfield 61, 3) := by decide +kernel
theorem dX6_refuse_10 : decode cX6_refuse 10 = .ok (.putfield 26, 3) := by decide +kernel
theorem dX6_refuse_13 : decode cX6_refuse 13 = .ok (.iconst 0, 1) := by decide +kernel
theorem dX6_refuse_14 : decode cX6_refuse 14 = .ok (.ireturn, 1) := by decide +kernel
theorem dX6_accept_0 : decode cX6_accept 0 = .ok (.aload_n 0, 1) := by decide +kernel
theorem dX6_accept_1 : decode cX6_accept 1 = .ok (.getfield 39, 3) := by decide +kernel
theorem dX6_accept_4 : decode cX6_accept 4 = .ok (.tableswitch 70 0 5 #[40, 45, 50, 55, 60, 65], 40) := by decide +kernel
theorem dX6_accept_44 : decode cX6_accept 44 = .ok (.aload_n 0, 1) := by decide +kernel
theorem dX6_accept_45 : decode cX6_accept 45 = .ok (.invokevirtual 64, 3) := by decide +kernel
theorem dX6_accept_48 : decode cX6_accept 48 = .ok (.ireturn, 1) := by decide +kernel
theorem dX6_accept_49 : decode cX6_accept 49 = .ok (.aload_n 0, 1) := by decide +kernel
theorem dX6_accept_50 : decode cX6_accept 50 = .ok (.invokevirtual 67, 3) := by decide +kernel
theorem dX6_accept_53 : decode cX6_accept 53 = .ok (.ireturn, 1) := by decide +kernel
theorem dX6_accept_54 : decode cX6_accept 54 = .ok (.aload_n 0, 1) := by decide +kernel
theorem dX6_accept_55 : decode cX6_accept 55 = .ok (.invokevirtual 70, 3) := by decide +kernel
theorem dX6_accept_58 : decode cX6_accept 58 = .ok (.ireturn, 1) := by decide +kernel
theorem dX6_accept_59 : decode cX6_accept 59 = .ok (.aload_n 0, 1) := by decide +kernel
theorem dX6_accept_60 : decode cX6_accept 60 = .ok (.invokevirtual 73, 3) := by decide +kernel
theorem dX6_accept_63 : decode cX6_accept 63 = .ok (.ireturn, 1) := by decide +kernel
theorem dX6_accept_64 : decode cX6_accept 64 = .ok (.aload_n 0, 1) := by decide +kernel
theorem dX6_accept_65 : decode cX6_accept 65 = .ok (.invokevirtual 76, 3) := by decide +kernel
theorem dX6_accept_68 : decode cX6_accept 68 = .ok (.ireturn, 1) := by decide +kernel
theorem dX6_accept_69 : decode cX6_accept 69 = .ok (.aload_n 0, 1) := by decide +kernel
theorem dX6_accept_70 : decode cX6_accept 70 = .ok (.invokevirtual 79, 3) := by decide +kernel
theorem dX6_accept_73 : decode cX6_accept 73 = .ok (.ireturn, 1) := by decide +kernel
theorem dX6_accept_74 : decode cX6_accept 74 = .ok (.aload_n 0, 1) := by decide +kernel
theorem dX6_accept_75 : decode cX6_accept 75 = .ok (.invokevirtual 82, 3) := by decide +kernel
theorem dX6_accept_78 : decode cX6_accept 78 = .ok (.ireturn, 1) := by decide +kernel
theorem dX6_acceptLine_0 : decode cX6_acceptLine 0 = .ok (.aload_n 0, 1) := by decide +kernel
theorem dX6_acceptLine_1 : decode cX6_acceptLine 1 = .ok (.getfield 54, 3) := by decide +kernel
theorem dX6_acceptLine_4 : decode cX6_acceptLine 4 = .ok (.sipush 200, 3) := by decide +kernel
theorem dX6_acceptLine_7 : decode cX6_acceptLine 7 = .ok (.if_icmp .eq 19, 3) := by decide +kernel
theorem dX6_acceptLine_10 : decode cX6_acceptLine 10 = .ok (.aload_n 0, 1) := by decide +kernel
theorem dX6_acceptLine_11 : decode cX6_acceptLine 11 = .ok (.getfield 54, 3) := by decide +kernel
theorem dX6_acceptLine_14 : decode cX6_acceptLine 14 = .ok (.sipush 201, 3) := by decide +kernel
theorem dX6_acceptLine_17 : decode cX6_acceptLine 17 = .ok (.if_icmp .eq 9, 3) := by decide +kernel
theorem dX6_acceptLine_20 : decode cX6_acceptLine 20 = .ok (.aload_n 0, 1) := by decide +kernel
theorem dX6_acceptLine_21 : decode cX6_acceptLine 21 = .ok (.iconst 1, 1) := by decide +kernel
theorem dX6_acceptLine_22 : decode cX6_acceptLine 22 = .ok (.invokevirtual 85, 3) := by decide +kernel
theorem dX6_acceptLine_25 : decode cX6_acceptLine 25 = .ok (.ireturn, 1) := by decide +kernel
theorem dX6_acceptLine_26 : decode cX6_acceptLine 26 = .ok (.aload_n 0, 1) := by decide +kernel
theorem dX6_acceptLine_27 : decode cX6_acceptLine 27 = .ok (.getfield 18, 3) := by decide +kernel
theorem dX6_acceptLine_30 : decode cX6_acceptLine 30 = .ok (.getfield 89, 3) := by decide +kernel
theorem dX6_acceptLine_33 : decode cX6_acceptLine 33 = .ok (.bipush 16, 2) := by decide +kernel
theorem dX6_acceptLine_35 : decode cX6_acceptLine 35 = .ok (.if_icmp .lt 9, 3) := by decide +kernel
theorem dX6_acceptLine_38 : decode cX6_acceptLine 38 = .ok (.aload_n 0, 1) := by decide +kernel
theorem dX6_acceptLine_39 : decode cX6_acceptLine 39 = .ok (.iconst 3, 1) := by decide +kernel
theorem dX6_acceptLine_40 : decode cX6_acceptLine 40 = .ok (.invokevirtual 85, 3) := by decide +kernel
theorem dX6_acceptLine_43 : decode cX6_acceptLine 43 = .ok (.ireturn, 1) := by decide +kernel
theorem dX6_acceptLine_44 : decode cX6_acceptLine 44 = .ok (.aload_n 0, 1) := by decide +kernel
theorem dX6_acceptLine_45 : decode cX6_acceptLine 45 = .ok (.aload_n 0, 1) := by decide +kernel
theorem dX6_acceptLine_46 : decode cX6_acceptLine 46 = .ok (.getfield 54, 3) := by decide +kernel
theorem dX6_acceptLine_49 : decode cX6_acceptLine 49 = .ok (.sipush 200, 3) := by decide +kernel
theorem dX6_acceptLine_52 : decode cX6_acceptLine 52 = .ok (.if_icmp .ne 7, 3) := by decide +kernel
theorem dX6_acceptLine_55 : decode cX6_acceptLine 55 = .ok (.iconst 1, 1) := by decide +kernel
theorem dX6_acceptLine_56 : decode cX6_acceptLine 56 = .ok (.goto 4, 3) := by decide +kernel
theorem dX6_acceptLine_59 : decode cX6_acceptLine 59 = .ok (.iconst 0, 1) := by decide +kernel
theorem dX6_acceptLine_60 : decode cX6_acceptLine 60 = .ok (.putfield 92, 3) := by decide +kernel
theorem dX6_acceptLine_63 : decode cX6_acceptLine 63 = .ok (.aload_n 0, 1) := by decide +kernel
theorem dX6_acceptLine_64 : decode cX6_acceptLine 64 = .ok (.iconst 1, 1) := by decide +kernel
theorem dX6_acceptLine_65 : decode cX6_acceptLine 65 = .ok (.putfield 39, 3) := by decide +kernel
theorem dX6_acceptLine_68 : decode cX6_acceptLine 68 = .ok (.iconst 1, 1) := by decide +kernel
theorem dX6_acceptLine_69 : decode cX6_acceptLine 69 = .ok (.ireturn, 1) := by decide +kernel
theorem dX6_acceptLineTail_0 : decode cX6_acceptLineTail 0 = .ok (.aload_n 0, 1) := by decide +kernel
theorem dX6_acceptLineTail_1 : decode cX6_acceptLineTail 1 = .ok (.getfield 54, 3) := by decide +kernel
theorem dX6_acceptLineTail_4 : decode cX6_acceptLineTail 4 = .ok (.sipush 202, 3) := by decide +kernel
theorem dX6_acceptLineTail_7 : decode cX6_acceptLineTail 7 = .ok (.if_icmp .ne 10, 3) := by decide +kernel
theorem dX6_acceptLineTail_10 : decode cX6_acceptLineTail 10 = .ok (.aload_n 0, 1) := by decide +kernel
theorem dX6_acceptLineTail_11 : decode cX6_acceptLineTail 11 = .ok (.iconst 2, 1) := by decide +kernel
theorem dX6_acceptLineTail_12 : decode cX6_acceptLineTail 12 = .ok (.putfield 39, 3) := by decide +kernel
theorem dX6_acceptLineTail_15 : decode cX6_acceptLineTail 15 = .ok (.iconst 1, 1) := by decide +kernel
theorem dX6_acceptLineTail_16 : decode cX6_acceptLineTail 16 = .ok (.ireturn, 1) := by decide +kernel
theorem dX6_acceptLineTail_17 : decode cX6_acceptLineTail 17 = .ok (.aload_n 0, 1) := by decide +kernel
theorem dX6_acceptLineTail_18 : decode cX6_acceptLineTail 18 = .ok (.getfield 54, 3) := by decide +kernel
theorem dX6_acceptLineTail_21 : decode cX6_acceptLineTail 21 = .ok (.bipush 59, 2) := by decide +kernel
theorem dX6_acceptLineTail_23 : decode cX6_acceptLineTail 23 = .ok (.if_icmp .ne 10, 3) := by decide +kernel
theorem dX6_acceptLineTail_26 : decode cX6_acceptLineTail 26 = .ok (.aload_n 0, 1) := by decide +kernel
theorem dX6_acceptLineTail_27 : decode cX6_acceptLineTail 27 = .ok (.invokevirtual 96, 3) := by decide +kernel
theorem dX6_acceptLineTail_30 : decode cX6_acceptLineTail 30 = .ok (.goto 8, 3) := by decide +kernel
theorem dX6_acceptLineTail_33 : decode cX6_acceptLineTail 33 = .ok (.aload_n 0, 1) := by decide +kernel
theorem dX6_acceptLineTail_34 : decode cX6_acceptLineTail 34 = .ok (.iconst 1, 1) := by decide +kernel
theorem dX6_acceptLineTail_35 : decode cX6_acceptLineTail 35 = .ok (.invokevirtual 85, 3) := by decide +kernel
theorem dX6_acceptLineTail_38 : decode cX6_acceptLineTail 38 = .ok (.ireturn, 1) := by decide +kernel
theorem dX6_acceptCondition_0 : decode cX6_acceptCondition 0 = .ok (.aload_n 0, 1) := by decide +kernel
theorem dX6_acceptCondition_1 : decode cX6_acceptCondition 1 = .ok (.getfield 54, 3) := by decide +kernel
theorem dX6_acceptCondition_4 : decode cX6_acceptCondition 4 = .ok (.sipush 205, 3) := by decide +kernel
theorem dX6_acceptCondition_7 : decode cX6_acceptCondition 7 = .ok (.if_icmp .eq 22, 3) := by decide +kernel
theorem dX6_acceptCondition_10 : decode cX6_acceptCondition 10 = .ok (.aload_n 0, 1) := by decide +kernel
theorem dX6_acceptCondition_11 : decode cX6_acceptCondition 11 = .ok (.getfield 54, 3) := by decide +kernel
theorem dX6_acceptCondition_14 : decode cX6_acceptCondition 14 = .ok (.bipush 40, 2) := by decide +kernel
theorem dX6_acceptCondition_16 : decode cX6_acceptCondition 16 = .ok (.if_icmp .eq 13, 3) := by decide +kernel
theorem dX6_acceptCondition_19 : decode cX6_acceptCondition 19 = .ok (.aload_n 0, 1) := by decide +kernel
theorem dX6_acceptCondition_20 : decode cX6_acceptCondition 20 = .ok (.iconst 0, 1) := by decide +kernel
theorem dX6_acceptCondition_21 : decode cX6_acceptCondition 21 = .ok (.putfield 99, 3) := by decide +kernel
theorem dX6_acceptCondition_24 : decode cX6_acceptCondition 24 = .ok (.aload_n 0, 1) := by decide +kernel
theorem dX6_acceptCondition_25 : decode cX6_acceptCondition 25 = .ok (.invokevirtual 73, 3) := by decide +kernel
theorem dX6_acceptCondition_28 : decode cX6_acceptCondition 28 = .ok (.ireturn, 1) := by decide +kernel
theorem dX6_acceptCondition_29 : decode cX6_acceptCondition 29 = .ok (.aload_n 0, 1) := by decide +kernel
theorem dX6_acceptCondition_30 : decode cX6_acceptCondition 30 = .ok (.getfield 45, 3) := by decide +kernel
theorem dX6_acceptCondition_33 : decode cX6_acceptCondition 33 = .ok (.bipush 8, 2) := by decide +kernel
theorem dX6_acceptCondition_35 : decode cX6_acceptCondition 35 = .ok (.if_icmp .lt 9, 3) := by decide +kernel
theorem dX6_acceptCondition_38 : decode cX6_acceptCondition 38 = .ok (.aload_n 0, 1) := by decide +kernel
theorem dX6_acceptCondition_39 : decode cX6_acceptCondition 39 = .ok (.iconst 3, 1) := by decide +kernel
theorem dX6_acceptCondition_40 : decode cX6_acceptCondition 40 = .ok (.invokevirtual 85, 3) := by decide +kernel
theorem dX6_acceptCondition_43 : decode cX6_acceptCondition 43 = .ok (.ireturn, 1) := by decide +kernel
theorem dX6_acceptCondition_44 : decode cX6_acceptCondition 44 = .ok (.aload_n 0, 1) := by decide +kernel
theorem dX6_acceptCondition_45 : decode cX6_acceptCondition 45 = .ok (.dup, 1) := by decide +kernel
theorem dX6_acceptCondition_46 : decode cX6_acceptCondition 46 = .ok (.getfield 45, 3) := by decide +kernel
theorem dX6_acceptCondition_49 : decode cX6_acceptCondition 49 = .ok (.iconst 1, 1) := by decide +kernel
theorem dX6_acceptCondition_50 : decode cX6_acceptCondition 50 = .ok (.iadd, 1) := by decide +kernel
theorem dX6_acceptCondition_51 : decode cX6_acceptCondition 51 = .ok (.putfield 45, 3) := by decide +kernel
theorem dX6_acceptCondition_54 : decode cX6_acceptCondition 54 = .ok (.aload_n 0, 1) := by decide +kernel
theorem dX6_acceptCondition_55 : decode cX6_acceptCondition 55 = .ok (.aload_n 0, 1) := by decide +kernel
theorem dX6_acceptCondition_56 : decode cX6_acceptCondition 56 = .ok (.getfield 54, 3) := by decide +kernel
theorem dX6_acceptCondition_59 : decode cX6_acceptCondition 59 = .ok (.iconst 2, 1) := by decide +kernel
theorem dX6_acceptCondition_60 : decode cX6_acceptCondition 60 = .ok (.invokevirtual 102, 3) := by decide +kernel
theorem dX6_acceptCondition_63 : decode cX6_acceptCondition 63 = .ok (.ireturn, 1) := by decide +kernel
theorem dX6_acceptValue_0 : decode cX6_acceptValue 0 = .ok (.aload_n 0, 1) := by decide +kernel
theorem dX6_acceptValue_1 : decode cX6_acceptValue 1 = .ok (.getfield 54, 3) := by decide +kernel
theorem dX6_acceptValue_4 : decode cX6_acceptValue 4 = .ok (.iconst 2, 1) := by decide +kernel
theorem dX6_acceptValue_5 : decode cX6_acceptValue 5 = .ok (.if_icmp .ne 17, 3) := by decide +kernel
theorem dX6_acceptValue_8 : decode cX6_acceptValue 8 = .ok (.aload_n 0, 1) := by decide +kernel
theorem dX6_acceptValue_9 : decode cX6_acceptValue 9 = .ok (.getfield 18, 3) := by decide +kernel
theorem dX6_acceptValue_12 : decode cX6_acceptValue 12 = .ok (.aload_n 0, 1) := by decide +kernel
theorem dX6_acceptValue_13 : decode cX6_acceptValue 13 = .ok (.getfield 106, 3) := by decide +kernel
theorem dX6_acceptValue_16 : decode cX6_acceptValue 16 = .ok (.invokevirtual 109, 3) := by decide +kernel
theorem dX6_acceptValue_19 : decode cX6_acceptValue 19 = .ok (.goto 44, 3) := by decide +kernel
theorem dX6_acceptValue_22 : decode cX6_acceptValue 22 = .ok (.aload_n 0, 1) := by decide +kernel
theorem dX6_acceptValue_23 : decode cX6_acceptValue 23 = .ok (.getfield 54, 3) := by decide +kernel
theorem dX6_acceptValue_26 : decode cX6_acceptValue 26 = .ok (.sipush 206, 3) := by decide +kernel
theorem dX6_acceptValue_29 : decode cX6_acceptValue 29 = .ok (.if_icmp .lt 28, 3) := by decide +kernel
theorem dX6_acceptValue_32 : decode cX6_acceptValue 32 = .ok (.aload_n 0, 1) := by decide +kernel
theorem dX6_acceptValue_33 : decode cX6_acceptValue 33 = .ok (.getfield 54, 3) := by decide +kernel
theorem dX6_acceptValue_36 : decode cX6_acceptValue 36 = .ok (.sipush 214, 3) := by decide +kernel
theorem dX6_acceptValue_39 : decode cX6_acceptValue 39 = .ok (.if_icmp .gt 18, 3) := by decide +kernel
theorem dX6_acceptValue_42 : decode cX6_acceptValue 42 = .ok (.aload_n 0, 1) := by decide +kernel
theorem dX6_acceptValue_43 : decode cX6_acceptValue 43 = .ok (.getfield 18, 3) := by decide +kernel
theorem dX6_acceptValue_46 : decode cX6_acceptValue 46 = .ok (.aload_n 0, 1) := by decide +kernel
theorem dX6_acceptValue_47 : decode cX6_acceptValue 47 = .ok (.getfield 54, 3) := by decide +kernel
theorem dX6_acceptValue_50 : decode cX6_acceptValue 50 = .ok (.ineg, 1) := by decide +kernel
theorem dX6_acceptValue_51 : decode cX6_acceptValue 51 = .ok (.invokevirtual 109, 3) := by decide +kernel
theorem dX6_acceptValue_54 : decode cX6_acceptValue 54 = .ok (.goto 9, 3) := by decide +kernel
theorem dX6_acceptValue_57 : decode cX6_acceptValue 57 = .ok (.aload_n 0, 1) := by decide +kernel
theorem dX6_acceptValue_58 : decode cX6_acceptValue 58 = .ok (.iconst 1, 1) := by decide +kernel
theorem dX6_acceptValue_59 : decode cX6_acceptValue 59 = .ok (.invokevirtual 85, 3) := by decide +kernel
theorem dX6_acceptValue_62 : decode cX6_acceptValue 62 = .ok (.ireturn, 1) := by decide +kernel
theorem dX6_acceptValue_63 : decode cX6_acceptValue 63 = .ok (.aload_n 0, 1) := by decide +kernel
theorem dX6_acceptValue_64 : decode cX6_acceptValue 64 = .ok (.iconst 5, 1) := by decide +kernel
theorem dX6_acceptValue_65 : decode cX6_acceptValue 65 = .ok (.putfield 39, 3) := by decide +kernel
theorem dX6_acceptValue_68 : decode cX6_acceptValue 68 = .ok (.iconst 1, 1) := by decide +kernel
theorem dX6_acceptValue_69 : decode cX6_acceptValue 69 = .ok (.ireturn, 1) := by decide +kernel
theorem dX6_acceptDivisor_0 : decode cX6_acceptDivisor 0 = .ok (.aload_n 0, 1) := by decide +kernel
theorem dX6_acceptDivisor_1 : decode cX6_acceptDivisor 1 = .ok (.getfield 54, 3) := by decide +kernel
theorem dX6_acceptDivisor_4 : decode cX6_acceptDivisor 4 = .ok (.iconst 2, 1) := by decide +kernel
theorem dX6_acceptDivisor_5 : decode cX6_acceptDivisor 5 = .ok (.if_icmp .eq 9, 3) := by decide +kernel
theorem dX6_acceptDivisor_8 : decode cX6_acceptDivisor 8 = .ok (.aload_n 0, 1) := by decide +kernel
theorem dX6_acceptDivisor_9 : decode cX6_acceptDivisor 9 = .ok (.iconst 1, 1) := by decide +kernel
theorem dX6_acceptDivisor_10 : decode cX6_acceptDivisor 10 = .ok (.invokevirtual 85, 3) := by decide +kernel
theorem dX6_acceptDivisor_13 : decode cX6_acceptDivisor 13 = .ok (.ireturn, 1) := by decide +kernel
theorem dX6_acceptDivisor_14 : decode cX6_acceptDivisor 14 = .ok (.aload_n 0, 1) := by decide +kernel
theorem dX6_acceptDivisor_15 : decode cX6_acceptDivisor 15 = .ok (.getfield 106, 3) := by decide +kernel
theorem dX6_acceptDivisor_18 : decode cX6_acceptDivisor 18 = .ok (.ifCond .ne 11, 3) := by decide +kernel
theorem dX6_acceptDivisor_21 : decode cX6_acceptDivisor 21 = .ok (.aload_n 0, 1) := by decide +kernel
theorem dX6_acceptDivisor_22 : decode cX6_acceptDivisor 22 = .ok (.iconst 2, 1) := by decide +kernel
theorem dX6_acceptDivisor_23 : decode cX6_acceptDivisor 23 = .ok (.invokevirtual 85, 3) := by decide +kernel
theorem dX6_acceptDivisor_26 : decode cX6_acceptDivisor 26 = .ok (.goto 7, 3) := by decide +kernel
theorem dX6_acceptDivisor_29 : decode cX6_acceptDivisor 29 = .ok (.aload_n 0, 1) := by decide +kernel
theorem dX6_acceptDivisor_30 : decode cX6_acceptDivisor 30 = .ok (.invokevirtual 73, 3) := by decide +kernel
theorem dX6_acceptDivisor_33 : decode cX6_acceptDivisor 33 = .ok (.ireturn, 1) := by decide +kernel
theorem dX6_acceptValueTail_0 : decode cX6_acceptValueTail 0 = .ok (.aload_n 0, 1) := by decide +kernel
theorem dX6_acceptValueTail_1 : decode cX6_acceptValueTail 1 = .ok (.getfield 54, 3) := by decide +kernel
theorem dX6_acceptValueTail_4 : decode cX6_acceptValueTail 4 = .ok (.invokestatic 113, 3) := by decide +kernel
theorem dX6_acceptValueTail_7 : decode cX6_acceptValueTail 7 = .ok (.istore_n 1, 1) := by decide +kernel
theorem dX6_acceptValueTail_8 : decode cX6_acceptValueTail 8 = .ok (.iload_n 1, 1) := by decide +kernel
theorem dX6_acceptValueTail_9 : decode cX6_acceptValueTail 9 = .ok (.bipush 43, 2) := by decide +kernel
theorem dX6_acceptValueTail_11 : decode cX6_acceptValueTail 11 = .ok (.invokestatic 113, 3) := by decide +kernel
theorem dX6_acceptValueTail_14 : decode cX6_acceptValueTail 14 = .ok (.if_icmp .lt 31, 3) := by decide +kernel
theorem dX6_acceptValueTail_17 : decode cX6_acceptValueTail 17 = .ok (.aload_n 0, 1) := by decide +kernel
theorem dX6_acceptValueTail_18 : decode cX6_acceptValueTail 18 = .ok (.iload_n 1, 1) := by decide +kernel
theorem dX6_acceptValueTail_19 : decode cX6_acceptValueTail 19 = .ok (.invokevirtual 117, 3) := by decide +kernel
theorem dX6_acceptValueTail_22 : decode cX6_acceptValueTail 22 = .ok (.aload_n 0, 1) := by decide +kernel
theorem dX6_acceptValueTail_23 : decode cX6_acceptValueTail 23 = .ok (.aload_n 0, 1) := by decide +kernel
theorem dX6_acceptValueTail_24 : decode cX6_acceptValueTail 24 = .ok (.getfield 54, 3) := by decide +kernel
theorem dX6_acceptValueTail_27 : decode cX6_acceptValueTail 27 = .ok (.aload_n 0, 1) := by decide +kernel
theorem dX6_acceptValueTail_28 : decode cX6_acceptValueTail 28 = .ok (.getfield 54, 3) := by decide +kernel
theorem dX6_acceptValueTail_31 : decode cX6_acceptValueTail 31 = .ok (.bipush 47, 2) := by decide +kernel
theorem dX6_acceptValueTail_33 : decode cX6_acceptValueTail 33 = .ok (.if_icmp .ne 7, 3) := by decide +kernel
theorem dX6_acceptValueTail_36 : decode cX6_acceptValueTail 36 = .ok (.iconst 4, 1) := by decide +kernel
theorem dX6_acceptValueTail_37 : decode cX6_acceptValueTail 37 = .ok (.goto 4, 3) := by decide +kernel
theorem dX6_acceptValueTail_40 : decode cX6_acceptValueTail 40 = .ok (.iconst 3, 1) := by decide +kernel
theorem dX6_acceptValueTail_41 : decode cX6_acceptValueTail 41 = .ok (.invokevirtual 102, 3) := by decide +kernel
theorem dX6_acceptValueTail_44 : decode cX6_acceptValueTail 44 = .ok (.ireturn, 1) := by decide +kernel
theorem dX6_acceptValueTail_45 : decode cX6_acceptValueTail 45 = .ok (.aload_n 0, 1) := by decide +kernel
theorem dX6_acceptValueTail_46 : decode cX6_acceptValueTail 46 = .ok (.getfield 99, 3) := by decide +kernel
theorem dX6_acceptValueTail_49 : decode cX6_acceptValueTail 49 = .ok (.ifCond .eq 8, 3) := by decide +kernel
theorem dX6_acceptValueTail_52 : decode cX6_acceptValueTail 52 = .ok (.aload_n 0, 1) := by decide +kernel
theorem dX6_acceptValueTail_53 : decode cX6_acceptValueTail 53 = .ok (.invokevirtual 82, 3) := by decide +kernel
theorem dX6_acceptValueTail_56 : decode cX6_acceptValueTail 56 = .ok (.ireturn, 1) := by decide +kernel
theorem dX6_acceptValueTail_57 : decode cX6_acceptValueTail 57 = .ok (.iload_n 1, 1) := by decide +kernel
theorem dX6_acceptValueTail_58 : decode cX6_acceptValueTail 58 = .ok (.bipush 61, 2) := by decide +kernel
theorem dX6_acceptValueTail_60 : decode cX6_acceptValueTail 60 = .ok (.invokestatic 113, 3) := by decide +kernel
theorem dX6_acceptValueTail_63 : decode cX6_acceptValueTail 63 = .ok (.if_icmp .eq 9, 3) := by decide +kernel
theorem dX6_acceptValueTail_66 : decode cX6_acceptValueTail 66 = .ok (.aload_n 0, 1) := by decide +kernel
theorem dX6_acceptValueTail_67 : decode cX6_acceptValueTail 67 = .ok (.iconst 1, 1) := by decide +kernel
theorem dX6_acceptValueTail_68 : decode cX6_acceptValueTail 68 = .ok (.invokevirtual 85, 3) := by decide +kernel
theorem dX6_acceptValueTail_71 : decode cX6_acceptValueTail 71 = .ok (.ireturn, 1) := by decide +kernel
theorem dX6_acceptValueTail_72 : decode cX6_acceptValueTail 72 = .ok (.aload_n 0, 1) := by decide +kernel
theorem dX6_acceptValueTail_73 : decode cX6_acceptValueTail 73 = .ok (.iload_n 1, 1) := by decide +kernel
theorem dX6_acceptValueTail_74 : decode cX6_acceptValueTail 74 = .ok (.invokevirtual 117, 3) := by decide +kernel
theorem dX6_acceptValueTail_77 : decode cX6_acceptValueTail 77 = .ok (.aload_n 0, 1) := by decide +kernel
theorem dX6_acceptValueTail_78 : decode cX6_acceptValueTail 78 = .ok (.iconst 1, 1) := by decide +kernel
theorem dX6_acceptValueTail_79 : decode cX6_acceptValueTail 79 = .ok (.putfield 99, 3) := by decide +kernel
theorem dX6_acceptValueTail_82 : decode cX6_acceptValueTail 82 = .ok (.aload_n 0, 1) := by decide +kernel
theorem dX6_acceptValueTail_83 : decode cX6_acceptValueTail 83 = .ok (.aload_n 0, 1) := by decide +kernel
theorem dX6_acceptValueTail_84 : decode cX6_acceptValueTail 84 = .ok (.getfield 54, 3) := by decide +kernel
theorem dX6_acceptValueTail_87 : decode cX6_acceptValueTail 87 = .ok (.iconst 3, 1) := by decide +kernel
theorem dX6_acceptValueTail_88 : decode cX6_acceptValueTail 88 = .ok (.invokevirtual 102, 3) := by decide +kernel
theorem dX6_acceptValueTail_91 : decode cX6_acceptValueTail 91 = .ok (.ireturn, 1) := by decide +kernel
theorem dX6_acceptConditionTail_0 : decode cX6_acceptConditionTail 0 = .ok (.aload_n 0, 1) := by decide +kernel
theorem dX6_acceptConditionTail_1 : decode cX6_acceptConditionTail 1 = .ok (.getfield 54, 3) := by decide +kernel
theorem dX6_acceptConditionTail_4 : decode cX6_acceptConditionTail 4 = .ok (.sipush 204, 3) := by decide +kernel
theorem dX6_acceptConditionTail_7 : decode cX6_acceptConditionTail 7 = .ok (.if_icmp .eq 13, 3) := by decide +kernel
theorem dX6_acceptConditionTail_10 : decode cX6_acceptConditionTail 10 = .ok (.aload_n 0, 1) := by decide +kernel
theorem dX6_acceptConditionTail_11 : decode cX6_acceptConditionTail 11 = .ok (.getfield 54, 3) := by decide +kernel
theorem dX6_acceptConditionTail_14 : decode cX6_acceptConditionTail 14 = .ok (.sipush 203, 3) := by decide +kernel
theorem dX6_acceptConditionTail_17 : decode cX6_acceptConditionTail 17 = .ok (.if_icmp .ne 24, 3) := by decide +kernel
theorem dX6_acceptConditionTail_20 : decode cX6_acceptConditionTail 20 = .ok (.aload_n 0, 1) := by decide +kernel
theorem dX6_acceptConditionTail_21 : decode cX6_acceptConditionTail 21 = .ok (.aload_n 0, 1) := by decide +kernel
theorem dX6_acceptConditionTail_22 : decode cX6_acceptConditionTail 22 = .ok (.getfield 54, 3) := by decide +kernel
theorem dX6_acceptConditionTail_25 : decode cX6_acceptConditionTail 25 = .ok (.invokestatic 113, 3) := by decide +kernel
theorem dX6_acceptConditionTail_28 : decode cX6_acceptConditionTail 28 = .ok (.invokevirtual 117, 3) := by decide +kernel
theorem dX6_acceptConditionTail_31 : decode cX6_acceptConditionTail 31 = .ok (.aload_n 0, 1) := by decide +kernel
theorem dX6_acceptConditionTail_32 : decode cX6_acceptConditionTail 32 = .ok (.aload_n 0, 1) := by decide +kernel
theorem dX6_acceptConditionTail_33 : decode cX6_acceptConditionTail 33 = .ok (.getfield 54, 3) := by decide +kernel
theorem dX6_acceptConditionTail_36 : decode cX6_acceptConditionTail 36 = .ok (.iconst 2, 1) := by decide +kernel
theorem dX6_acceptConditionTail_37 : decode cX6_acceptConditionTail 37 = .ok (.invokevirtual 102, 3) := by decide +kernel
theorem dX6_acceptConditionTail_40 : decode cX6_acceptConditionTail 40 = .ok (.ireturn, 1) := by decide +kernel
theorem dX6_acceptConditionTail_41 : decode cX6_acceptConditionTail 41 = .ok (.aload_n 0, 1) := by decide +kernel
theorem dX6_acceptConditionTail_42 : decode cX6_acceptConditionTail 42 = .ok (.getfield 54, 3) := by decide +kernel
theorem dX6_acceptConditionTail_45 : decode cX6_acceptConditionTail 45 = .ok (.bipush 41, 2) := by decide +kernel
theorem dX6_acceptConditionTail_47 : decode cX6_acceptConditionTail 47 = .ok (.if_icmp .eq 18, 3) := by decide +kernel
theorem dX6_acceptConditionTail_50 : decode cX6_acceptConditionTail 50 = .ok (.aload_n 0, 1) := by decide +kernel
theorem dX6_acceptConditionTail_51 : decode cX6_acceptConditionTail 51 = .ok (.getfield 54, 3) := by decide +kernel
theorem dX6_acceptConditionTail_54 : decode cX6_acceptConditionTail 54 = .ok (.bipush 59, 2) := by decide +kernel
theorem dX6_acceptConditionTail_56 : decode cX6_acceptConditionTail 56 = .ok (.if_icmp .eq 9, 3) := by decide +kernel
theorem dX6_acceptConditionTail_59 : decode cX6_acceptConditionTail 59 = .ok (.aload_n 0, 1) := by decide +kernel
theorem dX6_acceptConditionTail_60 : decode cX6_acceptConditionTail 60 = .ok (.iconst 1, 1) := by decide +kernel
theorem dX6_acceptConditionTail_61 : decode cX6_acceptConditionTail 61 = .ok (.invokevirtual 85, 3) := by decide +kernel
theorem dX6_acceptConditionTail_64 : decode cX6_acceptConditionTail 64 = .ok (.ireturn, 1) := by decide +kernel
theorem dX6_acceptConditionTail_65 : decode cX6_acceptConditionTail 65 = .ok (.aload_n 0, 1) := by decide +kernel
theorem dX6_acceptConditionTail_66 : decode cX6_acceptConditionTail 66 = .ok (.sipush 203, 3) := by decide +kernel
theorem dX6_acceptConditionTail_69 : decode cX6_acceptConditionTail 69 = .ok (.invokestatic 113, 3) := by decide +kernel
theorem dX6_acceptConditionTail_72 : decode cX6_acceptConditionTail 72 = .ok (.invokevirtual 117, 3) := by decide +kernel
theorem dX6_acceptConditionTail_75 : decode cX6_acceptConditionTail 75 = .ok (.aload_n 0, 1) := by decide +kernel
theorem dX6_acceptConditionTail_76 : decode cX6_acceptConditionTail 76 = .ok (.getfield 42, 3) := by decide +kernel
theorem dX6_acceptConditionTail_79 : decode cX6_acceptConditionTail 79 = .ok (.ifCond .le 7, 3) := by decide +kernel
theorem dX6_acceptConditionTail_82 : decode cX6_acceptConditionTail 82 = .ok (.iconst 1, 1) := by decide +kernel
theorem dX6_acceptConditionTail_83 : decode cX6_acceptConditionTail 83 = .ok (.goto 4, 3) := by decide +kernel
theorem dX6_acceptConditionTail_86 : decode cX6_acceptConditionTail 86 = .ok (.iconst 0, 1) := by decide +kernel
theorem dX6_acceptConditionTail_87 : decode cX6_acceptConditionTail 87 = .ok (.istore_n 1, 1) := by decide +kernel
theorem dX6_acceptConditionTail_88 : decode cX6_acceptConditionTail 88 = .ok (.iload_n 1, 1) := by decide +kernel
theorem dX6_acceptConditionTail_89 : decode cX6_acceptConditionTail 89 = .ok (.aload_n 0, 1) := by decide +kernel
theorem dX6_acceptConditionTail_90 : decode cX6_acceptConditionTail 90 = .ok (.getfield 54, 3) := by decide +kernel
theorem dX6_acceptConditionTail_93 : decode cX6_acceptConditionTail 93 = .ok (.bipush 41, 2) := by decide +kernel
theorem dX6_acceptConditionTail_95 : decode cX6_acceptConditionTail 95 = .ok (.if_icmp .ne 7, 3) := by decide +kernel
theorem dX6_acceptConditionTail_98 : decode cX6_acceptConditionTail 98 = .ok (.iconst 1, 1) := by decide +kernel
theorem dX6_acceptConditionTail_99 : decode cX6_acceptConditionTail 99 = .ok (.goto 4, 3) := by decide +kernel
theorem dX6_acceptConditionTail_102 : decode cX6_acceptConditionTail 102 = .ok (.iconst 0, 1) := by decide +kernel
theorem dX6_acceptConditionTail_103 : decode cX6_acceptConditionTail 103 = .ok (.if_icmp .eq 9, 3) := by decide +kernel
theorem dX6_acceptConditionTail_106 : decode cX6_acceptConditionTail 106 = .ok (.aload_n 0, 1) := by decide +kernel
theorem dX6_acceptConditionTail_107 : decode cX6_acceptConditionTail 107 = .ok (.iconst 1, 1) := by decide +kernel
theorem dX6_acceptConditionTail_108 : decode cX6_acceptConditionTail 108 = .ok (.invokevirtual 85, 3) := by decide +kernel
theorem dX6_acceptConditionTail_111 : decode cX6_acceptConditionTail 111 = .ok (.ireturn, 1) := by decide +kernel
theorem dX6_acceptConditionTail_112 : decode cX6_acceptConditionTail 112 = .ok (.iload_n 1, 1) := by decide +kernel
theorem dX6_acceptConditionTail_113 : decode cX6_acceptConditionTail 113 = .ok (.ifCond .eq 10, 3) := by decide +kernel
theorem dX6_acceptConditionTail_116 : decode cX6_acceptConditionTail 116 = .ok (.aload_n 0, 1) := by decide +kernel
theorem dX6_acceptConditionTail_117 : decode cX6_acceptConditionTail 117 = .ok (.invokevirtual 120, 3) := by decide +kernel
theorem dX6_acceptConditionTail_120 : decode cX6_acceptConditionTail 120 = .ok (.goto 7, 3) := by decide +kernel
theorem dX6_acceptConditionTail_123 : decode cX6_acceptConditionTail 123 = .ok (.aload_n 0, 1) := by decide +kernel
theorem dX6_acceptConditionTail_124 : decode cX6_acceptConditionTail 124 = .ok (.invokevirtual 96, 3) := by decide +kernel
theorem dX6_acceptConditionTail_127 : decode cX6_acceptConditionTail 127 = .ok (.ireturn, 1) := by decide +kernel
theorem dX6_closeBracket_0 : decode cX6_closeBracket 0 = .ok (.aload_n 0, 1) := by decide +kernel
theorem dX6_closeBracket_1 : decode cX6_closeBracket 1 = .ok (.dup, 1) := by decide +kernel
theorem dX6_closeBracket_2 : decode cX6_closeBracket 2 = .ok (.getfield 42, 3) := by decide +kernel
theorem dX6_closeBracket_5 : decode cX6_closeBracket 5 = .ok (.iconst 1, 1) := by decide +kernel
theorem dX6_closeBracket_6 : decode cX6_closeBracket 6 = .ok (.isub, 1) := by decide +kernel
theorem dX6_closeBracket_7 : decode cX6_closeBracket 7 = .ok (.putfield 42, 3) := by decide +kernel
theorem dX6_closeBracket_10 : decode cX6_closeBracket 10 = .ok (.aload_n 0, 1) := by decide +kernel
theorem dX6_closeBracket_11 : decode cX6_closeBracket 11 = .ok (.dup, 1) := by decide +kernel
theorem dX6_closeBracket_12 : decode cX6_closeBracket 12 = .ok (.getfield 45, 3) := by decide +kernel
theorem dX6_closeBracket_15 : decode cX6_closeBracket 15 = .ok (.iconst 1, 1) := by decide +kernel
theorem dX6_closeBracket_16 : decode cX6_closeBracket 16 = .ok (.isub, 1) := by decide +kernel
theorem dX6_closeBracket_17 : decode cX6_closeBracket 17 = .ok (.putfield 45, 3) := by decide +kernel
theorem dX6_closeBracket_20 : decode cX6_closeBracket 20 = .ok (.aload_n 0, 1) := by decide +kernel
theorem dX6_closeBracket_21 : decode cX6_closeBracket 21 = .ok (.bipush 6, 2) := by decide +kernel
theorem dX6_closeBracket_23 : decode cX6_closeBracket 23 = .ok (.putfield 39, 3) := by decide +kernel
theorem dX6_closeBracket_26 : decode cX6_closeBracket 26 = .ok (.iconst 1, 1) := by decide +kernel
theorem dX6_closeBracket_27 : decode cX6_closeBracket 27 = .ok (.ireturn, 1) := by decide +kernel
theorem dX6_closeLine_0 : decode cX6_closeLine 0 = .ok (.aload_n 0, 1) := by decide +kernel
theorem dX6_closeLine_1 : decode cX6_closeLine 1 = .ok (.getfield 18, 3) := by decide +kernel
theorem dX6_closeLine_4 : decode cX6_closeLine 4 = .ok (.aload_n 0, 1) := by decide +kernel
theorem dX6_closeLine_5 : decode cX6_closeLine 5 = .ok (.getfield 92, 3) := by decide +kernel
theorem dX6_closeLine_8 : decode cX6_closeLine 8 = .ok (.invokevirtual 123, 3) := by decide +kernel
theorem dX6_closeLine_11 : decode cX6_closeLine 11 = .ok (.aload_n 0, 1) := by decide +kernel
theorem dX6_closeLine_12 : decode cX6_closeLine 12 = .ok (.iconst 0, 1) := by decide +kernel
theorem dX6_closeLine_13 : decode cX6_closeLine 13 = .ok (.putfield 39, 3) := by decide +kernel
theorem dX6_closeLine_16 : decode cX6_closeLine 16 = .ok (.iconst 1, 1) := by decide +kernel
theorem dX6_closeLine_17 : decode cX6_closeLine 17 = .ok (.ireturn, 1) := by decide +kernel
theorem dX6_holdSign_0 : decode cX6_holdSign 0 = .ok (.aload_n 0, 1) := by decide +kernel
theorem dX6_holdSign_1 : decode cX6_holdSign 1 = .ok (.getfield 42, 3) := by decide +kernel
theorem dX6_holdSign_4 : decode cX6_holdSign 4 = .ok (.bipush 32, 2) := by decide +kernel
theorem dX6_holdSign_6 : decode cX6_holdSign 6 = .ok (.if_icmp .lt 9, 3) := by decide +kernel
theorem dX6_holdSign_9 : decode cX6_holdSign 9 = .ok (.aload_n 0, 1) := by decide +kernel
theorem dX6_holdSign_10 : decode cX6_holdSign 10 = .ok (.iconst 3, 1) := by decide +kernel
theorem dX6_holdSign_11 : decode cX6_holdSign 11 = .ok (.invokevirtual 85, 3) := by decide +kernel
theorem dX6_holdSign_14 : decode cX6_holdSign 14 = .ok (.ireturn, 1) := by decide +kernel
theorem dX6_holdSign_15 : decode cX6_holdSign 15 = .ok (.aload_n 0, 1) := by decide +kernel
theorem dX6_holdSign_16 : decode cX6_holdSign 16 = .ok (.getfield 22, 3) := by decide +kernel
theorem dX6_holdSign_19 : decode cX6_holdSign 19 = .ok (.aload_n 0, 1) := by decide +kernel
theorem dX6_holdSign_20 : decode cX6_holdSign 20 = .ok (.getfield 42, 3) := by decide +kernel
theorem dX6_holdSign_23 : decode cX6_holdSign 23 = .ok (.iload_n 1, 1) := by decide +kernel
theorem dX6_holdSign_24 : decode cX6_holdSign 24 = .ok (.iastore, 1) := by decide +kernel
theorem dX6_holdSign_25 : decode cX6_holdSign 25 = .ok (.aload_n 0, 1) := by decide +kernel
theorem dX6_holdSign_26 : decode cX6_holdSign 26 = .ok (.dup, 1) := by decide +kernel
theorem dX6_holdSign_27 : decode cX6_holdSign 27 = .ok (.getfield 42, 3) := by decide +kernel
theorem dX6_holdSign_30 : decode cX6_holdSign 30 = .ok (.iconst 1, 1) := by decide +kernel
theorem dX6_holdSign_31 : decode cX6_holdSign 31 = .ok (.iadd, 1) := by decide +kernel
theorem dX6_holdSign_32 : decode cX6_holdSign 32 = .ok (.putfield 42, 3) := by decide +kernel
theorem dX6_holdSign_35 : decode cX6_holdSign 35 = .ok (.aload_n 0, 1) := by decide +kernel
theorem dX6_holdSign_36 : decode cX6_holdSign 36 = .ok (.iload_n 2, 1) := by decide +kernel
theorem dX6_holdSign_37 : decode cX6_holdSign 37 = .ok (.putfield 39, 3) := by decide +kernel
theorem dX6_holdSign_40 : decode cX6_holdSign 40 = .ok (.iconst 1, 1) := by decide +kernel
theorem dX6_holdSign_41 : decode cX6_holdSign 41 = .ok (.ireturn, 1) := by decide +kernel
theorem dX6_settle_0 : decode cX6_settle 0 = .ok (.aload_n 0, 1) := by decide +kernel
theorem dX6_settle_1 : decode cX6_settle 1 = .ok (.getfield 42, 3) := by decide +kernel
theorem dX6_settle_4 : decode cX6_settle 4 = .ok (.iconst 1, 1) := by decide +kernel
theorem dX6_settle_5 : decode cX6_settle 5 = .ok (.isub, 1) := by decide +kernel
theorem dX6_settle_6 : decode cX6_settle 6 = .ok (.istore_n 2, 1) := by decide +kernel
theorem dX6_settle_7 : decode cX6_settle 7 = .ok (.iload_n 2, 1) := by decide +kernel
theorem dX6_settle_8 : decode cX6_settle 8 = .ok (.ifCond .lt 63, 3) := by decide +kernel
theorem dX6_settle_11 : decode cX6_settle 11 = .ok (.aload_n 0, 1) := by decide +kernel
theorem dX6_settle_12 : decode cX6_settle 12 = .ok (.getfield 22, 3) := by decide +kernel
theorem dX6_settle_15 : decode cX6_settle 15 = .ok (.iload_n 2, 1) := by decide +kernel
theorem dX6_settle_16 : decode cX6_settle 16 = .ok (.iaload, 1) := by decide +kernel
theorem dX6_settle_17 : decode cX6_settle 17 = .ok (.invokestatic 113, 3) := by decide +kernel
theorem dX6_settle_20 : decode cX6_settle 20 = .ok (.iload_n 1, 1) := by decide +kernel
theorem dX6_settle_21 : decode cX6_settle 21 = .ok (.if_icmp .lt 50, 3) := by decide +kernel
theorem dX6_settle_24 : decode cX6_settle 24 = .ok (.aload_n 0, 1) := by decide +kernel
theorem dX6_settle_25 : decode cX6_settle 25 = .ok (.getfield 18, 3) := by decide +kernel
theorem dX6_settle_28 : decode cX6_settle 28 = .ok (.aload_n 0, 1) := by decide +kernel
theorem dX6_settle_29 : decode cX6_settle 29 = .ok (.getfield 22, 3) := by decide +kernel
theorem dX6_settle_32 : decode cX6_settle 32 = .ok (.iload_n 2, 1) := by decide +kernel
theorem dX6_settle_33 : decode cX6_settle 33 = .ok (.iaload, 1) := by decide +kernel
theorem dX6_settle_34 : decode cX6_settle 34 = .ok (.ineg, 1) := by decide +kernel
theorem dX6_settle_35 : decode cX6_settle 35 = .ok (.invokevirtual 109, 3) := by decide +kernel
theorem dX6_settle_38 : decode cX6_settle 38 = .ok (.aload_n 0, 1) := by decide +kernel
theorem dX6_settle_39 : decode cX6_settle 39 = .ok (.getfield 22, 3) := by decide +kernel
theorem dX6_settle_42 : decode cX6_settle 42 = .ok (.iload_n 2, 1) := by decide +kernel
theorem dX6_settle_43 : decode cX6_settle 43 = .ok (.iaload, 1) := by decide +kernel
theorem dX6_settle_44 : decode cX6_settle 44 = .ok (.sipush 205, 3) := by decide +kernel
theorem dX6_settle_47 : decode cX6_settle 47 = .ok (.if_icmp .ne 13, 3) := by decide +kernel
theorem dX6_settle_50 : decode cX6_settle 50 = .ok (.aload_n 0, 1) := by decide +kernel
theorem dX6_settle_51 : decode cX6_settle 51 = .ok (.dup, 1) := by decide +kernel
theorem dX6_settle_52 : decode cX6_settle 52 = .ok (.getfield 45, 3) := by decide +kernel
theorem dX6_settle_55 : decode cX6_settle 55 = .ok (.iconst 1, 1) := by decide +kernel
theorem dX6_settle_56 : decode cX6_settle 56 = .ok (.isub, 1) := by decide +kernel
theorem dX6_settle_57 : decode cX6_settle 57 = .ok (.putfield 45, 3) := by decide +kernel
theorem dX6_settle_60 : decode cX6_settle 60 = .ok (.aload_n 0, 1) := by decide +kernel
theorem dX6_settle_61 : decode cX6_settle 61 = .ok (.iload_n 2, 1) := by decide +kernel
theorem dX6_settle_62 : decode cX6_settle 62 = .ok (.putfield 42, 3) := by decide +kernel
theorem dX6_settle_65 : decode cX6_settle 65 = .ok (.iinc 2 (-1), 3) := by decide +kernel
theorem dX6_settle_68 : decode cX6_settle 68 = .ok (.goto (-61), 3) := by decide +kernel
theorem dX6_settle_71 : decode cX6_settle 71 = .ok (.return_, 1) := by decide +kernel
theorem dX6_rankOf_0 : decode cX6_rankOf 0 = .ok (.iload_n 0, 1) := by decide +kernel
theorem dX6_rankOf_1 : decode cX6_rankOf 1 = .ok (.lookupswitch 104 #[(42, 101), (43, 99), (45, 99), (47, 101), (60, 97), (61, 97), (62, 97), (203, 91), (204, 93), (205, 95)], 91) := by decide +kernel
theorem dX6_rankOf_92 : decode cX6_rankOf 92 = .ok (.iconst 1, 1) := by decide +kernel
theorem dX6_rankOf_93 : decode cX6_rankOf 93 = .ok (.ireturn, 1) := by decide +kernel
theorem dX6_rankOf_94 : decode cX6_rankOf 94 = .ok (.iconst 2, 1) := by decide +kernel
theorem dX6_rankOf_95 : decode cX6_rankOf 95 = .ok (.ireturn, 1) := by decide +kernel
theorem dX6_rankOf_96 : decode cX6_rankOf 96 = .ok (.iconst 3, 1) := by decide +kernel
theorem dX6_rankOf_97 : decode cX6_rankOf 97 = .ok (.ireturn, 1) := by decide +kernel
theorem dX6_rankOf_98 : decode cX6_rankOf 98 = .ok (.iconst 4, 1) := by decide +kernel
theorem dX6_rankOf_99 : decode cX6_rankOf 99 = .ok (.ireturn, 1) := by decide +kernel
theorem dX6_rankOf_100 : decode cX6_rankOf 100 = .ok (.iconst 5, 1) := by decide +kernel
theorem dX6_rankOf_101 : decode cX6_rankOf 101 = .ok (.ireturn, 1) := by decide +kernel
theorem dX6_rankOf_102 : decode cX6_rankOf 102 = .ok (.bipush 6, 2) := by decide +kernel
theorem dX6_rankOf_104 : decode cX6_rankOf 104 = .ok (.ireturn, 1) := by decide +kernel
theorem dX6_rankOf_105 : decode cX6_rankOf 105 = .ok (.iconst 0, 1) := by decide +kernel
theorem dX6_rankOf_106 : decode cX6_rankOf 106 = .ok (.ireturn, 1) := by decide +kernel
theorem dX6_step_0 : decode cX6_step 0 = .ok (.aload_n 0, 1) := by decide +kernel
theorem dX6_step_1 : decode cX6_step 1 = .ok (.aload_n 0, 1) := by decide +kernel
theorem dX6_step_2 : decode cX6_step 2 = .ok (.getfield 33, 3) := by decide +kernel
theorem dX6_step_5 : decode cX6_step 5 = .ok (.putfield 61, 3) := by decide +kernel
theorem dX6_step_8 : decode cX6_step 8 = .ok (.aload_n 0, 1) := by decide +kernel
theorem dX6_step_9 : decode cX6_step 9 = .ok (.getfield 33, 3) := by decide +kernel
theorem dX6_step_12 : decode cX6_step 12 = .ok (.istore_n 1, 1) := by decide +kernel
theorem dX6_step_13 : decode cX6_step 13 = .ok (.iload_n 1, 1) := by decide +kernel
theorem dX6_step_14 : decode cX6_step 14 = .ok (.aload_n 0, 1) := by decide +kernel
theorem dX6_step_15 : decode cX6_step 15 = .ok (.getfield 30, 3) := by decide +kernel
theorem dX6_step_18 : decode cX6_step 18 = .ok (.if_icmp .ge 27, 3) := by decide +kernel
theorem dX6_step_21 : decode cX6_step 21 = .ok (.aload_n 0, 1) := by decide +kernel
theorem dX6_step_22 : decode cX6_step 22 = .ok (.iload_n 1, 1) := by decide +kernel
theorem dX6_step_23 : decode cX6_step 23 = .ok (.invokevirtual 126, 3) := by decide +kernel
theorem dX6_step_26 : decode cX6_step 26 = .ok (.invokestatic 129, 3) := by decide +kernel
theorem dX6_step_29 : decode cX6_step 29 = .ok (.ifCond .eq 16, 3) := by decide +kernel
theorem dX6_step_32 : decode cX6_step 32 = .ok (.aload_n 0, 1) := by decide +kernel
theorem dX6_step_33 : decode cX6_step 33 = .ok (.iload_n 1, 1) := by decide +kernel
theorem dX6_step_34 : decode cX6_step 34 = .ok (.iconst 1, 1) := by decide +kernel
theorem dX6_step_35 : decode cX6_step 35 = .ok (.iadd, 1) := by decide +kernel
theorem dX6_step_36 : decode cX6_step 36 = .ok (.putfield 61, 3) := by decide +kernel
theorem dX6_step_39 : decode cX6_step 39 = .ok (.iinc 1 1, 3) := by decide +kernel
theorem dX6_step_42 : decode cX6_step 42 = .ok (.goto (-29), 3) := by decide +kernel
theorem dX6_step_45 : decode cX6_step 45 = .ok (.aload_n 0, 1) := by decide +kernel
theorem dX6_step_46 : decode cX6_step 46 = .ok (.aload_n 0, 1) := by decide +kernel
theorem dX6_step_47 : decode cX6_step 47 = .ok (.getfield 61, 3) := by decide +kernel
theorem dX6_step_50 : decode cX6_step 50 = .ok (.iconst 1, 1) := by decide +kernel
theorem dX6_step_51 : decode cX6_step 51 = .ok (.iadd, 1) := by decide +kernel
theorem dX6_step_52 : decode cX6_step 52 = .ok (.putfield 33, 3) := by decide +kernel
theorem dX6_step_55 : decode cX6_step 55 = .ok (.aload_n 0, 1) := by decide +kernel
theorem dX6_step_56 : decode cX6_step 56 = .ok (.aload_n 0, 1) := by decide +kernel
theorem dX6_step_57 : decode cX6_step 57 = .ok (.getfield 61, 3) := by decide +kernel
theorem dX6_step_60 : decode cX6_step 60 = .ok (.invokevirtual 126, 3) := by decide +kernel
theorem dX6_step_63 : decode cX6_step 63 = .ok (.istore_n 1, 1) := by decide +kernel
theorem dX6_step_64 : decode cX6_step 64 = .ok (.aload_n 0, 1) := by decide +kernel
theorem dX6_step_65 : decode cX6_step 65 = .ok (.getfield 61, 3) := by decide +kernel
theorem dX6_step_68 : decode cX6_step 68 = .ok (.aload_n 0, 1) := by decide +kernel
theorem dX6_step_69 : decode cX6_step 69 = .ok (.getfield 30, 3) := by decide +kernel
theorem dX6_step_72 : decode cX6_step 72 = .ok (.if_icmp .lt 19, 3) := by decide +kernel
theorem dX6_step_75 : decode cX6_step 75 = .ok (.aload_n 0, 1) := by decide +kernel
theorem dX6_step_76 : decode cX6_step 76 = .ok (.aload_n 0, 1) := by decide +kernel
theorem dX6_step_77 : decode cX6_step 77 = .ok (.getfield 30, 3) := by decide +kernel
theorem dX6_step_80 : decode cX6_step 80 = .ok (.putfield 33, 3) := by decide +kernel
theorem dX6_step_83 : decode cX6_step 83 = .ok (.aload_n 0, 1) := by decide +kernel
theorem dX6_step_84 : decode cX6_step 84 = .ok (.iconst 0, 1) := by decide +kernel
theorem dX6_step_85 : decode cX6_step 85 = .ok (.putfield 54, 3) := by decide +kernel
theorem dX6_step_88 : decode cX6_step 88 = .ok (.goto 47, 3) := by decide +kernel
theorem dX6_step_91 : decode cX6_step 91 = .ok (.iload_n 1, 1) := by decide +kernel
theorem dX6_step_92 : decode cX6_step 92 = .ok (.invokestatic 132, 3) := by decide +kernel
theorem dX6_step_95 : decode cX6_step 95 = .ok (.ifCond .eq 10, 3) := by decide +kernel
theorem dX6_step_98 : decode cX6_step 98 = .ok (.aload_n 0, 1) := by decide +kernel
theorem dX6_step_99 : decode cX6_step 99 = .ok (.invokevirtual 135, 3) := by decide +kernel
theorem dX6_step_102 : decode cX6_step 102 = .ok (.goto 33, 3) := by decide +kernel
theorem dX6_step_105 : decode cX6_step 105 = .ok (.iload_n 1, 1) := by decide +kernel
theorem dX6_step_106 : decode cX6_step 106 = .ok (.invokestatic 138, 3) := by decide +kernel
theorem dX6_step_109 : decode cX6_step 109 = .ok (.ifCond .eq 10, 3) := by decide +kernel
theorem dX6_step_112 : decode cX6_step 112 = .ok (.aload_n 0, 1) := by decide +kernel
theorem dX6_step_113 : decode cX6_step 113 = .ok (.invokevirtual 141, 3) := by decide +kernel
theorem dX6_step_116 : decode cX6_step 116 = .ok (.goto 19, 3) := by decide +kernel
theorem dX6_step_119 : decode cX6_step 119 = .ok (.aload_n 0, 1) := by decide +kernel
theorem dX6_step_120 : decode cX6_step 120 = .ok (.iload_n 1, 1) := by decide +kernel
theorem dX6_step_121 : decode cX6_step 121 = .ok (.invokestatic 144, 3) := by decide +kernel
theorem dX6_step_124 : decode cX6_step 124 = .ok (.ifCond .eq 7, 3) := by decide +kernel
theorem dX6_step_127 : decode cX6_step 127 = .ok (.iload_n 1, 1) := by decide +kernel
theorem dX6_step_128 : decode cX6_step 128 = .ok (.goto 4, 3) := by decide +kernel
theorem dX6_step_131 : decode cX6_step 131 = .ok (.iconst 1, 1) := by decide +kernel
theorem dX6_step_132 : decode cX6_step 132 = .ok (.putfield 54, 3) := by decide +kernel
theorem dX6_step_135 : decode cX6_step 135 = .ok (.return_, 1) := by decide +kernel
theorem dX6_takeLetters_0 : decode cX6_takeLetters 0 = .ok (.aload_n 0, 1) := by decide +kernel
theorem dX6_takeLetters_1 : decode cX6_takeLetters 1 = .ok (.getfield 33, 3) := by decide +kernel
theorem dX6_takeLetters_4 : decode cX6_takeLetters 4 = .ok (.istore_n 1, 1) := by decide +kernel
theorem dX6_takeLetters_5 : decode cX6_takeLetters 5 = .ok (.iload_n 1, 1) := by decide +kernel
theorem dX6_takeLetters_6 : decode cX6_takeLetters 6 = .ok (.aload_n 0, 1) := by decide +kernel
theorem dX6_takeLetters_7 : decode cX6_takeLetters 7 = .ok (.getfield 30, 3) := by decide +kernel
theorem dX6_takeLetters_10 : decode cX6_takeLetters 10 = .ok (.if_icmp .ge 27, 3) := by decide +kernel
theorem dX6_takeLetters_13 : decode cX6_takeLetters 13 = .ok (.aload_n 0, 1) := by decide +kernel
theorem dX6_takeLetters_14 : decode cX6_takeLetters 14 = .ok (.iload_n 1, 1) := by decide +kernel
theorem dX6_takeLetters_15 : decode cX6_takeLetters 15 = .ok (.invokevirtual 126, 3) := by decide +kernel
theorem dX6_takeLetters_18 : decode cX6_takeLetters 18 = .ok (.invokestatic 132, 3) := by decide +kernel
theorem dX6_takeLetters_21 : decode cX6_takeLetters 21 = .ok (.ifCond .eq 16, 3) := by decide +kernel
theorem dX6_takeLetters_24 : decode cX6_takeLetters 24 = .ok (.aload_n 0, 1) := by decide +kernel
theorem dX6_takeLetters_25 : decode cX6_takeLetters 25 = .ok (.iload_n 1, 1) := by decide +kernel
theorem dX6_takeLetters_26 : decode cX6_takeLetters 26 = .ok (.iconst 1, 1) := by decide +kernel
theorem dX6_takeLetters_27 : decode cX6_takeLetters 27 = .ok (.iadd, 1) := by decide +kernel
theorem dX6_takeLetters_28 : decode cX6_takeLetters 28 = .ok (.putfield 33, 3) := by decide +kernel
theorem dX6_takeLetters_31 : decode cX6_takeLetters 31 = .ok (.iinc 1 1, 3) := by decide +kernel
theorem dX6_takeLetters_34 : decode cX6_takeLetters 34 = .ok (.goto (-29), 3) := by decide +kernel
theorem dX6_takeLetters_37 : decode cX6_takeLetters 37 = .ok (.aload_n 0, 1) := by decide +kernel
theorem dX6_takeLetters_38 : decode cX6_takeLetters 38 = .ok (.iconst 1, 1) := by decide +kernel
theorem dX6_takeLetters_39 : decode cX6_takeLetters 39 = .ok (.putfield 54, 3) := by decide +kernel
theorem dX6_takeLetters_42 : decode cX6_takeLetters 42 = .ok (.sipush 200, 3) := by decide +kernel
theorem dX6_takeLetters_45 : decode cX6_takeLetters 45 = .ok (.istore_n 1, 1) := by decide +kernel
theorem dX6_takeLetters_46 : decode cX6_takeLetters 46 = .ok (.iload_n 1, 1) := by decide +kernel
theorem dX6_takeLetters_47 : decode cX6_takeLetters 47 = .ok (.sipush 214, 3) := by decide +kernel
theorem dX6_takeLetters_50 : decode cX6_takeLetters 50 = .ok (.if_icmp .gt 25, 3) := by decide +kernel
theorem dX6_takeLetters_53 : decode cX6_takeLetters 53 = .ok (.aload_n 0, 1) := by decide +kernel
theorem dX6_takeLetters_54 : decode cX6_takeLetters 54 = .ok (.iload_n 1, 1) := by decide +kernel
theorem dX6_takeLetters_55 : decode cX6_takeLetters 55 = .ok (.invokestatic 147, 3) := by decide +kernel
theorem dX6_takeLetters_58 : decode cX6_takeLetters 58 = .ok (.invokevirtual 151, 3) := by decide +kernel
theorem dX6_takeLetters_61 : decode cX6_takeLetters 61 = .ok (.ifCond .eq 8, 3) := by decide +kernel
theorem dX6_takeLetters_64 : decode cX6_takeLetters 64 = .ok (.aload_n 0, 1) := by decide +kernel
theorem dX6_takeLetters_65 : decode cX6_takeLetters 65 = .ok (.iload_n 1, 1) := by decide +kernel
theorem dX6_takeLetters_66 : decode cX6_takeLetters 66 = .ok (.putfield 54, 3) := by decide +kernel
theorem dX6_takeLetters_69 : decode cX6_takeLetters 69 = .ok (.iinc 1 1, 3) := by decide +kernel
theorem dX6_takeLetters_72 : decode cX6_takeLetters 72 = .ok (.goto (-26), 3) := by decide +kernel
theorem dX6_takeLetters_75 : decode cX6_takeLetters 75 = .ok (.return_, 1) := by decide +kernel
theorem dX6_takeDigits_0 : decode cX6_takeDigits 0 = .ok (.aload_n 0, 1) := by decide +kernel
theorem dX6_takeDigits_1 : decode cX6_takeDigits 1 = .ok (.aload_n 0, 1) := by decide +kernel
theorem dX6_takeDigits_2 : decode cX6_takeDigits 2 = .ok (.aload_n 0, 1) := by decide +kernel
theorem dX6_takeDigits_3 : decode cX6_takeDigits 3 = .ok (.getfield 61, 3) := by decide +kernel
theorem dX6_takeDigits_6 : decode cX6_takeDigits 6 = .ok (.invokevirtual 126, 3) := by decide +kernel
theorem dX6_takeDigits_9 : decode cX6_takeDigits 9 = .ok (.bipush 48, 2) := by decide +kernel
theorem dX6_takeDigits_11 : decode cX6_takeDigits 11 = .ok (.isub, 1) := by decide +kernel
theorem dX6_takeDigits_12 : decode cX6_takeDigits 12 = .ok (.putfield 106, 3) := by decide +kernel
theorem dX6_takeDigits_15 : decode cX6_takeDigits 15 = .ok (.aload_n 0, 1) := by decide +kernel
theorem dX6_takeDigits_16 : decode cX6_takeDigits 16 = .ok (.getfield 33, 3) := by decide +kernel
theorem dX6_takeDigits_19 : decode cX6_takeDigits 19 = .ok (.istore_n 1, 1) := by decide +kernel
theorem dX6_takeDigits_20 : decode cX6_takeDigits 20 = .ok (.iload_n 1, 1) := by decide +kernel
theorem dX6_takeDigits_21 : decode cX6_takeDigits 21 = .ok (.aload_n 0, 1) := by decide +kernel
theorem dX6_takeDigits_22 : decode cX6_takeDigits 22 = .ok (.getfield 30, 3) := by decide +kernel
theorem dX6_takeDigits_25 : decode cX6_takeDigits 25 = .ok (.if_icmp .ge 47, 3) := by decide +kernel
theorem dX6_takeDigits_28 : decode cX6_takeDigits 28 = .ok (.aload_n 0, 1) := by decide +kernel
theorem dX6_takeDigits_29 : decode cX6_takeDigits 29 = .ok (.iload_n 1, 1) := by decide +kernel
theorem dX6_takeDigits_30 : decode cX6_takeDigits 30 = .ok (.invokevirtual 126, 3) := by decide +kernel
theorem dX6_takeDigits_33 : decode cX6_takeDigits 33 = .ok (.invokestatic 138, 3) := by decide +kernel
theorem dX6_takeDigits_36 : decode cX6_takeDigits 36 = .ok (.ifCond .eq 36, 3) := by decide +kernel
theorem dX6_takeDigits_39 : decode cX6_takeDigits 39 = .ok (.aload_n 0, 1) := by decide +kernel
theorem dX6_takeDigits_40 : decode cX6_takeDigits 40 = .ok (.aload_n 0, 1) := by decide +kernel
theorem dX6_takeDigits_41 : decode cX6_takeDigits 41 = .ok (.getfield 106, 3) := by decide +kernel
theorem dX6_takeDigits_44 : decode cX6_takeDigits 44 = .ok (.bipush 10, 2) := by decide +kernel
theorem dX6_takeDigits_46 : decode cX6_takeDigits 46 = .ok (.imul, 1) := by decide +kernel
theorem dX6_takeDigits_47 : decode cX6_takeDigits 47 = .ok (.aload_n 0, 1) := by decide +kernel
theorem dX6_takeDigits_48 : decode cX6_takeDigits 48 = .ok (.iload_n 1, 1) := by decide +kernel
theorem dX6_takeDigits_49 : decode cX6_takeDigits 49 = .ok (.invokevirtual 126, 3) := by decide +kernel
theorem dX6_takeDigits_52 : decode cX6_takeDigits 52 = .ok (.iadd, 1) := by decide +kernel
theorem dX6_takeDigits_53 : decode cX6_takeDigits 53 = .ok (.bipush 48, 2) := by decide +kernel
theorem dX6_takeDigits_55 : decode cX6_takeDigits 55 = .ok (.isub, 1) := by decide +kernel
theorem dX6_takeDigits_56 : decode cX6_takeDigits 56 = .ok (.putfield 106, 3) := by decide +kernel
theorem dX6_takeDigits_59 : decode cX6_takeDigits 59 = .ok (.aload_n 0, 1) := by decide +kernel
theorem dX6_takeDigits_60 : decode cX6_takeDigits 60 = .ok (.iload_n 1, 1) := by decide +kernel
theorem dX6_takeDigits_61 : decode cX6_takeDigits 61 = .ok (.iconst 1, 1) := by decide +kernel
theorem dX6_takeDigits_62 : decode cX6_takeDigits 62 = .ok (.iadd, 1) := by decide +kernel
theorem dX6_takeDigits_63 : decode cX6_takeDigits 63 = .ok (.putfield 33, 3) := by decide +kernel
theorem dX6_takeDigits_66 : decode cX6_takeDigits 66 = .ok (.iinc 1 1, 3) := by decide +kernel
theorem dX6_takeDigits_69 : decode cX6_takeDigits 69 = .ok (.goto (-49), 3) := by decide +kernel
theorem dX6_takeDigits_72 : decode cX6_takeDigits 72 = .ok (.aload_n 0, 1) := by decide +kernel
theorem dX6_takeDigits_73 : decode cX6_takeDigits 73 = .ok (.aload_n 0, 1) := by decide +kernel
theorem dX6_takeDigits_74 : decode cX6_takeDigits 74 = .ok (.getfield 33, 3) := by decide +kernel
theorem dX6_takeDigits_77 : decode cX6_takeDigits 77 = .ok (.aload_n 0, 1) := by decide +kernel
theorem dX6_takeDigits_78 : decode cX6_takeDigits 78 = .ok (.getfield 61, 3) := by decide +kernel
theorem dX6_takeDigits_81 : decode cX6_takeDigits 81 = .ok (.isub, 1) := by decide +kernel
theorem dX6_takeDigits_82 : decode cX6_takeDigits 82 = .ok (.iconst 4, 1) := by decide +kernel
theorem dX6_takeDigits_83 : decode cX6_takeDigits 83 = .ok (.if_icmp .gt 7, 3) := by decide +kernel
theorem dX6_takeDigits_86 : decode cX6_takeDigits 86 = .ok (.iconst 2, 1) := by decide +kernel
theorem dX6_takeDigits_87 : decode cX6_takeDigits 87 = .ok (.goto 4, 3) := by decide +kernel
theorem dX6_takeDigits_90 : decode cX6_takeDigits 90 = .ok (.iconst 1, 1) := by decide +kernel
theorem dX6_takeDigits_91 : decode cX6_takeDigits 91 = .ok (.putfield 54, 3) := by decide +kernel
theorem dX6_takeDigits_94 : decode cX6_takeDigits 94 = .ok (.return_, 1) := by decide +kernel
theorem dX6_isSpelt_0 : decode cX6_isSpelt 0 = .ok (.aload_n 1, 1) := by decide +kernel
theorem dX6_isSpelt_1 : decode cX6_isSpelt 1 = .ok (.invokevirtual 155, 3) := by decide +kernel
theorem dX6_isSpelt_4 : decode cX6_isSpelt 4 = .ok (.aload_n 0, 1) := by decide +kernel
theorem dX6_isSpelt_5 : decode cX6_isSpelt 5 = .ok (.getfield 33, 3) := by decide +kernel
theorem dX6_isSpelt_8 : decode cX6_isSpelt 8 = .ok (.aload_n 0, 1) := by decide +kernel
theorem dX6_isSpelt_9 : decode cX6_isSpelt 9 = .ok (.getfield 61, 3) := by decide +kernel
theorem dX6_isSpelt_12 : decode cX6_isSpelt 12 = .ok (.isub, 1) := by decide +kernel
theorem dX6_isSpelt_13 : decode cX6_isSpelt 13 = .ok (.if_icmp .eq 5, 3) := by decide +kernel
theorem dX6_isSpelt_16 : decode cX6_isSpelt 16 = .ok (.iconst 0, 1) := by decide +kernel
theorem dX6_isSpelt_17 : decode cX6_isSpelt 17 = .ok (.ireturn, 1) := by decide +kernel
theorem dX6_isSpelt_18 : decode cX6_isSpelt 18 = .ok (.iconst 0, 1) := by decide +kernel
theorem dX6_isSpelt_19 : decode cX6_isSpelt 19 = .ok (.istore_n 2, 1) := by decide +kernel
theorem dX6_isSpelt_20 : decode cX6_isSpelt 20 = .ok (.iload_n 2, 1) := by decide +kernel
theorem dX6_isSpelt_21 : decode cX6_isSpelt 21 = .ok (.aload_n 1, 1) := by decide +kernel
theorem dX6_isSpelt_22 : decode cX6_isSpelt 22 = .ok (.invokevirtual 155, 3) := by decide +kernel
theorem dX6_isSpelt_25 : decode cX6_isSpelt 25 = .ok (.if_icmp .ge 29, 3) := by decide +kernel
theorem dX6_isSpelt_28 : decode cX6_isSpelt 28 = .ok (.aload_n 1, 1) := by decide +kernel
theorem dX6_isSpelt_29 : decode cX6_isSpelt 29 = .ok (.iload_n 2, 1) := by decide +kernel
theorem dX6_isSpelt_30 : decode cX6_isSpelt 30 = .ok (.invokevirtual 160, 3) := by decide +kernel
theorem dX6_isSpelt_33 : decode cX6_isSpelt 33 = .ok (.aload_n 0, 1) := by decide +kernel
theorem dX6_isSpelt_34 : decode cX6_isSpelt 34 = .ok (.aload_n 0, 1) := by decide +kernel
theorem dX6_isSpelt_35 : decode cX6_isSpelt 35 = .ok (.getfield 61, 3) := by decide +kernel
theorem dX6_isSpelt_38 : decode cX6_isSpelt 38 = .ok (.iload_n 2, 1) := by decide +kernel
theorem dX6_isSpelt_39 : decode cX6_isSpelt 39 = .ok (.iadd, 1) := by decide +kernel
theorem dX6_isSpelt_40 : decode cX6_isSpelt 40 = .ok (.invokevirtual 126, 3) := by decide +kernel
theorem dX6_isSpelt_43 : decode cX6_isSpelt 43 = .ok (.if_icmp .eq 5, 3) := by decide +kernel
theorem dX6_isSpelt_46 : decode cX6_isSpelt 46 = .ok (.iconst 0, 1) := by decide +kernel
theorem dX6_isSpelt_47 : decode cX6_isSpelt 47 = .ok (.ireturn, 1) := by decide +kernel
theorem dX6_isSpelt_48 : decode cX6_isSpelt 48 = .ok (.iinc 2 1, 3) := by decide +kernel
theorem dX6_isSpelt_51 : decode cX6_isSpelt 51 = .ok (.goto (-31), 3) := by decide +kernel
theorem dX6_isSpelt_54 : decode cX6_isSpelt 54 = .ok (.iconst 1, 1) := by decide +kernel
theorem dX6_isSpelt_55 : decode cX6_isSpelt 55 = .ok (.ireturn, 1) := by decide +kernel
theorem dX6_signAt_0 : decode cX6_signAt 0 = .ok (.iload_n 1, 1) := by decide +kernel
theorem dX6_signAt_1 : decode cX6_signAt 1 = .ok (.ifCond .lt 33, 3) := by decide +kernel
theorem dX6_signAt_4 : decode cX6_signAt 4 = .ok (.iload_n 1, 1) := by decide +kernel
theorem dX6_signAt_5 : decode cX6_signAt 5 = .ok (.aload_n 0, 1) := by decide +kernel
theorem dX6_signAt_6 : decode cX6_signAt 6 = .ok (.getfield 30, 3) := by decide +kernel
theorem dX6_signAt_9 : decode cX6_signAt 9 = .ok (.if_icmp .ge 25, 3) := by decide +kernel
theorem dX6_signAt_12 : decode cX6_signAt 12 = .ok (.iload_n 1, 1) := by decide +kernel
theorem dX6_signAt_13 : decode cX6_signAt 13 = .ok (.aload_n 0, 1) := by decide +kernel
theorem dX6_signAt_14 : decode cX6_signAt 14 = .ok (.getfield 9, 3) := by decide +kernel
theorem dX6_signAt_17 : decode cX6_signAt 17 = .ok (.arraylength, 1) := by decide +kernel
theorem dX6_signAt_18 : decode cX6_signAt 18 = .ok (.if_icmp .ge 16, 3) := by decide +kernel
theorem dX6_signAt_21 : decode cX6_signAt 21 = .ok (.aload_n 0, 1) := by decide +kernel
theorem dX6_signAt_22 : decode cX6_signAt 22 = .ok (.getfield 9, 3) := by decide +kernel
theorem dX6_signAt_25 : decode cX6_signAt 25 = .ok (.iload_n 1, 1) := by decide +kernel
theorem dX6_signAt_26 : decode cX6_signAt 26 = .ok (.baload, 1) := by decide +kernel
theorem dX6_signAt_27 : decode cX6_signAt 27 = .ok (.sipush 255, 3) := by decide +kernel
theorem dX6_signAt_30 : decode cX6_signAt 30 = .ok (.iand, 1) := by decide +kernel
theorem dX6_signAt_31 : decode cX6_signAt 31 = .ok (.goto 4, 3) := by decide +kernel
theorem dX6_signAt_34 : decode cX6_signAt 34 = .ok (.iconst 0, 1) := by decide +kernel
theorem dX6_signAt_35 : decode cX6_signAt 35 = .ok (.ireturn, 1) := by decide +kernel
theorem dX6_isBlank_0 : decode cX6_isBlank 0 = .ok (.iload_n 0, 1) := by decide +kernel
theorem dX6_isBlank_1 : decode cX6_isBlank 1 = .ok (.bipush 32, 2) := by decide +kernel
theorem dX6_isBlank_3 : decode cX6_isBlank 3 = .ok (.if_icmp .eq 9, 3) := by decide +kernel
theorem dX6_isBlank_6 : decode cX6_isBlank 6 = .ok (.iload_n 0, 1) := by decide +kernel
theorem dX6_isBlank_7 : decode cX6_isBlank 7 = .ok (.bipush 10, 2) := by decide +kernel
theorem dX6_isBlank_9 : decode cX6_isBlank 9 = .ok (.if_icmp .ne 7, 3) := by decide +kernel
theorem dX6_isBlank_12 : decode cX6_isBlank 12 = .ok (.iconst 1, 1) := by decide +kernel
theorem dX6_isBlank_13 : decode cX6_isBlank 13 = .ok (.goto 4, 3) := by decide +kernel
theorem dX6_isBlank_16 : decode cX6_isBlank 16 = .ok (.iconst 0, 1) := by decide +kernel
theorem dX6_isBlank_17 : decode cX6_isBlank 17 = .ok (.ireturn, 1) := by decide +kernel
theorem dX6_isLetter_0 : decode cX6_isLetter 0 = .ok (.iload_n 0, 1) := by decide +kernel
theorem dX6_isLetter_1 : decode cX6_isLetter 1 = .ok (.bipush 97, 2) := by decide +kernel
theorem dX6_isLetter_3 : decode cX6_isLetter 3 = .ok (.if_icmp .lt 9, 3) := by decide +kernel
theorem dX6_isLetter_6 : decode cX6_isLetter 6 = .ok (.iload_n 0, 1) := by decide +kernel
theorem dX6_isLetter_7 : decode cX6_isLetter 7 = .ok (.bipush 122, 2) := by decide +kernel
theorem dX6_isLetter_9 : decode cX6_isLetter 9 = .ok (.if_icmp .le 15, 3) := by decide +kernel
theorem dX6_isLetter_12 : decode cX6_isLetter 12 = .ok (.iload_n 0, 1) := by decide +kernel
theorem dX6_isLetter_13 : decode cX6_isLetter 13 = .ok (.bipush 65, 2) := by decide +kernel
theorem dX6_isLetter_15 : decode cX6_isLetter 15 = .ok (.if_icmp .lt 13, 3) := by decide +kernel
theorem dX6_isLetter_18 : decode cX6_isLetter 18 = .ok (.iload_n 0, 1) := by decide +kernel
theorem dX6_isLetter_19 : decode cX6_isLetter 19 = .ok (.bipush 90, 2) := by decide +kernel
theorem dX6_isLetter_21 : decode cX6_isLetter 21 = .ok (.if_icmp .gt 7, 3) := by decide +kernel
theorem dX6_isLetter_24 : decode cX6_isLetter 24 = .ok (.iconst 1, 1) := by decide +kernel
theorem dX6_isLetter_25 : decode cX6_isLetter 25 = .ok (.goto 4, 3) := by decide +kernel
theorem dX6_isLetter_28 : decode cX6_isLetter 28 = .ok (.iconst 0, 1) := by decide +kernel
theorem dX6_isLetter_29 : decode cX6_isLetter 29 = .ok (.ireturn, 1) := by decide +kernel
theorem dX6_isDigit_0 : decode cX6_isDigit 0 = .ok (.iload_n 0, 1) := by decide +kernel
theorem dX6_isDigit_1 : decode cX6_isDigit 1 = .ok (.bipush 48, 2) := by decide +kernel
theorem dX6_isDigit_3 : decode cX6_isDigit 3 = .ok (.if_icmp .lt 13, 3) := by decide +kernel
theorem dX6_isDigit_6 : decode cX6_isDigit 6 = .ok (.iload_n 0, 1) := by decide +kernel
theorem dX6_isDigit_7 : decode cX6_isDigit 7 = .ok (.bipush 57, 2) := by decide +kernel
theorem dX6_isDigit_9 : decode cX6_isDigit 9 = .ok (.if_icmp .gt 7, 3) := by decide +kernel
theorem dX6_isDigit_12 : decode cX6_isDigit 12 = .ok (.iconst 1, 1) := by decide +kernel
theorem dX6_isDigit_13 : decode cX6_isDigit 13 = .ok (.goto 4, 3) := by decide +kernel
theorem dX6_isDigit_16 : decode cX6_isDigit 16 = .ok (.iconst 0, 1) := by decide +kernel
theorem dX6_isDigit_17 : decode cX6_isDigit 17 = .ok (.ireturn, 1) := by decide +kernel
theorem dX6_isSign_0 : decode cX6_isSign 0 = .ok (.ldc 164, 2) := by decide +kernel
theorem dX6_isSign_2 : decode cX6_isSign 2 = .ok (.iload_n 0, 1) := by decide +kernel
theorem dX6_isSign_3 : decode cX6_isSign 3 = .ok (.i2c, 1) := by decide +kernel
theorem dX6_isSign_4 : decode cX6_isSign 4 = .ok (.invokevirtual 166, 3) := by decide +kernel
theorem dX6_isSign_7 : decode cX6_isSign 7 = .ok (.ifCond .lt 7, 3) := by decide +kernel
theorem dX6_isSign_10 : decode cX6_isSign 10 = .ok (.iconst 1, 1) := by decide +kernel
theorem dX6_isSign_11 : decode cX6_isSign 11 = .ok (.goto 4, 3) := by decide +kernel
theorem dX6_isSign_14 : decode cX6_isSign 14 = .ok (.iconst 0, 1) := by decide +kernel
theorem dX6_isSign_15 : decode cX6_isSign 15 = .ok (.ireturn, 1) := by decide +kernel
theorem dX6_nameOf_0 : decode cX6_nameOf 0 = .ok (.iload_n 0, 1) := by decide +kernel
theorem dX6_nameOf_1 : decode cX6_nameOf 1 = .ok (.tableswitch 120 200 214 #[75, 78, 81, 84, 87, 90, 93, 96, 99, 102, 105, 108, 111, 114, 117], 75) := by decide +kernel
theorem dX6_nameOf_76 : decode cX6_nameOf 76 = .ok (.ldc 169, 2) := by decide +kernel
theorem dX6_nameOf_78 : decode cX6_nameOf 78 = .ok (.areturn, 1) := by decide +kernel
theorem dX6_nameOf_79 : decode cX6_nameOf 79 = .ok (.ldc 171, 2) := by decide +kernel
theorem dX6_nameOf_81 : decode cX6_nameOf 81 = .ok (.areturn, 1) := by decide +kernel
theorem dX6_nameOf_82 : decode cX6_nameOf 82 = .ok (.ldc 173, 2) := by decide +kernel
theorem dX6_nameOf_84 : decode cX6_nameOf 84 = .ok (.areturn, 1) := by decide +kernel
theorem dX6_nameOf_85 : decode cX6_nameOf 85 = .ok (.ldc 175, 2) := by decide +kernel
theorem dX6_nameOf_87 : decode cX6_nameOf 87 = .ok (.areturn, 1) := by decide +kernel
theorem dX6_nameOf_88 : decode cX6_nameOf 88 = .ok (.ldc 177, 2) := by decide +kernel
theorem dX6_nameOf_90 : decode cX6_nameOf 90 = .ok (.areturn, 1) := by decide +kernel
theorem dX6_nameOf_91 : decode cX6_nameOf 91 = .ok (.ldc 179, 2) := by decide +kernel
theorem dX6_nameOf_93 : decode cX6_nameOf 93 = .ok (.areturn, 1) := by decide +kernel
theorem dX6_nameOf_94 : decode cX6_nameOf 94 = .ok (.ldc 181, 2) := by decide +kernel
theorem dX6_nameOf_96 : decode cX6_nameOf 96 = .ok (.areturn, 1) := by decide +kernel
theorem dX6_nameOf_97 : decode cX6_nameOf 97 = .ok (.ldc 183, 2) := by decide +kernel
theorem dX6_nameOf_99 : decode cX6_nameOf 99 = .ok (.areturn, 1) := by decide +kernel
theorem dX6_nameOf_100 : decode cX6_nameOf 100 = .ok (.ldc 185, 2) := by decide +kernel
theorem dX6_nameOf_102 : decode cX6_nameOf 102 = .ok (.areturn, 1) := by decide +kernel
theorem dX6_nameOf_103 : decode cX6_nameOf 103 = .ok (.ldc 187, 2) := by decide +kernel
theorem dX6_nameOf_105 : decode cX6_nameOf 105 = .ok (.areturn, 1) := by decide +kernel
theorem dX6_nameOf_106 : decode cX6_nameOf 106 = .ok (.ldc 189, 2) := by decide +kernel
theorem dX6_nameOf_108 : decode cX6_nameOf 108 = .ok (.areturn, 1) := by decide +kernel
theorem dX6_nameOf_109 : decode cX6_nameOf 109 = .ok (.ldc 191, 2) := by decide +kernel
theorem dX6_nameOf_111 : decode cX6_nameOf 111 = .ok (.areturn, 1) := by decide +kernel
theorem dX6_nameOf_112 : decode cX6_nameOf 112 = .ok (.ldc 193, 2) := by decide +kernel
theorem dX6_nameOf_114 : decode cX6_nameOf 114 = .ok (.areturn, 1) := by decide +kernel
theorem dX6_nameOf_115 : decode cX6_nameOf 115 = .ok (.ldc 195, 2) := by decide +kernel
theorem dX6_nameOf_117 : decode cX6_nameOf 117 = .ok (.areturn, 1) := by decide +kernel
theorem dX6_nameOf_118 : decode cX6_nameOf 118 = .ok (.ldc 197, 2) := by decide +kernel
theorem dX6_nameOf_120 : decode cX6_nameOf 120 = .ok (.areturn, 1) := by decide +kernel
theorem dX6_nameOf_121 : decode cX6_nameOf 121 = .ok (.ldc 199, 2) := by decide +kernel
theorem dX6_nameOf_123 : decode cX6_nameOf 123 = .ok (.areturn, 1) := by decide +kernel
theorem dX7_init_0 : decode cX7_init 0 = .ok (.aload_n 0, 1) := by decide +kernel
theorem dX7_init_1 : decode cX7_init 1 = .ok (.invokespecial 3, 3) := by decide +kernel
theorem dX7_init_4 : decode cX7_init 4 = .ok (.aload_n 0, 1) := by decide +kernel
theorem dX7_init_5 : decode cX7_init 5 = .ok (.bipush 8, 2) := by decide +kernel
theorem dX7_init_7 : decode cX7_init 7 = .ok (.newarray .int, 2) := by decide +kernel
theorem dX7_init_9 : decode cX7_init 9 = .ok (.putfield 9, 3) := by decide +kernel
theorem dX7_init_12 : decode cX7_init 12 = .ok (.aload_n 0, 1) := by decide +kernel
theorem dX7_init_13 : decode cX7_init 13 = .ok (.bipush 8, 2) := by decide +kernel
theorem dX7_init_15 : decode cX7_init 15 = .ok (.newarray .int, 2) := by decide +kernel
theorem dX7_init_17 : decode cX7_init 17 = .ok (.putfield 15, 3) := by decide +kernel
theorem dX7_init_20 : decode cX7_init 20 = .ok (.return_, 1) := by decide +kernel
theorem dX7_arrange_0 : decode cX7_arrange 0 = .ok (.iconst 0, 1) := by decide +kernel
theorem dX7_arrange_1 : decode cX7_arrange 1 = .ok (.istore_n 2, 1) := by decide +kernel
theorem dX7_arrange_2 : decode cX7_arrange 2 = .ok (.iload_n 2, 1) := by decide +kernel
theorem dX7_arrange_3 : decode cX7_arrange 3 = .ok (.aload_n 1, 1) := by decide +kernel
theorem dX7_arrange_4 : decode cX7_arrange 4 = .ok (.getfield 18, 3) := by decide +kernel
theorem dX7_arrange_7 : decode cX7_arrange 7 = .ok (.if_icmp .ge 50, 3) := by decide +kernel
theorem dX7_arrange_10 : decode cX7_arrange 10 = .ok (.aload_n 0, 1) := by decide +kernel
theorem dX7_arrange_11 : decode cX7_arrange 11 = .ok (.getfield 15, 3) := by decide +kernel
theorem dX7_arrange_14 : decode cX7_arrange 14 = .ok (.iload_n 2, 1) := by decide +kernel
theorem dX7_arrange_15 : decode cX7_arrange 15 = .ok (.iconst 0, 1) := by decide +kernel
theorem dX7_arrange_16 : decode cX7_arrange 16 = .ok (.iastore, 1) := by decide +kernel
theorem dX7_arrange_17 : decode cX7_arrange 17 = .ok (.iconst 0, 1) := by decide +kernel
theorem dX7_arrange_18 : decode cX7_arrange 18 = .ok (.istore_n 3, 1) := by decide +kernel
theorem dX7_arrange_19 : decode cX7_arrange 19 = .ok (.iload_n 3, 1) := by decide +kernel
theorem dX7_arrange_20 : decode cX7_arrange 20 = .ok (.iload_n 2, 1) := by decide +kernel
theorem dX7_arrange_21 : decode cX7_arrange 21 = .ok (.if_icmp .ge 30, 3) := by decide +kernel
theorem dX7_arrange_24 : decode cX7_arrange 24 = .ok (.aload_n 1, 1) := by decide +kernel
theorem dX7_arrange_25 : decode cX7_arrange 25 = .ok (.iload_n 2, 1) := by decide +kernel
theorem dX7_arrange_26 : decode cX7_arrange 26 = .ok (.iload_n 3, 1) := by decide +kernel
theorem dX7_arrange_27 : decode cX7_arrange 27 = .ok (.invokestatic 24, 3) := by decide +kernel
theorem dX7_arrange_30 : decode cX7_arrange 30 = .ok (.ifCond .eq 15, 3) := by decide +kernel
theorem dX7_arrange_33 : decode cX7_arrange 33 = .ok (.aload_n 0, 1) := by decide +kernel
theorem dX7_arrange_34 : decode cX7_arrange 34 = .ok (.getfield 15, 3) := by decide +kernel
theorem dX7_arrange_37 : decode cX7_arrange 37 = .ok (.iload_n 2, 1) := by decide +kernel
theorem dX7_arrange_38 : decode cX7_arrange 38 = .ok (.dup2, 1) := by decide +kernel
theorem dX7_arrange_39 : decode cX7_arrange 39 = .ok (.iaload, 1) := by decide +kernel
theorem dX7_arrange_40 : decode cX7_arrange 40 = .ok (.iconst 1, 1) := by decide +kernel
theorem dX7_arrange_41 : decode cX7_arrange 41 = .ok (.iload_n 3, 1) := by decide +kernel
theorem dX7_arrange_42 : decode cX7_arrange 42 = .ok (.ishl, 1) := by decide +kernel
theorem dX7_arrange_43 : decode cX7_arrange 43 = .ok (.ior, 1) := by decide +kernel
theorem dX7_arrange_44 : decode cX7_arrange 44 = .ok (.iastore, 1) := by decide +kernel
theorem dX7_arrange_45 : decode cX7_arrange 45 = .ok (.iinc 3 1, 3) := by decide +kernel
theorem dX7_arrange_48 : decode cX7_arrange 48 = .ok (.goto (-29), 3) := by decide +kernel
theorem dX7_arrange_51 : decode cX7_arrange 51 = .ok (.iinc 2 1, 3) := by decide +kernel
theorem dX7_arrange_54 : decode cX7_arrange 54 = .ok (.goto (-52), 3) := by decide +kernel
theorem dX7_arrange_57 : decode cX7_arrange 57 = .ok (.iconst 0, 1) := by decide +kernel
theorem dX7_arrange_58 : decode cX7_arrange 58 = .ok (.istore_n 2, 1) := by decide +kernel
theorem dX7_arrange_59 : decode cX7_arrange 59 = .ok (.iload_n 2, 1) := by decide +kernel
theorem dX7_arrange_60 : decode cX7_arrange 60 = .ok (.aload_n 1, 1) := by decide +kernel
theorem dX7_arrange_61 : decode cX7_arrange 61 = .ok (.getfield 18, 3) := by decide +kernel
theorem dX7_arrange_64 : decode cX7_arrange 64 = .ok (.if_icmp .gt 25, 3) := by decide +kernel
theorem dX7_arrange_67 : decode cX7_arrange 67 = .ok (.aload_n 0, 1) := by decide +kernel
theorem dX7_arrange_68 : decode cX7_arrange 68 = .ok (.iconst 0, 1) := by decide +kernel
theorem dX7_arrange_69 : decode cX7_arrange 69 = .ok (.aload_n 1, 1) := by decide +kernel
theorem dX7_arrange_70 : decode cX7_arrange 70 = .ok (.getfield 18, 3) := by decide +kernel
theorem dX7_arrange_73 : decode cX7_arrange 73 = .ok (.iconst 0, 1) := by decide +kernel
theorem dX7_arrange_74 : decode cX7_arrange 74 = .ok (.iload_n 2, 1) := by decide +kernel
theorem dX7_arrange_75 : decode cX7_arrange 75 = .ok (.invokevirtual 28, 3) := by decide +kernel
theorem dX7_arrange_78 : decode cX7_arrange 78 = .ok (.ifCond .eq 5, 3) := by decide +kernel
theorem dX7_arrange_81 : decode cX7_arrange 81 = .ok (.iload_n 2, 1) := by decide +kernel
theorem dX7_arrange_82 : decode cX7_arrange 82 = .ok (.ireturn, 1) := by decide +kernel
theorem dX7_arrange_83 : decode cX7_arrange 83 = .ok (.iinc 2 1, 3) := by decide +kernel
theorem dX7_arrange_86 : decode cX7_arrange 86 = .ok (.goto (-27), 3) := by decide +kernel
theorem dX7_arrange_89 : decode cX7_arrange 89 = .ok (.iconst (-1), 1) := by decide +kernel
theorem dX7_arrange_90 : decode cX7_arrange 90 = .ok (.ireturn, 1) := by decide +kernel
theorem dX7_clash_0 : decode cX7_clash 0 = .ok (.aload_n 0, 1) := by decide +kernel
theorem dX7_clash_1 : decode cX7_clash 1 = .ok (.getfield 32, 3) := by decide +kernel
theorem dX7_clash_4 : decode cX7_clash 4 = .ok (.iload_n 1, 1) := by decide +kernel
theorem dX7_clash_5 : decode cX7_clash 5 = .ok (.iaload, 1) := by decide +kernel
theorem dX7_clash_6 : decode cX7_clash 6 = .ok (.istore_n 3, 1) := by decide +kernel
theorem dX7_clash_7 : decode cX7_clash 7 = .ok (.aload_n 0, 1) := by decide +kernel
theorem dX7_clash_8 : decode cX7_clash 8 = .ok (.getfield 35, 3) := by decide +kernel
theorem dX7_clash_11 : decode cX7_clash 11 = .ok (.iload_n 1, 1) := by decide +kernel
theorem dX7_clash_12 : decode cX7_clash 12 = .ok (.iaload, 1) := by decide +kernel
theorem dX7_clash_13 : decode cX7_clash 13 = .ok (.istore 4, 2) := by decide +kernel
theorem dX7_clash_15 : decode cX7_clash 15 = .ok (.aload_n 0, 1) := by decide +kernel
theorem dX7_clash_16 : decode cX7_clash 16 = .ok (.getfield 32, 3) := by decide +kernel
theorem dX7_clash_19 : decode cX7_clash 19 = .ok (.iload_n 2, 1) := by decide +kernel
theorem dX7_clash_20 : decode cX7_clash 20 = .ok (.iaload, 1) := by decide +kernel
theorem dX7_clash_21 : decode cX7_clash 21 = .ok (.istore 5, 2) := by decide +kernel
theorem dX7_clash_23 : decode cX7_clash 23 = .ok (.aload_n 0, 1) := by decide +kernel
theorem dX7_clash_24 : decode cX7_clash 24 = .ok (.getfield 35, 3) := by decide +kernel
theorem dX7_clash_27 : decode cX7_clash 27 = .ok (.iload_n 2, 1) := by decide +kernel
theorem dX7_clash_28 : decode cX7_clash 28 = .ok (.iaload, 1) := by decide +kernel
theorem dX7_clash_29 : decode cX7_clash 29 = .ok (.istore 6, 2) := by decide +kernel
theorem dX7_clash_31 : decode cX7_clash 31 = .ok (.iload_n 3, 1) := by decide +kernel
theorem dX7_clash_32 : decode cX7_clash 32 = .ok (.iload 5, 2) := by decide +kernel
theorem dX7_clash_34 : decode cX7_clash 34 = .ok (.if_icmp .eq 23, 3) := by decide +kernel
theorem dX7_clash_37 : decode cX7_clash 37 = .ok (.iload_n 3, 1) := by decide +kernel
theorem dX7_clash_38 : decode cX7_clash 38 = .ok (.iload 6, 2) := by decide +kernel
theorem dX7_clash_40 : decode cX7_clash 40 = .ok (.if_icmp .eq 17, 3) := by decide +kernel
theorem dX7_clash_43 : decode cX7_clash 43 = .ok (.iload 4, 2) := by decide +kernel
theorem dX7_clash_45 : decode cX7_clash 45 = .ok (.iload 5, 2) := by decide +kernel
theorem dX7_clash_47 : decode cX7_clash 47 = .ok (.if_icmp .eq 10, 3) := by decide +kernel
theorem dX7_clash_50 : decode cX7_clash 50 = .ok (.iload 4, 2) := by decide +kernel
theorem dX7_clash_52 : decode cX7_clash 52 = .ok (.iload 6, 2) := by decide +kernel
theorem dX7_clash_54 : decode cX7_clash 54 = .ok (.if_icmp .ne 5, 3) := by decide +kernel
theorem dX7_clash_57 : decode cX7_clash 57 = .ok (.iconst 1, 1) := by decide +kernel
theorem dX7_clash_58 : decode cX7_clash 58 = .ok (.ireturn, 1) := by decide +kernel
theorem dX7_clash_59 : decode cX7_clash 59 = .ok (.aload_n 0, 1) := by decide +kernel
theorem dX7_clash_60 : decode cX7_clash 60 = .ok (.iload_n 3, 1) := by decide +kernel
theorem dX7_clash_61 : decode cX7_clash 61 = .ok (.invokevirtual 38, 3) := by decide +kernel
theorem dX7_clash_64 : decode cX7_clash 64 = .ok (.ifCond .eq 52, 3) := by decide +kernel
theorem dX7_clash_67 : decode cX7_clash 67 = .ok (.aload_n 0, 1) := by decide +kernel
theorem dX7_clash_68 : decode cX7_clash 68 = .ok (.iload 4, 2) := by decide +kernel
theorem dX7_clash_70 : decode cX7_clash 70 = .ok (.invokevirtual 38, 3) := by decide +kernel
theorem dX7_clash_73 : decode cX7_clash 73 = .ok (.ifCond .eq 43, 3) := by decide +kernel
theorem dX7_clash_76 : decode cX7_clash 76 = .ok (.aload_n 0, 1) := by decide +kernel
theorem dX7_clash_77 : decode cX7_clash 77 = .ok (.iload 5, 2) := by decide +kernel
theorem dX7_clash_79 : decode cX7_clash 79 = .ok (.invokevirtual 38, 3) := by decide +kernel
theorem dX7_clash_82 : decode cX7_clash 82 = .ok (.ifCond .eq 34, 3) := by decide +kernel
theorem dX7_clash_85 : decode cX7_clash 85 = .ok (.aload_n 0, 1) := by decide +kernel
theorem dX7_clash_86 : decode cX7_clash 86 = .ok (.iload 6, 2) := by decide +kernel
theorem dX7_clash_88 : decode cX7_clash 88 = .ok (.invokevirtual 38, 3) := by decide +kernel
theorem dX7_clash_91 : decode cX7_clash 91 = .ok (.ifCond .eq 25, 3) := by decide +kernel
theorem dX7_clash_94 : decode cX7_clash 94 = .ok (.aload_n 0, 1) := by decide +kernel
theorem dX7_clash_95 : decode cX7_clash 95 = .ok (.iload_n 3, 1) := by decide +kernel
theorem dX7_clash_96 : decode cX7_clash 96 = .ok (.iload 4, 2) := by decide +kernel
theorem dX7_clash_98 : decode cX7_clash 98 = .ok (.invokevirtual 42, 3) := by decide +kernel
theorem dX7_clash_101 : decode cX7_clash 101 = .ok (.aload_n 0, 1) := by decide +kernel
theorem dX7_clash_102 : decode cX7_clash 102 = .ok (.iload 5, 2) := by decide +kernel
theorem dX7_clash_104 : decode cX7_clash 104 = .ok (.iload 6, 2) := by decide +kernel
theorem dX7_clash_106 : decode cX7_clash 106 = .ok (.invokevirtual 42, 3) := by decide +kernel
theorem dX7_clash_109 : decode cX7_clash 109 = .ok (.if_icmp .ne 7, 3) := by decide +kernel
theorem dX7_clash_112 : decode cX7_clash 112 = .ok (.iconst 1, 1) := by decide +kernel
theorem dX7_clash_113 : decode cX7_clash 113 = .ok (.goto 4, 3) := by decide +kernel
theorem dX7_clash_116 : decode cX7_clash 116 = .ok (.iconst 0, 1) := by decide +kernel
theorem dX7_clash_117 : decode cX7_clash 117 = .ok (.ireturn, 1) := by decide +kernel
theorem dX7_place_0 : decode cX7_place 0 = .ok (.iload_n 1, 1) := by decide +kernel
theorem dX7_place_1 : decode cX7_place 1 = .ok (.iload_n 2, 1) := by decide +kernel
theorem dX7_place_2 : decode cX7_place 2 = .ok (.if_icmp .ge 9, 3) := by decide +kernel
theorem dX7_place_5 : decode cX7_place 5 = .ok (.iload_n 1, 1) := by decide +kernel
theorem dX7_place_6 : decode cX7_place 6 = .ok (.bipush 8, 2) := by decide +kernel
theorem dX7_place_8 : decode cX7_place 8 = .ok (.if_icmp .lt 5, 3) := by decide +kernel
theorem dX7_place_11 : decode cX7_place 11 = .ok (.iconst 1, 1) := by decide +kernel
theorem dX7_place_12 : decode cX7_place 12 = .ok (.ireturn, 1) := by decide +kernel
theorem dX7_place_13 : decode cX7_place 13 = .ok (.iconst 1, 1) := by decide +kernel
theorem dX7_place_14 : decode cX7_place 14 = .ok (.istore 5, 2) := by decide +kernel
theorem dX7_place_16 : decode cX7_place 16 = .ok (.iload 5, 2) := by decide +kernel
theorem dX7_place_18 : decode cX7_place 18 = .ok (.iload 4, 2) := by decide +kernel
theorem dX7_place_20 : decode cX7_place 20 = .ok (.if_icmp .gt 56, 3) := by decide +kernel
theorem dX7_place_23 : decode cX7_place 23 = .ok (.iload 5, 2) := by decide +kernel
theorem dX7_place_25 : decode cX7_place 25 = .ok (.iload_n 3, 1) := by decide +kernel
theorem dX7_place_26 : decode cX7_place 26 = .ok (.iconst 1, 1) := by decide +kernel
theorem dX7_place_27 : decode cX7_place 27 = .ok (.iadd, 1) := by decide +kernel
theorem dX7_place_28 : decode cX7_place 28 = .ok (.if_icmp .gt 48, 3) := by decide +kernel
theorem dX7_place_31 : decode cX7_place 31 = .ok (.aload_n 0, 1) := by decide +kernel
theorem dX7_place_32 : decode cX7_place 32 = .ok (.iload_n 1, 1) := by decide +kernel
theorem dX7_place_33 : decode cX7_place 33 = .ok (.iload 5, 2) := by decide +kernel
theorem dX7_place_35 : decode cX7_place 35 = .ok (.invokevirtual 46, 3) := by decide +kernel
theorem dX7_place_38 : decode cX7_place 38 = .ok (.ifCond .eq 32, 3) := by decide +kernel
theorem dX7_place_41 : decode cX7_place 41 = .ok (.aload_n 0, 1) := by decide +kernel
theorem dX7_place_42 : decode cX7_place 42 = .ok (.getfield 9, 3) := by decide +kernel
theorem dX7_place_45 : decode cX7_place 45 = .ok (.iload_n 1, 1) := by decide +kernel
theorem dX7_place_46 : decode cX7_place 46 = .ok (.iload 5, 2) := by decide +kernel
theorem dX7_place_48 : decode cX7_place 48 = .ok (.iastore, 1) := by decide +kernel
theorem dX7_place_49 : decode cX7_place 49 = .ok (.aload_n 0, 1) := by decide +kernel
theorem dX7_place_50 : decode cX7_place 50 = .ok (.iload_n 1, 1) := by decide +kernel
theorem dX7_place_51 : decode cX7_place 51 = .ok (.iconst 1, 1) := by decide +kernel
theorem dX7_place_52 : decode cX7_place 52 = .ok (.iadd, 1) := by decide +kernel
theorem dX7_place_53 : decode cX7_place 53 = .ok (.iload_n 2, 1) := by decide +kernel
theorem dX7_place_54 : decode cX7_place 54 = .ok (.iload_n 3, 1) := by decide +kernel
theorem dX7_place_55 : decode cX7_place 55 = .ok (.iload 5, 2) := by decide +kernel
theorem dX7_place_57 : decode cX7_place 57 = .ok (.invokestatic 50, 3) := by decide +kernel
theorem dX7_place_60 : decode cX7_place 60 = .ok (.iload 4, 2) := by decide +kernel
theorem dX7_place_62 : decode cX7_place 62 = .ok (.invokevirtual 28, 3) := by decide +kernel
theorem dX7_place_65 : decode cX7_place 65 = .ok (.ifCond .eq 5, 3) := by decide +kernel
theorem dX7_place_68 : decode cX7_place 68 = .ok (.iconst 1, 1) := by decide +kernel
theorem dX7_place_69 : decode cX7_place 69 = .ok (.ireturn, 1) := by decide +kernel
theorem dX7_place_70 : decode cX7_place 70 = .ok (.iinc 5 1, 3) := by decide +kernel
theorem dX7_place_73 : decode cX7_place 73 = .ok (.goto (-57), 3) := by decide +kernel
theorem dX7_place_76 : decode cX7_place 76 = .ok (.iconst 0, 1) := by decide +kernel
theorem dX7_place_77 : decode cX7_place 77 = .ok (.ireturn, 1) := by decide +kernel
theorem dX7_isFree_0 : decode cX7_isFree 0 = .ok (.iconst 0, 1) := by decide +kernel
theorem dX7_isFree_1 : decode cX7_isFree 1 = .ok (.istore_n 3, 1) := by decide +kernel
theorem dX7_isFree_2 : decode cX7_isFree 2 = .ok (.iload_n 3, 1) := by decide +kernel
theorem dX7_isFree_3 : decode cX7_isFree 3 = .ok (.iload_n 1, 1) := by decide +kernel
theorem dX7_isFree_4 : decode cX7_isFree 4 = .ok (.if_icmp .ge 35, 3) := by decide +kernel
theorem dX7_isFree_7 : decode cX7_isFree 7 = .ok (.aload_n 0, 1) := by decide +kernel
theorem dX7_isFree_8 : decode cX7_isFree 8 = .ok (.getfield 15, 3) := by decide +kernel
theorem dX7_isFree_11 : decode cX7_isFree 11 = .ok (.iload_n 1, 1) := by decide +kernel
theorem dX7_isFree_12 : decode cX7_isFree 12 = .ok (.iaload, 1) := by decide +kernel
theorem dX7_isFree_13 : decode cX7_isFree 13 = .ok (.iload_n 3, 1) := by decide +kernel
theorem dX7_isFree_14 : decode cX7_isFree 14 = .ok (.ishr, 1) := by decide +kernel
theorem dX7_isFree_15 : decode cX7_isFree 15 = .ok (.iconst 1, 1) := by decide +kernel
theorem dX7_isFree_16 : decode cX7_isFree 16 = .ok (.iand, 1) := by decide +kernel
theorem dX7_isFree_17 : decode cX7_isFree 17 = .ok (.iconst 1, 1) := by decide +kernel
theorem dX7_isFree_18 : decode cX7_isFree 18 = .ok (.if_icmp .ne 15, 3) := by decide +kernel
theorem dX7_isFree_21 : decode cX7_isFree 21 = .ok (.aload_n 0, 1) := by decide +kernel
theorem dX7_isFree_22 : decode cX7_isFree 22 = .ok (.getfield 9, 3) := by decide +kernel
theorem dX7_isFree_25 : decode cX7_isFree 25 = .ok (.iload_n 3, 1) := by decide +kernel
theorem dX7_isFree_26 : decode cX7_isFree 26 = .ok (.iaload, 1) := by decide +kernel
theorem dX7_isFree_27 : decode cX7_isFree 27 = .ok (.iload_n 2, 1) := by decide +kernel
theorem dX7_isFree_28 : decode cX7_isFree 28 = .ok (.if_icmp .ne 5, 3) := by decide +kernel
theorem dX7_isFree_31 : decode cX7_isFree 31 = .ok (.iconst 0, 1) := by decide +kernel
theorem dX7_isFree_32 : decode cX7_isFree 32 = .ok (.ireturn, 1) := by decide +kernel
theorem dX7_isFree_33 : decode cX7_isFree 33 = .ok (.iinc 3 1, 3) := by decide +kernel
theorem dX7_isFree_36 : decode cX7_isFree 36 = .ok (.goto (-34), 3) := by decide +kernel
theorem dX7_isFree_39 : decode cX7_isFree 39 = .ok (.iconst 1, 1) := by decide +kernel
theorem dX7_isFree_40 : decode cX7_isFree 40 = .ok (.ireturn, 1) := by decide +kernel
theorem dX8_init_0 : decode cX8_init 0 = .ok (.aload_n 0, 1) := by decide +kernel
theorem dX8_init_1 : decode cX8_init 1 = .ok (.invokespecial 3, 3) := by decide +kernel
theorem dX8_init_4 : decode cX8_init 4 = .ok (.aload_n 0, 1) := by decide +kernel
theorem dX8_init_5 : decode cX8_init 5 = .ok (.bipush 10, 2) := by decide +kernel
theorem dX8_init_7 : decode cX8_init 7 = .ok (.newarray .int, 2) := by decide +kernel
theorem dX8_init_9 : decode cX8_init 9 = .ok (.putfield 9, 3) := by decide +kernel
theorem dX8_init_12 : decode cX8_init 12 = .ok (.aload_n 0, 1) := by decide +kernel
theorem dX8_init_13 : decode cX8_init 13 = .ok (.bipush 10, 2) := by decide +kernel
theorem dX8_init_15 : decode cX8_init 15 = .ok (.newarray .int, 2) := by decide +kernel
theorem dX8_init_17 : decode cX8_init 17 = .ok (.putfield 15, 3) := by decide +kernel
theorem dX8_init_20 : decode cX8_init 20 = .ok (.aload_n 0, 1) := by decide +kernel
theorem dX8_init_21 : decode cX8_init 21 = .ok (.getfield 9, 3) := by decide +kernel
theorem dX8_init_24 : decode cX8_init 24 = .ok (.iconst (-1), 1) := by decide +kernel
theorem dX8_init_25 : decode cX8_init 25 = .ok (.invokestatic 18, 3) := by decide +kernel
theorem dX8_init_28 : decode cX8_init 28 = .ok (.aload_n 0, 1) := by decide +kernel
theorem dX8_init_29 : decode cX8_init 29 = .ok (.getfield 15, 3) := by decide +kernel
theorem dX8_init_32 : decode cX8_init 32 = .ok (.iconst 5, 1) := by decide +kernel
theorem dX8_init_33 : decode cX8_init 33 = .ok (.invokestatic 18, 3) := by decide +kernel
theorem dX8_init_36 : decode cX8_init 36 = .ok (.aload_n 0, 1) := by decide +kernel
theorem dX8_init_37 : decode cX8_init 37 = .ok (.bipush 48, 2) := by decide +kernel
theorem dX8_init_39 : decode cX8_init 39 = .ok (.newarray .int, 2) := by decide +kernel
theorem dX8_init_41 : decode cX8_init 41 = .ok (.putfield 24, 3) := by decide +kernel
theorem dX8_init_44 : decode cX8_init 44 = .ok (.aload_n 0, 1) := by decide +kernel
theorem dX8_init_45 : decode cX8_init 45 = .ok (.iconst 4, 1) := by decide +kernel
theorem dX8_init_46 : decode cX8_init 46 = .ok (.newarray .int, 2) := by decide +kernel
theorem dX8_init_48 : decode cX8_init 48 = .ok (.putfield 27, 3) := by decide +kernel
theorem dX8_init_51 : decode cX8_init 51 = .ok (.aload_n 0, 1) := by decide +kernel
theorem dX8_init_52 : decode cX8_init 52 = .ok (.bipush 8, 2) := by decide +kernel
theorem dX8_init_54 : decode cX8_init 54 = .ok (.newarray .int, 2) := by decide +kernel
theorem dX8_init_56 : decode cX8_init 56 = .ok (.putfield 30, 3) := by decide +kernel
theorem dX8_init_59 : decode cX8_init 59 = .ok (.aload_n 0, 1) := by decide +kernel
theorem dX8_init_60 : decode cX8_init 60 = .ok (.bipush 8, 2) := by decide +kernel
theorem dX8_init_62 : decode cX8_init 62 = .ok (.newarray .int, 2) := by decide +kernel
theorem dX8_init_64 : decode cX8_init 64 = .ok (.putfield 33, 3) := by decide +kernel
theorem dX8_init_67 : decode cX8_init 67 = .ok (.aload_n 0, 1) := by decide +kernel
theorem dX8_init_68 : decode cX8_init 68 = .ok (.bipush 15, 2) := by decide +kernel
theorem dX8_init_70 : decode cX8_init 70 = .ok (.newarray .int, 2) := by decide +kernel
theorem dX8_init_72 : decode cX8_init 72 = .ok (.putfield 36, 3) := by decide +kernel
theorem dX8_init_75 : decode cX8_init 75 = .ok (.aload_n 0, 1) := by decide +kernel
theorem dX8_init_76 : decode cX8_init 76 = .ok (.new 39, 3) := by decide +kernel
theorem dX8_init_79 : decode cX8_init 79 = .ok (.dup, 1) := by decide +kernel
theorem dX8_init_80 : decode cX8_init 80 = .ok (.invokespecial 41, 3) := by decide +kernel
theorem dX8_init_83 : decode cX8_init 83 = .ok (.putfield 42, 3) := by decide +kernel
theorem dX8_init_86 : decode cX8_init 86 = .ok (.aload_n 0, 1) := by decide +kernel
theorem dX8_init_87 : decode cX8_init 87 = .ok (.new 46, 3) := by decide +kernel
theorem dX8_init_90 : decode cX8_init 90 = .ok (.dup, 1) := by decide +kernel
theorem dX8_init_91 : decode cX8_init 91 = .ok (.invokespecial 48, 3) := by decide +kernel
theorem dX8_init_94 : decode cX8_init 94 = .ok (.putfield 49, 3) := by decide +kernel
theorem dX8_init_97 : decode cX8_init 97 = .ok (.return_, 1) := by decide +kernel
theorem dX8_copyFrom_0 : decode cX8_copyFrom 0 = .ok (.aload_n 0, 1) := by decide +kernel
theorem dX8_copyFrom_1 : decode cX8_copyFrom 1 = .ok (.aload_n 1, 1) := by decide +kernel
theorem dX8_copyFrom_2 : decode cX8_copyFrom 2 = .ok (.getfield 53, 3) := by decide +kernel
theorem dX8_copyFrom_5 : decode cX8_copyFrom 5 = .ok (.putfield 53, 3) := by decide +kernel
theorem dX8_copyFrom_8 : decode cX8_copyFrom 8 = .ok (.aload_n 0, 1) := by decide +kernel
theorem dX8_copyFrom_9 : decode cX8_copyFrom 9 = .ok (.aload_n 1, 1) := by decide +kernel
theorem dX8_copyFrom_10 : decode cX8_copyFrom 10 = .ok (.getfield 57, 3) := by decide +kernel
theorem dX8_copyFrom_13 : decode cX8_copyFrom 13 = .ok (.putfield 57, 3) := by decide +kernel
theorem dX8_copyFrom_16 : decode cX8_copyFrom 16 = .ok (.aload_n 1, 1) := by decide +kernel
theorem dX8_copyFrom_17 : decode cX8_copyFrom 17 = .ok (.getfield 9, 3) := by decide +kernel
theorem dX8_copyFrom_20 : decode cX8_copyFrom 20 = .ok (.iconst 0, 1) := by decide +kernel
theorem dX8_copyFrom_21 : decode cX8_copyFrom 21 = .ok (.aload_n 0, 1) := by decide +kernel
theorem dX8_copyFrom_22 : decode cX8_copyFrom 22 = .ok (.getfield 9, 3) := by decide +kernel
theorem dX8_copyFrom_25 : decode cX8_copyFrom 25 = .ok (.iconst 0, 1) := by decide +kernel
theorem dX8_copyFrom_26 : decode cX8_copyFrom 26 = .ok (.bipush 10, 2) := by decide +kernel
theorem dX8_copyFrom_28 : decode cX8_copyFrom 28 = .ok (.invokestatic 60, 3) := by decide +kernel
theorem dX8_copyFrom_31 : decode cX8_copyFrom 31 = .ok (.aload_n 1, 1) := by decide +kernel
theorem dX8_copyFrom_32 : decode cX8_copyFrom 32 = .ok (.getfield 15, 3) := by decide +kernel
theorem dX8_copyFrom_35 : decode cX8_copyFrom 35 = .ok (.iconst 0, 1) := by decide +kernel
theorem dX8_copyFrom_36 : decode cX8_copyFrom 36 = .ok (.aload_n 0, 1) := by decide +kernel
theorem dX8_copyFrom_37 : decode cX8_copyFrom 37 = .ok (.getfield 15, 3) := by decide +kernel
theorem dX8_copyFrom_40 : decode cX8_copyFrom 40 = .ok (.iconst 0, 1) := by decide +kernel
theorem dX8_copyFrom_41 : decode cX8_copyFrom 41 = .ok (.bipush 10, 2) := by decide +kernel
theorem dX8_copyFrom_43 : decode cX8_copyFrom 43 = .ok (.invokestatic 60, 3) := by decide +kernel
theorem dX8_copyFrom_46 : decode cX8_copyFrom 46 = .ok (.aload_n 0, 1) := by decide +kernel
theorem dX8_copyFrom_47 : decode cX8_copyFrom 47 = .ok (.aload_n 1, 1) := by decide +kernel
theorem dX8_copyFrom_48 : decode cX8_copyFrom 48 = .ok (.getfield 66, 3) := by decide +kernel
theorem dX8_copyFrom_51 : decode cX8_copyFrom 51 = .ok (.putfield 66, 3) := by decide +kernel
theorem dX8_copyFrom_54 : decode cX8_copyFrom 54 = .ok (.aload_n 0, 1) := by decide +kernel
theorem dX8_copyFrom_55 : decode cX8_copyFrom 55 = .ok (.aload_n 1, 1) := by decide +kernel
theorem dX8_copyFrom_56 : decode cX8_copyFrom 56 = .ok (.getfield 69, 3) := by decide +kernel
theorem dX8_copyFrom_59 : decode cX8_copyFrom 59 = .ok (.putfield 69, 3) := by decide +kernel
theorem dX8_copyFrom_62 : decode cX8_copyFrom 62 = .ok (.aload_n 0, 1) := by decide +kernel
theorem dX8_copyFrom_63 : decode cX8_copyFrom 63 = .ok (.aload_n 1, 1) := by decide +kernel
theorem dX8_copyFrom_64 : decode cX8_copyFrom 64 = .ok (.getfield 72, 3) := by decide +kernel
theorem dX8_copyFrom_67 : decode cX8_copyFrom 67 = .ok (.putfield 72, 3) := by decide +kernel
theorem dX8_copyFrom_70 : decode cX8_copyFrom 70 = .ok (.aload_n 1, 1) := by decide +kernel
theorem dX8_copyFrom_71 : decode cX8_copyFrom 71 = .ok (.getfield 24, 3) := by decide +kernel
theorem dX8_copyFrom_74 : decode cX8_copyFrom 74 = .ok (.iconst 0, 1) := by decide +kernel
theorem dX8_copyFrom_75 : decode cX8_copyFrom 75 = .ok (.aload_n 0, 1) := by decide +kernel
theorem dX8_copyFrom_76 : decode cX8_copyFrom 76 = .ok (.getfield 24, 3) := by decide +kernel
theorem dX8_copyFrom_79 : decode cX8_copyFrom 79 = .ok (.iconst 0, 1) := by decide +kernel
theorem dX8_copyFrom_80 : decode cX8_copyFrom 80 = .ok (.bipush 48, 2) := by decide +kernel
theorem dX8_copyFrom_82 : decode cX8_copyFrom 82 = .ok (.invokestatic 60, 3) := by decide +kernel
theorem dX8_copyFrom_85 : decode cX8_copyFrom 85 = .ok (.aload_n 1, 1) := by decide +kernel
theorem dX8_copyFrom_86 : decode cX8_copyFrom 86 = .ok (.getfield 27, 3) := by decide +kernel
theorem dX8_copyFrom_89 : decode cX8_copyFrom 89 = .ok (.iconst 0, 1) := by decide +kernel
theorem dX8_copyFrom_90 : decode cX8_copyFrom 90 = .ok (.aload_n 0, 1) := by decide +kernel
theorem dX8_copyFrom_91 : decode cX8_copyFrom 91 = .ok (.getfield 27, 3) := by decide +kernel
theorem dX8_copyFrom_94 : decode cX8_copyFrom 94 = .ok (.iconst 0, 1) := by decide +kernel
theorem dX8_copyFrom_95 : decode cX8_copyFrom 95 = .ok (.iconst 4, 1) := by decide +kernel
theorem dX8_copyFrom_96 : decode cX8_copyFrom 96 = .ok (.invokestatic 60, 3) := by decide +kernel
theorem dX8_copyFrom_99 : decode cX8_copyFrom 99 = .ok (.aload_n 0, 1) := by decide +kernel
theorem dX8_copyFrom_100 : decode cX8_copyFrom 100 = .ok (.aload_n 1, 1) := by decide +kernel
theorem dX8_copyFrom_101 : decode cX8_copyFrom 101 = .ok (.getfield 75, 3) := by decide +kernel
theorem dX8_copyFrom_104 : decode cX8_copyFrom 104 = .ok (.putfield 75, 3) := by decide +kernel
theorem dX8_copyFrom_107 : decode cX8_copyFrom 107 = .ok (.aload_n 1, 1) := by decide +kernel
theorem dX8_copyFrom_108 : decode cX8_copyFrom 108 = .ok (.getfield 30, 3) := by decide +kernel
theorem dX8_copyFrom_111 : decode cX8_copyFrom 111 = .ok (.iconst 0, 1) := by decide +kernel
theorem dX8_copyFrom_112 : decode cX8_copyFrom 112 = .ok (.aload_n 0, 1) := by decide +kernel
theorem dX8_copyFrom_113 : decode cX8_copyFrom 113 = .ok (.getfield 30, 3) := by decide +kernel
theorem dX8_copyFrom_116 : decode cX8_copyFrom 116 = .ok (.iconst 0, 1) := by decide +kernel
theorem dX8_copyFrom_117 : decode cX8_copyFrom 117 = .ok (.bipush 8, 2) := by decide +kernel
theorem dX8_copyFrom_119 : decode cX8_copyFrom 119 = .ok (.invokestatic 60, 3) := by decide +kernel
theorem dX8_copyFrom_122 : decode cX8_copyFrom 122 = .ok (.aload_n 1, 1) := by decide +kernel
theorem dX8_copyFrom_123 : decode cX8_copyFrom 123 = .ok (.getfield 33, 3) := by decide +kernel
theorem dX8_copyFrom_126 : decode cX8_copyFrom 126 = .ok (.iconst 0, 1) := by decide +kernel
theorem dX8_copyFrom_127 : decode cX8_copyFrom 127 = .ok (.aload_n 0, 1) := by decide +kernel
theorem dX8_copyFrom_128 : decode cX8_copyFrom 128 = .ok (.getfield 33, 3) := by decide +kernel
theorem dX8_copyFrom_131 : decode cX8_copyFrom 131 = .ok (.iconst 0, 1) := by decide +kernel
theorem dX8_copyFrom_132 : decode cX8_copyFrom 132 = .ok (.bipush 8, 2) := by decide +kernel
theorem dX8_copyFrom_134 : decode cX8_copyFrom 134 = .ok (.invokestatic 60, 3) := by decide +kernel
theorem dX8_copyFrom_137 : decode cX8_copyFrom 137 = .ok (.aload_n 0, 1) := by decide +kernel
theorem dX8_copyFrom_138 : decode cX8_copyFrom 138 = .ok (.aload_n 1, 1) := by decide +kernel
theorem dX8_copyFrom_139 : decode cX8_copyFrom 139 = .ok (.getfield 78, 3) := by decide +kernel
theorem dX8_copyFrom_142 : decode cX8_copyFrom 142 = .ok (.putfield 78, 3) := by decide +kernel
theorem dX8_copyFrom_145 : decode cX8_copyFrom 145 = .ok (.aload_n 1, 1) := by decide +kernel
theorem dX8_copyFrom_146 : decode cX8_copyFrom 146 = .ok (.getfield 36, 3) := by decide +kernel
theorem dX8_copyFrom_149 : decode cX8_copyFrom 149 = .ok (.iconst 0, 1) := by decide +kernel
theorem dX8_copyFrom_150 : decode cX8_copyFrom 150 = .ok (.aload_n 0, 1) := by decide +kernel
theorem dX8_copyFrom_151 : decode cX8_copyFrom 151 = .ok (.getfield 36, 3) := by decide +kernel
theorem dX8_copyFrom_154 : decode cX8_copyFrom 154 = .ok (.iconst 0, 1) := by decide +kernel
theorem dX8_copyFrom_155 : decode cX8_copyFrom 155 = .ok (.bipush 15, 2) := by decide +kernel
theorem dX8_copyFrom_157 : decode cX8_copyFrom 157 = .ok (.invokestatic 60, 3) := by decide +kernel
theorem dX8_copyFrom_160 : decode cX8_copyFrom 160 = .ok (.aload_n 0, 1) := by decide +kernel
theorem dX8_copyFrom_161 : decode cX8_copyFrom 161 = .ok (.getfield 42, 3) := by decide +kernel
theorem dX8_copyFrom_164 : decode cX8_copyFrom 164 = .ok (.aload_n 1, 1) := by decide +kernel
theorem dX8_copyFrom_165 : decode cX8_copyFrom 165 = .ok (.getfield 42, 3) := by decide +kernel
theorem dX8_copyFrom_168 : decode cX8_copyFrom 168 = .ok (.invokevirtual 81, 3) := by decide +kernel
theorem dX8_copyFrom_171 : decode cX8_copyFrom 171 = .ok (.aload_n 0, 1) := by decide +kernel
theorem dX8_copyFrom_172 : decode cX8_copyFrom 172 = .ok (.getfield 49, 3) := by decide +kernel
theorem dX8_copyFrom_175 : decode cX8_copyFrom 175 = .ok (.aload_n 1, 1) := by decide +kernel
theorem dX8_copyFrom_176 : decode cX8_copyFrom 176 = .ok (.getfield 49, 3) := by decide +kernel
theorem dX8_copyFrom_179 : decode cX8_copyFrom 179 = .ok (.invokevirtual 85, 3) := by decide +kernel
theorem dX8_copyFrom_182 : decode cX8_copyFrom 182 = .ok (.return_, 1) := by decide +kernel
theorem dX8_isPerson_0 : decode cX8_isPerson 0 = .ok (.iload_n 1, 1) := by decide +kernel
theorem dX8_isPerson_1 : decode cX8_isPerson 1 = .ok (.ifCond .lt 21, 3) := by decide +kernel
theorem dX8_isPerson_4 : decode cX8_isPerson 4 = .ok (.iload_n 1, 1) := by decide +kernel
theorem dX8_isPerson_5 : decode cX8_isPerson 5 = .ok (.aload_n 0, 1) := by decide +kernel
theorem dX8_isPerson_6 : decode cX8_isPerson 6 = .ok (.getfield 57, 3) := by decide +kernel
theorem dX8_isPerson_9 : decode cX8_isPerson 9 = .ok (.if_icmp .ge 13, 3) := by decide +kernel
theorem dX8_isPerson_12 : decode cX8_isPerson 12 = .ok (.iload_n 1, 1) := by decide +kernel
theorem dX8_isPerson_13 : decode cX8_isPerson 13 = .ok (.bipush 10, 2) := by decide +kernel
theorem dX8_isPerson_15 : decode cX8_isPerson 15 = .ok (.if_icmp .ge 7, 3) := by decide +kernel
theorem dX8_isPerson_18 : decode cX8_isPerson 18 = .ok (.iconst 1, 1) := by decide +kernel
theorem dX8_isPerson_19 : decode cX8_isPerson 19 = .ok (.goto 4, 3) := by decide +kernel
theorem dX8_isPerson_22 : decode cX8_isPerson 22 = .ok (.iconst 0, 1) := by decide +kernel
theorem dX8_isPerson_23 : decode cX8_isPerson 23 = .ok (.ireturn, 1) := by decide +kernel
theorem dX8_hasHum_0 : decode cX8_hasHum 0 = .ok (.aload_n 0, 1) := by decide +kernel
theorem dX8_hasHum_1 : decode cX8_hasHum 1 = .ok (.iload_n 1, 1) := by decide +kernel
theorem dX8_hasHum_2 : decode cX8_hasHum 2 = .ok (.invokevirtual 88, 3) := by decide +kernel
theorem dX8_hasHum_5 : decode cX8_hasHum 5 = .ok (.ifCond .eq 17, 3) := by decide +kernel
theorem dX8_hasHum_8 : decode cX8_hasHum 8 = .ok (.aload_n 0, 1) := by decide +kernel
theorem dX8_hasHum_9 : decode cX8_hasHum 9 = .ok (.getfield 9, 3) := by decide +kernel
theorem dX8_hasHum_12 : decode cX8_hasHum 12 = .ok (.iload_n 1, 1) := by decide +kernel
theorem dX8_hasHum_13 : decode cX8_hasHum 13 = .ok (.iaload, 1) := by decide +kernel
theorem dX8_hasHum_14 : decode cX8_hasHum 14 = .ok (.iconst (-1), 1) := by decide +kernel
theorem dX8_hasHum_15 : decode cX8_hasHum 15 = .ok (.if_icmp .eq 7, 3) := by decide +kernel
theorem dX8_hasHum_18 : decode cX8_hasHum 18 = .ok (.iconst 1, 1) := by decide +kernel
theorem dX8_hasHum_19 : decode cX8_hasHum 19 = .ok (.goto 4, 3) := by decide +kernel
theorem dX8_hasHum_22 : decode cX8_hasHum 22 = .ok (.iconst 0, 1) := by decide +kernel
theorem dX8_hasHum_23 : decode cX8_hasHum 23 = .ok (.ireturn, 1) := by decide +kernel
theorem dX8_wordOf_0 : decode cX8_wordOf 0 = .ok (.aload_n 0, 1) := by decide +kernel
theorem dX8_wordOf_1 : decode cX8_wordOf 1 = .ok (.getfield 9, 3) := by decide +kernel
theorem dX8_wordOf_4 : decode cX8_wordOf 4 = .ok (.iload_n 1, 1) := by decide +kernel
theorem dX8_wordOf_5 : decode cX8_wordOf 5 = .ok (.iaload, 1) := by decide +kernel
theorem dX8_wordOf_6 : decode cX8_wordOf 6 = .ok (.aload_n 0, 1) := by decide +kernel
theorem dX8_wordOf_7 : decode cX8_wordOf 7 = .ok (.getfield 9, 3) := by decide +kernel
theorem dX8_wordOf_10 : decode cX8_wordOf 10 = .ok (.iload_n 2, 1) := by decide +kernel
theorem dX8_wordOf_11 : decode cX8_wordOf 11 = .ok (.iaload, 1) := by decide +kernel
theorem dX8_wordOf_12 : decode cX8_wordOf 12 = .ok (.isub, 1) := by decide +kernel
theorem dX8_wordOf_13 : decode cX8_wordOf 13 = .ok (.invokestatic 92, 3) := by decide +kernel
theorem dX8_wordOf_16 : decode cX8_wordOf 16 = .ok (.ireturn, 1) := by decide +kernel
theorem dX8_toneOf_0 : decode cX8_toneOf 0 = .ok (.aload_n 0, 1) := by decide +kernel
theorem dX8_toneOf_1 : decode cX8_toneOf 1 = .ok (.getfield 24, 3) := by decide +kernel
theorem dX8_toneOf_4 : decode cX8_toneOf 4 = .ok (.iload_n 1, 1) := by decide +kernel
theorem dX8_toneOf_5 : decode cX8_toneOf 5 = .ok (.bipush 12, 2) := by decide +kernel
theorem dX8_toneOf_7 : decode cX8_toneOf 7 = .ok (.imul, 1) := by decide +kernel
theorem dX8_toneOf_8 : decode cX8_toneOf 8 = .ok (.iload_n 2, 1) := by decide +kernel
theorem dX8_toneOf_9 : decode cX8_toneOf 9 = .ok (.iadd, 1) := by decide +kernel
theorem dX8_toneOf_10 : decode cX8_toneOf 10 = .ok (.iaload, 1) := by decide +kernel
theorem dX8_toneOf_11 : decode cX8_toneOf 11 = .ok (.ireturn, 1) := by decide +kernel
theorem dX8_toldSet_0 : decode cX8_toldSet 0 = .ok (.iconst 0, 1) := by decide +kernel
theorem dX8_toldSet_1 : decode cX8_toldSet 1 = .ok (.istore_n 1, 1) := by decide +kernel
theorem dX8_toldSet_2 : decode cX8_toldSet 2 = .ok (.iconst 0, 1) := by decide +kernel
theorem dX8_toldSet_3 : decode cX8_toldSet 3 = .ok (.istore_n 2, 1) := by decide +kernel
theorem dX8_toldSet_4 : decode cX8_toldSet 4 = .ok (.iload_n 2, 1) := by decide +kernel
theorem dX8_toldSet_5 : decode cX8_toldSet 5 = .ok (.aload_n 0, 1) := by decide +kernel
theorem dX8_toldSet_6 : decode cX8_toldSet 6 = .ok (.getfield 78, 3) := by decide +kernel
theorem dX8_toldSet_9 : decode cX8_toldSet 9 = .ok (.if_icmp .ge 20, 3) := by decide +kernel
theorem dX8_toldSet_12 : decode cX8_toldSet 12 = .ok (.iload_n 1, 1) := by decide +kernel
theorem dX8_toldSet_13 : decode cX8_toldSet 13 = .ok (.iconst 1, 1) := by decide +kernel
theorem dX8_toldSet_14 : decode cX8_toldSet 14 = .ok (.aload_n 0, 1) := by decide +kernel
theorem dX8_toldSet_15 : decode cX8_toldSet 15 = .ok (.getfield 36, 3) := by decide +kernel
theorem dX8_toldSet_18 : decode cX8_toldSet 18 = .ok (.iload_n 2, 1) := by decide +kernel
theorem dX8_toldSet_19 : decode cX8_toldSet 19 = .ok (.iaload, 1) := by decide +kernel
theorem dX8_toldSet_20 : decode cX8_toldSet 20 = .ok (.ishl, 1) := by decide +kernel
theorem dX8_toldSet_21 : decode cX8_toldSet 21 = .ok (.ior, 1) := by decide +kernel
theorem dX8_toldSet_22 : decode cX8_toldSet 22 = .ok (.istore_n 1, 1) := by decide +kernel
theorem dX8_toldSet_23 : decode cX8_toldSet 23 = .ok (.iinc 2 1, 3) := by decide +kernel
theorem dX8_toldSet_26 : decode cX8_toldSet 26 = .ok (.goto (-22), 3) := by decide +kernel
theorem dX8_toldSet_29 : decode cX8_toldSet 29 = .ok (.iload_n 1, 1) := by decide +kernel
theorem dX8_toldSet_30 : decode cX8_toldSet 30 = .ok (.ireturn, 1) := by decide +kernel
theorem dX8_wordsSayable_0 : decode cX8_wordsSayable 0 = .ok (.iconst 0, 1) := by decide +kernel
theorem dX8_wordsSayable_1 : decode cX8_wordsSayable 1 = .ok (.istore_n 1, 1) := by decide +kernel
theorem dX8_wordsSayable_2 : decode cX8_wordsSayable 2 = .ok (.iconst 0, 1) := by decide +kernel
theorem dX8_wordsSayable_3 : decode cX8_wordsSayable 3 = .ok (.istore_n 2, 1) := by decide +kernel
theorem dX8_wordsSayable_4 : decode cX8_wordsSayable 4 = .ok (.iload_n 2, 1) := by decide +kernel
theorem dX8_wordsSayable_5 : decode cX8_wordsSayable 5 = .ok (.aload_n 0, 1) := by decide +kernel
theorem dX8_wordsSayable_6 : decode cX8_wordsSayable 6 = .ok (.getfield 57, 3) := by decide +kernel
theorem dX8_wordsSayable_9 : decode cX8_wordsSayable 9 = .ok (.if_icmp .ge 66, 3) := by decide +kernel
theorem dX8_wordsSayable_12 : decode cX8_wordsSayable 12 = .ok (.iconst 0, 1) := by decide +kernel
theorem dX8_wordsSayable_13 : decode cX8_wordsSayable 13 = .ok (.istore_n 3, 1) := by decide +kernel
theorem dX8_wordsSayable_14 : decode cX8_wordsSayable 14 = .ok (.iload_n 3, 1) := by decide +kernel
theorem dX8_wordsSayable_15 : decode cX8_wordsSayable 15 = .ok (.iload_n 2, 1) := by decide +kernel
theorem dX8_wordsSayable_16 : decode cX8_wordsSayable 16 = .ok (.if_icmp .ge 53, 3) := by decide +kernel
theorem dX8_wordsSayable_19 : decode cX8_wordsSayable 19 = .ok (.aload_n 0, 1) := by decide +kernel
theorem dX8_wordsSayable_20 : decode cX8_wordsSayable 20 = .ok (.iload_n 2, 1) := by decide +kernel
theorem dX8_wordsSayable_21 : decode cX8_wordsSayable 21 = .ok (.iload_n 3, 1) := by decide +kernel
theorem dX8_wordsSayable_22 : decode cX8_wordsSayable 22 = .ok (.invokevirtual 98, 3) := by decide +kernel
theorem dX8_wordsSayable_25 : decode cX8_wordsSayable 25 = .ok (.istore 4, 2) := by decide +kernel
theorem dX8_wordsSayable_27 : decode cX8_wordsSayable 27 = .ok (.aload_n 0, 1) := by decide +kernel
theorem dX8_wordsSayable_28 : decode cX8_wordsSayable 28 = .ok (.iload_n 2, 1) := by decide +kernel
theorem dX8_wordsSayable_29 : decode cX8_wordsSayable 29 = .ok (.invokevirtual 102, 3) := by decide +kernel
theorem dX8_wordsSayable_32 : decode cX8_wordsSayable 32 = .ok (.ifCond .eq 31, 3) := by decide +kernel
theorem dX8_wordsSayable_35 : decode cX8_wordsSayable 35 = .ok (.aload_n 0, 1) := by decide +kernel
theorem dX8_wordsSayable_36 : decode cX8_wordsSayable 36 = .ok (.iload_n 3, 1) := by decide +kernel
theorem dX8_wordsSayable_37 : decode cX8_wordsSayable 37 = .ok (.invokevirtual 102, 3) := by decide +kernel
theorem dX8_wordsSayable_40 : decode cX8_wordsSayable 40 = .ok (.ifCond .eq 23, 3) := by decide +kernel
theorem dX8_wordsSayable_43 : decode cX8_wordsSayable 43 = .ok (.iload 4, 2) := by decide +kernel
theorem dX8_wordsSayable_45 : decode cX8_wordsSayable 45 = .ok (.iconst 1, 1) := by decide +kernel
theorem dX8_wordsSayable_46 : decode cX8_wordsSayable 46 = .ok (.if_icmp .lt 17, 3) := by decide +kernel
theorem dX8_wordsSayable_49 : decode cX8_wordsSayable 49 = .ok (.iload 4, 2) := by decide +kernel
theorem dX8_wordsSayable_51 : decode cX8_wordsSayable 51 = .ok (.bipush 24, 2) := by decide +kernel
theorem dX8_wordsSayable_53 : decode cX8_wordsSayable 53 = .ok (.if_icmp .gt 10, 3) := by decide +kernel
theorem dX8_wordsSayable_56 : decode cX8_wordsSayable 56 = .ok (.iload_n 1, 1) := by decide +kernel
theorem dX8_wordsSayable_57 : decode cX8_wordsSayable 57 = .ok (.iconst 1, 1) := by decide +kernel
theorem dX8_wordsSayable_58 : decode cX8_wordsSayable 58 = .ok (.iload 4, 2) := by decide +kernel
theorem dX8_wordsSayable_60 : decode cX8_wordsSayable 60 = .ok (.ishl, 1) := by decide +kernel
theorem dX8_wordsSayable_61 : decode cX8_wordsSayable 61 = .ok (.ior, 1) := by decide +kernel
theorem dX8_wordsSayable_62 : decode cX8_wordsSayable 62 = .ok (.istore_n 1, 1) := by decide +kernel
theorem dX8_wordsSayable_63 : decode cX8_wordsSayable 63 = .ok (.iinc 3 1, 3) := by decide +kernel
theorem dX8_wordsSayable_66 : decode cX8_wordsSayable 66 = .ok (.goto (-52), 3) := by decide +kernel
theorem dX8_wordsSayable_69 : decode cX8_wordsSayable 69 = .ok (.iinc 2 1, 3) := by decide +kernel
theorem dX8_wordsSayable_72 : decode cX8_wordsSayable 72 = .ok (.goto (-68), 3) := by decide +kernel
theorem dX8_wordsSayable_75 : decode cX8_wordsSayable 75 = .ok (.iload_n 1, 1) := by decide +kernel
theorem dX8_wordsSayable_76 : decode cX8_wordsSayable 76 = .ok (.ireturn, 1) := by decide +kernel
theorem dX8_draw_0 : decode cX8_draw 0 = .ok (.aload_n 0, 1) := by decide +kernel
theorem dX8_draw_1 : decode cX8_draw 1 = .ok (.ldc 105, 2) := by decide +kernel
theorem dX8_draw_3 : decode cX8_draw 3 = .ok (.aload_n 0, 1) := by decide +kernel
theorem dX8_draw_4 : decode cX8_draw 4 = .ok (.getfield 53, 3) := by decide +kernel
theorem dX8_draw_7 : decode cX8_draw 7 = .ok (.imul, 1) := by decide +kernel
theorem dX8_draw_8 : decode cX8_draw 8 = .ok (.ldc 106, 2) := by decide +kernel
theorem dX8_draw_10 : decode cX8_draw 10 = .ok (.iadd, 1) := by decide +kernel
theorem dX8_draw_11 : decode cX8_draw 11 = .ok (.putfield 53, 3) := by decide +kernel
theorem dX8_draw_14 : decode cX8_draw 14 = .ok (.iload_n 1, 1) := by decide +kernel
theorem dX8_draw_15 : decode cX8_draw 15 = .ok (.iconst 1, 1) := by decide +kernel
theorem dX8_draw_16 : decode cX8_draw 16 = .ok (.if_icmp .ge 7, 3) := by decide +kernel
theorem dX8_draw_19 : decode cX8_draw 19 = .ok (.iconst 0, 1) := by decide +kernel
theorem dX8_draw_20 : decode cX8_draw 20 = .ok (.goto 12, 3) := by decide +kernel
theorem dX8_draw_23 : decode cX8_draw 23 = .ok (.aload_n 0, 1) := by decide +kernel
theorem dX8_draw_24 : decode cX8_draw 24 = .ok (.getfield 53, 3) := by decide +kernel
theorem dX8_draw_27 : decode cX8_draw 27 = .ok (.bipush 8, 2) := by decide +kernel
theorem dX8_draw_29 : decode cX8_draw 29 = .ok (.iushr, 1) := by decide +kernel
theorem dX8_draw_30 : decode cX8_draw 30 = .ok (.iload_n 1, 1) := by decide +kernel
theorem dX8_draw_31 : decode cX8_draw 31 = .ok (.irem, 1) := by decide +kernel
theorem dX8_draw_32 : decode cX8_draw 32 = .ok (.ireturn, 1) := by decide +kernel
theorem dX8_passHour_0 : decode cX8_passHour 0 = .ok (.iconst 0, 1) := by decide +kernel
theorem dX8_passHour_1 : decode cX8_passHour 1 = .ok (.istore_n 1, 1) := by decide +kernel
theorem dX8_passHour_2 : decode cX8_passHour 2 = .ok (.iconst 0, 1) := by decide +kernel
theorem dX8_passHour_3 : decode cX8_passHour 3 = .ok (.istore_n 2, 1) := by decide +kernel
theorem dX8_passHour_4 : decode cX8_passHour 4 = .ok (.iload_n 2, 1) := by decide +kernel
theorem dX8_passHour_5 : decode cX8_passHour 5 = .ok (.aload_n 0, 1) := by decide +kernel
theorem dX8_passHour_6 : decode cX8_passHour 6 = .ok (.getfield 57, 3) := by decide +kernel
theorem dX8_passHour_9 : decode cX8_passHour 9 = .ok (.if_icmp .ge 89, 3) := by decide +kernel
theorem dX8_passHour_12 : decode cX8_passHour 12 = .ok (.aload_n 0, 1) := by decide +kernel
theorem dX8_passHour_13 : decode cX8_passHour 13 = .ok (.getfield 69, 3) := by decide +kernel
theorem dX8_passHour_16 : decode cX8_passHour 16 = .ok (.ifCond .le 82, 3) := by decide +kernel
theorem dX8_passHour_19 : decode cX8_passHour 19 = .ok (.aload_n 0, 1) := by decide +kernel
theorem dX8_passHour_20 : decode cX8_passHour 20 = .ok (.getfield 66, 3) := by decide +kernel
theorem dX8_passHour_23 : decode cX8_passHour 23 = .ok (.iload_n 2, 1) := by decide +kernel
theorem dX8_passHour_24 : decode cX8_passHour 24 = .ok (.ishr, 1) := by decide +kernel
theorem dX8_passHour_25 : decode cX8_passHour 25 = .ok (.iconst 1, 1) := by decide +kernel
theorem dX8_passHour_26 : decode cX8_passHour 26 = .ok (.iand, 1) := by decide +kernel
theorem dX8_passHour_27 : decode cX8_passHour 27 = .ok (.iconst 1, 1) := by decide +kernel
theorem dX8_passHour_28 : decode cX8_passHour 28 = .ok (.if_icmp .ne 64, 3) := by decide +kernel
theorem dX8_passHour_31 : decode cX8_passHour 31 = .ok (.aload_n 0, 1) := by decide +kernel
theorem dX8_passHour_32 : decode cX8_passHour 32 = .ok (.sipush 1000, 3) := by decide +kernel
theorem dX8_passHour_35 : decode cX8_passHour 35 = .ok (.invokevirtual 107, 3) := by decide +kernel
theorem dX8_passHour_38 : decode cX8_passHour 38 = .ok (.aload_n 0, 1) := by decide +kernel
theorem dX8_passHour_39 : decode cX8_passHour 39 = .ok (.getfield 69, 3) := by decide +kernel
theorem dX8_passHour_42 : decode cX8_passHour 42 = .ok (.if_icmp .ge 50, 3) := by decide +kernel
theorem dX8_passHour_45 : decode cX8_passHour 45 = .ok (.aload_n 0, 1) := by decide +kernel
theorem dX8_passHour_46 : decode cX8_passHour 46 = .ok (.iconst 2, 1) := by decide +kernel
theorem dX8_passHour_47 : decode cX8_passHour 47 = .ok (.invokevirtual 107, 3) := by decide +kernel
theorem dX8_passHour_50 : decode cX8_passHour 50 = .ok (.ifCond .ne 14, 3) := by decide +kernel
theorem dX8_passHour_53 : decode cX8_passHour 53 = .ok (.aload_n 0, 1) := by decide +kernel
theorem dX8_passHour_54 : decode cX8_passHour 54 = .ok (.getfield 9, 3) := by decide +kernel
theorem dX8_passHour_57 : decode cX8_passHour 57 = .ok (.iload_n 2, 1) := by decide +kernel
theorem dX8_passHour_58 : decode cX8_passHour 58 = .ok (.iaload, 1) := by decide +kernel
theorem dX8_passHour_59 : decode cX8_passHour 59 = .ok (.iconst 1, 1) := by decide +kernel
theorem dX8_passHour_60 : decode cX8_passHour 60 = .ok (.isub, 1) := by decide +kernel
end
section
theorem dX8_passHour_61 : decode cX8_passHour 61 = .ok (.goto 11, 3) := by decide +kernel
theorem dX8_passHour_64 : decode cX8_passHour 64 = .ok (.aload_n 0, 1) := by decide +kernel
theorem dX8_passHour_65 : decode cX8_passHour 65 = .ok (.getfield 9, 3) := by decide +kernel
theorem dX8_passHour_68 : decode cX8_passHour 68 = .ok (.iload_n 2, 1) := by decide +kernel
theorem dX8_passHour_69 : decode cX8_passHour 69 = .ok (.iaload, 1) := by decide +kernel
theorem dX8_passHour_70 : decode cX8_passHour 70 = .ok (.iconst 1, 1) := by decide +kernel
theorem dX8_passHour_71 : decode cX8_passHour 71 = .ok (.iadd, 1) := by decide +kernel
theorem dX8_passHour_72 : decode cX8_passHour 72 = .ok (.istore_n 3, 1) := by decide +kernel
theorem dX8_passHour_73 : decode cX8_passHour 73 = .ok (.aload_n 0, 1) := by decide +kernel
theorem dX8_passHour_74 : decode cX8_passHour 74 = .ok (.getfield 9, 3) := by decide +kernel
theorem dX8_passHour_77 : decode cX8_passHour 77 = .ok (.iload_n 2, 1) := by decide +kernel
theorem dX8_passHour_78 : decode cX8_passHour 78 = .ok (.iconst 0, 1) := by decide +kernel
theorem dX8_passHour_79 : decode cX8_passHour 79 = .ok (.bipush 60, 2) := by decide +kernel
theorem dX8_passHour_81 : decode cX8_passHour 81 = .ok (.iload_n 3, 1) := by decide +kernel
theorem dX8_passHour_82 : decode cX8_passHour 82 = .ok (.invokestatic 110, 3) := by decide +kernel
theorem dX8_passHour_85 : decode cX8_passHour 85 = .ok (.invokestatic 113, 3) := by decide +kernel
theorem dX8_passHour_88 : decode cX8_passHour 88 = .ok (.iastore, 1) := by decide +kernel
theorem dX8_passHour_89 : decode cX8_passHour 89 = .ok (.iinc 1 1, 3) := by decide +kernel
theorem dX8_passHour_92 : decode cX8_passHour 92 = .ok (.iinc 2 1, 3) := by decide +kernel
theorem dX8_passHour_95 : decode cX8_passHour 95 = .ok (.goto (-91), 3) := by decide +kernel
theorem dX8_passHour_98 : decode cX8_passHour 98 = .ok (.aload_n 0, 1) := by decide +kernel
theorem dX8_passHour_99 : decode cX8_passHour 99 = .ok (.dup, 1) := by decide +kernel
theorem dX8_passHour_100 : decode cX8_passHour 100 = .ok (.getfield 72, 3) := by decide +kernel
theorem dX8_passHour_103 : decode cX8_passHour 103 = .ok (.iconst 1, 1) := by decide +kernel
theorem dX8_passHour_104 : decode cX8_passHour 104 = .ok (.iadd, 1) := by decide +kernel
theorem dX8_passHour_105 : decode cX8_passHour 105 = .ok (.putfield 72, 3) := by decide +kernel
theorem dX8_passHour_108 : decode cX8_passHour 108 = .ok (.iload_n 1, 1) := by decide +kernel
theorem dX8_passHour_109 : decode cX8_passHour 109 = .ok (.ireturn, 1) := by decide +kernel
theorem dX9_init_0 : decode cX9_init 0 = .ok (.aload_n 0, 1) := by decide +kernel
theorem dX9_init_1 : decode cX9_init 1 = .ok (.invokespecial 1, 3) := by decide +kernel
theorem dX9_init_4 : decode cX9_init 4 = .ok (.aload_n 0, 1) := by decide +kernel
theorem dX9_init_5 : decode cX9_init 5 = .ok (.new 7, 3) := by decide +kernel
theorem dX9_init_8 : decode cX9_init 8 = .ok (.dup, 1) := by decide +kernel
theorem dX9_init_9 : decode cX9_init 9 = .ok (.invokespecial 9, 3) := by decide +kernel
theorem dX9_init_12 : decode cX9_init 12 = .ok (.putfield 10, 3) := by decide +kernel
theorem dX9_init_15 : decode cX9_init 15 = .ok (.aload_n 0, 1) := by decide +kernel
theorem dX9_init_16 : decode cX9_init 16 = .ok (.new 7, 3) := by decide +kernel
theorem dX9_init_19 : decode cX9_init 19 = .ok (.dup, 1) := by decide +kernel
theorem dX9_init_20 : decode cX9_init 20 = .ok (.invokespecial 9, 3) := by decide +kernel
theorem dX9_init_23 : decode cX9_init 23 = .ok (.putfield 16, 3) := by decide +kernel
theorem dX9_init_26 : decode cX9_init 26 = .ok (.aload_n 0, 1) := by decide +kernel
theorem dX9_init_27 : decode cX9_init 27 = .ok (.iconst 0, 1) := by decide +kernel
theorem dX9_init_28 : decode cX9_init 28 = .ok (.putfield 19, 3) := by decide +kernel
theorem dX9_init_31 : decode cX9_init 31 = .ok (.aload_n 0, 1) := by decide +kernel
theorem dX9_init_32 : decode cX9_init 32 = .ok (.new 23, 3) := by decide +kernel
theorem dX9_init_35 : decode cX9_init 35 = .ok (.dup, 1) := by decide +kernel
theorem dX9_init_36 : decode cX9_init 36 = .ok (.invokespecial 25, 3) := by decide +kernel
theorem dX9_init_39 : decode cX9_init 39 = .ok (.putfield 26, 3) := by decide +kernel
theorem dX9_init_42 : decode cX9_init 42 = .ok (.aload_n 0, 1) := by decide +kernel
theorem dX9_init_43 : decode cX9_init 43 = .ok (.sipush 400, 3) := by decide +kernel
theorem dX9_init_46 : decode cX9_init 46 = .ok (.newarray .byte, 2) := by decide +kernel
theorem dX9_init_48 : decode cX9_init 48 = .ok (.putfield 30, 3) := by decide +kernel
theorem dX9_init_51 : decode cX9_init 51 = .ok (.aload_n 0, 1) := by decide +kernel
theorem dX9_init_52 : decode cX9_init 52 = .ok (.iconst 0, 1) := by decide +kernel
theorem dX9_init_53 : decode cX9_init 53 = .ok (.putfield 34, 3) := by decide +kernel
theorem dX9_init_56 : decode cX9_init 56 = .ok (.aload_n 0, 1) := by decide +kernel
theorem dX9_init_57 : decode cX9_init 57 = .ok (.new 38, 3) := by decide +kernel
theorem dX9_init_60 : decode cX9_init 60 = .ok (.dup, 1) := by decide +kernel
theorem dX9_init_61 : decode cX9_init 61 = .ok (.aload_n 0, 1) := by decide +kernel
theorem dX9_init_62 : decode cX9_init 62 = .ok (.getfield 30, 3) := by decide +kernel
theorem dX9_init_65 : decode cX9_init 65 = .ok (.invokespecial 40, 3) := by decide +kernel
theorem dX9_init_68 : decode cX9_init 68 = .ok (.putfield 43, 3) := by decide +kernel
theorem dX9_init_71 : decode cX9_init 71 = .ok (.aload_n 0, 1) := by decide +kernel
theorem dX9_init_72 : decode cX9_init 72 = .ok (.iconst 0, 1) := by decide +kernel
theorem dX9_init_73 : decode cX9_init 73 = .ok (.putfield 47, 3) := by decide +kernel
theorem dX9_init_76 : decode cX9_init 76 = .ok (.aload_n 0, 1) := by decide +kernel
theorem dX9_init_77 : decode cX9_init 77 = .ok (.iconst (-1), 1) := by decide +kernel
theorem dX9_init_78 : decode cX9_init 78 = .ok (.putfield 50, 3) := by decide +kernel
theorem dX9_init_81 : decode cX9_init 81 = .ok (.aload_n 0, 1) := by decide +kernel
theorem dX9_init_82 : decode cX9_init 82 = .ok (.new 53, 3) := by decide +kernel
theorem dX9_init_85 : decode cX9_init 85 = .ok (.dup, 1) := by decide +kernel
theorem dX9_init_86 : decode cX9_init 86 = .ok (.aload_n 0, 1) := by decide +kernel
theorem dX9_init_87 : decode cX9_init 87 = .ok (.getfield 10, 3) := by decide +kernel
theorem dX9_init_90 : decode cX9_init 90 = .ok (.invokespecial 55, 3) := by decide +kernel
theorem dX9_init_93 : decode cX9_init 93 = .ok (.putfield 58, 3) := by decide +kernel
theorem dX9_init_96 : decode cX9_init 96 = .ok (.aload_n 0, 1) := by decide +kernel
theorem dX9_init_97 : decode cX9_init 97 = .ok (.new 62, 3) := by decide +kernel
theorem dX9_init_100 : decode cX9_init 100 = .ok (.dup, 1) := by decide +kernel
theorem dX9_init_101 : decode cX9_init 101 = .ok (.invokespecial 64, 3) := by decide +kernel
theorem dX9_init_104 : decode cX9_init 104 = .ok (.putfield 65, 3) := by decide +kernel
theorem dX9_init_107 : decode cX9_init 107 = .ok (.aload_n 0, 1) := by decide +kernel
theorem dX9_init_108 : decode cX9_init 108 = .ok (.new 69, 3) := by decide +kernel
theorem dX9_init_111 : decode cX9_init 111 = .ok (.dup, 1) := by decide +kernel
theorem dX9_init_112 : decode cX9_init 112 = .ok (.invokespecial 71, 3) := by decide +kernel
theorem dX9_init_115 : decode cX9_init 115 = .ok (.putfield 72, 3) := by decide +kernel
theorem dX9_init_118 : decode cX9_init 118 = .ok (.aload_n 0, 1) := by decide +kernel
theorem dX9_init_119 : decode cX9_init 119 = .ok (.new 76, 3) := by decide +kernel
theorem dX9_init_122 : decode cX9_init 122 = .ok (.dup, 1) := by decide +kernel
theorem dX9_init_123 : decode cX9_init 123 = .ok (.invokespecial 78, 3) := by decide +kernel
theorem dX9_init_126 : decode cX9_init 126 = .ok (.putfield 79, 3) := by decide +kernel
theorem dX9_init_129 : decode cX9_init 129 = .ok (.return_, 1) := by decide +kernel
theorem dX9_state_0 : decode cX9_state 0 = .ok (.aload_n 0, 1) := by decide +kernel
theorem dX9_state_1 : decode cX9_state 1 = .ok (.getfield 10, 3) := by decide +kernel
theorem dX9_state_4 : decode cX9_state 4 = .ok (.getfield 83, 3) := by decide +kernel
theorem dX9_state_7 : decode cX9_state 7 = .ok (.istore_n 2, 1) := by decide +kernel
theorem dX9_state_8 : decode cX9_state 8 = .ok (.aload_n 0, 1) := by decide +kernel
theorem dX9_state_9 : decode cX9_state 9 = .ok (.getfield 10, 3) := by decide +kernel
theorem dX9_state_12 : decode cX9_state 12 = .ok (.iload_n 1, 1) := by decide +kernel
theorem dX9_state_13 : decode cX9_state 13 = .ok (.putfield 83, 3) := by decide +kernel
theorem dX9_state_16 : decode cX9_state 16 = .ok (.aload_n 0, 1) := by decide +kernel
theorem dX9_state_17 : decode cX9_state 17 = .ok (.getfield 26, 3) := by decide +kernel
theorem dX9_state_20 : decode cX9_state 20 = .ok (.invokevirtual 86, 3) := by decide +kernel
theorem dX9_state_23 : decode cX9_state 23 = .ok (.iload_n 2, 1) := by decide +kernel
theorem dX9_state_24 : decode cX9_state 24 = .ok (.ireturn, 1) := by decide +kernel
theorem dX9_person_0 : decode cX9_person 0 = .ok (.iload_n 1, 1) := by decide +kernel
theorem dX9_person_1 : decode cX9_person 1 = .ok (.invokestatic 89, 3) := by decide +kernel
theorem dX9_person_4 : decode cX9_person 4 = .ok (.ifCond .eq 15, 3) := by decide +kernel
theorem dX9_person_7 : decode cX9_person 7 = .ok (.aload_n 0, 1) := by decide +kernel
theorem dX9_person_8 : decode cX9_person 8 = .ok (.getfield 10, 3) := by decide +kernel
theorem dX9_person_11 : decode cX9_person 11 = .ok (.getfield 93, 3) := by decide +kernel
theorem dX9_person_14 : decode cX9_person 14 = .ok (.bipush 10, 2) := by decide +kernel
theorem dX9_person_16 : decode cX9_person 16 = .ok (.if_icmp .lt 5, 3) := by decide +kernel
theorem dX9_person_19 : decode cX9_person 19 = .ok (.iconst (-1), 1) := by decide +kernel
theorem dX9_person_20 : decode cX9_person 20 = .ok (.ireturn, 1) := by decide +kernel
theorem dX9_person_21 : decode cX9_person 21 = .ok (.aload_n 0, 1) := by decide +kernel
theorem dX9_person_22 : decode cX9_person 22 = .ok (.getfield 10, 3) := by decide +kernel
theorem dX9_person_25 : decode cX9_person 25 = .ok (.getfield 93, 3) := by decide +kernel
theorem dX9_person_28 : decode cX9_person 28 = .ok (.istore_n 2, 1) := by decide +kernel
theorem dX9_person_29 : decode cX9_person 29 = .ok (.aload_n 0, 1) := by decide +kernel
theorem dX9_person_30 : decode cX9_person 30 = .ok (.getfield 10, 3) := by decide +kernel
theorem dX9_person_33 : decode cX9_person 33 = .ok (.getfield 96, 3) := by decide +kernel
theorem dX9_person_36 : decode cX9_person 36 = .ok (.iload_n 2, 1) := by decide +kernel
theorem dX9_person_37 : decode cX9_person 37 = .ok (.iload_n 1, 1) := by decide +kernel
theorem dX9_person_38 : decode cX9_person 38 = .ok (.iastore, 1) := by decide +kernel
theorem dX9_person_39 : decode cX9_person 39 = .ok (.aload_n 0, 1) := by decide +kernel
theorem dX9_person_40 : decode cX9_person 40 = .ok (.getfield 10, 3) := by decide +kernel
theorem dX9_person_43 : decode cX9_person 43 = .ok (.iload_n 2, 1) := by decide +kernel
theorem dX9_person_44 : decode cX9_person 44 = .ok (.iconst 1, 1) := by decide +kernel
theorem dX9_person_45 : decode cX9_person 45 = .ok (.iadd, 1) := by decide +kernel
theorem dX9_person_46 : decode cX9_person 46 = .ok (.putfield 93, 3) := by decide +kernel
theorem dX9_person_49 : decode cX9_person 49 = .ok (.aload_n 0, 1) := by decide +kernel
theorem dX9_person_50 : decode cX9_person 50 = .ok (.getfield 26, 3) := by decide +kernel
theorem dX9_person_53 : decode cX9_person 53 = .ok (.invokevirtual 86, 3) := by decide +kernel
theorem dX9_person_56 : decode cX9_person 56 = .ok (.iload_n 2, 1) := by decide +kernel
theorem dX9_person_57 : decode cX9_person 57 = .ok (.ireturn, 1) := by decide +kernel
theorem dX9_set_0 : decode cX9_set 0 = .ok (.iload_n 1, 1) := by decide +kernel
theorem dX9_set_1 : decode cX9_set 1 = .ok (.iconst 3, 1) := by decide +kernel
theorem dX9_set_2 : decode cX9_set 2 = .ok (.if_icmp .ne 11, 3) := by decide +kernel
theorem dX9_set_5 : decode cX9_set 5 = .ok (.aload_n 0, 1) := by decide +kernel
theorem dX9_set_6 : decode cX9_set 6 = .ok (.iload_n 3, 1) := by decide +kernel
theorem dX9_set_7 : decode cX9_set 7 = .ok (.invokevirtual 100, 3) := by decide +kernel
theorem dX9_set_10 : decode cX9_set 10 = .ok (.goto 29, 3) := by decide +kernel
theorem dX9_set_13 : decode cX9_set 13 = .ok (.aload_n 0, 1) := by decide +kernel
theorem dX9_set_14 : decode cX9_set 14 = .ok (.getfield 10, 3) := by decide +kernel
theorem dX9_set_17 : decode cX9_set 17 = .ok (.iload_n 2, 1) := by decide +kernel
theorem dX9_set_18 : decode cX9_set 18 = .ok (.invokevirtual 103, 3) := by decide +kernel
theorem dX9_set_21 : decode cX9_set 21 = .ok (.ifCond .eq 17, 3) := by decide +kernel
theorem dX9_set_24 : decode cX9_set 24 = .ok (.aload_n 0, 1) := by decide +kernel
theorem dX9_set_25 : decode cX9_set 25 = .ok (.iload_n 1, 1) := by decide +kernel
theorem dX9_set_26 : decode cX9_set 26 = .ok (.iload_n 2, 1) := by decide +kernel
theorem dX9_set_27 : decode cX9_set 27 = .ok (.iload_n 3, 1) := by decide +kernel
theorem dX9_set_28 : decode cX9_set 28 = .ok (.invokevirtual 106, 3) := by decide +kernel
theorem dX9_set_31 : decode cX9_set 31 = .ok (.ifCond .eq 7, 3) := by decide +kernel
theorem dX9_set_34 : decode cX9_set 34 = .ok (.iconst 1, 1) := by decide +kernel
theorem dX9_set_35 : decode cX9_set 35 = .ok (.goto 4, 3) := by decide +kernel
theorem dX9_set_38 : decode cX9_set 38 = .ok (.iconst 0, 1) := by decide +kernel
theorem dX9_set_39 : decode cX9_set 39 = .ok (.istore 4, 2) := by decide +kernel
theorem dX9_set_41 : decode cX9_set 41 = .ok (.iload 4, 2) := by decide +kernel
theorem dX9_set_43 : decode cX9_set 43 = .ok (.ifCond .eq 10, 3) := by decide +kernel
theorem dX9_set_46 : decode cX9_set 46 = .ok (.aload_n 0, 1) := by decide +kernel
theorem dX9_set_47 : decode cX9_set 47 = .ok (.getfield 26, 3) := by decide +kernel
theorem dX9_set_50 : decode cX9_set 50 = .ok (.invokevirtual 86, 3) := by decide +kernel
theorem dX9_set_53 : decode cX9_set 53 = .ok (.iload 4, 2) := by decide +kernel
theorem dX9_set_55 : decode cX9_set 55 = .ok (.ireturn, 1) := by decide +kernel
theorem dX9_feed_0 : decode cX9_feed 0 = .ok (.aload_n 0, 1) := by decide +kernel
theorem dX9_feed_1 : decode cX9_feed 1 = .ok (.getfield 34, 3) := by decide +kernel
theorem dX9_feed_4 : decode cX9_feed 4 = .ok (.sipush 380, 3) := by decide +kernel
theorem dX9_feed_7 : decode cX9_feed 7 = .ok (.if_icmp .le 5, 3) := by decide +kernel
theorem dX9_feed_10 : decode cX9_feed 10 = .ok (.iconst (-1), 1) := by decide +kernel
theorem dX9_feed_11 : decode cX9_feed 11 = .ok (.ireturn, 1) := by decide +kernel
theorem dX9_feed_12 : decode cX9_feed 12 = .ok (.aload_n 0, 1) := by decide +kernel
theorem dX9_feed_13 : decode cX9_feed 13 = .ok (.iload_n 1, 1) := by decide +kernel
theorem dX9_feed_14 : decode cX9_feed 14 = .ok (.invokevirtual 110, 3) := by decide +kernel
theorem dX9_feed_17 : decode cX9_feed 17 = .ok (.aload_n 0, 1) := by decide +kernel
theorem dX9_feed_18 : decode cX9_feed 18 = .ok (.iload_n 2, 1) := by decide +kernel
theorem dX9_feed_19 : decode cX9_feed 19 = .ok (.invokevirtual 110, 3) := by decide +kernel
theorem dX9_feed_22 : decode cX9_feed 22 = .ok (.aload_n 0, 1) := by decide +kernel
theorem dX9_feed_23 : decode cX9_feed 23 = .ok (.iload_n 3, 1) := by decide +kernel
theorem dX9_feed_24 : decode cX9_feed 24 = .ok (.invokevirtual 110, 3) := by decide +kernel
theorem dX9_feed_27 : decode cX9_feed 27 = .ok (.aload_n 0, 1) := by decide +kernel
theorem dX9_feed_28 : decode cX9_feed 28 = .ok (.iload 4, 2) := by decide +kernel
theorem dX9_feed_30 : decode cX9_feed 30 = .ok (.invokevirtual 110, 3) := by decide +kernel
theorem dX9_feed_33 : decode cX9_feed 33 = .ok (.aload_n 0, 1) := by decide +kernel
theorem dX9_feed_34 : decode cX9_feed 34 = .ok (.iload 5, 2) := by decide +kernel
theorem dX9_feed_36 : decode cX9_feed 36 = .ok (.invokevirtual 110, 3) := by decide +kernel
theorem dX9_feed_39 : decode cX9_feed 39 = .ok (.aload_n 0, 1) := by decide +kernel
theorem dX9_feed_40 : decode cX9_feed 40 = .ok (.getfield 34, 3) := by decide +kernel
theorem dX9_feed_43 : decode cX9_feed 43 = .ok (.ireturn, 1) := by decide +kernel
theorem dX9_end_0 : decode cX9_end 0 = .ok (.iload_n 1, 1) := by decide +kernel
theorem dX9_end_1 : decode cX9_end 1 = .ok (.ifCond .lt 11, 3) := by decide +kernel
theorem dX9_end_4 : decode cX9_end 4 = .ok (.iload_n 1, 1) := by decide +kernel
theorem dX9_end_5 : decode cX9_end 5 = .ok (.aload_n 0, 1) := by decide +kernel
theorem dX9_end_6 : decode cX9_end 6 = .ok (.getfield 34, 3) := by decide +kernel
theorem dX9_end_9 : decode cX9_end 9 = .ok (.if_icmp .le 5, 3) := by decide +kernel
theorem dX9_end_12 : decode cX9_end 12 = .ok (.iconst 0, 1) := by decide +kernel
theorem dX9_end_13 : decode cX9_end 13 = .ok (.ireturn, 1) := by decide +kernel
theorem dX9_end_14 : decode cX9_end 14 = .ok (.aload_n 0, 1) := by decide +kernel
theorem dX9_end_15 : decode cX9_end 15 = .ok (.iload_n 1, 1) := by decide +kernel
theorem dX9_end_16 : decode cX9_end 16 = .ok (.putfield 34, 3) := by decide +kernel
theorem dX9_end_19 : decode cX9_end 19 = .ok (.iconst 1, 1) := by decide +kernel
theorem dX9_end_20 : decode cX9_end 20 = .ok (.ireturn, 1) := by decide +kernel
theorem dX9_text_0 : decode cX9_text 0 = .ok (.aload_n 0, 1) := by decide +kernel
theorem dX9_text_1 : decode cX9_text 1 = .ok (.getfield 43, 3) := by decide +kernel
theorem dX9_text_4 : decode cX9_text 4 = .ok (.aload_n 0, 1) := by decide +kernel
theorem dX9_text_5 : decode cX9_text 5 = .ok (.getfield 34, 3) := by decide +kernel
theorem dX9_text_8 : decode cX9_text 8 = .ok (.invokevirtual 114, 3) := by decide +kernel
theorem dX9_text_11 : decode cX9_text 11 = .ok (.istore_n 1, 1) := by decide +kernel
theorem dX9_text_12 : decode cX9_text 12 = .ok (.aload_n 0, 1) := by decide +kernel
theorem dX9_text_13 : decode cX9_text 13 = .ok (.aload_n 0, 1) := by decide +kernel
theorem dX9_text_14 : decode cX9_text 14 = .ok (.getfield 43, 3) := by decide +kernel
theorem dX9_text_17 : decode cX9_text 17 = .ok (.getfield 117, 3) := by decide +kernel
theorem dX9_text_20 : decode cX9_text 20 = .ok (.putfield 47, 3) := by decide +kernel
theorem dX9_text_23 : decode cX9_text 23 = .ok (.aload_n 0, 1) := by decide +kernel
theorem dX9_text_24 : decode cX9_text 24 = .ok (.aload_n 0, 1) := by decide +kernel
theorem dX9_text_25 : decode cX9_text 25 = .ok (.getfield 43, 3) := by decide +kernel
theorem dX9_text_28 : decode cX9_text 28 = .ok (.getfield 120, 3) := by decide +kernel
theorem dX9_text_31 : decode cX9_text 31 = .ok (.putfield 50, 3) := by decide +kernel
theorem dX9_text_34 : decode cX9_text 34 = .ok (.aload_n 0, 1) := by decide +kernel
theorem dX9_text_35 : decode cX9_text 35 = .ok (.iconst 0, 1) := by decide +kernel
theorem dX9_text_36 : decode cX9_text 36 = .ok (.putfield 34, 3) := by decide +kernel
theorem dX9_text_39 : decode cX9_text 39 = .ok (.iload_n 1, 1) := by decide +kernel
theorem dX9_text_40 : decode cX9_text 40 = .ok (.ifCond .ne 5, 3) := by decide +kernel
theorem dX9_text_43 : decode cX9_text 43 = .ok (.iconst (-1), 1) := by decide +kernel
theorem dX9_text_44 : decode cX9_text 44 = .ok (.ireturn, 1) := by decide +kernel
theorem dX9_text_45 : decode cX9_text 45 = .ok (.aload_n 0, 1) := by decide +kernel
theorem dX9_text_46 : decode cX9_text 46 = .ok (.getfield 10, 3) := by decide +kernel
theorem dX9_text_49 : decode cX9_text 49 = .ok (.getfield 123, 3) := by decide +kernel
theorem dX9_text_52 : decode cX9_text 52 = .ok (.aload_n 0, 1) := by decide +kernel
theorem dX9_text_53 : decode cX9_text 53 = .ok (.getfield 43, 3) := by decide +kernel
theorem dX9_text_56 : decode cX9_text 56 = .ok (.getfield 127, 3) := by decide +kernel
theorem dX9_text_59 : decode cX9_text 59 = .ok (.invokevirtual 130, 3) := by decide +kernel
theorem dX9_text_62 : decode cX9_text 62 = .ok (.aload_n 0, 1) := by decide +kernel
theorem dX9_text_63 : decode cX9_text 63 = .ok (.getfield 10, 3) := by decide +kernel
theorem dX9_text_66 : decode cX9_text 66 = .ok (.getfield 123, 3) := by decide +kernel
theorem dX9_text_69 : decode cX9_text 69 = .ok (.getfield 136, 3) := by decide +kernel
theorem dX9_text_72 : decode cX9_text 72 = .ok (.ireturn, 1) := by decide +kernel
theorem dX9_fault_0 : decode cX9_fault 0 = .ok (.iload_n 1, 1) := by decide +kernel
theorem dX9_fault_1 : decode cX9_fault 1 = .ok (.ifCond .ne 8, 3) := by decide +kernel
theorem dX9_fault_4 : decode cX9_fault 4 = .ok (.aload_n 0, 1) := by decide +kernel
theorem dX9_fault_5 : decode cX9_fault 5 = .ok (.getfield 47, 3) := by decide +kernel
theorem dX9_fault_8 : decode cX9_fault 8 = .ok (.ireturn, 1) := by decide +kernel
theorem dX9_fault_9 : decode cX9_fault 9 = .ok (.iload_n 1, 1) := by decide +kernel
theorem dX9_fault_10 : decode cX9_fault 10 = .ok (.iconst 1, 1) := by decide +kernel
theorem dX9_fault_11 : decode cX9_fault 11 = .ok (.if_icmp .ne 10, 3) := by decide +kernel
theorem dX9_fault_14 : decode cX9_fault 14 = .ok (.aload_n 0, 1) := by decide +kernel
theorem dX9_fault_15 : decode cX9_fault 15 = .ok (.getfield 50, 3) := by decide +kernel
theorem dX9_fault_18 : decode cX9_fault 18 = .ok (.goto 4, 3) := by decide +kernel
theorem dX9_fault_21 : decode cX9_fault 21 = .ok (.iconst (-1), 1) := by decide +kernel
theorem dX9_fault_22 : decode cX9_fault 22 = .ok (.ireturn, 1) := by decide +kernel
theorem dX9_speak_0 : decode cX9_speak 0 = .ok (.iload_n 1, 1) := by decide +kernel
theorem dX9_speak_1 : decode cX9_speak 1 = .ok (.iload_n 2, 1) := by decide +kernel
theorem dX9_speak_2 : decode cX9_speak 2 = .ok (.if_icmp .eq 25, 3) := by decide +kernel
theorem dX9_speak_5 : decode cX9_speak 5 = .ok (.aload_n 0, 1) := by decide +kernel
theorem dX9_speak_6 : decode cX9_speak 6 = .ok (.getfield 10, 3) := by decide +kernel
theorem dX9_speak_9 : decode cX9_speak 9 = .ok (.iload_n 1, 1) := by decide +kernel
theorem dX9_speak_10 : decode cX9_speak 10 = .ok (.invokevirtual 139, 3) := by decide +kernel
theorem dX9_speak_13 : decode cX9_speak 13 = .ok (.ifCond .eq 14, 3) := by decide +kernel
theorem dX9_speak_16 : decode cX9_speak 16 = .ok (.aload_n 0, 1) := by decide +kernel
theorem dX9_speak_17 : decode cX9_speak 17 = .ok (.getfield 10, 3) := by decide +kernel
theorem dX9_speak_20 : decode cX9_speak 20 = .ok (.iload_n 2, 1) := by decide +kernel
theorem dX9_speak_21 : decode cX9_speak 21 = .ok (.invokevirtual 139, 3) := by decide +kernel
theorem dX9_speak_24 : decode cX9_speak 24 = .ok (.ifCond .ne 5, 3) := by decide +kernel
theorem dX9_speak_27 : decode cX9_speak 27 = .ok (.iconst (-1), 1) := by decide +kernel
theorem dX9_speak_28 : decode cX9_speak 28 = .ok (.ireturn, 1) := by decide +kernel
theorem dX9_speak_29 : decode cX9_speak 29 = .ok (.aload_n 0, 1) := by decide +kernel
theorem dX9_speak_30 : decode cX9_speak 30 = .ok (.getfield 26, 3) := by decide +kernel
theorem dX9_speak_33 : decode cX9_speak 33 = .ok (.aload_n 0, 1) := by decide +kernel
theorem dX9_speak_34 : decode cX9_speak 34 = .ok (.getfield 10, 3) := by decide +kernel
theorem dX9_speak_37 : decode cX9_speak 37 = .ok (.invokevirtual 142, 3) := by decide +kernel
theorem dX9_speak_40 : decode cX9_speak 40 = .ok (.aload_n 0, 1) := by decide +kernel
theorem dX9_speak_41 : decode cX9_speak 41 = .ok (.getfield 58, 3) := by decide +kernel
theorem dX9_speak_44 : decode cX9_speak 44 = .ok (.iload_n 1, 1) := by decide +kernel
theorem dX9_speak_45 : decode cX9_speak 45 = .ok (.iload_n 2, 1) := by decide +kernel
theorem dX9_speak_46 : decode cX9_speak 46 = .ok (.invokevirtual 145, 3) := by decide +kernel
theorem dX9_speak_49 : decode cX9_speak 49 = .ok (.istore_n 3, 1) := by decide +kernel
theorem dX9_speak_50 : decode cX9_speak 50 = .ok (.aload_n 0, 1) := by decide +kernel
theorem dX9_speak_51 : decode cX9_speak 51 = .ok (.getfield 10, 3) := by decide +kernel
theorem dX9_speak_54 : decode cX9_speak 54 = .ok (.getfield 149, 3) := by decide +kernel
theorem dX9_speak_57 : decode cX9_speak 57 = .ok (.iload_n 1, 1) := by decide +kernel
theorem dX9_speak_58 : decode cX9_speak 58 = .ok (.iload_n 2, 1) := by decide +kernel
theorem dX9_speak_59 : decode cX9_speak 59 = .ok (.invokestatic 153, 3) := by decide +kernel
theorem dX9_speak_62 : decode cX9_speak 62 = .ok (.iload_n 1, 1) := by decide +kernel
theorem dX9_speak_63 : decode cX9_speak 63 = .ok (.iload_n 2, 1) := by decide +kernel
theorem dX9_speak_64 : decode cX9_speak 64 = .ok (.invokestatic 158, 3) := by decide +kernel
theorem dX9_speak_67 : decode cX9_speak 67 = .ok (.aload_n 0, 1) := by decide +kernel
theorem dX9_speak_68 : decode cX9_speak 68 = .ok (.getfield 10, 3) := by decide +kernel
theorem dX9_speak_71 : decode cX9_speak 71 = .ok (.iload_n 1, 1) := by decide +kernel
theorem dX9_speak_72 : decode cX9_speak 72 = .ok (.iload_n 2, 1) := by decide +kernel
theorem dX9_speak_73 : decode cX9_speak 73 = .ok (.invokevirtual 161, 3) := by decide +kernel
theorem dX9_speak_76 : decode cX9_speak 76 = .ok (.aload_n 0, 1) := by decide +kernel
theorem dX9_speak_77 : decode cX9_speak 77 = .ok (.getfield 10, 3) := by decide +kernel
theorem dX9_speak_80 : decode cX9_speak 80 = .ok (.getfield 164, 3) := by decide +kernel
theorem dX9_speak_83 : decode cX9_speak 83 = .ok (.iload_n 3, 1) := by decide +kernel
theorem dX9_speak_84 : decode cX9_speak 84 = .ok (.invokevirtual 167, 3) := by decide +kernel
theorem dX9_speak_87 : decode cX9_speak 87 = .ok (.iload_n 3, 1) := by decide +kernel
theorem dX9_speak_88 : decode cX9_speak 88 = .ok (.ireturn, 1) := by decide +kernel
theorem dX9_hours_0 : decode cX9_hours 0 = .ok (.iload_n 1, 1) := by decide +kernel
theorem dX9_hours_1 : decode cX9_hours 1 = .ok (.iconst 1, 1) := by decide +kernel
theorem dX9_hours_2 : decode cX9_hours 2 = .ok (.if_icmp .lt 24, 3) := by decide +kernel
theorem dX9_hours_5 : decode cX9_hours 5 = .ok (.iload_n 1, 1) := by decide +kernel
theorem dX9_hours_6 : decode cX9_hours 6 = .ok (.bipush 100, 2) := by decide +kernel
theorem dX9_hours_8 : decode cX9_hours 8 = .ok (.if_icmp .gt 18, 3) := by decide +kernel
theorem dX9_hours_11 : decode cX9_hours 11 = .ok (.aload_n 0, 1) := by decide +kernel
theorem dX9_hours_12 : decode cX9_hours 12 = .ok (.getfield 10, 3) := by decide +kernel
theorem dX9_hours_15 : decode cX9_hours 15 = .ok (.getfield 164, 3) := by decide +kernel
theorem dX9_hours_18 : decode cX9_hours 18 = .ok (.iload_n 1, 1) := by decide +kernel
theorem dX9_hours_19 : decode cX9_hours 19 = .ok (.iadd, 1) := by decide +kernel
theorem dX9_hours_20 : decode cX9_hours 20 = .ok (.sipush 9999, 3) := by decide +kernel
theorem dX9_hours_23 : decode cX9_hours 23 = .ok (.if_icmp .le 5, 3) := by decide +kernel
theorem dX9_hours_26 : decode cX9_hours 26 = .ok (.iconst (-1), 1) := by decide +kernel
theorem dX9_hours_27 : decode cX9_hours 27 = .ok (.ireturn, 1) := by decide +kernel
theorem dX9_hours_28 : decode cX9_hours 28 = .ok (.iconst 0, 1) := by decide +kernel
theorem dX9_hours_29 : decode cX9_hours 29 = .ok (.istore_n 2, 1) := by decide +kernel
theorem dX9_hours_30 : decode cX9_hours 30 = .ok (.iconst 0, 1) := by decide +kernel
theorem dX9_hours_31 : decode cX9_hours 31 = .ok (.istore_n 3, 1) := by decide +kernel
theorem dX9_hours_32 : decode cX9_hours 32 = .ok (.iload_n 3, 1) := by decide +kernel
theorem dX9_hours_33 : decode cX9_hours 33 = .ok (.iload_n 1, 1) := by decide +kernel
theorem dX9_hours_34 : decode cX9_hours 34 = .ok (.if_icmp .ge 30, 3) := by decide +kernel
theorem dX9_hours_37 : decode cX9_hours 37 = .ok (.aload_n 0, 1) := by decide +kernel
theorem dX9_hours_38 : decode cX9_hours 38 = .ok (.getfield 26, 3) := by decide +kernel
theorem dX9_hours_41 : decode cX9_hours 41 = .ok (.aload_n 0, 1) := by decide +kernel
theorem dX9_hours_42 : decode cX9_hours 42 = .ok (.getfield 10, 3) := by decide +kernel
theorem dX9_hours_45 : decode cX9_hours 45 = .ok (.invokevirtual 142, 3) := by decide +kernel
theorem dX9_hours_48 : decode cX9_hours 48 = .ok (.iload_n 2, 1) := by decide +kernel
theorem dX9_hours_49 : decode cX9_hours 49 = .ok (.aload_n 0, 1) := by decide +kernel
theorem dX9_hours_50 : decode cX9_hours 50 = .ok (.getfield 10, 3) := by decide +kernel
theorem dX9_hours_53 : decode cX9_hours 53 = .ok (.invokevirtual 173, 3) := by decide +kernel
theorem dX9_hours_56 : decode cX9_hours 56 = .ok (.iadd, 1) := by decide +kernel
theorem dX9_hours_57 : decode cX9_hours 57 = .ok (.istore_n 2, 1) := by decide +kernel
theorem dX9_hours_58 : decode cX9_hours 58 = .ok (.iinc 3 1, 3) := by decide +kernel
theorem dX9_hours_61 : decode cX9_hours 61 = .ok (.goto (-29), 3) := by decide +kernel
theorem dX9_hours_64 : decode cX9_hours 64 = .ok (.iload_n 2, 1) := by decide +kernel
theorem dX9_hours_65 : decode cX9_hours 65 = .ok (.ireturn, 1) := by decide +kernel
theorem dX9_of_0 : decode cX9_of 0 = .ok (.aload_n 0, 1) := by decide +kernel
theorem dX9_of_1 : decode cX9_of 1 = .ok (.getfield 10, 3) := by decide +kernel
theorem dX9_of_4 : decode cX9_of 4 = .ok (.iload_n 1, 1) := by decide +kernel
theorem dX9_of_5 : decode cX9_of 5 = .ok (.invokevirtual 103, 3) := by decide +kernel
theorem dX9_of_8 : decode cX9_of 8 = .ok (.ifCond .ne 6, 3) := by decide +kernel
theorem dX9_of_11 : decode cX9_of 11 = .ok (.bipush (-2), 2) := by decide +kernel
theorem dX9_of_13 : decode cX9_of 13 = .ok (.ireturn, 1) := by decide +kernel
theorem dX9_of_14 : decode cX9_of 14 = .ok (.iload_n 2, 1) := by decide +kernel
theorem dX9_of_15 : decode cX9_of 15 = .ok (.tableswitch 97 0 4 #[33, 43, 55, 65, 81], 33) := by decide +kernel
theorem dX9_of_48 : decode cX9_of 48 = .ok (.aload_n 0, 1) := by decide +kernel
theorem dX9_of_49 : decode cX9_of 49 = .ok (.getfield 10, 3) := by decide +kernel
theorem dX9_of_52 : decode cX9_of 52 = .ok (.getfield 96, 3) := by decide +kernel
theorem dX9_of_55 : decode cX9_of 55 = .ok (.iload_n 1, 1) := by decide +kernel
theorem dX9_of_56 : decode cX9_of 56 = .ok (.iaload, 1) := by decide +kernel
theorem dX9_of_57 : decode cX9_of 57 = .ok (.ireturn, 1) := by decide +kernel
theorem dX9_of_58 : decode cX9_of 58 = .ok (.aload_n 0, 1) := by decide +kernel
theorem dX9_of_59 : decode cX9_of 59 = .ok (.getfield 10, 3) := by decide +kernel
theorem dX9_of_62 : decode cX9_of 62 = .ok (.getfield 177, 3) := by decide +kernel
theorem dX9_of_65 : decode cX9_of 65 = .ok (.iload_n 1, 1) := by decide +kernel
theorem dX9_of_66 : decode cX9_of 66 = .ok (.ishr, 1) := by decide +kernel
theorem dX9_of_67 : decode cX9_of 67 = .ok (.iconst 1, 1) := by decide +kernel
theorem dX9_of_68 : decode cX9_of 68 = .ok (.iand, 1) := by decide +kernel
theorem dX9_of_69 : decode cX9_of 69 = .ok (.ireturn, 1) := by decide +kernel
theorem dX9_of_70 : decode cX9_of 70 = .ok (.aload_n 0, 1) := by decide +kernel
theorem dX9_of_71 : decode cX9_of 71 = .ok (.getfield 10, 3) := by decide +kernel
theorem dX9_of_74 : decode cX9_of 74 = .ok (.getfield 180, 3) := by decide +kernel
theorem dX9_of_77 : decode cX9_of 77 = .ok (.iload_n 1, 1) := by decide +kernel
theorem dX9_of_78 : decode cX9_of 78 = .ok (.iaload, 1) := by decide +kernel
theorem dX9_of_79 : decode cX9_of 79 = .ok (.ireturn, 1) := by decide +kernel
theorem dX9_of_80 : decode cX9_of 80 = .ok (.aload_n 0, 1) := by decide +kernel
theorem dX9_of_81 : decode cX9_of 81 = .ok (.getfield 58, 3) := by decide +kernel
theorem dX9_of_84 : decode cX9_of 84 = .ok (.iload_n 1, 1) := by decide +kernel
theorem dX9_of_85 : decode cX9_of 85 = .ok (.aload_n 0, 1) := by decide +kernel
theorem dX9_of_86 : decode cX9_of 86 = .ok (.getfield 10, 3) := by decide +kernel
theorem dX9_of_89 : decode cX9_of 89 = .ok (.getfield 177, 3) := by decide +kernel
theorem dX9_of_92 : decode cX9_of 92 = .ok (.invokevirtual 183, 3) := by decide +kernel
theorem dX9_of_95 : decode cX9_of 95 = .ok (.ireturn, 1) := by decide +kernel
theorem dX9_of_96 : decode cX9_of 96 = .ok (.aload_n 0, 1) := by decide +kernel
theorem dX9_of_97 : decode cX9_of 97 = .ok (.getfield 58, 3) := by decide +kernel
theorem dX9_of_100 : decode cX9_of 100 = .ok (.iload_n 1, 1) := by decide +kernel
theorem dX9_of_101 : decode cX9_of 101 = .ok (.aload_n 0, 1) := by decide +kernel
theorem dX9_of_102 : decode cX9_of 102 = .ok (.getfield 10, 3) := by decide +kernel
theorem dX9_of_105 : decode cX9_of 105 = .ok (.getfield 177, 3) := by decide +kernel
theorem dX9_of_108 : decode cX9_of 108 = .ok (.invokevirtual 186, 3) := by decide +kernel
theorem dX9_of_111 : decode cX9_of 111 = .ok (.ireturn, 1) := by decide +kernel
theorem dX9_of_112 : decode cX9_of 112 = .ok (.bipush (-2), 2) := by decide +kernel
theorem dX9_of_114 : decode cX9_of 114 = .ok (.ireturn, 1) := by decide +kernel
theorem dX9_hears_0 : decode cX9_hears 0 = .ok (.aload_n 0, 1) := by decide +kernel
theorem dX9_hears_1 : decode cX9_hears 1 = .ok (.iload_n 1, 1) := by decide +kernel
theorem dX9_hears_2 : decode cX9_hears 2 = .ok (.iload_n 2, 1) := by decide +kernel
theorem dX9_hears_3 : decode cX9_hears 3 = .ok (.iload_n 3, 1) := by decide +kernel
theorem dX9_hears_4 : decode cX9_hears 4 = .ok (.invokevirtual 189, 3) := by decide +kernel
theorem dX9_hears_7 : decode cX9_hears 7 = .ok (.ifCond .eq 25, 3) := by decide +kernel
theorem dX9_hears_10 : decode cX9_hears 10 = .ok (.aload_n 0, 1) := by decide +kernel
theorem dX9_hears_11 : decode cX9_hears 11 = .ok (.getfield 10, 3) := by decide +kernel
theorem dX9_hears_14 : decode cX9_hears 14 = .ok (.iload_n 2, 1) := by decide +kernel
theorem dX9_hears_15 : decode cX9_hears 15 = .ok (.invokevirtual 139, 3) := by decide +kernel
theorem dX9_hears_18 : decode cX9_hears 18 = .ok (.ifCond .eq 14, 3) := by decide +kernel
theorem dX9_hears_21 : decode cX9_hears 21 = .ok (.aload_n 0, 1) := by decide +kernel
theorem dX9_hears_22 : decode cX9_hears 22 = .ok (.getfield 10, 3) := by decide +kernel
theorem dX9_hears_25 : decode cX9_hears 25 = .ok (.iload_n 3, 1) := by decide +kernel
theorem dX9_hears_26 : decode cX9_hears 26 = .ok (.invokevirtual 139, 3) := by decide +kernel
theorem dX9_hears_29 : decode cX9_hears 29 = .ok (.ifCond .ne 5, 3) := by decide +kernel
theorem dX9_hears_32 : decode cX9_hears 32 = .ok (.iconst (-1), 1) := by decide +kernel
theorem dX9_hears_33 : decode cX9_hears 33 = .ok (.ireturn, 1) := by decide +kernel
theorem dX9_hears_34 : decode cX9_hears 34 = .ok (.aload_n 0, 1) := by decide +kernel
theorem dX9_hears_35 : decode cX9_hears 35 = .ok (.getfield 58, 3) := by decide +kernel
theorem dX9_hears_38 : decode cX9_hears 38 = .ok (.iload_n 1, 1) := by decide +kernel
theorem dX9_hears_39 : decode cX9_hears 39 = .ok (.aload_n 0, 1) := by decide +kernel
theorem dX9_hears_40 : decode cX9_hears 40 = .ok (.getfield 10, 3) := by decide +kernel
theorem dX9_hears_43 : decode cX9_hears 43 = .ok (.getfield 177, 3) := by decide +kernel
theorem dX9_hears_46 : decode cX9_hears 46 = .ok (.iload_n 2, 1) := by decide +kernel
theorem dX9_hears_47 : decode cX9_hears 47 = .ok (.iload_n 3, 1) := by decide +kernel
theorem dX9_hears_48 : decode cX9_hears 48 = .ok (.invokevirtual 192, 3) := by decide +kernel
theorem dX9_hears_51 : decode cX9_hears 51 = .ok (.ifCond .eq 7, 3) := by decide +kernel
theorem dX9_hears_54 : decode cX9_hears 54 = .ok (.iconst 1, 1) := by decide +kernel
theorem dX9_hears_55 : decode cX9_hears 55 = .ok (.goto 4, 3) := by decide +kernel
theorem dX9_hears_58 : decode cX9_hears 58 = .ok (.iconst 0, 1) := by decide +kernel
theorem dX9_hears_59 : decode cX9_hears 59 = .ok (.ireturn, 1) := by decide +kernel
theorem dX9_deaf_0 : decode cX9_deaf 0 = .ok (.iload_n 1, 1) := by decide +kernel
theorem dX9_deaf_1 : decode cX9_deaf 1 = .ok (.iload_n 2, 1) := by decide +kernel
theorem dX9_deaf_2 : decode cX9_deaf 2 = .ok (.if_icmp .eq 25, 3) := by decide +kernel
theorem dX9_deaf_5 : decode cX9_deaf 5 = .ok (.aload_n 0, 1) := by decide +kernel
theorem dX9_deaf_6 : decode cX9_deaf 6 = .ok (.getfield 10, 3) := by decide +kernel
theorem dX9_deaf_9 : decode cX9_deaf 9 = .ok (.iload_n 1, 1) := by decide +kernel
theorem dX9_deaf_10 : decode cX9_deaf 10 = .ok (.invokevirtual 103, 3) := by decide +kernel
theorem dX9_deaf_13 : decode cX9_deaf 13 = .ok (.ifCond .eq 14, 3) := by decide +kernel
theorem dX9_deaf_16 : decode cX9_deaf 16 = .ok (.aload_n 0, 1) := by decide +kernel
theorem dX9_deaf_17 : decode cX9_deaf 17 = .ok (.getfield 10, 3) := by decide +kernel
theorem dX9_deaf_20 : decode cX9_deaf 20 = .ok (.iload_n 2, 1) := by decide +kernel
theorem dX9_deaf_21 : decode cX9_deaf 21 = .ok (.invokevirtual 103, 3) := by decide +kernel
theorem dX9_deaf_24 : decode cX9_deaf 24 = .ok (.ifCond .ne 7, 3) := by decide +kernel
theorem dX9_deaf_27 : decode cX9_deaf 27 = .ok (.sipush (-1000), 3) := by decide +kernel
theorem dX9_deaf_30 : decode cX9_deaf 30 = .ok (.ireturn, 1) := by decide +kernel
theorem dX9_deaf_31 : decode cX9_deaf 31 = .ok (.aload_n 0, 1) := by decide +kernel
theorem dX9_deaf_32 : decode cX9_deaf 32 = .ok (.getfield 10, 3) := by decide +kernel
theorem dX9_deaf_35 : decode cX9_deaf 35 = .ok (.getfield 177, 3) := by decide +kernel
theorem dX9_deaf_38 : decode cX9_deaf 38 = .ok (.iconst 1, 1) := by decide +kernel
theorem dX9_deaf_39 : decode cX9_deaf 39 = .ok (.iload_n 2, 1) := by decide +kernel
theorem dX9_deaf_40 : decode cX9_deaf 40 = .ok (.ishl, 1) := by decide +kernel
theorem dX9_deaf_41 : decode cX9_deaf 41 = .ok (.iconst (-1), 1) := by decide +kernel
theorem dX9_deaf_42 : decode cX9_deaf 42 = .ok (.ixor, 1) := by decide +kernel
theorem dX9_deaf_43 : decode cX9_deaf 43 = .ok (.iand, 1) := by decide +kernel
theorem dX9_deaf_44 : decode cX9_deaf 44 = .ok (.istore_n 3, 1) := by decide +kernel
theorem dX9_deaf_45 : decode cX9_deaf 45 = .ok (.aload_n 0, 1) := by decide +kernel
theorem dX9_deaf_46 : decode cX9_deaf 46 = .ok (.getfield 58, 3) := by decide +kernel
theorem dX9_deaf_49 : decode cX9_deaf 49 = .ok (.iload_n 1, 1) := by decide +kernel
theorem dX9_deaf_50 : decode cX9_deaf 50 = .ok (.aload_n 0, 1) := by decide +kernel
theorem dX9_deaf_51 : decode cX9_deaf 51 = .ok (.getfield 10, 3) := by decide +kernel
theorem dX9_deaf_54 : decode cX9_deaf 54 = .ok (.getfield 177, 3) := by decide +kernel
theorem dX9_deaf_57 : decode cX9_deaf 57 = .ok (.invokevirtual 183, 3) := by decide +kernel
theorem dX9_deaf_60 : decode cX9_deaf 60 = .ok (.aload_n 0, 1) := by decide +kernel
theorem dX9_deaf_61 : decode cX9_deaf 61 = .ok (.getfield 58, 3) := by decide +kernel
theorem dX9_deaf_64 : decode cX9_deaf 64 = .ok (.iload_n 1, 1) := by decide +kernel
theorem dX9_deaf_65 : decode cX9_deaf 65 = .ok (.iload_n 3, 1) := by decide +kernel
theorem dX9_deaf_66 : decode cX9_deaf 66 = .ok (.invokevirtual 183, 3) := by decide +kernel
theorem dX9_deaf_69 : decode cX9_deaf 69 = .ok (.isub, 1) := by decide +kernel
theorem dX9_deaf_70 : decode cX9_deaf 70 = .ok (.ireturn, 1) := by decide +kernel
theorem dX9_book_0 : decode cX9_book 0 = .ok (.aload_n 0, 1) := by decide +kernel
theorem dX9_book_1 : decode cX9_book 1 = .ok (.getfield 10, 3) := by decide +kernel
theorem dX9_book_4 : decode cX9_book 4 = .ok (.getfield 149, 3) := by decide +kernel
theorem dX9_book_7 : decode cX9_book 7 = .ok (.iload_n 1, 1) := by decide +kernel
theorem dX9_book_8 : decode cX9_book 8 = .ok (.iload_n 2, 1) := by decide +kernel
theorem dX9_book_9 : decode cX9_book 9 = .ok (.invokevirtual 196, 3) := by decide +kernel
theorem dX9_book_12 : decode cX9_book 12 = .ok (.ireturn, 1) := by decide +kernel
theorem dX9_tune_0 : decode cX9_tune 0 = .ok (.iload_n 1, 1) := by decide +kernel
theorem dX9_tune_1 : decode cX9_tune 1 = .ok (.invokestatic 199, 3) := by decide +kernel
theorem dX9_tune_4 : decode cX9_tune 4 = .ok (.ifCond .eq 10, 3) := by decide +kernel
theorem dX9_tune_7 : decode cX9_tune 7 = .ok (.iload_n 2, 1) := by decide +kernel
theorem dX9_tune_8 : decode cX9_tune 8 = .ok (.invokestatic 89, 3) := by decide +kernel
theorem dX9_tune_11 : decode cX9_tune 11 = .ok (.ifCond .ne 5, 3) := by decide +kernel
theorem dX9_tune_14 : decode cX9_tune 14 = .ok (.iconst (-1), 1) := by decide +kernel
theorem dX9_tune_15 : decode cX9_tune 15 = .ok (.ireturn, 1) := by decide +kernel
theorem dX9_tune_16 : decode cX9_tune 16 = .ok (.aload_n 0, 1) := by decide +kernel
theorem dX9_tune_17 : decode cX9_tune 17 = .ok (.getfield 10, 3) := by decide +kernel
theorem dX9_tune_20 : decode cX9_tune 20 = .ok (.getfield 202, 3) := by decide +kernel
theorem dX9_tune_23 : decode cX9_tune 23 = .ok (.iload_n 1, 1) := by decide +kernel
theorem dX9_tune_24 : decode cX9_tune 24 = .ok (.iaload, 1) := by decide +kernel
theorem dX9_tune_25 : decode cX9_tune 25 = .ok (.istore_n 3, 1) := by decide +kernel
theorem dX9_tune_26 : decode cX9_tune 26 = .ok (.iload_n 2, 1) := by decide +kernel
theorem dX9_tune_27 : decode cX9_tune 27 = .ok (.iconst (-1), 1) := by decide +kernel
theorem dX9_tune_28 : decode cX9_tune 28 = .ok (.if_icmp .ne 15, 3) := by decide +kernel
theorem dX9_tune_31 : decode cX9_tune 31 = .ok (.aload_n 0, 1) := by decide +kernel
theorem dX9_tune_32 : decode cX9_tune 32 = .ok (.getfield 10, 3) := by decide +kernel
theorem dX9_tune_35 : decode cX9_tune 35 = .ok (.getfield 202, 3) := by decide +kernel
theorem dX9_tune_38 : decode cX9_tune 38 = .ok (.iload_n 1, 1) := by decide +kernel
theorem dX9_tune_39 : decode cX9_tune 39 = .ok (.iconst 0, 1) := by decide +kernel
theorem dX9_tune_40 : decode cX9_tune 40 = .ok (.iastore, 1) := by decide +kernel
theorem dX9_tune_41 : decode cX9_tune 41 = .ok (.iconst 0, 1) := by decide +kernel
theorem dX9_tune_42 : decode cX9_tune 42 = .ok (.ireturn, 1) := by decide +kernel
theorem dX9_tune_43 : decode cX9_tune 43 = .ok (.iload_n 3, 1) := by decide +kernel
theorem dX9_tune_44 : decode cX9_tune 44 = .ok (.bipush 12, 2) := by decide +kernel
theorem dX9_tune_46 : decode cX9_tune 46 = .ok (.if_icmp .lt 5, 3) := by decide +kernel
theorem dX9_tune_49 : decode cX9_tune 49 = .ok (.iconst (-1), 1) := by decide +kernel
theorem dX9_tune_50 : decode cX9_tune 50 = .ok (.ireturn, 1) := by decide +kernel
theorem dX9_tune_51 : decode cX9_tune 51 = .ok (.aload_n 0, 1) := by decide +kernel
theorem dX9_tune_52 : decode cX9_tune 52 = .ok (.getfield 10, 3) := by decide +kernel
theorem dX9_tune_55 : decode cX9_tune 55 = .ok (.getfield 205, 3) := by decide +kernel
theorem dX9_tune_58 : decode cX9_tune 58 = .ok (.iload_n 1, 1) := by decide +kernel
theorem dX9_tune_59 : decode cX9_tune 59 = .ok (.bipush 12, 2) := by decide +kernel
theorem dX9_tune_61 : decode cX9_tune 61 = .ok (.imul, 1) := by decide +kernel
theorem dX9_tune_62 : decode cX9_tune 62 = .ok (.iload_n 3, 1) := by decide +kernel
theorem dX9_tune_63 : decode cX9_tune 63 = .ok (.iadd, 1) := by decide +kernel
theorem dX9_tune_64 : decode cX9_tune 64 = .ok (.iload_n 2, 1) := by decide +kernel
theorem dX9_tune_65 : decode cX9_tune 65 = .ok (.iastore, 1) := by decide +kernel
theorem dX9_tune_66 : decode cX9_tune 66 = .ok (.aload_n 0, 1) := by decide +kernel
theorem dX9_tune_67 : decode cX9_tune 67 = .ok (.getfield 10, 3) := by decide +kernel
theorem dX9_tune_70 : decode cX9_tune 70 = .ok (.getfield 202, 3) := by decide +kernel
theorem dX9_tune_73 : decode cX9_tune 73 = .ok (.iload_n 1, 1) := by decide +kernel
theorem dX9_tune_74 : decode cX9_tune 74 = .ok (.iload_n 3, 1) := by decide +kernel
theorem dX9_tune_75 : decode cX9_tune 75 = .ok (.iconst 1, 1) := by decide +kernel
theorem dX9_tune_76 : decode cX9_tune 76 = .ok (.iadd, 1) := by decide +kernel
theorem dX9_tune_77 : decode cX9_tune 77 = .ok (.iastore, 1) := by decide +kernel
theorem dX9_tune_78 : decode cX9_tune 78 = .ok (.iload_n 3, 1) := by decide +kernel
theorem dX9_tune_79 : decode cX9_tune 79 = .ok (.iconst 1, 1) := by decide +kernel
theorem dX9_tune_80 : decode cX9_tune 80 = .ok (.iadd, 1) := by decide +kernel
theorem dX9_tune_81 : decode cX9_tune 81 = .ok (.ireturn, 1) := by decide +kernel
theorem dX9_same_0 : decode cX9_same 0 = .ok (.iload_n 1, 1) := by decide +kernel
theorem dX9_same_1 : decode cX9_same 1 = .ok (.invokestatic 199, 3) := by decide +kernel
theorem dX9_same_4 : decode cX9_same 4 = .ok (.ifCond .eq 10, 3) := by decide +kernel
theorem dX9_same_7 : decode cX9_same 7 = .ok (.iload_n 2, 1) := by decide +kernel
theorem dX9_same_8 : decode cX9_same 8 = .ok (.invokestatic 199, 3) := by decide +kernel
theorem dX9_same_11 : decode cX9_same 11 = .ok (.ifCond .ne 5, 3) := by decide +kernel
theorem dX9_same_14 : decode cX9_same 14 = .ok (.iconst (-1), 1) := by decide +kernel
theorem dX9_same_15 : decode cX9_same 15 = .ok (.ireturn, 1) := by decide +kernel
theorem dX9_same_16 : decode cX9_same 16 = .ok (.aload_n 0, 1) := by decide +kernel
theorem dX9_same_17 : decode cX9_same 17 = .ok (.getfield 10, 3) := by decide +kernel
theorem dX9_same_20 : decode cX9_same 20 = .ok (.getfield 202, 3) := by decide +kernel
theorem dX9_same_23 : decode cX9_same 23 = .ok (.iload_n 1, 1) := by decide +kernel
theorem dX9_same_24 : decode cX9_same 24 = .ok (.iaload, 1) := by decide +kernel
theorem dX9_same_25 : decode cX9_same 25 = .ok (.istore_n 3, 1) := by decide +kernel
theorem dX9_same_26 : decode cX9_same 26 = .ok (.iload_n 3, 1) := by decide +kernel
theorem dX9_same_27 : decode cX9_same 27 = .ok (.ifCond .eq 16, 3) := by decide +kernel
theorem dX9_same_30 : decode cX9_same 30 = .ok (.iload_n 3, 1) := by decide +kernel
theorem dX9_same_31 : decode cX9_same 31 = .ok (.aload_n 0, 1) := by decide +kernel
theorem dX9_same_32 : decode cX9_same 32 = .ok (.getfield 10, 3) := by decide +kernel
theorem dX9_same_35 : decode cX9_same 35 = .ok (.getfield 202, 3) := by decide +kernel
theorem dX9_same_38 : decode cX9_same 38 = .ok (.iload_n 2, 1) := by decide +kernel
theorem dX9_same_39 : decode cX9_same 39 = .ok (.iaload, 1) := by decide +kernel
theorem dX9_same_40 : decode cX9_same 40 = .ok (.if_icmp .eq 5, 3) := by decide +kernel
theorem dX9_same_43 : decode cX9_same 43 = .ok (.iconst 0, 1) := by decide +kernel
theorem dX9_same_44 : decode cX9_same 44 = .ok (.ireturn, 1) := by decide +kernel
theorem dX9_same_45 : decode cX9_same 45 = .ok (.aload_n 0, 1) := by decide +kernel
theorem dX9_same_46 : decode cX9_same 46 = .ok (.iload_n 1, 1) := by decide +kernel
theorem dX9_same_47 : decode cX9_same 47 = .ok (.iload_n 2, 1) := by decide +kernel
theorem dX9_same_48 : decode cX9_same 48 = .ok (.iload_n 3, 1) := by decide +kernel
theorem dX9_same_49 : decode cX9_same 49 = .ok (.iconst 1, 1) := by decide +kernel
theorem dX9_same_50 : decode cX9_same 50 = .ok (.invokevirtual 208, 3) := by decide +kernel
theorem dX9_same_53 : decode cX9_same 53 = .ok (.ifCond .eq 30, 3) := by decide +kernel
theorem dX9_same_56 : decode cX9_same 56 = .ok (.aload_n 0, 1) := by decide +kernel
theorem dX9_same_57 : decode cX9_same 57 = .ok (.getfield 10, 3) := by decide +kernel
theorem dX9_same_60 : decode cX9_same 60 = .ok (.iload_n 1, 1) := by decide +kernel
theorem dX9_same_61 : decode cX9_same 61 = .ok (.iconst 0, 1) := by decide +kernel
theorem dX9_same_62 : decode cX9_same 62 = .ok (.invokevirtual 211, 3) := by decide +kernel
theorem dX9_same_65 : decode cX9_same 65 = .ok (.aload_n 0, 1) := by decide +kernel
theorem dX9_same_66 : decode cX9_same 66 = .ok (.getfield 10, 3) := by decide +kernel
theorem dX9_same_69 : decode cX9_same 69 = .ok (.iload_n 2, 1) := by decide +kernel
theorem dX9_same_70 : decode cX9_same 70 = .ok (.iconst 0, 1) := by decide +kernel
theorem dX9_same_71 : decode cX9_same 71 = .ok (.invokevirtual 211, 3) := by decide +kernel
theorem dX9_same_74 : decode cX9_same 74 = .ok (.if_icmp .ne 7, 3) := by decide +kernel
theorem dX9_same_77 : decode cX9_same 77 = .ok (.iconst 3, 1) := by decide +kernel
theorem dX9_same_78 : decode cX9_same 78 = .ok (.goto 4, 3) := by decide +kernel
theorem dX9_same_81 : decode cX9_same 81 = .ok (.iconst 2, 1) := by decide +kernel
theorem dX9_same_82 : decode cX9_same 82 = .ok (.ireturn, 1) := by decide +kernel
theorem dX9_same_83 : decode cX9_same 83 = .ok (.aload_n 0, 1) := by decide +kernel
theorem dX9_same_84 : decode cX9_same 84 = .ok (.iload_n 1, 1) := by decide +kernel
theorem dX9_same_85 : decode cX9_same 85 = .ok (.iload_n 2, 1) := by decide +kernel
theorem dX9_same_86 : decode cX9_same 86 = .ok (.iload_n 3, 1) := by decide +kernel
theorem dX9_same_87 : decode cX9_same 87 = .ok (.iconst (-1), 1) := by decide +kernel
theorem dX9_same_88 : decode cX9_same 88 = .ok (.invokevirtual 208, 3) := by decide +kernel
theorem dX9_same_91 : decode cX9_same 91 = .ok (.ifCond .eq 7, 3) := by decide +kernel
theorem dX9_same_94 : decode cX9_same 94 = .ok (.iconst 1, 1) := by decide +kernel
theorem dX9_same_95 : decode cX9_same 95 = .ok (.goto 4, 3) := by decide +kernel
theorem dX9_same_98 : decode cX9_same 98 = .ok (.iconst 0, 1) := by decide +kernel
theorem dX9_same_99 : decode cX9_same 99 = .ok (.ireturn, 1) := by decide +kernel
theorem dX9_pair_0 : decode cX9_pair 0 = .ok (.iload_n 1, 1) := by decide +kernel
theorem dX9_pair_1 : decode cX9_pair 1 = .ok (.iconst (-1), 1) := by decide +kernel
theorem dX9_pair_2 : decode cX9_pair 2 = .ok (.if_icmp .ne 13, 3) := by decide +kernel
theorem dX9_pair_5 : decode cX9_pair 5 = .ok (.aload_n 0, 1) := by decide +kernel
theorem dX9_pair_6 : decode cX9_pair 6 = .ok (.getfield 10, 3) := by decide +kernel
theorem dX9_pair_9 : decode cX9_pair 9 = .ok (.iconst 0, 1) := by decide +kernel
theorem dX9_pair_10 : decode cX9_pair 10 = .ok (.putfield 214, 3) := by decide +kernel
theorem dX9_pair_13 : decode cX9_pair 13 = .ok (.iconst 0, 1) := by decide +kernel
theorem dX9_pair_14 : decode cX9_pair 14 = .ok (.ireturn, 1) := by decide +kernel
theorem dX9_pair_15 : decode cX9_pair 15 = .ok (.iload_n 1, 1) := by decide +kernel
theorem dX9_pair_16 : decode cX9_pair 16 = .ok (.iload_n 2, 1) := by decide +kernel
theorem dX9_pair_17 : decode cX9_pair 17 = .ok (.if_icmp .eq 37, 3) := by decide +kernel
theorem dX9_pair_20 : decode cX9_pair 20 = .ok (.aload_n 0, 1) := by decide +kernel
theorem dX9_pair_21 : decode cX9_pair 21 = .ok (.getfield 10, 3) := by decide +kernel
theorem dX9_pair_24 : decode cX9_pair 24 = .ok (.iload_n 1, 1) := by decide +kernel
theorem dX9_pair_25 : decode cX9_pair 25 = .ok (.invokevirtual 103, 3) := by decide +kernel
theorem dX9_pair_28 : decode cX9_pair 28 = .ok (.ifCond .eq 26, 3) := by decide +kernel
theorem dX9_pair_31 : decode cX9_pair 31 = .ok (.aload_n 0, 1) := by decide +kernel
theorem dX9_pair_32 : decode cX9_pair 32 = .ok (.getfield 10, 3) := by decide +kernel
theorem dX9_pair_35 : decode cX9_pair 35 = .ok (.iload_n 2, 1) := by decide +kernel
theorem dX9_pair_36 : decode cX9_pair 36 = .ok (.invokevirtual 103, 3) := by decide +kernel
theorem dX9_pair_39 : decode cX9_pair 39 = .ok (.ifCond .eq 15, 3) := by decide +kernel
theorem dX9_pair_42 : decode cX9_pair 42 = .ok (.aload_n 0, 1) := by decide +kernel
theorem dX9_pair_43 : decode cX9_pair 43 = .ok (.getfield 10, 3) := by decide +kernel
theorem dX9_pair_46 : decode cX9_pair 46 = .ok (.getfield 214, 3) := by decide +kernel
theorem dX9_pair_49 : decode cX9_pair 49 = .ok (.bipush 8, 2) := by decide +kernel
theorem dX9_pair_51 : decode cX9_pair 51 = .ok (.if_icmp .lt 5, 3) := by decide +kernel
theorem dX9_pair_54 : decode cX9_pair 54 = .ok (.iconst (-1), 1) := by decide +kernel
theorem dX9_pair_55 : decode cX9_pair 55 = .ok (.ireturn, 1) := by decide +kernel
theorem dX9_pair_56 : decode cX9_pair 56 = .ok (.aload_n 0, 1) := by decide +kernel
theorem dX9_pair_57 : decode cX9_pair 57 = .ok (.getfield 10, 3) := by decide +kernel
theorem dX9_pair_60 : decode cX9_pair 60 = .ok (.getfield 217, 3) := by decide +kernel
theorem dX9_pair_63 : decode cX9_pair 63 = .ok (.aload_n 0, 1) := by decide +kernel
theorem dX9_pair_64 : decode cX9_pair 64 = .ok (.getfield 10, 3) := by decide +kernel
theorem dX9_pair_67 : decode cX9_pair 67 = .ok (.getfield 214, 3) := by decide +kernel
theorem dX9_pair_70 : decode cX9_pair 70 = .ok (.iload_n 1, 1) := by decide +kernel
theorem dX9_pair_71 : decode cX9_pair 71 = .ok (.iastore, 1) := by decide +kernel
theorem dX9_pair_72 : decode cX9_pair 72 = .ok (.aload_n 0, 1) := by decide +kernel
theorem dX9_pair_73 : decode cX9_pair 73 = .ok (.getfield 10, 3) := by decide +kernel
theorem dX9_pair_76 : decode cX9_pair 76 = .ok (.getfield 220, 3) := by decide +kernel
theorem dX9_pair_79 : decode cX9_pair 79 = .ok (.aload_n 0, 1) := by decide +kernel
theorem dX9_pair_80 : decode cX9_pair 80 = .ok (.getfield 10, 3) := by decide +kernel
theorem dX9_pair_83 : decode cX9_pair 83 = .ok (.getfield 214, 3) := by decide +kernel
theorem dX9_pair_86 : decode cX9_pair 86 = .ok (.iload_n 2, 1) := by decide +kernel
theorem dX9_pair_87 : decode cX9_pair 87 = .ok (.iastore, 1) := by decide +kernel
theorem dX9_pair_88 : decode cX9_pair 88 = .ok (.aload_n 0, 1) := by decide +kernel
theorem dX9_pair_89 : decode cX9_pair 89 = .ok (.getfield 10, 3) := by decide +kernel
theorem dX9_pair_92 : decode cX9_pair 92 = .ok (.dup, 1) := by decide +kernel
theorem dX9_pair_93 : decode cX9_pair 93 = .ok (.getfield 214, 3) := by decide +kernel
theorem dX9_pair_96 : decode cX9_pair 96 = .ok (.iconst 1, 1) := by decide +kernel
theorem dX9_pair_97 : decode cX9_pair 97 = .ok (.iadd, 1) := by decide +kernel
theorem dX9_pair_98 : decode cX9_pair 98 = .ok (.putfield 214, 3) := by decide +kernel
theorem dX9_pair_101 : decode cX9_pair 101 = .ok (.aload_n 0, 1) := by decide +kernel
theorem dX9_pair_102 : decode cX9_pair 102 = .ok (.getfield 10, 3) := by decide +kernel
theorem dX9_pair_105 : decode cX9_pair 105 = .ok (.getfield 214, 3) := by decide +kernel
theorem dX9_pair_108 : decode cX9_pair 108 = .ok (.ireturn, 1) := by decide +kernel
theorem dX9_turnOf_0 : decode cX9_turnOf 0 = .ok (.iload_n 1, 1) := by decide +kernel
theorem dX9_turnOf_1 : decode cX9_turnOf 1 = .ok (.ifCond .ne 15, 3) := by decide +kernel
theorem dX9_turnOf_4 : decode cX9_turnOf 4 = .ok (.aload_n 0, 1) := by decide +kernel
theorem dX9_turnOf_5 : decode cX9_turnOf 5 = .ok (.getfield 65, 3) := by decide +kernel
theorem dX9_turnOf_8 : decode cX9_turnOf 8 = .ok (.aload_n 0, 1) := by decide +kernel
theorem dX9_turnOf_9 : decode cX9_turnOf 9 = .ok (.getfield 10, 3) := by decide +kernel
theorem dX9_turnOf_12 : decode cX9_turnOf 12 = .ok (.invokevirtual 223, 3) := by decide +kernel
theorem dX9_turnOf_15 : decode cX9_turnOf 15 = .ok (.ireturn, 1) := by decide +kernel
theorem dX9_turnOf_16 : decode cX9_turnOf 16 = .ok (.iload_n 1, 1) := by decide +kernel
theorem dX9_turnOf_17 : decode cX9_turnOf 17 = .ok (.aload_n 0, 1) := by decide +kernel
theorem dX9_turnOf_18 : decode cX9_turnOf 18 = .ok (.getfield 10, 3) := by decide +kernel
theorem dX9_turnOf_21 : decode cX9_turnOf 21 = .ok (.getfield 214, 3) := by decide +kernel
theorem dX9_turnOf_24 : decode cX9_turnOf 24 = .ok (.invokestatic 227, 3) := by decide +kernel
theorem dX9_turnOf_27 : decode cX9_turnOf 27 = .ok (.ifCond .ne 5, 3) := by decide +kernel
theorem dX9_turnOf_30 : decode cX9_turnOf 30 = .ok (.iconst (-1), 1) := by decide +kernel
theorem dX9_turnOf_31 : decode cX9_turnOf 31 = .ok (.ireturn, 1) := by decide +kernel
theorem dX9_turnOf_32 : decode cX9_turnOf 32 = .ok (.aload_n 0, 1) := by decide +kernel
theorem dX9_turnOf_33 : decode cX9_turnOf 33 = .ok (.getfield 65, 3) := by decide +kernel
theorem dX9_turnOf_36 : decode cX9_turnOf 36 = .ok (.aload_n 0, 1) := by decide +kernel
theorem dX9_turnOf_37 : decode cX9_turnOf 37 = .ok (.getfield 10, 3) := by decide +kernel
theorem dX9_turnOf_40 : decode cX9_turnOf 40 = .ok (.invokevirtual 223, 3) := by decide +kernel
theorem dX9_turnOf_43 : decode cX9_turnOf 43 = .ok (.pop, 1) := by decide +kernel
theorem dX9_turnOf_44 : decode cX9_turnOf 44 = .ok (.aload_n 0, 1) := by decide +kernel
theorem dX9_turnOf_45 : decode cX9_turnOf 45 = .ok (.getfield 65, 3) := by decide +kernel
theorem dX9_turnOf_48 : decode cX9_turnOf 48 = .ok (.getfield 231, 3) := by decide +kernel
theorem dX9_turnOf_51 : decode cX9_turnOf 51 = .ok (.iload_n 1, 1) := by decide +kernel
theorem dX9_turnOf_52 : decode cX9_turnOf 52 = .ok (.bipush 10, 2) := by decide +kernel
theorem dX9_turnOf_54 : decode cX9_turnOf 54 = .ok (.isub, 1) := by decide +kernel
theorem dX9_turnOf_55 : decode cX9_turnOf 55 = .ok (.iaload, 1) := by decide +kernel
theorem dX9_turnOf_56 : decode cX9_turnOf 56 = .ok (.ireturn, 1) := by decide +kernel
theorem dX9_tell_0 : decode cX9_tell 0 = .ok (.iload_n 1, 1) := by decide +kernel
theorem dX9_tell_1 : decode cX9_tell 1 = .ok (.iconst (-1), 1) := by decide +kernel
theorem dX9_tell_2 : decode cX9_tell 2 = .ok (.if_icmp .ne 13, 3) := by decide +kernel
theorem dX9_tell_5 : decode cX9_tell 5 = .ok (.aload_n 0, 1) := by decide +kernel
theorem dX9_tell_6 : decode cX9_tell 6 = .ok (.getfield 10, 3) := by decide +kernel
theorem dX9_tell_9 : decode cX9_tell 9 = .ok (.iconst 0, 1) := by decide +kernel
theorem dX9_tell_10 : decode cX9_tell 10 = .ok (.putfield 234, 3) := by decide +kernel
theorem dX9_tell_13 : decode cX9_tell 13 = .ok (.iconst 0, 1) := by decide +kernel
theorem dX9_tell_14 : decode cX9_tell 14 = .ok (.ireturn, 1) := by decide +kernel
theorem dX9_tell_15 : decode cX9_tell 15 = .ok (.iload_n 1, 1) := by decide +kernel
theorem dX9_tell_16 : decode cX9_tell 16 = .ok (.iconst 1, 1) := by decide +kernel
theorem dX9_tell_17 : decode cX9_tell 17 = .ok (.if_icmp .lt 21, 3) := by decide +kernel
theorem dX9_tell_20 : decode cX9_tell 20 = .ok (.iload_n 1, 1) := by decide +kernel
theorem dX9_tell_21 : decode cX9_tell 21 = .ok (.bipush 24, 2) := by decide +kernel
theorem dX9_tell_23 : decode cX9_tell 23 = .ok (.if_icmp .gt 15, 3) := by decide +kernel
theorem dX9_tell_26 : decode cX9_tell 26 = .ok (.aload_n 0, 1) := by decide +kernel
theorem dX9_tell_27 : decode cX9_tell 27 = .ok (.getfield 10, 3) := by decide +kernel
theorem dX9_tell_30 : decode cX9_tell 30 = .ok (.getfield 234, 3) := by decide +kernel
theorem dX9_tell_33 : decode cX9_tell 33 = .ok (.bipush 15, 2) := by decide +kernel
theorem dX9_tell_35 : decode cX9_tell 35 = .ok (.if_icmp .lt 5, 3) := by decide +kernel
theorem dX9_tell_38 : decode cX9_tell 38 = .ok (.iconst (-1), 1) := by decide +kernel
theorem dX9_tell_39 : decode cX9_tell 39 = .ok (.ireturn, 1) := by decide +kernel
theorem dX9_tell_40 : decode cX9_tell 40 = .ok (.aload_n 0, 1) := by decide +kernel
theorem dX9_tell_41 : decode cX9_tell 41 = .ok (.getfield 10, 3) := by decide +kernel
theorem dX9_tell_44 : decode cX9_tell 44 = .ok (.getfield 237, 3) := by decide +kernel
theorem dX9_tell_47 : decode cX9_tell 47 = .ok (.aload_n 0, 1) := by decide +kernel
theorem dX9_tell_48 : decode cX9_tell 48 = .ok (.getfield 10, 3) := by decide +kernel
theorem dX9_tell_51 : decode cX9_tell 51 = .ok (.getfield 234, 3) := by decide +kernel
theorem dX9_tell_54 : decode cX9_tell 54 = .ok (.iload_n 1, 1) := by decide +kernel
theorem dX9_tell_55 : decode cX9_tell 55 = .ok (.iastore, 1) := by decide +kernel
theorem dX9_tell_56 : decode cX9_tell 56 = .ok (.aload_n 0, 1) := by decide +kernel
theorem dX9_tell_57 : decode cX9_tell 57 = .ok (.getfield 10, 3) := by decide +kernel
theorem dX9_tell_60 : decode cX9_tell 60 = .ok (.dup, 1) := by decide +kernel
theorem dX9_tell_61 : decode cX9_tell 61 = .ok (.getfield 234, 3) := by decide +kernel
theorem dX9_tell_64 : decode cX9_tell 64 = .ok (.iconst 1, 1) := by decide +kernel
theorem dX9_tell_65 : decode cX9_tell 65 = .ok (.iadd, 1) := by decide +kernel
theorem dX9_tell_66 : decode cX9_tell 66 = .ok (.putfield 234, 3) := by decide +kernel
theorem dX9_tell_69 : decode cX9_tell 69 = .ok (.aload_n 0, 1) := by decide +kernel
theorem dX9_tell_70 : decode cX9_tell 70 = .ok (.getfield 10, 3) := by decide +kernel
theorem dX9_tell_73 : decode cX9_tell 73 = .ok (.getfield 234, 3) := by decide +kernel
theorem dX9_tell_76 : decode cX9_tell 76 = .ok (.ireturn, 1) := by decide +kernel
theorem dX9_fit_0 : decode cX9_fit 0 = .ok (.iload_n 1, 1) := by decide +kernel
theorem dX9_fit_1 : decode cX9_fit 1 = .ok (.iconst 1, 1) := by decide +kernel
theorem dX9_fit_2 : decode cX9_fit 2 = .ok (.if_icmp .lt 21, 3) := by decide +kernel
theorem dX9_fit_5 : decode cX9_fit 5 = .ok (.iload_n 1, 1) := by decide +kernel
theorem dX9_fit_6 : decode cX9_fit 6 = .ok (.bipush 6, 2) := by decide +kernel
theorem dX9_fit_8 : decode cX9_fit 8 = .ok (.if_icmp .gt 15, 3) := by decide +kernel
theorem dX9_fit_11 : decode cX9_fit 11 = .ok (.iload_n 2, 1) := by decide +kernel
theorem dX9_fit_12 : decode cX9_fit 12 = .ok (.ifCond .eq 13, 3) := by decide +kernel
theorem dX9_fit_15 : decode cX9_fit 15 = .ok (.iload_n 2, 1) := by decide +kernel
theorem dX9_fit_16 : decode cX9_fit 16 = .ok (.iload_n 1, 1) := by decide +kernel
theorem dX9_fit_17 : decode cX9_fit 17 = .ok (.invokestatic 227, 3) := by decide +kernel
theorem dX9_fit_20 : decode cX9_fit 20 = .ok (.ifCond .ne 5, 3) := by decide +kernel
theorem dX9_fit_23 : decode cX9_fit 23 = .ok (.iconst (-1), 1) := by decide +kernel
theorem dX9_fit_24 : decode cX9_fit 24 = .ok (.ireturn, 1) := by decide +kernel
theorem dX9_fit_25 : decode cX9_fit 25 = .ok (.aload_n 0, 1) := by decide +kernel
theorem dX9_fit_26 : decode cX9_fit 26 = .ok (.getfield 72, 3) := by decide +kernel
theorem dX9_fit_29 : decode cX9_fit 29 = .ok (.iload_n 1, 1) := by decide +kernel
theorem dX9_fit_30 : decode cX9_fit 30 = .ok (.aload_n 0, 1) := by decide +kernel
theorem dX9_fit_31 : decode cX9_fit 31 = .ok (.getfield 10, 3) := by decide +kernel
theorem dX9_fit_34 : decode cX9_fit 34 = .ok (.invokevirtual 240, 3) := by decide +kernel
theorem dX9_fit_37 : decode cX9_fit 37 = .ok (.istore_n 3, 1) := by decide +kernel
theorem dX9_fit_38 : decode cX9_fit 38 = .ok (.iload_n 2, 1) := by decide +kernel
theorem dX9_fit_39 : decode cX9_fit 39 = .ok (.ifCond .ne 5, 3) := by decide +kernel
theorem dX9_fit_42 : decode cX9_fit 42 = .ok (.iload_n 3, 1) := by decide +kernel
theorem dX9_fit_43 : decode cX9_fit 43 = .ok (.ireturn, 1) := by decide +kernel
theorem dX9_fit_44 : decode cX9_fit 44 = .ok (.iload_n 3, 1) := by decide +kernel
theorem dX9_fit_45 : decode cX9_fit 45 = .ok (.ifCond .ne 7, 3) := by decide +kernel
theorem dX9_fit_48 : decode cX9_fit 48 = .ok (.iconst (-1), 1) := by decide +kernel
theorem dX9_fit_49 : decode cX9_fit 49 = .ok (.goto 15, 3) := by decide +kernel
theorem dX9_fit_52 : decode cX9_fit 52 = .ok (.aload_n 0, 1) := by decide +kernel
theorem dX9_fit_53 : decode cX9_fit 53 = .ok (.getfield 72, 3) := by decide +kernel
theorem dX9_fit_56 : decode cX9_fit 56 = .ok (.getfield 244, 3) := by decide +kernel
theorem dX9_fit_59 : decode cX9_fit 59 = .ok (.iload_n 2, 1) := by decide +kernel
theorem dX9_fit_60 : decode cX9_fit 60 = .ok (.bipush 10, 2) := by decide +kernel
theorem dX9_fit_62 : decode cX9_fit 62 = .ok (.isub, 1) := by decide +kernel
theorem dX9_fit_63 : decode cX9_fit 63 = .ok (.iaload, 1) := by decide +kernel
theorem dX9_fit_64 : decode cX9_fit 64 = .ok (.ireturn, 1) := by decide +kernel
theorem dX9_fewest_0 : decode cX9_fewest 0 = .ok (.iload_n 1, 1) := by decide +kernel
theorem dX9_fewest_1 : decode cX9_fewest 1 = .ok (.ifCond .eq 13, 3) := by decide +kernel
theorem dX9_fewest_4 : decode cX9_fewest 4 = .ok (.iload_n 1, 1) := by decide +kernel
theorem dX9_fewest_5 : decode cX9_fewest 5 = .ok (.iconst 5, 1) := by decide +kernel
theorem dX9_fewest_6 : decode cX9_fewest 6 = .ok (.invokestatic 227, 3) := by decide +kernel
theorem dX9_fewest_9 : decode cX9_fewest 9 = .ok (.ifCond .ne 5, 3) := by decide +kernel
theorem dX9_fewest_12 : decode cX9_fewest 12 = .ok (.iconst (-1), 1) := by decide +kernel
theorem dX9_fewest_13 : decode cX9_fewest 13 = .ok (.ireturn, 1) := by decide +kernel
theorem dX9_fewest_14 : decode cX9_fewest 14 = .ok (.aload_n 0, 1) := by decide +kernel
theorem dX9_fewest_15 : decode cX9_fewest 15 = .ok (.getfield 79, 3) := by decide +kernel
theorem dX9_fewest_18 : decode cX9_fewest 18 = .ok (.aload_n 0, 1) := by decide +kernel
theorem dX9_fewest_19 : decode cX9_fewest 19 = .ok (.getfield 10, 3) := by decide +kernel
theorem dX9_fewest_22 : decode cX9_fewest 22 = .ok (.invokevirtual 247, 3) := by decide +kernel
theorem dX9_fewest_25 : decode cX9_fewest 25 = .ok (.invokevirtual 250, 3) := by decide +kernel
theorem dX9_fewest_28 : decode cX9_fewest 28 = .ok (.istore_n 2, 1) := by decide +kernel
theorem dX9_fewest_29 : decode cX9_fewest 29 = .ok (.iload_n 1, 1) := by decide +kernel
theorem dX9_fewest_30 : decode cX9_fewest 30 = .ok (.ifCond .ne 5, 3) := by decide +kernel
theorem dX9_fewest_33 : decode cX9_fewest 33 = .ok (.iload_n 2, 1) := by decide +kernel
theorem dX9_fewest_34 : decode cX9_fewest 34 = .ok (.ireturn, 1) := by decide +kernel
theorem dX9_fewest_35 : decode cX9_fewest 35 = .ok (.iload_n 1, 1) := by decide +kernel
theorem dX9_fewest_36 : decode cX9_fewest 36 = .ok (.iload_n 2, 1) := by decide +kernel
theorem dX9_fewest_37 : decode cX9_fewest 37 = .ok (.invokestatic 227, 3) := by decide +kernel
theorem dX9_fewest_40 : decode cX9_fewest 40 = .ok (.ifCond .eq 18, 3) := by decide +kernel
theorem dX9_fewest_43 : decode cX9_fewest 43 = .ok (.aload_n 0, 1) := by decide +kernel
theorem dX9_fewest_44 : decode cX9_fewest 44 = .ok (.getfield 79, 3) := by decide +kernel
theorem dX9_fewest_47 : decode cX9_fewest 47 = .ok (.getfield 254, 3) := by decide +kernel
theorem dX9_fewest_50 : decode cX9_fewest 50 = .ok (.iload_n 1, 1) := by decide +kernel
theorem dX9_fewest_51 : decode cX9_fewest 51 = .ok (.bipush 10, 2) := by decide +kernel
theorem dX9_fewest_53 : decode cX9_fewest 53 = .ok (.isub, 1) := by decide +kernel
theorem dX9_fewest_54 : decode cX9_fewest 54 = .ok (.iaload, 1) := by decide +kernel
theorem dX9_fewest_55 : decode cX9_fewest 55 = .ok (.goto 4, 3) := by decide +kernel
theorem dX9_fewest_58 : decode cX9_fewest 58 = .ok (.iconst (-1), 1) := by decide +kernel
theorem dX9_fewest_59 : decode cX9_fewest 59 = .ok (.ireturn, 1) := by decide +kernel
theorem dX9_ruler_0 : decode cX9_ruler 0 = .ok (.iload_n 1, 1) := by decide +kernel
theorem dX9_ruler_1 : decode cX9_ruler 1 = .ok (.iconst 1, 1) := by decide +kernel
theorem dX9_ruler_2 : decode cX9_ruler 2 = .ok (.if_icmp .lt 9, 3) := by decide +kernel
theorem dX9_ruler_5 : decode cX9_ruler 5 = .ok (.iload_n 1, 1) := by decide +kernel
theorem dX9_ruler_6 : decode cX9_ruler 6 = .ok (.bipush 6, 2) := by decide +kernel
theorem dX9_ruler_8 : decode cX9_ruler 8 = .ok (.if_icmp .le 5, 3) := by decide +kernel
theorem dX9_ruler_11 : decode cX9_ruler 11 = .ok (.iconst (-1), 1) := by decide +kernel
theorem dX9_ruler_12 : decode cX9_ruler 12 = .ok (.ireturn, 1) := by decide +kernel
theorem dX9_ruler_13 : decode cX9_ruler 13 = .ok (.iload_n 1, 1) := by decide +kernel
theorem dX9_ruler_14 : decode cX9_ruler 14 = .ok (.iload_n 1, 1) := by decide +kernel
theorem dX9_ruler_15 : decode cX9_ruler 15 = .ok (.iconst 1, 1) := by decide +kernel
theorem dX9_ruler_16 : decode cX9_ruler 16 = .ok (.isub, 1) := by decide +kernel
theorem dX9_ruler_17 : decode cX9_ruler 17 = .ok (.imul, 1) := by decide +kernel
theorem dX9_ruler_18 : decode cX9_ruler 18 = .ok (.iconst 2, 1) := by decide +kernel
theorem dX9_ruler_19 : decode cX9_ruler 19 = .ok (.idiv, 1) := by decide +kernel
theorem dX9_ruler_20 : decode cX9_ruler 20 = .ok (.istore_n 3, 1) := by decide +kernel
theorem dX9_ruler_21 : decode cX9_ruler 21 = .ok (.iload_n 2, 1) := by decide +kernel
theorem dX9_ruler_22 : decode cX9_ruler 22 = .ok (.ifCond .ne 13, 3) := by decide +kernel
theorem dX9_ruler_25 : decode cX9_ruler 25 = .ok (.getstatic 257, 3) := by decide +kernel
theorem dX9_ruler_28 : decode cX9_ruler 28 = .ok (.iload_n 3, 1) := by decide +kernel
theorem dX9_ruler_29 : decode cX9_ruler 29 = .ok (.iload_n 1, 1) := by decide +kernel
theorem dX9_ruler_30 : decode cX9_ruler 30 = .ok (.iadd, 1) := by decide +kernel
theorem dX9_ruler_31 : decode cX9_ruler 31 = .ok (.iconst 1, 1) := by decide +kernel
theorem dX9_ruler_32 : decode cX9_ruler 32 = .ok (.isub, 1) := by decide +kernel
theorem dX9_ruler_33 : decode cX9_ruler 33 = .ok (.iaload, 1) := by decide +kernel
theorem dX9_ruler_34 : decode cX9_ruler 34 = .ok (.ireturn, 1) := by decide +kernel
theorem dX9_ruler_35 : decode cX9_ruler 35 = .ok (.iload_n 2, 1) := by decide +kernel
theorem dX9_ruler_36 : decode cX9_ruler 36 = .ok (.iload_n 1, 1) := by decide +kernel
theorem dX9_ruler_37 : decode cX9_ruler 37 = .ok (.invokestatic 227, 3) := by decide +kernel
theorem dX9_ruler_40 : decode cX9_ruler 40 = .ok (.ifCond .eq 16, 3) := by decide +kernel
theorem dX9_ruler_43 : decode cX9_ruler 43 = .ok (.getstatic 257, 3) := by decide +kernel
theorem dX9_ruler_46 : decode cX9_ruler 46 = .ok (.iload_n 3, 1) := by decide +kernel
theorem dX9_ruler_47 : decode cX9_ruler 47 = .ok (.iload_n 2, 1) := by decide +kernel
theorem dX9_ruler_48 : decode cX9_ruler 48 = .ok (.iadd, 1) := by decide +kernel
theorem dX9_ruler_49 : decode cX9_ruler 49 = .ok (.bipush 10, 2) := by decide +kernel
theorem dX9_ruler_51 : decode cX9_ruler 51 = .ok (.isub, 1) := by decide +kernel
theorem dX9_ruler_52 : decode cX9_ruler 52 = .ok (.iaload, 1) := by decide +kernel
theorem dX9_ruler_53 : decode cX9_ruler 53 = .ok (.goto 4, 3) := by decide +kernel
theorem dX9_ruler_56 : decode cX9_ruler 56 = .ok (.iconst (-1), 1) := by decide +kernel
theorem dX9_ruler_57 : decode cX9_ruler 57 = .ok (.ireturn, 1) := by decide +kernel
theorem dX9_alone_0 : decode cX9_alone 0 = .ok (.aload_n 0, 1) := by decide +kernel
theorem dX9_alone_1 : decode cX9_alone 1 = .ok (.iload_n 1, 1) := by decide +kernel
theorem dX9_alone_2 : decode cX9_alone 2 = .ok (.iload_n 2, 1) := by decide +kernel
theorem dX9_alone_3 : decode cX9_alone 3 = .ok (.iload_n 3, 1) := by decide +kernel
theorem dX9_alone_4 : decode cX9_alone 4 = .ok (.invokevirtual 189, 3) := by decide +kernel
theorem dX9_alone_7 : decode cX9_alone 7 = .ok (.ifCond .eq 37, 3) := by decide +kernel
theorem dX9_alone_10 : decode cX9_alone 10 = .ok (.aload_n 0, 1) := by decide +kernel
theorem dX9_alone_11 : decode cX9_alone 11 = .ok (.getfield 10, 3) := by decide +kernel
theorem dX9_alone_14 : decode cX9_alone 14 = .ok (.iload_n 1, 1) := by decide +kernel
theorem dX9_alone_15 : decode cX9_alone 15 = .ok (.invokevirtual 139, 3) := by decide +kernel
theorem dX9_alone_18 : decode cX9_alone 18 = .ok (.ifCond .eq 26, 3) := by decide +kernel
theorem dX9_alone_21 : decode cX9_alone 21 = .ok (.iload 4, 2) := by decide +kernel
theorem dX9_alone_23 : decode cX9_alone 23 = .ok (.ifCond .lt 21, 3) := by decide +kernel
theorem dX9_alone_26 : decode cX9_alone 26 = .ok (.iload 4, 2) := by decide +kernel
theorem dX9_alone_28 : decode cX9_alone 28 = .ok (.bipush 60, 2) := by decide +kernel
theorem dX9_alone_30 : decode cX9_alone 30 = .ok (.if_icmp .gt 14, 3) := by decide +kernel
theorem dX9_alone_33 : decode cX9_alone 33 = .ok (.iload 5, 2) := by decide +kernel
theorem dX9_alone_35 : decode cX9_alone 35 = .ok (.ifCond .lt 9, 3) := by decide +kernel
theorem dX9_alone_38 : decode cX9_alone 38 = .ok (.iload 5, 2) := by decide +kernel
theorem dX9_alone_40 : decode cX9_alone 40 = .ok (.iconst 1, 1) := by decide +kernel
theorem dX9_alone_41 : decode cX9_alone 41 = .ok (.if_icmp .le 5, 3) := by decide +kernel
theorem dX9_alone_44 : decode cX9_alone 44 = .ok (.iconst (-1), 1) := by decide +kernel
theorem dX9_alone_45 : decode cX9_alone 45 = .ok (.ireturn, 1) := by decide +kernel
theorem dX9_alone_46 : decode cX9_alone 46 = .ok (.iconst 0, 1) := by decide +kernel
theorem dX9_alone_47 : decode cX9_alone 47 = .ok (.istore 6, 2) := by decide +kernel
theorem dX9_alone_49 : decode cX9_alone 49 = .ok (.iconst (-1), 1) := by decide +kernel
theorem dX9_alone_50 : decode cX9_alone 50 = .ok (.istore 7, 2) := by decide +kernel
theorem dX9_alone_52 : decode cX9_alone 52 = .ok (.bipush 60, 2) := by decide +kernel
theorem dX9_alone_54 : decode cX9_alone 54 = .ok (.iload 4, 2) := by decide +kernel
theorem dX9_alone_56 : decode cX9_alone 56 = .ok (.isub, 1) := by decide +kernel
theorem dX9_alone_57 : decode cX9_alone 57 = .ok (.istore 8, 2) := by decide +kernel
theorem dX9_alone_59 : decode cX9_alone 59 = .ok (.iload 8, 2) := by decide +kernel
theorem dX9_alone_61 : decode cX9_alone 61 = .ok (.ifCond .lt 36, 3) := by decide +kernel
theorem dX9_alone_64 : decode cX9_alone 64 = .ok (.aload_n 0, 1) := by decide +kernel
theorem dX9_alone_65 : decode cX9_alone 65 = .ok (.getfield 58, 3) := by decide +kernel
theorem dX9_alone_68 : decode cX9_alone 68 = .ok (.iload_n 1, 1) := by decide +kernel
theorem dX9_alone_69 : decode cX9_alone 69 = .ok (.iload_n 2, 1) := by decide +kernel
theorem dX9_alone_70 : decode cX9_alone 70 = .ok (.iload_n 3, 1) := by decide +kernel
theorem dX9_alone_71 : decode cX9_alone 71 = .ok (.iload 8, 2) := by decide +kernel
theorem dX9_alone_73 : decode cX9_alone 73 = .ok (.iload 8, 2) := by decide +kernel
theorem dX9_alone_75 : decode cX9_alone 75 = .ok (.iload 4, 2) := by decide +kernel
theorem dX9_alone_77 : decode cX9_alone 77 = .ok (.iadd, 1) := by decide +kernel
theorem dX9_alone_78 : decode cX9_alone 78 = .ok (.invokevirtual 260, 3) := by decide +kernel
theorem dX9_alone_81 : decode cX9_alone 81 = .ok (.ifCond .eq 10, 3) := by decide +kernel
theorem dX9_alone_84 : decode cX9_alone 84 = .ok (.iinc 6 1, 3) := by decide +kernel
theorem dX9_alone_87 : decode cX9_alone 87 = .ok (.iload 8, 2) := by decide +kernel
theorem dX9_alone_89 : decode cX9_alone 89 = .ok (.istore 7, 2) := by decide +kernel
theorem dX9_alone_91 : decode cX9_alone 91 = .ok (.iinc 8 (-1), 3) := by decide +kernel
theorem dX9_alone_94 : decode cX9_alone 94 = .ok (.goto (-35), 3) := by decide +kernel
theorem dX9_alone_97 : decode cX9_alone 97 = .ok (.iload 5, 2) := by decide +kernel
theorem dX9_alone_99 : decode cX9_alone 99 = .ok (.ifCond .ne 8, 3) := by decide +kernel
theorem dX9_alone_102 : decode cX9_alone 102 = .ok (.iload 6, 2) := by decide +kernel
theorem dX9_alone_104 : decode cX9_alone 104 = .ok (.goto 5, 3) := by decide +kernel
theorem dX9_alone_107 : decode cX9_alone 107 = .ok (.iload 7, 2) := by decide +kernel
theorem dX9_alone_109 : decode cX9_alone 109 = .ok (.ireturn, 1) := by decide +kernel
theorem dX9_safe_0 : decode cX9_safe 0 = .ok (.iload_n 1, 1) := by decide +kernel
theorem dX9_safe_1 : decode cX9_safe 1 = .ok (.ifCond .lt 8, 3) := by decide +kernel
theorem dX9_safe_4 : decode cX9_safe 4 = .ok (.iload_n 1, 1) := by decide +kernel
theorem dX9_safe_5 : decode cX9_safe 5 = .ok (.iconst 1, 1) := by decide +kernel
theorem dX9_safe_6 : decode cX9_safe 6 = .ok (.if_icmp .le 5, 3) := by decide +kernel
theorem dX9_safe_9 : decode cX9_safe 9 = .ok (.iconst (-1), 1) := by decide +kernel
theorem dX9_safe_10 : decode cX9_safe 10 = .ok (.ireturn, 1) := by decide +kernel
theorem dX9_safe_11 : decode cX9_safe 11 = .ok (.aload_n 0, 1) := by decide +kernel
theorem dX9_safe_12 : decode cX9_safe 12 = .ok (.getfield 10, 3) := by decide +kernel
theorem dX9_safe_15 : decode cX9_safe 15 = .ok (.invokevirtual 264, 3) := by decide +kernel
theorem dX9_safe_18 : decode cX9_safe 18 = .ok (.invokestatic 267, 3) := by decide +kernel
theorem dX9_safe_21 : decode cX9_safe 21 = .ok (.istore_n 2, 1) := by decide +kernel
theorem dX9_safe_22 : decode cX9_safe 22 = .ok (.iload_n 1, 1) := by decide +kernel
theorem dX9_safe_23 : decode cX9_safe 23 = .ok (.ifCond .ne 10, 3) := by decide +kernel
theorem dX9_safe_26 : decode cX9_safe 26 = .ok (.iload_n 2, 1) := by decide +kernel
theorem dX9_safe_27 : decode cX9_safe 27 = .ok (.invokestatic 270, 3) := by decide +kernel
theorem dX9_safe_30 : decode cX9_safe 30 = .ok (.goto 4, 3) := by decide +kernel
theorem dX9_safe_33 : decode cX9_safe 33 = .ok (.iload_n 2, 1) := by decide +kernel
theorem dX9_safe_34 : decode cX9_safe 34 = .ok (.ireturn, 1) := by decide +kernel
theorem dX9_undo_0 : decode cX9_undo 0 = .ok (.aload_n 0, 1) := by decide +kernel
theorem dX9_undo_1 : decode cX9_undo 1 = .ok (.getfield 26, 3) := by decide +kernel
theorem dX9_undo_4 : decode cX9_undo 4 = .ok (.aload_n 0, 1) := by decide +kernel
theorem dX9_undo_5 : decode cX9_undo 5 = .ok (.getfield 10, 3) := by decide +kernel
theorem dX9_undo_8 : decode cX9_undo 8 = .ok (.invokevirtual 275, 3) := by decide +kernel
theorem dX9_undo_11 : decode cX9_undo 11 = .ok (.ireturn, 1) := by decide +kernel
theorem dX9_image_0 : decode cX9_image 0 = .ok (.iload_n 1, 1) := by decide +kernel
theorem dX9_image_1 : decode cX9_image 1 = .ok (.ifCond .eq 21, 3) := by decide +kernel
theorem dX9_image_4 : decode cX9_image 4 = .ok (.aload_n 0, 1) := by decide +kernel
theorem dX9_image_5 : decode cX9_image 5 = .ok (.getfield 16, 3) := by decide +kernel
theorem dX9_image_8 : decode cX9_image 8 = .ok (.aload_n 0, 1) := by decide +kernel
theorem dX9_image_9 : decode cX9_image 9 = .ok (.getfield 10, 3) := by decide +kernel
theorem dX9_image_12 : decode cX9_image 12 = .ok (.invokevirtual 279, 3) := by decide +kernel
theorem dX9_image_15 : decode cX9_image 15 = .ok (.aload_n 0, 1) := by decide +kernel
theorem dX9_image_16 : decode cX9_image 16 = .ok (.iconst 1, 1) := by decide +kernel
theorem dX9_image_17 : decode cX9_image 17 = .ok (.putfield 19, 3) := by decide +kernel
theorem dX9_image_20 : decode cX9_image 20 = .ok (.iconst 1, 1) := by decide +kernel
theorem dX9_image_21 : decode cX9_image 21 = .ok (.ireturn, 1) := by decide +kernel
theorem dX9_image_22 : decode cX9_image 22 = .ok (.aload_n 0, 1) := by decide +kernel
theorem dX9_image_23 : decode cX9_image 23 = .ok (.getfield 19, 3) := by decide +kernel
theorem dX9_image_26 : decode cX9_image 26 = .ok (.ifCond .ne 5, 3) := by decide +kernel
theorem dX9_image_29 : decode cX9_image 29 = .ok (.iconst 0, 1) := by decide +kernel
theorem dX9_image_30 : decode cX9_image 30 = .ok (.ireturn, 1) := by decide +kernel
theorem dX9_image_31 : decode cX9_image 31 = .ok (.aload_n 0, 1) := by decide +kernel
theorem dX9_image_32 : decode cX9_image 32 = .ok (.getfield 10, 3) := by decide +kernel
theorem dX9_image_35 : decode cX9_image 35 = .ok (.aload_n 0, 1) := by decide +kernel
theorem dX9_image_36 : decode cX9_image 36 = .ok (.getfield 16, 3) := by decide +kernel
theorem dX9_image_39 : decode cX9_image 39 = .ok (.invokevirtual 279, 3) := by decide +kernel
theorem dX9_image_42 : decode cX9_image 42 = .ok (.aload_n 0, 1) := by decide +kernel
theorem dX9_image_43 : decode cX9_image 43 = .ok (.getfield 26, 3) := by decide +kernel
theorem dX9_image_46 : decode cX9_image 46 = .ok (.invokevirtual 86, 3) := by decide +kernel
theorem dX9_image_49 : decode cX9_image 49 = .ok (.iconst 1, 1) := by decide +kernel
theorem dX9_image_50 : decode cX9_image 50 = .ok (.ireturn, 1) := by decide +kernel
theorem dX9_look_0 : decode cX9_look 0 = .ok (.iload_n 1, 1) := by decide +kernel
theorem dX9_look_1 : decode cX9_look 1 = .ok (.tableswitch 129 0 8 #[51, 59, 67, 78, 86, 94, 105, 113, 121], 51) := by decide +kernel
theorem dX9_look_52 : decode cX9_look 52 = .ok (.aload_n 0, 1) := by decide +kernel
theorem dX9_look_53 : decode cX9_look 53 = .ok (.getfield 10, 3) := by decide +kernel
theorem dX9_look_56 : decode cX9_look 56 = .ok (.getfield 93, 3) := by decide +kernel
theorem dX9_look_59 : decode cX9_look 59 = .ok (.ireturn, 1) := by decide +kernel
theorem dX9_look_60 : decode cX9_look 60 = .ok (.aload_n 0, 1) := by decide +kernel
theorem dX9_look_61 : decode cX9_look 61 = .ok (.getfield 10, 3) := by decide +kernel
theorem dX9_look_64 : decode cX9_look 64 = .ok (.getfield 164, 3) := by decide +kernel
theorem dX9_look_67 : decode cX9_look 67 = .ok (.ireturn, 1) := by decide +kernel
theorem dX9_look_68 : decode cX9_look 68 = .ok (.aload_n 0, 1) := by decide +kernel
theorem dX9_look_69 : decode cX9_look 69 = .ok (.getfield 10, 3) := by decide +kernel
theorem dX9_look_72 : decode cX9_look 72 = .ok (.getfield 149, 3) := by decide +kernel
theorem dX9_look_75 : decode cX9_look 75 = .ok (.getfield 281, 3) := by decide +kernel
theorem dX9_look_78 : decode cX9_look 78 = .ok (.ireturn, 1) := by decide +kernel
theorem dX9_look_79 : decode cX9_look 79 = .ok (.aload_n 0, 1) := by decide +kernel
theorem dX9_look_80 : decode cX9_look 80 = .ok (.getfield 10, 3) := by decide +kernel
theorem dX9_look_83 : decode cX9_look 83 = .ok (.getfield 282, 3) := by decide +kernel
theorem dX9_look_86 : decode cX9_look 86 = .ok (.ireturn, 1) := by decide +kernel
theorem dX9_look_87 : decode cX9_look 87 = .ok (.aload_n 0, 1) := by decide +kernel
theorem dX9_look_88 : decode cX9_look 88 = .ok (.getfield 10, 3) := by decide +kernel
theorem dX9_look_91 : decode cX9_look 91 = .ok (.getfield 83, 3) := by decide +kernel
theorem dX9_look_94 : decode cX9_look 94 = .ok (.ireturn, 1) := by decide +kernel
theorem dX9_look_95 : decode cX9_look 95 = .ok (.aload_n 0, 1) := by decide +kernel
theorem dX9_look_96 : decode cX9_look 96 = .ok (.getfield 10, 3) := by decide +kernel
theorem dX9_look_99 : decode cX9_look 99 = .ok (.getfield 123, 3) := by decide +kernel
theorem dX9_look_102 : decode cX9_look 102 = .ok (.getfield 136, 3) := by decide +kernel
theorem dX9_look_105 : decode cX9_look 105 = .ok (.ireturn, 1) := by decide +kernel
theorem dX9_look_106 : decode cX9_look 106 = .ok (.aload_n 0, 1) := by decide +kernel
theorem dX9_look_107 : decode cX9_look 107 = .ok (.getfield 26, 3) := by decide +kernel
theorem dX9_look_110 : decode cX9_look 110 = .ok (.getfield 285, 3) := by decide +kernel
theorem dX9_look_113 : decode cX9_look 113 = .ok (.ireturn, 1) := by decide +kernel
theorem dX9_look_114 : decode cX9_look 114 = .ok (.aload_n 0, 1) := by decide +kernel
theorem dX9_look_115 : decode cX9_look 115 = .ok (.getfield 10, 3) := by decide +kernel
theorem dX9_look_118 : decode cX9_look 118 = .ok (.getfield 214, 3) := by decide +kernel
theorem dX9_look_121 : decode cX9_look 121 = .ok (.ireturn, 1) := by decide +kernel
theorem dX9_look_122 : decode cX9_look 122 = .ok (.aload_n 0, 1) := by decide +kernel
theorem dX9_look_123 : decode cX9_look 123 = .ok (.getfield 10, 3) := by decide +kernel
theorem dX9_look_126 : decode cX9_look 126 = .ok (.getfield 234, 3) := by decide +kernel
theorem dX9_look_129 : decode cX9_look 129 = .ok (.ireturn, 1) := by decide +kernel
theorem dX9_look_130 : decode cX9_look 130 = .ok (.iload_n 1, 1) := by decide +kernel
theorem dX9_look_131 : decode cX9_look 131 = .ok (.iconst 4, 1) := by decide +kernel
theorem dX9_look_132 : decode cX9_look 132 = .ok (.invokestatic 227, 3) := by decide +kernel
theorem dX9_look_135 : decode cX9_look 135 = .ok (.ifCond .eq 18, 3) := by decide +kernel
theorem dX9_look_138 : decode cX9_look 138 = .ok (.aload_n 0, 1) := by decide +kernel
theorem dX9_look_139 : decode cX9_look 139 = .ok (.getfield 10, 3) := by decide +kernel
theorem dX9_look_142 : decode cX9_look 142 = .ok (.getfield 202, 3) := by decide +kernel
theorem dX9_look_145 : decode cX9_look 145 = .ok (.iload_n 1, 1) := by decide +kernel
theorem dX9_look_146 : decode cX9_look 146 = .ok (.bipush 10, 2) := by decide +kernel
theorem dX9_look_148 : decode cX9_look 148 = .ok (.isub, 1) := by decide +kernel
theorem dX9_look_149 : decode cX9_look 149 = .ok (.iaload, 1) := by decide +kernel
theorem dX9_look_150 : decode cX9_look 150 = .ok (.goto 4, 3) := by decide +kernel
theorem dX9_look_153 : decode cX9_look 153 = .ok (.iconst (-1), 1) := by decide +kernel
theorem dX9_look_154 : decode cX9_look 154 = .ok (.ireturn, 1) := by decide +kernel
theorem dX9_isToneOrNone_0 : decode cX9_isToneOrNone 0 = .ok (.iload_n 0, 1) := by decide +kernel
theorem dX9_isToneOrNone_1 : decode cX9_isToneOrNone 1 = .ok (.iconst (-1), 1) := by decide +kernel
theorem dX9_isToneOrNone_2 : decode cX9_isToneOrNone 2 = .ok (.if_icmp .lt 13, 3) := by decide +kernel
theorem dX9_isToneOrNone_5 : decode cX9_isToneOrNone 5 = .ok (.iload_n 0, 1) := by decide +kernel
theorem dX9_isToneOrNone_6 : decode cX9_isToneOrNone 6 = .ok (.bipush 60, 2) := by decide +kernel
theorem dX9_isToneOrNone_8 : decode cX9_isToneOrNone 8 = .ok (.if_icmp .gt 7, 3) := by decide +kernel
theorem dX9_isToneOrNone_11 : decode cX9_isToneOrNone 11 = .ok (.iconst 1, 1) := by decide +kernel
theorem dX9_isToneOrNone_12 : decode cX9_isToneOrNone 12 = .ok (.goto 4, 3) := by decide +kernel
theorem dX9_isToneOrNone_15 : decode cX9_isToneOrNone 15 = .ok (.iconst 0, 1) := by decide +kernel
theorem dX9_isToneOrNone_16 : decode cX9_isToneOrNone 16 = .ok (.ireturn, 1) := by decide +kernel
theorem dX9_isTune_0 : decode cX9_isTune 0 = .ok (.iload_n 0, 1) := by decide +kernel
theorem dX9_isTune_1 : decode cX9_isTune 1 = .ok (.ifCond .lt 12, 3) := by decide +kernel
theorem dX9_isTune_4 : decode cX9_isTune 4 = .ok (.iload_n 0, 1) := by decide +kernel
theorem dX9_isTune_5 : decode cX9_isTune 5 = .ok (.iconst 4, 1) := by decide +kernel
theorem dX9_isTune_6 : decode cX9_isTune 6 = .ok (.if_icmp .ge 7, 3) := by decide +kernel
theorem dX9_isTune_9 : decode cX9_isTune 9 = .ok (.iconst 1, 1) := by decide +kernel
theorem dX9_isTune_10 : decode cX9_isTune 10 = .ok (.goto 4, 3) := by decide +kernel
theorem dX9_isTune_13 : decode cX9_isTune 13 = .ok (.iconst 0, 1) := by decide +kernel
theorem dX9_isTune_14 : decode cX9_isTune 14 = .ok (.ireturn, 1) := by decide +kernel
theorem dX9_isInRow_0 : decode cX9_isInRow 0 = .ok (.iload_n 0, 1) := by decide +kernel
theorem dX9_isInRow_1 : decode cX9_isInRow 1 = .ok (.bipush 10, 2) := by decide +kernel
theorem dX9_isInRow_3 : decode cX9_isInRow 3 = .ok (.if_icmp .lt 15, 3) := by decide +kernel
theorem dX9_isInRow_6 : decode cX9_isInRow 6 = .ok (.iload_n 0, 1) := by decide +kernel
theorem dX9_isInRow_7 : decode cX9_isInRow 7 = .ok (.bipush 10, 2) := by decide +kernel
theorem dX9_isInRow_9 : decode cX9_isInRow 9 = .ok (.isub, 1) := by decide +kernel
theorem dX9_isInRow_10 : decode cX9_isInRow 10 = .ok (.iload_n 1, 1) := by decide +kernel
theorem dX9_isInRow_11 : decode cX9_isInRow 11 = .ok (.if_icmp .ge 7, 3) := by decide +kernel
theorem dX9_isInRow_14 : decode cX9_isInRow 14 = .ok (.iconst 1, 1) := by decide +kernel
theorem dX9_isInRow_15 : decode cX9_isInRow 15 = .ok (.goto 4, 3) := by decide +kernel
theorem dX9_isInRow_18 : decode cX9_isInRow 18 = .ok (.iconst 0, 1) := by decide +kernel
theorem dX9_isInRow_19 : decode cX9_isInRow 19 = .ok (.ireturn, 1) := by decide +kernel
theorem dX9_areThree_0 : decode cX9_areThree 0 = .ok (.aload_n 0, 1) := by decide +kernel
theorem dX9_areThree_1 : decode cX9_areThree 1 = .ok (.getfield 10, 3) := by decide +kernel
theorem dX9_areThree_4 : decode cX9_areThree 4 = .ok (.iload_n 1, 1) := by decide +kernel
theorem dX9_areThree_5 : decode cX9_areThree 5 = .ok (.invokevirtual 103, 3) := by decide +kernel
theorem dX9_areThree_8 : decode cX9_areThree 8 = .ok (.ifCond .eq 44, 3) := by decide +kernel
theorem dX9_areThree_11 : decode cX9_areThree 11 = .ok (.aload_n 0, 1) := by decide +kernel
theorem dX9_areThree_12 : decode cX9_areThree 12 = .ok (.getfield 10, 3) := by decide +kernel
theorem dX9_areThree_15 : decode cX9_areThree 15 = .ok (.iload_n 2, 1) := by decide +kernel
theorem dX9_areThree_16 : decode cX9_areThree 16 = .ok (.invokevirtual 103, 3) := by decide +kernel
theorem dX9_areThree_19 : decode cX9_areThree 19 = .ok (.ifCond .eq 33, 3) := by decide +kernel
theorem dX9_areThree_22 : decode cX9_areThree 22 = .ok (.aload_n 0, 1) := by decide +kernel
theorem dX9_areThree_23 : decode cX9_areThree 23 = .ok (.getfield 10, 3) := by decide +kernel
theorem dX9_areThree_26 : decode cX9_areThree 26 = .ok (.iload_n 3, 1) := by decide +kernel
theorem dX9_areThree_27 : decode cX9_areThree 27 = .ok (.invokevirtual 103, 3) := by decide +kernel
theorem dX9_areThree_30 : decode cX9_areThree 30 = .ok (.ifCond .eq 22, 3) := by decide +kernel
theorem dX9_areThree_33 : decode cX9_areThree 33 = .ok (.iload_n 1, 1) := by decide +kernel
theorem dX9_areThree_34 : decode cX9_areThree 34 = .ok (.iload_n 2, 1) := by decide +kernel
theorem dX9_areThree_35 : decode cX9_areThree 35 = .ok (.if_icmp .eq 17, 3) := by decide +kernel
theorem dX9_areThree_38 : decode cX9_areThree 38 = .ok (.iload_n 1, 1) := by decide +kernel
theorem dX9_areThree_39 : decode cX9_areThree 39 = .ok (.iload_n 3, 1) := by decide +kernel
theorem dX9_areThree_40 : decode cX9_areThree 40 = .ok (.if_icmp .eq 12, 3) := by decide +kernel
theorem dX9_areThree_43 : decode cX9_areThree 43 = .ok (.iload_n 2, 1) := by decide +kernel
theorem dX9_areThree_44 : decode cX9_areThree 44 = .ok (.iload_n 3, 1) := by decide +kernel
theorem dX9_areThree_45 : decode cX9_areThree 45 = .ok (.if_icmp .eq 7, 3) := by decide +kernel
theorem dX9_areThree_48 : decode cX9_areThree 48 = .ok (.iconst 1, 1) := by decide +kernel
theorem dX9_areThree_49 : decode cX9_areThree 49 = .ok (.goto 4, 3) := by decide +kernel
theorem dX9_areThree_52 : decode cX9_areThree 52 = .ok (.iconst 0, 1) := by decide +kernel
theorem dX9_areThree_53 : decode cX9_areThree 53 = .ok (.ireturn, 1) := by decide +kernel
theorem dX9_tellSlip_0 : decode cX9_tellSlip 0 = .ok (.iload_n 1, 1) := by decide +kernel
theorem dX9_tellSlip_1 : decode cX9_tellSlip 1 = .ok (.ifCond .lt 10, 3) := by decide +kernel
theorem dX9_tellSlip_4 : decode cX9_tellSlip 4 = .ok (.iload_n 1, 1) := by decide +kernel
theorem dX9_tellSlip_5 : decode cX9_tellSlip 5 = .ok (.sipush 1000, 3) := by decide +kernel
theorem dX9_tellSlip_8 : decode cX9_tellSlip 8 = .ok (.if_icmp .le 5, 3) := by decide +kernel
theorem dX9_tellSlip_11 : decode cX9_tellSlip 11 = .ok (.iconst 0, 1) := by decide +kernel
theorem dX9_tellSlip_12 : decode cX9_tellSlip 12 = .ok (.ireturn, 1) := by decide +kernel
theorem dX9_tellSlip_13 : decode cX9_tellSlip 13 = .ok (.aload_n 0, 1) := by decide +kernel
theorem dX9_tellSlip_14 : decode cX9_tellSlip 14 = .ok (.getfield 10, 3) := by decide +kernel
theorem dX9_tellSlip_17 : decode cX9_tellSlip 17 = .ok (.iload_n 1, 1) := by decide +kernel
theorem dX9_tellSlip_18 : decode cX9_tellSlip 18 = .ok (.putfield 282, 3) := by decide +kernel
theorem dX9_tellSlip_21 : decode cX9_tellSlip 21 = .ok (.iconst 1, 1) := by decide +kernel
theorem dX9_tellSlip_22 : decode cX9_tellSlip 22 = .ok (.ireturn, 1) := by decide +kernel
theorem dX9_tellOfPerson_0 : decode cX9_tellOfPerson 0 = .ok (.iload_n 1, 1) := by decide +kernel
theorem dX9_tellOfPerson_1 : decode cX9_tellOfPerson 1 = .ok (.tableswitch 48 0 2 #[27, 34, 41], 27) := by decide +kernel
theorem dX9_tellOfPerson_28 : decode cX9_tellOfPerson 28 = .ok (.aload_n 0, 1) := by decide +kernel
theorem dX9_tellOfPerson_29 : decode cX9_tellOfPerson 29 = .ok (.iload_n 2, 1) := by decide +kernel
theorem dX9_tellOfPerson_30 : decode cX9_tellOfPerson 30 = .ok (.iload_n 3, 1) := by decide +kernel
theorem dX9_tellOfPerson_31 : decode cX9_tellOfPerson 31 = .ok (.invokevirtual 288, 3) := by decide +kernel
theorem dX9_tellOfPerson_34 : decode cX9_tellOfPerson 34 = .ok (.ireturn, 1) := by decide +kernel
theorem dX9_tellOfPerson_35 : decode cX9_tellOfPerson 35 = .ok (.aload_n 0, 1) := by decide +kernel
theorem dX9_tellOfPerson_36 : decode cX9_tellOfPerson 36 = .ok (.iload_n 2, 1) := by decide +kernel
theorem dX9_tellOfPerson_37 : decode cX9_tellOfPerson 37 = .ok (.iload_n 3, 1) := by decide +kernel
theorem dX9_tellOfPerson_38 : decode cX9_tellOfPerson 38 = .ok (.invokevirtual 291, 3) := by decide +kernel
theorem dX9_tellOfPerson_41 : decode cX9_tellOfPerson 41 = .ok (.ireturn, 1) := by decide +kernel
theorem dX9_tellOfPerson_42 : decode cX9_tellOfPerson 42 = .ok (.aload_n 0, 1) := by decide +kernel
theorem dX9_tellOfPerson_43 : decode cX9_tellOfPerson 43 = .ok (.iload_n 2, 1) := by decide +kernel
theorem dX9_tellOfPerson_44 : decode cX9_tellOfPerson 44 = .ok (.iload_n 3, 1) := by decide +kernel
theorem dX9_tellOfPerson_45 : decode cX9_tellOfPerson 45 = .ok (.invokevirtual 294, 3) := by decide +kernel
theorem dX9_tellOfPerson_48 : decode cX9_tellOfPerson 48 = .ok (.ireturn, 1) := by decide +kernel
theorem dX9_tellOfPerson_49 : decode cX9_tellOfPerson 49 = .ok (.iconst 0, 1) := by decide +kernel
theorem dX9_tellOfPerson_50 : decode cX9_tellOfPerson 50 = .ok (.ireturn, 1) := by decide +kernel
theorem dX9_tellHum_0 : decode cX9_tellHum 0 = .ok (.iload_n 2, 1) := by decide +kernel
theorem dX9_tellHum_1 : decode cX9_tellHum 1 = .ok (.invokestatic 89, 3) := by decide +kernel
theorem dX9_tellHum_4 : decode cX9_tellHum 4 = .ok (.ifCond .ne 5, 3) := by decide +kernel
theorem dX9_tellHum_7 : decode cX9_tellHum 7 = .ok (.iconst 0, 1) := by decide +kernel
theorem dX9_tellHum_8 : decode cX9_tellHum 8 = .ok (.ireturn, 1) := by decide +kernel
theorem dX9_tellHum_9 : decode cX9_tellHum 9 = .ok (.aload_n 0, 1) := by decide +kernel
theorem dX9_tellHum_10 : decode cX9_tellHum 10 = .ok (.getfield 10, 3) := by decide +kernel
theorem dX9_tellHum_13 : decode cX9_tellHum 13 = .ok (.getfield 96, 3) := by decide +kernel
theorem dX9_tellHum_16 : decode cX9_tellHum 16 = .ok (.iload_n 1, 1) := by decide +kernel
theorem dX9_tellHum_17 : decode cX9_tellHum 17 = .ok (.iload_n 2, 1) := by decide +kernel
theorem dX9_tellHum_18 : decode cX9_tellHum 18 = .ok (.iastore, 1) := by decide +kernel
theorem dX9_tellHum_19 : decode cX9_tellHum 19 = .ok (.iload_n 2, 1) := by decide +kernel
theorem dX9_tellHum_20 : decode cX9_tellHum 20 = .ok (.iconst (-1), 1) := by decide +kernel
theorem dX9_tellHum_21 : decode cX9_tellHum 21 = .ok (.if_icmp .ne 20, 3) := by decide +kernel
theorem dX9_tellHum_24 : decode cX9_tellHum 24 = .ok (.aload_n 0, 1) := by decide +kernel
theorem dX9_tellHum_25 : decode cX9_tellHum 25 = .ok (.getfield 10, 3) := by decide +kernel
theorem dX9_tellHum_28 : decode cX9_tellHum 28 = .ok (.dup, 1) := by decide +kernel
theorem dX9_tellHum_29 : decode cX9_tellHum 29 = .ok (.getfield 177, 3) := by decide +kernel
theorem dX9_tellHum_32 : decode cX9_tellHum 32 = .ok (.iconst 1, 1) := by decide +kernel
theorem dX9_tellHum_33 : decode cX9_tellHum 33 = .ok (.iload_n 1, 1) := by decide +kernel
theorem dX9_tellHum_34 : decode cX9_tellHum 34 = .ok (.ishl, 1) := by decide +kernel
theorem dX9_tellHum_35 : decode cX9_tellHum 35 = .ok (.iconst (-1), 1) := by decide +kernel
theorem dX9_tellHum_36 : decode cX9_tellHum 36 = .ok (.ixor, 1) := by decide +kernel
theorem dX9_tellHum_37 : decode cX9_tellHum 37 = .ok (.iand, 1) := by decide +kernel
theorem dX9_tellHum_38 : decode cX9_tellHum 38 = .ok (.putfield 177, 3) := by decide +kernel
theorem dX9_tellHum_41 : decode cX9_tellHum 41 = .ok (.iconst 1, 1) := by decide +kernel
theorem dX9_tellHum_42 : decode cX9_tellHum 42 = .ok (.ireturn, 1) := by decide +kernel
theorem dX9_tellSounding_0 : decode cX9_tellSounding 0 = .ok (.iload_n 2, 1) := by decide +kernel
theorem dX9_tellSounding_1 : decode cX9_tellSounding 1 = .ok (.ifCond .ne 22, 3) := by decide +kernel
theorem dX9_tellSounding_4 : decode cX9_tellSounding 4 = .ok (.aload_n 0, 1) := by decide +kernel
theorem dX9_tellSounding_5 : decode cX9_tellSounding 5 = .ok (.getfield 10, 3) := by decide +kernel
theorem dX9_tellSounding_8 : decode cX9_tellSounding 8 = .ok (.dup, 1) := by decide +kernel
theorem dX9_tellSounding_9 : decode cX9_tellSounding 9 = .ok (.getfield 177, 3) := by decide +kernel
theorem dX9_tellSounding_12 : decode cX9_tellSounding 12 = .ok (.iconst 1, 1) := by decide +kernel
theorem dX9_tellSounding_13 : decode cX9_tellSounding 13 = .ok (.iload_n 1, 1) := by decide +kernel
theorem dX9_tellSounding_14 : decode cX9_tellSounding 14 = .ok (.ishl, 1) := by decide +kernel
theorem dX9_tellSounding_15 : decode cX9_tellSounding 15 = .ok (.iconst (-1), 1) := by decide +kernel
theorem dX9_tellSounding_16 : decode cX9_tellSounding 16 = .ok (.ixor, 1) := by decide +kernel
theorem dX9_tellSounding_17 : decode cX9_tellSounding 17 = .ok (.iand, 1) := by decide +kernel
theorem dX9_tellSounding_18 : decode cX9_tellSounding 18 = .ok (.putfield 177, 3) := by decide +kernel
theorem dX9_tellSounding_21 : decode cX9_tellSounding 21 = .ok (.iconst 1, 1) := by decide +kernel
theorem dX9_tellSounding_22 : decode cX9_tellSounding 22 = .ok (.ireturn, 1) := by decide +kernel
theorem dX9_tellSounding_23 : decode cX9_tellSounding 23 = .ok (.iload_n 2, 1) := by decide +kernel
theorem dX9_tellSounding_24 : decode cX9_tellSounding 24 = .ok (.iconst 1, 1) := by decide +kernel
theorem dX9_tellSounding_25 : decode cX9_tellSounding 25 = .ok (.if_icmp .ne 14, 3) := by decide +kernel
theorem dX9_tellSounding_28 : decode cX9_tellSounding 28 = .ok (.aload_n 0, 1) := by decide +kernel
theorem dX9_tellSounding_29 : decode cX9_tellSounding 29 = .ok (.getfield 10, 3) := by decide +kernel
theorem dX9_tellSounding_32 : decode cX9_tellSounding 32 = .ok (.iload_n 1, 1) := by decide +kernel
theorem dX9_tellSounding_33 : decode cX9_tellSounding 33 = .ok (.invokevirtual 139, 3) := by decide +kernel
theorem dX9_tellSounding_36 : decode cX9_tellSounding 36 = .ok (.ifCond .ne 5, 3) := by decide +kernel
theorem dX9_tellSounding_39 : decode cX9_tellSounding 39 = .ok (.iconst 0, 1) := by decide +kernel
theorem dX9_tellSounding_40 : decode cX9_tellSounding 40 = .ok (.ireturn, 1) := by decide +kernel
theorem dX9_tellSounding_41 : decode cX9_tellSounding 41 = .ok (.aload_n 0, 1) := by decide +kernel
theorem dX9_tellSounding_42 : decode cX9_tellSounding 42 = .ok (.getfield 10, 3) := by decide +kernel
theorem dX9_tellSounding_45 : decode cX9_tellSounding 45 = .ok (.dup, 1) := by decide +kernel
theorem dX9_tellSounding_46 : decode cX9_tellSounding 46 = .ok (.getfield 177, 3) := by decide +kernel
theorem dX9_tellSounding_49 : decode cX9_tellSounding 49 = .ok (.iconst 1, 1) := by decide +kernel
theorem dX9_tellSounding_50 : decode cX9_tellSounding 50 = .ok (.iload_n 1, 1) := by decide +kernel
theorem dX9_tellSounding_51 : decode cX9_tellSounding 51 = .ok (.ishl, 1) := by decide +kernel
theorem dX9_tellSounding_52 : decode cX9_tellSounding 52 = .ok (.ior, 1) := by decide +kernel
theorem dX9_tellSounding_53 : decode cX9_tellSounding 53 = .ok (.putfield 177, 3) := by decide +kernel
theorem dX9_tellSounding_56 : decode cX9_tellSounding 56 = .ok (.iconst 1, 1) := by decide +kernel
theorem dX9_tellSounding_57 : decode cX9_tellSounding 57 = .ok (.ireturn, 1) := by decide +kernel
theorem dX9_tellLoud_0 : decode cX9_tellLoud 0 = .ok (.iload_n 2, 1) := by decide +kernel
theorem dX9_tellLoud_1 : decode cX9_tellLoud 1 = .ok (.ifCond .lt 9, 3) := by decide +kernel
theorem dX9_tellLoud_4 : decode cX9_tellLoud 4 = .ok (.iload_n 2, 1) := by decide +kernel
theorem dX9_tellLoud_5 : decode cX9_tellLoud 5 = .ok (.bipush 9, 2) := by decide +kernel
theorem dX9_tellLoud_7 : decode cX9_tellLoud 7 = .ok (.if_icmp .le 5, 3) := by decide +kernel
theorem dX9_tellLoud_10 : decode cX9_tellLoud 10 = .ok (.iconst 0, 1) := by decide +kernel
theorem dX9_tellLoud_11 : decode cX9_tellLoud 11 = .ok (.ireturn, 1) := by decide +kernel
theorem dX9_tellLoud_12 : decode cX9_tellLoud 12 = .ok (.aload_n 0, 1) := by decide +kernel
theorem dX9_tellLoud_13 : decode cX9_tellLoud 13 = .ok (.getfield 10, 3) := by decide +kernel
theorem dX9_tellLoud_16 : decode cX9_tellLoud 16 = .ok (.getfield 180, 3) := by decide +kernel
theorem dX9_tellLoud_19 : decode cX9_tellLoud 19 = .ok (.iload_n 1, 1) := by decide +kernel
theorem dX9_tellLoud_20 : decode cX9_tellLoud 20 = .ok (.iload_n 2, 1) := by decide +kernel
theorem dX9_tellLoud_21 : decode cX9_tellLoud 21 = .ok (.iastore, 1) := by decide +kernel
theorem dX9_tellLoud_22 : decode cX9_tellLoud 22 = .ok (.iconst 1, 1) := by decide +kernel
theorem dX9_tellLoud_23 : decode cX9_tellLoud 23 = .ok (.ireturn, 1) := by decide +kernel
theorem dX9_putBytes_0 : decode cX9_putBytes 0 = .ok (.bipush 24, 2) := by decide +kernel
theorem dX9_putBytes_2 : decode cX9_putBytes 2 = .ok (.istore_n 2, 1) := by decide +kernel
theorem dX9_putBytes_3 : decode cX9_putBytes 3 = .ok (.iload_n 2, 1) := by decide +kernel
theorem dX9_putBytes_4 : decode cX9_putBytes 4 = .ok (.ifCond .lt 42, 3) := by decide +kernel
theorem dX9_putBytes_7 : decode cX9_putBytes 7 = .ok (.aload_n 0, 1) := by decide +kernel
theorem dX9_putBytes_8 : decode cX9_putBytes 8 = .ok (.getfield 34, 3) := by decide +kernel
theorem dX9_putBytes_11 : decode cX9_putBytes 11 = .ok (.sipush 400, 3) := by decide +kernel
theorem dX9_putBytes_14 : decode cX9_putBytes 14 = .ok (.if_icmp .ge 32, 3) := by decide +kernel
theorem dX9_putBytes_17 : decode cX9_putBytes 17 = .ok (.aload_n 0, 1) := by decide +kernel
theorem dX9_putBytes_18 : decode cX9_putBytes 18 = .ok (.getfield 30, 3) := by decide +kernel
theorem dX9_putBytes_21 : decode cX9_putBytes 21 = .ok (.aload_n 0, 1) := by decide +kernel
theorem dX9_putBytes_22 : decode cX9_putBytes 22 = .ok (.getfield 34, 3) := by decide +kernel
theorem dX9_putBytes_25 : decode cX9_putBytes 25 = .ok (.iload_n 1, 1) := by decide +kernel
theorem dX9_putBytes_26 : decode cX9_putBytes 26 = .ok (.iload_n 2, 1) := by decide +kernel
theorem dX9_putBytes_27 : decode cX9_putBytes 27 = .ok (.ishr, 1) := by decide +kernel
theorem dX9_putBytes_28 : decode cX9_putBytes 28 = .ok (.i2b, 1) := by decide +kernel
theorem dX9_putBytes_29 : decode cX9_putBytes 29 = .ok (.bastore, 1) := by decide +kernel
theorem dX9_putBytes_30 : decode cX9_putBytes 30 = .ok (.aload_n 0, 1) := by decide +kernel
theorem dX9_putBytes_31 : decode cX9_putBytes 31 = .ok (.dup, 1) := by decide +kernel
theorem dX9_putBytes_32 : decode cX9_putBytes 32 = .ok (.getfield 34, 3) := by decide +kernel
theorem dX9_putBytes_35 : decode cX9_putBytes 35 = .ok (.iconst 1, 1) := by decide +kernel
theorem dX9_putBytes_36 : decode cX9_putBytes 36 = .ok (.iadd, 1) := by decide +kernel
theorem dX9_putBytes_37 : decode cX9_putBytes 37 = .ok (.putfield 34, 3) := by decide +kernel
theorem dX9_putBytes_40 : decode cX9_putBytes 40 = .ok (.iinc 2 (-8), 3) := by decide +kernel
theorem dX9_putBytes_43 : decode cX9_putBytes 43 = .ok (.goto (-40), 3) := by decide +kernel
theorem dX9_putBytes_46 : decode cX9_putBytes 46 = .ok (.return_, 1) := by decide +kernel
theorem dX9_stepsAgree_0 : decode cX9_stepsAgree 0 = .ok (.iconst 1, 1) := by decide +kernel
theorem dX9_stepsAgree_1 : decode cX9_stepsAgree 1 = .ok (.istore 5, 2) := by decide +kernel
theorem dX9_stepsAgree_3 : decode cX9_stepsAgree 3 = .ok (.iload 5, 2) := by decide +kernel
theorem dX9_stepsAgree_5 : decode cX9_stepsAgree 5 = .ok (.iload_n 3, 1) := by decide +kernel
theorem dX9_stepsAgree_6 : decode cX9_stepsAgree 6 = .ok (.if_icmp .ge 71, 3) := by decide +kernel
theorem dX9_stepsAgree_9 : decode cX9_stepsAgree 9 = .ok (.aload_n 0, 1) := by decide +kernel
theorem dX9_stepsAgree_10 : decode cX9_stepsAgree 10 = .ok (.getfield 10, 3) := by decide +kernel
theorem dX9_stepsAgree_13 : decode cX9_stepsAgree 13 = .ok (.iload_n 1, 1) := by decide +kernel
theorem dX9_stepsAgree_14 : decode cX9_stepsAgree 14 = .ok (.iload 5, 2) := by decide +kernel
theorem dX9_stepsAgree_16 : decode cX9_stepsAgree 16 = .ok (.invokevirtual 211, 3) := by decide +kernel
theorem dX9_stepsAgree_19 : decode cX9_stepsAgree 19 = .ok (.aload_n 0, 1) := by decide +kernel
theorem dX9_stepsAgree_20 : decode cX9_stepsAgree 20 = .ok (.getfield 10, 3) := by decide +kernel
theorem dX9_stepsAgree_23 : decode cX9_stepsAgree 23 = .ok (.iload_n 1, 1) := by decide +kernel
theorem dX9_stepsAgree_24 : decode cX9_stepsAgree 24 = .ok (.iload 5, 2) := by decide +kernel
theorem dX9_stepsAgree_26 : decode cX9_stepsAgree 26 = .ok (.iconst 1, 1) := by decide +kernel
theorem dX9_stepsAgree_27 : decode cX9_stepsAgree 27 = .ok (.isub, 1) := by decide +kernel
theorem dX9_stepsAgree_28 : decode cX9_stepsAgree 28 = .ok (.invokevirtual 211, 3) := by decide +kernel
theorem dX9_stepsAgree_31 : decode cX9_stepsAgree 31 = .ok (.isub, 1) := by decide +kernel
theorem dX9_stepsAgree_32 : decode cX9_stepsAgree 32 = .ok (.istore 6, 2) := by decide +kernel
theorem dX9_stepsAgree_34 : decode cX9_stepsAgree 34 = .ok (.aload_n 0, 1) := by decide +kernel
theorem dX9_stepsAgree_35 : decode cX9_stepsAgree 35 = .ok (.getfield 10, 3) := by decide +kernel
theorem dX9_stepsAgree_38 : decode cX9_stepsAgree 38 = .ok (.iload_n 2, 1) := by decide +kernel
theorem dX9_stepsAgree_39 : decode cX9_stepsAgree 39 = .ok (.iload 5, 2) := by decide +kernel
theorem dX9_stepsAgree_41 : decode cX9_stepsAgree 41 = .ok (.invokevirtual 211, 3) := by decide +kernel
theorem dX9_stepsAgree_44 : decode cX9_stepsAgree 44 = .ok (.aload_n 0, 1) := by decide +kernel
theorem dX9_stepsAgree_45 : decode cX9_stepsAgree 45 = .ok (.getfield 10, 3) := by decide +kernel
theorem dX9_stepsAgree_48 : decode cX9_stepsAgree 48 = .ok (.iload_n 2, 1) := by decide +kernel
theorem dX9_stepsAgree_49 : decode cX9_stepsAgree 49 = .ok (.iload 5, 2) := by decide +kernel
theorem dX9_stepsAgree_51 : decode cX9_stepsAgree 51 = .ok (.iconst 1, 1) := by decide +kernel
theorem dX9_stepsAgree_52 : decode cX9_stepsAgree 52 = .ok (.isub, 1) := by decide +kernel
theorem dX9_stepsAgree_53 : decode cX9_stepsAgree 53 = .ok (.invokevirtual 211, 3) := by decide +kernel
theorem dX9_stepsAgree_56 : decode cX9_stepsAgree 56 = .ok (.isub, 1) := by decide +kernel
theorem dX9_stepsAgree_57 : decode cX9_stepsAgree 57 = .ok (.istore 7, 2) := by decide +kernel
theorem dX9_stepsAgree_59 : decode cX9_stepsAgree 59 = .ok (.iload 6, 2) := by decide +kernel
theorem dX9_stepsAgree_61 : decode cX9_stepsAgree 61 = .ok (.iload 4, 2) := by decide +kernel
theorem dX9_stepsAgree_63 : decode cX9_stepsAgree 63 = .ok (.iload 7, 2) := by decide +kernel
theorem dX9_stepsAgree_65 : decode cX9_stepsAgree 65 = .ok (.imul, 1) := by decide +kernel
theorem dX9_stepsAgree_66 : decode cX9_stepsAgree 66 = .ok (.if_icmp .eq 5, 3) := by decide +kernel
theorem dX9_stepsAgree_69 : decode cX9_stepsAgree 69 = .ok (.iconst 0, 1) := by decide +kernel
theorem dX9_stepsAgree_70 : decode cX9_stepsAgree 70 = .ok (.ireturn, 1) := by decide +kernel
theorem dX9_stepsAgree_71 : decode cX9_stepsAgree 71 = .ok (.iinc 5 1, 3) := by decide +kernel
theorem dX9_stepsAgree_74 : decode cX9_stepsAgree 74 = .ok (.goto (-71), 3) := by decide +kernel
theorem dX9_stepsAgree_77 : decode cX9_stepsAgree 77 = .ok (.iconst 1, 1) := by decide +kernel
theorem dX9_stepsAgree_78 : decode cX9_stepsAgree 78 = .ok (.ireturn, 1) := by decide +kernel
theorem dX9_firstSafeWords_0 : decode cX9_firstSafeWords 0 = .ok (.iconst 0, 1) := by decide +kernel
theorem dX9_firstSafeWords_1 : decode cX9_firstSafeWords 1 = .ok (.istore_n 1, 1) := by decide +kernel
theorem dX9_firstSafeWords_2 : decode cX9_firstSafeWords 2 = .ok (.iconst 1, 1) := by decide +kernel
theorem dX9_firstSafeWords_3 : decode cX9_firstSafeWords 3 = .ok (.istore_n 2, 1) := by decide +kernel
theorem dX9_firstSafeWords_4 : decode cX9_firstSafeWords 4 = .ok (.iconst 1, 1) := by decide +kernel
theorem dX9_firstSafeWords_5 : decode cX9_firstSafeWords 5 = .ok (.istore_n 3, 1) := by decide +kernel
theorem dX9_firstSafeWords_6 : decode cX9_firstSafeWords 6 = .ok (.iload_n 3, 1) := by decide +kernel
theorem dX9_firstSafeWords_7 : decode cX9_firstSafeWords 7 = .ok (.bipush 24, 2) := by decide +kernel
theorem dX9_firstSafeWords_9 : decode cX9_firstSafeWords 9 = .ok (.if_icmp .gt 33, 3) := by decide +kernel
theorem dX9_firstSafeWords_12 : decode cX9_firstSafeWords 12 = .ok (.iload_n 3, 1) := by decide +kernel
theorem dX9_firstSafeWords_13 : decode cX9_firstSafeWords 13 = .ok (.iload_n 2, 1) := by decide +kernel
theorem dX9_firstSafeWords_14 : decode cX9_firstSafeWords 14 = .ok (.if_icmp .lt 22, 3) := by decide +kernel
theorem dX9_firstSafeWords_17 : decode cX9_firstSafeWords 17 = .ok (.iload_n 0, 1) := by decide +kernel
theorem dX9_firstSafeWords_18 : decode cX9_firstSafeWords 18 = .ok (.iload_n 3, 1) := by decide +kernel
theorem dX9_firstSafeWords_19 : decode cX9_firstSafeWords 19 = .ok (.ishr, 1) := by decide +kernel
theorem dX9_firstSafeWords_20 : decode cX9_firstSafeWords 20 = .ok (.iconst 1, 1) := by decide +kernel
theorem dX9_firstSafeWords_21 : decode cX9_firstSafeWords 21 = .ok (.iand, 1) := by decide +kernel
theorem dX9_firstSafeWords_22 : decode cX9_firstSafeWords 22 = .ok (.iconst 1, 1) := by decide +kernel
theorem dX9_firstSafeWords_23 : decode cX9_firstSafeWords 23 = .ok (.if_icmp .ne 13, 3) := by decide +kernel
theorem dX9_firstSafeWords_26 : decode cX9_firstSafeWords 26 = .ok (.iload_n 1, 1) := by decide +kernel
theorem dX9_firstSafeWords_27 : decode cX9_firstSafeWords 27 = .ok (.iconst 1, 1) := by decide +kernel
theorem dX9_firstSafeWords_28 : decode cX9_firstSafeWords 28 = .ok (.iload_n 3, 1) := by decide +kernel
theorem dX9_firstSafeWords_29 : decode cX9_firstSafeWords 29 = .ok (.ishl, 1) := by decide +kernel
theorem dX9_firstSafeWords_30 : decode cX9_firstSafeWords 30 = .ok (.ior, 1) := by decide +kernel
theorem dX9_firstSafeWords_31 : decode cX9_firstSafeWords 31 = .ok (.istore_n 1, 1) := by decide +kernel
theorem dX9_firstSafeWords_32 : decode cX9_firstSafeWords 32 = .ok (.iload_n 3, 1) := by decide +kernel
theorem dX9_firstSafeWords_33 : decode cX9_firstSafeWords 33 = .ok (.iconst 3, 1) := by decide +kernel
theorem dX9_firstSafeWords_34 : decode cX9_firstSafeWords 34 = .ok (.iadd, 1) := by decide +kernel
theorem dX9_firstSafeWords_35 : decode cX9_firstSafeWords 35 = .ok (.istore_n 2, 1) := by decide +kernel
theorem dX9_firstSafeWords_36 : decode cX9_firstSafeWords 36 = .ok (.iinc 3 1, 3) := by decide +kernel
theorem dX9_firstSafeWords_39 : decode cX9_firstSafeWords 39 = .ok (.goto (-33), 3) := by decide +kernel
theorem dX9_firstSafeWords_42 : decode cX9_firstSafeWords 42 = .ok (.iload_n 1, 1) := by decide +kernel
theorem dX9_firstSafeWords_43 : decode cX9_firstSafeWords 43 = .ok (.ireturn, 1) := by decide +kernel
theorem dJ11_isValidCodePoint_9a6ad_0 : decode cJ11_isValidCodePoint_9a6ad 0 = .ok (.iload_n 0, 1) := by decide +kernel
theorem dJ11_isValidCodePoint_9a6ad_1 : decode cJ11_isValidCodePoint_9a6ad 1 = .ok (.bipush 16, 2) := by decide +kernel
theorem dJ11_isValidCodePoint_9a6ad_3 : decode cJ11_isValidCodePoint_9a6ad 3 = .ok (.iushr, 1) := by decide +kernel
theorem dJ11_isValidCodePoint_9a6ad_4 : decode cJ11_isValidCodePoint_9a6ad 4 = .ok (.istore_n 1, 1) := by decide +kernel
theorem dJ11_isValidCodePoint_9a6ad_5 : decode cJ11_isValidCodePoint_9a6ad 5 = .ok (.iload_n 1, 1) := by decide +kernel
theorem dJ11_isValidCodePoint_9a6ad_6 : decode cJ11_isValidCodePoint_9a6ad 6 = .ok (.bipush 17, 2) := by decide +kernel
theorem dJ11_isValidCodePoint_9a6ad_8 : decode cJ11_isValidCodePoint_9a6ad 8 = .ok (.if_icmp .ge 7, 3) := by decide +kernel
theorem dJ11_isValidCodePoint_9a6ad_11 : decode cJ11_isValidCodePoint_9a6ad 11 = .ok (.iconst 1, 1) := by decide +kernel
theorem dJ11_isValidCodePoint_9a6ad_12 : decode cJ11_isValidCodePoint_9a6ad 12 = .ok (.goto 4, 3) := by decide +kernel
theorem dJ11_isValidCodePoint_9a6ad_15 : decode cJ11_isValidCodePoint_9a6ad 15 = .ok (.iconst 0, 1) := by decide +kernel
theorem dJ11_isValidCodePoint_9a6ad_16 : decode cJ11_isValidCodePoint_9a6ad 16 = .ok (.ireturn, 1) := by decide +kernel
theorem dJ11_highSurrogate_5068e_0 : decode cJ11_highSurrogate_5068e 0 = .ok (.iload_n 0, 1) := by decide +kernel
theorem dJ11_highSurrogate_5068e_1 : decode cJ11_highSurrogate_5068e 1 = .ok (.bipush 10, 2) := by decide +kernel
theorem dJ11_highSurrogate_5068e_3 : decode cJ11_highSurrogate_5068e 3 = .ok (.iushr, 1) := by decide +kernel
theorem dJ11_highSurrogate_5068e_4 : decode cJ11_highSurrogate_5068e 4 = .ok (.ldc 110, 2) := by decide +kernel
theorem dJ11_highSurrogate_5068e_6 : decode cJ11_highSurrogate_5068e 6 = .ok (.iadd, 1) := by decide +kernel
theorem dJ11_highSurrogate_5068e_7 : decode cJ11_highSurrogate_5068e 7 = .ok (.i2c, 1) := by decide +kernel
theorem dJ11_highSurrogate_5068e_8 : decode cJ11_highSurrogate_5068e 8 = .ok (.ireturn, 1) := by decide +kernel
theorem dJ11_lowSurrogate_5068e_0 : decode cJ11_lowSurrogate_5068e 0 = .ok (.iload_n 0, 1) := by decide +kernel
theorem dJ11_lowSurrogate_5068e_1 : decode cJ11_lowSurrogate_5068e 1 = .ok (.sipush 1023, 3) := by decide +kernel
theorem dJ11_lowSurrogate_5068e_4 : decode cJ11_lowSurrogate_5068e 4 = .ok (.iand, 1) := by decide +kernel
theorem dJ11_lowSurrogate_5068e_5 : decode cJ11_lowSurrogate_5068e 5 = .ok (.ldc 76, 2) := by decide +kernel
theorem dJ11_lowSurrogate_5068e_7 : decode cJ11_lowSurrogate_5068e 7 = .ok (.iadd, 1) := by decide +kernel
theorem dJ11_lowSurrogate_5068e_8 : decode cJ11_lowSurrogate_5068e 8 = .ok (.i2c, 1) := by decide +kernel
theorem dJ11_lowSurrogate_5068e_9 : decode cJ11_lowSurrogate_5068e 9 = .ok (.ireturn, 1) := by decide +kernel
theorem dJ6_bitCount_0f7a4_0 : decode cJ6_bitCount_0f7a4 0 = .ok (.iload_n 0, 1) := by decide +kernel
theorem dJ6_bitCount_0f7a4_1 : decode cJ6_bitCount_0f7a4 1 = .ok (.iload_n 0, 1) := by decide +kernel
theorem dJ6_bitCount_0f7a4_2 : decode cJ6_bitCount_0f7a4 2 = .ok (.iconst 1, 1) := by decide +kernel
theorem dJ6_bitCount_0f7a4_3 : decode cJ6_bitCount_0f7a4 3 = .ok (.iushr, 1) := by decide +kernel
theorem dJ6_bitCount_0f7a4_4 : decode cJ6_bitCount_0f7a4 4 = .ok (.ldc_w 265, 3) := by decide +kernel
theorem dJ6_bitCount_0f7a4_7 : decode cJ6_bitCount_0f7a4 7 = .ok (.iand, 1) := by decide +kernel
theorem dJ6_bitCount_0f7a4_8 : decode cJ6_bitCount_0f7a4 8 = .ok (.isub, 1) := by decide +kernel
theorem dJ6_bitCount_0f7a4_9 : decode cJ6_bitCount_0f7a4 9 = .ok (.istore_n 0, 1) := by decide +kernel
theorem dJ6_bitCount_0f7a4_10 : decode cJ6_bitCount_0f7a4 10 = .ok (.iload_n 0, 1) := by decide +kernel
theorem dJ6_bitCount_0f7a4_11 : decode cJ6_bitCount_0f7a4 11 = .ok (.ldc_w 266, 3) := by decide +kernel
theorem dJ6_bitCount_0f7a4_14 : decode cJ6_bitCount_0f7a4 14 = .ok (.iand, 1) := by decide +kernel
theorem dJ6_bitCount_0f7a4_15 : decode cJ6_bitCount_0f7a4 15 = .ok (.iload_n 0, 1) := by decide +kernel
theorem dJ6_bitCount_0f7a4_16 : decode cJ6_bitCount_0f7a4 16 = .ok (.iconst 2, 1) := by decide +kernel
theorem dJ6_bitCount_0f7a4_17 : decode cJ6_bitCount_0f7a4 17 = .ok (.iushr, 1) := by decide +kernel
theorem dJ6_bitCount_0f7a4_18 : decode cJ6_bitCount_0f7a4 18 = .ok (.ldc_w 266, 3) := by decide +kernel
theorem dJ6_bitCount_0f7a4_21 : decode cJ6_bitCount_0f7a4 21 = .ok (.iand, 1) := by decide +kernel
theorem dJ6_bitCount_0f7a4_22 : decode cJ6_bitCount_0f7a4 22 = .ok (.iadd, 1) := by decide +kernel
theorem dJ6_bitCount_0f7a4_23 : decode cJ6_bitCount_0f7a4 23 = .ok (.istore_n 0, 1) := by decide +kernel
theorem dJ6_bitCount_0f7a4_24 : decode cJ6_bitCount_0f7a4 24 = .ok (.iload_n 0, 1) := by decide +kernel
theorem dJ6_bitCount_0f7a4_25 : decode cJ6_bitCount_0f7a4 25 = .ok (.iload_n 0, 1) := by decide +kernel
theorem dJ6_bitCount_0f7a4_26 : decode cJ6_bitCount_0f7a4 26 = .ok (.iconst 4, 1) := by decide +kernel
theorem dJ6_bitCount_0f7a4_27 : decode cJ6_bitCount_0f7a4 27 = .ok (.iushr, 1) := by decide +kernel
theorem dJ6_bitCount_0f7a4_28 : decode cJ6_bitCount_0f7a4 28 = .ok (.iadd, 1) := by decide +kernel
theorem dJ6_bitCount_0f7a4_29 : decode cJ6_bitCount_0f7a4 29 = .ok (.ldc_w 267, 3) := by decide +kernel
theorem dJ6_bitCount_0f7a4_32 : decode cJ6_bitCount_0f7a4 32 = .ok (.iand, 1) := by decide +kernel
theorem dJ6_bitCount_0f7a4_33 : decode cJ6_bitCount_0f7a4 33 = .ok (.istore_n 0, 1) := by decide +kernel
theorem dJ6_bitCount_0f7a4_34 : decode cJ6_bitCount_0f7a4 34 = .ok (.iload_n 0, 1) := by decide +kernel
theorem dJ6_bitCount_0f7a4_35 : decode cJ6_bitCount_0f7a4 35 = .ok (.iload_n 0, 1) := by decide +kernel
theorem dJ6_bitCount_0f7a4_36 : decode cJ6_bitCount_0f7a4 36 = .ok (.bipush 8, 2) := by decide +kernel
theorem dJ6_bitCount_0f7a4_38 : decode cJ6_bitCount_0f7a4 38 = .ok (.iushr, 1) := by decide +kernel
theorem dJ6_bitCount_0f7a4_39 : decode cJ6_bitCount_0f7a4 39 = .ok (.iadd, 1) := by decide +kernel
theorem dJ6_bitCount_0f7a4_40 : decode cJ6_bitCount_0f7a4 40 = .ok (.istore_n 0, 1) := by decide +kernel
theorem dJ6_bitCount_0f7a4_41 : decode cJ6_bitCount_0f7a4 41 = .ok (.iload_n 0, 1) := by decide +kernel
theorem dJ6_bitCount_0f7a4_42 : decode cJ6_bitCount_0f7a4 42 = .ok (.iload_n 0, 1) := by decide +kernel
theorem dJ6_bitCount_0f7a4_43 : decode cJ6_bitCount_0f7a4 43 = .ok (.bipush 16, 2) := by decide +kernel
theorem dJ6_bitCount_0f7a4_45 : decode cJ6_bitCount_0f7a4 45 = .ok (.iushr, 1) := by decide +kernel
theorem dJ6_bitCount_0f7a4_46 : decode cJ6_bitCount_0f7a4 46 = .ok (.iadd, 1) := by decide +kernel
theorem dJ6_bitCount_0f7a4_47 : decode cJ6_bitCount_0f7a4 47 = .ok (.istore_n 0, 1) := by decide +kernel
theorem dJ6_bitCount_0f7a4_48 : decode cJ6_bitCount_0f7a4 48 = .ok (.iload_n 0, 1) := by decide +kernel
theorem dJ6_bitCount_0f7a4_49 : decode cJ6_bitCount_0f7a4 49 = .ok (.bipush 63, 2) := by decide +kernel
theorem dJ6_bitCount_0f7a4_51 : decode cJ6_bitCount_0f7a4 51 = .ok (.iand, 1) := by decide +kernel
theorem dJ6_bitCount_0f7a4_52 : decode cJ6_bitCount_0f7a4 52 = .ok (.ireturn, 1) := by decide +kernel
theorem dJ13_bitCount_95d88_0 : decode cJ13_bitCount_95d88 0 = .ok (.lload_n 0, 1) := by decide +kernel
theorem dJ13_bitCount_95d88_1 : decode cJ13_bitCount_95d88 1 = .ok (.lload_n 0, 1) := by decide +kernel
theorem dJ13_bitCount_95d88_2 : decode cJ13_bitCount_95d88 2 = .ok (.iconst 1, 1) := by decide +kernel
theorem dJ13_bitCount_95d88_3 : decode cJ13_bitCount_95d88 3 = .ok (.lushr, 1) := by decide +kernel
theorem dJ13_bitCount_95d88_4 : decode cJ13_bitCount_95d88 4 = .ok (.ldc2_w 314, 3) := by decide +kernel
theorem dJ13_bitCount_95d88_7 : decode cJ13_bitCount_95d88 7 = .ok (.land, 1) := by decide +kernel
theorem dJ13_bitCount_95d88_8 : decode cJ13_bitCount_95d88 8 = .ok (.lsub, 1) := by decide +kernel
theorem dJ13_bitCount_95d88_9 : decode cJ13_bitCount_95d88 9 = .ok (.lstore_n 0, 1) := by decide +kernel
theorem dJ13_bitCount_95d88_10 : decode cJ13_bitCount_95d88 10 = .ok (.lload_n 0, 1) := by decide +kernel
theorem dJ13_bitCount_95d88_11 : decode cJ13_bitCount_95d88 11 = .ok (.ldc2_w 316, 3) := by decide +kernel
theorem dJ13_bitCount_95d88_14 : decode cJ13_bitCount_95d88 14 = .ok (.land, 1) := by decide +kernel
theorem dJ13_bitCount_95d88_15 : decode cJ13_bitCount_95d88 15 = .ok (.lload_n 0, 1) := by decide +kernel
theorem dJ13_bitCount_95d88_16 : decode cJ13_bitCount_95d88 16 = .ok (.iconst 2, 1) := by decide +kernel
theorem dJ13_bitCount_95d88_17 : decode cJ13_bitCount_95d88 17 = .ok (.lushr, 1) := by decide +kernel
theorem dJ13_bitCount_95d88_18 : decode cJ13_bitCount_95d88 18 = .ok (.ldc2_w 316, 3) := by decide +kernel
theorem dJ13_bitCount_95d88_21 : decode cJ13_bitCount_95d88 21 = .ok (.land, 1) := by decide +kernel
theorem dJ13_bitCount_95d88_22 : decode cJ13_bitCount_95d88 22 = .ok (.ladd, 1) := by decide +kernel
theorem dJ13_bitCount_95d88_23 : decode cJ13_bitCount_95d88 23 = .ok (.lstore_n 0, 1) := by decide +kernel
theorem dJ13_bitCount_95d88_24 : decode cJ13_bitCount_95d88 24 = .ok (.lload_n 0, 1) := by decide +kernel
theorem dJ13_bitCount_95d88_25 : decode cJ13_bitCount_95d88 25 = .ok (.lload_n 0, 1) := by decide +kernel
theorem dJ13_bitCount_95d88_26 : decode cJ13_bitCount_95d88 26 = .ok (.iconst 4, 1) := by decide +kernel
theorem dJ13_bitCount_95d88_27 : decode cJ13_bitCount_95d88 27 = .ok (.lushr, 1) := by decide +kernel
theorem dJ13_bitCount_95d88_28 : decode cJ13_bitCount_95d88 28 = .ok (.ladd, 1) := by decide +kernel
theorem dJ13_bitCount_95d88_29 : decode cJ13_bitCount_95d88 29 = .ok (.ldc2_w 318, 3) := by decide +kernel
theorem dJ13_bitCount_95d88_32 : decode cJ13_bitCount_95d88 32 = .ok (.land, 1) := by decide +kernel
theorem dJ13_bitCount_95d88_33 : decode cJ13_bitCount_95d88 33 = .ok (.lstore_n 0, 1) := by decide +kernel
theorem dJ13_bitCount_95d88_34 : decode cJ13_bitCount_95d88 34 = .ok (.lload_n 0, 1) := by decide +kernel
theorem dJ13_bitCount_95d88_35 : decode cJ13_bitCount_95d88 35 = .ok (.lload_n 0, 1) := by decide +kernel
theorem dJ13_bitCount_95d88_36 : decode cJ13_bitCount_95d88 36 = .ok (.bipush 8, 2) := by decide +kernel
theorem dJ13_bitCount_95d88_38 : decode cJ13_bitCount_95d88 38 = .ok (.lushr, 1) := by decide +kernel
theorem dJ13_bitCount_95d88_39 : decode cJ13_bitCount_95d88 39 = .ok (.ladd, 1) := by decide +kernel
theorem dJ13_bitCount_95d88_40 : decode cJ13_bitCount_95d88 40 = .ok (.lstore_n 0, 1) := by decide +kernel
theorem dJ13_bitCount_95d88_41 : decode cJ13_bitCount_95d88 41 = .ok (.lload_n 0, 1) := by decide +kernel
theorem dJ13_bitCount_95d88_42 : decode cJ13_bitCount_95d88 42 = .ok (.lload_n 0, 1) := by decide +kernel
theorem dJ13_bitCount_95d88_43 : decode cJ13_bitCount_95d88 43 = .ok (.bipush 16, 2) := by decide +kernel
theorem dJ13_bitCount_95d88_45 : decode cJ13_bitCount_95d88 45 = .ok (.lushr, 1) := by decide +kernel
theorem dJ13_bitCount_95d88_46 : decode cJ13_bitCount_95d88 46 = .ok (.ladd, 1) := by decide +kernel
theorem dJ13_bitCount_95d88_47 : decode cJ13_bitCount_95d88 47 = .ok (.lstore_n 0, 1) := by decide +kernel
theorem dJ13_bitCount_95d88_48 : decode cJ13_bitCount_95d88 48 = .ok (.lload_n 0, 1) := by decide +kernel
theorem dJ13_bitCount_95d88_49 : decode cJ13_bitCount_95d88 49 = .ok (.lload_n 0, 1) := by decide +kernel
theorem dJ13_bitCount_95d88_50 : decode cJ13_bitCount_95d88 50 = .ok (.bipush 32, 2) := by decide +kernel
theorem dJ13_bitCount_95d88_52 : decode cJ13_bitCount_95d88 52 = .ok (.lushr, 1) := by decide +kernel
theorem dJ13_bitCount_95d88_53 : decode cJ13_bitCount_95d88 53 = .ok (.ladd, 1) := by decide +kernel
theorem dJ13_bitCount_95d88_54 : decode cJ13_bitCount_95d88 54 = .ok (.lstore_n 0, 1) := by decide +kernel
theorem dJ13_bitCount_95d88_55 : decode cJ13_bitCount_95d88 55 = .ok (.lload_n 0, 1) := by decide +kernel
theorem dJ13_bitCount_95d88_56 : decode cJ13_bitCount_95d88 56 = .ok (.l2i, 1) := by decide +kernel
theorem dJ13_bitCount_95d88_57 : decode cJ13_bitCount_95d88 57 = .ok (.bipush 127, 2) := by decide +kernel
theorem dJ13_bitCount_95d88_59 : decode cJ13_bitCount_95d88 59 = .ok (.iand, 1) := by decide +kernel
theorem dJ13_bitCount_95d88_60 : decode cJ13_bitCount_95d88 60 = .ok (.ireturn, 1) := by decide +kernel
theorem dJ9_abs_0f7a4_0 : decode cJ9_abs_0f7a4 0 = .ok (.iload_n 0, 1) := by decide +kernel
theorem dJ9_abs_0f7a4_1 : decode cJ9_abs_0f7a4 1 = .ok (.ifCond .ge 8, 3) := by decide +kernel
theorem dJ9_abs_0f7a4_4 : decode cJ9_abs_0f7a4 4 = .ok (.iload_n 0, 1) := by decide +kernel
theorem dJ9_abs_0f7a4_5 : decode cJ9_abs_0f7a4 5 = .ok (.ineg, 1) := by decide +kernel
theorem dJ9_abs_0f7a4_6 : decode cJ9_abs_0f7a4 6 = .ok (.goto 4, 3) := by decide +kernel
theorem dJ9_abs_0f7a4_9 : decode cJ9_abs_0f7a4 9 = .ok (.iload_n 0, 1) := by decide +kernel
theorem dJ9_abs_0f7a4_10 : decode cJ9_abs_0f7a4 10 = .ok (.ireturn, 1) := by decide +kernel
theorem dJ9_max_7cf53_0 : decode cJ9_max_7cf53 0 = .ok (.iload_n 0, 1) := by decide +kernel
theorem dJ9_max_7cf53_1 : decode cJ9_max_7cf53 1 = .ok (.iload_n 1, 1) := by decide +kernel
theorem dJ9_max_7cf53_2 : decode cJ9_max_7cf53 2 = .ok (.if_icmp .lt 7, 3) := by decide +kernel
theorem dJ9_max_7cf53_5 : decode cJ9_max_7cf53 5 = .ok (.iload_n 0, 1) := by decide +kernel
theorem dJ9_max_7cf53_6 : decode cJ9_max_7cf53 6 = .ok (.goto 4, 3) := by decide +kernel
theorem dJ9_max_7cf53_9 : decode cJ9_max_7cf53 9 = .ok (.iload_n 1, 1) := by decide +kernel
theorem dJ9_max_7cf53_10 : decode cJ9_max_7cf53 10 = .ok (.ireturn, 1) := by decide +kernel
theorem dJ9_min_7cf53_0 : decode cJ9_min_7cf53 0 = .ok (.iload_n 0, 1) := by decide +kernel
theorem dJ9_min_7cf53_1 : decode cJ9_min_7cf53 1 = .ok (.iload_n 1, 1) := by decide +kernel
theorem dJ9_min_7cf53_2 : decode cJ9_min_7cf53 2 = .ok (.if_icmp .gt 7, 3) := by decide +kernel
theorem dJ9_min_7cf53_5 : decode cJ9_min_7cf53 5 = .ok (.iload_n 0, 1) := by decide +kernel
theorem dJ9_min_7cf53_6 : decode cJ9_min_7cf53 6 = .ok (.goto 4, 3) := by decide +kernel
theorem dJ9_min_7cf53_9 : decode cJ9_min_7cf53 9 = .ok (.iload_n 1, 1) := by decide +kernel
theorem dJ9_min_7cf53_10 : decode cJ9_min_7cf53 10 = .ok (.ireturn, 1) := by decide +kernel
theorem dJ0_length_8abf5_0 : decode cJ0_length_8abf5 0 = .ok (.aload_n 0, 1) := by decide +kernel
theorem dJ0_length_8abf5_1 : decode cJ0_length_8abf5 1 = .ok (.getfield 9, 3) := by decide +kernel
theorem dJ0_length_8abf5_4 : decode cJ0_length_8abf5 4 = .ok (.arraylength, 1) := by decide +kernel
theorem dJ0_length_8abf5_5 : decode cJ0_length_8abf5 5 = .ok (.aload_n 0, 1) := by decide +kernel
theorem dJ0_length_8abf5_6 : decode cJ0_length_8abf5 6 = .ok (.invokevirtual 335, 3) := by decide +kernel
theorem dJ0_length_8abf5_9 : decode cJ0_length_8abf5 9 = .ok (.ishr, 1) := by decide +kernel
theorem dJ0_length_8abf5_10 : decode cJ0_length_8abf5 10 = .ok (.ireturn, 1) := by decide +kernel
theorem dJ0_charAt_5068e_0 : decode cJ0_charAt_5068e 0 = .ok (.aload_n 0, 1) := by decide +kernel
theorem dJ0_charAt_5068e_1 : decode cJ0_charAt_5068e 1 = .ok (.invokevirtual 492, 3) := by decide +kernel
theorem dJ0_charAt_5068e_4 : decode cJ0_charAt_5068e 4 = .ok (.ifCond .eq 12, 3) := by decide +kernel
theorem dJ0_charAt_5068e_7 : decode cJ0_charAt_5068e 7 = .ok (.aload_n 0, 1) := by decide +kernel
theorem dJ0_charAt_5068e_8 : decode cJ0_charAt_5068e 8 = .ok (.getfield 9, 3) := by decide +kernel
theorem dJ0_charAt_5068e_11 : decode cJ0_charAt_5068e 11 = .ok (.iload_n 1, 1) := by decide +kernel
theorem dJ0_charAt_5068e_12 : decode cJ0_charAt_5068e 12 = .ok (.invokestatic 495, 3) := by decide +kernel
theorem dJ0_charAt_5068e_15 : decode cJ0_charAt_5068e 15 = .ok (.ireturn, 1) := by decide +kernel
theorem dJ0_charAt_5068e_16 : decode cJ0_charAt_5068e 16 = .ok (.aload_n 0, 1) := by decide +kernel
theorem dJ0_charAt_5068e_17 : decode cJ0_charAt_5068e 17 = .ok (.getfield 9, 3) := by decide +kernel
theorem dJ0_charAt_5068e_20 : decode cJ0_charAt_5068e 20 = .ok (.iload_n 1, 1) := by decide +kernel
theorem dJ0_charAt_5068e_21 : decode cJ0_charAt_5068e 21 = .ok (.invokestatic 498, 3) := by decide +kernel
theorem dJ0_charAt_5068e_24 : decode cJ0_charAt_5068e 24 = .ok (.ireturn, 1) := by decide +kernel
theorem dJ0_indexOf_0f7a4_0 : decode cJ0_indexOf_0f7a4 0 = .ok (.aload_n 0, 1) := by decide +kernel
theorem dJ0_indexOf_0f7a4_1 : decode cJ0_indexOf_0f7a4 1 = .ok (.iload_n 1, 1) := by decide +kernel
theorem dJ0_indexOf_0f7a4_2 : decode cJ0_indexOf_0f7a4 2 = .ok (.iconst 0, 1) := by decide +kernel
theorem dJ0_indexOf_0f7a4_3 : decode cJ0_indexOf_0f7a4 3 = .ok (.invokevirtual 633, 3) := by decide +kernel
theorem dJ0_indexOf_0f7a4_6 : decode cJ0_indexOf_0f7a4 6 = .ok (.ireturn, 1) := by decide +kernel
theorem dJ0_indexOf_7cf53_0 : decode cJ0_indexOf_7cf53 0 = .ok (.aload_n 0, 1) := by decide +kernel
theorem dJ0_indexOf_7cf53_1 : decode cJ0_indexOf_7cf53 1 = .ok (.invokevirtual 492, 3) := by decide +kernel
theorem dJ0_indexOf_7cf53_4 : decode cJ0_indexOf_7cf53 4 = .ok (.ifCond .eq 19, 3) := by decide +kernel
theorem dJ0_indexOf_7cf53_7 : decode cJ0_indexOf_7cf53 7 = .ok (.aload_n 0, 1) := by decide +kernel
theorem dJ0_indexOf_7cf53_8 : decode cJ0_indexOf_7cf53 8 = .ok (.getfield 9, 3) := by decide +kernel
theorem dJ0_indexOf_7cf53_11 : decode cJ0_indexOf_7cf53 11 = .ok (.iload_n 1, 1) := by decide +kernel
theorem dJ0_indexOf_7cf53_12 : decode cJ0_indexOf_7cf53 12 = .ok (.iload_n 2, 1) := by decide +kernel
theorem dJ0_indexOf_7cf53_13 : decode cJ0_indexOf_7cf53 13 = .ok (.aload_n 0, 1) := by decide +kernel
theorem dJ0_indexOf_7cf53_14 : decode cJ0_indexOf_7cf53 14 = .ok (.invokevirtual 505, 3) := by decide +kernel
theorem dJ0_indexOf_7cf53_17 : decode cJ0_indexOf_7cf53 17 = .ok (.invokestatic 637, 3) := by decide +kernel
theorem dJ0_indexOf_7cf53_20 : decode cJ0_indexOf_7cf53 20 = .ok (.goto 16, 3) := by decide +kernel
theorem dJ0_indexOf_7cf53_23 : decode cJ0_indexOf_7cf53 23 = .ok (.aload_n 0, 1) := by decide +kernel
theorem dJ0_indexOf_7cf53_24 : decode cJ0_indexOf_7cf53 24 = .ok (.getfield 9, 3) := by decide +kernel
theorem dJ0_indexOf_7cf53_27 : decode cJ0_indexOf_7cf53 27 = .ok (.iload_n 1, 1) := by decide +kernel
theorem dJ0_indexOf_7cf53_28 : decode cJ0_indexOf_7cf53 28 = .ok (.iload_n 2, 1) := by decide +kernel
theorem dJ0_indexOf_7cf53_29 : decode cJ0_indexOf_7cf53 29 = .ok (.aload_n 0, 1) := by decide +kernel
theorem dJ0_indexOf_7cf53_30 : decode cJ0_indexOf_7cf53 30 = .ok (.invokevirtual 505, 3) := by decide +kernel
theorem dJ0_indexOf_7cf53_33 : decode cJ0_indexOf_7cf53 33 = .ok (.invokestatic 640, 3) := by decide +kernel
theorem dJ0_indexOf_7cf53_36 : decode cJ0_indexOf_7cf53 36 = .ok (.ireturn, 1) := by decide +kernel
theorem dJ0_coder_7d493_0 : decode cJ0_coder_7d493 0 = .ok (.getstatic 38, 3) := by decide +kernel
theorem dJ0_coder_7d493_3 : decode cJ0_coder_7d493 3 = .ok (.ifCond .eq 10, 3) := by decide +kernel
theorem dJ0_coder_7d493_6 : decode cJ0_coder_7d493 6 = .ok (.aload_n 0, 1) := by decide +kernel
theorem dJ0_coder_7d493_7 : decode cJ0_coder_7d493 7 = .ok (.getfield 15, 3) := by decide +kernel
theorem dJ0_coder_7d493_10 : decode cJ0_coder_7d493 10 = .ok (.goto 4, 3) := by decide +kernel
theorem dJ0_coder_7d493_13 : decode cJ0_coder_7d493 13 = .ok (.iconst 1, 1) := by decide +kernel
theorem dJ0_coder_7d493_14 : decode cJ0_coder_7d493 14 = .ok (.ireturn, 1) := by decide +kernel
theorem dJ0_isLatin1_aae02_0 : decode cJ0_isLatin1_aae02 0 = .ok (.getstatic 38, 3) := by decide +kernel
theorem dJ0_isLatin1_aae02_3 : decode cJ0_isLatin1_aae02 3 = .ok (.ifCond .eq 14, 3) := by decide +kernel
theorem dJ0_isLatin1_aae02_6 : decode cJ0_isLatin1_aae02 6 = .ok (.aload_n 0, 1) := by decide +kernel
theorem dJ0_isLatin1_aae02_7 : decode cJ0_isLatin1_aae02 7 = .ok (.getfield 15, 3) := by decide +kernel
theorem dJ0_isLatin1_aae02_10 : decode cJ0_isLatin1_aae02 10 = .ok (.ifCond .ne 7, 3) := by decide +kernel
theorem dJ0_isLatin1_aae02_13 : decode cJ0_isLatin1_aae02 13 = .ok (.iconst 1, 1) := by decide +kernel
theorem dJ0_isLatin1_aae02_14 : decode cJ0_isLatin1_aae02 14 = .ok (.goto 4, 3) := by decide +kernel
theorem dJ0_isLatin1_aae02_17 : decode cJ0_isLatin1_aae02 17 = .ok (.iconst 0, 1) := by decide +kernel
theorem dJ0_isLatin1_aae02_18 : decode cJ0_isLatin1_aae02 18 = .ok (.ireturn, 1) := by decide +kernel
theorem dJ0_checkIndex_df160_0 : decode cJ0_checkIndex_df160 0 = .ok (.iload_n 0, 1) := by decide +kernel
theorem dJ0_checkIndex_df160_1 : decode cJ0_checkIndex_df160 1 = .ok (.iload_n 1, 1) := by decide +kernel
theorem dJ0_checkIndex_df160_2 : decode cJ0_checkIndex_df160 2 = .ok (.getstatic 1053, 3) := by decide +kernel
theorem dJ0_checkIndex_df160_5 : decode cJ0_checkIndex_df160 5 = .ok (.invokestatic 1059, 3) := by decide +kernel
theorem dJ0_checkIndex_df160_8 : decode cJ0_checkIndex_df160 8 = .ok (.pop, 1) := by decide +kernel
theorem dJ0_checkIndex_df160_9 : decode cJ0_checkIndex_df160 9 = .ok (.return_, 1) := by decide +kernel
theorem dJ0_checkBoundsBeginEnd_23922_0 : decode cJ0_checkBoundsBeginEnd_23922 0 = .ok (.iload_n 0, 1) := by decide +kernel
theorem dJ0_checkBoundsBeginEnd_23922_1 : decode cJ0_checkBoundsBeginEnd_23922 1 = .ok (.iload_n 1, 1) := by decide +kernel
theorem dJ0_checkBoundsBeginEnd_23922_2 : decode cJ0_checkBoundsBeginEnd_23922 2 = .ok (.iload_n 2, 1) := by decide +kernel
theorem dJ0_checkBoundsBeginEnd_23922_3 : decode cJ0_checkBoundsBeginEnd_23922 3 = .ok (.getstatic 1053, 3) := by decide +kernel
theorem dJ0_checkBoundsBeginEnd_23922_6 : decode cJ0_checkBoundsBeginEnd_23922 6 = .ok (.invokestatic 1062, 3) := by decide +kernel
theorem dJ0_checkBoundsBeginEnd_23922_9 : decode cJ0_checkBoundsBeginEnd_23922 9 = .ok (.pop, 1) := by decide +kernel
theorem dJ0_checkBoundsBeginEnd_23922_10 : decode cJ0_checkBoundsBeginEnd_23922 10 = .ok (.return_, 1) := by decide +kernel
theorem dJ1_charAt_3b067_0 : decode cJ1_charAt_3b067 0 = .ok (.iload_n 1, 1) := by decide +kernel
theorem dJ1_charAt_3b067_1 : decode cJ1_charAt_3b067 1 = .ok (.aload_n 0, 1) := by decide +kernel
theorem dJ1_charAt_3b067_2 : decode cJ1_charAt_3b067 2 = .ok (.arraylength, 1) := by decide +kernel
theorem dJ1_charAt_3b067_3 : decode cJ1_charAt_3b067 3 = .ok (.invokestatic 9, 3) := by decide +kernel
theorem dJ1_charAt_3b067_6 : decode cJ1_charAt_3b067 6 = .ok (.aload_n 0, 1) := by decide +kernel
theorem dJ1_charAt_3b067_7 : decode cJ1_charAt_3b067 7 = .ok (.iload_n 1, 1) := by decide +kernel
theorem dJ1_charAt_3b067_8 : decode cJ1_charAt_3b067 8 = .ok (.baload, 1) := by decide +kernel
theorem dJ1_charAt_3b067_9 : decode cJ1_charAt_3b067 9 = .ok (.sipush 255, 3) := by decide +kernel
theorem dJ1_charAt_3b067_12 : decode cJ1_charAt_3b067 12 = .ok (.iand, 1) := by decide +kernel
theorem dJ1_charAt_3b067_13 : decode cJ1_charAt_3b067 13 = .ok (.i2c, 1) := by decide +kernel
theorem dJ1_charAt_3b067_14 : decode cJ1_charAt_3b067 14 = .ok (.ireturn, 1) := by decide +kernel
theorem dJ1_canEncode_9a6ad_0 : decode cJ1_canEncode_9a6ad 0 = .ok (.iload_n 0, 1) := by decide +kernel
theorem dJ1_canEncode_9a6ad_1 : decode cJ1_canEncode_9a6ad 1 = .ok (.ifCond .lt 14, 3) := by decide +kernel
theorem dJ1_canEncode_9a6ad_4 : decode cJ1_canEncode_9a6ad 4 = .ok (.iload_n 0, 1) := by decide +kernel
theorem dJ1_canEncode_9a6ad_5 : decode cJ1_canEncode_9a6ad 5 = .ok (.sipush 255, 3) := by decide +kernel
theorem dJ1_canEncode_9a6ad_8 : decode cJ1_canEncode_9a6ad 8 = .ok (.if_icmp .gt 7, 3) := by decide +kernel
theorem dJ1_canEncode_9a6ad_11 : decode cJ1_canEncode_9a6ad 11 = .ok (.iconst 1, 1) := by decide +kernel
theorem dJ1_canEncode_9a6ad_12 : decode cJ1_canEncode_9a6ad 12 = .ok (.goto 4, 3) := by decide +kernel
theorem dJ1_canEncode_9a6ad_15 : decode cJ1_canEncode_9a6ad 15 = .ok (.iconst 0, 1) := by decide +kernel
theorem dJ1_canEncode_9a6ad_16 : decode cJ1_canEncode_9a6ad 16 = .ok (.ireturn, 1) := by decide +kernel
theorem dJ1_indexOf_4cfef_0 : decode cJ1_indexOf_4cfef 0 = .ok (.iload_n 1, 1) := by decide +kernel
theorem dJ1_indexOf_4cfef_1 : decode cJ1_indexOf_4cfef 1 = .ok (.invokestatic 88, 3) := by decide +kernel
theorem dJ1_indexOf_4cfef_4 : decode cJ1_indexOf_4cfef 4 = .ok (.ifCond .ne 5, 3) := by decide +kernel
theorem dJ1_indexOf_4cfef_7 : decode cJ1_indexOf_4cfef 7 = .ok (.iconst (-1), 1) := by decide +kernel
theorem dJ1_indexOf_4cfef_8 : decode cJ1_indexOf_4cfef 8 = .ok (.ireturn, 1) := by decide +kernel
theorem dJ1_indexOf_4cfef_9 : decode cJ1_indexOf_4cfef 9 = .ok (.iload_n 2, 1) := by decide +kernel
theorem dJ1_indexOf_4cfef_10 : decode cJ1_indexOf_4cfef 10 = .ok (.iconst 0, 1) := by decide +kernel
theorem dJ1_indexOf_4cfef_11 : decode cJ1_indexOf_4cfef 11 = .ok (.invokestatic 92, 3) := by decide +kernel
theorem dJ1_indexOf_4cfef_14 : decode cJ1_indexOf_4cfef 14 = .ok (.istore_n 2, 1) := by decide +kernel
theorem dJ1_indexOf_4cfef_15 : decode cJ1_indexOf_4cfef 15 = .ok (.iload_n 3, 1) := by decide +kernel
theorem dJ1_indexOf_4cfef_16 : decode cJ1_indexOf_4cfef 16 = .ok (.aload_n 0, 1) := by decide +kernel
theorem dJ1_indexOf_4cfef_17 : decode cJ1_indexOf_4cfef 17 = .ok (.arraylength, 1) := by decide +kernel
theorem dJ1_indexOf_4cfef_18 : decode cJ1_indexOf_4cfef 18 = .ok (.invokestatic 38, 3) := by decide +kernel
theorem dJ1_indexOf_4cfef_21 : decode cJ1_indexOf_4cfef 21 = .ok (.istore_n 3, 1) := by decide +kernel
theorem dJ1_indexOf_4cfef_22 : decode cJ1_indexOf_4cfef 22 = .ok (.iload_n 2, 1) := by decide +kernel
theorem dJ1_indexOf_4cfef_23 : decode cJ1_indexOf_4cfef 23 = .ok (.iload_n 3, 1) := by decide +kernel
theorem dJ1_indexOf_4cfef_24 : decode cJ1_indexOf_4cfef 24 = .ok (.if_icmp .lt 5, 3) := by decide +kernel
theorem dJ1_indexOf_4cfef_27 : decode cJ1_indexOf_4cfef 27 = .ok (.iconst (-1), 1) := by decide +kernel
theorem dJ1_indexOf_4cfef_28 : decode cJ1_indexOf_4cfef 28 = .ok (.ireturn, 1) := by decide +kernel
theorem dJ1_indexOf_4cfef_29 : decode cJ1_indexOf_4cfef 29 = .ok (.aload_n 0, 1) := by decide +kernel
theorem dJ1_indexOf_4cfef_30 : decode cJ1_indexOf_4cfef 30 = .ok (.iload_n 1, 1) := by decide +kernel
theorem dJ1_indexOf_4cfef_31 : decode cJ1_indexOf_4cfef 31 = .ok (.iload_n 2, 1) := by decide +kernel
theorem dJ1_indexOf_4cfef_32 : decode cJ1_indexOf_4cfef 32 = .ok (.iload_n 3, 1) := by decide +kernel
theorem dJ1_indexOf_4cfef_33 : decode cJ1_indexOf_4cfef 33 = .ok (.invokestatic 95, 3) := by decide +kernel
theorem dJ1_indexOf_4cfef_36 : decode cJ1_indexOf_4cfef 36 = .ok (.ireturn, 1) := by decide +kernel
theorem dJ1_indexOfChar_4cfef_0 : decode cJ1_indexOfChar_4cfef 0 = .ok (.iload_n 1, 1) := by decide +kernel
theorem dJ1_indexOfChar_4cfef_1 : decode cJ1_indexOfChar_4cfef 1 = .ok (.i2b, 1) := by decide +kernel
theorem dJ1_indexOfChar_4cfef_2 : decode cJ1_indexOfChar_4cfef 2 = .ok (.istore 4, 2) := by decide +kernel
theorem dJ1_indexOfChar_4cfef_4 : decode cJ1_indexOfChar_4cfef 4 = .ok (.iload_n 2, 1) := by decide +kernel
theorem dJ1_indexOfChar_4cfef_5 : decode cJ1_indexOfChar_4cfef 5 = .ok (.istore 5, 2) := by decide +kernel
theorem dJ1_indexOfChar_4cfef_7 : decode cJ1_indexOfChar_4cfef 7 = .ok (.iload 5, 2) := by decide +kernel
theorem dJ1_indexOfChar_4cfef_9 : decode cJ1_indexOfChar_4cfef 9 = .ok (.iload_n 3, 1) := by decide +kernel
theorem dJ1_indexOfChar_4cfef_10 : decode cJ1_indexOfChar_4cfef 10 = .ok (.if_icmp .ge 21, 3) := by decide +kernel
theorem dJ1_indexOfChar_4cfef_13 : decode cJ1_indexOfChar_4cfef 13 = .ok (.aload_n 0, 1) := by decide +kernel
theorem dJ1_indexOfChar_4cfef_14 : decode cJ1_indexOfChar_4cfef 14 = .ok (.iload 5, 2) := by decide +kernel
theorem dJ1_indexOfChar_4cfef_16 : decode cJ1_indexOfChar_4cfef 16 = .ok (.baload, 1) := by decide +kernel
theorem dJ1_indexOfChar_4cfef_17 : decode cJ1_indexOfChar_4cfef 17 = .ok (.iload 4, 2) := by decide +kernel
theorem dJ1_indexOfChar_4cfef_19 : decode cJ1_indexOfChar_4cfef 19 = .ok (.if_icmp .ne 6, 3) := by decide +kernel
theorem dJ1_indexOfChar_4cfef_22 : decode cJ1_indexOfChar_4cfef 22 = .ok (.iload 5, 2) := by decide +kernel
theorem dJ1_indexOfChar_4cfef_24 : decode cJ1_indexOfChar_4cfef 24 = .ok (.ireturn, 1) := by decide +kernel
theorem dJ1_indexOfChar_4cfef_25 : decode cJ1_indexOfChar_4cfef 25 = .ok (.iinc 5 1, 3) := by decide +kernel
theorem dJ1_indexOfChar_4cfef_28 : decode cJ1_indexOfChar_4cfef 28 = .ok (.goto (-21), 3) := by decide +kernel
theorem dJ1_indexOfChar_4cfef_31 : decode cJ1_indexOfChar_4cfef 31 = .ok (.iconst (-1), 1) := by decide +kernel
theorem dJ1_indexOfChar_4cfef_32 : decode cJ1_indexOfChar_4cfef 32 = .ok (.ireturn, 1) := by decide +kernel
theorem dJ2_getChar_3b067_0 : decode cJ2_getChar_3b067 0 = .ok (.getstatic 44, 3) := by decide +kernel
theorem dJ2_getChar_3b067_3 : decode cJ2_getChar_3b067 3 = .ok (.ifCond .ne 25, 3) := by decide +kernel
theorem dJ2_getChar_3b067_6 : decode cJ2_getChar_3b067 6 = .ok (.iload_n 1, 1) := by decide +kernel
theorem dJ2_getChar_3b067_7 : decode cJ2_getChar_3b067 7 = .ok (.ifCond .lt 11, 3) := by decide +kernel
theorem dJ2_getChar_3b067_10 : decode cJ2_getChar_3b067 10 = .ok (.iload_n 1, 1) := by decide +kernel
theorem dJ2_getChar_3b067_11 : decode cJ2_getChar_3b067 11 = .ok (.aload_n 0, 1) := by decide +kernel
theorem dJ2_getChar_3b067_12 : decode cJ2_getChar_3b067 12 = .ok (.invokestatic 48, 3) := by decide +kernel
theorem dJ2_getChar_3b067_15 : decode cJ2_getChar_3b067 15 = .ok (.if_icmp .lt 13, 3) := by decide +kernel
theorem dJ2_getChar_3b067_18 : decode cJ2_getChar_3b067 18 = .ok (.new 52, 3) := by decide +kernel
theorem dJ2_getChar_3b067_21 : decode cJ2_getChar_3b067 21 = .ok (.dup, 1) := by decide +kernel
theorem dJ2_getChar_3b067_22 : decode cJ2_getChar_3b067 22 = .ok (.ldc 54, 2) := by decide +kernel
theorem dJ2_getChar_3b067_24 : decode cJ2_getChar_3b067 24 = .ok (.invokespecial 56, 3) := by decide +kernel
theorem dJ2_getChar_3b067_27 : decode cJ2_getChar_3b067 27 = .ok (.athrow, 1) := by decide +kernel
theorem dJ2_getChar_3b067_28 : decode cJ2_getChar_3b067 28 = .ok (.iload_n 1, 1) := by decide +kernel
theorem dJ2_getChar_3b067_29 : decode cJ2_getChar_3b067 29 = .ok (.iconst 1, 1) := by decide +kernel
theorem dJ2_getChar_3b067_30 : decode cJ2_getChar_3b067 30 = .ok (.ishl, 1) := by decide +kernel
theorem dJ2_getChar_3b067_31 : decode cJ2_getChar_3b067 31 = .ok (.istore_n 1, 1) := by decide +kernel
theorem dJ2_getChar_3b067_32 : decode cJ2_getChar_3b067 32 = .ok (.aload_n 0, 1) := by decide +kernel
theorem dJ2_getChar_3b067_33 : decode cJ2_getChar_3b067 33 = .ok (.iload_n 1, 1) := by decide +kernel
theorem dJ2_getChar_3b067_34 : decode cJ2_getChar_3b067 34 = .ok (.iinc 1 1, 3) := by decide +kernel
theorem dJ2_getChar_3b067_37 : decode cJ2_getChar_3b067 37 = .ok (.baload, 1) := by decide +kernel
theorem dJ2_getChar_3b067_38 : decode cJ2_getChar_3b067 38 = .ok (.sipush 255, 3) := by decide +kernel
theorem dJ2_getChar_3b067_41 : decode cJ2_getChar_3b067 41 = .ok (.iand, 1) := by decide +kernel
theorem dJ2_getChar_3b067_42 : decode cJ2_getChar_3b067 42 = .ok (.getstatic 59, 3) := by decide +kernel
theorem dJ2_getChar_3b067_45 : decode cJ2_getChar_3b067 45 = .ok (.ishl, 1) := by decide +kernel
theorem dJ2_getChar_3b067_46 : decode cJ2_getChar_3b067 46 = .ok (.aload_n 0, 1) := by decide +kernel
theorem dJ2_getChar_3b067_47 : decode cJ2_getChar_3b067 47 = .ok (.iload_n 1, 1) := by decide +kernel
theorem dJ2_getChar_3b067_48 : decode cJ2_getChar_3b067 48 = .ok (.baload, 1) := by decide +kernel
theorem dJ2_getChar_3b067_49 : decode cJ2_getChar_3b067 49 = .ok (.sipush 255, 3) := by decide +kernel
theorem dJ2_getChar_3b067_52 : decode cJ2_getChar_3b067 52 = .ok (.iand, 1) := by decide +kernel
theorem dJ2_getChar_3b067_53 : decode cJ2_getChar_3b067 53 = .ok (.getstatic 63, 3) := by decide +kernel
theorem dJ2_getChar_3b067_56 : decode cJ2_getChar_3b067 56 = .ok (.ishl, 1) := by decide +kernel
theorem dJ2_getChar_3b067_57 : decode cJ2_getChar_3b067 57 = .ok (.ior, 1) := by decide +kernel
theorem dJ2_getChar_3b067_58 : decode cJ2_getChar_3b067 58 = .ok (.i2c, 1) := by decide +kernel
theorem dJ2_getChar_3b067_59 : decode cJ2_getChar_3b067 59 = .ok (.ireturn, 1) := by decide +kernel
theorem dJ2_length_9d52b_0 : decode cJ2_length_9d52b 0 = .ok (.aload_n 0, 1) := by decide +kernel
theorem dJ2_length_9d52b_1 : decode cJ2_length_9d52b 1 = .ok (.arraylength, 1) := by decide +kernel
theorem dJ2_length_9d52b_2 : decode cJ2_length_9d52b 2 = .ok (.iconst 1, 1) := by decide +kernel
theorem dJ2_length_9d52b_3 : decode cJ2_length_9d52b 3 = .ok (.ishr, 1) := by decide +kernel
theorem dJ2_length_9d52b_4 : decode cJ2_length_9d52b 4 = .ok (.ireturn, 1) := by decide +kernel
theorem dJ2_indexOf_4cfef_0 : decode cJ2_indexOf_4cfef 0 = .ok (.iload_n 2, 1) := by decide +kernel
theorem dJ2_indexOf_4cfef_1 : decode cJ2_indexOf_4cfef 1 = .ok (.iconst 0, 1) := by decide +kernel
theorem dJ2_indexOf_4cfef_2 : decode cJ2_indexOf_4cfef 2 = .ok (.invokestatic 224, 3) := by decide +kernel
theorem dJ2_indexOf_4cfef_5 : decode cJ2_indexOf_4cfef 5 = .ok (.istore_n 2, 1) := by decide +kernel
theorem dJ2_indexOf_4cfef_6 : decode cJ2_indexOf_4cfef 6 = .ok (.iload_n 3, 1) := by decide +kernel
theorem dJ2_indexOf_4cfef_7 : decode cJ2_indexOf_4cfef 7 = .ok (.aload_n 0, 1) := by decide +kernel
theorem dJ2_indexOf_4cfef_8 : decode cJ2_indexOf_4cfef 8 = .ok (.arraylength, 1) := by decide +kernel
theorem dJ2_indexOf_4cfef_9 : decode cJ2_indexOf_4cfef 9 = .ok (.iconst 1, 1) := by decide +kernel
theorem dJ2_indexOf_4cfef_10 : decode cJ2_indexOf_4cfef 10 = .ok (.ishr, 1) := by decide +kernel
theorem dJ2_indexOf_4cfef_11 : decode cJ2_indexOf_4cfef 11 = .ok (.invokestatic 183, 3) := by decide +kernel
theorem dJ2_indexOf_4cfef_14 : decode cJ2_indexOf_4cfef 14 = .ok (.istore_n 3, 1) := by decide +kernel
theorem dJ2_indexOf_4cfef_15 : decode cJ2_indexOf_4cfef 15 = .ok (.iload_n 2, 1) := by decide +kernel
theorem dJ2_indexOf_4cfef_16 : decode cJ2_indexOf_4cfef 16 = .ok (.iload_n 3, 1) := by decide +kernel
theorem dJ2_indexOf_4cfef_17 : decode cJ2_indexOf_4cfef 17 = .ok (.if_icmp .lt 5, 3) := by decide +kernel
theorem dJ2_indexOf_4cfef_20 : decode cJ2_indexOf_4cfef 20 = .ok (.iconst (-1), 1) := by decide +kernel
theorem dJ2_indexOf_4cfef_21 : decode cJ2_indexOf_4cfef 21 = .ok (.ireturn, 1) := by decide +kernel
theorem dJ2_indexOf_4cfef_22 : decode cJ2_indexOf_4cfef 22 = .ok (.iload_n 1, 1) := by decide +kernel
theorem dJ2_indexOf_4cfef_23 : decode cJ2_indexOf_4cfef 23 = .ok (.ldc 227, 2) := by decide +kernel
theorem dJ2_indexOf_4cfef_25 : decode cJ2_indexOf_4cfef 25 = .ok (.if_icmp .ge 11, 3) := by decide +kernel
theorem dJ2_indexOf_4cfef_28 : decode cJ2_indexOf_4cfef 28 = .ok (.aload_n 0, 1) := by decide +kernel
theorem dJ2_indexOf_4cfef_29 : decode cJ2_indexOf_4cfef 29 = .ok (.iload_n 1, 1) := by decide +kernel
theorem dJ2_indexOf_4cfef_30 : decode cJ2_indexOf_4cfef 30 = .ok (.iload_n 2, 1) := by decide +kernel
theorem dJ2_indexOf_4cfef_31 : decode cJ2_indexOf_4cfef 31 = .ok (.iload_n 3, 1) := by decide +kernel
theorem dJ2_indexOf_4cfef_32 : decode cJ2_indexOf_4cfef 32 = .ok (.invokestatic 228, 3) := by decide +kernel
theorem dJ2_indexOf_4cfef_35 : decode cJ2_indexOf_4cfef 35 = .ok (.ireturn, 1) := by decide +kernel
theorem dJ2_indexOf_4cfef_36 : decode cJ2_indexOf_4cfef 36 = .ok (.aload_n 0, 1) := by decide +kernel
theorem dJ2_indexOf_4cfef_37 : decode cJ2_indexOf_4cfef 37 = .ok (.iload_n 1, 1) := by decide +kernel
theorem dJ2_indexOf_4cfef_38 : decode cJ2_indexOf_4cfef 38 = .ok (.iload_n 2, 1) := by decide +kernel
theorem dJ2_indexOf_4cfef_39 : decode cJ2_indexOf_4cfef 39 = .ok (.iload_n 3, 1) := by decide +kernel
theorem dJ2_indexOf_4cfef_40 : decode cJ2_indexOf_4cfef 40 = .ok (.invokestatic 232, 3) := by decide +kernel
theorem dJ2_indexOf_4cfef_43 : decode cJ2_indexOf_4cfef 43 = .ok (.ireturn, 1) := by decide +kernel
theorem dJ2_indexOfChar_4cfef_0 : decode cJ2_indexOfChar_4cfef 0 = .ok (.iload_n 2, 1) := by decide +kernel
theorem dJ2_indexOfChar_4cfef_1 : decode cJ2_indexOfChar_4cfef 1 = .ok (.iload_n 3, 1) := by decide +kernel
theorem dJ2_indexOfChar_4cfef_2 : decode cJ2_indexOfChar_4cfef 2 = .ok (.aload_n 0, 1) := by decide +kernel
theorem dJ2_indexOfChar_4cfef_3 : decode cJ2_indexOfChar_4cfef 3 = .ok (.invokestatic 96, 3) := by decide +kernel
theorem dJ2_indexOfChar_4cfef_6 : decode cJ2_indexOfChar_4cfef 6 = .ok (.aload_n 0, 1) := by decide +kernel
theorem dJ2_indexOfChar_4cfef_7 : decode cJ2_indexOfChar_4cfef 7 = .ok (.iload_n 1, 1) := by decide +kernel
theorem dJ2_indexOfChar_4cfef_8 : decode cJ2_indexOfChar_4cfef 8 = .ok (.iload_n 2, 1) := by decide +kernel
theorem dJ2_indexOfChar_4cfef_9 : decode cJ2_indexOfChar_4cfef 9 = .ok (.iload_n 3, 1) := by decide +kernel
theorem dJ2_indexOfChar_4cfef_10 : decode cJ2_indexOfChar_4cfef 10 = .ok (.invokestatic 244, 3) := by decide +kernel
theorem dJ2_indexOfChar_4cfef_13 : decode cJ2_indexOfChar_4cfef 13 = .ok (.ireturn, 1) := by decide +kernel
theorem dJ2_indexOfCharUnsafe_4cfef_0 : decode cJ2_indexOfCharUnsafe_4cfef 0 = .ok (.iload_n 2, 1) := by decide +kernel
theorem dJ2_indexOfCharUnsafe_4cfef_1 : decode cJ2_indexOfCharUnsafe_4cfef 1 = .ok (.istore 4, 2) := by decide +kernel
theorem dJ2_indexOfCharUnsafe_4cfef_3 : decode cJ2_indexOfCharUnsafe_4cfef 3 = .ok (.iload 4, 2) := by decide +kernel
theorem dJ2_indexOfCharUnsafe_4cfef_5 : decode cJ2_indexOfCharUnsafe_4cfef 5 = .ok (.iload_n 3, 1) := by decide +kernel
theorem dJ2_indexOfCharUnsafe_4cfef_6 : decode cJ2_indexOfCharUnsafe_4cfef 6 = .ok (.if_icmp .ge 22, 3) := by decide +kernel
theorem dJ2_indexOfCharUnsafe_4cfef_9 : decode cJ2_indexOfCharUnsafe_4cfef 9 = .ok (.aload_n 0, 1) := by decide +kernel
theorem dJ2_indexOfCharUnsafe_4cfef_10 : decode cJ2_indexOfCharUnsafe_4cfef 10 = .ok (.iload 4, 2) := by decide +kernel
theorem dJ2_indexOfCharUnsafe_4cfef_12 : decode cJ2_indexOfCharUnsafe_4cfef 12 = .ok (.invokestatic 71, 3) := by decide +kernel
theorem dJ2_indexOfCharUnsafe_4cfef_15 : decode cJ2_indexOfCharUnsafe_4cfef 15 = .ok (.iload_n 1, 1) := by decide +kernel
theorem dJ2_indexOfCharUnsafe_4cfef_16 : decode cJ2_indexOfCharUnsafe_4cfef 16 = .ok (.if_icmp .ne 6, 3) := by decide +kernel
theorem dJ2_indexOfCharUnsafe_4cfef_19 : decode cJ2_indexOfCharUnsafe_4cfef 19 = .ok (.iload 4, 2) := by decide +kernel
theorem dJ2_indexOfCharUnsafe_4cfef_21 : decode cJ2_indexOfCharUnsafe_4cfef 21 = .ok (.ireturn, 1) := by decide +kernel
theorem dJ2_indexOfCharUnsafe_4cfef_22 : decode cJ2_indexOfCharUnsafe_4cfef 22 = .ok (.iinc 4 1, 3) := by decide +kernel
theorem dJ2_indexOfCharUnsafe_4cfef_25 : decode cJ2_indexOfCharUnsafe_4cfef 25 = .ok (.goto (-22), 3) := by decide +kernel
theorem dJ2_indexOfCharUnsafe_4cfef_28 : decode cJ2_indexOfCharUnsafe_4cfef 28 = .ok (.iconst (-1), 1) := by decide +kernel
theorem dJ2_indexOfCharUnsafe_4cfef_29 : decode cJ2_indexOfCharUnsafe_4cfef 29 = .ok (.ireturn, 1) := by decide +kernel
theorem dJ2_indexOfSupplementary_4cfef_0 : decode cJ2_indexOfSupplementary_4cfef 0 = .ok (.iload_n 1, 1) := by decide +kernel
theorem dJ2_indexOfSupplementary_4cfef_1 : decode cJ2_indexOfSupplementary_4cfef 1 = .ok (.invokestatic 164, 3) := by decide +kernel
theorem dJ2_indexOfSupplementary_4cfef_4 : decode cJ2_indexOfSupplementary_4cfef 4 = .ok (.ifCond .eq 65, 3) := by decide +kernel
theorem dJ2_indexOfSupplementary_4cfef_7 : decode cJ2_indexOfSupplementary_4cfef 7 = .ok (.iload_n 1, 1) := by decide +kernel
theorem dJ2_indexOfSupplementary_4cfef_8 : decode cJ2_indexOfSupplementary_4cfef 8 = .ok (.invokestatic 157, 3) := by decide +kernel
theorem dJ2_indexOfSupplementary_4cfef_11 : decode cJ2_indexOfSupplementary_4cfef 11 = .ok (.istore 4, 2) := by decide +kernel
theorem dJ2_indexOfSupplementary_4cfef_13 : decode cJ2_indexOfSupplementary_4cfef 13 = .ok (.iload_n 1, 1) := by decide +kernel
theorem dJ2_indexOfSupplementary_4cfef_14 : decode cJ2_indexOfSupplementary_4cfef 14 = .ok (.invokestatic 161, 3) := by decide +kernel
theorem dJ2_indexOfSupplementary_4cfef_17 : decode cJ2_indexOfSupplementary_4cfef 17 = .ok (.istore 5, 2) := by decide +kernel
theorem dJ2_indexOfSupplementary_4cfef_19 : decode cJ2_indexOfSupplementary_4cfef 19 = .ok (.iload_n 2, 1) := by decide +kernel
theorem dJ2_indexOfSupplementary_4cfef_20 : decode cJ2_indexOfSupplementary_4cfef 20 = .ok (.iload_n 3, 1) := by decide +kernel
theorem dJ2_indexOfSupplementary_4cfef_21 : decode cJ2_indexOfSupplementary_4cfef 21 = .ok (.aload_n 0, 1) := by decide +kernel
theorem dJ2_indexOfSupplementary_4cfef_22 : decode cJ2_indexOfSupplementary_4cfef 22 = .ok (.invokestatic 96, 3) := by decide +kernel
theorem dJ2_indexOfSupplementary_4cfef_25 : decode cJ2_indexOfSupplementary_4cfef 25 = .ok (.iload_n 2, 1) := by decide +kernel
theorem dJ2_indexOfSupplementary_4cfef_26 : decode cJ2_indexOfSupplementary_4cfef 26 = .ok (.istore 6, 2) := by decide +kernel
theorem dJ2_indexOfSupplementary_4cfef_28 : decode cJ2_indexOfSupplementary_4cfef 28 = .ok (.iload 6, 2) := by decide +kernel
theorem dJ2_indexOfSupplementary_4cfef_30 : decode cJ2_indexOfSupplementary_4cfef 30 = .ok (.iload_n 3, 1) := by decide +kernel
theorem dJ2_indexOfSupplementary_4cfef_31 : decode cJ2_indexOfSupplementary_4cfef 31 = .ok (.iconst 1, 1) := by decide +kernel
theorem dJ2_indexOfSupplementary_4cfef_32 : decode cJ2_indexOfSupplementary_4cfef 32 = .ok (.isub, 1) := by decide +kernel
theorem dJ2_indexOfSupplementary_4cfef_33 : decode cJ2_indexOfSupplementary_4cfef 33 = .ok (.if_icmp .ge 36, 3) := by decide +kernel
theorem dJ2_indexOfSupplementary_4cfef_36 : decode cJ2_indexOfSupplementary_4cfef 36 = .ok (.aload_n 0, 1) := by decide +kernel
theorem dJ2_indexOfSupplementary_4cfef_37 : decode cJ2_indexOfSupplementary_4cfef 37 = .ok (.iload 6, 2) := by decide +kernel
theorem dJ2_indexOfSupplementary_4cfef_39 : decode cJ2_indexOfSupplementary_4cfef 39 = .ok (.invokestatic 71, 3) := by decide +kernel
theorem dJ2_indexOfSupplementary_4cfef_42 : decode cJ2_indexOfSupplementary_4cfef 42 = .ok (.iload 4, 2) := by decide +kernel
theorem dJ2_indexOfSupplementary_4cfef_44 : decode cJ2_indexOfSupplementary_4cfef 44 = .ok (.if_icmp .ne 19, 3) := by decide +kernel
theorem dJ2_indexOfSupplementary_4cfef_47 : decode cJ2_indexOfSupplementary_4cfef 47 = .ok (.aload_n 0, 1) := by decide +kernel
theorem dJ2_indexOfSupplementary_4cfef_48 : decode cJ2_indexOfSupplementary_4cfef 48 = .ok (.iload 6, 2) := by decide +kernel
theorem dJ2_indexOfSupplementary_4cfef_50 : decode cJ2_indexOfSupplementary_4cfef 50 = .ok (.iconst 1, 1) := by decide +kernel
theorem dJ2_indexOfSupplementary_4cfef_51 : decode cJ2_indexOfSupplementary_4cfef 51 = .ok (.iadd, 1) := by decide +kernel
theorem dJ2_indexOfSupplementary_4cfef_52 : decode cJ2_indexOfSupplementary_4cfef 52 = .ok (.invokestatic 71, 3) := by decide +kernel
theorem dJ2_indexOfSupplementary_4cfef_55 : decode cJ2_indexOfSupplementary_4cfef 55 = .ok (.iload 5, 2) := by decide +kernel
theorem dJ2_indexOfSupplementary_4cfef_57 : decode cJ2_indexOfSupplementary_4cfef 57 = .ok (.if_icmp .ne 6, 3) := by decide +kernel
theorem dJ2_indexOfSupplementary_4cfef_60 : decode cJ2_indexOfSupplementary_4cfef 60 = .ok (.iload 6, 2) := by decide +kernel
theorem dJ2_indexOfSupplementary_4cfef_62 : decode cJ2_indexOfSupplementary_4cfef 62 = .ok (.ireturn, 1) := by decide +kernel
theorem dJ2_indexOfSupplementary_4cfef_63 : decode cJ2_indexOfSupplementary_4cfef 63 = .ok (.iinc 6 1, 3) := by decide +kernel
theorem dJ2_indexOfSupplementary_4cfef_66 : decode cJ2_indexOfSupplementary_4cfef 66 = .ok (.goto (-38), 3) := by decide +kernel
theorem dJ2_indexOfSupplementary_4cfef_69 : decode cJ2_indexOfSupplementary_4cfef 69 = .ok (.iconst (-1), 1) := by decide +kernel
theorem dJ2_indexOfSupplementary_4cfef_70 : decode cJ2_indexOfSupplementary_4cfef 70 = .ok (.ireturn, 1) := by decide +kernel
theorem dJ2_charAt_3b067_0 : decode cJ2_charAt_3b067 0 = .ok (.iload_n 1, 1) := by decide +kernel
theorem dJ2_charAt_3b067_1 : decode cJ2_charAt_3b067 1 = .ok (.aload_n 0, 1) := by decide +kernel
theorem dJ2_charAt_3b067_2 : decode cJ2_charAt_3b067 2 = .ok (.invokestatic 67, 3) := by decide +kernel
theorem dJ2_charAt_3b067_5 : decode cJ2_charAt_3b067 5 = .ok (.aload_n 0, 1) := by decide +kernel
theorem dJ2_charAt_3b067_6 : decode cJ2_charAt_3b067 6 = .ok (.iload_n 1, 1) := by decide +kernel
theorem dJ2_charAt_3b067_7 : decode cJ2_charAt_3b067 7 = .ok (.invokestatic 71, 3) := by decide +kernel
theorem dJ2_charAt_3b067_10 : decode cJ2_charAt_3b067 10 = .ok (.ireturn, 1) := by decide +kernel
theorem dJ2_checkIndex_2214a_0 : decode cJ2_checkIndex_2214a 0 = .ok (.iload_n 0, 1) := by decide +kernel
theorem dJ2_checkIndex_2214a_1 : decode cJ2_checkIndex_2214a 1 = .ok (.aload_n 1, 1) := by decide +kernel
theorem dJ2_checkIndex_2214a_2 : decode cJ2_checkIndex_2214a 2 = .ok (.invokestatic 48, 3) := by decide +kernel
theorem dJ2_checkIndex_2214a_5 : decode cJ2_checkIndex_2214a 5 = .ok (.invokestatic 414, 3) := by decide +kernel
theorem dJ2_checkIndex_2214a_8 : decode cJ2_checkIndex_2214a 8 = .ok (.return_, 1) := by decide +kernel
theorem dJ2_checkBoundsBeginEnd_d044e_0 : decode cJ2_checkBoundsBeginEnd_d044e 0 = .ok (.iload_n 0, 1) := by decide +kernel
theorem dJ2_checkBoundsBeginEnd_d044e_1 : decode cJ2_checkBoundsBeginEnd_d044e 1 = .ok (.iload_n 1, 1) := by decide +kernel
theorem dJ2_checkBoundsBeginEnd_d044e_2 : decode cJ2_checkBoundsBeginEnd_d044e 2 = .ok (.aload_n 2, 1) := by decide +kernel
theorem dJ2_checkBoundsBeginEnd_d044e_3 : decode cJ2_checkBoundsBeginEnd_d044e 3 = .ok (.invokestatic 48, 3) := by decide +kernel
theorem dJ2_checkBoundsBeginEnd_d044e_6 : decode cJ2_checkBoundsBeginEnd_d044e 6 = .ok (.invokestatic 241, 3) := by decide +kernel
theorem dJ2_checkBoundsBeginEnd_d044e_9 : decode cJ2_checkBoundsBeginEnd_d044e 9 = .ok (.return_, 1) := by decide +kernel
theorem dJ7_fill_53178_0 : decode cJ7_fill_53178 0 = .ok (.iconst 0, 1) := by decide +kernel
theorem dJ7_fill_53178_1 : decode cJ7_fill_53178 1 = .ok (.istore_n 2, 1) := by decide +kernel
theorem dJ7_fill_53178_2 : decode cJ7_fill_53178 2 = .ok (.aload_n 0, 1) := by decide +kernel
theorem dJ7_fill_53178_3 : decode cJ7_fill_53178 3 = .ok (.arraylength, 1) := by decide +kernel
theorem dJ7_fill_53178_4 : decode cJ7_fill_53178 4 = .ok (.istore_n 3, 1) := by decide +kernel
theorem dJ7_fill_53178_5 : decode cJ7_fill_53178 5 = .ok (.iload_n 2, 1) := by decide +kernel
theorem dJ7_fill_53178_6 : decode cJ7_fill_53178 6 = .ok (.iload_n 3, 1) := by decide +kernel
theorem dJ7_fill_53178_7 : decode cJ7_fill_53178 7 = .ok (.if_icmp .ge 13, 3) := by decide +kernel
theorem dJ7_fill_53178_10 : decode cJ7_fill_53178 10 = .ok (.aload_n 0, 1) := by decide +kernel
theorem dJ7_fill_53178_11 : decode cJ7_fill_53178 11 = .ok (.iload_n 2, 1) := by decide +kernel
theorem dJ7_fill_53178_12 : decode cJ7_fill_53178 12 = .ok (.iload_n 1, 1) := by decide +kernel
theorem dJ7_fill_53178_13 : decode cJ7_fill_53178 13 = .ok (.iastore, 1) := by decide +kernel
theorem dJ7_fill_53178_14 : decode cJ7_fill_53178 14 = .ok (.iinc 2 1, 3) := by decide +kernel
theorem dJ7_fill_53178_17 : decode cJ7_fill_53178 17 = .ok (.goto (-12), 3) := by decide +kernel
theorem dJ7_fill_53178_20 : decode cJ7_fill_53178 20 = .ok (.return_, 1) := by decide +kernel
theorem dJ3_checkIndex_8e157_0 : decode cJ3_checkIndex_8e157 0 = .ok (.iload_n 0, 1) := by decide +kernel
theorem dJ3_checkIndex_8e157_1 : decode cJ3_checkIndex_8e157 1 = .ok (.ifCond .lt 8, 3) := by decide +kernel
theorem dJ3_checkIndex_8e157_4 : decode cJ3_checkIndex_8e157 4 = .ok (.iload_n 0, 1) := by decide +kernel
theorem dJ3_checkIndex_8e157_5 : decode cJ3_checkIndex_8e157 5 = .ok (.iload_n 1, 1) := by decide +kernel
theorem dJ3_checkIndex_8e157_6 : decode cJ3_checkIndex_8e157 6 = .ok (.if_icmp .lt 10, 3) := by decide +kernel
theorem dJ3_checkIndex_8e157_9 : decode cJ3_checkIndex_8e157 9 = .ok (.aload_n 2, 1) := by decide +kernel
theorem dJ3_checkIndex_8e157_10 : decode cJ3_checkIndex_8e157 10 = .ok (.iload_n 0, 1) := by decide +kernel
theorem dJ3_checkIndex_8e157_11 : decode cJ3_checkIndex_8e157 11 = .ok (.iload_n 1, 1) := by decide +kernel
theorem dJ3_checkIndex_8e157_12 : decode cJ3_checkIndex_8e157 12 = .ok (.invokestatic 95, 3) := by decide +kernel
theorem dJ3_checkIndex_8e157_15 : decode cJ3_checkIndex_8e157 15 = .ok (.athrow, 1) := by decide +kernel
theorem dJ3_checkIndex_8e157_16 : decode cJ3_checkIndex_8e157 16 = .ok (.iload_n 0, 1) := by decide +kernel
theorem dJ3_checkIndex_8e157_17 : decode cJ3_checkIndex_8e157 17 = .ok (.ireturn, 1) := by decide +kernel
theorem dJ3_checkFromToIndex_8c36e_0 : decode cJ3_checkFromToIndex_8c36e 0 = .ok (.iload_n 0, 1) := by decide +kernel
theorem dJ3_checkFromToIndex_8c36e_1 : decode cJ3_checkFromToIndex_8c36e 1 = .ok (.ifCond .lt 13, 3) := by decide +kernel
theorem dJ3_checkFromToIndex_8c36e_4 : decode cJ3_checkFromToIndex_8c36e 4 = .ok (.iload_n 0, 1) := by decide +kernel
theorem dJ3_checkFromToIndex_8c36e_5 : decode cJ3_checkFromToIndex_8c36e 5 = .ok (.iload_n 1, 1) := by decide +kernel
theorem dJ3_checkFromToIndex_8c36e_6 : decode cJ3_checkFromToIndex_8c36e 6 = .ok (.if_icmp .gt 8, 3) := by decide +kernel
theorem dJ3_checkFromToIndex_8c36e_9 : decode cJ3_checkFromToIndex_8c36e 9 = .ok (.iload_n 1, 1) := by decide +kernel
theorem dJ3_checkFromToIndex_8c36e_10 : decode cJ3_checkFromToIndex_8c36e 10 = .ok (.iload_n 2, 1) := by decide +kernel
theorem dJ3_checkFromToIndex_8c36e_11 : decode cJ3_checkFromToIndex_8c36e 11 = .ok (.if_icmp .le 11, 3) := by decide +kernel
theorem dJ3_checkFromToIndex_8c36e_14 : decode cJ3_checkFromToIndex_8c36e 14 = .ok (.aload_n 3, 1) := by decide +kernel
theorem dJ3_checkFromToIndex_8c36e_15 : decode cJ3_checkFromToIndex_8c36e 15 = .ok (.iload_n 0, 1) := by decide +kernel
theorem dJ3_checkFromToIndex_8c36e_16 : decode cJ3_checkFromToIndex_8c36e 16 = .ok (.iload_n 1, 1) := by decide +kernel
theorem dJ3_checkFromToIndex_8c36e_17 : decode cJ3_checkFromToIndex_8c36e 17 = .ok (.iload_n 2, 1) := by decide +kernel
theorem dJ3_checkFromToIndex_8c36e_18 : decode cJ3_checkFromToIndex_8c36e 18 = .ok (.invokestatic 99, 3) := by decide +kernel
theorem dJ3_checkFromToIndex_8c36e_21 : decode cJ3_checkFromToIndex_8c36e 21 = .ok (.athrow, 1) := by decide +kernel
theorem dJ3_checkFromToIndex_8c36e_22 : decode cJ3_checkFromToIndex_8c36e 22 = .ok (.iload_n 0, 1) := by decide +kernel
theorem dJ3_checkFromToIndex_8c36e_23 : decode cJ3_checkFromToIndex_8c36e 23 = .ok (.ireturn, 1) := by decide +kernel
theorem dL_law_0 : decode cL_law 0 = .ok (.new 7, 3) := by decide +kernel
theorem dL_law_3 : decode cL_law 3 = .ok (.dup, 1) := by decide +kernel
theorem dL_law_4 : decode cL_law 4 = .ok (.invokespecial 9, 3) := by decide +kernel
theorem dL_law_7 : decode cL_law 7 = .ok (.astore_n 1, 1) := by decide +kernel
theorem dL_law_8 : decode cL_law 8 = .ok (.new 10, 3) := by decide +kernel
theorem dL_law_11 : decode cL_law 11 = .ok (.dup, 1) := by decide +kernel
theorem dL_law_12 : decode cL_law 12 = .ok (.invokespecial 12, 3) := by decide +kernel
theorem dL_law_15 : decode cL_law 15 = .ok (.astore_n 2, 1) := by decide +kernel
theorem dL_law_16 : decode cL_law 16 = .ok (.iconst 0, 1) := by decide +kernel
theorem dL_law_17 : decode cL_law 17 = .ok (.istore_n 3, 1) := by decide +kernel
theorem dL_law_18 : decode cL_law 18 = .ok (.iload_n 3, 1) := by decide +kernel
theorem dL_law_19 : decode cL_law 19 = .ok (.aload_n 0, 1) := by decide +kernel
theorem dL_law_20 : decode cL_law 20 = .ok (.arraylength, 1) := by decide +kernel
theorem dL_law_21 : decode cL_law 21 = .ok (.bipush 6, 2) := by decide +kernel
theorem dL_law_23 : decode cL_law 23 = .ok (.isub, 1) := by decide +kernel
theorem dL_law_24 : decode cL_law 24 = .ok (.if_icmp .gt 938, 3) := by decide +kernel
theorem dL_law_27 : decode cL_law 27 = .ok (.aload_n 0, 1) := by decide +kernel
theorem dL_law_28 : decode cL_law 28 = .ok (.iload_n 3, 1) := by decide +kernel
theorem dL_law_29 : decode cL_law 29 = .ok (.iaload, 1) := by decide +kernel
theorem dL_law_30 : decode cL_law 30 = .ok (.bipush 31, 2) := by decide +kernel
theorem dL_law_32 : decode cL_law 32 = .ok (.iand, 1) := by decide +kernel
theorem dL_law_33 : decode cL_law 33 = .ok (.tableswitch 923 0 25 #[119, 142, 165, 208, 271, 294, 307, 330, 363, 386, 419, 462, 495, 528, 561, 594, 627, 650, 673, 706, 729, 762, 825, 848, 861, 900], 119) := by decide +kernel
theorem dL_law_152 : decode cL_law 152 = .ok (.aload_n 1, 1) := by decide +kernel
theorem dL_law_153 : decode cL_law 153 = .ok (.aload_n 0, 1) := by decide +kernel
theorem dL_law_154 : decode cL_law 154 = .ok (.iload_n 3, 1) := by decide +kernel
theorem dL_law_155 : decode cL_law 155 = .ok (.iconst 1, 1) := by decide +kernel
theorem dL_law_156 : decode cL_law 156 = .ok (.iadd, 1) := by decide +kernel
theorem dL_law_157 : decode cL_law 157 = .ok (.iaload, 1) := by decide +kernel
theorem dL_law_158 : decode cL_law 158 = .ok (.invokevirtual 13, 3) := by decide +kernel
theorem dL_law_161 : decode cL_law 161 = .ok (.aload_n 2, 1) := by decide +kernel
theorem dL_law_162 : decode cL_law 162 = .ok (.aload_n 0, 1) := by decide +kernel
theorem dL_law_163 : decode cL_law 163 = .ok (.iload_n 3, 1) := by decide +kernel
theorem dL_law_164 : decode cL_law 164 = .ok (.iconst 1, 1) := by decide +kernel
theorem dL_law_165 : decode cL_law 165 = .ok (.iadd, 1) := by decide +kernel
theorem dL_law_166 : decode cL_law 166 = .ok (.iaload, 1) := by decide +kernel
theorem dL_law_167 : decode cL_law 167 = .ok (.invokevirtual 17, 3) := by decide +kernel
theorem dL_law_170 : decode cL_law 170 = .ok (.if_icmp .eq 786, 3) := by decide +kernel
theorem dL_law_173 : decode cL_law 173 = .ok (.iconst 0, 1) := by decide +kernel
theorem dL_law_174 : decode cL_law 174 = .ok (.ireturn, 1) := by decide +kernel
theorem dL_law_175 : decode cL_law 175 = .ok (.aload_n 1, 1) := by decide +kernel
theorem dL_law_176 : decode cL_law 176 = .ok (.aload_n 0, 1) := by decide +kernel
theorem dL_law_177 : decode cL_law 177 = .ok (.iload_n 3, 1) := by decide +kernel
theorem dL_law_178 : decode cL_law 178 = .ok (.iconst 1, 1) := by decide +kernel
theorem dL_law_179 : decode cL_law 179 = .ok (.iadd, 1) := by decide +kernel
theorem dL_law_180 : decode cL_law 180 = .ok (.iaload, 1) := by decide +kernel
theorem dL_law_181 : decode cL_law 181 = .ok (.invokevirtual 18, 3) := by decide +kernel
theorem dL_law_184 : decode cL_law 184 = .ok (.aload_n 2, 1) := by decide +kernel
theorem dL_law_185 : decode cL_law 185 = .ok (.aload_n 0, 1) := by decide +kernel
theorem dL_law_186 : decode cL_law 186 = .ok (.iload_n 3, 1) := by decide +kernel
theorem dL_law_187 : decode cL_law 187 = .ok (.iconst 1, 1) := by decide +kernel
theorem dL_law_188 : decode cL_law 188 = .ok (.iadd, 1) := by decide +kernel
theorem dL_law_189 : decode cL_law 189 = .ok (.iaload, 1) := by decide +kernel
theorem dL_law_190 : decode cL_law 190 = .ok (.invokevirtual 21, 3) := by decide +kernel
theorem dL_law_193 : decode cL_law 193 = .ok (.if_icmp .eq 763, 3) := by decide +kernel
theorem dL_law_196 : decode cL_law 196 = .ok (.iconst 0, 1) := by decide +kernel
theorem dL_law_197 : decode cL_law 197 = .ok (.ireturn, 1) := by decide +kernel
theorem dL_law_198 : decode cL_law 198 = .ok (.aload_n 1, 1) := by decide +kernel
theorem dL_law_199 : decode cL_law 199 = .ok (.aload_n 0, 1) := by decide +kernel
theorem dL_law_200 : decode cL_law 200 = .ok (.iload_n 3, 1) := by decide +kernel
theorem dL_law_201 : decode cL_law 201 = .ok (.iconst 1, 1) := by decide +kernel
theorem dL_law_202 : decode cL_law 202 = .ok (.iadd, 1) := by decide +kernel
theorem dL_law_203 : decode cL_law 203 = .ok (.iaload, 1) := by decide +kernel
theorem dL_law_204 : decode cL_law 204 = .ok (.aload_n 0, 1) := by decide +kernel
theorem dL_law_205 : decode cL_law 205 = .ok (.iload_n 3, 1) := by decide +kernel
theorem dL_law_206 : decode cL_law 206 = .ok (.iconst 2, 1) := by decide +kernel
theorem dL_law_207 : decode cL_law 207 = .ok (.iadd, 1) := by decide +kernel
theorem dL_law_208 : decode cL_law 208 = .ok (.iaload, 1) := by decide +kernel
theorem dL_law_209 : decode cL_law 209 = .ok (.aload_n 0, 1) := by decide +kernel
theorem dL_law_210 : decode cL_law 210 = .ok (.iload_n 3, 1) := by decide +kernel
theorem dL_law_211 : decode cL_law 211 = .ok (.iconst 3, 1) := by decide +kernel
theorem dL_law_212 : decode cL_law 212 = .ok (.iadd, 1) := by decide +kernel
theorem dL_law_213 : decode cL_law 213 = .ok (.iaload, 1) := by decide +kernel
theorem dL_law_214 : decode cL_law 214 = .ok (.invokevirtual 22, 3) := by decide +kernel
theorem dL_law_217 : decode cL_law 217 = .ok (.aload_n 2, 1) := by decide +kernel
theorem dL_law_218 : decode cL_law 218 = .ok (.aload_n 0, 1) := by decide +kernel
theorem dL_law_219 : decode cL_law 219 = .ok (.iload_n 3, 1) := by decide +kernel
theorem dL_law_220 : decode cL_law 220 = .ok (.iconst 1, 1) := by decide +kernel
theorem dL_law_221 : decode cL_law 221 = .ok (.iadd, 1) := by decide +kernel
theorem dL_law_222 : decode cL_law 222 = .ok (.iaload, 1) := by decide +kernel
theorem dL_law_223 : decode cL_law 223 = .ok (.aload_n 0, 1) := by decide +kernel
theorem dL_law_224 : decode cL_law 224 = .ok (.iload_n 3, 1) := by decide +kernel
theorem dL_law_225 : decode cL_law 225 = .ok (.iconst 2, 1) := by decide +kernel
theorem dL_law_226 : decode cL_law 226 = .ok (.iadd, 1) := by decide +kernel
theorem dL_law_227 : decode cL_law 227 = .ok (.iaload, 1) := by decide +kernel
theorem dL_law_228 : decode cL_law 228 = .ok (.aload_n 0, 1) := by decide +kernel
theorem dL_law_229 : decode cL_law 229 = .ok (.iload_n 3, 1) := by decide +kernel
theorem dL_law_230 : decode cL_law 230 = .ok (.iconst 3, 1) := by decide +kernel
theorem dL_law_231 : decode cL_law 231 = .ok (.iadd, 1) := by decide +kernel
theorem dL_law_232 : decode cL_law 232 = .ok (.iaload, 1) := by decide +kernel
theorem dL_law_233 : decode cL_law 233 = .ok (.invokevirtual 26, 3) := by decide +kernel
theorem dL_law_236 : decode cL_law 236 = .ok (.if_icmp .eq 720, 3) := by decide +kernel
theorem dL_law_239 : decode cL_law 239 = .ok (.iconst 0, 1) := by decide +kernel
theorem dL_law_240 : decode cL_law 240 = .ok (.ireturn, 1) := by decide +kernel
theorem dL_law_241 : decode cL_law 241 = .ok (.aload_n 1, 1) := by decide +kernel
theorem dL_law_242 : decode cL_law 242 = .ok (.aload_n 0, 1) := by decide +kernel
theorem dL_law_243 : decode cL_law 243 = .ok (.iload_n 3, 1) := by decide +kernel
theorem dL_law_244 : decode cL_law 244 = .ok (.iconst 1, 1) := by decide +kernel
theorem dL_law_245 : decode cL_law 245 = .ok (.iadd, 1) := by decide +kernel
theorem dL_law_246 : decode cL_law 246 = .ok (.iaload, 1) := by decide +kernel
theorem dL_law_247 : decode cL_law 247 = .ok (.aload_n 0, 1) := by decide +kernel
theorem dL_law_248 : decode cL_law 248 = .ok (.iload_n 3, 1) := by decide +kernel
theorem dL_law_249 : decode cL_law 249 = .ok (.iconst 2, 1) := by decide +kernel
theorem dL_law_250 : decode cL_law 250 = .ok (.iadd, 1) := by decide +kernel
theorem dL_law_251 : decode cL_law 251 = .ok (.iaload, 1) := by decide +kernel
theorem dL_law_252 : decode cL_law 252 = .ok (.aload_n 0, 1) := by decide +kernel
theorem dL_law_253 : decode cL_law 253 = .ok (.iload_n 3, 1) := by decide +kernel
theorem dL_law_254 : decode cL_law 254 = .ok (.iconst 3, 1) := by decide +kernel
theorem dL_law_255 : decode cL_law 255 = .ok (.iadd, 1) := by decide +kernel
theorem dL_law_256 : decode cL_law 256 = .ok (.iaload, 1) := by decide +kernel
theorem dL_law_257 : decode cL_law 257 = .ok (.aload_n 0, 1) := by decide +kernel
theorem dL_law_258 : decode cL_law 258 = .ok (.iload_n 3, 1) := by decide +kernel
theorem dL_law_259 : decode cL_law 259 = .ok (.iconst 4, 1) := by decide +kernel
theorem dL_law_260 : decode cL_law 260 = .ok (.iadd, 1) := by decide +kernel
theorem dL_law_261 : decode cL_law 261 = .ok (.iaload, 1) := by decide +kernel
theorem dL_law_262 : decode cL_law 262 = .ok (.aload_n 0, 1) := by decide +kernel
theorem dL_law_263 : decode cL_law 263 = .ok (.iload_n 3, 1) := by decide +kernel
theorem dL_law_264 : decode cL_law 264 = .ok (.iconst 5, 1) := by decide +kernel
theorem dL_law_265 : decode cL_law 265 = .ok (.iadd, 1) := by decide +kernel
theorem dL_law_266 : decode cL_law 266 = .ok (.iaload, 1) := by decide +kernel
theorem dL_law_267 : decode cL_law 267 = .ok (.invokevirtual 27, 3) := by decide +kernel
theorem dL_law_270 : decode cL_law 270 = .ok (.aload_n 2, 1) := by decide +kernel
theorem dL_law_271 : decode cL_law 271 = .ok (.aload_n 0, 1) := by decide +kernel
theorem dL_law_272 : decode cL_law 272 = .ok (.iload_n 3, 1) := by decide +kernel
theorem dL_law_273 : decode cL_law 273 = .ok (.iconst 1, 1) := by decide +kernel
theorem dL_law_274 : decode cL_law 274 = .ok (.iadd, 1) := by decide +kernel
theorem dL_law_275 : decode cL_law 275 = .ok (.iaload, 1) := by decide +kernel
theorem dL_law_276 : decode cL_law 276 = .ok (.aload_n 0, 1) := by decide +kernel
theorem dL_law_277 : decode cL_law 277 = .ok (.iload_n 3, 1) := by decide +kernel
theorem dL_law_278 : decode cL_law 278 = .ok (.iconst 2, 1) := by decide +kernel
theorem dL_law_279 : decode cL_law 279 = .ok (.iadd, 1) := by decide +kernel
theorem dL_law_280 : decode cL_law 280 = .ok (.iaload, 1) := by decide +kernel
theorem dL_law_281 : decode cL_law 281 = .ok (.aload_n 0, 1) := by decide +kernel
theorem dL_law_282 : decode cL_law 282 = .ok (.iload_n 3, 1) := by decide +kernel
theorem dL_law_283 : decode cL_law 283 = .ok (.iconst 3, 1) := by decide +kernel
theorem dL_law_284 : decode cL_law 284 = .ok (.iadd, 1) := by decide +kernel
theorem dL_law_285 : decode cL_law 285 = .ok (.iaload, 1) := by decide +kernel
theorem dL_law_286 : decode cL_law 286 = .ok (.aload_n 0, 1) := by decide +kernel
theorem dL_law_287 : decode cL_law 287 = .ok (.iload_n 3, 1) := by decide +kernel
theorem dL_law_288 : decode cL_law 288 = .ok (.iconst 4, 1) := by decide +kernel
theorem dL_law_289 : decode cL_law 289 = .ok (.iadd, 1) := by decide +kernel
theorem dL_law_290 : decode cL_law 290 = .ok (.iaload, 1) := by decide +kernel
theorem dL_law_291 : decode cL_law 291 = .ok (.aload_n 0, 1) := by decide +kernel
theorem dL_law_292 : decode cL_law 292 = .ok (.iload_n 3, 1) := by decide +kernel
theorem dL_law_293 : decode cL_law 293 = .ok (.iconst 5, 1) := by decide +kernel
theorem dL_law_294 : decode cL_law 294 = .ok (.iadd, 1) := by decide +kernel
theorem dL_law_295 : decode cL_law 295 = .ok (.iaload, 1) := by decide +kernel
theorem dL_law_296 : decode cL_law 296 = .ok (.invokevirtual 31, 3) := by decide +kernel
theorem dL_law_299 : decode cL_law 299 = .ok (.if_icmp .eq 657, 3) := by decide +kernel
theorem dL_law_302 : decode cL_law 302 = .ok (.iconst 0, 1) := by decide +kernel
theorem dL_law_303 : decode cL_law 303 = .ok (.ireturn, 1) := by decide +kernel
theorem dL_law_304 : decode cL_law 304 = .ok (.aload_n 1, 1) := by decide +kernel
theorem dL_law_305 : decode cL_law 305 = .ok (.aload_n 0, 1) := by decide +kernel
theorem dL_law_306 : decode cL_law 306 = .ok (.iload_n 3, 1) := by decide +kernel
theorem dL_law_307 : decode cL_law 307 = .ok (.iconst 1, 1) := by decide +kernel
theorem dL_law_308 : decode cL_law 308 = .ok (.iadd, 1) := by decide +kernel
theorem dL_law_309 : decode cL_law 309 = .ok (.iaload, 1) := by decide +kernel
theorem dL_law_310 : decode cL_law 310 = .ok (.invokevirtual 32, 3) := by decide +kernel
theorem dL_law_313 : decode cL_law 313 = .ok (.aload_n 2, 1) := by decide +kernel
theorem dL_law_314 : decode cL_law 314 = .ok (.aload_n 0, 1) := by decide +kernel
theorem dL_law_315 : decode cL_law 315 = .ok (.iload_n 3, 1) := by decide +kernel
theorem dL_law_316 : decode cL_law 316 = .ok (.iconst 1, 1) := by decide +kernel
theorem dL_law_317 : decode cL_law 317 = .ok (.iadd, 1) := by decide +kernel
theorem dL_law_318 : decode cL_law 318 = .ok (.iaload, 1) := by decide +kernel
theorem dL_law_319 : decode cL_law 319 = .ok (.invokevirtual 36, 3) := by decide +kernel
theorem dL_law_322 : decode cL_law 322 = .ok (.if_icmp .eq 634, 3) := by decide +kernel
theorem dL_law_325 : decode cL_law 325 = .ok (.iconst 0, 1) := by decide +kernel
theorem dL_law_326 : decode cL_law 326 = .ok (.ireturn, 1) := by decide +kernel
theorem dL_law_327 : decode cL_law 327 = .ok (.aload_n 1, 1) := by decide +kernel
theorem dL_law_328 : decode cL_law 328 = .ok (.invokevirtual 37, 3) := by decide +kernel
theorem dL_law_331 : decode cL_law 331 = .ok (.aload_n 2, 1) := by decide +kernel
theorem dL_law_332 : decode cL_law 332 = .ok (.invokevirtual 41, 3) := by decide +kernel
theorem dL_law_335 : decode cL_law 335 = .ok (.if_icmp .eq 621, 3) := by decide +kernel
theorem dL_law_338 : decode cL_law 338 = .ok (.iconst 0, 1) := by decide +kernel
theorem dL_law_339 : decode cL_law 339 = .ok (.ireturn, 1) := by decide +kernel
theorem dL_law_340 : decode cL_law 340 = .ok (.aload_n 1, 1) := by decide +kernel
theorem dL_law_341 : decode cL_law 341 = .ok (.aload_n 0, 1) := by decide +kernel
theorem dL_law_342 : decode cL_law 342 = .ok (.iload_n 3, 1) := by decide +kernel
theorem dL_law_343 : decode cL_law 343 = .ok (.iconst 1, 1) := by decide +kernel
theorem dL_law_344 : decode cL_law 344 = .ok (.iadd, 1) := by decide +kernel
theorem dL_law_345 : decode cL_law 345 = .ok (.iaload, 1) := by decide +kernel
theorem dL_law_346 : decode cL_law 346 = .ok (.invokevirtual 42, 3) := by decide +kernel
theorem dL_law_349 : decode cL_law 349 = .ok (.aload_n 2, 1) := by decide +kernel
theorem dL_law_350 : decode cL_law 350 = .ok (.aload_n 0, 1) := by decide +kernel
theorem dL_law_351 : decode cL_law 351 = .ok (.iload_n 3, 1) := by decide +kernel
theorem dL_law_352 : decode cL_law 352 = .ok (.iconst 1, 1) := by decide +kernel
theorem dL_law_353 : decode cL_law 353 = .ok (.iadd, 1) := by decide +kernel
theorem dL_law_354 : decode cL_law 354 = .ok (.iaload, 1) := by decide +kernel
theorem dL_law_355 : decode cL_law 355 = .ok (.invokevirtual 45, 3) := by decide +kernel
theorem dL_law_358 : decode cL_law 358 = .ok (.if_icmp .eq 598, 3) := by decide +kernel
theorem dL_law_361 : decode cL_law 361 = .ok (.iconst 0, 1) := by decide +kernel
theorem dL_law_362 : decode cL_law 362 = .ok (.ireturn, 1) := by decide +kernel
theorem dL_law_363 : decode cL_law 363 = .ok (.aload_n 1, 1) := by decide +kernel
theorem dL_law_364 : decode cL_law 364 = .ok (.aload_n 0, 1) := by decide +kernel
theorem dL_law_365 : decode cL_law 365 = .ok (.iload_n 3, 1) := by decide +kernel
theorem dL_law_366 : decode cL_law 366 = .ok (.iconst 1, 1) := by decide +kernel
theorem dL_law_367 : decode cL_law 367 = .ok (.iadd, 1) := by decide +kernel
theorem dL_law_368 : decode cL_law 368 = .ok (.iaload, 1) := by decide +kernel
theorem dL_law_369 : decode cL_law 369 = .ok (.aload_n 0, 1) := by decide +kernel
theorem dL_law_370 : decode cL_law 370 = .ok (.iload_n 3, 1) := by decide +kernel
theorem dL_law_371 : decode cL_law 371 = .ok (.iconst 2, 1) := by decide +kernel
theorem dL_law_372 : decode cL_law 372 = .ok (.iadd, 1) := by decide +kernel
theorem dL_law_373 : decode cL_law 373 = .ok (.iaload, 1) := by decide +kernel
theorem dL_law_374 : decode cL_law 374 = .ok (.invokevirtual 46, 3) := by decide +kernel
theorem dL_law_377 : decode cL_law 377 = .ok (.aload_n 2, 1) := by decide +kernel
theorem dL_law_378 : decode cL_law 378 = .ok (.aload_n 0, 1) := by decide +kernel
theorem dL_law_379 : decode cL_law 379 = .ok (.iload_n 3, 1) := by decide +kernel
theorem dL_law_380 : decode cL_law 380 = .ok (.iconst 1, 1) := by decide +kernel
theorem dL_law_381 : decode cL_law 381 = .ok (.iadd, 1) := by decide +kernel
theorem dL_law_382 : decode cL_law 382 = .ok (.iaload, 1) := by decide +kernel
theorem dL_law_383 : decode cL_law 383 = .ok (.aload_n 0, 1) := by decide +kernel
theorem dL_law_384 : decode cL_law 384 = .ok (.iload_n 3, 1) := by decide +kernel
theorem dL_law_385 : decode cL_law 385 = .ok (.iconst 2, 1) := by decide +kernel
theorem dL_law_386 : decode cL_law 386 = .ok (.iadd, 1) := by decide +kernel
theorem dL_law_387 : decode cL_law 387 = .ok (.iaload, 1) := by decide +kernel
theorem dL_law_388 : decode cL_law 388 = .ok (.invokevirtual 50, 3) := by decide +kernel
theorem dL_law_391 : decode cL_law 391 = .ok (.if_icmp .eq 565, 3) := by decide +kernel
theorem dL_law_394 : decode cL_law 394 = .ok (.iconst 0, 1) := by decide +kernel
theorem dL_law_395 : decode cL_law 395 = .ok (.ireturn, 1) := by decide +kernel
theorem dL_law_396 : decode cL_law 396 = .ok (.aload_n 1, 1) := by decide +kernel
theorem dL_law_397 : decode cL_law 397 = .ok (.aload_n 0, 1) := by decide +kernel
theorem dL_law_398 : decode cL_law 398 = .ok (.iload_n 3, 1) := by decide +kernel
theorem dL_law_399 : decode cL_law 399 = .ok (.iconst 1, 1) := by decide +kernel
theorem dL_law_400 : decode cL_law 400 = .ok (.iadd, 1) := by decide +kernel
theorem dL_law_401 : decode cL_law 401 = .ok (.iaload, 1) := by decide +kernel
theorem dL_law_402 : decode cL_law 402 = .ok (.invokevirtual 51, 3) := by decide +kernel
theorem dL_law_405 : decode cL_law 405 = .ok (.aload_n 2, 1) := by decide +kernel
theorem dL_law_406 : decode cL_law 406 = .ok (.aload_n 0, 1) := by decide +kernel
theorem dL_law_407 : decode cL_law 407 = .ok (.iload_n 3, 1) := by decide +kernel
theorem dL_law_408 : decode cL_law 408 = .ok (.iconst 1, 1) := by decide +kernel
theorem dL_law_409 : decode cL_law 409 = .ok (.iadd, 1) := by decide +kernel
theorem dL_law_410 : decode cL_law 410 = .ok (.iaload, 1) := by decide +kernel
theorem dL_law_411 : decode cL_law 411 = .ok (.invokevirtual 54, 3) := by decide +kernel
theorem dL_law_414 : decode cL_law 414 = .ok (.if_icmp .eq 542, 3) := by decide +kernel
theorem dL_law_417 : decode cL_law 417 = .ok (.iconst 0, 1) := by decide +kernel
theorem dL_law_418 : decode cL_law 418 = .ok (.ireturn, 1) := by decide +kernel
theorem dL_law_419 : decode cL_law 419 = .ok (.aload_n 1, 1) := by decide +kernel
theorem dL_law_420 : decode cL_law 420 = .ok (.aload_n 0, 1) := by decide +kernel
theorem dL_law_421 : decode cL_law 421 = .ok (.iload_n 3, 1) := by decide +kernel
theorem dL_law_422 : decode cL_law 422 = .ok (.iconst 1, 1) := by decide +kernel
theorem dL_law_423 : decode cL_law 423 = .ok (.iadd, 1) := by decide +kernel
theorem dL_law_424 : decode cL_law 424 = .ok (.iaload, 1) := by decide +kernel
theorem dL_law_425 : decode cL_law 425 = .ok (.aload_n 0, 1) := by decide +kernel
theorem dL_law_426 : decode cL_law 426 = .ok (.iload_n 3, 1) := by decide +kernel
theorem dL_law_427 : decode cL_law 427 = .ok (.iconst 2, 1) := by decide +kernel
theorem dL_law_428 : decode cL_law 428 = .ok (.iadd, 1) := by decide +kernel
theorem dL_law_429 : decode cL_law 429 = .ok (.iaload, 1) := by decide +kernel
theorem dL_law_430 : decode cL_law 430 = .ok (.invokevirtual 55, 3) := by decide +kernel
theorem dL_law_433 : decode cL_law 433 = .ok (.aload_n 2, 1) := by decide +kernel
theorem dL_law_434 : decode cL_law 434 = .ok (.aload_n 0, 1) := by decide +kernel
theorem dL_law_435 : decode cL_law 435 = .ok (.iload_n 3, 1) := by decide +kernel
theorem dL_law_436 : decode cL_law 436 = .ok (.iconst 1, 1) := by decide +kernel
theorem dL_law_437 : decode cL_law 437 = .ok (.iadd, 1) := by decide +kernel
theorem dL_law_438 : decode cL_law 438 = .ok (.iaload, 1) := by decide +kernel
theorem dL_law_439 : decode cL_law 439 = .ok (.aload_n 0, 1) := by decide +kernel
theorem dL_law_440 : decode cL_law 440 = .ok (.iload_n 3, 1) := by decide +kernel
theorem dL_law_441 : decode cL_law 441 = .ok (.iconst 2, 1) := by decide +kernel
theorem dL_law_442 : decode cL_law 442 = .ok (.iadd, 1) := by decide +kernel
theorem dL_law_443 : decode cL_law 443 = .ok (.iaload, 1) := by decide +kernel
theorem dL_law_444 : decode cL_law 444 = .ok (.invokevirtual 58, 3) := by decide +kernel
theorem dL_law_447 : decode cL_law 447 = .ok (.if_icmp .eq 509, 3) := by decide +kernel
theorem dL_law_450 : decode cL_law 450 = .ok (.iconst 0, 1) := by decide +kernel
theorem dL_law_451 : decode cL_law 451 = .ok (.ireturn, 1) := by decide +kernel
theorem dL_law_452 : decode cL_law 452 = .ok (.aload_n 1, 1) := by decide +kernel
theorem dL_law_453 : decode cL_law 453 = .ok (.aload_n 0, 1) := by decide +kernel
theorem dL_law_454 : decode cL_law 454 = .ok (.iload_n 3, 1) := by decide +kernel
theorem dL_law_455 : decode cL_law 455 = .ok (.iconst 1, 1) := by decide +kernel
theorem dL_law_456 : decode cL_law 456 = .ok (.iadd, 1) := by decide +kernel
theorem dL_law_457 : decode cL_law 457 = .ok (.iaload, 1) := by decide +kernel
theorem dL_law_458 : decode cL_law 458 = .ok (.aload_n 0, 1) := by decide +kernel
theorem dL_law_459 : decode cL_law 459 = .ok (.iload_n 3, 1) := by decide +kernel
theorem dL_law_460 : decode cL_law 460 = .ok (.iconst 2, 1) := by decide +kernel
theorem dL_law_461 : decode cL_law 461 = .ok (.iadd, 1) := by decide +kernel
theorem dL_law_462 : decode cL_law 462 = .ok (.iaload, 1) := by decide +kernel
theorem dL_law_463 : decode cL_law 463 = .ok (.aload_n 0, 1) := by decide +kernel
theorem dL_law_464 : decode cL_law 464 = .ok (.iload_n 3, 1) := by decide +kernel
theorem dL_law_465 : decode cL_law 465 = .ok (.iconst 3, 1) := by decide +kernel
theorem dL_law_466 : decode cL_law 466 = .ok (.iadd, 1) := by decide +kernel
theorem dL_law_467 : decode cL_law 467 = .ok (.iaload, 1) := by decide +kernel
theorem dL_law_468 : decode cL_law 468 = .ok (.invokevirtual 59, 3) := by decide +kernel
theorem dL_law_471 : decode cL_law 471 = .ok (.aload_n 2, 1) := by decide +kernel
theorem dL_law_472 : decode cL_law 472 = .ok (.aload_n 0, 1) := by decide +kernel
theorem dL_law_473 : decode cL_law 473 = .ok (.iload_n 3, 1) := by decide +kernel
theorem dL_law_474 : decode cL_law 474 = .ok (.iconst 1, 1) := by decide +kernel
theorem dL_law_475 : decode cL_law 475 = .ok (.iadd, 1) := by decide +kernel
theorem dL_law_476 : decode cL_law 476 = .ok (.iaload, 1) := by decide +kernel
theorem dL_law_477 : decode cL_law 477 = .ok (.aload_n 0, 1) := by decide +kernel
theorem dL_law_478 : decode cL_law 478 = .ok (.iload_n 3, 1) := by decide +kernel
theorem dL_law_479 : decode cL_law 479 = .ok (.iconst 2, 1) := by decide +kernel
theorem dL_law_480 : decode cL_law 480 = .ok (.iadd, 1) := by decide +kernel
theorem dL_law_481 : decode cL_law 481 = .ok (.iaload, 1) := by decide +kernel
theorem dL_law_482 : decode cL_law 482 = .ok (.aload_n 0, 1) := by decide +kernel
theorem dL_law_483 : decode cL_law 483 = .ok (.iload_n 3, 1) := by decide +kernel
theorem dL_law_484 : decode cL_law 484 = .ok (.iconst 3, 1) := by decide +kernel
theorem dL_law_485 : decode cL_law 485 = .ok (.iadd, 1) := by decide +kernel
theorem dL_law_486 : decode cL_law 486 = .ok (.iaload, 1) := by decide +kernel
theorem dL_law_487 : decode cL_law 487 = .ok (.invokevirtual 63, 3) := by decide +kernel
theorem dL_law_490 : decode cL_law 490 = .ok (.if_icmp .eq 466, 3) := by decide +kernel
theorem dL_law_493 : decode cL_law 493 = .ok (.iconst 0, 1) := by decide +kernel
theorem dL_law_494 : decode cL_law 494 = .ok (.ireturn, 1) := by decide +kernel
theorem dL_law_495 : decode cL_law 495 = .ok (.aload_n 1, 1) := by decide +kernel
theorem dL_law_496 : decode cL_law 496 = .ok (.aload_n 0, 1) := by decide +kernel
theorem dL_law_497 : decode cL_law 497 = .ok (.iload_n 3, 1) := by decide +kernel
theorem dL_law_498 : decode cL_law 498 = .ok (.iconst 1, 1) := by decide +kernel
theorem dL_law_499 : decode cL_law 499 = .ok (.iadd, 1) := by decide +kernel
theorem dL_law_500 : decode cL_law 500 = .ok (.iaload, 1) := by decide +kernel
theorem dL_law_501 : decode cL_law 501 = .ok (.aload_n 0, 1) := by decide +kernel
theorem dL_law_502 : decode cL_law 502 = .ok (.iload_n 3, 1) := by decide +kernel
theorem dL_law_503 : decode cL_law 503 = .ok (.iconst 2, 1) := by decide +kernel
theorem dL_law_504 : decode cL_law 504 = .ok (.iadd, 1) := by decide +kernel
theorem dL_law_505 : decode cL_law 505 = .ok (.iaload, 1) := by decide +kernel
theorem dL_law_506 : decode cL_law 506 = .ok (.invokevirtual 64, 3) := by decide +kernel
theorem dL_law_509 : decode cL_law 509 = .ok (.aload_n 2, 1) := by decide +kernel
theorem dL_law_510 : decode cL_law 510 = .ok (.aload_n 0, 1) := by decide +kernel
theorem dL_law_511 : decode cL_law 511 = .ok (.iload_n 3, 1) := by decide +kernel
theorem dL_law_512 : decode cL_law 512 = .ok (.iconst 1, 1) := by decide +kernel
theorem dL_law_513 : decode cL_law 513 = .ok (.iadd, 1) := by decide +kernel
theorem dL_law_514 : decode cL_law 514 = .ok (.iaload, 1) := by decide +kernel
theorem dL_law_515 : decode cL_law 515 = .ok (.aload_n 0, 1) := by decide +kernel
theorem dL_law_516 : decode cL_law 516 = .ok (.iload_n 3, 1) := by decide +kernel
theorem dL_law_517 : decode cL_law 517 = .ok (.iconst 2, 1) := by decide +kernel
theorem dL_law_518 : decode cL_law 518 = .ok (.iadd, 1) := by decide +kernel
theorem dL_law_519 : decode cL_law 519 = .ok (.iaload, 1) := by decide +kernel
theorem dL_law_520 : decode cL_law 520 = .ok (.invokevirtual 67, 3) := by decide +kernel
theorem dL_law_523 : decode cL_law 523 = .ok (.if_icmp .eq 433, 3) := by decide +kernel
theorem dL_law_526 : decode cL_law 526 = .ok (.iconst 0, 1) := by decide +kernel
theorem dL_law_527 : decode cL_law 527 = .ok (.ireturn, 1) := by decide +kernel
theorem dL_law_528 : decode cL_law 528 = .ok (.aload_n 1, 1) := by decide +kernel
theorem dL_law_529 : decode cL_law 529 = .ok (.aload_n 0, 1) := by decide +kernel
theorem dL_law_530 : decode cL_law 530 = .ok (.iload_n 3, 1) := by decide +kernel
theorem dL_law_531 : decode cL_law 531 = .ok (.iconst 1, 1) := by decide +kernel
theorem dL_law_532 : decode cL_law 532 = .ok (.iadd, 1) := by decide +kernel
theorem dL_law_533 : decode cL_law 533 = .ok (.iaload, 1) := by decide +kernel
theorem dL_law_534 : decode cL_law 534 = .ok (.aload_n 0, 1) := by decide +kernel
theorem dL_law_535 : decode cL_law 535 = .ok (.iload_n 3, 1) := by decide +kernel
theorem dL_law_536 : decode cL_law 536 = .ok (.iconst 2, 1) := by decide +kernel
theorem dL_law_537 : decode cL_law 537 = .ok (.iadd, 1) := by decide +kernel
theorem dL_law_538 : decode cL_law 538 = .ok (.iaload, 1) := by decide +kernel
theorem dL_law_539 : decode cL_law 539 = .ok (.invokevirtual 68, 3) := by decide +kernel
theorem dL_law_542 : decode cL_law 542 = .ok (.aload_n 2, 1) := by decide +kernel
theorem dL_law_543 : decode cL_law 543 = .ok (.aload_n 0, 1) := by decide +kernel
theorem dL_law_544 : decode cL_law 544 = .ok (.iload_n 3, 1) := by decide +kernel
theorem dL_law_545 : decode cL_law 545 = .ok (.iconst 1, 1) := by decide +kernel
theorem dL_law_546 : decode cL_law 546 = .ok (.iadd, 1) := by decide +kernel
theorem dL_law_547 : decode cL_law 547 = .ok (.iaload, 1) := by decide +kernel
theorem dL_law_548 : decode cL_law 548 = .ok (.aload_n 0, 1) := by decide +kernel
theorem dL_law_549 : decode cL_law 549 = .ok (.iload_n 3, 1) := by decide +kernel
theorem dL_law_550 : decode cL_law 550 = .ok (.iconst 2, 1) := by decide +kernel
theorem dL_law_551 : decode cL_law 551 = .ok (.iadd, 1) := by decide +kernel
theorem dL_law_552 : decode cL_law 552 = .ok (.iaload, 1) := by decide +kernel
theorem dL_law_553 : decode cL_law 553 = .ok (.invokevirtual 71, 3) := by decide +kernel
theorem dL_law_556 : decode cL_law 556 = .ok (.if_icmp .eq 400, 3) := by decide +kernel
theorem dL_law_559 : decode cL_law 559 = .ok (.iconst 0, 1) := by decide +kernel
theorem dL_law_560 : decode cL_law 560 = .ok (.ireturn, 1) := by decide +kernel
theorem dL_law_561 : decode cL_law 561 = .ok (.aload_n 1, 1) := by decide +kernel
theorem dL_law_562 : decode cL_law 562 = .ok (.aload_n 0, 1) := by decide +kernel
theorem dL_law_563 : decode cL_law 563 = .ok (.iload_n 3, 1) := by decide +kernel
theorem dL_law_564 : decode cL_law 564 = .ok (.iconst 1, 1) := by decide +kernel
theorem dL_law_565 : decode cL_law 565 = .ok (.iadd, 1) := by decide +kernel
theorem dL_law_566 : decode cL_law 566 = .ok (.iaload, 1) := by decide +kernel
theorem dL_law_567 : decode cL_law 567 = .ok (.aload_n 0, 1) := by decide +kernel
theorem dL_law_568 : decode cL_law 568 = .ok (.iload_n 3, 1) := by decide +kernel
theorem dL_law_569 : decode cL_law 569 = .ok (.iconst 2, 1) := by decide +kernel
theorem dL_law_570 : decode cL_law 570 = .ok (.iadd, 1) := by decide +kernel
theorem dL_law_571 : decode cL_law 571 = .ok (.iaload, 1) := by decide +kernel
theorem dL_law_572 : decode cL_law 572 = .ok (.invokevirtual 72, 3) := by decide +kernel
theorem dL_law_575 : decode cL_law 575 = .ok (.aload_n 2, 1) := by decide +kernel
theorem dL_law_576 : decode cL_law 576 = .ok (.aload_n 0, 1) := by decide +kernel
theorem dL_law_577 : decode cL_law 577 = .ok (.iload_n 3, 1) := by decide +kernel
theorem dL_law_578 : decode cL_law 578 = .ok (.iconst 1, 1) := by decide +kernel
theorem dL_law_579 : decode cL_law 579 = .ok (.iadd, 1) := by decide +kernel
theorem dL_law_580 : decode cL_law 580 = .ok (.iaload, 1) := by decide +kernel
theorem dL_law_581 : decode cL_law 581 = .ok (.aload_n 0, 1) := by decide +kernel
theorem dL_law_582 : decode cL_law 582 = .ok (.iload_n 3, 1) := by decide +kernel
theorem dL_law_583 : decode cL_law 583 = .ok (.iconst 2, 1) := by decide +kernel
theorem dL_law_584 : decode cL_law 584 = .ok (.iadd, 1) := by decide +kernel
theorem dL_law_585 : decode cL_law 585 = .ok (.iaload, 1) := by decide +kernel
theorem dL_law_586 : decode cL_law 586 = .ok (.invokevirtual 75, 3) := by decide +kernel
theorem dL_law_589 : decode cL_law 589 = .ok (.if_icmp .eq 367, 3) := by decide +kernel
theorem dL_law_592 : decode cL_law 592 = .ok (.iconst 0, 1) := by decide +kernel
theorem dL_law_593 : decode cL_law 593 = .ok (.ireturn, 1) := by decide +kernel
theorem dL_law_594 : decode cL_law 594 = .ok (.aload_n 1, 1) := by decide +kernel
theorem dL_law_595 : decode cL_law 595 = .ok (.aload_n 0, 1) := by decide +kernel
theorem dL_law_596 : decode cL_law 596 = .ok (.iload_n 3, 1) := by decide +kernel
theorem dL_law_597 : decode cL_law 597 = .ok (.iconst 1, 1) := by decide +kernel
theorem dL_law_598 : decode cL_law 598 = .ok (.iadd, 1) := by decide +kernel
theorem dL_law_599 : decode cL_law 599 = .ok (.iaload, 1) := by decide +kernel
theorem dL_law_600 : decode cL_law 600 = .ok (.aload_n 0, 1) := by decide +kernel
theorem dL_law_601 : decode cL_law 601 = .ok (.iload_n 3, 1) := by decide +kernel
theorem dL_law_602 : decode cL_law 602 = .ok (.iconst 2, 1) := by decide +kernel
theorem dL_law_603 : decode cL_law 603 = .ok (.iadd, 1) := by decide +kernel
theorem dL_law_604 : decode cL_law 604 = .ok (.iaload, 1) := by decide +kernel
theorem dL_law_605 : decode cL_law 605 = .ok (.invokevirtual 76, 3) := by decide +kernel
theorem dL_law_608 : decode cL_law 608 = .ok (.aload_n 2, 1) := by decide +kernel
theorem dL_law_609 : decode cL_law 609 = .ok (.aload_n 0, 1) := by decide +kernel
theorem dL_law_610 : decode cL_law 610 = .ok (.iload_n 3, 1) := by decide +kernel
theorem dL_law_611 : decode cL_law 611 = .ok (.iconst 1, 1) := by decide +kernel
theorem dL_law_612 : decode cL_law 612 = .ok (.iadd, 1) := by decide +kernel
theorem dL_law_613 : decode cL_law 613 = .ok (.iaload, 1) := by decide +kernel
theorem dL_law_614 : decode cL_law 614 = .ok (.aload_n 0, 1) := by decide +kernel
theorem dL_law_615 : decode cL_law 615 = .ok (.iload_n 3, 1) := by decide +kernel
theorem dL_law_616 : decode cL_law 616 = .ok (.iconst 2, 1) := by decide +kernel
theorem dL_law_617 : decode cL_law 617 = .ok (.iadd, 1) := by decide +kernel
theorem dL_law_618 : decode cL_law 618 = .ok (.iaload, 1) := by decide +kernel
theorem dL_law_619 : decode cL_law 619 = .ok (.invokevirtual 79, 3) := by decide +kernel
theorem dL_law_622 : decode cL_law 622 = .ok (.if_icmp .eq 334, 3) := by decide +kernel
theorem dL_law_625 : decode cL_law 625 = .ok (.iconst 0, 1) := by decide +kernel
theorem dL_law_626 : decode cL_law 626 = .ok (.ireturn, 1) := by decide +kernel
theorem dL_law_627 : decode cL_law 627 = .ok (.aload_n 1, 1) := by decide +kernel
theorem dL_law_628 : decode cL_law 628 = .ok (.aload_n 0, 1) := by decide +kernel
theorem dL_law_629 : decode cL_law 629 = .ok (.iload_n 3, 1) := by decide +kernel
theorem dL_law_630 : decode cL_law 630 = .ok (.iconst 1, 1) := by decide +kernel
theorem dL_law_631 : decode cL_law 631 = .ok (.iadd, 1) := by decide +kernel
theorem dL_law_632 : decode cL_law 632 = .ok (.iaload, 1) := by decide +kernel
theorem dL_law_633 : decode cL_law 633 = .ok (.aload_n 0, 1) := by decide +kernel
theorem dL_law_634 : decode cL_law 634 = .ok (.iload_n 3, 1) := by decide +kernel
theorem dL_law_635 : decode cL_law 635 = .ok (.iconst 2, 1) := by decide +kernel
theorem dL_law_636 : decode cL_law 636 = .ok (.iadd, 1) := by decide +kernel
theorem dL_law_637 : decode cL_law 637 = .ok (.iaload, 1) := by decide +kernel
theorem dL_law_638 : decode cL_law 638 = .ok (.invokevirtual 80, 3) := by decide +kernel
theorem dL_law_641 : decode cL_law 641 = .ok (.aload_n 2, 1) := by decide +kernel
theorem dL_law_642 : decode cL_law 642 = .ok (.aload_n 0, 1) := by decide +kernel
theorem dL_law_643 : decode cL_law 643 = .ok (.iload_n 3, 1) := by decide +kernel
theorem dL_law_644 : decode cL_law 644 = .ok (.iconst 1, 1) := by decide +kernel
theorem dL_law_645 : decode cL_law 645 = .ok (.iadd, 1) := by decide +kernel
theorem dL_law_646 : decode cL_law 646 = .ok (.iaload, 1) := by decide +kernel
theorem dL_law_647 : decode cL_law 647 = .ok (.aload_n 0, 1) := by decide +kernel
theorem dL_law_648 : decode cL_law 648 = .ok (.iload_n 3, 1) := by decide +kernel
theorem dL_law_649 : decode cL_law 649 = .ok (.iconst 2, 1) := by decide +kernel
theorem dL_law_650 : decode cL_law 650 = .ok (.iadd, 1) := by decide +kernel
theorem dL_law_651 : decode cL_law 651 = .ok (.iaload, 1) := by decide +kernel
theorem dL_law_652 : decode cL_law 652 = .ok (.invokevirtual 83, 3) := by decide +kernel
theorem dL_law_655 : decode cL_law 655 = .ok (.if_icmp .eq 301, 3) := by decide +kernel
theorem dL_law_658 : decode cL_law 658 = .ok (.iconst 0, 1) := by decide +kernel
theorem dL_law_659 : decode cL_law 659 = .ok (.ireturn, 1) := by decide +kernel
theorem dL_law_660 : decode cL_law 660 = .ok (.aload_n 1, 1) := by decide +kernel
theorem dL_law_661 : decode cL_law 661 = .ok (.aload_n 0, 1) := by decide +kernel
theorem dL_law_662 : decode cL_law 662 = .ok (.iload_n 3, 1) := by decide +kernel
theorem dL_law_663 : decode cL_law 663 = .ok (.iconst 1, 1) := by decide +kernel
theorem dL_law_664 : decode cL_law 664 = .ok (.iadd, 1) := by decide +kernel
theorem dL_law_665 : decode cL_law 665 = .ok (.iaload, 1) := by decide +kernel
theorem dL_law_666 : decode cL_law 666 = .ok (.invokevirtual 84, 3) := by decide +kernel
theorem dL_law_669 : decode cL_law 669 = .ok (.aload_n 2, 1) := by decide +kernel
theorem dL_law_670 : decode cL_law 670 = .ok (.aload_n 0, 1) := by decide +kernel
theorem dL_law_671 : decode cL_law 671 = .ok (.iload_n 3, 1) := by decide +kernel
theorem dL_law_672 : decode cL_law 672 = .ok (.iconst 1, 1) := by decide +kernel
theorem dL_law_673 : decode cL_law 673 = .ok (.iadd, 1) := by decide +kernel
theorem dL_law_674 : decode cL_law 674 = .ok (.iaload, 1) := by decide +kernel
theorem dL_law_675 : decode cL_law 675 = .ok (.invokevirtual 87, 3) := by decide +kernel
theorem dL_law_678 : decode cL_law 678 = .ok (.if_icmp .eq 278, 3) := by decide +kernel
theorem dL_law_681 : decode cL_law 681 = .ok (.iconst 0, 1) := by decide +kernel
theorem dL_law_682 : decode cL_law 682 = .ok (.ireturn, 1) := by decide +kernel
theorem dL_law_683 : decode cL_law 683 = .ok (.aload_n 1, 1) := by decide +kernel
theorem dL_law_684 : decode cL_law 684 = .ok (.aload_n 0, 1) := by decide +kernel
theorem dL_law_685 : decode cL_law 685 = .ok (.iload_n 3, 1) := by decide +kernel
theorem dL_law_686 : decode cL_law 686 = .ok (.iconst 1, 1) := by decide +kernel
theorem dL_law_687 : decode cL_law 687 = .ok (.iadd, 1) := by decide +kernel
theorem dL_law_688 : decode cL_law 688 = .ok (.iaload, 1) := by decide +kernel
theorem dL_law_689 : decode cL_law 689 = .ok (.invokevirtual 88, 3) := by decide +kernel
theorem dL_law_692 : decode cL_law 692 = .ok (.aload_n 2, 1) := by decide +kernel
theorem dL_law_693 : decode cL_law 693 = .ok (.aload_n 0, 1) := by decide +kernel
theorem dL_law_694 : decode cL_law 694 = .ok (.iload_n 3, 1) := by decide +kernel
theorem dL_law_695 : decode cL_law 695 = .ok (.iconst 1, 1) := by decide +kernel
theorem dL_law_696 : decode cL_law 696 = .ok (.iadd, 1) := by decide +kernel
theorem dL_law_697 : decode cL_law 697 = .ok (.iaload, 1) := by decide +kernel
theorem dL_law_698 : decode cL_law 698 = .ok (.invokevirtual 91, 3) := by decide +kernel
theorem dL_law_701 : decode cL_law 701 = .ok (.if_icmp .eq 255, 3) := by decide +kernel
theorem dL_law_704 : decode cL_law 704 = .ok (.iconst 0, 1) := by decide +kernel
theorem dL_law_705 : decode cL_law 705 = .ok (.ireturn, 1) := by decide +kernel
theorem dL_law_706 : decode cL_law 706 = .ok (.aload_n 1, 1) := by decide +kernel
theorem dL_law_707 : decode cL_law 707 = .ok (.aload_n 0, 1) := by decide +kernel
theorem dL_law_708 : decode cL_law 708 = .ok (.iload_n 3, 1) := by decide +kernel
theorem dL_law_709 : decode cL_law 709 = .ok (.iconst 1, 1) := by decide +kernel
theorem dL_law_710 : decode cL_law 710 = .ok (.iadd, 1) := by decide +kernel
theorem dL_law_711 : decode cL_law 711 = .ok (.iaload, 1) := by decide +kernel
theorem dL_law_712 : decode cL_law 712 = .ok (.aload_n 0, 1) := by decide +kernel
theorem dL_law_713 : decode cL_law 713 = .ok (.iload_n 3, 1) := by decide +kernel
theorem dL_law_714 : decode cL_law 714 = .ok (.iconst 2, 1) := by decide +kernel
theorem dL_law_715 : decode cL_law 715 = .ok (.iadd, 1) := by decide +kernel
theorem dL_law_716 : decode cL_law 716 = .ok (.iaload, 1) := by decide +kernel
theorem dL_law_717 : decode cL_law 717 = .ok (.invokevirtual 92, 3) := by decide +kernel
theorem dL_law_720 : decode cL_law 720 = .ok (.aload_n 2, 1) := by decide +kernel
theorem dL_law_721 : decode cL_law 721 = .ok (.aload_n 0, 1) := by decide +kernel
theorem dL_law_722 : decode cL_law 722 = .ok (.iload_n 3, 1) := by decide +kernel
theorem dL_law_723 : decode cL_law 723 = .ok (.iconst 1, 1) := by decide +kernel
theorem dL_law_724 : decode cL_law 724 = .ok (.iadd, 1) := by decide +kernel
theorem dL_law_725 : decode cL_law 725 = .ok (.iaload, 1) := by decide +kernel
theorem dL_law_726 : decode cL_law 726 = .ok (.aload_n 0, 1) := by decide +kernel
theorem dL_law_727 : decode cL_law 727 = .ok (.iload_n 3, 1) := by decide +kernel
theorem dL_law_728 : decode cL_law 728 = .ok (.iconst 2, 1) := by decide +kernel
theorem dL_law_729 : decode cL_law 729 = .ok (.iadd, 1) := by decide +kernel
theorem dL_law_730 : decode cL_law 730 = .ok (.iaload, 1) := by decide +kernel
theorem dL_law_731 : decode cL_law 731 = .ok (.invokevirtual 95, 3) := by decide +kernel
theorem dL_law_734 : decode cL_law 734 = .ok (.if_icmp .eq 222, 3) := by decide +kernel
theorem dL_law_737 : decode cL_law 737 = .ok (.iconst 0, 1) := by decide +kernel
theorem dL_law_738 : decode cL_law 738 = .ok (.ireturn, 1) := by decide +kernel
theorem dL_law_739 : decode cL_law 739 = .ok (.aload_n 1, 1) := by decide +kernel
theorem dL_law_740 : decode cL_law 740 = .ok (.aload_n 0, 1) := by decide +kernel
theorem dL_law_741 : decode cL_law 741 = .ok (.iload_n 3, 1) := by decide +kernel
theorem dL_law_742 : decode cL_law 742 = .ok (.iconst 1, 1) := by decide +kernel
theorem dL_law_743 : decode cL_law 743 = .ok (.iadd, 1) := by decide +kernel
theorem dL_law_744 : decode cL_law 744 = .ok (.iaload, 1) := by decide +kernel
theorem dL_law_745 : decode cL_law 745 = .ok (.invokevirtual 96, 3) := by decide +kernel
theorem dL_law_748 : decode cL_law 748 = .ok (.aload_n 2, 1) := by decide +kernel
theorem dL_law_749 : decode cL_law 749 = .ok (.aload_n 0, 1) := by decide +kernel
theorem dL_law_750 : decode cL_law 750 = .ok (.iload_n 3, 1) := by decide +kernel
theorem dL_law_751 : decode cL_law 751 = .ok (.iconst 1, 1) := by decide +kernel
theorem dL_law_752 : decode cL_law 752 = .ok (.iadd, 1) := by decide +kernel
theorem dL_law_753 : decode cL_law 753 = .ok (.iaload, 1) := by decide +kernel
theorem dL_law_754 : decode cL_law 754 = .ok (.invokevirtual 99, 3) := by decide +kernel
theorem dL_law_757 : decode cL_law 757 = .ok (.if_icmp .eq 199, 3) := by decide +kernel
theorem dL_law_760 : decode cL_law 760 = .ok (.iconst 0, 1) := by decide +kernel
theorem dL_law_761 : decode cL_law 761 = .ok (.ireturn, 1) := by decide +kernel
theorem dL_law_762 : decode cL_law 762 = .ok (.aload_n 1, 1) := by decide +kernel
theorem dL_law_763 : decode cL_law 763 = .ok (.aload_n 0, 1) := by decide +kernel
theorem dL_law_764 : decode cL_law 764 = .ok (.iload_n 3, 1) := by decide +kernel
theorem dL_law_765 : decode cL_law 765 = .ok (.iconst 1, 1) := by decide +kernel
theorem dL_law_766 : decode cL_law 766 = .ok (.iadd, 1) := by decide +kernel
theorem dL_law_767 : decode cL_law 767 = .ok (.iaload, 1) := by decide +kernel
theorem dL_law_768 : decode cL_law 768 = .ok (.aload_n 0, 1) := by decide +kernel
theorem dL_law_769 : decode cL_law 769 = .ok (.iload_n 3, 1) := by decide +kernel
theorem dL_law_770 : decode cL_law 770 = .ok (.iconst 2, 1) := by decide +kernel
theorem dL_law_771 : decode cL_law 771 = .ok (.iadd, 1) := by decide +kernel
theorem dL_law_772 : decode cL_law 772 = .ok (.iaload, 1) := by decide +kernel
theorem dL_law_773 : decode cL_law 773 = .ok (.invokevirtual 100, 3) := by decide +kernel
theorem dL_law_776 : decode cL_law 776 = .ok (.aload_n 2, 1) := by decide +kernel
theorem dL_law_777 : decode cL_law 777 = .ok (.aload_n 0, 1) := by decide +kernel
theorem dL_law_778 : decode cL_law 778 = .ok (.iload_n 3, 1) := by decide +kernel
theorem dL_law_779 : decode cL_law 779 = .ok (.iconst 1, 1) := by decide +kernel
theorem dL_law_780 : decode cL_law 780 = .ok (.iadd, 1) := by decide +kernel
theorem dL_law_781 : decode cL_law 781 = .ok (.iaload, 1) := by decide +kernel
theorem dL_law_782 : decode cL_law 782 = .ok (.aload_n 0, 1) := by decide +kernel
theorem dL_law_783 : decode cL_law 783 = .ok (.iload_n 3, 1) := by decide +kernel
theorem dL_law_784 : decode cL_law 784 = .ok (.iconst 2, 1) := by decide +kernel
theorem dL_law_785 : decode cL_law 785 = .ok (.iadd, 1) := by decide +kernel
theorem dL_law_786 : decode cL_law 786 = .ok (.iaload, 1) := by decide +kernel
theorem dL_law_787 : decode cL_law 787 = .ok (.invokevirtual 103, 3) := by decide +kernel
theorem dL_law_790 : decode cL_law 790 = .ok (.if_icmp .eq 166, 3) := by decide +kernel
theorem dL_law_793 : decode cL_law 793 = .ok (.iconst 0, 1) := by decide +kernel
theorem dL_law_794 : decode cL_law 794 = .ok (.ireturn, 1) := by decide +kernel
theorem dL_law_795 : decode cL_law 795 = .ok (.aload_n 1, 1) := by decide +kernel
theorem dL_law_796 : decode cL_law 796 = .ok (.aload_n 0, 1) := by decide +kernel
theorem dL_law_797 : decode cL_law 797 = .ok (.iload_n 3, 1) := by decide +kernel
theorem dL_law_798 : decode cL_law 798 = .ok (.iconst 1, 1) := by decide +kernel
theorem dL_law_799 : decode cL_law 799 = .ok (.iadd, 1) := by decide +kernel
theorem dL_law_800 : decode cL_law 800 = .ok (.iaload, 1) := by decide +kernel
theorem dL_law_801 : decode cL_law 801 = .ok (.aload_n 0, 1) := by decide +kernel
theorem dL_law_802 : decode cL_law 802 = .ok (.iload_n 3, 1) := by decide +kernel
theorem dL_law_803 : decode cL_law 803 = .ok (.iconst 2, 1) := by decide +kernel
theorem dL_law_804 : decode cL_law 804 = .ok (.iadd, 1) := by decide +kernel
theorem dL_law_805 : decode cL_law 805 = .ok (.iaload, 1) := by decide +kernel
theorem dL_law_806 : decode cL_law 806 = .ok (.aload_n 0, 1) := by decide +kernel
theorem dL_law_807 : decode cL_law 807 = .ok (.iload_n 3, 1) := by decide +kernel
theorem dL_law_808 : decode cL_law 808 = .ok (.iconst 3, 1) := by decide +kernel
theorem dL_law_809 : decode cL_law 809 = .ok (.iadd, 1) := by decide +kernel
theorem dL_law_810 : decode cL_law 810 = .ok (.iaload, 1) := by decide +kernel
theorem dL_law_811 : decode cL_law 811 = .ok (.aload_n 0, 1) := by decide +kernel
theorem dL_law_812 : decode cL_law 812 = .ok (.iload_n 3, 1) := by decide +kernel
theorem dL_law_813 : decode cL_law 813 = .ok (.iconst 4, 1) := by decide +kernel
theorem dL_law_814 : decode cL_law 814 = .ok (.iadd, 1) := by decide +kernel
theorem dL_law_815 : decode cL_law 815 = .ok (.iaload, 1) := by decide +kernel
theorem dL_law_816 : decode cL_law 816 = .ok (.aload_n 0, 1) := by decide +kernel
theorem dL_law_817 : decode cL_law 817 = .ok (.iload_n 3, 1) := by decide +kernel
theorem dL_law_818 : decode cL_law 818 = .ok (.iconst 5, 1) := by decide +kernel
theorem dL_law_819 : decode cL_law 819 = .ok (.iadd, 1) := by decide +kernel
theorem dL_law_820 : decode cL_law 820 = .ok (.iaload, 1) := by decide +kernel
theorem dL_law_821 : decode cL_law 821 = .ok (.invokevirtual 104, 3) := by decide +kernel
theorem dL_law_824 : decode cL_law 824 = .ok (.aload_n 2, 1) := by decide +kernel
theorem dL_law_825 : decode cL_law 825 = .ok (.aload_n 0, 1) := by decide +kernel
theorem dL_law_826 : decode cL_law 826 = .ok (.iload_n 3, 1) := by decide +kernel
theorem dL_law_827 : decode cL_law 827 = .ok (.iconst 1, 1) := by decide +kernel
theorem dL_law_828 : decode cL_law 828 = .ok (.iadd, 1) := by decide +kernel
theorem dL_law_829 : decode cL_law 829 = .ok (.iaload, 1) := by decide +kernel
theorem dL_law_830 : decode cL_law 830 = .ok (.aload_n 0, 1) := by decide +kernel
theorem dL_law_831 : decode cL_law 831 = .ok (.iload_n 3, 1) := by decide +kernel
theorem dL_law_832 : decode cL_law 832 = .ok (.iconst 2, 1) := by decide +kernel
theorem dL_law_833 : decode cL_law 833 = .ok (.iadd, 1) := by decide +kernel
theorem dL_law_834 : decode cL_law 834 = .ok (.iaload, 1) := by decide +kernel
theorem dL_law_835 : decode cL_law 835 = .ok (.aload_n 0, 1) := by decide +kernel
theorem dL_law_836 : decode cL_law 836 = .ok (.iload_n 3, 1) := by decide +kernel
theorem dL_law_837 : decode cL_law 837 = .ok (.iconst 3, 1) := by decide +kernel
theorem dL_law_838 : decode cL_law 838 = .ok (.iadd, 1) := by decide +kernel
theorem dL_law_839 : decode cL_law 839 = .ok (.iaload, 1) := by decide +kernel
theorem dL_law_840 : decode cL_law 840 = .ok (.aload_n 0, 1) := by decide +kernel
theorem dL_law_841 : decode cL_law 841 = .ok (.iload_n 3, 1) := by decide +kernel
theorem dL_law_842 : decode cL_law 842 = .ok (.iconst 4, 1) := by decide +kernel
theorem dL_law_843 : decode cL_law 843 = .ok (.iadd, 1) := by decide +kernel
theorem dL_law_844 : decode cL_law 844 = .ok (.iaload, 1) := by decide +kernel
theorem dL_law_845 : decode cL_law 845 = .ok (.aload_n 0, 1) := by decide +kernel
theorem dL_law_846 : decode cL_law 846 = .ok (.iload_n 3, 1) := by decide +kernel
theorem dL_law_847 : decode cL_law 847 = .ok (.iconst 5, 1) := by decide +kernel
theorem dL_law_848 : decode cL_law 848 = .ok (.iadd, 1) := by decide +kernel
theorem dL_law_849 : decode cL_law 849 = .ok (.iaload, 1) := by decide +kernel
theorem dL_law_850 : decode cL_law 850 = .ok (.invokevirtual 107, 3) := by decide +kernel
theorem dL_law_853 : decode cL_law 853 = .ok (.if_icmp .eq 103, 3) := by decide +kernel
theorem dL_law_856 : decode cL_law 856 = .ok (.iconst 0, 1) := by decide +kernel
theorem dL_law_857 : decode cL_law 857 = .ok (.ireturn, 1) := by decide +kernel
theorem dL_law_858 : decode cL_law 858 = .ok (.aload_n 1, 1) := by decide +kernel
theorem dL_law_859 : decode cL_law 859 = .ok (.aload_n 0, 1) := by decide +kernel
theorem dL_law_860 : decode cL_law 860 = .ok (.iload_n 3, 1) := by decide +kernel
theorem dL_law_861 : decode cL_law 861 = .ok (.iconst 1, 1) := by decide +kernel
theorem dL_law_862 : decode cL_law 862 = .ok (.iadd, 1) := by decide +kernel
theorem dL_law_863 : decode cL_law 863 = .ok (.iaload, 1) := by decide +kernel
theorem dL_law_864 : decode cL_law 864 = .ok (.invokevirtual 108, 3) := by decide +kernel
theorem dL_law_867 : decode cL_law 867 = .ok (.aload_n 2, 1) := by decide +kernel
theorem dL_law_868 : decode cL_law 868 = .ok (.aload_n 0, 1) := by decide +kernel
theorem dL_law_869 : decode cL_law 869 = .ok (.iload_n 3, 1) := by decide +kernel
theorem dL_law_870 : decode cL_law 870 = .ok (.iconst 1, 1) := by decide +kernel
theorem dL_law_871 : decode cL_law 871 = .ok (.iadd, 1) := by decide +kernel
theorem dL_law_872 : decode cL_law 872 = .ok (.iaload, 1) := by decide +kernel
theorem dL_law_873 : decode cL_law 873 = .ok (.invokevirtual 111, 3) := by decide +kernel
theorem dL_law_876 : decode cL_law 876 = .ok (.if_icmp .eq 80, 3) := by decide +kernel
theorem dL_law_879 : decode cL_law 879 = .ok (.iconst 0, 1) := by decide +kernel
theorem dL_law_880 : decode cL_law 880 = .ok (.ireturn, 1) := by decide +kernel
theorem dL_law_881 : decode cL_law 881 = .ok (.aload_n 1, 1) := by decide +kernel
theorem dL_law_882 : decode cL_law 882 = .ok (.invokevirtual 112, 3) := by decide +kernel
theorem dL_law_885 : decode cL_law 885 = .ok (.aload_n 2, 1) := by decide +kernel
theorem dL_law_886 : decode cL_law 886 = .ok (.invokevirtual 116, 3) := by decide +kernel
theorem dL_law_889 : decode cL_law 889 = .ok (.if_icmp .eq 67, 3) := by decide +kernel
theorem dL_law_892 : decode cL_law 892 = .ok (.iconst 0, 1) := by decide +kernel
theorem dL_law_893 : decode cL_law 893 = .ok (.ireturn, 1) := by decide +kernel
theorem dL_law_894 : decode cL_law 894 = .ok (.aload_n 1, 1) := by decide +kernel
theorem dL_law_895 : decode cL_law 895 = .ok (.aload_n 0, 1) := by decide +kernel
theorem dL_law_896 : decode cL_law 896 = .ok (.iload_n 3, 1) := by decide +kernel
theorem dL_law_897 : decode cL_law 897 = .ok (.iconst 1, 1) := by decide +kernel
theorem dL_law_898 : decode cL_law 898 = .ok (.iadd, 1) := by decide +kernel
theorem dL_law_899 : decode cL_law 899 = .ok (.iaload, 1) := by decide +kernel
theorem dL_law_900 : decode cL_law 900 = .ok (.ifCond .eq 7, 3) := by decide +kernel
theorem dL_law_903 : decode cL_law 903 = .ok (.iconst 1, 1) := by decide +kernel
theorem dL_law_904 : decode cL_law 904 = .ok (.goto 4, 3) := by decide +kernel
theorem dL_law_907 : decode cL_law 907 = .ok (.iconst 0, 1) := by decide +kernel
theorem dL_law_908 : decode cL_law 908 = .ok (.invokevirtual 117, 3) := by decide +kernel
theorem dL_law_911 : decode cL_law 911 = .ok (.aload_n 2, 1) := by decide +kernel
theorem dL_law_912 : decode cL_law 912 = .ok (.aload_n 0, 1) := by decide +kernel
theorem dL_law_913 : decode cL_law 913 = .ok (.iload_n 3, 1) := by decide +kernel
theorem dL_law_914 : decode cL_law 914 = .ok (.iconst 1, 1) := by decide +kernel
theorem dL_law_915 : decode cL_law 915 = .ok (.iadd, 1) := by decide +kernel
theorem dL_law_916 : decode cL_law 916 = .ok (.iaload, 1) := by decide +kernel
theorem dL_law_917 : decode cL_law 917 = .ok (.ifCond .eq 7, 3) := by decide +kernel
theorem dL_law_920 : decode cL_law 920 = .ok (.iconst 1, 1) := by decide +kernel
theorem dL_law_921 : decode cL_law 921 = .ok (.goto 4, 3) := by decide +kernel
theorem dL_law_924 : decode cL_law 924 = .ok (.iconst 0, 1) := by decide +kernel
theorem dL_law_925 : decode cL_law 925 = .ok (.invokevirtual 121, 3) := by decide +kernel
theorem dL_law_928 : decode cL_law 928 = .ok (.if_icmp .eq 28, 3) := by decide +kernel
theorem dL_law_931 : decode cL_law 931 = .ok (.iconst 0, 1) := by decide +kernel
theorem dL_law_932 : decode cL_law 932 = .ok (.ireturn, 1) := by decide +kernel
theorem dL_law_933 : decode cL_law 933 = .ok (.aload_n 1, 1) := by decide +kernel
theorem dL_law_934 : decode cL_law 934 = .ok (.aload_n 0, 1) := by decide +kernel
theorem dL_law_935 : decode cL_law 935 = .ok (.iload_n 3, 1) := by decide +kernel
theorem dL_law_936 : decode cL_law 936 = .ok (.iconst 1, 1) := by decide +kernel
theorem dL_law_937 : decode cL_law 937 = .ok (.iadd, 1) := by decide +kernel
theorem dL_law_938 : decode cL_law 938 = .ok (.iaload, 1) := by decide +kernel
theorem dL_law_939 : decode cL_law 939 = .ok (.invokevirtual 122, 3) := by decide +kernel
theorem dL_law_942 : decode cL_law 942 = .ok (.aload_n 2, 1) := by decide +kernel
theorem dL_law_943 : decode cL_law 943 = .ok (.aload_n 0, 1) := by decide +kernel
theorem dL_law_944 : decode cL_law 944 = .ok (.iload_n 3, 1) := by decide +kernel
theorem dL_law_945 : decode cL_law 945 = .ok (.iconst 1, 1) := by decide +kernel
theorem dL_law_946 : decode cL_law 946 = .ok (.iadd, 1) := by decide +kernel
theorem dL_law_947 : decode cL_law 947 = .ok (.iaload, 1) := by decide +kernel
theorem dL_law_948 : decode cL_law 948 = .ok (.invokevirtual 125, 3) := by decide +kernel
theorem dL_law_951 : decode cL_law 951 = .ok (.if_icmp .eq 5, 3) := by decide +kernel
theorem dL_law_954 : decode cL_law 954 = .ok (.iconst 0, 1) := by decide +kernel
theorem dL_law_955 : decode cL_law 955 = .ok (.ireturn, 1) := by decide +kernel
theorem dL_law_956 : decode cL_law 956 = .ok (.iinc 3 6, 3) := by decide +kernel
theorem dL_law_959 : decode cL_law 959 = .ok (.goto (-941), 3) := by decide +kernel
theorem dL_law_962 : decode cL_law 962 = .ok (.iconst 1, 1) := by decide +kernel
theorem dL_law_963 : decode cL_law 963 = .ok (.ireturn, 1) := by decide +kernel
end
section
theorem dX10_init_0 : decode cX10_init 0 = .ok (.aload_n 0, 1) := by decide +kernel
theorem dX10_init_1 : decode cX10_init 1 = .ok (.invokespecial 1, 3) := by decide +kernel
theorem dX10_init_4 : decode cX10_init 4 = .ok (.aload_n 0, 1) := by decide +kernel
theorem dX10_init_5 : decode cX10_init 5 = .ok (.bipush 13, 2) := by decide +kernel
theorem dX10_init_7 : decode cX10_init 7 = .ok (.newarray .int, 2) := by decide +kernel
theorem dX10_init_9 : decode cX10_init 9 = .ok (.putfield 7, 3) := by decide +kernel
theorem dX10_init_12 : decode cX10_init 12 = .ok (.aload_n 0, 1) := by decide +kernel
theorem dX10_init_13 : decode cX10_init 13 = .ok (.bipush 104, 2) := by decide +kernel
theorem dX10_init_15 : decode cX10_init 15 = .ok (.newarray .int, 2) := by decide +kernel
theorem dX10_init_17 : decode cX10_init 17 = .ok (.putfield 13, 3) := by decide +kernel
theorem dX10_init_20 : decode cX10_init 20 = .ok (.aload_n 0, 1) := by decide +kernel
theorem dX10_init_21 : decode cX10_init 21 = .ok (.bipush 10, 2) := by decide +kernel
theorem dX10_init_23 : decode cX10_init 23 = .ok (.newarray .int, 2) := by decide +kernel
theorem dX10_init_25 : decode cX10_init 25 = .ok (.putfield 16, 3) := by decide +kernel
theorem dX10_init_28 : decode cX10_init 28 = .ok (.aload_n 0, 1) := by decide +kernel
theorem dX10_init_29 : decode cX10_init 29 = .ok (.sipush 500, 3) := by decide +kernel
theorem dX10_init_32 : decode cX10_init 32 = .ok (.newarray .int, 2) := by decide +kernel
theorem dX10_init_34 : decode cX10_init 34 = .ok (.putfield 19, 3) := by decide +kernel
theorem dX10_init_37 : decode cX10_init 37 = .ok (.aload_n 0, 1) := by decide +kernel
theorem dX10_init_38 : decode cX10_init 38 = .ok (.sipush 400, 3) := by decide +kernel
theorem dX10_init_41 : decode cX10_init 41 = .ok (.newarray .int, 2) := by decide +kernel
theorem dX10_init_43 : decode cX10_init 43 = .ok (.putfield 22, 3) := by decide +kernel
theorem dX10_init_46 : decode cX10_init 46 = .ok (.aload_n 0, 1) := by decide +kernel
theorem dX10_init_47 : decode cX10_init 47 = .ok (.bipush 71, 2) := by decide +kernel
theorem dX10_init_49 : decode cX10_init 49 = .ok (.newarray .int, 2) := by decide +kernel
theorem dX10_init_51 : decode cX10_init 51 = .ok (.dup, 1) := by decide +kernel
theorem dX10_init_52 : decode cX10_init 52 = .ok (.iconst 0, 1) := by decide +kernel
theorem dX10_init_53 : decode cX10_init 53 = .ok (.bipush 32, 2) := by decide +kernel
theorem dX10_init_55 : decode cX10_init 55 = .ok (.iastore, 1) := by decide +kernel
theorem dX10_init_56 : decode cX10_init 56 = .ok (.dup, 1) := by decide +kernel
theorem dX10_init_57 : decode cX10_init 57 = .ok (.iconst 1, 1) := by decide +kernel
theorem dX10_init_58 : decode cX10_init 58 = .ok (.bipush 104, 2) := by decide +kernel
theorem dX10_init_60 : decode cX10_init 60 = .ok (.iastore, 1) := by decide +kernel
theorem dX10_init_61 : decode cX10_init 61 = .ok (.dup, 1) := by decide +kernel
theorem dX10_init_62 : decode cX10_init 62 = .ok (.iconst 2, 1) := by decide +kernel
theorem dX10_init_63 : decode cX10_init 63 = .ok (.bipush 101, 2) := by decide +kernel
theorem dX10_init_65 : decode cX10_init 65 = .ok (.iastore, 1) := by decide +kernel
theorem dX10_init_66 : decode cX10_init 66 = .ok (.dup, 1) := by decide +kernel
theorem dX10_init_67 : decode cX10_init 67 = .ok (.iconst 3, 1) := by decide +kernel
theorem dX10_init_68 : decode cX10_init 68 = .ok (.bipush 97, 2) := by decide +kernel
theorem dX10_init_70 : decode cX10_init 70 = .ok (.iastore, 1) := by decide +kernel
theorem dX10_init_71 : decode cX10_init 71 = .ok (.dup, 1) := by decide +kernel
theorem dX10_init_72 : decode cX10_init 72 = .ok (.iconst 4, 1) := by decide +kernel
theorem dX10_init_73 : decode cX10_init 73 = .ok (.bipush 114, 2) := by decide +kernel
theorem dX10_init_75 : decode cX10_init 75 = .ok (.iastore, 1) := by decide +kernel
theorem dX10_init_76 : decode cX10_init 76 = .ok (.dup, 1) := by decide +kernel
theorem dX10_init_77 : decode cX10_init 77 = .ok (.iconst 5, 1) := by decide +kernel
theorem dX10_init_78 : decode cX10_init 78 = .ok (.bipush 32, 2) := by decide +kernel
theorem dX10_init_80 : decode cX10_init 80 = .ok (.iastore, 1) := by decide +kernel
theorem dX10_init_81 : decode cX10_init 81 = .ok (.dup, 1) := by decide +kernel
theorem dX10_init_82 : decode cX10_init 82 = .ok (.bipush 6, 2) := by decide +kernel
theorem dX10_init_84 : decode cX10_init 84 = .ok (.bipush 109, 2) := by decide +kernel
theorem dX10_init_86 : decode cX10_init 86 = .ok (.iastore, 1) := by decide +kernel
theorem dX10_init_87 : decode cX10_init 87 = .ok (.dup, 1) := by decide +kernel
theorem dX10_init_88 : decode cX10_init 88 = .ok (.bipush 7, 2) := by decide +kernel
theorem dX10_init_90 : decode cX10_init 90 = .ok (.bipush 105, 2) := by decide +kernel
theorem dX10_init_92 : decode cX10_init 92 = .ok (.iastore, 1) := by decide +kernel
theorem dX10_init_93 : decode cX10_init 93 = .ok (.dup, 1) := by decide +kernel
theorem dX10_init_94 : decode cX10_init 94 = .ok (.bipush 8, 2) := by decide +kernel
theorem dX10_init_96 : decode cX10_init 96 = .ok (.bipush 115, 2) := by decide +kernel
theorem dX10_init_98 : decode cX10_init 98 = .ok (.iastore, 1) := by decide +kernel
theorem dX10_init_99 : decode cX10_init 99 = .ok (.dup, 1) := by decide +kernel
theorem dX10_init_100 : decode cX10_init 100 = .ok (.bipush 9, 2) := by decide +kernel
theorem dX10_init_102 : decode cX10_init 102 = .ok (.bipush 115, 2) := by decide +kernel
theorem dX10_init_104 : decode cX10_init 104 = .ok (.iastore, 1) := by decide +kernel
theorem dX10_init_105 : decode cX10_init 105 = .ok (.dup, 1) := by decide +kernel
theorem dX10_init_106 : decode cX10_init 106 = .ok (.bipush 10, 2) := by decide +kernel
theorem dX10_init_108 : decode cX10_init 108 = .ok (.bipush 32, 2) := by decide +kernel
theorem dX10_init_110 : decode cX10_init 110 = .ok (.iastore, 1) := by decide +kernel
theorem dX10_init_111 : decode cX10_init 111 = .ok (.dup, 1) := by decide +kernel
theorem dX10_init_112 : decode cX10_init 112 = .ok (.bipush 11, 2) := by decide +kernel
theorem dX10_init_114 : decode cX10_init 114 = .ok (.bipush 119, 2) := by decide +kernel
theorem dX10_init_116 : decode cX10_init 116 = .ok (.iastore, 1) := by decide +kernel
theorem dX10_init_117 : decode cX10_init 117 = .ok (.dup, 1) := by decide +kernel
theorem dX10_init_118 : decode cX10_init 118 = .ok (.bipush 12, 2) := by decide +kernel
theorem dX10_init_120 : decode cX10_init 120 = .ok (.bipush 104, 2) := by decide +kernel
theorem dX10_init_122 : decode cX10_init 122 = .ok (.iastore, 1) := by decide +kernel
theorem dX10_init_123 : decode cX10_init 123 = .ok (.dup, 1) := by decide +kernel
theorem dX10_init_124 : decode cX10_init 124 = .ok (.bipush 13, 2) := by decide +kernel
theorem dX10_init_126 : decode cX10_init 126 = .ok (.bipush 101, 2) := by decide +kernel
theorem dX10_init_128 : decode cX10_init 128 = .ok (.iastore, 1) := by decide +kernel
theorem dX10_init_129 : decode cX10_init 129 = .ok (.dup, 1) := by decide +kernel
theorem dX10_init_130 : decode cX10_init 130 = .ok (.bipush 14, 2) := by decide +kernel
theorem dX10_init_132 : decode cX10_init 132 = .ok (.bipush 110, 2) := by decide +kernel
theorem dX10_init_134 : decode cX10_init 134 = .ok (.iastore, 1) := by decide +kernel
theorem dX10_init_135 : decode cX10_init 135 = .ok (.dup, 1) := by decide +kernel
theorem dX10_init_136 : decode cX10_init 136 = .ok (.bipush 15, 2) := by decide +kernel
theorem dX10_init_138 : decode cX10_init 138 = .ok (.bipush 32, 2) := by decide +kernel
theorem dX10_init_140 : decode cX10_init 140 = .ok (.iastore, 1) := by decide +kernel
theorem dX10_init_141 : decode cX10_init 141 = .ok (.dup, 1) := by decide +kernel
theorem dX10_init_142 : decode cX10_init 142 = .ok (.bipush 16, 2) := by decide +kernel
theorem dX10_init_144 : decode cX10_init 144 = .ok (.bipush 111, 2) := by decide +kernel
theorem dX10_init_146 : decode cX10_init 146 = .ok (.iastore, 1) := by decide +kernel
theorem dX10_init_147 : decode cX10_init 147 = .ok (.dup, 1) := by decide +kernel
theorem dX10_init_148 : decode cX10_init 148 = .ok (.bipush 17, 2) := by decide +kernel
theorem dX10_init_150 : decode cX10_init 150 = .ok (.bipush 114, 2) := by decide +kernel
theorem dX10_init_152 : decode cX10_init 152 = .ok (.iastore, 1) := by decide +kernel
theorem dX10_init_153 : decode cX10_init 153 = .ok (.dup, 1) := by decide +kernel
theorem dX10_init_154 : decode cX10_init 154 = .ok (.bipush 18, 2) := by decide +kernel
theorem dX10_init_156 : decode cX10_init 156 = .ok (.bipush 32, 2) := by decide +kernel
theorem dX10_init_158 : decode cX10_init 158 = .ok (.iastore, 1) := by decide +kernel
theorem dX10_init_159 : decode cX10_init 159 = .ok (.dup, 1) := by decide +kernel
theorem dX10_init_160 : decode cX10_init 160 = .ok (.bipush 19, 2) := by decide +kernel
theorem dX10_init_162 : decode cX10_init 162 = .ok (.bipush 97, 2) := by decide +kernel
theorem dX10_init_164 : decode cX10_init 164 = .ok (.iastore, 1) := by decide +kernel
theorem dX10_init_165 : decode cX10_init 165 = .ok (.dup, 1) := by decide +kernel
theorem dX10_init_166 : decode cX10_init 166 = .ok (.bipush 20, 2) := by decide +kernel
theorem dX10_init_168 : decode cX10_init 168 = .ok (.bipush 110, 2) := by decide +kernel
theorem dX10_init_170 : decode cX10_init 170 = .ok (.iastore, 1) := by decide +kernel
theorem dX10_init_171 : decode cX10_init 171 = .ok (.dup, 1) := by decide +kernel
theorem dX10_init_172 : decode cX10_init 172 = .ok (.bipush 21, 2) := by decide +kernel
theorem dX10_init_174 : decode cX10_init 174 = .ok (.bipush 100, 2) := by decide +kernel
theorem dX10_init_176 : decode cX10_init 176 = .ok (.iastore, 1) := by decide +kernel
theorem dX10_init_177 : decode cX10_init 177 = .ok (.dup, 1) := by decide +kernel
theorem dX10_init_178 : decode cX10_init 178 = .ok (.bipush 22, 2) := by decide +kernel
theorem dX10_init_180 : decode cX10_init 180 = .ok (.bipush 32, 2) := by decide +kernel
theorem dX10_init_182 : decode cX10_init 182 = .ok (.iastore, 1) := by decide +kernel
theorem dX10_init_183 : decode cX10_init 183 = .ok (.dup, 1) := by decide +kernel
theorem dX10_init_184 : decode cX10_init 184 = .ok (.bipush 23, 2) := by decide +kernel
theorem dX10_init_186 : decode cX10_init 186 = .ok (.bipush 110, 2) := by decide +kernel
theorem dX10_init_188 : decode cX10_init 188 = .ok (.iastore, 1) := by decide +kernel
theorem dX10_init_189 : decode cX10_init 189 = .ok (.dup, 1) := by decide +kernel
theorem dX10_init_190 : decode cX10_init 190 = .ok (.bipush 24, 2) := by decide +kernel
theorem dX10_init_192 : decode cX10_init 192 = .ok (.bipush 111, 2) := by decide +kernel
theorem dX10_init_194 : decode cX10_init 194 = .ok (.iastore, 1) := by decide +kernel
theorem dX10_init_195 : decode cX10_init 195 = .ok (.dup, 1) := by decide +kernel
theorem dX10_init_196 : decode cX10_init 196 = .ok (.bipush 25, 2) := by decide +kernel
theorem dX10_init_198 : decode cX10_init 198 = .ok (.bipush 116, 2) := by decide +kernel
theorem dX10_init_200 : decode cX10_init 200 = .ok (.iastore, 1) := by decide +kernel
theorem dX10_init_201 : decode cX10_init 201 = .ok (.dup, 1) := by decide +kernel
theorem dX10_init_202 : decode cX10_init 202 = .ok (.bipush 26, 2) := by decide +kernel
theorem dX10_init_204 : decode cX10_init 204 = .ok (.bipush 32, 2) := by decide +kernel
theorem dX10_init_206 : decode cX10_init 206 = .ok (.iastore, 1) := by decide +kernel
theorem dX10_init_207 : decode cX10_init 207 = .ok (.dup, 1) := by decide +kernel
theorem dX10_init_208 : decode cX10_init 208 = .ok (.bipush 27, 2) := by decide +kernel
theorem dX10_init_210 : decode cX10_init 210 = .ok (.bipush 108, 2) := by decide +kernel
theorem dX10_init_212 : decode cX10_init 212 = .ok (.iastore, 1) := by decide +kernel
theorem dX10_init_213 : decode cX10_init 213 = .ok (.dup, 1) := by decide +kernel
theorem dX10_init_214 : decode cX10_init 214 = .ok (.bipush 28, 2) := by decide +kernel
theorem dX10_init_216 : decode cX10_init 216 = .ok (.bipush 111, 2) := by decide +kernel
theorem dX10_init_218 : decode cX10_init 218 = .ok (.iastore, 1) := by decide +kernel
theorem dX10_init_219 : decode cX10_init 219 = .ok (.dup, 1) := by decide +kernel
theorem dX10_init_220 : decode cX10_init 220 = .ok (.bipush 29, 2) := by decide +kernel
theorem dX10_init_222 : decode cX10_init 222 = .ok (.bipush 119, 2) := by decide +kernel
theorem dX10_init_224 : decode cX10_init 224 = .ok (.iastore, 1) := by decide +kernel
theorem dX10_init_225 : decode cX10_init 225 = .ok (.dup, 1) := by decide +kernel
theorem dX10_init_226 : decode cX10_init 226 = .ok (.bipush 30, 2) := by decide +kernel
theorem dX10_init_228 : decode cX10_init 228 = .ok (.bipush 32, 2) := by decide +kernel
theorem dX10_init_230 : decode cX10_init 230 = .ok (.iastore, 1) := by decide +kernel
theorem dX10_init_231 : decode cX10_init 231 = .ok (.dup, 1) := by decide +kernel
theorem dX10_init_232 : decode cX10_init 232 = .ok (.bipush 31, 2) := by decide +kernel
theorem dX10_init_234 : decode cX10_init 234 = .ok (.bipush 104, 2) := by decide +kernel
theorem dX10_init_236 : decode cX10_init 236 = .ok (.iastore, 1) := by decide +kernel
theorem dX10_init_237 : decode cX10_init 237 = .ok (.dup, 1) := by decide +kernel
theorem dX10_init_238 : decode cX10_init 238 = .ok (.bipush 32, 2) := by decide +kernel
theorem dX10_init_240 : decode cX10_init 240 = .ok (.bipush 105, 2) := by decide +kernel
theorem dX10_init_242 : decode cX10_init 242 = .ok (.iastore, 1) := by decide +kernel
theorem dX10_init_243 : decode cX10_init 243 = .ok (.dup, 1) := by decide +kernel
theorem dX10_init_244 : decode cX10_init 244 = .ok (.bipush 33, 2) := by decide +kernel
theorem dX10_init_246 : decode cX10_init 246 = .ok (.bipush 103, 2) := by decide +kernel
theorem dX10_init_248 : decode cX10_init 248 = .ok (.iastore, 1) := by decide +kernel
theorem dX10_init_249 : decode cX10_init 249 = .ok (.dup, 1) := by decide +kernel
theorem dX10_init_250 : decode cX10_init 250 = .ok (.bipush 34, 2) := by decide +kernel
theorem dX10_init_252 : decode cX10_init 252 = .ok (.bipush 104, 2) := by decide +kernel
theorem dX10_init_254 : decode cX10_init 254 = .ok (.iastore, 1) := by decide +kernel
theorem dX10_init_255 : decode cX10_init 255 = .ok (.dup, 1) := by decide +kernel
theorem dX10_init_256 : decode cX10_init 256 = .ok (.bipush 35, 2) := by decide +kernel
theorem dX10_init_258 : decode cX10_init 258 = .ok (.bipush 32, 2) := by decide +kernel
theorem dX10_init_260 : decode cX10_init 260 = .ok (.iastore, 1) := by decide +kernel
theorem dX10_init_261 : decode cX10_init 261 = .ok (.dup, 1) := by decide +kernel
theorem dX10_init_262 : decode cX10_init 262 = .ok (.bipush 36, 2) := by decide +kernel
theorem dX10_init_264 : decode cX10_init 264 = .ok (.bipush 97, 2) := by decide +kernel
theorem dX10_init_266 : decode cX10_init 266 = .ok (.iastore, 1) := by decide +kernel
theorem dX10_init_267 : decode cX10_init 267 = .ok (.dup, 1) := by decide +kernel
theorem dX10_init_268 : decode cX10_init 268 = .ok (.bipush 37, 2) := by decide +kernel
theorem dX10_init_270 : decode cX10_init 270 = .ok (.bipush 112, 2) := by decide +kernel
theorem dX10_init_272 : decode cX10_init 272 = .ok (.iastore, 1) := by decide +kernel
theorem dX10_init_273 : decode cX10_init 273 = .ok (.dup, 1) := by decide +kernel
theorem dX10_init_274 : decode cX10_init 274 = .ok (.bipush 38, 2) := by decide +kernel
theorem dX10_init_276 : decode cX10_init 276 = .ok (.bipush 97, 2) := by decide +kernel
theorem dX10_init_278 : decode cX10_init 278 = .ok (.iastore, 1) := by decide +kernel
theorem dX10_init_279 : decode cX10_init 279 = .ok (.dup, 1) := by decide +kernel
theorem dX10_init_280 : decode cX10_init 280 = .ok (.bipush 39, 2) := by decide +kernel
theorem dX10_init_282 : decode cX10_init 282 = .ok (.bipush 114, 2) := by decide +kernel
theorem dX10_init_284 : decode cX10_init 284 = .ok (.iastore, 1) := by decide +kernel
theorem dX10_init_285 : decode cX10_init 285 = .ok (.dup, 1) := by decide +kernel
theorem dX10_init_286 : decode cX10_init 286 = .ok (.bipush 40, 2) := by decide +kernel
theorem dX10_init_288 : decode cX10_init 288 = .ok (.bipush 116, 2) := by decide +kernel
theorem dX10_init_290 : decode cX10_init 290 = .ok (.iastore, 1) := by decide +kernel
theorem dX10_init_291 : decode cX10_init 291 = .ok (.dup, 1) := by decide +kernel
theorem dX10_init_292 : decode cX10_init 292 = .ok (.bipush 41, 2) := by decide +kernel
theorem dX10_init_294 : decode cX10_init 294 = .ok (.bipush 32, 2) := by decide +kernel
theorem dX10_init_296 : decode cX10_init 296 = .ok (.iastore, 1) := by decide +kernel
theorem dX10_init_297 : decode cX10_init 297 = .ok (.dup, 1) := by decide +kernel
theorem dX10_init_298 : decode cX10_init 298 = .ok (.bipush 42, 2) := by decide +kernel
theorem dX10_init_300 : decode cX10_init 300 = .ok (.bipush 104, 2) := by decide +kernel
theorem dX10_init_302 : decode cX10_init 302 = .ok (.iastore, 1) := by decide +kernel
theorem dX10_init_303 : decode cX10_init 303 = .ok (.dup, 1) := by decide +kernel
theorem dX10_init_304 : decode cX10_init 304 = .ok (.bipush 43, 2) := by decide +kernel
theorem dX10_init_306 : decode cX10_init 306 = .ok (.bipush 117, 2) := by decide +kernel
theorem dX10_init_308 : decode cX10_init 308 = .ok (.iastore, 1) := by decide +kernel
theorem dX10_init_309 : decode cX10_init 309 = .ok (.dup, 1) := by decide +kernel
theorem dX10_init_310 : decode cX10_init 310 = .ok (.bipush 44, 2) := by decide +kernel
theorem dX10_init_312 : decode cX10_init 312 = .ok (.bipush 109, 2) := by decide +kernel
theorem dX10_init_314 : decode cX10_init 314 = .ok (.iastore, 1) := by decide +kernel
theorem dX10_init_315 : decode cX10_init 315 = .ok (.dup, 1) := by decide +kernel
theorem dX10_init_316 : decode cX10_init 316 = .ok (.bipush 45, 2) := by decide +kernel
theorem dX10_init_318 : decode cX10_init 318 = .ok (.bipush 32, 2) := by decide +kernel
theorem dX10_init_320 : decode cX10_init 320 = .ok (.iastore, 1) := by decide +kernel
theorem dX10_init_321 : decode cX10_init 321 = .ok (.dup, 1) := by decide +kernel
theorem dX10_init_322 : decode cX10_init 322 = .ok (.bipush 46, 2) := by decide +kernel
theorem dX10_init_324 : decode cX10_init 324 = .ok (.bipush 110, 2) := by decide +kernel
theorem dX10_init_326 : decode cX10_init 326 = .ok (.iastore, 1) := by decide +kernel
theorem dX10_init_327 : decode cX10_init 327 = .ok (.dup, 1) := by decide +kernel
theorem dX10_init_328 : decode cX10_init 328 = .ok (.bipush 47, 2) := by decide +kernel
theorem dX10_init_330 : decode cX10_init 330 = .ok (.bipush 101, 2) := by decide +kernel
theorem dX10_init_332 : decode cX10_init 332 = .ok (.iastore, 1) := by decide +kernel
theorem dX10_init_333 : decode cX10_init 333 = .ok (.dup, 1) := by decide +kernel
theorem dX10_init_334 : decode cX10_init 334 = .ok (.bipush 48, 2) := by decide +kernel
theorem dX10_init_336 : decode cX10_init 336 = .ok (.bipush 97, 2) := by decide +kernel
theorem dX10_init_338 : decode cX10_init 338 = .ok (.iastore, 1) := by decide +kernel
theorem dX10_init_339 : decode cX10_init 339 = .ok (.dup, 1) := by decide +kernel
theorem dX10_init_340 : decode cX10_init 340 = .ok (.bipush 49, 2) := by decide +kernel
theorem dX10_init_342 : decode cX10_init 342 = .ok (.bipush 114, 2) := by decide +kernel
theorem dX10_init_344 : decode cX10_init 344 = .ok (.iastore, 1) := by decide +kernel
theorem dX10_init_345 : decode cX10_init 345 = .ok (.dup, 1) := by decide +kernel
theorem dX10_init_346 : decode cX10_init 346 = .ok (.bipush 50, 2) := by decide +kernel
theorem dX10_init_348 : decode cX10_init 348 = .ok (.bipush 32, 2) := by decide +kernel
theorem dX10_init_350 : decode cX10_init 350 = .ok (.iastore, 1) := by decide +kernel
theorem dX10_init_351 : decode cX10_init 351 = .ok (.dup, 1) := by decide +kernel
theorem dX10_init_352 : decode cX10_init 352 = .ok (.bipush 51, 2) := by decide +kernel
theorem dX10_init_354 : decode cX10_init 354 = .ok (.bipush 108, 2) := by decide +kernel
theorem dX10_init_356 : decode cX10_init 356 = .ok (.iastore, 1) := by decide +kernel
theorem dX10_init_357 : decode cX10_init 357 = .ok (.dup, 1) := by decide +kernel
theorem dX10_init_358 : decode cX10_init 358 = .ok (.bipush 52, 2) := by decide +kernel
theorem dX10_init_360 : decode cX10_init 360 = .ok (.bipush 111, 2) := by decide +kernel
theorem dX10_init_362 : decode cX10_init 362 = .ok (.iastore, 1) := by decide +kernel
theorem dX10_init_363 : decode cX10_init 363 = .ok (.dup, 1) := by decide +kernel
theorem dX10_init_364 : decode cX10_init 364 = .ok (.bipush 53, 2) := by decide +kernel
theorem dX10_init_366 : decode cX10_init 366 = .ok (.bipush 117, 2) := by decide +kernel
theorem dX10_init_368 : decode cX10_init 368 = .ok (.iastore, 1) := by decide +kernel
theorem dX10_init_369 : decode cX10_init 369 = .ok (.dup, 1) := by decide +kernel
theorem dX10_init_370 : decode cX10_init 370 = .ok (.bipush 54, 2) := by decide +kernel
theorem dX10_init_372 : decode cX10_init 372 = .ok (.bipush 100, 2) := by decide +kernel
theorem dX10_init_374 : decode cX10_init 374 = .ok (.iastore, 1) := by decide +kernel
theorem dX10_init_375 : decode cX10_init 375 = .ok (.dup, 1) := by decide +kernel
theorem dX10_init_376 : decode cX10_init 376 = .ok (.bipush 55, 2) := by decide +kernel
theorem dX10_init_378 : decode cX10_init 378 = .ok (.bipush 32, 2) := by decide +kernel
theorem dX10_init_380 : decode cX10_init 380 = .ok (.iastore, 1) := by decide +kernel
theorem dX10_init_381 : decode cX10_init 381 = .ok (.dup, 1) := by decide +kernel
theorem dX10_init_382 : decode cX10_init 382 = .ok (.bipush 56, 2) := by decide +kernel
theorem dX10_init_384 : decode cX10_init 384 = .ok (.bipush 99, 2) := by decide +kernel
theorem dX10_init_386 : decode cX10_init 386 = .ok (.iastore, 1) := by decide +kernel
theorem dX10_init_387 : decode cX10_init 387 = .ok (.dup, 1) := by decide +kernel
theorem dX10_init_388 : decode cX10_init 388 = .ok (.bipush 57, 2) := by decide +kernel
theorem dX10_init_390 : decode cX10_init 390 = .ok (.bipush 114, 2) := by decide +kernel
theorem dX10_init_392 : decode cX10_init 392 = .ok (.iastore, 1) := by decide +kernel
theorem dX10_init_393 : decode cX10_init 393 = .ok (.dup, 1) := by decide +kernel
theorem dX10_init_394 : decode cX10_init 394 = .ok (.bipush 58, 2) := by decide +kernel
theorem dX10_init_396 : decode cX10_init 396 = .ok (.bipush 111, 2) := by decide +kernel
theorem dX10_init_398 : decode cX10_init 398 = .ok (.iastore, 1) := by decide +kernel
theorem dX10_init_399 : decode cX10_init 399 = .ok (.dup, 1) := by decide +kernel
theorem dX10_init_400 : decode cX10_init 400 = .ok (.bipush 59, 2) := by decide +kernel
theorem dX10_init_402 : decode cX10_init 402 = .ok (.bipush 119, 2) := by decide +kernel
theorem dX10_init_404 : decode cX10_init 404 = .ok (.iastore, 1) := by decide +kernel
theorem dX10_init_405 : decode cX10_init 405 = .ok (.dup, 1) := by decide +kernel
theorem dX10_init_406 : decode cX10_init 406 = .ok (.bipush 60, 2) := by decide +kernel
theorem dX10_init_408 : decode cX10_init 408 = .ok (.bipush 100, 2) := by decide +kernel
theorem dX10_init_410 : decode cX10_init 410 = .ok (.iastore, 1) := by decide +kernel
theorem dX10_init_411 : decode cX10_init 411 = .ok (.dup, 1) := by decide +kernel
theorem dX10_init_412 : decode cX10_init 412 = .ok (.bipush 61, 2) := by decide +kernel
theorem dX10_init_414 : decode cX10_init 414 = .ok (.bipush 32, 2) := by decide +kernel
theorem dX10_init_416 : decode cX10_init 416 = .ok (.iastore, 1) := by decide +kernel
theorem dX10_init_417 : decode cX10_init 417 = .ok (.dup, 1) := by decide +kernel
theorem dX10_init_418 : decode cX10_init 418 = .ok (.bipush 62, 2) := by decide +kernel
theorem dX10_init_420 : decode cX10_init 420 = .ok (.bipush 104, 2) := by decide +kernel
theorem dX10_init_422 : decode cX10_init 422 = .ok (.iastore, 1) := by decide +kernel
theorem dX10_init_423 : decode cX10_init 423 = .ok (.dup, 1) := by decide +kernel
theorem dX10_init_424 : decode cX10_init 424 = .ok (.bipush 63, 2) := by decide +kernel
theorem dX10_init_426 : decode cX10_init 426 = .ok (.bipush 111, 2) := by decide +kernel
theorem dX10_init_428 : decode cX10_init 428 = .ok (.iastore, 1) := by decide +kernel
theorem dX10_init_429 : decode cX10_init 429 = .ok (.dup, 1) := by decide +kernel
theorem dX10_init_430 : decode cX10_init 430 = .ok (.bipush 64, 2) := by decide +kernel
theorem dX10_init_432 : decode cX10_init 432 = .ok (.bipush 117, 2) := by decide +kernel
theorem dX10_init_434 : decode cX10_init 434 = .ok (.iastore, 1) := by decide +kernel
theorem dX10_init_435 : decode cX10_init 435 = .ok (.dup, 1) := by decide +kernel
theorem dX10_init_436 : decode cX10_init 436 = .ok (.bipush 65, 2) := by decide +kernel
theorem dX10_init_438 : decode cX10_init 438 = .ok (.bipush 114, 2) := by decide +kernel
theorem dX10_init_440 : decode cX10_init 440 = .ok (.iastore, 1) := by decide +kernel
theorem dX10_init_441 : decode cX10_init 441 = .ok (.dup, 1) := by decide +kernel
theorem dX10_init_442 : decode cX10_init 442 = .ok (.bipush 66, 2) := by decide +kernel
theorem dX10_init_444 : decode cX10_init 444 = .ok (.bipush 32, 2) := by decide +kernel
theorem dX10_init_446 : decode cX10_init 446 = .ok (.iastore, 1) := by decide +kernel
theorem dX10_init_447 : decode cX10_init 447 = .ok (.dup, 1) := by decide +kernel
theorem dX10_init_448 : decode cX10_init 448 = .ok (.bipush 67, 2) := by decide +kernel
theorem dX10_init_450 : decode cX10_init 450 = .ok (.bipush 119, 2) := by decide +kernel
theorem dX10_init_452 : decode cX10_init 452 = .ok (.iastore, 1) := by decide +kernel
theorem dX10_init_453 : decode cX10_init 453 = .ok (.dup, 1) := by decide +kernel
theorem dX10_init_454 : decode cX10_init 454 = .ok (.bipush 68, 2) := by decide +kernel
theorem dX10_init_456 : decode cX10_init 456 = .ok (.bipush 104, 2) := by decide +kernel
theorem dX10_init_458 : decode cX10_init 458 = .ok (.iastore, 1) := by decide +kernel
theorem dX10_init_459 : decode cX10_init 459 = .ok (.dup, 1) := by decide +kernel
theorem dX10_init_460 : decode cX10_init 460 = .ok (.bipush 69, 2) := by decide +kernel
theorem dX10_init_462 : decode cX10_init 462 = .ok (.bipush 111, 2) := by decide +kernel
theorem dX10_init_464 : decode cX10_init 464 = .ok (.iastore, 1) := by decide +kernel
theorem dX10_init_465 : decode cX10_init 465 = .ok (.dup, 1) := by decide +kernel
theorem dX10_init_466 : decode cX10_init 466 = .ok (.bipush 70, 2) := by decide +kernel
theorem dX10_init_468 : decode cX10_init 468 = .ok (.bipush 32, 2) := by decide +kernel
theorem dX10_init_470 : decode cX10_init 470 = .ok (.iastore, 1) := by decide +kernel
theorem dX10_init_471 : decode cX10_init 471 = .ok (.putfield 25, 3) := by decide +kernel
theorem dX10_init_474 : decode cX10_init 474 = .ok (.aload_n 0, 1) := by decide +kernel
theorem dX10_init_475 : decode cX10_init 475 = .ok (.bipush 32, 2) := by decide +kernel
theorem dX10_init_477 : decode cX10_init 477 = .ok (.newarray .int, 2) := by decide +kernel
theorem dX10_init_479 : decode cX10_init 479 = .ok (.putfield 28, 3) := by decide +kernel
theorem dX10_init_482 : decode cX10_init 482 = .ok (.aload_n 0, 1) := by decide +kernel
theorem dX10_init_483 : decode cX10_init 483 = .ok (.bipush 32, 2) := by decide +kernel
theorem dX10_init_485 : decode cX10_init 485 = .ok (.newarray .int, 2) := by decide +kernel
theorem dX10_init_487 : decode cX10_init 487 = .ok (.putfield 31, 3) := by decide +kernel
theorem dX10_init_490 : decode cX10_init 490 = .ok (.aload_n 0, 1) := by decide +kernel
theorem dX10_init_491 : decode cX10_init 491 = .ok (.bipush 32, 2) := by decide +kernel
theorem dX10_init_493 : decode cX10_init 493 = .ok (.newarray .int, 2) := by decide +kernel
theorem dX10_init_495 : decode cX10_init 495 = .ok (.putfield 34, 3) := by decide +kernel
theorem dX10_init_498 : decode cX10_init 498 = .ok (.aload_n 0, 1) := by decide +kernel
theorem dX10_init_499 : decode cX10_init 499 = .ok (.sipush 800, 3) := by decide +kernel
theorem dX10_init_502 : decode cX10_init 502 = .ok (.newarray .int, 2) := by decide +kernel
theorem dX10_init_504 : decode cX10_init 504 = .ok (.putfield 37, 3) := by decide +kernel
theorem dX10_init_507 : decode cX10_init 507 = .ok (.aload_n 0, 1) := by decide +kernel
theorem dX10_init_508 : decode cX10_init 508 = .ok (.sipush 800, 3) := by decide +kernel
theorem dX10_init_511 : decode cX10_init 511 = .ok (.newarray .int, 2) := by decide +kernel
theorem dX10_init_513 : decode cX10_init 513 = .ok (.putfield 40, 3) := by decide +kernel
theorem dX10_init_516 : decode cX10_init 516 = .ok (.aload_n 0, 1) := by decide +kernel
theorem dX10_init_517 : decode cX10_init 517 = .ok (.bipush 40, 2) := by decide +kernel
theorem dX10_init_519 : decode cX10_init 519 = .ok (.newarray .int, 2) := by decide +kernel
theorem dX10_init_521 : decode cX10_init 521 = .ok (.putfield 43, 3) := by decide +kernel
theorem dX10_init_524 : decode cX10_init 524 = .ok (.aload_n 0, 1) := by decide +kernel
theorem dX10_init_525 : decode cX10_init 525 = .ok (.iconst (-1), 1) := by decide +kernel
theorem dX10_init_526 : decode cX10_init 526 = .ok (.putfield 46, 3) := by decide +kernel
theorem dX10_init_529 : decode cX10_init 529 = .ok (.aload_n 0, 1) := by decide +kernel
theorem dX10_init_530 : decode cX10_init 530 = .ok (.bipush 9, 2) := by decide +kernel
theorem dX10_init_532 : decode cX10_init 532 = .ok (.newarray .int, 2) := by decide +kernel
theorem dX10_init_534 : decode cX10_init 534 = .ok (.putfield 50, 3) := by decide +kernel
theorem dX10_init_537 : decode cX10_init 537 = .ok (.aload_n 0, 1) := by decide +kernel
theorem dX10_init_538 : decode cX10_init 538 = .ok (.sipush 420, 3) := by decide +kernel
theorem dX10_init_541 : decode cX10_init 541 = .ok (.newarray .int, 2) := by decide +kernel
theorem dX10_init_543 : decode cX10_init 543 = .ok (.putfield 53, 3) := by decide +kernel
theorem dX10_init_546 : decode cX10_init 546 = .ok (.aload_n 0, 1) := by decide +kernel
theorem dX10_init_547 : decode cX10_init 547 = .ok (.bipush 61, 2) := by decide +kernel
theorem dX10_init_549 : decode cX10_init 549 = .ok (.newarray .boolean, 2) := by decide +kernel
theorem dX10_init_551 : decode cX10_init 551 = .ok (.putfield 56, 3) := by decide +kernel
theorem dX10_init_554 : decode cX10_init 554 = .ok (.aload_n 0, 1) := by decide +kernel
theorem dX10_init_555 : decode cX10_init 555 = .ok (.iconst 4, 1) := by decide +kernel
theorem dX10_init_556 : decode cX10_init 556 = .ok (.newarray .int, 2) := by decide +kernel
theorem dX10_init_558 : decode cX10_init 558 = .ok (.putfield 60, 3) := by decide +kernel
theorem dX10_init_561 : decode cX10_init 561 = .ok (.aload_n 0, 1) := by decide +kernel
theorem dX10_init_562 : decode cX10_init 562 = .ok (.bipush 48, 2) := by decide +kernel
theorem dX10_init_564 : decode cX10_init 564 = .ok (.newarray .int, 2) := by decide +kernel
theorem dX10_init_566 : decode cX10_init 566 = .ok (.putfield 63, 3) := by decide +kernel
theorem dX10_init_569 : decode cX10_init 569 = .ok (.aload_n 0, 1) := by decide +kernel
theorem dX10_init_570 : decode cX10_init 570 = .ok (.bipush 8, 2) := by decide +kernel
theorem dX10_init_572 : decode cX10_init 572 = .ok (.newarray .int, 2) := by decide +kernel
theorem dX10_init_574 : decode cX10_init 574 = .ok (.putfield 66, 3) := by decide +kernel
theorem dX10_init_577 : decode cX10_init 577 = .ok (.aload_n 0, 1) := by decide +kernel
theorem dX10_init_578 : decode cX10_init 578 = .ok (.bipush 8, 2) := by decide +kernel
theorem dX10_init_580 : decode cX10_init 580 = .ok (.newarray .int, 2) := by decide +kernel
theorem dX10_init_582 : decode cX10_init 582 = .ok (.putfield 69, 3) := by decide +kernel
theorem dX10_init_585 : decode cX10_init 585 = .ok (.aload_n 0, 1) := by decide +kernel
theorem dX10_init_586 : decode cX10_init 586 = .ok (.bipush 8, 2) := by decide +kernel
theorem dX10_init_588 : decode cX10_init 588 = .ok (.newarray .int, 2) := by decide +kernel
theorem dX10_init_590 : decode cX10_init 590 = .ok (.putfield 72, 3) := by decide +kernel
theorem dX10_init_593 : decode cX10_init 593 = .ok (.aload_n 0, 1) := by decide +kernel
theorem dX10_init_594 : decode cX10_init 594 = .ok (.bipush 15, 2) := by decide +kernel
theorem dX10_init_596 : decode cX10_init 596 = .ok (.newarray .int, 2) := by decide +kernel
theorem dX10_init_598 : decode cX10_init 598 = .ok (.putfield 75, 3) := by decide +kernel
theorem dX10_init_601 : decode cX10_init 601 = .ok (.aload_n 0, 1) := by decide +kernel
theorem dX10_init_602 : decode cX10_init 602 = .ok (.bipush 6, 2) := by decide +kernel
theorem dX10_init_604 : decode cX10_init 604 = .ok (.newarray .int, 2) := by decide +kernel
theorem dX10_init_606 : decode cX10_init 606 = .ok (.putfield 78, 3) := by decide +kernel
theorem dX10_init_609 : decode cX10_init 609 = .ok (.aload_n 0, 1) := by decide +kernel
theorem dX10_init_610 : decode cX10_init 610 = .ok (.bipush 61, 2) := by decide +kernel
theorem dX10_init_612 : decode cX10_init 612 = .ok (.newarray .int, 2) := by decide +kernel
theorem dX10_init_614 : decode cX10_init 614 = .ok (.putfield 81, 3) := by decide +kernel
theorem dX10_init_617 : decode cX10_init 617 = .ok (.aload_n 0, 1) := by decide +kernel
theorem dX10_init_618 : decode cX10_init 618 = .ok (.bipush 6, 2) := by decide +kernel
theorem dX10_init_620 : decode cX10_init 620 = .ok (.newarray .int, 2) := by decide +kernel
theorem dX10_init_622 : decode cX10_init 622 = .ok (.putfield 84, 3) := by decide +kernel
theorem dX10_init_625 : decode cX10_init 625 = .ok (.aload_n 0, 1) := by decide +kernel
theorem dX10_init_626 : decode cX10_init 626 = .ok (.sipush 1600, 3) := by decide +kernel
theorem dX10_init_629 : decode cX10_init 629 = .ok (.newarray .int, 2) := by decide +kernel
theorem dX10_init_631 : decode cX10_init 631 = .ok (.putfield 87, 3) := by decide +kernel
theorem dX10_init_634 : decode cX10_init 634 = .ok (.return_, 1) := by decide +kernel
theorem dX10_isIn_0 : decode cX10_isIn 0 = .ok (.iload_n 1, 1) := by decide +kernel
theorem dX10_isIn_1 : decode cX10_isIn 1 = .ok (.iload_n 2, 1) := by decide +kernel
theorem dX10_isIn_2 : decode cX10_isIn 2 = .ok (.if_icmp .lt 12, 3) := by decide +kernel
theorem dX10_isIn_5 : decode cX10_isIn 5 = .ok (.iload_n 1, 1) := by decide +kernel
theorem dX10_isIn_6 : decode cX10_isIn 6 = .ok (.iload_n 3, 1) := by decide +kernel
theorem dX10_isIn_7 : decode cX10_isIn 7 = .ok (.if_icmp .gt 7, 3) := by decide +kernel
theorem dX10_isIn_10 : decode cX10_isIn 10 = .ok (.iconst 1, 1) := by decide +kernel
theorem dX10_isIn_11 : decode cX10_isIn 11 = .ok (.goto 4, 3) := by decide +kernel
theorem dX10_isIn_14 : decode cX10_isIn 14 = .ok (.iconst 0, 1) := by decide +kernel
theorem dX10_isIn_15 : decode cX10_isIn 15 = .ok (.ireturn, 1) := by decide +kernel
theorem dX10_ones_0 : decode cX10_ones 0 = .ok (.iconst 0, 1) := by decide +kernel
theorem dX10_ones_1 : decode cX10_ones 1 = .ok (.istore_n 2, 1) := by decide +kernel
theorem dX10_ones_2 : decode cX10_ones 2 = .ok (.iload_n 1, 1) := by decide +kernel
theorem dX10_ones_3 : decode cX10_ones 3 = .ok (.istore_n 3, 1) := by decide +kernel
theorem dX10_ones_4 : decode cX10_ones 4 = .ok (.iload_n 3, 1) := by decide +kernel
theorem dX10_ones_5 : decode cX10_ones 5 = .ok (.ifCond .eq 16, 3) := by decide +kernel
theorem dX10_ones_8 : decode cX10_ones 8 = .ok (.iload_n 2, 1) := by decide +kernel
theorem dX10_ones_9 : decode cX10_ones 9 = .ok (.iconst 1, 1) := by decide +kernel
theorem dX10_ones_10 : decode cX10_ones 10 = .ok (.iadd, 1) := by decide +kernel
theorem dX10_ones_11 : decode cX10_ones 11 = .ok (.istore_n 2, 1) := by decide +kernel
theorem dX10_ones_12 : decode cX10_ones 12 = .ok (.iload_n 3, 1) := by decide +kernel
theorem dX10_ones_13 : decode cX10_ones 13 = .ok (.iload_n 3, 1) := by decide +kernel
theorem dX10_ones_14 : decode cX10_ones 14 = .ok (.iconst 1, 1) := by decide +kernel
theorem dX10_ones_15 : decode cX10_ones 15 = .ok (.isub, 1) := by decide +kernel
theorem dX10_ones_16 : decode cX10_ones 16 = .ok (.iand, 1) := by decide +kernel
theorem dX10_ones_17 : decode cX10_ones 17 = .ok (.istore_n 3, 1) := by decide +kernel
theorem dX10_ones_18 : decode cX10_ones 18 = .ok (.goto (-14), 3) := by decide +kernel
theorem dX10_ones_21 : decode cX10_ones 21 = .ok (.iload_n 2, 1) := by decide +kernel
theorem dX10_ones_22 : decode cX10_ones 22 = .ok (.ireturn, 1) := by decide +kernel
theorem dX10_without_0 : decode cX10_without 0 = .ok (.iload_n 1, 1) := by decide +kernel
theorem dX10_without_1 : decode cX10_without 1 = .ok (.ifCond .ge 8, 3) := by decide +kernel
theorem dX10_without_4 : decode cX10_without 4 = .ok (.iload_n 1, 1) := by decide +kernel
theorem dX10_without_5 : decode cX10_without 5 = .ok (.ineg, 1) := by decide +kernel
theorem dX10_without_6 : decode cX10_without 6 = .ok (.goto 4, 3) := by decide +kernel
theorem dX10_without_9 : decode cX10_without 9 = .ok (.iload_n 1, 1) := by decide +kernel
theorem dX10_without_10 : decode cX10_without 10 = .ok (.ireturn, 1) := by decide +kernel
theorem dX10_keepsAhead_0 : decode cX10_keepsAhead 0 = .ok (.aload_n 0, 1) := by decide +kernel
theorem dX10_keepsAhead_1 : decode cX10_keepsAhead 1 = .ok (.getfield 93, 3) := by decide +kernel
theorem dX10_keepsAhead_4 : decode cX10_keepsAhead 4 = .ok (.bipush 8, 2) := by decide +kernel
theorem dX10_keepsAhead_6 : decode cX10_keepsAhead 6 = .ok (.if_icmp .ne 47, 3) := by decide +kernel
theorem dX10_keepsAhead_9 : decode cX10_keepsAhead 9 = .ok (.aload_n 0, 1) := by decide +kernel
theorem dX10_keepsAhead_10 : decode cX10_keepsAhead 10 = .ok (.aload_n 0, 1) := by decide +kernel
theorem dX10_keepsAhead_11 : decode cX10_keepsAhead 11 = .ok (.getfield 93, 3) := by decide +kernel
theorem dX10_keepsAhead_14 : decode cX10_keepsAhead 14 = .ok (.iconst 1, 1) := by decide +kernel
theorem dX10_keepsAhead_15 : decode cX10_keepsAhead 15 = .ok (.isub, 1) := by decide +kernel
theorem dX10_keepsAhead_16 : decode cX10_keepsAhead 16 = .ok (.putfield 93, 3) := by decide +kernel
theorem dX10_keepsAhead_19 : decode cX10_keepsAhead 19 = .ok (.iconst 0, 1) := by decide +kernel
theorem dX10_keepsAhead_20 : decode cX10_keepsAhead 20 = .ok (.istore_n 1, 1) := by decide +kernel
theorem dX10_keepsAhead_21 : decode cX10_keepsAhead 21 = .ok (.iload_n 1, 1) := by decide +kernel
theorem dX10_keepsAhead_22 : decode cX10_keepsAhead 22 = .ok (.bipush 13, 2) := by decide +kernel
theorem dX10_keepsAhead_24 : decode cX10_keepsAhead 24 = .ok (.aload_n 0, 1) := by decide +kernel
theorem dX10_keepsAhead_25 : decode cX10_keepsAhead 25 = .ok (.getfield 93, 3) := by decide +kernel
theorem dX10_keepsAhead_28 : decode cX10_keepsAhead 28 = .ok (.imul, 1) := by decide +kernel
theorem dX10_keepsAhead_29 : decode cX10_keepsAhead 29 = .ok (.if_icmp .ge 24, 3) := by decide +kernel
theorem dX10_keepsAhead_32 : decode cX10_keepsAhead 32 = .ok (.aload_n 0, 1) := by decide +kernel
theorem dX10_keepsAhead_33 : decode cX10_keepsAhead 33 = .ok (.getfield 13, 3) := by decide +kernel
theorem dX10_keepsAhead_36 : decode cX10_keepsAhead 36 = .ok (.iload_n 1, 1) := by decide +kernel
theorem dX10_keepsAhead_37 : decode cX10_keepsAhead 37 = .ok (.aload_n 0, 1) := by decide +kernel
theorem dX10_keepsAhead_38 : decode cX10_keepsAhead 38 = .ok (.getfield 13, 3) := by decide +kernel
theorem dX10_keepsAhead_41 : decode cX10_keepsAhead 41 = .ok (.iload_n 1, 1) := by decide +kernel
theorem dX10_keepsAhead_42 : decode cX10_keepsAhead 42 = .ok (.bipush 13, 2) := by decide +kernel
theorem dX10_keepsAhead_44 : decode cX10_keepsAhead 44 = .ok (.iadd, 1) := by decide +kernel
theorem dX10_keepsAhead_45 : decode cX10_keepsAhead 45 = .ok (.iaload, 1) := by decide +kernel
theorem dX10_keepsAhead_46 : decode cX10_keepsAhead 46 = .ok (.iastore, 1) := by decide +kernel
theorem dX10_keepsAhead_47 : decode cX10_keepsAhead 47 = .ok (.iinc 1 1, 3) := by decide +kernel
theorem dX10_keepsAhead_50 : decode cX10_keepsAhead 50 = .ok (.goto (-29), 3) := by decide +kernel
theorem dX10_keepsAhead_53 : decode cX10_keepsAhead 53 = .ok (.iconst 0, 1) := by decide +kernel
theorem dX10_keepsAhead_54 : decode cX10_keepsAhead 54 = .ok (.istore_n 1, 1) := by decide +kernel
theorem dX10_keepsAhead_55 : decode cX10_keepsAhead 55 = .ok (.iload_n 1, 1) := by decide +kernel
theorem dX10_keepsAhead_56 : decode cX10_keepsAhead 56 = .ok (.bipush 13, 2) := by decide +kernel
theorem dX10_keepsAhead_58 : decode cX10_keepsAhead 58 = .ok (.if_icmp .ge 29, 3) := by decide +kernel
theorem dX10_keepsAhead_61 : decode cX10_keepsAhead 61 = .ok (.aload_n 0, 1) := by decide +kernel
theorem dX10_keepsAhead_62 : decode cX10_keepsAhead 62 = .ok (.getfield 13, 3) := by decide +kernel
theorem dX10_keepsAhead_65 : decode cX10_keepsAhead 65 = .ok (.bipush 13, 2) := by decide +kernel
theorem dX10_keepsAhead_67 : decode cX10_keepsAhead 67 = .ok (.aload_n 0, 1) := by decide +kernel
theorem dX10_keepsAhead_68 : decode cX10_keepsAhead 68 = .ok (.getfield 93, 3) := by decide +kernel
theorem dX10_keepsAhead_71 : decode cX10_keepsAhead 71 = .ok (.imul, 1) := by decide +kernel
theorem dX10_keepsAhead_72 : decode cX10_keepsAhead 72 = .ok (.iload_n 1, 1) := by decide +kernel
theorem dX10_keepsAhead_73 : decode cX10_keepsAhead 73 = .ok (.iadd, 1) := by decide +kernel
theorem dX10_keepsAhead_74 : decode cX10_keepsAhead 74 = .ok (.aload_n 0, 1) := by decide +kernel
theorem dX10_keepsAhead_75 : decode cX10_keepsAhead 75 = .ok (.getfield 7, 3) := by decide +kernel
theorem dX10_keepsAhead_78 : decode cX10_keepsAhead 78 = .ok (.iload_n 1, 1) := by decide +kernel
theorem dX10_keepsAhead_79 : decode cX10_keepsAhead 79 = .ok (.iaload, 1) := by decide +kernel
theorem dX10_keepsAhead_80 : decode cX10_keepsAhead 80 = .ok (.iastore, 1) := by decide +kernel
theorem dX10_keepsAhead_81 : decode cX10_keepsAhead 81 = .ok (.iinc 1 1, 3) := by decide +kernel
theorem dX10_keepsAhead_84 : decode cX10_keepsAhead 84 = .ok (.goto (-29), 3) := by decide +kernel
theorem dX10_keepsAhead_87 : decode cX10_keepsAhead 87 = .ok (.aload_n 0, 1) := by decide +kernel
theorem dX10_keepsAhead_88 : decode cX10_keepsAhead 88 = .ok (.aload_n 0, 1) := by decide +kernel
theorem dX10_keepsAhead_89 : decode cX10_keepsAhead 89 = .ok (.getfield 93, 3) := by decide +kernel
theorem dX10_keepsAhead_92 : decode cX10_keepsAhead 92 = .ok (.iconst 1, 1) := by decide +kernel
theorem dX10_keepsAhead_93 : decode cX10_keepsAhead 93 = .ok (.iadd, 1) := by decide +kernel
theorem dX10_keepsAhead_94 : decode cX10_keepsAhead 94 = .ok (.putfield 93, 3) := by decide +kernel
theorem dX10_keepsAhead_97 : decode cX10_keepsAhead 97 = .ok (.return_, 1) := by decide +kernel
theorem dX10_undo_0 : decode cX10_undo 0 = .ok (.aload_n 0, 1) := by decide +kernel
theorem dX10_undo_1 : decode cX10_undo 1 = .ok (.iconst 0, 1) := by decide +kernel
theorem dX10_undo_2 : decode cX10_undo 2 = .ok (.putfield 90, 3) := by decide +kernel
theorem dX10_undo_5 : decode cX10_undo 5 = .ok (.aload_n 0, 1) := by decide +kernel
theorem dX10_undo_6 : decode cX10_undo 6 = .ok (.getfield 93, 3) := by decide +kernel
theorem dX10_undo_9 : decode cX10_undo 9 = .ok (.ifCond .ne 5, 3) := by decide +kernel
theorem dX10_undo_12 : decode cX10_undo 12 = .ok (.iconst 0, 1) := by decide +kernel
theorem dX10_undo_13 : decode cX10_undo 13 = .ok (.ireturn, 1) := by decide +kernel
theorem dX10_undo_14 : decode cX10_undo 14 = .ok (.aload_n 0, 1) := by decide +kernel
theorem dX10_undo_15 : decode cX10_undo 15 = .ok (.aload_n 0, 1) := by decide +kernel
theorem dX10_undo_16 : decode cX10_undo 16 = .ok (.getfield 93, 3) := by decide +kernel
theorem dX10_undo_19 : decode cX10_undo 19 = .ok (.iconst 1, 1) := by decide +kernel
theorem dX10_undo_20 : decode cX10_undo 20 = .ok (.isub, 1) := by decide +kernel
theorem dX10_undo_21 : decode cX10_undo 21 = .ok (.putfield 93, 3) := by decide +kernel
theorem dX10_undo_24 : decode cX10_undo 24 = .ok (.iconst 0, 1) := by decide +kernel
theorem dX10_undo_25 : decode cX10_undo 25 = .ok (.istore_n 1, 1) := by decide +kernel
theorem dX10_undo_26 : decode cX10_undo 26 = .ok (.iload_n 1, 1) := by decide +kernel
theorem dX10_undo_27 : decode cX10_undo 27 = .ok (.bipush 13, 2) := by decide +kernel
theorem dX10_undo_29 : decode cX10_undo 29 = .ok (.if_icmp .ge 29, 3) := by decide +kernel
theorem dX10_undo_32 : decode cX10_undo 32 = .ok (.aload_n 0, 1) := by decide +kernel
theorem dX10_undo_33 : decode cX10_undo 33 = .ok (.getfield 7, 3) := by decide +kernel
theorem dX10_undo_36 : decode cX10_undo 36 = .ok (.iload_n 1, 1) := by decide +kernel
theorem dX10_undo_37 : decode cX10_undo 37 = .ok (.aload_n 0, 1) := by decide +kernel
theorem dX10_undo_38 : decode cX10_undo 38 = .ok (.getfield 13, 3) := by decide +kernel
theorem dX10_undo_41 : decode cX10_undo 41 = .ok (.bipush 13, 2) := by decide +kernel
theorem dX10_undo_43 : decode cX10_undo 43 = .ok (.aload_n 0, 1) := by decide +kernel
theorem dX10_undo_44 : decode cX10_undo 44 = .ok (.getfield 93, 3) := by decide +kernel
theorem dX10_undo_47 : decode cX10_undo 47 = .ok (.imul, 1) := by decide +kernel
theorem dX10_undo_48 : decode cX10_undo 48 = .ok (.iload_n 1, 1) := by decide +kernel
theorem dX10_undo_49 : decode cX10_undo 49 = .ok (.iadd, 1) := by decide +kernel
theorem dX10_undo_50 : decode cX10_undo 50 = .ok (.iaload, 1) := by decide +kernel
theorem dX10_undo_51 : decode cX10_undo 51 = .ok (.iastore, 1) := by decide +kernel
theorem dX10_undo_52 : decode cX10_undo 52 = .ok (.iinc 1 1, 3) := by decide +kernel
theorem dX10_undo_55 : decode cX10_undo 55 = .ok (.goto (-29), 3) := by decide +kernel
theorem dX10_undo_58 : decode cX10_undo 58 = .ok (.iconst 1, 1) := by decide +kernel
theorem dX10_undo_59 : decode cX10_undo 59 = .ok (.ireturn, 1) := by decide +kernel
theorem dX10_state_0 : decode cX10_state 0 = .ok (.aload_n 0, 1) := by decide +kernel
theorem dX10_state_1 : decode cX10_state 1 = .ok (.iconst 0, 1) := by decide +kernel
theorem dX10_state_2 : decode cX10_state 2 = .ok (.putfield 90, 3) := by decide +kernel
theorem dX10_state_5 : decode cX10_state 5 = .ok (.aload_n 0, 1) := by decide +kernel
theorem dX10_state_6 : decode cX10_state 6 = .ok (.getfield 7, 3) := by decide +kernel
theorem dX10_state_9 : decode cX10_state 9 = .ok (.bipush 12, 2) := by decide +kernel
theorem dX10_state_11 : decode cX10_state 11 = .ok (.iaload, 1) := by decide +kernel
theorem dX10_state_12 : decode cX10_state 12 = .ok (.istore_n 2, 1) := by decide +kernel
theorem dX10_state_13 : decode cX10_state 13 = .ok (.aload_n 0, 1) := by decide +kernel
theorem dX10_state_14 : decode cX10_state 14 = .ok (.getfield 7, 3) := by decide +kernel
theorem dX10_state_17 : decode cX10_state 17 = .ok (.bipush 12, 2) := by decide +kernel
theorem dX10_state_19 : decode cX10_state 19 = .ok (.iload_n 1, 1) := by decide +kernel
theorem dX10_state_20 : decode cX10_state 20 = .ok (.iastore, 1) := by decide +kernel
theorem dX10_state_21 : decode cX10_state 21 = .ok (.aload_n 0, 1) := by decide +kernel
theorem dX10_state_22 : decode cX10_state 22 = .ok (.iconst 0, 1) := by decide +kernel
theorem dX10_state_23 : decode cX10_state 23 = .ok (.putfield 93, 3) := by decide +kernel
theorem dX10_state_26 : decode cX10_state 26 = .ok (.iload_n 2, 1) := by decide +kernel
theorem dX10_state_27 : decode cX10_state 27 = .ok (.ireturn, 1) := by decide +kernel
theorem dX10_draw_0 : decode cX10_draw 0 = .ok (.aload_n 0, 1) := by decide +kernel
theorem dX10_draw_1 : decode cX10_draw 1 = .ok (.getfield 7, 3) := by decide +kernel
theorem dX10_draw_4 : decode cX10_draw 4 = .ok (.bipush 12, 2) := by decide +kernel
theorem dX10_draw_6 : decode cX10_draw 6 = .ok (.ldc 96, 2) := by decide +kernel
theorem dX10_draw_8 : decode cX10_draw 8 = .ok (.aload_n 0, 1) := by decide +kernel
theorem dX10_draw_9 : decode cX10_draw 9 = .ok (.getfield 7, 3) := by decide +kernel
theorem dX10_draw_12 : decode cX10_draw 12 = .ok (.bipush 12, 2) := by decide +kernel
theorem dX10_draw_14 : decode cX10_draw 14 = .ok (.iaload, 1) := by decide +kernel
theorem dX10_draw_15 : decode cX10_draw 15 = .ok (.imul, 1) := by decide +kernel
theorem dX10_draw_16 : decode cX10_draw 16 = .ok (.ldc 97, 2) := by decide +kernel
theorem dX10_draw_18 : decode cX10_draw 18 = .ok (.iadd, 1) := by decide +kernel
theorem dX10_draw_19 : decode cX10_draw 19 = .ok (.iastore, 1) := by decide +kernel
theorem dX10_draw_20 : decode cX10_draw 20 = .ok (.aload_n 0, 1) := by decide +kernel
theorem dX10_draw_21 : decode cX10_draw 21 = .ok (.getfield 7, 3) := by decide +kernel
theorem dX10_draw_24 : decode cX10_draw 24 = .ok (.bipush 12, 2) := by decide +kernel
theorem dX10_draw_26 : decode cX10_draw 26 = .ok (.iaload, 1) := by decide +kernel
theorem dX10_draw_27 : decode cX10_draw 27 = .ok (.bipush 8, 2) := by decide +kernel
theorem dX10_draw_29 : decode cX10_draw 29 = .ok (.iushr, 1) := by decide +kernel
theorem dX10_draw_30 : decode cX10_draw 30 = .ok (.iload_n 1, 1) := by decide +kernel
theorem dX10_draw_31 : decode cX10_draw 31 = .ok (.irem, 1) := by decide +kernel
theorem dX10_draw_32 : decode cX10_draw 32 = .ok (.ireturn, 1) := by decide +kernel
theorem dX10_isPerson_0 : decode cX10_isPerson 0 = .ok (.iload_n 1, 1) := by decide +kernel
theorem dX10_isPerson_1 : decode cX10_isPerson 1 = .ok (.ifCond .lt 15, 3) := by decide +kernel
theorem dX10_isPerson_4 : decode cX10_isPerson 4 = .ok (.iload_n 1, 1) := by decide +kernel
theorem dX10_isPerson_5 : decode cX10_isPerson 5 = .ok (.aload_n 0, 1) := by decide +kernel
theorem dX10_isPerson_6 : decode cX10_isPerson 6 = .ok (.getfield 98, 3) := by decide +kernel
theorem dX10_isPerson_9 : decode cX10_isPerson 9 = .ok (.if_icmp .ge 7, 3) := by decide +kernel
theorem dX10_isPerson_12 : decode cX10_isPerson 12 = .ok (.iconst 1, 1) := by decide +kernel
theorem dX10_isPerson_13 : decode cX10_isPerson 13 = .ok (.goto 4, 3) := by decide +kernel
theorem dX10_isPerson_16 : decode cX10_isPerson 16 = .ok (.iconst 0, 1) := by decide +kernel
theorem dX10_isPerson_17 : decode cX10_isPerson 17 = .ok (.ireturn, 1) := by decide +kernel
theorem dX10_humOf_0 : decode cX10_humOf 0 = .ok (.aload_n 0, 1) := by decide +kernel
theorem dX10_humOf_1 : decode cX10_humOf 1 = .ok (.getfield 7, 3) := by decide +kernel
theorem dX10_humOf_4 : decode cX10_humOf 4 = .ok (.iconst 0, 1) := by decide +kernel
theorem dX10_humOf_5 : decode cX10_humOf 5 = .ok (.iload_n 1, 1) := by decide +kernel
theorem dX10_humOf_6 : decode cX10_humOf 6 = .ok (.iadd, 1) := by decide +kernel
theorem dX10_humOf_7 : decode cX10_humOf 7 = .ok (.iaload, 1) := by decide +kernel
theorem dX10_humOf_8 : decode cX10_humOf 8 = .ok (.iconst 1, 1) := by decide +kernel
theorem dX10_humOf_9 : decode cX10_humOf 9 = .ok (.isub, 1) := by decide +kernel
theorem dX10_humOf_10 : decode cX10_humOf 10 = .ok (.ireturn, 1) := by decide +kernel
theorem dX10_person_0 : decode cX10_person 0 = .ok (.aload_n 0, 1) := by decide +kernel
theorem dX10_person_1 : decode cX10_person 1 = .ok (.iconst 0, 1) := by decide +kernel
theorem dX10_person_2 : decode cX10_person 2 = .ok (.putfield 90, 3) := by decide +kernel
theorem dX10_person_5 : decode cX10_person 5 = .ok (.aload_n 0, 1) := by decide +kernel
theorem dX10_person_6 : decode cX10_person 6 = .ok (.iload_n 1, 1) := by decide +kernel
theorem dX10_person_7 : decode cX10_person 7 = .ok (.iconst (-1), 1) := by decide +kernel
theorem dX10_person_8 : decode cX10_person 8 = .ok (.bipush 60, 2) := by decide +kernel
theorem dX10_person_10 : decode cX10_person 10 = .ok (.invokevirtual 101, 3) := by decide +kernel
theorem dX10_person_13 : decode cX10_person 13 = .ok (.ifCond .eq 12, 3) := by decide +kernel
theorem dX10_person_16 : decode cX10_person 16 = .ok (.aload_n 0, 1) := by decide +kernel
theorem dX10_person_17 : decode cX10_person 17 = .ok (.getfield 98, 3) := by decide +kernel
theorem dX10_person_20 : decode cX10_person 20 = .ok (.bipush 10, 2) := by decide +kernel
theorem dX10_person_22 : decode cX10_person 22 = .ok (.if_icmp .ne 5, 3) := by decide +kernel
theorem dX10_person_25 : decode cX10_person 25 = .ok (.iconst (-1), 1) := by decide +kernel
theorem dX10_person_26 : decode cX10_person 26 = .ok (.ireturn, 1) := by decide +kernel
theorem dX10_person_27 : decode cX10_person 27 = .ok (.aload_n 0, 1) := by decide +kernel
theorem dX10_person_28 : decode cX10_person 28 = .ok (.getfield 7, 3) := by decide +kernel
theorem dX10_person_31 : decode cX10_person 31 = .ok (.iconst 0, 1) := by decide +kernel
theorem dX10_person_32 : decode cX10_person 32 = .ok (.aload_n 0, 1) := by decide +kernel
theorem dX10_person_33 : decode cX10_person 33 = .ok (.getfield 98, 3) := by decide +kernel
theorem dX10_person_36 : decode cX10_person 36 = .ok (.iadd, 1) := by decide +kernel
theorem dX10_person_37 : decode cX10_person 37 = .ok (.iload_n 1, 1) := by decide +kernel
theorem dX10_person_38 : decode cX10_person 38 = .ok (.iconst 1, 1) := by decide +kernel
theorem dX10_person_39 : decode cX10_person 39 = .ok (.iadd, 1) := by decide +kernel
theorem dX10_person_40 : decode cX10_person 40 = .ok (.iastore, 1) := by decide +kernel
theorem dX10_person_41 : decode cX10_person 41 = .ok (.aload_n 0, 1) := by decide +kernel
theorem dX10_person_42 : decode cX10_person 42 = .ok (.getfield 16, 3) := by decide +kernel
theorem dX10_person_45 : decode cX10_person 45 = .ok (.aload_n 0, 1) := by decide +kernel
theorem dX10_person_46 : decode cX10_person 46 = .ok (.getfield 98, 3) := by decide +kernel
theorem dX10_person_49 : decode cX10_person 49 = .ok (.iconst 0, 1) := by decide +kernel
theorem dX10_person_50 : decode cX10_person 50 = .ok (.iastore, 1) := by decide +kernel
theorem dX10_person_51 : decode cX10_person 51 = .ok (.aload_n 0, 1) := by decide +kernel
theorem dX10_person_52 : decode cX10_person 52 = .ok (.aload_n 0, 1) := by decide +kernel
theorem dX10_person_53 : decode cX10_person 53 = .ok (.getfield 98, 3) := by decide +kernel
theorem dX10_person_56 : decode cX10_person 56 = .ok (.iconst 1, 1) := by decide +kernel
theorem dX10_person_57 : decode cX10_person 57 = .ok (.iadd, 1) := by decide +kernel
theorem dX10_person_58 : decode cX10_person 58 = .ok (.putfield 98, 3) := by decide +kernel
theorem dX10_person_61 : decode cX10_person 61 = .ok (.aload_n 0, 1) := by decide +kernel
theorem dX10_person_62 : decode cX10_person 62 = .ok (.iconst 0, 1) := by decide +kernel
theorem dX10_person_63 : decode cX10_person 63 = .ok (.putfield 93, 3) := by decide +kernel
theorem dX10_person_66 : decode cX10_person 66 = .ok (.aload_n 0, 1) := by decide +kernel
theorem dX10_person_67 : decode cX10_person 67 = .ok (.getfield 98, 3) := by decide +kernel
theorem dX10_person_70 : decode cX10_person 70 = .ok (.iconst 1, 1) := by decide +kernel
theorem dX10_person_71 : decode cX10_person 71 = .ok (.isub, 1) := by decide +kernel
theorem dX10_person_72 : decode cX10_person 72 = .ok (.ireturn, 1) := by decide +kernel
theorem dX10_canSet_0 : decode cX10_canSet 0 = .ok (.iload_n 1, 1) := by decide +kernel
theorem dX10_canSet_1 : decode cX10_canSet 1 = .ok (.iconst 3, 1) := by decide +kernel
theorem dX10_canSet_2 : decode cX10_canSet 2 = .ok (.if_icmp .ne 13, 3) := by decide +kernel
theorem dX10_canSet_5 : decode cX10_canSet 5 = .ok (.aload_n 0, 1) := by decide +kernel
theorem dX10_canSet_6 : decode cX10_canSet 6 = .ok (.iload_n 3, 1) := by decide +kernel
theorem dX10_canSet_7 : decode cX10_canSet 7 = .ok (.iconst 0, 1) := by decide +kernel
theorem dX10_canSet_8 : decode cX10_canSet 8 = .ok (.sipush 1000, 3) := by decide +kernel
theorem dX10_canSet_11 : decode cX10_canSet 11 = .ok (.invokevirtual 101, 3) := by decide +kernel
theorem dX10_canSet_14 : decode cX10_canSet 14 = .ok (.ireturn, 1) := by decide +kernel
theorem dX10_canSet_15 : decode cX10_canSet 15 = .ok (.aload_n 0, 1) := by decide +kernel
theorem dX10_canSet_16 : decode cX10_canSet 16 = .ok (.iload_n 2, 1) := by decide +kernel
theorem dX10_canSet_17 : decode cX10_canSet 17 = .ok (.invokevirtual 105, 3) := by decide +kernel
theorem dX10_canSet_20 : decode cX10_canSet 20 = .ok (.ifCond .ne 5, 3) := by decide +kernel
theorem dX10_canSet_23 : decode cX10_canSet 23 = .ok (.iconst 0, 1) := by decide +kernel
theorem dX10_canSet_24 : decode cX10_canSet 24 = .ok (.ireturn, 1) := by decide +kernel
theorem dX10_canSet_25 : decode cX10_canSet 25 = .ok (.iload_n 1, 1) := by decide +kernel
theorem dX10_canSet_26 : decode cX10_canSet 26 = .ok (.ifCond .ne 12, 3) := by decide +kernel
theorem dX10_canSet_29 : decode cX10_canSet 29 = .ok (.aload_n 0, 1) := by decide +kernel
theorem dX10_canSet_30 : decode cX10_canSet 30 = .ok (.iload_n 3, 1) := by decide +kernel
theorem dX10_canSet_31 : decode cX10_canSet 31 = .ok (.iconst (-1), 1) := by decide +kernel
theorem dX10_canSet_32 : decode cX10_canSet 32 = .ok (.bipush 60, 2) := by decide +kernel
theorem dX10_canSet_34 : decode cX10_canSet 34 = .ok (.invokevirtual 101, 3) := by decide +kernel
theorem dX10_canSet_37 : decode cX10_canSet 37 = .ok (.ireturn, 1) := by decide +kernel
theorem dX10_canSet_38 : decode cX10_canSet 38 = .ok (.iload_n 1, 1) := by decide +kernel
theorem dX10_canSet_39 : decode cX10_canSet 39 = .ok (.iconst 1, 1) := by decide +kernel
theorem dX10_canSet_40 : decode cX10_canSet 40 = .ok (.if_icmp .ne 34, 3) := by decide +kernel
theorem dX10_canSet_43 : decode cX10_canSet 43 = .ok (.aload_n 0, 1) := by decide +kernel
theorem dX10_canSet_44 : decode cX10_canSet 44 = .ok (.iload_n 3, 1) := by decide +kernel
theorem dX10_canSet_45 : decode cX10_canSet 45 = .ok (.iconst 0, 1) := by decide +kernel
theorem dX10_canSet_46 : decode cX10_canSet 46 = .ok (.iconst 1, 1) := by decide +kernel
theorem dX10_canSet_47 : decode cX10_canSet 47 = .ok (.invokevirtual 101, 3) := by decide +kernel
theorem dX10_canSet_50 : decode cX10_canSet 50 = .ok (.ifCond .eq 20, 3) := by decide +kernel
theorem dX10_canSet_53 : decode cX10_canSet 53 = .ok (.iload_n 3, 1) := by decide +kernel
theorem dX10_canSet_54 : decode cX10_canSet 54 = .ok (.ifCond .eq 12, 3) := by decide +kernel
theorem dX10_canSet_57 : decode cX10_canSet 57 = .ok (.aload_n 0, 1) := by decide +kernel
theorem dX10_canSet_58 : decode cX10_canSet 58 = .ok (.iload_n 2, 1) := by decide +kernel
theorem dX10_canSet_59 : decode cX10_canSet 59 = .ok (.invokevirtual 109, 3) := by decide +kernel
theorem dX10_canSet_62 : decode cX10_canSet 62 = .ok (.iconst (-1), 1) := by decide +kernel
theorem dX10_canSet_63 : decode cX10_canSet 63 = .ok (.if_icmp .eq 7, 3) := by decide +kernel
theorem dX10_canSet_66 : decode cX10_canSet 66 = .ok (.iconst 1, 1) := by decide +kernel
theorem dX10_canSet_67 : decode cX10_canSet 67 = .ok (.goto 28, 3) := by decide +kernel
theorem dX10_canSet_70 : decode cX10_canSet 70 = .ok (.iconst 0, 1) := by decide +kernel
theorem dX10_canSet_71 : decode cX10_canSet 71 = .ok (.goto 24, 3) := by decide +kernel
theorem dX10_canSet_74 : decode cX10_canSet 74 = .ok (.iload_n 1, 1) := by decide +kernel
theorem dX10_canSet_75 : decode cX10_canSet 75 = .ok (.iconst 2, 1) := by decide +kernel
theorem dX10_canSet_76 : decode cX10_canSet 76 = .ok (.if_icmp .ne 18, 3) := by decide +kernel
theorem dX10_canSet_79 : decode cX10_canSet 79 = .ok (.aload_n 0, 1) := by decide +kernel
theorem dX10_canSet_80 : decode cX10_canSet 80 = .ok (.iload_n 3, 1) := by decide +kernel
theorem dX10_canSet_81 : decode cX10_canSet 81 = .ok (.iconst 0, 1) := by decide +kernel
theorem dX10_canSet_82 : decode cX10_canSet 82 = .ok (.bipush 9, 2) := by decide +kernel
theorem dX10_canSet_84 : decode cX10_canSet 84 = .ok (.invokevirtual 101, 3) := by decide +kernel
theorem dX10_canSet_87 : decode cX10_canSet 87 = .ok (.ifCond .eq 7, 3) := by decide +kernel
theorem dX10_canSet_90 : decode cX10_canSet 90 = .ok (.iconst 1, 1) := by decide +kernel
theorem dX10_canSet_91 : decode cX10_canSet 91 = .ok (.goto 4, 3) := by decide +kernel
theorem dX10_canSet_94 : decode cX10_canSet 94 = .ok (.iconst 0, 1) := by decide +kernel
theorem dX10_canSet_95 : decode cX10_canSet 95 = .ok (.ireturn, 1) := by decide +kernel
theorem dX10_set_0 : decode cX10_set 0 = .ok (.aload_n 0, 1) := by decide +kernel
theorem dX10_set_1 : decode cX10_set 1 = .ok (.iconst 0, 1) := by decide +kernel
theorem dX10_set_2 : decode cX10_set 2 = .ok (.putfield 90, 3) := by decide +kernel
theorem dX10_set_5 : decode cX10_set 5 = .ok (.aload_n 0, 1) := by decide +kernel
theorem dX10_set_6 : decode cX10_set 6 = .ok (.iload_n 1, 1) := by decide +kernel
theorem dX10_set_7 : decode cX10_set 7 = .ok (.iload_n 2, 1) := by decide +kernel
theorem dX10_set_8 : decode cX10_set 8 = .ok (.iload_n 3, 1) := by decide +kernel
theorem dX10_set_9 : decode cX10_set 9 = .ok (.invokevirtual 113, 3) := by decide +kernel
theorem dX10_set_12 : decode cX10_set 12 = .ok (.ifCond .ne 5, 3) := by decide +kernel
theorem dX10_set_15 : decode cX10_set 15 = .ok (.iconst 0, 1) := by decide +kernel
theorem dX10_set_16 : decode cX10_set 16 = .ok (.ireturn, 1) := by decide +kernel
theorem dX10_set_17 : decode cX10_set 17 = .ok (.iload_n 1, 1) := by decide +kernel
theorem dX10_set_18 : decode cX10_set 18 = .ok (.ifCond .ne 14, 3) := by decide +kernel
theorem dX10_set_21 : decode cX10_set 21 = .ok (.aload_n 0, 1) := by decide +kernel
theorem dX10_set_22 : decode cX10_set 22 = .ok (.getfield 7, 3) := by decide +kernel
theorem dX10_set_25 : decode cX10_set 25 = .ok (.iconst 0, 1) := by decide +kernel
theorem dX10_set_26 : decode cX10_set 26 = .ok (.iload_n 2, 1) := by decide +kernel
theorem dX10_set_27 : decode cX10_set 27 = .ok (.iadd, 1) := by decide +kernel
theorem dX10_set_28 : decode cX10_set 28 = .ok (.iload_n 3, 1) := by decide +kernel
theorem dX10_set_29 : decode cX10_set 29 = .ok (.iconst 1, 1) := by decide +kernel
theorem dX10_set_30 : decode cX10_set 30 = .ok (.iadd, 1) := by decide +kernel
theorem dX10_set_31 : decode cX10_set 31 = .ok (.iastore, 1) := by decide +kernel
theorem dX10_set_32 : decode cX10_set 32 = .ok (.iload_n 1, 1) := by decide +kernel
theorem dX10_set_33 : decode cX10_set 33 = .ok (.iconst 1, 1) := by decide +kernel
theorem dX10_set_34 : decode cX10_set 34 = .ok (.if_icmp .ne 21, 3) := by decide +kernel
theorem dX10_set_37 : decode cX10_set 37 = .ok (.aload_n 0, 1) := by decide +kernel
theorem dX10_set_38 : decode cX10_set 38 = .ok (.aload_n 0, 1) := by decide +kernel
theorem dX10_set_39 : decode cX10_set 39 = .ok (.getfield 116, 3) := by decide +kernel
theorem dX10_set_42 : decode cX10_set 42 = .ok (.iconst 1, 1) := by decide +kernel
theorem dX10_set_43 : decode cX10_set 43 = .ok (.iload_n 2, 1) := by decide +kernel
theorem dX10_set_44 : decode cX10_set 44 = .ok (.ishl, 1) := by decide +kernel
theorem dX10_set_45 : decode cX10_set 45 = .ok (.iconst (-1), 1) := by decide +kernel
theorem dX10_set_46 : decode cX10_set 46 = .ok (.ixor, 1) := by decide +kernel
theorem dX10_set_47 : decode cX10_set 47 = .ok (.iand, 1) := by decide +kernel
theorem dX10_set_48 : decode cX10_set 48 = .ok (.iload_n 3, 1) := by decide +kernel
theorem dX10_set_49 : decode cX10_set 49 = .ok (.iload_n 2, 1) := by decide +kernel
theorem dX10_set_50 : decode cX10_set 50 = .ok (.ishl, 1) := by decide +kernel
theorem dX10_set_51 : decode cX10_set 51 = .ok (.ior, 1) := by decide +kernel
theorem dX10_set_52 : decode cX10_set 52 = .ok (.putfield 116, 3) := by decide +kernel
theorem dX10_set_55 : decode cX10_set 55 = .ok (.iload_n 1, 1) := by decide +kernel
theorem dX10_set_56 : decode cX10_set 56 = .ok (.ifCond .ne 22, 3) := by decide +kernel
theorem dX10_set_59 : decode cX10_set 59 = .ok (.iload_n 3, 1) := by decide +kernel
theorem dX10_set_60 : decode cX10_set 60 = .ok (.iconst (-1), 1) := by decide +kernel
theorem dX10_set_61 : decode cX10_set 61 = .ok (.if_icmp .ne 17, 3) := by decide +kernel
theorem dX10_set_64 : decode cX10_set 64 = .ok (.aload_n 0, 1) := by decide +kernel
theorem dX10_set_65 : decode cX10_set 65 = .ok (.aload_n 0, 1) := by decide +kernel
theorem dX10_set_66 : decode cX10_set 66 = .ok (.getfield 116, 3) := by decide +kernel
theorem dX10_set_69 : decode cX10_set 69 = .ok (.iconst 1, 1) := by decide +kernel
theorem dX10_set_70 : decode cX10_set 70 = .ok (.iload_n 2, 1) := by decide +kernel
theorem dX10_set_71 : decode cX10_set 71 = .ok (.ishl, 1) := by decide +kernel
theorem dX10_set_72 : decode cX10_set 72 = .ok (.iconst (-1), 1) := by decide +kernel
theorem dX10_set_73 : decode cX10_set 73 = .ok (.ixor, 1) := by decide +kernel
theorem dX10_set_74 : decode cX10_set 74 = .ok (.iand, 1) := by decide +kernel
theorem dX10_set_75 : decode cX10_set 75 = .ok (.putfield 116, 3) := by decide +kernel
theorem dX10_set_78 : decode cX10_set 78 = .ok (.iload_n 1, 1) := by decide +kernel
theorem dX10_set_79 : decode cX10_set 79 = .ok (.iconst 2, 1) := by decide +kernel
theorem dX10_set_80 : decode cX10_set 80 = .ok (.if_icmp .ne 12, 3) := by decide +kernel
theorem dX10_set_83 : decode cX10_set 83 = .ok (.aload_n 0, 1) := by decide +kernel
theorem dX10_set_84 : decode cX10_set 84 = .ok (.getfield 16, 3) := by decide +kernel
theorem dX10_set_87 : decode cX10_set 87 = .ok (.iload_n 2, 1) := by decide +kernel
theorem dX10_set_88 : decode cX10_set 88 = .ok (.iload_n 3, 1) := by decide +kernel
theorem dX10_set_89 : decode cX10_set 89 = .ok (.iconst 5, 1) := by decide +kernel
theorem dX10_set_90 : decode cX10_set 90 = .ok (.isub, 1) := by decide +kernel
theorem dX10_set_91 : decode cX10_set 91 = .ok (.iastore, 1) := by decide +kernel
theorem dX10_set_92 : decode cX10_set 92 = .ok (.iload_n 1, 1) := by decide +kernel
theorem dX10_set_93 : decode cX10_set 93 = .ok (.iconst 3, 1) := by decide +kernel
theorem dX10_set_94 : decode cX10_set 94 = .ok (.if_icmp .ne 8, 3) := by decide +kernel
theorem dX10_set_97 : decode cX10_set 97 = .ok (.aload_n 0, 1) := by decide +kernel
theorem dX10_set_98 : decode cX10_set 98 = .ok (.iload_n 3, 1) := by decide +kernel
theorem dX10_set_99 : decode cX10_set 99 = .ok (.putfield 119, 3) := by decide +kernel
theorem dX10_set_102 : decode cX10_set 102 = .ok (.aload_n 0, 1) := by decide +kernel
theorem dX10_set_103 : decode cX10_set 103 = .ok (.iconst 0, 1) := by decide +kernel
theorem dX10_set_104 : decode cX10_set 104 = .ok (.putfield 93, 3) := by decide +kernel
theorem dX10_set_107 : decode cX10_set 107 = .ok (.iconst 1, 1) := by decide +kernel
theorem dX10_set_108 : decode cX10_set 108 = .ok (.ireturn, 1) := by decide +kernel
theorem dX10_types_0 : decode cX10_types 0 = .ok (.bipush 24, 2) := by decide +kernel
theorem dX10_types_2 : decode cX10_types 2 = .ok (.istore_n 2, 1) := by decide +kernel
theorem dX10_types_3 : decode cX10_types 3 = .ok (.iload_n 2, 1) := by decide +kernel
theorem dX10_types_4 : decode cX10_types 4 = .ok (.ifCond .lt 35, 3) := by decide +kernel
theorem dX10_types_7 : decode cX10_types 7 = .ok (.aload_n 0, 1) := by decide +kernel
theorem dX10_types_8 : decode cX10_types 8 = .ok (.getfield 22, 3) := by decide +kernel
theorem dX10_types_11 : decode cX10_types 11 = .ok (.aload_n 0, 1) := by decide +kernel
theorem dX10_types_12 : decode cX10_types 12 = .ok (.getfield 122, 3) := by decide +kernel
theorem dX10_types_15 : decode cX10_types 15 = .ok (.iload_n 1, 1) := by decide +kernel
theorem dX10_types_16 : decode cX10_types 16 = .ok (.iload_n 2, 1) := by decide +kernel
theorem dX10_types_17 : decode cX10_types 17 = .ok (.ishr, 1) := by decide +kernel
theorem dX10_types_18 : decode cX10_types 18 = .ok (.sipush 255, 3) := by decide +kernel
theorem dX10_types_21 : decode cX10_types 21 = .ok (.iand, 1) := by decide +kernel
theorem dX10_types_22 : decode cX10_types 22 = .ok (.iastore, 1) := by decide +kernel
theorem dX10_types_23 : decode cX10_types 23 = .ok (.aload_n 0, 1) := by decide +kernel
theorem dX10_types_24 : decode cX10_types 24 = .ok (.aload_n 0, 1) := by decide +kernel
theorem dX10_types_25 : decode cX10_types 25 = .ok (.getfield 122, 3) := by decide +kernel
theorem dX10_types_28 : decode cX10_types 28 = .ok (.iconst 1, 1) := by decide +kernel
theorem dX10_types_29 : decode cX10_types 29 = .ok (.iadd, 1) := by decide +kernel
theorem dX10_types_30 : decode cX10_types 30 = .ok (.putfield 122, 3) := by decide +kernel
theorem dX10_types_33 : decode cX10_types 33 = .ok (.iinc 2 (-8), 3) := by decide +kernel
theorem dX10_types_36 : decode cX10_types 36 = .ok (.goto (-33), 3) := by decide +kernel
theorem dX10_types_39 : decode cX10_types 39 = .ok (.return_, 1) := by decide +kernel
theorem dX10_feed_0 : decode cX10_feed 0 = .ok (.aload_n 0, 1) := by decide +kernel
theorem dX10_feed_1 : decode cX10_feed 1 = .ok (.iconst 0, 1) := by decide +kernel
theorem dX10_feed_2 : decode cX10_feed 2 = .ok (.putfield 90, 3) := by decide +kernel
theorem dX10_feed_5 : decode cX10_feed 5 = .ok (.aload_n 0, 1) := by decide +kernel
theorem dX10_feed_6 : decode cX10_feed 6 = .ok (.getfield 122, 3) := by decide +kernel
theorem dX10_feed_9 : decode cX10_feed 9 = .ok (.sipush 380, 3) := by decide +kernel
theorem dX10_feed_12 : decode cX10_feed 12 = .ok (.if_icmp .le 5, 3) := by decide +kernel
theorem dX10_feed_15 : decode cX10_feed 15 = .ok (.iconst (-1), 1) := by decide +kernel
theorem dX10_feed_16 : decode cX10_feed 16 = .ok (.ireturn, 1) := by decide +kernel
theorem dX10_feed_17 : decode cX10_feed 17 = .ok (.aload_n 0, 1) := by decide +kernel
theorem dX10_feed_18 : decode cX10_feed 18 = .ok (.iload_n 1, 1) := by decide +kernel
theorem dX10_feed_19 : decode cX10_feed 19 = .ok (.invokevirtual 125, 3) := by decide +kernel
theorem dX10_feed_22 : decode cX10_feed 22 = .ok (.aload_n 0, 1) := by decide +kernel
theorem dX10_feed_23 : decode cX10_feed 23 = .ok (.iload_n 2, 1) := by decide +kernel
theorem dX10_feed_24 : decode cX10_feed 24 = .ok (.invokevirtual 125, 3) := by decide +kernel
theorem dX10_feed_27 : decode cX10_feed 27 = .ok (.aload_n 0, 1) := by decide +kernel
theorem dX10_feed_28 : decode cX10_feed 28 = .ok (.iload_n 3, 1) := by decide +kernel
theorem dX10_feed_29 : decode cX10_feed 29 = .ok (.invokevirtual 125, 3) := by decide +kernel
theorem dX10_feed_32 : decode cX10_feed 32 = .ok (.aload_n 0, 1) := by decide +kernel
theorem dX10_feed_33 : decode cX10_feed 33 = .ok (.iload 4, 2) := by decide +kernel
theorem dX10_feed_35 : decode cX10_feed 35 = .ok (.invokevirtual 125, 3) := by decide +kernel
theorem dX10_feed_38 : decode cX10_feed 38 = .ok (.aload_n 0, 1) := by decide +kernel
theorem dX10_feed_39 : decode cX10_feed 39 = .ok (.iload 5, 2) := by decide +kernel
theorem dX10_feed_41 : decode cX10_feed 41 = .ok (.invokevirtual 125, 3) := by decide +kernel
theorem dX10_feed_44 : decode cX10_feed 44 = .ok (.aload_n 0, 1) := by decide +kernel
theorem dX10_feed_45 : decode cX10_feed 45 = .ok (.getfield 122, 3) := by decide +kernel
theorem dX10_feed_48 : decode cX10_feed 48 = .ok (.ireturn, 1) := by decide +kernel
theorem dX10_end_0 : decode cX10_end 0 = .ok (.aload_n 0, 1) := by decide +kernel
theorem dX10_end_1 : decode cX10_end 1 = .ok (.iconst 0, 1) := by decide +kernel
theorem dX10_end_2 : decode cX10_end 2 = .ok (.putfield 90, 3) := by decide +kernel
theorem dX10_end_5 : decode cX10_end 5 = .ok (.aload_n 0, 1) := by decide +kernel
theorem dX10_end_6 : decode cX10_end 6 = .ok (.iload_n 1, 1) := by decide +kernel
theorem dX10_end_7 : decode cX10_end 7 = .ok (.iconst 0, 1) := by decide +kernel
theorem dX10_end_8 : decode cX10_end 8 = .ok (.aload_n 0, 1) := by decide +kernel
theorem dX10_end_9 : decode cX10_end 9 = .ok (.getfield 122, 3) := by decide +kernel
theorem dX10_end_12 : decode cX10_end 12 = .ok (.invokevirtual 101, 3) := by decide +kernel
theorem dX10_end_15 : decode cX10_end 15 = .ok (.ifCond .ne 5, 3) := by decide +kernel
theorem dX10_end_18 : decode cX10_end 18 = .ok (.iconst 0, 1) := by decide +kernel
theorem dX10_end_19 : decode cX10_end 19 = .ok (.ireturn, 1) := by decide +kernel
theorem dX10_end_20 : decode cX10_end 20 = .ok (.aload_n 0, 1) := by decide +kernel
theorem dX10_end_21 : decode cX10_end 21 = .ok (.iload_n 1, 1) := by decide +kernel
theorem dX10_end_22 : decode cX10_end 22 = .ok (.putfield 122, 3) := by decide +kernel
theorem dX10_end_25 : decode cX10_end 25 = .ok (.iconst 1, 1) := by decide +kernel
theorem dX10_end_26 : decode cX10_end 26 = .ok (.ireturn, 1) := by decide +kernel
theorem dX10_raw_0 : decode cX10_raw 0 = .ok (.iload_n 1, 1) := by decide +kernel
theorem dX10_raw_1 : decode cX10_raw 1 = .ok (.aload_n 0, 1) := by decide +kernel
theorem dX10_raw_2 : decode cX10_raw 2 = .ok (.getfield 122, 3) := by decide +kernel
theorem dX10_raw_5 : decode cX10_raw 5 = .ok (.if_icmp .ge 12, 3) := by decide +kernel
theorem dX10_raw_8 : decode cX10_raw 8 = .ok (.aload_n 0, 1) := by decide +kernel
theorem dX10_raw_9 : decode cX10_raw 9 = .ok (.getfield 22, 3) := by decide +kernel
theorem dX10_raw_12 : decode cX10_raw 12 = .ok (.iload_n 1, 1) := by decide +kernel
theorem dX10_raw_13 : decode cX10_raw 13 = .ok (.iaload, 1) := by decide +kernel
theorem dX10_raw_14 : decode cX10_raw 14 = .ok (.goto 4, 3) := by decide +kernel
theorem dX10_raw_17 : decode cX10_raw 17 = .ok (.iconst (-1), 1) := by decide +kernel
theorem dX10_raw_18 : decode cX10_raw 18 = .ok (.ireturn, 1) := by decide +kernel
theorem dX10_isLetter_0 : decode cX10_isLetter 0 = .ok (.aload_n 0, 1) := by decide +kernel
theorem dX10_isLetter_1 : decode cX10_isLetter 1 = .ok (.iload_n 1, 1) := by decide +kernel
theorem dX10_isLetter_2 : decode cX10_isLetter 2 = .ok (.bipush 97, 2) := by decide +kernel
theorem dX10_isLetter_4 : decode cX10_isLetter 4 = .ok (.bipush 122, 2) := by decide +kernel
theorem dX10_isLetter_6 : decode cX10_isLetter 6 = .ok (.invokevirtual 101, 3) := by decide +kernel
theorem dX10_isLetter_9 : decode cX10_isLetter 9 = .ok (.ifCond .ne 15, 3) := by decide +kernel
theorem dX10_isLetter_12 : decode cX10_isLetter 12 = .ok (.aload_n 0, 1) := by decide +kernel
theorem dX10_isLetter_13 : decode cX10_isLetter 13 = .ok (.iload_n 1, 1) := by decide +kernel
theorem dX10_isLetter_14 : decode cX10_isLetter 14 = .ok (.bipush 65, 2) := by decide +kernel
theorem dX10_isLetter_16 : decode cX10_isLetter 16 = .ok (.bipush 90, 2) := by decide +kernel
theorem dX10_isLetter_18 : decode cX10_isLetter 18 = .ok (.invokevirtual 101, 3) := by decide +kernel
theorem dX10_isLetter_21 : decode cX10_isLetter 21 = .ok (.ifCond .eq 7, 3) := by decide +kernel
theorem dX10_isLetter_24 : decode cX10_isLetter 24 = .ok (.iconst 1, 1) := by decide +kernel
theorem dX10_isLetter_25 : decode cX10_isLetter 25 = .ok (.goto 4, 3) := by decide +kernel
theorem dX10_isLetter_28 : decode cX10_isLetter 28 = .ok (.iconst 0, 1) := by decide +kernel
theorem dX10_isLetter_29 : decode cX10_isLetter 29 = .ok (.ireturn, 1) := by decide +kernel
theorem dX10_isDigit_0 : decode cX10_isDigit 0 = .ok (.aload_n 0, 1) := by decide +kernel
theorem dX10_isDigit_1 : decode cX10_isDigit 1 = .ok (.iload_n 1, 1) := by decide +kernel
theorem dX10_isDigit_2 : decode cX10_isDigit 2 = .ok (.bipush 48, 2) := by decide +kernel
theorem dX10_isDigit_4 : decode cX10_isDigit 4 = .ok (.bipush 57, 2) := by decide +kernel
theorem dX10_isDigit_6 : decode cX10_isDigit 6 = .ok (.invokevirtual 101, 3) := by decide +kernel
theorem dX10_isDigit_9 : decode cX10_isDigit 9 = .ok (.ireturn, 1) := by decide +kernel
theorem dX10_isMarkSign_0 : decode cX10_isMarkSign 0 = .ok (.iload_n 1, 1) := by decide +kernel
theorem dX10_isMarkSign_1 : decode cX10_isMarkSign 1 = .ok (.bipush 59, 2) := by decide +kernel
theorem dX10_isMarkSign_3 : decode cX10_isMarkSign 3 = .ok (.if_icmp .eq 57, 3) := by decide +kernel
theorem dX10_isMarkSign_6 : decode cX10_isMarkSign 6 = .ok (.iload_n 1, 1) := by decide +kernel
theorem dX10_isMarkSign_7 : decode cX10_isMarkSign 7 = .ok (.bipush 43, 2) := by decide +kernel
theorem dX10_isMarkSign_9 : decode cX10_isMarkSign 9 = .ok (.if_icmp .eq 51, 3) := by decide +kernel
theorem dX10_isMarkSign_12 : decode cX10_isMarkSign 12 = .ok (.iload_n 1, 1) := by decide +kernel
theorem dX10_isMarkSign_13 : decode cX10_isMarkSign 13 = .ok (.bipush 45, 2) := by decide +kernel
theorem dX10_isMarkSign_15 : decode cX10_isMarkSign 15 = .ok (.if_icmp .eq 45, 3) := by decide +kernel
theorem dX10_isMarkSign_18 : decode cX10_isMarkSign 18 = .ok (.iload_n 1, 1) := by decide +kernel
theorem dX10_isMarkSign_19 : decode cX10_isMarkSign 19 = .ok (.bipush 42, 2) := by decide +kernel
theorem dX10_isMarkSign_21 : decode cX10_isMarkSign 21 = .ok (.if_icmp .eq 39, 3) := by decide +kernel
theorem dX10_isMarkSign_24 : decode cX10_isMarkSign 24 = .ok (.iload_n 1, 1) := by decide +kernel
theorem dX10_isMarkSign_25 : decode cX10_isMarkSign 25 = .ok (.bipush 47, 2) := by decide +kernel
theorem dX10_isMarkSign_27 : decode cX10_isMarkSign 27 = .ok (.if_icmp .eq 33, 3) := by decide +kernel
theorem dX10_isMarkSign_30 : decode cX10_isMarkSign 30 = .ok (.iload_n 1, 1) := by decide +kernel
theorem dX10_isMarkSign_31 : decode cX10_isMarkSign 31 = .ok (.bipush 40, 2) := by decide +kernel
theorem dX10_isMarkSign_33 : decode cX10_isMarkSign 33 = .ok (.if_icmp .eq 27, 3) := by decide +kernel
theorem dX10_isMarkSign_36 : decode cX10_isMarkSign 36 = .ok (.iload_n 1, 1) := by decide +kernel
theorem dX10_isMarkSign_37 : decode cX10_isMarkSign 37 = .ok (.bipush 41, 2) := by decide +kernel
theorem dX10_isMarkSign_39 : decode cX10_isMarkSign 39 = .ok (.if_icmp .eq 21, 3) := by decide +kernel
theorem dX10_isMarkSign_42 : decode cX10_isMarkSign 42 = .ok (.iload_n 1, 1) := by decide +kernel
theorem dX10_isMarkSign_43 : decode cX10_isMarkSign 43 = .ok (.bipush 60, 2) := by decide +kernel
theorem dX10_isMarkSign_45 : decode cX10_isMarkSign 45 = .ok (.if_icmp .eq 15, 3) := by decide +kernel
theorem dX10_isMarkSign_48 : decode cX10_isMarkSign 48 = .ok (.iload_n 1, 1) := by decide +kernel
theorem dX10_isMarkSign_49 : decode cX10_isMarkSign 49 = .ok (.bipush 61, 2) := by decide +kernel
theorem dX10_isMarkSign_51 : decode cX10_isMarkSign 51 = .ok (.if_icmp .eq 9, 3) := by decide +kernel
theorem dX10_isMarkSign_54 : decode cX10_isMarkSign 54 = .ok (.iload_n 1, 1) := by decide +kernel
theorem dX10_isMarkSign_55 : decode cX10_isMarkSign 55 = .ok (.bipush 62, 2) := by decide +kernel
theorem dX10_isMarkSign_57 : decode cX10_isMarkSign 57 = .ok (.if_icmp .ne 7, 3) := by decide +kernel
theorem dX10_isMarkSign_60 : decode cX10_isMarkSign 60 = .ok (.iconst 1, 1) := by decide +kernel
theorem dX10_isMarkSign_61 : decode cX10_isMarkSign 61 = .ok (.goto 4, 3) := by decide +kernel
theorem dX10_isMarkSign_64 : decode cX10_isMarkSign 64 = .ok (.iconst 0, 1) := by decide +kernel
theorem dX10_isMarkSign_65 : decode cX10_isMarkSign 65 = .ok (.ireturn, 1) := by decide +kernel
theorem dX10_wordAt_0 : decode cX10_wordAt 0 = .ok (.iconst (-1), 1) := by decide +kernel
theorem dX10_wordAt_1 : decode cX10_wordAt 1 = .ok (.istore_n 3, 1) := by decide +kernel
theorem dX10_wordAt_2 : decode cX10_wordAt 2 = .ok (.iconst 0, 1) := by decide +kernel
theorem dX10_wordAt_3 : decode cX10_wordAt 3 = .ok (.istore 4, 2) := by decide +kernel
theorem dX10_wordAt_5 : decode cX10_wordAt 5 = .ok (.iload 4, 2) := by decide +kernel
theorem dX10_wordAt_7 : decode cX10_wordAt 7 = .ok (.bipush 70, 2) := by decide +kernel
theorem dX10_wordAt_9 : decode cX10_wordAt 9 = .ok (.if_icmp .ge 108, 3) := by decide +kernel
theorem dX10_wordAt_12 : decode cX10_wordAt 12 = .ok (.iconst 0, 1) := by decide +kernel
theorem dX10_wordAt_13 : decode cX10_wordAt 13 = .ok (.istore 5, 2) := by decide +kernel
theorem dX10_wordAt_15 : decode cX10_wordAt 15 = .ok (.iload_n 3, 1) := by decide +kernel
theorem dX10_wordAt_16 : decode cX10_wordAt 16 = .ok (.iconst 1, 1) := by decide +kernel
theorem dX10_wordAt_17 : decode cX10_wordAt 17 = .ok (.iadd, 1) := by decide +kernel
theorem dX10_wordAt_18 : decode cX10_wordAt 18 = .ok (.istore_n 3, 1) := by decide +kernel
theorem dX10_wordAt_19 : decode cX10_wordAt 19 = .ok (.iload_n 1, 1) := by decide +kernel
theorem dX10_wordAt_20 : decode cX10_wordAt 20 = .ok (.iload 5, 2) := by decide +kernel
theorem dX10_wordAt_22 : decode cX10_wordAt 22 = .ok (.iadd, 1) := by decide +kernel
theorem dX10_wordAt_23 : decode cX10_wordAt 23 = .ok (.iload_n 2, 1) := by decide +kernel
theorem dX10_wordAt_24 : decode cX10_wordAt 24 = .ok (.if_icmp .ge 36, 3) := by decide +kernel
theorem dX10_wordAt_27 : decode cX10_wordAt 27 = .ok (.aload_n 0, 1) := by decide +kernel
theorem dX10_wordAt_28 : decode cX10_wordAt 28 = .ok (.getfield 25, 3) := by decide +kernel
theorem dX10_wordAt_31 : decode cX10_wordAt 31 = .ok (.iload 4, 2) := by decide +kernel
theorem dX10_wordAt_33 : decode cX10_wordAt 33 = .ok (.iconst 1, 1) := by decide +kernel
theorem dX10_wordAt_34 : decode cX10_wordAt 34 = .ok (.iadd, 1) := by decide +kernel
theorem dX10_wordAt_35 : decode cX10_wordAt 35 = .ok (.iload 5, 2) := by decide +kernel
theorem dX10_wordAt_37 : decode cX10_wordAt 37 = .ok (.iadd, 1) := by decide +kernel
theorem dX10_wordAt_38 : decode cX10_wordAt 38 = .ok (.iaload, 1) := by decide +kernel
theorem dX10_wordAt_39 : decode cX10_wordAt 39 = .ok (.aload_n 0, 1) := by decide +kernel
theorem dX10_wordAt_40 : decode cX10_wordAt 40 = .ok (.getfield 22, 3) := by decide +kernel
theorem dX10_wordAt_43 : decode cX10_wordAt 43 = .ok (.iload_n 1, 1) := by decide +kernel
theorem dX10_wordAt_44 : decode cX10_wordAt 44 = .ok (.iload 5, 2) := by decide +kernel
theorem dX10_wordAt_46 : decode cX10_wordAt 46 = .ok (.iadd, 1) := by decide +kernel
theorem dX10_wordAt_47 : decode cX10_wordAt 47 = .ok (.iaload, 1) := by decide +kernel
theorem dX10_wordAt_48 : decode cX10_wordAt 48 = .ok (.if_icmp .ne 12, 3) := by decide +kernel
theorem dX10_wordAt_51 : decode cX10_wordAt 51 = .ok (.iload 5, 2) := by decide +kernel
theorem dX10_wordAt_53 : decode cX10_wordAt 53 = .ok (.iconst 1, 1) := by decide +kernel
theorem dX10_wordAt_54 : decode cX10_wordAt 54 = .ok (.iadd, 1) := by decide +kernel
theorem dX10_wordAt_55 : decode cX10_wordAt 55 = .ok (.istore 5, 2) := by decide +kernel
theorem dX10_wordAt_57 : decode cX10_wordAt 57 = .ok (.goto (-38), 3) := by decide +kernel
theorem dX10_wordAt_60 : decode cX10_wordAt 60 = .ok (.iload_n 1, 1) := by decide +kernel
theorem dX10_wordAt_61 : decode cX10_wordAt 61 = .ok (.iload 5, 2) := by decide +kernel
theorem dX10_wordAt_63 : decode cX10_wordAt 63 = .ok (.iadd, 1) := by decide +kernel
theorem dX10_wordAt_64 : decode cX10_wordAt 64 = .ok (.iload_n 2, 1) := by decide +kernel
theorem dX10_wordAt_65 : decode cX10_wordAt 65 = .ok (.if_icmp .ne 22, 3) := by decide +kernel
theorem dX10_wordAt_68 : decode cX10_wordAt 68 = .ok (.aload_n 0, 1) := by decide +kernel
theorem dX10_wordAt_69 : decode cX10_wordAt 69 = .ok (.getfield 25, 3) := by decide +kernel
theorem dX10_wordAt_72 : decode cX10_wordAt 72 = .ok (.iload 4, 2) := by decide +kernel
theorem dX10_wordAt_74 : decode cX10_wordAt 74 = .ok (.iconst 1, 1) := by decide +kernel
theorem dX10_wordAt_75 : decode cX10_wordAt 75 = .ok (.iadd, 1) := by decide +kernel
theorem dX10_wordAt_76 : decode cX10_wordAt 76 = .ok (.iload 5, 2) := by decide +kernel
theorem dX10_wordAt_78 : decode cX10_wordAt 78 = .ok (.iadd, 1) := by decide +kernel
theorem dX10_wordAt_79 : decode cX10_wordAt 79 = .ok (.iaload, 1) := by decide +kernel
theorem dX10_wordAt_80 : decode cX10_wordAt 80 = .ok (.bipush 32, 2) := by decide +kernel
theorem dX10_wordAt_82 : decode cX10_wordAt 82 = .ok (.if_icmp .ne 5, 3) := by decide +kernel
theorem dX10_wordAt_85 : decode cX10_wordAt 85 = .ok (.iload_n 3, 1) := by decide +kernel
theorem dX10_wordAt_86 : decode cX10_wordAt 86 = .ok (.ireturn, 1) := by decide +kernel
theorem dX10_wordAt_87 : decode cX10_wordAt 87 = .ok (.iload 4, 2) := by decide +kernel
theorem dX10_wordAt_89 : decode cX10_wordAt 89 = .ok (.iconst 1, 1) := by decide +kernel
theorem dX10_wordAt_90 : decode cX10_wordAt 90 = .ok (.iadd, 1) := by decide +kernel
theorem dX10_wordAt_91 : decode cX10_wordAt 91 = .ok (.istore 4, 2) := by decide +kernel
theorem dX10_wordAt_93 : decode cX10_wordAt 93 = .ok (.aload_n 0, 1) := by decide +kernel
theorem dX10_wordAt_94 : decode cX10_wordAt 94 = .ok (.getfield 25, 3) := by decide +kernel
theorem dX10_wordAt_97 : decode cX10_wordAt 97 = .ok (.iload 4, 2) := by decide +kernel
theorem dX10_wordAt_99 : decode cX10_wordAt 99 = .ok (.iaload, 1) := by decide +kernel
theorem dX10_wordAt_100 : decode cX10_wordAt 100 = .ok (.bipush 32, 2) := by decide +kernel
theorem dX10_wordAt_102 : decode cX10_wordAt 102 = .ok (.if_icmp .eq 12, 3) := by decide +kernel
theorem dX10_wordAt_105 : decode cX10_wordAt 105 = .ok (.iload 4, 2) := by decide +kernel
theorem dX10_wordAt_107 : decode cX10_wordAt 107 = .ok (.iconst 1, 1) := by decide +kernel
theorem dX10_wordAt_108 : decode cX10_wordAt 108 = .ok (.iadd, 1) := by decide +kernel
theorem dX10_wordAt_109 : decode cX10_wordAt 109 = .ok (.istore 4, 2) := by decide +kernel
theorem dX10_wordAt_111 : decode cX10_wordAt 111 = .ok (.goto (-18), 3) := by decide +kernel
theorem dX10_wordAt_114 : decode cX10_wordAt 114 = .ok (.goto (-109), 3) := by decide +kernel
theorem dX10_wordAt_117 : decode cX10_wordAt 117 = .ok (.iconst (-1), 1) := by decide +kernel
theorem dX10_wordAt_118 : decode cX10_wordAt 118 = .ok (.ireturn, 1) := by decide +kernel
theorem dX10_reads_0 : decode cX10_reads 0 = .ok (.aload_n 0, 1) := by decide +kernel
theorem dX10_reads_1 : decode cX10_reads 1 = .ok (.aload_n 0, 1) := by decide +kernel
theorem dX10_reads_2 : decode cX10_reads 2 = .ok (.getfield 129, 3) := by decide +kernel
theorem dX10_reads_5 : decode cX10_reads 5 = .ok (.invokevirtual 132, 3) := by decide +kernel
theorem dX10_reads_8 : decode cX10_reads 8 = .ok (.bipush 32, 2) := by decide +kernel
theorem dX10_reads_10 : decode cX10_reads 10 = .ok (.if_icmp .eq 16, 3) := by decide +kernel
theorem dX10_reads_13 : decode cX10_reads 13 = .ok (.aload_n 0, 1) := by decide +kernel
theorem dX10_reads_14 : decode cX10_reads 14 = .ok (.aload_n 0, 1) := by decide +kernel
theorem dX10_reads_15 : decode cX10_reads 15 = .ok (.getfield 129, 3) := by decide +kernel
theorem dX10_reads_18 : decode cX10_reads 18 = .ok (.invokevirtual 132, 3) := by decide +kernel
theorem dX10_reads_21 : decode cX10_reads 21 = .ok (.bipush 10, 2) := by decide +kernel
theorem dX10_reads_23 : decode cX10_reads 23 = .ok (.if_icmp .ne 16, 3) := by decide +kernel
theorem dX10_reads_26 : decode cX10_reads 26 = .ok (.aload_n 0, 1) := by decide +kernel
theorem dX10_reads_27 : decode cX10_reads 27 = .ok (.aload_n 0, 1) := by decide +kernel
theorem dX10_reads_28 : decode cX10_reads 28 = .ok (.getfield 129, 3) := by decide +kernel
theorem dX10_reads_31 : decode cX10_reads 31 = .ok (.iconst 1, 1) := by decide +kernel
theorem dX10_reads_32 : decode cX10_reads 32 = .ok (.iadd, 1) := by decide +kernel
theorem dX10_reads_33 : decode cX10_reads 33 = .ok (.putfield 129, 3) := by decide +kernel
theorem dX10_reads_36 : decode cX10_reads 36 = .ok (.goto (-36), 3) := by decide +kernel
theorem dX10_reads_39 : decode cX10_reads 39 = .ok (.aload_n 0, 1) := by decide +kernel
theorem dX10_reads_40 : decode cX10_reads 40 = .ok (.aload_n 0, 1) := by decide +kernel
theorem dX10_reads_41 : decode cX10_reads 41 = .ok (.getfield 129, 3) := by decide +kernel
theorem dX10_reads_44 : decode cX10_reads 44 = .ok (.putfield 135, 3) := by decide +kernel
theorem dX10_reads_47 : decode cX10_reads 47 = .ok (.aload_n 0, 1) := by decide +kernel
theorem dX10_reads_48 : decode cX10_reads 48 = .ok (.iconst 1, 1) := by decide +kernel
theorem dX10_reads_49 : decode cX10_reads 49 = .ok (.putfield 138, 3) := by decide +kernel
theorem dX10_reads_52 : decode cX10_reads 52 = .ok (.aload_n 0, 1) := by decide +kernel
theorem dX10_reads_53 : decode cX10_reads 53 = .ok (.aload_n 0, 1) := by decide +kernel
theorem dX10_reads_54 : decode cX10_reads 54 = .ok (.getfield 129, 3) := by decide +kernel
theorem dX10_reads_57 : decode cX10_reads 57 = .ok (.invokevirtual 132, 3) := by decide +kernel
theorem dX10_reads_60 : decode cX10_reads 60 = .ok (.istore_n 1, 1) := by decide +kernel
theorem dX10_reads_61 : decode cX10_reads 61 = .ok (.iload_n 1, 1) := by decide +kernel
theorem dX10_reads_62 : decode cX10_reads 62 = .ok (.iconst (-1), 1) := by decide +kernel
theorem dX10_reads_63 : decode cX10_reads 63 = .ok (.if_icmp .ne 9, 3) := by decide +kernel
theorem dX10_reads_66 : decode cX10_reads 66 = .ok (.aload_n 0, 1) := by decide +kernel
theorem dX10_reads_67 : decode cX10_reads 67 = .ok (.iconst 0, 1) := by decide +kernel
theorem dX10_reads_68 : decode cX10_reads 68 = .ok (.putfield 138, 3) := by decide +kernel
theorem dX10_reads_71 : decode cX10_reads 71 = .ok (.return_, 1) := by decide +kernel
theorem dX10_reads_72 : decode cX10_reads 72 = .ok (.aload_n 0, 1) := by decide +kernel
theorem dX10_reads_73 : decode cX10_reads 73 = .ok (.aload_n 0, 1) := by decide +kernel
theorem dX10_reads_74 : decode cX10_reads 74 = .ok (.getfield 129, 3) := by decide +kernel
theorem dX10_reads_77 : decode cX10_reads 77 = .ok (.iconst 1, 1) := by decide +kernel
theorem dX10_reads_78 : decode cX10_reads 78 = .ok (.iadd, 1) := by decide +kernel
theorem dX10_reads_79 : decode cX10_reads 79 = .ok (.putfield 129, 3) := by decide +kernel
theorem dX10_reads_82 : decode cX10_reads 82 = .ok (.aload_n 0, 1) := by decide +kernel
theorem dX10_reads_83 : decode cX10_reads 83 = .ok (.iload_n 1, 1) := by decide +kernel
theorem dX10_reads_84 : decode cX10_reads 84 = .ok (.putfield 141, 3) := by decide +kernel
theorem dX10_reads_87 : decode cX10_reads 87 = .ok (.aload_n 0, 1) := by decide +kernel
theorem dX10_reads_88 : decode cX10_reads 88 = .ok (.iload_n 1, 1) := by decide +kernel
theorem dX10_reads_89 : decode cX10_reads 89 = .ok (.invokevirtual 144, 3) := by decide +kernel
theorem dX10_reads_92 : decode cX10_reads 92 = .ok (.ifCond .eq 63, 3) := by decide +kernel
theorem dX10_reads_95 : decode cX10_reads 95 = .ok (.aload_n 0, 1) := by decide +kernel
theorem dX10_reads_96 : decode cX10_reads 96 = .ok (.aload_n 0, 1) := by decide +kernel
theorem dX10_reads_97 : decode cX10_reads 97 = .ok (.aload_n 0, 1) := by decide +kernel
theorem dX10_reads_98 : decode cX10_reads 98 = .ok (.getfield 129, 3) := by decide +kernel
theorem dX10_reads_101 : decode cX10_reads 101 = .ok (.invokevirtual 132, 3) := by decide +kernel
theorem dX10_reads_104 : decode cX10_reads 104 = .ok (.invokevirtual 144, 3) := by decide +kernel
theorem dX10_reads_107 : decode cX10_reads 107 = .ok (.ifCond .eq 16, 3) := by decide +kernel
theorem dX10_reads_110 : decode cX10_reads 110 = .ok (.aload_n 0, 1) := by decide +kernel
theorem dX10_reads_111 : decode cX10_reads 111 = .ok (.aload_n 0, 1) := by decide +kernel
theorem dX10_reads_112 : decode cX10_reads 112 = .ok (.getfield 129, 3) := by decide +kernel
theorem dX10_reads_115 : decode cX10_reads 115 = .ok (.iconst 1, 1) := by decide +kernel
theorem dX10_reads_116 : decode cX10_reads 116 = .ok (.iadd, 1) := by decide +kernel
theorem dX10_reads_117 : decode cX10_reads 117 = .ok (.putfield 129, 3) := by decide +kernel
theorem dX10_reads_120 : decode cX10_reads 120 = .ok (.goto (-25), 3) := by decide +kernel
theorem dX10_reads_123 : decode cX10_reads 123 = .ok (.aload_n 0, 1) := by decide +kernel
theorem dX10_reads_124 : decode cX10_reads 124 = .ok (.aload_n 0, 1) := by decide +kernel
theorem dX10_reads_125 : decode cX10_reads 125 = .ok (.aload_n 0, 1) := by decide +kernel
theorem dX10_reads_126 : decode cX10_reads 126 = .ok (.getfield 135, 3) := by decide +kernel
theorem dX10_reads_129 : decode cX10_reads 129 = .ok (.aload_n 0, 1) := by decide +kernel
theorem dX10_reads_130 : decode cX10_reads 130 = .ok (.getfield 129, 3) := by decide +kernel
theorem dX10_reads_133 : decode cX10_reads 133 = .ok (.invokevirtual 147, 3) := by decide +kernel
theorem dX10_reads_136 : decode cX10_reads 136 = .ok (.putfield 141, 3) := by decide +kernel
theorem dX10_reads_139 : decode cX10_reads 139 = .ok (.aload_n 0, 1) := by decide +kernel
theorem dX10_reads_140 : decode cX10_reads 140 = .ok (.getfield 141, 3) := by decide +kernel
theorem dX10_reads_143 : decode cX10_reads 143 = .ok (.iconst (-1), 1) := by decide +kernel
theorem dX10_reads_144 : decode cX10_reads 144 = .ok (.if_icmp .eq 129, 3) := by decide +kernel
theorem dX10_reads_147 : decode cX10_reads 147 = .ok (.aload_n 0, 1) := by decide +kernel
theorem dX10_reads_148 : decode cX10_reads 148 = .ok (.iconst 2, 1) := by decide +kernel
theorem dX10_reads_149 : decode cX10_reads 149 = .ok (.putfield 138, 3) := by decide +kernel
theorem dX10_reads_152 : decode cX10_reads 152 = .ok (.goto 121, 3) := by decide +kernel
theorem dX10_reads_155 : decode cX10_reads 155 = .ok (.aload_n 0, 1) := by decide +kernel
theorem dX10_reads_156 : decode cX10_reads 156 = .ok (.iload_n 1, 1) := by decide +kernel
theorem dX10_reads_157 : decode cX10_reads 157 = .ok (.invokevirtual 151, 3) := by decide +kernel
theorem dX10_reads_160 : decode cX10_reads 160 = .ok (.ifCond .eq 100, 3) := by decide +kernel
theorem dX10_reads_163 : decode cX10_reads 163 = .ok (.aload_n 0, 1) := by decide +kernel
theorem dX10_reads_164 : decode cX10_reads 164 = .ok (.iload_n 1, 1) := by decide +kernel
theorem dX10_reads_165 : decode cX10_reads 165 = .ok (.bipush 48, 2) := by decide +kernel
theorem dX10_reads_167 : decode cX10_reads 167 = .ok (.isub, 1) := by decide +kernel
theorem dX10_reads_168 : decode cX10_reads 168 = .ok (.putfield 141, 3) := by decide +kernel
theorem dX10_reads_171 : decode cX10_reads 171 = .ok (.aload_n 0, 1) := by decide +kernel
theorem dX10_reads_172 : decode cX10_reads 172 = .ok (.aload_n 0, 1) := by decide +kernel
theorem dX10_reads_173 : decode cX10_reads 173 = .ok (.aload_n 0, 1) := by decide +kernel
theorem dX10_reads_174 : decode cX10_reads 174 = .ok (.getfield 129, 3) := by decide +kernel
theorem dX10_reads_177 : decode cX10_reads 177 = .ok (.invokevirtual 132, 3) := by decide +kernel
theorem dX10_reads_180 : decode cX10_reads 180 = .ok (.invokevirtual 151, 3) := by decide +kernel
theorem dX10_reads_183 : decode cX10_reads 183 = .ok (.ifCond .eq 56, 3) := by decide +kernel
theorem dX10_reads_186 : decode cX10_reads 186 = .ok (.aload_n 0, 1) := by decide +kernel
theorem dX10_reads_187 : decode cX10_reads 187 = .ok (.aload_n 0, 1) := by decide +kernel
theorem dX10_reads_188 : decode cX10_reads 188 = .ok (.getfield 141, 3) := by decide +kernel
theorem dX10_reads_191 : decode cX10_reads 191 = .ok (.sipush 10000, 3) := by decide +kernel
theorem dX10_reads_194 : decode cX10_reads 194 = .ok (.if_icmp .ge 25, 3) := by decide +kernel
theorem dX10_reads_197 : decode cX10_reads 197 = .ok (.bipush 10, 2) := by decide +kernel
theorem dX10_reads_199 : decode cX10_reads 199 = .ok (.aload_n 0, 1) := by decide +kernel
theorem dX10_reads_200 : decode cX10_reads 200 = .ok (.getfield 141, 3) := by decide +kernel
theorem dX10_reads_203 : decode cX10_reads 203 = .ok (.imul, 1) := by decide +kernel
theorem dX10_reads_204 : decode cX10_reads 204 = .ok (.aload_n 0, 1) := by decide +kernel
theorem dX10_reads_205 : decode cX10_reads 205 = .ok (.aload_n 0, 1) := by decide +kernel
theorem dX10_reads_206 : decode cX10_reads 206 = .ok (.getfield 129, 3) := by decide +kernel
theorem dX10_reads_209 : decode cX10_reads 209 = .ok (.invokevirtual 132, 3) := by decide +kernel
theorem dX10_reads_212 : decode cX10_reads 212 = .ok (.iadd, 1) := by decide +kernel
theorem dX10_reads_213 : decode cX10_reads 213 = .ok (.bipush 48, 2) := by decide +kernel
theorem dX10_reads_215 : decode cX10_reads 215 = .ok (.isub, 1) := by decide +kernel
theorem dX10_reads_216 : decode cX10_reads 216 = .ok (.goto 7, 3) := by decide +kernel
theorem dX10_reads_219 : decode cX10_reads 219 = .ok (.aload_n 0, 1) := by decide +kernel
theorem dX10_reads_220 : decode cX10_reads 220 = .ok (.getfield 141, 3) := by decide +kernel
theorem dX10_reads_223 : decode cX10_reads 223 = .ok (.putfield 141, 3) := by decide +kernel
theorem dX10_reads_226 : decode cX10_reads 226 = .ok (.aload_n 0, 1) := by decide +kernel
theorem dX10_reads_227 : decode cX10_reads 227 = .ok (.aload_n 0, 1) := by decide +kernel
theorem dX10_reads_228 : decode cX10_reads 228 = .ok (.getfield 129, 3) := by decide +kernel
theorem dX10_reads_231 : decode cX10_reads 231 = .ok (.iconst 1, 1) := by decide +kernel
theorem dX10_reads_232 : decode cX10_reads 232 = .ok (.iadd, 1) := by decide +kernel
theorem dX10_reads_233 : decode cX10_reads 233 = .ok (.putfield 129, 3) := by decide +kernel
theorem dX10_reads_236 : decode cX10_reads 236 = .ok (.goto (-65), 3) := by decide +kernel
theorem dX10_reads_239 : decode cX10_reads 239 = .ok (.aload_n 0, 1) := by decide +kernel
theorem dX10_reads_240 : decode cX10_reads 240 = .ok (.getfield 129, 3) := by decide +kernel
theorem dX10_reads_243 : decode cX10_reads 243 = .ok (.aload_n 0, 1) := by decide +kernel
theorem dX10_reads_244 : decode cX10_reads 244 = .ok (.getfield 135, 3) := by decide +kernel
theorem dX10_reads_247 : decode cX10_reads 247 = .ok (.isub, 1) := by decide +kernel
theorem dX10_reads_248 : decode cX10_reads 248 = .ok (.iconst 5, 1) := by decide +kernel
theorem dX10_reads_249 : decode cX10_reads 249 = .ok (.if_icmp .ge 24, 3) := by decide +kernel
theorem dX10_reads_252 : decode cX10_reads 252 = .ok (.aload_n 0, 1) := by decide +kernel
theorem dX10_reads_253 : decode cX10_reads 253 = .ok (.iconst 3, 1) := by decide +kernel
theorem dX10_reads_254 : decode cX10_reads 254 = .ok (.putfield 138, 3) := by decide +kernel
theorem dX10_reads_257 : decode cX10_reads 257 = .ok (.goto 16, 3) := by decide +kernel
theorem dX10_reads_260 : decode cX10_reads 260 = .ok (.aload_n 0, 1) := by decide +kernel
theorem dX10_reads_261 : decode cX10_reads 261 = .ok (.iload_n 1, 1) := by decide +kernel
theorem dX10_reads_262 : decode cX10_reads 262 = .ok (.invokevirtual 154, 3) := by decide +kernel
theorem dX10_reads_265 : decode cX10_reads 265 = .ok (.ifCond .eq 8, 3) := by decide +kernel
theorem dX10_reads_268 : decode cX10_reads 268 = .ok (.aload_n 0, 1) := by decide +kernel
theorem dX10_reads_269 : decode cX10_reads 269 = .ok (.iconst 4, 1) := by decide +kernel
theorem dX10_reads_270 : decode cX10_reads 270 = .ok (.putfield 138, 3) := by decide +kernel
theorem dX10_reads_273 : decode cX10_reads 273 = .ok (.return_, 1) := by decide +kernel
theorem dX10_errs_0 : decode cX10_errs 0 = .ok (.aload_n 0, 1) := by decide +kernel
theorem dX10_errs_1 : decode cX10_errs 1 = .ok (.iload_n 1, 1) := by decide +kernel
theorem dX10_errs_2 : decode cX10_errs 2 = .ok (.putfield 157, 3) := by decide +kernel
theorem dX10_errs_5 : decode cX10_errs 5 = .ok (.aload_n 0, 1) := by decide +kernel
theorem dX10_errs_6 : decode cX10_errs 6 = .ok (.aload_n 0, 1) := by decide +kernel
theorem dX10_errs_7 : decode cX10_errs 7 = .ok (.getfield 135, 3) := by decide +kernel
theorem dX10_errs_10 : decode cX10_errs 10 = .ok (.putfield 160, 3) := by decide +kernel
theorem dX10_errs_13 : decode cX10_errs 13 = .ok (.iconst (-1), 1) := by decide +kernel
theorem dX10_errs_14 : decode cX10_errs 14 = .ok (.ireturn, 1) := by decide +kernel
theorem dX10_isWord_0 : decode cX10_isWord 0 = .ok (.aload_n 0, 1) := by decide +kernel
theorem dX10_isWord_1 : decode cX10_isWord 1 = .ok (.getfield 138, 3) := by decide +kernel
theorem dX10_isWord_4 : decode cX10_isWord 4 = .ok (.iconst 2, 1) := by decide +kernel
theorem dX10_isWord_5 : decode cX10_isWord 5 = .ok (.if_icmp .ne 15, 3) := by decide +kernel
theorem dX10_isWord_8 : decode cX10_isWord 8 = .ok (.aload_n 0, 1) := by decide +kernel
theorem dX10_isWord_9 : decode cX10_isWord 9 = .ok (.getfield 141, 3) := by decide +kernel
theorem dX10_isWord_12 : decode cX10_isWord 12 = .ok (.iload_n 1, 1) := by decide +kernel
theorem dX10_isWord_13 : decode cX10_isWord 13 = .ok (.if_icmp .ne 7, 3) := by decide +kernel
theorem dX10_isWord_16 : decode cX10_isWord 16 = .ok (.iconst 1, 1) := by decide +kernel
theorem dX10_isWord_17 : decode cX10_isWord 17 = .ok (.goto 4, 3) := by decide +kernel
theorem dX10_isWord_20 : decode cX10_isWord 20 = .ok (.iconst 0, 1) := by decide +kernel
theorem dX10_isWord_21 : decode cX10_isWord 21 = .ok (.ireturn, 1) := by decide +kernel
theorem dX10_isSign_0 : decode cX10_isSign 0 = .ok (.aload_n 0, 1) := by decide +kernel
theorem dX10_isSign_1 : decode cX10_isSign 1 = .ok (.getfield 138, 3) := by decide +kernel
theorem dX10_isSign_4 : decode cX10_isSign 4 = .ok (.iconst 4, 1) := by decide +kernel
theorem dX10_isSign_5 : decode cX10_isSign 5 = .ok (.if_icmp .ne 15, 3) := by decide +kernel
theorem dX10_isSign_8 : decode cX10_isSign 8 = .ok (.aload_n 0, 1) := by decide +kernel
theorem dX10_isSign_9 : decode cX10_isSign 9 = .ok (.getfield 141, 3) := by decide +kernel
theorem dX10_isSign_12 : decode cX10_isSign 12 = .ok (.iload_n 1, 1) := by decide +kernel
theorem dX10_isSign_13 : decode cX10_isSign 13 = .ok (.if_icmp .ne 7, 3) := by decide +kernel
theorem dX10_isSign_16 : decode cX10_isSign 16 = .ok (.iconst 1, 1) := by decide +kernel
theorem dX10_isSign_17 : decode cX10_isSign 17 = .ok (.goto 4, 3) := by decide +kernel
theorem dX10_isSign_20 : decode cX10_isSign 20 = .ok (.iconst 0, 1) := by decide +kernel
theorem dX10_isSign_21 : decode cX10_isSign 21 = .ok (.ireturn, 1) := by decide +kernel
theorem dX10_emits_0 : decode cX10_emits 0 = .ok (.aload_n 0, 1) := by decide +kernel
theorem dX10_emits_1 : decode cX10_emits 1 = .ok (.getfield 37, 3) := by decide +kernel
theorem dX10_emits_4 : decode cX10_emits 4 = .ok (.sipush 400, 3) := by decide +kernel
theorem dX10_emits_7 : decode cX10_emits 7 = .ok (.aload_n 0, 1) := by decide +kernel
theorem dX10_emits_8 : decode cX10_emits 8 = .ok (.getfield 163, 3) := by decide +kernel
theorem dX10_emits_11 : decode cX10_emits 11 = .ok (.iadd, 1) := by decide +kernel
theorem dX10_emits_12 : decode cX10_emits 12 = .ok (.iload_n 1, 1) := by decide +kernel
theorem dX10_emits_13 : decode cX10_emits 13 = .ok (.iastore, 1) := by decide +kernel
theorem dX10_emits_14 : decode cX10_emits 14 = .ok (.aload_n 0, 1) := by decide +kernel
theorem dX10_emits_15 : decode cX10_emits 15 = .ok (.getfield 40, 3) := by decide +kernel
theorem dX10_emits_18 : decode cX10_emits 18 = .ok (.sipush 400, 3) := by decide +kernel
theorem dX10_emits_21 : decode cX10_emits 21 = .ok (.aload_n 0, 1) := by decide +kernel
theorem dX10_emits_22 : decode cX10_emits 22 = .ok (.getfield 163, 3) := by decide +kernel
theorem dX10_emits_25 : decode cX10_emits 25 = .ok (.iadd, 1) := by decide +kernel
theorem dX10_emits_26 : decode cX10_emits 26 = .ok (.iload_n 2, 1) := by decide +kernel
theorem dX10_emits_27 : decode cX10_emits 27 = .ok (.iastore, 1) := by decide +kernel
theorem dX10_emits_28 : decode cX10_emits 28 = .ok (.aload_n 0, 1) := by decide +kernel
theorem dX10_emits_29 : decode cX10_emits 29 = .ok (.aload_n 0, 1) := by decide +kernel
theorem dX10_emits_30 : decode cX10_emits 30 = .ok (.getfield 163, 3) := by decide +kernel
theorem dX10_emits_33 : decode cX10_emits 33 = .ok (.iconst 1, 1) := by decide +kernel
theorem dX10_emits_34 : decode cX10_emits 34 = .ok (.iadd, 1) := by decide +kernel
theorem dX10_emits_35 : decode cX10_emits 35 = .ok (.putfield 163, 3) := by decide +kernel
theorem dX10_emits_38 : decode cX10_emits 38 = .ok (.return_, 1) := by decide +kernel
theorem dX10_readUnit_0 : decode cX10_readUnit 0 = .ok (.aload_n 0, 1) := by decide +kernel
theorem dX10_readUnit_1 : decode cX10_readUnit 1 = .ok (.getfield 138, 3) := by decide +kernel
theorem dX10_readUnit_4 : decode cX10_readUnit 4 = .ok (.iconst 2, 1) := by decide +kernel
theorem dX10_readUnit_5 : decode cX10_readUnit 5 = .ok (.if_icmp .ne 16, 3) := by decide +kernel
theorem dX10_readUnit_8 : decode cX10_readUnit 8 = .ok (.aload_n 0, 1) := by decide +kernel
theorem dX10_readUnit_9 : decode cX10_readUnit 9 = .ok (.getfield 141, 3) := by decide +kernel
theorem dX10_readUnit_12 : decode cX10_readUnit 12 = .ok (.bipush 6, 2) := by decide +kernel
theorem dX10_readUnit_14 : decode cX10_readUnit 14 = .ok (.if_icmp .lt 7, 3) := by decide +kernel
theorem dX10_readUnit_17 : decode cX10_readUnit 17 = .ok (.iconst 1, 1) := by decide +kernel
theorem dX10_readUnit_18 : decode cX10_readUnit 18 = .ok (.goto 4, 3) := by decide +kernel
theorem dX10_readUnit_21 : decode cX10_readUnit 21 = .ok (.iconst 0, 1) := by decide +kernel
theorem dX10_readUnit_22 : decode cX10_readUnit 22 = .ok (.istore_n 1, 1) := by decide +kernel
theorem dX10_readUnit_23 : decode cX10_readUnit 23 = .ok (.iload_n 1, 1) := by decide +kernel
theorem dX10_readUnit_24 : decode cX10_readUnit 24 = .ok (.ifCond .ne 17, 3) := by decide +kernel
theorem dX10_readUnit_27 : decode cX10_readUnit 27 = .ok (.aload_n 0, 1) := by decide +kernel
theorem dX10_readUnit_28 : decode cX10_readUnit 28 = .ok (.getfield 138, 3) := by decide +kernel
theorem dX10_readUnit_31 : decode cX10_readUnit 31 = .ok (.iconst 3, 1) := by decide +kernel
theorem dX10_readUnit_32 : decode cX10_readUnit 32 = .ok (.if_icmp .eq 9, 3) := by decide +kernel
theorem dX10_readUnit_35 : decode cX10_readUnit 35 = .ok (.aload_n 0, 1) := by decide +kernel
theorem dX10_readUnit_36 : decode cX10_readUnit 36 = .ok (.iconst 1, 1) := by decide +kernel
theorem dX10_readUnit_37 : decode cX10_readUnit 37 = .ok (.invokevirtual 166, 3) := by decide +kernel
theorem dX10_readUnit_40 : decode cX10_readUnit 40 = .ok (.ireturn, 1) := by decide +kernel
theorem dX10_readUnit_41 : decode cX10_readUnit 41 = .ok (.aload_n 0, 1) := by decide +kernel
theorem dX10_readUnit_42 : decode cX10_readUnit 42 = .ok (.iload_n 1, 1) := by decide +kernel
theorem dX10_readUnit_43 : decode cX10_readUnit 43 = .ok (.ifCond .eq 7, 3) := by decide +kernel
theorem dX10_readUnit_46 : decode cX10_readUnit 46 = .ok (.iconst 1, 1) := by decide +kernel
theorem dX10_readUnit_47 : decode cX10_readUnit 47 = .ok (.goto 4, 3) := by decide +kernel
theorem dX10_readUnit_50 : decode cX10_readUnit 50 = .ok (.iconst 0, 1) := by decide +kernel
theorem dX10_readUnit_51 : decode cX10_readUnit 51 = .ok (.iload_n 1, 1) := by decide +kernel
theorem dX10_readUnit_52 : decode cX10_readUnit 52 = .ok (.ifCond .eq 13, 3) := by decide +kernel
theorem dX10_readUnit_55 : decode cX10_readUnit 55 = .ok (.aload_n 0, 1) := by decide +kernel
theorem dX10_readUnit_56 : decode cX10_readUnit 56 = .ok (.getfield 141, 3) := by decide +kernel
theorem dX10_readUnit_59 : decode cX10_readUnit 59 = .ok (.bipush 6, 2) := by decide +kernel
theorem dX10_readUnit_61 : decode cX10_readUnit 61 = .ok (.isub, 1) := by decide +kernel
theorem dX10_readUnit_62 : decode cX10_readUnit 62 = .ok (.goto 7, 3) := by decide +kernel
theorem dX10_readUnit_65 : decode cX10_readUnit 65 = .ok (.aload_n 0, 1) := by decide +kernel
theorem dX10_readUnit_66 : decode cX10_readUnit 66 = .ok (.getfield 141, 3) := by decide +kernel
theorem dX10_readUnit_69 : decode cX10_readUnit 69 = .ok (.invokevirtual 169, 3) := by decide +kernel
theorem dX10_readUnit_72 : decode cX10_readUnit 72 = .ok (.aload_n 0, 1) := by decide +kernel
theorem dX10_readUnit_73 : decode cX10_readUnit 73 = .ok (.invokevirtual 173, 3) := by decide +kernel
theorem dX10_readUnit_76 : decode cX10_readUnit 76 = .ok (.iconst 0, 1) := by decide +kernel
theorem dX10_readUnit_77 : decode cX10_readUnit 77 = .ok (.ireturn, 1) := by decide +kernel
theorem dX10_readProduct_0 : decode cX10_readProduct 0 = .ok (.aload_n 0, 1) := by decide +kernel
theorem dX10_readProduct_1 : decode cX10_readProduct 1 = .ok (.invokevirtual 176, 3) := by decide +kernel
theorem dX10_readProduct_4 : decode cX10_readProduct 4 = .ok (.iconst (-1), 1) := by decide +kernel
theorem dX10_readProduct_5 : decode cX10_readProduct 5 = .ok (.if_icmp .ne 5, 3) := by decide +kernel
theorem dX10_readProduct_8 : decode cX10_readProduct 8 = .ok (.iconst (-1), 1) := by decide +kernel
theorem dX10_readProduct_9 : decode cX10_readProduct 9 = .ok (.ireturn, 1) := by decide +kernel
theorem dX10_readProduct_10 : decode cX10_readProduct 10 = .ok (.aload_n 0, 1) := by decide +kernel
theorem dX10_readProduct_11 : decode cX10_readProduct 11 = .ok (.bipush 42, 2) := by decide +kernel
theorem dX10_readProduct_13 : decode cX10_readProduct 13 = .ok (.invokevirtual 180, 3) := by decide +kernel
theorem dX10_readProduct_16 : decode cX10_readProduct 16 = .ok (.ifCond .ne 12, 3) := by decide +kernel
theorem dX10_readProduct_19 : decode cX10_readProduct 19 = .ok (.aload_n 0, 1) := by decide +kernel
theorem dX10_readProduct_20 : decode cX10_readProduct 20 = .ok (.bipush 47, 2) := by decide +kernel
theorem dX10_readProduct_22 : decode cX10_readProduct 22 = .ok (.invokevirtual 180, 3) := by decide +kernel
theorem dX10_readProduct_25 : decode cX10_readProduct 25 = .ok (.ifCond .eq 76, 3) := by decide +kernel
theorem dX10_readProduct_28 : decode cX10_readProduct 28 = .ok (.aload_n 0, 1) := by decide +kernel
theorem dX10_readProduct_29 : decode cX10_readProduct 29 = .ok (.bipush 42, 2) := by decide +kernel
theorem dX10_readProduct_31 : decode cX10_readProduct 31 = .ok (.invokevirtual 180, 3) := by decide +kernel
theorem dX10_readProduct_34 : decode cX10_readProduct 34 = .ok (.istore_n 1, 1) := by decide +kernel
theorem dX10_readProduct_35 : decode cX10_readProduct 35 = .ok (.aload_n 0, 1) := by decide +kernel
theorem dX10_readProduct_36 : decode cX10_readProduct 36 = .ok (.invokevirtual 173, 3) := by decide +kernel
theorem dX10_readProduct_39 : decode cX10_readProduct 39 = .ok (.iload_n 1, 1) := by decide +kernel
theorem dX10_readProduct_40 : decode cX10_readProduct 40 = .ok (.ifCond .ne 17, 3) := by decide +kernel
theorem dX10_readProduct_43 : decode cX10_readProduct 43 = .ok (.aload_n 0, 1) := by decide +kernel
theorem dX10_readProduct_44 : decode cX10_readProduct 44 = .ok (.getfield 138, 3) := by decide +kernel
theorem dX10_readProduct_47 : decode cX10_readProduct 47 = .ok (.iconst 3, 1) := by decide +kernel
theorem dX10_readProduct_48 : decode cX10_readProduct 48 = .ok (.if_icmp .eq 9, 3) := by decide +kernel
theorem dX10_readProduct_51 : decode cX10_readProduct 51 = .ok (.aload_n 0, 1) := by decide +kernel
theorem dX10_readProduct_52 : decode cX10_readProduct 52 = .ok (.iconst 1, 1) := by decide +kernel
theorem dX10_readProduct_53 : decode cX10_readProduct 53 = .ok (.invokevirtual 166, 3) := by decide +kernel
theorem dX10_readProduct_56 : decode cX10_readProduct 56 = .ok (.ireturn, 1) := by decide +kernel
theorem dX10_readProduct_57 : decode cX10_readProduct 57 = .ok (.iload_n 1, 1) := by decide +kernel
theorem dX10_readProduct_58 : decode cX10_readProduct 58 = .ok (.ifCond .ne 16, 3) := by decide +kernel
theorem dX10_readProduct_61 : decode cX10_readProduct 61 = .ok (.aload_n 0, 1) := by decide +kernel
theorem dX10_readProduct_62 : decode cX10_readProduct 62 = .ok (.getfield 141, 3) := by decide +kernel
theorem dX10_readProduct_65 : decode cX10_readProduct 65 = .ok (.ifCond .ne 9, 3) := by decide +kernel
theorem dX10_readProduct_68 : decode cX10_readProduct 68 = .ok (.aload_n 0, 1) := by decide +kernel
theorem dX10_readProduct_69 : decode cX10_readProduct 69 = .ok (.iconst 2, 1) := by decide +kernel
theorem dX10_readProduct_70 : decode cX10_readProduct 70 = .ok (.invokevirtual 166, 3) := by decide +kernel
theorem dX10_readProduct_73 : decode cX10_readProduct 73 = .ok (.ireturn, 1) := by decide +kernel
theorem dX10_readProduct_74 : decode cX10_readProduct 74 = .ok (.aload_n 0, 1) := by decide +kernel
theorem dX10_readProduct_75 : decode cX10_readProduct 75 = .ok (.invokevirtual 176, 3) := by decide +kernel
theorem dX10_readProduct_78 : decode cX10_readProduct 78 = .ok (.iconst (-1), 1) := by decide +kernel
theorem dX10_readProduct_79 : decode cX10_readProduct 79 = .ok (.if_icmp .ne 5, 3) := by decide +kernel
theorem dX10_readProduct_82 : decode cX10_readProduct 82 = .ok (.iconst (-1), 1) := by decide +kernel
theorem dX10_readProduct_83 : decode cX10_readProduct 83 = .ok (.ireturn, 1) := by decide +kernel
theorem dX10_readProduct_84 : decode cX10_readProduct 84 = .ok (.aload_n 0, 1) := by decide +kernel
theorem dX10_readProduct_85 : decode cX10_readProduct 85 = .ok (.iload_n 1, 1) := by decide +kernel
theorem dX10_readProduct_86 : decode cX10_readProduct 86 = .ok (.ifCond .eq 7, 3) := by decide +kernel
theorem dX10_readProduct_89 : decode cX10_readProduct 89 = .ok (.iconst 4, 1) := by decide +kernel
theorem dX10_readProduct_90 : decode cX10_readProduct 90 = .ok (.goto 4, 3) := by decide +kernel
theorem dX10_readProduct_93 : decode cX10_readProduct 93 = .ok (.iconst 5, 1) := by decide +kernel
theorem dX10_readProduct_94 : decode cX10_readProduct 94 = .ok (.iconst 0, 1) := by decide +kernel
theorem dX10_readProduct_95 : decode cX10_readProduct 95 = .ok (.invokevirtual 169, 3) := by decide +kernel
theorem dX10_readProduct_98 : decode cX10_readProduct 98 = .ok (.goto (-88), 3) := by decide +kernel
theorem dX10_readProduct_101 : decode cX10_readProduct 101 = .ok (.iconst 0, 1) := by decide +kernel
theorem dX10_readProduct_102 : decode cX10_readProduct 102 = .ok (.ireturn, 1) := by decide +kernel
theorem dX10_readSum_0 : decode cX10_readSum 0 = .ok (.aload_n 0, 1) := by decide +kernel
theorem dX10_readSum_1 : decode cX10_readSum 1 = .ok (.invokevirtual 183, 3) := by decide +kernel
theorem dX10_readSum_4 : decode cX10_readSum 4 = .ok (.iconst (-1), 1) := by decide +kernel
theorem dX10_readSum_5 : decode cX10_readSum 5 = .ok (.if_icmp .ne 5, 3) := by decide +kernel
theorem dX10_readSum_8 : decode cX10_readSum 8 = .ok (.iconst (-1), 1) := by decide +kernel
theorem dX10_readSum_9 : decode cX10_readSum 9 = .ok (.ireturn, 1) := by decide +kernel
theorem dX10_readSum_10 : decode cX10_readSum 10 = .ok (.aload_n 0, 1) := by decide +kernel
theorem dX10_readSum_11 : decode cX10_readSum 11 = .ok (.bipush 43, 2) := by decide +kernel
theorem dX10_readSum_13 : decode cX10_readSum 13 = .ok (.invokevirtual 180, 3) := by decide +kernel
theorem dX10_readSum_16 : decode cX10_readSum 16 = .ok (.ifCond .ne 12, 3) := by decide +kernel
theorem dX10_readSum_19 : decode cX10_readSum 19 = .ok (.aload_n 0, 1) := by decide +kernel
theorem dX10_readSum_20 : decode cX10_readSum 20 = .ok (.bipush 45, 2) := by decide +kernel
theorem dX10_readSum_22 : decode cX10_readSum 22 = .ok (.invokevirtual 180, 3) := by decide +kernel
theorem dX10_readSum_25 : decode cX10_readSum 25 = .ok (.ifCond .eq 41, 3) := by decide +kernel
theorem dX10_readSum_28 : decode cX10_readSum 28 = .ok (.aload_n 0, 1) := by decide +kernel
theorem dX10_readSum_29 : decode cX10_readSum 29 = .ok (.getfield 141, 3) := by decide +kernel
theorem dX10_readSum_32 : decode cX10_readSum 32 = .ok (.bipush 43, 2) := by decide +kernel
theorem dX10_readSum_34 : decode cX10_readSum 34 = .ok (.if_icmp .ne 7, 3) := by decide +kernel
theorem dX10_readSum_37 : decode cX10_readSum 37 = .ok (.iconst 2, 1) := by decide +kernel
theorem dX10_readSum_38 : decode cX10_readSum 38 = .ok (.goto 4, 3) := by decide +kernel
theorem dX10_readSum_41 : decode cX10_readSum 41 = .ok (.iconst 3, 1) := by decide +kernel
theorem dX10_readSum_42 : decode cX10_readSum 42 = .ok (.istore_n 1, 1) := by decide +kernel
theorem dX10_readSum_43 : decode cX10_readSum 43 = .ok (.aload_n 0, 1) := by decide +kernel
theorem dX10_readSum_44 : decode cX10_readSum 44 = .ok (.invokevirtual 173, 3) := by decide +kernel
theorem dX10_readSum_47 : decode cX10_readSum 47 = .ok (.aload_n 0, 1) := by decide +kernel
theorem dX10_readSum_48 : decode cX10_readSum 48 = .ok (.invokevirtual 183, 3) := by decide +kernel
theorem dX10_readSum_51 : decode cX10_readSum 51 = .ok (.iconst (-1), 1) := by decide +kernel
theorem dX10_readSum_52 : decode cX10_readSum 52 = .ok (.if_icmp .ne 5, 3) := by decide +kernel
theorem dX10_readSum_55 : decode cX10_readSum 55 = .ok (.iconst (-1), 1) := by decide +kernel
theorem dX10_readSum_56 : decode cX10_readSum 56 = .ok (.ireturn, 1) := by decide +kernel
theorem dX10_readSum_57 : decode cX10_readSum 57 = .ok (.aload_n 0, 1) := by decide +kernel
theorem dX10_readSum_58 : decode cX10_readSum 58 = .ok (.iload_n 1, 1) := by decide +kernel
theorem dX10_readSum_59 : decode cX10_readSum 59 = .ok (.iconst 0, 1) := by decide +kernel
theorem dX10_readSum_60 : decode cX10_readSum 60 = .ok (.invokevirtual 169, 3) := by decide +kernel
theorem dX10_readSum_63 : decode cX10_readSum 63 = .ok (.goto (-53), 3) := by decide +kernel
theorem dX10_readSum_66 : decode cX10_readSum 66 = .ok (.iconst 0, 1) := by decide +kernel
theorem dX10_readSum_67 : decode cX10_readSum 67 = .ok (.ireturn, 1) := by decide +kernel
theorem dX10_readCompared_0 : decode cX10_readCompared 0 = .ok (.aload_n 0, 1) := by decide +kernel
theorem dX10_readCompared_1 : decode cX10_readCompared 1 = .ok (.invokevirtual 186, 3) := by decide +kernel
theorem dX10_readCompared_4 : decode cX10_readCompared 4 = .ok (.iconst (-1), 1) := by decide +kernel
theorem dX10_readCompared_5 : decode cX10_readCompared 5 = .ok (.if_icmp .ne 5, 3) := by decide +kernel
theorem dX10_readCompared_8 : decode cX10_readCompared 8 = .ok (.iconst (-1), 1) := by decide +kernel
theorem dX10_readCompared_9 : decode cX10_readCompared 9 = .ok (.ireturn, 1) := by decide +kernel
theorem dX10_readCompared_10 : decode cX10_readCompared 10 = .ok (.aload_n 0, 1) := by decide +kernel
theorem dX10_readCompared_11 : decode cX10_readCompared 11 = .ok (.bipush 60, 2) := by decide +kernel
theorem dX10_readCompared_13 : decode cX10_readCompared 13 = .ok (.invokevirtual 180, 3) := by decide +kernel
theorem dX10_readCompared_16 : decode cX10_readCompared 16 = .ok (.ifCond .ne 27, 3) := by decide +kernel
theorem dX10_readCompared_19 : decode cX10_readCompared 19 = .ok (.aload_n 0, 1) := by decide +kernel
theorem dX10_readCompared_20 : decode cX10_readCompared 20 = .ok (.bipush 61, 2) := by decide +kernel
theorem dX10_readCompared_22 : decode cX10_readCompared 22 = .ok (.invokevirtual 180, 3) := by decide +kernel
theorem dX10_readCompared_25 : decode cX10_readCompared 25 = .ok (.ifCond .ne 18, 3) := by decide +kernel
theorem dX10_readCompared_28 : decode cX10_readCompared 28 = .ok (.aload_n 0, 1) := by decide +kernel
theorem dX10_readCompared_29 : decode cX10_readCompared 29 = .ok (.bipush 62, 2) := by decide +kernel
theorem dX10_readCompared_31 : decode cX10_readCompared 31 = .ok (.invokevirtual 180, 3) := by decide +kernel
theorem dX10_readCompared_34 : decode cX10_readCompared 34 = .ok (.ifCond .ne 9, 3) := by decide +kernel
theorem dX10_readCompared_37 : decode cX10_readCompared 37 = .ok (.aload_n 0, 1) := by decide +kernel
theorem dX10_readCompared_38 : decode cX10_readCompared 38 = .ok (.iconst 1, 1) := by decide +kernel
theorem dX10_readCompared_39 : decode cX10_readCompared 39 = .ok (.invokevirtual 166, 3) := by decide +kernel
theorem dX10_readCompared_42 : decode cX10_readCompared 42 = .ok (.ireturn, 1) := by decide +kernel
theorem dX10_readCompared_43 : decode cX10_readCompared 43 = .ok (.aload_n 0, 1) := by decide +kernel
theorem dX10_readCompared_44 : decode cX10_readCompared 44 = .ok (.getfield 141, 3) := by decide +kernel
theorem dX10_readCompared_47 : decode cX10_readCompared 47 = .ok (.bipush 60, 2) := by decide +kernel
theorem dX10_readCompared_49 : decode cX10_readCompared 49 = .ok (.if_icmp .ne 8, 3) := by decide +kernel
theorem dX10_readCompared_52 : decode cX10_readCompared 52 = .ok (.bipush 6, 2) := by decide +kernel
theorem dX10_readCompared_54 : decode cX10_readCompared 54 = .ok (.goto 19, 3) := by decide +kernel
theorem dX10_readCompared_57 : decode cX10_readCompared 57 = .ok (.aload_n 0, 1) := by decide +kernel
theorem dX10_readCompared_58 : decode cX10_readCompared 58 = .ok (.getfield 141, 3) := by decide +kernel
theorem dX10_readCompared_61 : decode cX10_readCompared 61 = .ok (.bipush 61, 2) := by decide +kernel
theorem dX10_readCompared_63 : decode cX10_readCompared 63 = .ok (.if_icmp .ne 8, 3) := by decide +kernel
theorem dX10_readCompared_66 : decode cX10_readCompared 66 = .ok (.bipush 7, 2) := by decide +kernel
theorem dX10_readCompared_68 : decode cX10_readCompared 68 = .ok (.goto 5, 3) := by decide +kernel
theorem dX10_readCompared_71 : decode cX10_readCompared 71 = .ok (.bipush 8, 2) := by decide +kernel
theorem dX10_readCompared_73 : decode cX10_readCompared 73 = .ok (.istore_n 1, 1) := by decide +kernel
theorem dX10_readCompared_74 : decode cX10_readCompared 74 = .ok (.aload_n 0, 1) := by decide +kernel
theorem dX10_readCompared_75 : decode cX10_readCompared 75 = .ok (.invokevirtual 173, 3) := by decide +kernel
theorem dX10_readCompared_78 : decode cX10_readCompared 78 = .ok (.aload_n 0, 1) := by decide +kernel
theorem dX10_readCompared_79 : decode cX10_readCompared 79 = .ok (.invokevirtual 186, 3) := by decide +kernel
theorem dX10_readCompared_82 : decode cX10_readCompared 82 = .ok (.iconst (-1), 1) := by decide +kernel
theorem dX10_readCompared_83 : decode cX10_readCompared 83 = .ok (.if_icmp .ne 5, 3) := by decide +kernel
theorem dX10_readCompared_86 : decode cX10_readCompared 86 = .ok (.iconst (-1), 1) := by decide +kernel
theorem dX10_readCompared_87 : decode cX10_readCompared 87 = .ok (.ireturn, 1) := by decide +kernel
theorem dX10_readCompared_88 : decode cX10_readCompared 88 = .ok (.aload_n 0, 1) := by decide +kernel
theorem dX10_readCompared_89 : decode cX10_readCompared 89 = .ok (.iload_n 1, 1) := by decide +kernel
theorem dX10_readCompared_90 : decode cX10_readCompared 90 = .ok (.iconst 0, 1) := by decide +kernel
theorem dX10_readCompared_91 : decode cX10_readCompared 91 = .ok (.invokevirtual 169, 3) := by decide +kernel
theorem dX10_readCompared_94 : decode cX10_readCompared 94 = .ok (.iconst 0, 1) := by decide +kernel
theorem dX10_readCompared_95 : decode cX10_readCompared 95 = .ok (.ireturn, 1) := by decide +kernel
theorem dX10_waits_0 : decode cX10_waits 0 = .ok (.aload_n 0, 1) := by decide +kernel
theorem dX10_waits_1 : decode cX10_waits 1 = .ok (.getfield 43, 3) := by decide +kernel
theorem dX10_waits_4 : decode cX10_waits 4 = .ok (.aload_n 0, 1) := by decide +kernel
theorem dX10_waits_5 : decode cX10_waits 5 = .ok (.getfield 189, 3) := by decide +kernel
theorem dX10_waits_8 : decode cX10_waits 8 = .ok (.iload_n 1, 1) := by decide +kernel
theorem dX10_waits_9 : decode cX10_waits 9 = .ok (.iastore, 1) := by decide +kernel
theorem dX10_waits_10 : decode cX10_waits 10 = .ok (.aload_n 0, 1) := by decide +kernel
theorem dX10_waits_11 : decode cX10_waits 11 = .ok (.aload_n 0, 1) := by decide +kernel
theorem dX10_waits_12 : decode cX10_waits 12 = .ok (.getfield 189, 3) := by decide +kernel
theorem dX10_waits_15 : decode cX10_waits 15 = .ok (.iconst 1, 1) := by decide +kernel
theorem dX10_waits_16 : decode cX10_waits 16 = .ok (.iadd, 1) := by decide +kernel
theorem dX10_waits_17 : decode cX10_waits 17 = .ok (.putfield 189, 3) := by decide +kernel
theorem dX10_waits_20 : decode cX10_waits 20 = .ok (.return_, 1) := by decide +kernel
theorem dX10_settles_0 : decode cX10_settles 0 = .ok (.aload_n 0, 1) := by decide +kernel
theorem dX10_settles_1 : decode cX10_settles 1 = .ok (.getfield 189, 3) := by decide +kernel
theorem dX10_settles_4 : decode cX10_settles 4 = .ok (.ifCond .le 53, 3) := by decide +kernel
theorem dX10_settles_7 : decode cX10_settles 7 = .ok (.aload_n 0, 1) := by decide +kernel
theorem dX10_settles_8 : decode cX10_settles 8 = .ok (.getfield 43, 3) := by decide +kernel
theorem dX10_settles_11 : decode cX10_settles 11 = .ok (.aload_n 0, 1) := by decide +kernel
theorem dX10_settles_12 : decode cX10_settles 12 = .ok (.getfield 189, 3) := by decide +kernel
theorem dX10_settles_15 : decode cX10_settles 15 = .ok (.iconst 1, 1) := by decide +kernel
theorem dX10_settles_16 : decode cX10_settles 16 = .ok (.isub, 1) := by decide +kernel
theorem dX10_settles_17 : decode cX10_settles 17 = .ok (.iaload, 1) := by decide +kernel
theorem dX10_settles_18 : decode cX10_settles 18 = .ok (.iload_n 1, 1) := by decide +kernel
theorem dX10_settles_19 : decode cX10_settles 19 = .ok (.if_icmp .ne 38, 3) := by decide +kernel
theorem dX10_settles_22 : decode cX10_settles 22 = .ok (.aload_n 0, 1) := by decide +kernel
theorem dX10_settles_23 : decode cX10_settles 23 = .ok (.aload_n 0, 1) := by decide +kernel
theorem dX10_settles_24 : decode cX10_settles 24 = .ok (.getfield 189, 3) := by decide +kernel
theorem dX10_settles_27 : decode cX10_settles 27 = .ok (.iconst 1, 1) := by decide +kernel
theorem dX10_settles_28 : decode cX10_settles 28 = .ok (.isub, 1) := by decide +kernel
theorem dX10_settles_29 : decode cX10_settles 29 = .ok (.putfield 189, 3) := by decide +kernel
theorem dX10_settles_32 : decode cX10_settles 32 = .ok (.aload_n 0, 1) := by decide +kernel
theorem dX10_settles_33 : decode cX10_settles 33 = .ok (.iload_n 1, 1) := by decide +kernel
theorem dX10_settles_34 : decode cX10_settles 34 = .ok (.iconst 0, 1) := by decide +kernel
theorem dX10_settles_35 : decode cX10_settles 35 = .ok (.invokevirtual 169, 3) := by decide +kernel
theorem dX10_settles_38 : decode cX10_settles 38 = .ok (.iload_n 1, 1) := by decide +kernel
theorem dX10_settles_39 : decode cX10_settles 39 = .ok (.bipush 9, 2) := by decide +kernel
theorem dX10_settles_41 : decode cX10_settles 41 = .ok (.if_icmp .ne (-41), 3) := by decide +kernel
theorem dX10_settles_44 : decode cX10_settles 44 = .ok (.aload_n 0, 1) := by decide +kernel
theorem dX10_settles_45 : decode cX10_settles 45 = .ok (.aload_n 0, 1) := by decide +kernel
theorem dX10_settles_46 : decode cX10_settles 46 = .ok (.getfield 192, 3) := by decide +kernel
theorem dX10_settles_49 : decode cX10_settles 49 = .ok (.iconst 1, 1) := by decide +kernel
theorem dX10_settles_50 : decode cX10_settles 50 = .ok (.isub, 1) := by decide +kernel
theorem dX10_settles_51 : decode cX10_settles 51 = .ok (.putfield 192, 3) := by decide +kernel
theorem dX10_settles_54 : decode cX10_settles 54 = .ok (.goto (-54), 3) := by decide +kernel
theorem dX10_settles_57 : decode cX10_settles 57 = .ok (.return_, 1) := by decide +kernel
theorem dX10_readAny_0 : decode cX10_readAny 0 = .ok (.iconst 0, 1) := by decide +kernel
theorem dX10_readAny_1 : decode cX10_readAny 1 = .ok (.istore_n 1, 1) := by decide +kernel
theorem dX10_readAny_2 : decode cX10_readAny 2 = .ok (.aload_n 0, 1) := by decide +kernel
theorem dX10_readAny_3 : decode cX10_readAny 3 = .ok (.iconst 0, 1) := by decide +kernel
theorem dX10_readAny_4 : decode cX10_readAny 4 = .ok (.putfield 189, 3) := by decide +kernel
theorem dX10_readAny_7 : decode cX10_readAny 7 = .ok (.iconst 1, 1) := by decide +kernel
theorem dX10_readAny_8 : decode cX10_readAny 8 = .ok (.istore_n 2, 1) := by decide +kernel
theorem dX10_readAny_9 : decode cX10_readAny 9 = .ok (.iload_n 2, 1) := by decide +kernel
theorem dX10_readAny_10 : decode cX10_readAny 10 = .ok (.ifCond .eq 98, 3) := by decide +kernel
theorem dX10_readAny_13 : decode cX10_readAny 13 = .ok (.aload_n 0, 1) := by decide +kernel
theorem dX10_readAny_14 : decode cX10_readAny 14 = .ok (.iconst 5, 1) := by decide +kernel
theorem dX10_readAny_15 : decode cX10_readAny 15 = .ok (.invokevirtual 195, 3) := by decide +kernel
theorem dX10_readAny_18 : decode cX10_readAny 18 = .ok (.istore_n 3, 1) := by decide +kernel
theorem dX10_readAny_19 : decode cX10_readAny 19 = .ok (.iload_n 3, 1) := by decide +kernel
theorem dX10_readAny_20 : decode cX10_readAny 20 = .ok (.ifCond .ne 12, 3) := by decide +kernel
theorem dX10_readAny_23 : decode cX10_readAny 23 = .ok (.aload_n 0, 1) := by decide +kernel
theorem dX10_readAny_24 : decode cX10_readAny 24 = .ok (.bipush 40, 2) := by decide +kernel
theorem dX10_readAny_26 : decode cX10_readAny 26 = .ok (.invokevirtual 180, 3) := by decide +kernel
theorem dX10_readAny_29 : decode cX10_readAny 29 = .ok (.ifCond .eq 58, 3) := by decide +kernel
theorem dX10_readAny_32 : decode cX10_readAny 32 = .ok (.aload_n 0, 1) := by decide +kernel
theorem dX10_readAny_33 : decode cX10_readAny 33 = .ok (.getfield 192, 3) := by decide +kernel
theorem dX10_readAny_36 : decode cX10_readAny 36 = .ok (.bipush 8, 2) := by decide +kernel
theorem dX10_readAny_38 : decode cX10_readAny 38 = .ok (.if_icmp .ne 9, 3) := by decide +kernel
theorem dX10_readAny_41 : decode cX10_readAny 41 = .ok (.aload_n 0, 1) := by decide +kernel
theorem dX10_readAny_42 : decode cX10_readAny 42 = .ok (.iconst 3, 1) := by decide +kernel
theorem dX10_readAny_43 : decode cX10_readAny 43 = .ok (.invokevirtual 166, 3) := by decide +kernel
theorem dX10_readAny_46 : decode cX10_readAny 46 = .ok (.ireturn, 1) := by decide +kernel
theorem dX10_readAny_47 : decode cX10_readAny 47 = .ok (.aload_n 0, 1) := by decide +kernel
theorem dX10_readAny_48 : decode cX10_readAny 48 = .ok (.aload_n 0, 1) := by decide +kernel
theorem dX10_readAny_49 : decode cX10_readAny 49 = .ok (.getfield 192, 3) := by decide +kernel
theorem dX10_readAny_52 : decode cX10_readAny 52 = .ok (.iconst 1, 1) := by decide +kernel
theorem dX10_readAny_53 : decode cX10_readAny 53 = .ok (.iadd, 1) := by decide +kernel
theorem dX10_readAny_54 : decode cX10_readAny 54 = .ok (.putfield 192, 3) := by decide +kernel
theorem dX10_readAny_57 : decode cX10_readAny 57 = .ok (.iload_n 3, 1) := by decide +kernel
theorem dX10_readAny_58 : decode cX10_readAny 58 = .ok (.ifCond .ne 7, 3) := by decide +kernel
theorem dX10_readAny_61 : decode cX10_readAny 61 = .ok (.iload_n 1, 1) := by decide +kernel
theorem dX10_readAny_62 : decode cX10_readAny 62 = .ok (.iconst 1, 1) := by decide +kernel
theorem dX10_readAny_63 : decode cX10_readAny 63 = .ok (.iadd, 1) := by decide +kernel
theorem dX10_readAny_64 : decode cX10_readAny 64 = .ok (.istore_n 1, 1) := by decide +kernel
theorem dX10_readAny_65 : decode cX10_readAny 65 = .ok (.aload_n 0, 1) := by decide +kernel
theorem dX10_readAny_66 : decode cX10_readAny 66 = .ok (.iload_n 3, 1) := by decide +kernel
theorem dX10_readAny_67 : decode cX10_readAny 67 = .ok (.ifCond .eq 8, 3) := by decide +kernel
theorem dX10_readAny_70 : decode cX10_readAny 70 = .ok (.bipush 9, 2) := by decide +kernel
theorem dX10_readAny_72 : decode cX10_readAny 72 = .ok (.goto 5, 3) := by decide +kernel
theorem dX10_readAny_75 : decode cX10_readAny 75 = .ok (.bipush 12, 2) := by decide +kernel
theorem dX10_readAny_77 : decode cX10_readAny 77 = .ok (.invokevirtual 198, 3) := by decide +kernel
theorem dX10_readAny_80 : decode cX10_readAny 80 = .ok (.aload_n 0, 1) := by decide +kernel
theorem dX10_readAny_81 : decode cX10_readAny 81 = .ok (.invokevirtual 173, 3) := by decide +kernel
theorem dX10_readAny_84 : decode cX10_readAny 84 = .ok (.goto (-75), 3) := by decide +kernel
theorem dX10_readAny_87 : decode cX10_readAny 87 = .ok (.aload_n 0, 1) := by decide +kernel
theorem dX10_readAny_88 : decode cX10_readAny 88 = .ok (.invokevirtual 201, 3) := by decide +kernel
theorem dX10_readAny_91 : decode cX10_readAny 91 = .ok (.iconst (-1), 1) := by decide +kernel
theorem dX10_readAny_92 : decode cX10_readAny 92 = .ok (.if_icmp .ne 5, 3) := by decide +kernel
theorem dX10_readAny_95 : decode cX10_readAny 95 = .ok (.iconst (-1), 1) := by decide +kernel
theorem dX10_readAny_96 : decode cX10_readAny 96 = .ok (.ireturn, 1) := by decide +kernel
theorem dX10_readAny_97 : decode cX10_readAny 97 = .ok (.aload_n 0, 1) := by decide +kernel
theorem dX10_readAny_98 : decode cX10_readAny 98 = .ok (.bipush 9, 2) := by decide +kernel
theorem dX10_readAny_100 : decode cX10_readAny 100 = .ok (.invokevirtual 204, 3) := by decide +kernel
theorem dX10_readAny_103 : decode cX10_readAny 103 = .ok (.iconst 0, 1) := by decide +kernel
theorem dX10_readAny_104 : decode cX10_readAny 104 = .ok (.istore_n 2, 1) := by decide +kernel
theorem dX10_readAny_105 : decode cX10_readAny 105 = .ok (.goto (-96), 3) := by decide +kernel
theorem dX10_readAny_108 : decode cX10_readAny 108 = .ok (.aload_n 0, 1) := by decide +kernel
theorem dX10_readAny_109 : decode cX10_readAny 109 = .ok (.iconst 4, 1) := by decide +kernel
theorem dX10_readAny_110 : decode cX10_readAny 110 = .ok (.invokevirtual 195, 3) := by decide +kernel
theorem dX10_readAny_113 : decode cX10_readAny 113 = .ok (.ifCond .eq 24, 3) := by decide +kernel
theorem dX10_readAny_116 : decode cX10_readAny 116 = .ok (.aload_n 0, 1) := by decide +kernel
theorem dX10_readAny_117 : decode cX10_readAny 117 = .ok (.bipush 10, 2) := by decide +kernel
theorem dX10_readAny_119 : decode cX10_readAny 119 = .ok (.invokevirtual 204, 3) := by decide +kernel
theorem dX10_readAny_122 : decode cX10_readAny 122 = .ok (.aload_n 0, 1) := by decide +kernel
theorem dX10_readAny_123 : decode cX10_readAny 123 = .ok (.bipush 10, 2) := by decide +kernel
theorem dX10_readAny_125 : decode cX10_readAny 125 = .ok (.invokevirtual 198, 3) := by decide +kernel
theorem dX10_readAny_128 : decode cX10_readAny 128 = .ok (.aload_n 0, 1) := by decide +kernel
theorem dX10_readAny_129 : decode cX10_readAny 129 = .ok (.invokevirtual 173, 3) := by decide +kernel
theorem dX10_readAny_132 : decode cX10_readAny 132 = .ok (.iconst 1, 1) := by decide +kernel
theorem dX10_readAny_133 : decode cX10_readAny 133 = .ok (.istore_n 2, 1) := by decide +kernel
theorem dX10_readAny_134 : decode cX10_readAny 134 = .ok (.goto (-125), 3) := by decide +kernel
theorem dX10_readAny_137 : decode cX10_readAny 137 = .ok (.aload_n 0, 1) := by decide +kernel
theorem dX10_readAny_138 : decode cX10_readAny 138 = .ok (.iconst 3, 1) := by decide +kernel
theorem dX10_readAny_139 : decode cX10_readAny 139 = .ok (.invokevirtual 195, 3) := by decide +kernel
theorem dX10_readAny_142 : decode cX10_readAny 142 = .ok (.ifCond .eq 30, 3) := by decide +kernel
theorem dX10_readAny_145 : decode cX10_readAny 145 = .ok (.aload_n 0, 1) := by decide +kernel
theorem dX10_readAny_146 : decode cX10_readAny 146 = .ok (.bipush 10, 2) := by decide +kernel
theorem dX10_readAny_148 : decode cX10_readAny 148 = .ok (.invokevirtual 204, 3) := by decide +kernel
theorem dX10_readAny_151 : decode cX10_readAny 151 = .ok (.aload_n 0, 1) := by decide +kernel
theorem dX10_readAny_152 : decode cX10_readAny 152 = .ok (.bipush 11, 2) := by decide +kernel
theorem dX10_readAny_154 : decode cX10_readAny 154 = .ok (.invokevirtual 204, 3) := by decide +kernel
theorem dX10_readAny_157 : decode cX10_readAny 157 = .ok (.aload_n 0, 1) := by decide +kernel
theorem dX10_readAny_158 : decode cX10_readAny 158 = .ok (.bipush 11, 2) := by decide +kernel
theorem dX10_readAny_160 : decode cX10_readAny 160 = .ok (.invokevirtual 198, 3) := by decide +kernel
theorem dX10_readAny_163 : decode cX10_readAny 163 = .ok (.aload_n 0, 1) := by decide +kernel
theorem dX10_readAny_164 : decode cX10_readAny 164 = .ok (.invokevirtual 173, 3) := by decide +kernel
theorem dX10_readAny_167 : decode cX10_readAny 167 = .ok (.iconst 1, 1) := by decide +kernel
theorem dX10_readAny_168 : decode cX10_readAny 168 = .ok (.istore_n 2, 1) := by decide +kernel
theorem dX10_readAny_169 : decode cX10_readAny 169 = .ok (.goto (-160), 3) := by decide +kernel
theorem dX10_readAny_172 : decode cX10_readAny 172 = .ok (.aload_n 0, 1) := by decide +kernel
theorem dX10_readAny_173 : decode cX10_readAny 173 = .ok (.bipush 10, 2) := by decide +kernel
theorem dX10_readAny_175 : decode cX10_readAny 175 = .ok (.invokevirtual 204, 3) := by decide +kernel
theorem dX10_readAny_178 : decode cX10_readAny 178 = .ok (.aload_n 0, 1) := by decide +kernel
theorem dX10_readAny_179 : decode cX10_readAny 179 = .ok (.bipush 11, 2) := by decide +kernel
theorem dX10_readAny_181 : decode cX10_readAny 181 = .ok (.invokevirtual 204, 3) := by decide +kernel
theorem dX10_readAny_184 : decode cX10_readAny 184 = .ok (.iload_n 1, 1) := by decide +kernel
theorem dX10_readAny_185 : decode cX10_readAny 185 = .ok (.ifCond .ne 5, 3) := by decide +kernel
theorem dX10_readAny_188 : decode cX10_readAny 188 = .ok (.iconst 0, 1) := by decide +kernel
theorem dX10_readAny_189 : decode cX10_readAny 189 = .ok (.ireturn, 1) := by decide +kernel
theorem dX10_readAny_190 : decode cX10_readAny 190 = .ok (.aload_n 0, 1) := by decide +kernel
theorem dX10_readAny_191 : decode cX10_readAny 191 = .ok (.bipush 41, 2) := by decide +kernel
theorem dX10_readAny_193 : decode cX10_readAny 193 = .ok (.invokevirtual 180, 3) := by decide +kernel
theorem dX10_readAny_196 : decode cX10_readAny 196 = .ok (.ifCond .ne 9, 3) := by decide +kernel
theorem dX10_readAny_199 : decode cX10_readAny 199 = .ok (.aload_n 0, 1) := by decide +kernel
theorem dX10_readAny_200 : decode cX10_readAny 200 = .ok (.iconst 1, 1) := by decide +kernel
theorem dX10_readAny_201 : decode cX10_readAny 201 = .ok (.invokevirtual 166, 3) := by decide +kernel
theorem dX10_readAny_204 : decode cX10_readAny 204 = .ok (.ireturn, 1) := by decide +kernel
theorem dX10_readAny_205 : decode cX10_readAny 205 = .ok (.aload_n 0, 1) := by decide +kernel
theorem dX10_readAny_206 : decode cX10_readAny 206 = .ok (.aload_n 0, 1) := by decide +kernel
theorem dX10_readAny_207 : decode cX10_readAny 207 = .ok (.getfield 189, 3) := by decide +kernel
theorem dX10_readAny_210 : decode cX10_readAny 210 = .ok (.iconst 1, 1) := by decide +kernel
theorem dX10_readAny_211 : decode cX10_readAny 211 = .ok (.isub, 1) := by decide +kernel
theorem dX10_readAny_212 : decode cX10_readAny 212 = .ok (.putfield 189, 3) := by decide +kernel
theorem dX10_readAny_215 : decode cX10_readAny 215 = .ok (.iload_n 1, 1) := by decide +kernel
theorem dX10_readAny_216 : decode cX10_readAny 216 = .ok (.iconst 1, 1) := by decide +kernel
theorem dX10_readAny_217 : decode cX10_readAny 217 = .ok (.isub, 1) := by decide +kernel
theorem dX10_readAny_218 : decode cX10_readAny 218 = .ok (.istore_n 1, 1) := by decide +kernel
theorem dX10_readAny_219 : decode cX10_readAny 219 = .ok (.aload_n 0, 1) := by decide +kernel
theorem dX10_readAny_220 : decode cX10_readAny 220 = .ok (.aload_n 0, 1) := by decide +kernel
theorem dX10_readAny_221 : decode cX10_readAny 221 = .ok (.getfield 192, 3) := by decide +kernel
theorem dX10_readAny_224 : decode cX10_readAny 224 = .ok (.iconst 1, 1) := by decide +kernel
theorem dX10_readAny_225 : decode cX10_readAny 225 = .ok (.isub, 1) := by decide +kernel
theorem dX10_readAny_226 : decode cX10_readAny 226 = .ok (.putfield 192, 3) := by decide +kernel
theorem dX10_readAny_229 : decode cX10_readAny 229 = .ok (.aload_n 0, 1) := by decide +kernel
theorem dX10_readAny_230 : decode cX10_readAny 230 = .ok (.bipush 9, 2) := by decide +kernel
theorem dX10_readAny_232 : decode cX10_readAny 232 = .ok (.invokevirtual 204, 3) := by decide +kernel
theorem dX10_readAny_235 : decode cX10_readAny 235 = .ok (.aload_n 0, 1) := by decide +kernel
theorem dX10_readAny_236 : decode cX10_readAny 236 = .ok (.invokevirtual 173, 3) := by decide +kernel
theorem dX10_readAny_239 : decode cX10_readAny 239 = .ok (.goto (-230), 3) := by decide +kernel
theorem dX10_readText_0 : decode cX10_readText 0 = .ok (.iconst 0, 1) := by decide +kernel
theorem dX10_readText_1 : decode cX10_readText 1 = .ok (.istore_n 1, 1) := by decide +kernel
theorem dX10_readText_2 : decode cX10_readText 2 = .ok (.aload_n 0, 1) := by decide +kernel
theorem dX10_readText_3 : decode cX10_readText 3 = .ok (.getfield 138, 3) := by decide +kernel
theorem dX10_readText_6 : decode cX10_readText 6 = .ok (.iconst 2, 1) := by decide +kernel
theorem dX10_readText_7 : decode cX10_readText 7 = .ok (.if_icmp .ne 110, 3) := by decide +kernel
theorem dX10_readText_10 : decode cX10_readText 10 = .ok (.aload_n 0, 1) := by decide +kernel
theorem dX10_readText_11 : decode cX10_readText 11 = .ok (.getfield 141, 3) := by decide +kernel
theorem dX10_readText_14 : decode cX10_readText 14 = .ok (.iconst 1, 1) := by decide +kernel
theorem dX10_readText_15 : decode cX10_readText 15 = .ok (.if_icmp .gt 102, 3) := by decide +kernel
theorem dX10_readText_18 : decode cX10_readText 18 = .ok (.iload_n 1, 1) := by decide +kernel
theorem dX10_readText_19 : decode cX10_readText 19 = .ok (.bipush 16, 2) := by decide +kernel
theorem dX10_readText_21 : decode cX10_readText 21 = .ok (.if_icmp .ne 9, 3) := by decide +kernel
theorem dX10_readText_24 : decode cX10_readText 24 = .ok (.aload_n 0, 1) := by decide +kernel
theorem dX10_readText_25 : decode cX10_readText 25 = .ok (.iconst 3, 1) := by decide +kernel
theorem dX10_readText_26 : decode cX10_readText 26 = .ok (.invokevirtual 166, 3) := by decide +kernel
theorem dX10_readText_29 : decode cX10_readText 29 = .ok (.ireturn, 1) := by decide +kernel
theorem dX10_readText_30 : decode cX10_readText 30 = .ok (.bipush 16, 2) := by decide +kernel
theorem dX10_readText_32 : decode cX10_readText 32 = .ok (.iload_n 1, 1) := by decide +kernel
theorem dX10_readText_33 : decode cX10_readText 33 = .ok (.iadd, 1) := by decide +kernel
theorem dX10_readText_34 : decode cX10_readText 34 = .ok (.istore_n 2, 1) := by decide +kernel
theorem dX10_readText_35 : decode cX10_readText 35 = .ok (.aload_n 0, 1) := by decide +kernel
theorem dX10_readText_36 : decode cX10_readText 36 = .ok (.getfield 28, 3) := by decide +kernel
theorem dX10_readText_39 : decode cX10_readText 39 = .ok (.iload_n 2, 1) := by decide +kernel
theorem dX10_readText_40 : decode cX10_readText 40 = .ok (.aload_n 0, 1) := by decide +kernel
theorem dX10_readText_41 : decode cX10_readText 41 = .ok (.getfield 141, 3) := by decide +kernel
theorem dX10_readText_44 : decode cX10_readText 44 = .ok (.iastore, 1) := by decide +kernel
theorem dX10_readText_45 : decode cX10_readText 45 = .ok (.aload_n 0, 1) := by decide +kernel
theorem dX10_readText_46 : decode cX10_readText 46 = .ok (.invokevirtual 173, 3) := by decide +kernel
theorem dX10_readText_49 : decode cX10_readText 49 = .ok (.aload_n 0, 1) := by decide +kernel
theorem dX10_readText_50 : decode cX10_readText 50 = .ok (.getfield 31, 3) := by decide +kernel
theorem dX10_readText_53 : decode cX10_readText 53 = .ok (.iload_n 2, 1) := by decide +kernel
theorem dX10_readText_54 : decode cX10_readText 54 = .ok (.aload_n 0, 1) := by decide +kernel
theorem dX10_readText_55 : decode cX10_readText 55 = .ok (.getfield 163, 3) := by decide +kernel
theorem dX10_readText_58 : decode cX10_readText 58 = .ok (.iastore, 1) := by decide +kernel
theorem dX10_readText_59 : decode cX10_readText 59 = .ok (.aload_n 0, 1) := by decide +kernel
theorem dX10_readText_60 : decode cX10_readText 60 = .ok (.iconst 2, 1) := by decide +kernel
theorem dX10_readText_61 : decode cX10_readText 61 = .ok (.invokevirtual 195, 3) := by decide +kernel
theorem dX10_readText_64 : decode cX10_readText 64 = .ok (.ifCond .eq 17, 3) := by decide +kernel
theorem dX10_readText_67 : decode cX10_readText 67 = .ok (.aload_n 0, 1) := by decide +kernel
theorem dX10_readText_68 : decode cX10_readText 68 = .ok (.invokevirtual 173, 3) := by decide +kernel
theorem dX10_readText_71 : decode cX10_readText 71 = .ok (.aload_n 0, 1) := by decide +kernel
theorem dX10_readText_72 : decode cX10_readText 72 = .ok (.invokevirtual 207, 3) := by decide +kernel
theorem dX10_readText_75 : decode cX10_readText 75 = .ok (.iconst (-1), 1) := by decide +kernel
theorem dX10_readText_76 : decode cX10_readText 76 = .ok (.if_icmp .ne 5, 3) := by decide +kernel
theorem dX10_readText_79 : decode cX10_readText 79 = .ok (.iconst (-1), 1) := by decide +kernel
theorem dX10_readText_80 : decode cX10_readText 80 = .ok (.ireturn, 1) := by decide +kernel
theorem dX10_readText_81 : decode cX10_readText 81 = .ok (.aload_n 0, 1) := by decide +kernel
theorem dX10_readText_82 : decode cX10_readText 82 = .ok (.getfield 34, 3) := by decide +kernel
theorem dX10_readText_85 : decode cX10_readText 85 = .ok (.iload_n 2, 1) := by decide +kernel
theorem dX10_readText_86 : decode cX10_readText 86 = .ok (.aload_n 0, 1) := by decide +kernel
theorem dX10_readText_87 : decode cX10_readText 87 = .ok (.getfield 163, 3) := by decide +kernel
theorem dX10_readText_90 : decode cX10_readText 90 = .ok (.iastore, 1) := by decide +kernel
theorem dX10_readText_91 : decode cX10_readText 91 = .ok (.aload_n 0, 1) := by decide +kernel
theorem dX10_readText_92 : decode cX10_readText 92 = .ok (.bipush 59, 2) := by decide +kernel
theorem dX10_readText_94 : decode cX10_readText 94 = .ok (.invokevirtual 180, 3) := by decide +kernel
theorem dX10_readText_97 : decode cX10_readText 97 = .ok (.ifCond .ne 9, 3) := by decide +kernel
theorem dX10_readText_100 : decode cX10_readText 100 = .ok (.aload_n 0, 1) := by decide +kernel
theorem dX10_readText_101 : decode cX10_readText 101 = .ok (.iconst 1, 1) := by decide +kernel
theorem dX10_readText_102 : decode cX10_readText 102 = .ok (.invokevirtual 166, 3) := by decide +kernel
theorem dX10_readText_105 : decode cX10_readText 105 = .ok (.ireturn, 1) := by decide +kernel
theorem dX10_readText_106 : decode cX10_readText 106 = .ok (.aload_n 0, 1) := by decide +kernel
theorem dX10_readText_107 : decode cX10_readText 107 = .ok (.invokevirtual 173, 3) := by decide +kernel
theorem dX10_readText_110 : decode cX10_readText 110 = .ok (.iload_n 1, 1) := by decide +kernel
theorem dX10_readText_111 : decode cX10_readText 111 = .ok (.iconst 1, 1) := by decide +kernel
theorem dX10_readText_112 : decode cX10_readText 112 = .ok (.iadd, 1) := by decide +kernel
theorem dX10_readText_113 : decode cX10_readText 113 = .ok (.istore_n 1, 1) := by decide +kernel
theorem dX10_readText_114 : decode cX10_readText 114 = .ok (.goto (-112), 3) := by decide +kernel
theorem dX10_readText_117 : decode cX10_readText 117 = .ok (.aload_n 0, 1) := by decide +kernel
theorem dX10_readText_118 : decode cX10_readText 118 = .ok (.getfield 138, 3) := by decide +kernel
theorem dX10_readText_121 : decode cX10_readText 121 = .ok (.ifCond .ne 7, 3) := by decide +kernel
theorem dX10_readText_124 : decode cX10_readText 124 = .ok (.iload_n 1, 1) := by decide +kernel
theorem dX10_readText_125 : decode cX10_readText 125 = .ok (.goto 8, 3) := by decide +kernel
theorem dX10_readText_128 : decode cX10_readText 128 = .ok (.aload_n 0, 1) := by decide +kernel
theorem dX10_readText_129 : decode cX10_readText 129 = .ok (.iconst 1, 1) := by decide +kernel
theorem dX10_readText_130 : decode cX10_readText 130 = .ok (.invokevirtual 166, 3) := by decide +kernel
theorem dX10_readText_133 : decode cX10_readText 133 = .ok (.ireturn, 1) := by decide +kernel
theorem dX10_text_0 : decode cX10_text 0 = .ok (.aload_n 0, 1) := by decide +kernel
theorem dX10_text_1 : decode cX10_text 1 = .ok (.iconst 0, 1) := by decide +kernel
theorem dX10_text_2 : decode cX10_text 2 = .ok (.putfield 90, 3) := by decide +kernel
theorem dX10_text_5 : decode cX10_text 5 = .ok (.aload_n 0, 1) := by decide +kernel
theorem dX10_text_6 : decode cX10_text 6 = .ok (.iconst 0, 1) := by decide +kernel
theorem dX10_text_7 : decode cX10_text 7 = .ok (.putfield 210, 3) := by decide +kernel
theorem dX10_text_10 : decode cX10_text 10 = .ok (.aload_n 0, 1) := by decide +kernel
theorem dX10_text_11 : decode cX10_text 11 = .ok (.iconst (-1), 1) := by decide +kernel
theorem dX10_text_12 : decode cX10_text 12 = .ok (.putfield 46, 3) := by decide +kernel
theorem dX10_text_15 : decode cX10_text 15 = .ok (.aload_n 0, 1) := by decide +kernel
theorem dX10_text_16 : decode cX10_text 16 = .ok (.iconst 0, 1) := by decide +kernel
theorem dX10_text_17 : decode cX10_text 17 = .ok (.putfield 129, 3) := by decide +kernel
theorem dX10_text_20 : decode cX10_text 20 = .ok (.aload_n 0, 1) := by decide +kernel
theorem dX10_text_21 : decode cX10_text 21 = .ok (.iconst 0, 1) := by decide +kernel
theorem dX10_text_22 : decode cX10_text 22 = .ok (.putfield 163, 3) := by decide +kernel
theorem dX10_text_25 : decode cX10_text 25 = .ok (.aload_n 0, 1) := by decide +kernel
theorem dX10_text_26 : decode cX10_text 26 = .ok (.iconst 0, 1) := by decide +kernel
theorem dX10_text_27 : decode cX10_text 27 = .ok (.putfield 192, 3) := by decide +kernel
theorem dX10_text_30 : decode cX10_text 30 = .ok (.aload_n 0, 1) := by decide +kernel
theorem dX10_text_31 : decode cX10_text 31 = .ok (.invokevirtual 173, 3) := by decide +kernel
theorem dX10_text_34 : decode cX10_text 34 = .ok (.aload_n 0, 1) := by decide +kernel
theorem dX10_text_35 : decode cX10_text 35 = .ok (.invokevirtual 213, 3) := by decide +kernel
theorem dX10_text_38 : decode cX10_text 38 = .ok (.istore_n 1, 1) := by decide +kernel
theorem dX10_text_39 : decode cX10_text 39 = .ok (.aload_n 0, 1) := by decide +kernel
theorem dX10_text_40 : decode cX10_text 40 = .ok (.iconst 0, 1) := by decide +kernel
theorem dX10_text_41 : decode cX10_text 41 = .ok (.putfield 122, 3) := by decide +kernel
theorem dX10_text_44 : decode cX10_text 44 = .ok (.iload_n 1, 1) := by decide +kernel
theorem dX10_text_45 : decode cX10_text 45 = .ok (.iconst (-1), 1) := by decide +kernel
theorem dX10_text_46 : decode cX10_text 46 = .ok (.if_icmp .ne 21, 3) := by decide +kernel
theorem dX10_text_49 : decode cX10_text 49 = .ok (.aload_n 0, 1) := by decide +kernel
theorem dX10_text_50 : decode cX10_text 50 = .ok (.aload_n 0, 1) := by decide +kernel
theorem dX10_text_51 : decode cX10_text 51 = .ok (.getfield 157, 3) := by decide +kernel
theorem dX10_text_54 : decode cX10_text 54 = .ok (.putfield 210, 3) := by decide +kernel
theorem dX10_text_57 : decode cX10_text 57 = .ok (.aload_n 0, 1) := by decide +kernel
theorem dX10_text_58 : decode cX10_text 58 = .ok (.aload_n 0, 1) := by decide +kernel
theorem dX10_text_59 : decode cX10_text 59 = .ok (.getfield 160, 3) := by decide +kernel
theorem dX10_text_62 : decode cX10_text 62 = .ok (.putfield 46, 3) := by decide +kernel
theorem dX10_text_65 : decode cX10_text 65 = .ok (.iconst (-1), 1) := by decide +kernel
theorem dX10_text_66 : decode cX10_text 66 = .ok (.ireturn, 1) := by decide +kernel
theorem dX10_text_67 : decode cX10_text 67 = .ok (.iconst 0, 1) := by decide +kernel
theorem dX10_text_68 : decode cX10_text 68 = .ok (.istore_n 2, 1) := by decide +kernel
theorem dX10_text_69 : decode cX10_text 69 = .ok (.iload_n 2, 1) := by decide +kernel
theorem dX10_text_70 : decode cX10_text 70 = .ok (.iload_n 1, 1) := by decide +kernel
theorem dX10_text_71 : decode cX10_text 71 = .ok (.if_icmp .ge 54, 3) := by decide +kernel
theorem dX10_text_74 : decode cX10_text 74 = .ok (.aload_n 0, 1) := by decide +kernel
theorem dX10_text_75 : decode cX10_text 75 = .ok (.getfield 28, 3) := by decide +kernel
theorem dX10_text_78 : decode cX10_text 78 = .ok (.iload_n 2, 1) := by decide +kernel
theorem dX10_text_79 : decode cX10_text 79 = .ok (.aload_n 0, 1) := by decide +kernel
theorem dX10_text_80 : decode cX10_text 80 = .ok (.getfield 28, 3) := by decide +kernel
theorem dX10_text_83 : decode cX10_text 83 = .ok (.bipush 16, 2) := by decide +kernel
theorem dX10_text_85 : decode cX10_text 85 = .ok (.iload_n 2, 1) := by decide +kernel
theorem dX10_text_86 : decode cX10_text 86 = .ok (.iadd, 1) := by decide +kernel
theorem dX10_text_87 : decode cX10_text 87 = .ok (.iaload, 1) := by decide +kernel
theorem dX10_text_88 : decode cX10_text 88 = .ok (.iastore, 1) := by decide +kernel
theorem dX10_text_89 : decode cX10_text 89 = .ok (.aload_n 0, 1) := by decide +kernel
theorem dX10_text_90 : decode cX10_text 90 = .ok (.getfield 31, 3) := by decide +kernel
theorem dX10_text_93 : decode cX10_text 93 = .ok (.iload_n 2, 1) := by decide +kernel
theorem dX10_text_94 : decode cX10_text 94 = .ok (.aload_n 0, 1) := by decide +kernel
theorem dX10_text_95 : decode cX10_text 95 = .ok (.getfield 31, 3) := by decide +kernel
theorem dX10_text_98 : decode cX10_text 98 = .ok (.bipush 16, 2) := by decide +kernel
theorem dX10_text_100 : decode cX10_text 100 = .ok (.iload_n 2, 1) := by decide +kernel
theorem dX10_text_101 : decode cX10_text 101 = .ok (.iadd, 1) := by decide +kernel
theorem dX10_text_102 : decode cX10_text 102 = .ok (.iaload, 1) := by decide +kernel
theorem dX10_text_103 : decode cX10_text 103 = .ok (.iastore, 1) := by decide +kernel
theorem dX10_text_104 : decode cX10_text 104 = .ok (.aload_n 0, 1) := by decide +kernel
theorem dX10_text_105 : decode cX10_text 105 = .ok (.getfield 34, 3) := by decide +kernel
theorem dX10_text_108 : decode cX10_text 108 = .ok (.iload_n 2, 1) := by decide +kernel
theorem dX10_text_109 : decode cX10_text 109 = .ok (.aload_n 0, 1) := by decide +kernel
theorem dX10_text_110 : decode cX10_text 110 = .ok (.getfield 34, 3) := by decide +kernel
theorem dX10_text_113 : decode cX10_text 113 = .ok (.bipush 16, 2) := by decide +kernel
theorem dX10_text_115 : decode cX10_text 115 = .ok (.iload_n 2, 1) := by decide +kernel
theorem dX10_text_116 : decode cX10_text 116 = .ok (.iadd, 1) := by decide +kernel
theorem dX10_text_117 : decode cX10_text 117 = .ok (.iaload, 1) := by decide +kernel
theorem dX10_text_118 : decode cX10_text 118 = .ok (.iastore, 1) := by decide +kernel
theorem dX10_text_119 : decode cX10_text 119 = .ok (.iinc 2 1, 3) := by decide +kernel
theorem dX10_text_122 : decode cX10_text 122 = .ok (.goto (-53), 3) := by decide +kernel
theorem dX10_text_125 : decode cX10_text 125 = .ok (.iconst 0, 1) := by decide +kernel
theorem dX10_text_126 : decode cX10_text 126 = .ok (.istore_n 2, 1) := by decide +kernel
theorem dX10_text_127 : decode cX10_text 127 = .ok (.iload_n 2, 1) := by decide +kernel
theorem dX10_text_128 : decode cX10_text 128 = .ok (.aload_n 0, 1) := by decide +kernel
theorem dX10_text_129 : decode cX10_text 129 = .ok (.getfield 163, 3) := by decide +kernel
theorem dX10_text_132 : decode cX10_text 132 = .ok (.if_icmp .ge 41, 3) := by decide +kernel
theorem dX10_text_135 : decode cX10_text 135 = .ok (.aload_n 0, 1) := by decide +kernel
theorem dX10_text_136 : decode cX10_text 136 = .ok (.getfield 37, 3) := by decide +kernel
theorem dX10_text_139 : decode cX10_text 139 = .ok (.iload_n 2, 1) := by decide +kernel
theorem dX10_text_140 : decode cX10_text 140 = .ok (.aload_n 0, 1) := by decide +kernel
theorem dX10_text_141 : decode cX10_text 141 = .ok (.getfield 37, 3) := by decide +kernel
theorem dX10_text_144 : decode cX10_text 144 = .ok (.sipush 400, 3) := by decide +kernel
theorem dX10_text_147 : decode cX10_text 147 = .ok (.iload_n 2, 1) := by decide +kernel
theorem dX10_text_148 : decode cX10_text 148 = .ok (.iadd, 1) := by decide +kernel
theorem dX10_text_149 : decode cX10_text 149 = .ok (.iaload, 1) := by decide +kernel
theorem dX10_text_150 : decode cX10_text 150 = .ok (.iastore, 1) := by decide +kernel
theorem dX10_text_151 : decode cX10_text 151 = .ok (.aload_n 0, 1) := by decide +kernel
theorem dX10_text_152 : decode cX10_text 152 = .ok (.getfield 40, 3) := by decide +kernel
theorem dX10_text_155 : decode cX10_text 155 = .ok (.iload_n 2, 1) := by decide +kernel
theorem dX10_text_156 : decode cX10_text 156 = .ok (.aload_n 0, 1) := by decide +kernel
theorem dX10_text_157 : decode cX10_text 157 = .ok (.getfield 40, 3) := by decide +kernel
theorem dX10_text_160 : decode cX10_text 160 = .ok (.sipush 400, 3) := by decide +kernel
theorem dX10_text_163 : decode cX10_text 163 = .ok (.iload_n 2, 1) := by decide +kernel
theorem dX10_text_164 : decode cX10_text 164 = .ok (.iadd, 1) := by decide +kernel
theorem dX10_text_165 : decode cX10_text 165 = .ok (.iaload, 1) := by decide +kernel
theorem dX10_text_166 : decode cX10_text 166 = .ok (.iastore, 1) := by decide +kernel
theorem dX10_text_167 : decode cX10_text 167 = .ok (.iinc 2 1, 3) := by decide +kernel
theorem dX10_text_170 : decode cX10_text 170 = .ok (.goto (-43), 3) := by decide +kernel
theorem dX10_text_173 : decode cX10_text 173 = .ok (.aload_n 0, 1) := by decide +kernel
theorem dX10_text_174 : decode cX10_text 174 = .ok (.iload_n 1, 1) := by decide +kernel
theorem dX10_text_175 : decode cX10_text 175 = .ok (.putfield 216, 3) := by decide +kernel
theorem dX10_text_178 : decode cX10_text 178 = .ok (.iload_n 1, 1) := by decide +kernel
theorem dX10_text_179 : decode cX10_text 179 = .ok (.ireturn, 1) := by decide +kernel
theorem dX10_fault_0 : decode cX10_fault 0 = .ok (.aload_n 0, 1) := by decide +kernel
theorem dX10_fault_1 : decode cX10_fault 1 = .ok (.iconst 0, 1) := by decide +kernel
theorem dX10_fault_2 : decode cX10_fault 2 = .ok (.putfield 90, 3) := by decide +kernel
theorem dX10_fault_5 : decode cX10_fault 5 = .ok (.iload_n 1, 1) := by decide +kernel
theorem dX10_fault_6 : decode cX10_fault 6 = .ok (.ifCond .ne 10, 3) := by decide +kernel
theorem dX10_fault_9 : decode cX10_fault 9 = .ok (.aload_n 0, 1) := by decide +kernel
theorem dX10_fault_10 : decode cX10_fault 10 = .ok (.getfield 210, 3) := by decide +kernel
theorem dX10_fault_13 : decode cX10_fault 13 = .ok (.goto 16, 3) := by decide +kernel
theorem dX10_fault_16 : decode cX10_fault 16 = .ok (.iload_n 1, 1) := by decide +kernel
theorem dX10_fault_17 : decode cX10_fault 17 = .ok (.iconst 1, 1) := by decide +kernel
theorem dX10_fault_18 : decode cX10_fault 18 = .ok (.if_icmp .ne 10, 3) := by decide +kernel
theorem dX10_fault_21 : decode cX10_fault 21 = .ok (.aload_n 0, 1) := by decide +kernel
theorem dX10_fault_22 : decode cX10_fault 22 = .ok (.getfield 46, 3) := by decide +kernel
theorem dX10_fault_25 : decode cX10_fault 25 = .ok (.goto 4, 3) := by decide +kernel
theorem dX10_fault_28 : decode cX10_fault 28 = .ok (.iconst (-1), 1) := by decide +kernel
theorem dX10_fault_29 : decode cX10_fault 29 = .ok (.ireturn, 1) := by decide +kernel
theorem dX10_twoOf_0 : decode cX10_twoOf 0 = .ok (.iload_n 1, 1) := by decide +kernel
theorem dX10_twoOf_1 : decode cX10_twoOf 1 = .ok (.iconst 2, 1) := by decide +kernel
theorem dX10_twoOf_2 : decode cX10_twoOf 2 = .ok (.if_icmp .ne 7, 3) := by decide +kernel
theorem dX10_twoOf_5 : decode cX10_twoOf 5 = .ok (.iload_n 2, 1) := by decide +kernel
theorem dX10_twoOf_6 : decode cX10_twoOf 6 = .ok (.iload_n 3, 1) := by decide +kernel
theorem dX10_twoOf_7 : decode cX10_twoOf 7 = .ok (.iadd, 1) := by decide +kernel
theorem dX10_twoOf_8 : decode cX10_twoOf 8 = .ok (.ireturn, 1) := by decide +kernel
theorem dX10_twoOf_9 : decode cX10_twoOf 9 = .ok (.iload_n 1, 1) := by decide +kernel
theorem dX10_twoOf_10 : decode cX10_twoOf 10 = .ok (.iconst 3, 1) := by decide +kernel
theorem dX10_twoOf_11 : decode cX10_twoOf 11 = .ok (.if_icmp .ne 7, 3) := by decide +kernel
theorem dX10_twoOf_14 : decode cX10_twoOf 14 = .ok (.iload_n 2, 1) := by decide +kernel
theorem dX10_twoOf_15 : decode cX10_twoOf 15 = .ok (.iload_n 3, 1) := by decide +kernel
theorem dX10_twoOf_16 : decode cX10_twoOf 16 = .ok (.isub, 1) := by decide +kernel
theorem dX10_twoOf_17 : decode cX10_twoOf 17 = .ok (.ireturn, 1) := by decide +kernel
theorem dX10_twoOf_18 : decode cX10_twoOf 18 = .ok (.iload_n 1, 1) := by decide +kernel
theorem dX10_twoOf_19 : decode cX10_twoOf 19 = .ok (.iconst 4, 1) := by decide +kernel
theorem dX10_twoOf_20 : decode cX10_twoOf 20 = .ok (.if_icmp .ne 7, 3) := by decide +kernel
theorem dX10_twoOf_23 : decode cX10_twoOf 23 = .ok (.iload_n 2, 1) := by decide +kernel
theorem dX10_twoOf_24 : decode cX10_twoOf 24 = .ok (.iload_n 3, 1) := by decide +kernel
theorem dX10_twoOf_25 : decode cX10_twoOf 25 = .ok (.imul, 1) := by decide +kernel
theorem dX10_twoOf_26 : decode cX10_twoOf 26 = .ok (.ireturn, 1) := by decide +kernel
theorem dX10_twoOf_27 : decode cX10_twoOf 27 = .ok (.iload_n 1, 1) := by decide +kernel
theorem dX10_twoOf_28 : decode cX10_twoOf 28 = .ok (.iconst 5, 1) := by decide +kernel
theorem dX10_twoOf_29 : decode cX10_twoOf 29 = .ok (.if_icmp .ne 7, 3) := by decide +kernel
theorem dX10_twoOf_32 : decode cX10_twoOf 32 = .ok (.iload_n 2, 1) := by decide +kernel
theorem dX10_twoOf_33 : decode cX10_twoOf 33 = .ok (.iload_n 3, 1) := by decide +kernel
theorem dX10_twoOf_34 : decode cX10_twoOf 34 = .ok (.idiv, 1) := by decide +kernel
theorem dX10_twoOf_35 : decode cX10_twoOf 35 = .ok (.ireturn, 1) := by decide +kernel
theorem dX10_twoOf_36 : decode cX10_twoOf 36 = .ok (.iload_n 1, 1) := by decide +kernel
theorem dX10_twoOf_37 : decode cX10_twoOf 37 = .ok (.bipush 6, 2) := by decide +kernel
theorem dX10_twoOf_39 : decode cX10_twoOf 39 = .ok (.if_icmp .ne 14, 3) := by decide +kernel
theorem dX10_twoOf_42 : decode cX10_twoOf 42 = .ok (.iload_n 2, 1) := by decide +kernel
theorem dX10_twoOf_43 : decode cX10_twoOf 43 = .ok (.iload_n 3, 1) := by decide +kernel
theorem dX10_twoOf_44 : decode cX10_twoOf 44 = .ok (.if_icmp .ge 7, 3) := by decide +kernel
theorem dX10_twoOf_47 : decode cX10_twoOf 47 = .ok (.iconst 1, 1) := by decide +kernel
theorem dX10_twoOf_48 : decode cX10_twoOf 48 = .ok (.goto 4, 3) := by decide +kernel
theorem dX10_twoOf_51 : decode cX10_twoOf 51 = .ok (.iconst 0, 1) := by decide +kernel
theorem dX10_twoOf_52 : decode cX10_twoOf 52 = .ok (.ireturn, 1) := by decide +kernel
theorem dX10_twoOf_53 : decode cX10_twoOf 53 = .ok (.iload_n 1, 1) := by decide +kernel
theorem dX10_twoOf_54 : decode cX10_twoOf 54 = .ok (.bipush 7, 2) := by decide +kernel
theorem dX10_twoOf_56 : decode cX10_twoOf 56 = .ok (.if_icmp .ne 14, 3) := by decide +kernel
theorem dX10_twoOf_59 : decode cX10_twoOf 59 = .ok (.iload_n 2, 1) := by decide +kernel
theorem dX10_twoOf_60 : decode cX10_twoOf 60 = .ok (.iload_n 3, 1) := by decide +kernel
theorem dX10_twoOf_61 : decode cX10_twoOf 61 = .ok (.if_icmp .ne 7, 3) := by decide +kernel
theorem dX10_twoOf_64 : decode cX10_twoOf 64 = .ok (.iconst 1, 1) := by decide +kernel
theorem dX10_twoOf_65 : decode cX10_twoOf 65 = .ok (.goto 4, 3) := by decide +kernel
theorem dX10_twoOf_68 : decode cX10_twoOf 68 = .ok (.iconst 0, 1) := by decide +kernel
theorem dX10_twoOf_69 : decode cX10_twoOf 69 = .ok (.ireturn, 1) := by decide +kernel
theorem dX10_twoOf_70 : decode cX10_twoOf 70 = .ok (.iload_n 1, 1) := by decide +kernel
theorem dX10_twoOf_71 : decode cX10_twoOf 71 = .ok (.bipush 8, 2) := by decide +kernel
theorem dX10_twoOf_73 : decode cX10_twoOf 73 = .ok (.if_icmp .ne 14, 3) := by decide +kernel
theorem dX10_twoOf_76 : decode cX10_twoOf 76 = .ok (.iload_n 2, 1) := by decide +kernel
theorem dX10_twoOf_77 : decode cX10_twoOf 77 = .ok (.iload_n 3, 1) := by decide +kernel
theorem dX10_twoOf_78 : decode cX10_twoOf 78 = .ok (.if_icmp .le 7, 3) := by decide +kernel
theorem dX10_twoOf_81 : decode cX10_twoOf 81 = .ok (.iconst 1, 1) := by decide +kernel
theorem dX10_twoOf_82 : decode cX10_twoOf 82 = .ok (.goto 4, 3) := by decide +kernel
theorem dX10_twoOf_85 : decode cX10_twoOf 85 = .ok (.iconst 0, 1) := by decide +kernel
theorem dX10_twoOf_86 : decode cX10_twoOf 86 = .ok (.ireturn, 1) := by decide +kernel
theorem dX10_twoOf_87 : decode cX10_twoOf 87 = .ok (.iload_n 1, 1) := by decide +kernel
theorem dX10_twoOf_88 : decode cX10_twoOf 88 = .ok (.bipush 10, 2) := by decide +kernel
theorem dX10_twoOf_90 : decode cX10_twoOf 90 = .ok (.if_icmp .ne 9, 3) := by decide +kernel
theorem dX10_twoOf_93 : decode cX10_twoOf 93 = .ok (.iload_n 2, 1) := by decide +kernel
theorem dX10_twoOf_94 : decode cX10_twoOf 94 = .ok (.iload_n 3, 1) := by decide +kernel
theorem dX10_twoOf_95 : decode cX10_twoOf 95 = .ok (.imul, 1) := by decide +kernel
theorem dX10_twoOf_96 : decode cX10_twoOf 96 = .ok (.goto 14, 3) := by decide +kernel
theorem dX10_twoOf_99 : decode cX10_twoOf 99 = .ok (.iload_n 2, 1) := by decide +kernel
theorem dX10_twoOf_100 : decode cX10_twoOf 100 = .ok (.iload_n 3, 1) := by decide +kernel
theorem dX10_twoOf_101 : decode cX10_twoOf 101 = .ok (.iadd, 1) := by decide +kernel
theorem dX10_twoOf_102 : decode cX10_twoOf 102 = .ok (.ifCond .le 7, 3) := by decide +kernel
theorem dX10_twoOf_105 : decode cX10_twoOf 105 = .ok (.iconst 1, 1) := by decide +kernel
theorem dX10_twoOf_106 : decode cX10_twoOf 106 = .ok (.goto 4, 3) := by decide +kernel
theorem dX10_twoOf_109 : decode cX10_twoOf 109 = .ok (.iconst 0, 1) := by decide +kernel
theorem dX10_twoOf_110 : decode cX10_twoOf 110 = .ok (.ireturn, 1) := by decide +kernel
theorem dX10_isSo_0 : decode cX10_isSo 0 = .ok (.aload_n 0, 1) := by decide +kernel
theorem dX10_isSo_1 : decode cX10_isSo 1 = .ok (.getfield 31, 3) := by decide +kernel
theorem dX10_isSo_4 : decode cX10_isSo 4 = .ok (.iload_n 2, 1) := by decide +kernel
theorem dX10_isSo_5 : decode cX10_isSo 5 = .ok (.iaload, 1) := by decide +kernel
theorem dX10_isSo_6 : decode cX10_isSo 6 = .ok (.aload_n 0, 1) := by decide +kernel
theorem dX10_isSo_7 : decode cX10_isSo 7 = .ok (.getfield 34, 3) := by decide +kernel
theorem dX10_isSo_10 : decode cX10_isSo 10 = .ok (.iload_n 2, 1) := by decide +kernel
theorem dX10_isSo_11 : decode cX10_isSo 11 = .ok (.iaload, 1) := by decide +kernel
theorem dX10_isSo_12 : decode cX10_isSo 12 = .ok (.if_icmp .ne 5, 3) := by decide +kernel
theorem dX10_isSo_15 : decode cX10_isSo 15 = .ok (.iconst 1, 1) := by decide +kernel
theorem dX10_isSo_16 : decode cX10_isSo 16 = .ok (.ireturn, 1) := by decide +kernel
theorem dX10_isSo_17 : decode cX10_isSo 17 = .ok (.iconst 0, 1) := by decide +kernel
theorem dX10_isSo_18 : decode cX10_isSo 18 = .ok (.istore_n 3, 1) := by decide +kernel
theorem dX10_isSo_19 : decode cX10_isSo 19 = .ok (.sipush 400, 3) := by decide +kernel
theorem dX10_isSo_22 : decode cX10_isSo 22 = .ok (.iload_n 1, 1) := by decide +kernel
theorem dX10_isSo_23 : decode cX10_isSo 23 = .ok (.imul, 1) := by decide +kernel
theorem dX10_isSo_24 : decode cX10_isSo 24 = .ok (.aload_n 0, 1) := by decide +kernel
theorem dX10_isSo_25 : decode cX10_isSo 25 = .ok (.getfield 31, 3) := by decide +kernel
theorem dX10_isSo_28 : decode cX10_isSo 28 = .ok (.iload_n 2, 1) := by decide +kernel
theorem dX10_isSo_29 : decode cX10_isSo 29 = .ok (.iaload, 1) := by decide +kernel
theorem dX10_isSo_30 : decode cX10_isSo 30 = .ok (.iadd, 1) := by decide +kernel
theorem dX10_isSo_31 : decode cX10_isSo 31 = .ok (.istore 4, 2) := by decide +kernel
theorem dX10_isSo_33 : decode cX10_isSo 33 = .ok (.iload 4, 2) := by decide +kernel
theorem dX10_isSo_35 : decode cX10_isSo 35 = .ok (.sipush 400, 3) := by decide +kernel
theorem dX10_isSo_38 : decode cX10_isSo 38 = .ok (.iload_n 1, 1) := by decide +kernel
theorem dX10_isSo_39 : decode cX10_isSo 39 = .ok (.imul, 1) := by decide +kernel
theorem dX10_isSo_40 : decode cX10_isSo 40 = .ok (.aload_n 0, 1) := by decide +kernel
theorem dX10_isSo_41 : decode cX10_isSo 41 = .ok (.getfield 34, 3) := by decide +kernel
theorem dX10_isSo_44 : decode cX10_isSo 44 = .ok (.iload_n 2, 1) := by decide +kernel
theorem dX10_isSo_45 : decode cX10_isSo 45 = .ok (.iaload, 1) := by decide +kernel
theorem dX10_isSo_46 : decode cX10_isSo 46 = .ok (.iadd, 1) := by decide +kernel
theorem dX10_isSo_47 : decode cX10_isSo 47 = .ok (.if_icmp .ge 145, 3) := by decide +kernel
theorem dX10_isSo_50 : decode cX10_isSo 50 = .ok (.aload_n 0, 1) := by decide +kernel
theorem dX10_isSo_51 : decode cX10_isSo 51 = .ok (.getfield 37, 3) := by decide +kernel
theorem dX10_isSo_54 : decode cX10_isSo 54 = .ok (.iload 4, 2) := by decide +kernel
theorem dX10_isSo_56 : decode cX10_isSo 56 = .ok (.iaload, 1) := by decide +kernel
theorem dX10_isSo_57 : decode cX10_isSo 57 = .ok (.ifCond .eq 14, 3) := by decide +kernel
theorem dX10_isSo_60 : decode cX10_isSo 60 = .ok (.aload_n 0, 1) := by decide +kernel
theorem dX10_isSo_61 : decode cX10_isSo 61 = .ok (.getfield 37, 3) := by decide +kernel
theorem dX10_isSo_64 : decode cX10_isSo 64 = .ok (.iload 4, 2) := by decide +kernel
theorem dX10_isSo_66 : decode cX10_isSo 66 = .ok (.iaload, 1) := by decide +kernel
theorem dX10_isSo_67 : decode cX10_isSo 67 = .ok (.iconst 1, 1) := by decide +kernel
theorem dX10_isSo_68 : decode cX10_isSo 68 = .ok (.if_icmp .ne 48, 3) := by decide +kernel
theorem dX10_isSo_71 : decode cX10_isSo 71 = .ok (.aload_n 0, 1) := by decide +kernel
theorem dX10_isSo_72 : decode cX10_isSo 72 = .ok (.getfield 53, 3) := by decide +kernel
theorem dX10_isSo_75 : decode cX10_isSo 75 = .ok (.iload_n 3, 1) := by decide +kernel
theorem dX10_isSo_76 : decode cX10_isSo 76 = .ok (.aload_n 0, 1) := by decide +kernel
theorem dX10_isSo_77 : decode cX10_isSo 77 = .ok (.getfield 37, 3) := by decide +kernel
theorem dX10_isSo_80 : decode cX10_isSo 80 = .ok (.iload 4, 2) := by decide +kernel
theorem dX10_isSo_82 : decode cX10_isSo 82 = .ok (.iaload, 1) := by decide +kernel
theorem dX10_isSo_83 : decode cX10_isSo 83 = .ok (.ifCond .ne 13, 3) := by decide +kernel
theorem dX10_isSo_86 : decode cX10_isSo 86 = .ok (.aload_n 0, 1) := by decide +kernel
theorem dX10_isSo_87 : decode cX10_isSo 87 = .ok (.getfield 40, 3) := by decide +kernel
theorem dX10_isSo_90 : decode cX10_isSo 90 = .ok (.iload 4, 2) := by decide +kernel
theorem dX10_isSo_92 : decode cX10_isSo 92 = .ok (.iaload, 1) := by decide +kernel
theorem dX10_isSo_93 : decode cX10_isSo 93 = .ok (.goto 15, 3) := by decide +kernel
theorem dX10_isSo_96 : decode cX10_isSo 96 = .ok (.aload_n 0, 1) := by decide +kernel
theorem dX10_isSo_97 : decode cX10_isSo 97 = .ok (.getfield 50, 3) := by decide +kernel
theorem dX10_isSo_100 : decode cX10_isSo 100 = .ok (.aload_n 0, 1) := by decide +kernel
theorem dX10_isSo_101 : decode cX10_isSo 101 = .ok (.getfield 40, 3) := by decide +kernel
theorem dX10_isSo_104 : decode cX10_isSo 104 = .ok (.iload 4, 2) := by decide +kernel
theorem dX10_isSo_106 : decode cX10_isSo 106 = .ok (.iaload, 1) := by decide +kernel
theorem dX10_isSo_107 : decode cX10_isSo 107 = .ok (.iaload, 1) := by decide +kernel
theorem dX10_isSo_108 : decode cX10_isSo 108 = .ok (.iastore, 1) := by decide +kernel
theorem dX10_isSo_109 : decode cX10_isSo 109 = .ok (.iload_n 3, 1) := by decide +kernel
theorem dX10_isSo_110 : decode cX10_isSo 110 = .ok (.iconst 1, 1) := by decide +kernel
theorem dX10_isSo_111 : decode cX10_isSo 111 = .ok (.iadd, 1) := by decide +kernel
theorem dX10_isSo_112 : decode cX10_isSo 112 = .ok (.istore_n 3, 1) := by decide +kernel
theorem dX10_isSo_113 : decode cX10_isSo 113 = .ok (.goto 73, 3) := by decide +kernel
theorem dX10_isSo_116 : decode cX10_isSo 116 = .ok (.aload_n 0, 1) := by decide +kernel
theorem dX10_isSo_117 : decode cX10_isSo 117 = .ok (.getfield 37, 3) := by decide +kernel
theorem dX10_isSo_120 : decode cX10_isSo 120 = .ok (.iload 4, 2) := by decide +kernel
theorem dX10_isSo_122 : decode cX10_isSo 122 = .ok (.iaload, 1) := by decide +kernel
theorem dX10_isSo_123 : decode cX10_isSo 123 = .ok (.bipush 9, 2) := by decide +kernel
theorem dX10_isSo_125 : decode cX10_isSo 125 = .ok (.if_icmp .ne 24, 3) := by decide +kernel
theorem dX10_isSo_128 : decode cX10_isSo 128 = .ok (.aload_n 0, 1) := by decide +kernel
theorem dX10_isSo_129 : decode cX10_isSo 129 = .ok (.getfield 53, 3) := by decide +kernel
theorem dX10_isSo_132 : decode cX10_isSo 132 = .ok (.iload_n 3, 1) := by decide +kernel
theorem dX10_isSo_133 : decode cX10_isSo 133 = .ok (.iconst 1, 1) := by decide +kernel
theorem dX10_isSo_134 : decode cX10_isSo 134 = .ok (.isub, 1) := by decide +kernel
theorem dX10_isSo_135 : decode cX10_isSo 135 = .ok (.iconst 1, 1) := by decide +kernel
theorem dX10_isSo_136 : decode cX10_isSo 136 = .ok (.aload_n 0, 1) := by decide +kernel
theorem dX10_isSo_137 : decode cX10_isSo 137 = .ok (.getfield 53, 3) := by decide +kernel
theorem dX10_isSo_140 : decode cX10_isSo 140 = .ok (.iload_n 3, 1) := by decide +kernel
theorem dX10_isSo_141 : decode cX10_isSo 141 = .ok (.iconst 1, 1) := by decide +kernel
theorem dX10_isSo_142 : decode cX10_isSo 142 = .ok (.isub, 1) := by decide +kernel
theorem dX10_isSo_143 : decode cX10_isSo 143 = .ok (.iaload, 1) := by decide +kernel
theorem dX10_isSo_144 : decode cX10_isSo 144 = .ok (.isub, 1) := by decide +kernel
theorem dX10_isSo_145 : decode cX10_isSo 145 = .ok (.iastore, 1) := by decide +kernel
theorem dX10_isSo_146 : decode cX10_isSo 146 = .ok (.goto 40, 3) := by decide +kernel
theorem dX10_isSo_149 : decode cX10_isSo 149 = .ok (.iload_n 3, 1) := by decide +kernel
theorem dX10_isSo_150 : decode cX10_isSo 150 = .ok (.iconst 1, 1) := by decide +kernel
theorem dX10_isSo_151 : decode cX10_isSo 151 = .ok (.isub, 1) := by decide +kernel
theorem dX10_isSo_152 : decode cX10_isSo 152 = .ok (.istore_n 3, 1) := by decide +kernel
theorem dX10_isSo_153 : decode cX10_isSo 153 = .ok (.aload_n 0, 1) := by decide +kernel
theorem dX10_isSo_154 : decode cX10_isSo 154 = .ok (.getfield 53, 3) := by decide +kernel
theorem dX10_isSo_157 : decode cX10_isSo 157 = .ok (.iload_n 3, 1) := by decide +kernel
theorem dX10_isSo_158 : decode cX10_isSo 158 = .ok (.iconst 1, 1) := by decide +kernel
theorem dX10_isSo_159 : decode cX10_isSo 159 = .ok (.isub, 1) := by decide +kernel
theorem dX10_isSo_160 : decode cX10_isSo 160 = .ok (.aload_n 0, 1) := by decide +kernel
theorem dX10_isSo_161 : decode cX10_isSo 161 = .ok (.aload_n 0, 1) := by decide +kernel
theorem dX10_isSo_162 : decode cX10_isSo 162 = .ok (.getfield 37, 3) := by decide +kernel
theorem dX10_isSo_165 : decode cX10_isSo 165 = .ok (.iload 4, 2) := by decide +kernel
theorem dX10_isSo_167 : decode cX10_isSo 167 = .ok (.iaload, 1) := by decide +kernel
theorem dX10_isSo_168 : decode cX10_isSo 168 = .ok (.aload_n 0, 1) := by decide +kernel
theorem dX10_isSo_169 : decode cX10_isSo 169 = .ok (.getfield 53, 3) := by decide +kernel
theorem dX10_isSo_172 : decode cX10_isSo 172 = .ok (.iload_n 3, 1) := by decide +kernel
theorem dX10_isSo_173 : decode cX10_isSo 173 = .ok (.iconst 1, 1) := by decide +kernel
theorem dX10_isSo_174 : decode cX10_isSo 174 = .ok (.isub, 1) := by decide +kernel
theorem dX10_isSo_175 : decode cX10_isSo 175 = .ok (.iaload, 1) := by decide +kernel
theorem dX10_isSo_176 : decode cX10_isSo 176 = .ok (.aload_n 0, 1) := by decide +kernel
theorem dX10_isSo_177 : decode cX10_isSo 177 = .ok (.getfield 53, 3) := by decide +kernel
theorem dX10_isSo_180 : decode cX10_isSo 180 = .ok (.iload_n 3, 1) := by decide +kernel
theorem dX10_isSo_181 : decode cX10_isSo 181 = .ok (.iaload, 1) := by decide +kernel
theorem dX10_isSo_182 : decode cX10_isSo 182 = .ok (.invokevirtual 219, 3) := by decide +kernel
theorem dX10_isSo_185 : decode cX10_isSo 185 = .ok (.iastore, 1) := by decide +kernel
theorem dX10_isSo_186 : decode cX10_isSo 186 = .ok (.iinc 4 1, 3) := by decide +kernel
theorem dX10_isSo_189 : decode cX10_isSo 189 = .ok (.goto (-156), 3) := by decide +kernel
theorem dX10_isSo_192 : decode cX10_isSo 192 = .ok (.aload_n 0, 1) := by decide +kernel
theorem dX10_isSo_193 : decode cX10_isSo 193 = .ok (.getfield 53, 3) := by decide +kernel
theorem dX10_isSo_196 : decode cX10_isSo 196 = .ok (.iconst 0, 1) := by decide +kernel
theorem dX10_isSo_197 : decode cX10_isSo 197 = .ok (.iaload, 1) := by decide +kernel
theorem dX10_isSo_198 : decode cX10_isSo 198 = .ok (.ifCond .eq 7, 3) := by decide +kernel
theorem dX10_isSo_201 : decode cX10_isSo 201 = .ok (.iconst 1, 1) := by decide +kernel
theorem dX10_isSo_202 : decode cX10_isSo 202 = .ok (.goto 4, 3) := by decide +kernel
theorem dX10_isSo_205 : decode cX10_isSo 205 = .ok (.iconst 0, 1) := by decide +kernel
theorem dX10_isSo_206 : decode cX10_isSo 206 = .ok (.ireturn, 1) := by decide +kernel
theorem dX10_doesHear_0 : decode cX10_doesHear 0 = .ok (.aload_n 0, 1) := by decide +kernel
theorem dX10_doesHear_1 : decode cX10_doesHear 1 = .ok (.iload_n 1, 1) := by decide +kernel
theorem dX10_doesHear_2 : decode cX10_doesHear 2 = .ok (.invokevirtual 109, 3) := by decide +kernel
theorem dX10_doesHear_5 : decode cX10_doesHear 5 = .ok (.iconst (-1), 1) := by decide +kernel
theorem dX10_doesHear_6 : decode cX10_doesHear 6 = .ok (.if_icmp .ne 5, 3) := by decide +kernel
theorem dX10_doesHear_9 : decode cX10_doesHear 9 = .ok (.iconst 0, 1) := by decide +kernel
theorem dX10_doesHear_10 : decode cX10_doesHear 10 = .ok (.ireturn, 1) := by decide +kernel
theorem dX10_doesHear_11 : decode cX10_doesHear 11 = .ok (.aload_n 0, 1) := by decide +kernel
theorem dX10_doesHear_12 : decode cX10_doesHear 12 = .ok (.iload 4, 2) := by decide +kernel
theorem dX10_doesHear_14 : decode cX10_doesHear 14 = .ok (.aload_n 0, 1) := by decide +kernel
theorem dX10_doesHear_15 : decode cX10_doesHear 15 = .ok (.iload_n 1, 1) := by decide +kernel
theorem dX10_doesHear_16 : decode cX10_doesHear 16 = .ok (.invokevirtual 109, 3) := by decide +kernel
theorem dX10_doesHear_19 : decode cX10_doesHear 19 = .ok (.isub, 1) := by decide +kernel
theorem dX10_doesHear_20 : decode cX10_doesHear 20 = .ok (.invokevirtual 223, 3) := by decide +kernel
theorem dX10_doesHear_23 : decode cX10_doesHear 23 = .ok (.istore 7, 2) := by decide +kernel
theorem dX10_doesHear_25 : decode cX10_doesHear 25 = .ok (.aload_n 0, 1) := by decide +kernel
theorem dX10_doesHear_26 : decode cX10_doesHear 26 = .ok (.iload 5, 2) := by decide +kernel
theorem dX10_doesHear_28 : decode cX10_doesHear 28 = .ok (.aload_n 0, 1) := by decide +kernel
theorem dX10_doesHear_29 : decode cX10_doesHear 29 = .ok (.iload_n 1, 1) := by decide +kernel
theorem dX10_doesHear_30 : decode cX10_doesHear 30 = .ok (.invokevirtual 109, 3) := by decide +kernel
theorem dX10_doesHear_33 : decode cX10_doesHear 33 = .ok (.isub, 1) := by decide +kernel
theorem dX10_doesHear_34 : decode cX10_doesHear 34 = .ok (.invokevirtual 223, 3) := by decide +kernel
theorem dX10_doesHear_37 : decode cX10_doesHear 37 = .ok (.istore 8, 2) := by decide +kernel
theorem dX10_doesHear_39 : decode cX10_doesHear 39 = .ok (.aload_n 0, 1) := by decide +kernel
theorem dX10_doesHear_40 : decode cX10_doesHear 40 = .ok (.getfield 50, 3) := by decide +kernel
theorem dX10_doesHear_43 : decode cX10_doesHear 43 = .ok (.iconst 0, 1) := by decide +kernel
theorem dX10_doesHear_44 : decode cX10_doesHear 44 = .ok (.iload 4, 2) := by decide +kernel
theorem dX10_doesHear_46 : decode cX10_doesHear 46 = .ok (.iload 5, 2) := by decide +kernel
theorem dX10_doesHear_48 : decode cX10_doesHear 48 = .ok (.if_icmp .ge 8, 3) := by decide +kernel
theorem dX10_doesHear_51 : decode cX10_doesHear 51 = .ok (.iload 4, 2) := by decide +kernel
theorem dX10_doesHear_53 : decode cX10_doesHear 53 = .ok (.goto 5, 3) := by decide +kernel
theorem dX10_doesHear_56 : decode cX10_doesHear 56 = .ok (.iload 5, 2) := by decide +kernel
theorem dX10_doesHear_58 : decode cX10_doesHear 58 = .ok (.iastore, 1) := by decide +kernel
theorem dX10_doesHear_59 : decode cX10_doesHear 59 = .ok (.aload_n 0, 1) := by decide +kernel
theorem dX10_doesHear_60 : decode cX10_doesHear 60 = .ok (.getfield 50, 3) := by decide +kernel
theorem dX10_doesHear_63 : decode cX10_doesHear 63 = .ok (.iconst 1, 1) := by decide +kernel
theorem dX10_doesHear_64 : decode cX10_doesHear 64 = .ok (.iload 4, 2) := by decide +kernel
theorem dX10_doesHear_66 : decode cX10_doesHear 66 = .ok (.iload 5, 2) := by decide +kernel
theorem dX10_doesHear_68 : decode cX10_doesHear 68 = .ok (.if_icmp .ge 8, 3) := by decide +kernel
theorem dX10_doesHear_71 : decode cX10_doesHear 71 = .ok (.iload 5, 2) := by decide +kernel
theorem dX10_doesHear_73 : decode cX10_doesHear 73 = .ok (.goto 5, 3) := by decide +kernel
theorem dX10_doesHear_76 : decode cX10_doesHear 76 = .ok (.iload 4, 2) := by decide +kernel
theorem dX10_doesHear_78 : decode cX10_doesHear 78 = .ok (.iastore, 1) := by decide +kernel
theorem dX10_doesHear_79 : decode cX10_doesHear 79 = .ok (.aload_n 0, 1) := by decide +kernel
theorem dX10_doesHear_80 : decode cX10_doesHear 80 = .ok (.getfield 50, 3) := by decide +kernel
theorem dX10_doesHear_83 : decode cX10_doesHear 83 = .ok (.iconst 2, 1) := by decide +kernel
theorem dX10_doesHear_84 : decode cX10_doesHear 84 = .ok (.aload_n 0, 1) := by decide +kernel
theorem dX10_doesHear_85 : decode cX10_doesHear 85 = .ok (.iload 4, 2) := by decide +kernel
theorem dX10_doesHear_87 : decode cX10_doesHear 87 = .ok (.iload 5, 2) := by decide +kernel
theorem dX10_doesHear_89 : decode cX10_doesHear 89 = .ok (.isub, 1) := by decide +kernel
theorem dX10_doesHear_90 : decode cX10_doesHear 90 = .ok (.invokevirtual 223, 3) := by decide +kernel
theorem dX10_doesHear_93 : decode cX10_doesHear 93 = .ok (.iastore, 1) := by decide +kernel
theorem dX10_doesHear_94 : decode cX10_doesHear 94 = .ok (.aload_n 0, 1) := by decide +kernel
theorem dX10_doesHear_95 : decode cX10_doesHear 95 = .ok (.getfield 50, 3) := by decide +kernel
theorem dX10_doesHear_98 : decode cX10_doesHear 98 = .ok (.iconst 3, 1) := by decide +kernel
theorem dX10_doesHear_99 : decode cX10_doesHear 99 = .ok (.aload_n 0, 1) := by decide +kernel
theorem dX10_doesHear_100 : decode cX10_doesHear 100 = .ok (.iload_n 1, 1) := by decide +kernel
theorem dX10_doesHear_101 : decode cX10_doesHear 101 = .ok (.invokevirtual 109, 3) := by decide +kernel
theorem dX10_doesHear_104 : decode cX10_doesHear 104 = .ok (.iastore, 1) := by decide +kernel
theorem dX10_doesHear_105 : decode cX10_doesHear 105 = .ok (.aload_n 0, 1) := by decide +kernel
theorem dX10_doesHear_106 : decode cX10_doesHear 106 = .ok (.getfield 50, 3) := by decide +kernel
theorem dX10_doesHear_109 : decode cX10_doesHear 109 = .ok (.iconst 4, 1) := by decide +kernel
theorem dX10_doesHear_110 : decode cX10_doesHear 110 = .ok (.iload 7, 2) := by decide +kernel
theorem dX10_doesHear_112 : decode cX10_doesHear 112 = .ok (.iload 8, 2) := by decide +kernel
theorem dX10_doesHear_114 : decode cX10_doesHear 114 = .ok (.if_icmp .ge 8, 3) := by decide +kernel
theorem dX10_doesHear_117 : decode cX10_doesHear 117 = .ok (.iload 7, 2) := by decide +kernel
theorem dX10_doesHear_119 : decode cX10_doesHear 119 = .ok (.goto 5, 3) := by decide +kernel
theorem dX10_doesHear_122 : decode cX10_doesHear 122 = .ok (.iload 8, 2) := by decide +kernel
theorem dX10_doesHear_124 : decode cX10_doesHear 124 = .ok (.iastore, 1) := by decide +kernel
theorem dX10_doesHear_125 : decode cX10_doesHear 125 = .ok (.aload_n 0, 1) := by decide +kernel
theorem dX10_doesHear_126 : decode cX10_doesHear 126 = .ok (.getfield 50, 3) := by decide +kernel
theorem dX10_doesHear_129 : decode cX10_doesHear 129 = .ok (.iconst 5, 1) := by decide +kernel
theorem dX10_doesHear_130 : decode cX10_doesHear 130 = .ok (.aload_n 0, 1) := by decide +kernel
theorem dX10_doesHear_131 : decode cX10_doesHear 131 = .ok (.getfield 16, 3) := by decide +kernel
theorem dX10_doesHear_134 : decode cX10_doesHear 134 = .ok (.iload_n 2, 1) := by decide +kernel
theorem dX10_doesHear_135 : decode cX10_doesHear 135 = .ok (.iaload, 1) := by decide +kernel
theorem dX10_doesHear_136 : decode cX10_doesHear 136 = .ok (.aload_n 0, 1) := by decide +kernel
theorem dX10_doesHear_137 : decode cX10_doesHear 137 = .ok (.getfield 16, 3) := by decide +kernel
theorem dX10_doesHear_140 : decode cX10_doesHear 140 = .ok (.iload_n 3, 1) := by decide +kernel
theorem dX10_doesHear_141 : decode cX10_doesHear 141 = .ok (.iaload, 1) := by decide +kernel
theorem dX10_doesHear_142 : decode cX10_doesHear 142 = .ok (.iadd, 1) := by decide +kernel
theorem dX10_doesHear_143 : decode cX10_doesHear 143 = .ok (.bipush 10, 2) := by decide +kernel
theorem dX10_doesHear_145 : decode cX10_doesHear 145 = .ok (.iadd, 1) := by decide +kernel
theorem dX10_doesHear_146 : decode cX10_doesHear 146 = .ok (.iastore, 1) := by decide +kernel
theorem dX10_doesHear_147 : decode cX10_doesHear 147 = .ok (.aload_n 0, 1) := by decide +kernel
theorem dX10_doesHear_148 : decode cX10_doesHear 148 = .ok (.getfield 50, 3) := by decide +kernel
theorem dX10_doesHear_151 : decode cX10_doesHear 151 = .ok (.bipush 6, 2) := by decide +kernel
theorem dX10_doesHear_153 : decode cX10_doesHear 153 = .ok (.aload_n 0, 1) := by decide +kernel
theorem dX10_doesHear_154 : decode cX10_doesHear 154 = .ok (.iload 6, 2) := by decide +kernel
theorem dX10_doesHear_156 : decode cX10_doesHear 156 = .ok (.iconst 1, 1) := by decide +kernel
theorem dX10_doesHear_157 : decode cX10_doesHear 157 = .ok (.iload_n 1, 1) := by decide +kernel
theorem dX10_doesHear_158 : decode cX10_doesHear 158 = .ok (.ishl, 1) := by decide +kernel
theorem dX10_doesHear_159 : decode cX10_doesHear 159 = .ok (.iconst (-1), 1) := by decide +kernel
theorem dX10_doesHear_160 : decode cX10_doesHear 160 = .ok (.ixor, 1) := by decide +kernel
theorem dX10_doesHear_161 : decode cX10_doesHear 161 = .ok (.iand, 1) := by decide +kernel
theorem dX10_doesHear_162 : decode cX10_doesHear 162 = .ok (.iconst 1, 1) := by decide +kernel
theorem dX10_doesHear_163 : decode cX10_doesHear 163 = .ok (.iload_n 2, 1) := by decide +kernel
theorem dX10_doesHear_164 : decode cX10_doesHear 164 = .ok (.ishl, 1) := by decide +kernel
theorem dX10_doesHear_165 : decode cX10_doesHear 165 = .ok (.iconst (-1), 1) := by decide +kernel
theorem dX10_doesHear_166 : decode cX10_doesHear 166 = .ok (.ixor, 1) := by decide +kernel
theorem dX10_doesHear_167 : decode cX10_doesHear 167 = .ok (.iand, 1) := by decide +kernel
theorem dX10_doesHear_168 : decode cX10_doesHear 168 = .ok (.iconst 1, 1) := by decide +kernel
theorem dX10_doesHear_169 : decode cX10_doesHear 169 = .ok (.iload_n 3, 1) := by decide +kernel
theorem dX10_doesHear_170 : decode cX10_doesHear 170 = .ok (.ishl, 1) := by decide +kernel
theorem dX10_doesHear_171 : decode cX10_doesHear 171 = .ok (.iconst (-1), 1) := by decide +kernel
theorem dX10_doesHear_172 : decode cX10_doesHear 172 = .ok (.ixor, 1) := by decide +kernel
theorem dX10_doesHear_173 : decode cX10_doesHear 173 = .ok (.iand, 1) := by decide +kernel
theorem dX10_doesHear_174 : decode cX10_doesHear 174 = .ok (.invokevirtual 226, 3) := by decide +kernel
theorem dX10_doesHear_177 : decode cX10_doesHear 177 = .ok (.iastore, 1) := by decide +kernel
theorem dX10_doesHear_178 : decode cX10_doesHear 178 = .ok (.aload_n 0, 1) := by decide +kernel
theorem dX10_doesHear_179 : decode cX10_doesHear 179 = .ok (.getfield 50, 3) := by decide +kernel
theorem dX10_doesHear_182 : decode cX10_doesHear 182 = .ok (.bipush 7, 2) := by decide +kernel
theorem dX10_doesHear_184 : decode cX10_doesHear 184 = .ok (.aload_n 0, 1) := by decide +kernel
theorem dX10_doesHear_185 : decode cX10_doesHear 185 = .ok (.getfield 7, 3) := by decide +kernel
theorem dX10_doesHear_188 : decode cX10_doesHear 188 = .ok (.bipush 11, 2) := by decide +kernel
theorem dX10_doesHear_190 : decode cX10_doesHear 190 = .ok (.iaload, 1) := by decide +kernel
theorem dX10_doesHear_191 : decode cX10_doesHear 191 = .ok (.iastore, 1) := by decide +kernel
theorem dX10_doesHear_192 : decode cX10_doesHear 192 = .ok (.aload_n 0, 1) := by decide +kernel
theorem dX10_doesHear_193 : decode cX10_doesHear 193 = .ok (.getfield 50, 3) := by decide +kernel
theorem dX10_doesHear_196 : decode cX10_doesHear 196 = .ok (.bipush 8, 2) := by decide +kernel
theorem dX10_doesHear_198 : decode cX10_doesHear 198 = .ok (.iload_n 1, 1) := by decide +kernel
theorem dX10_doesHear_199 : decode cX10_doesHear 199 = .ok (.iastore, 1) := by decide +kernel
theorem dX10_doesHear_200 : decode cX10_doesHear 200 = .ok (.iconst 0, 1) := by decide +kernel
theorem dX10_doesHear_201 : decode cX10_doesHear 201 = .ok (.istore 9, 2) := by decide +kernel
theorem dX10_doesHear_203 : decode cX10_doesHear 203 = .ok (.iload 9, 2) := by decide +kernel
theorem dX10_doesHear_205 : decode cX10_doesHear 205 = .ok (.aload_n 0, 1) := by decide +kernel
theorem dX10_doesHear_206 : decode cX10_doesHear 206 = .ok (.getfield 216, 3) := by decide +kernel
theorem dX10_doesHear_209 : decode cX10_doesHear 209 = .ok (.if_icmp .ge 35, 3) := by decide +kernel
theorem dX10_doesHear_212 : decode cX10_doesHear 212 = .ok (.aload_n 0, 1) := by decide +kernel
theorem dX10_doesHear_213 : decode cX10_doesHear 213 = .ok (.iconst 0, 1) := by decide +kernel
theorem dX10_doesHear_214 : decode cX10_doesHear 214 = .ok (.iload 9, 2) := by decide +kernel
theorem dX10_doesHear_216 : decode cX10_doesHear 216 = .ok (.invokevirtual 229, 3) := by decide +kernel
theorem dX10_doesHear_219 : decode cX10_doesHear 219 = .ok (.ifCond .eq 19, 3) := by decide +kernel
theorem dX10_doesHear_222 : decode cX10_doesHear 222 = .ok (.aload_n 0, 1) := by decide +kernel
theorem dX10_doesHear_223 : decode cX10_doesHear 223 = .ok (.getfield 28, 3) := by decide +kernel
theorem dX10_doesHear_226 : decode cX10_doesHear 226 = .ok (.iload 9, 2) := by decide +kernel
theorem dX10_doesHear_228 : decode cX10_doesHear 228 = .ok (.iaload, 1) := by decide +kernel
theorem dX10_doesHear_229 : decode cX10_doesHear 229 = .ok (.ifCond .ne 7, 3) := by decide +kernel
theorem dX10_doesHear_232 : decode cX10_doesHear 232 = .ok (.iconst 1, 1) := by decide +kernel
theorem dX10_doesHear_233 : decode cX10_doesHear 233 = .ok (.goto 4, 3) := by decide +kernel
theorem dX10_doesHear_236 : decode cX10_doesHear 236 = .ok (.iconst 0, 1) := by decide +kernel
end
section
theorem dX10_doesHear_237 : decode cX10_doesHear 237 = .ok (.ireturn, 1) := by decide +kernel
theorem dX10_doesHear_238 : decode cX10_doesHear 238 = .ok (.iinc 9 1, 3) := by decide +kernel
theorem dX10_doesHear_241 : decode cX10_doesHear 241 = .ok (.goto (-38), 3) := by decide +kernel
theorem dX10_doesHear_244 : decode cX10_doesHear 244 = .ok (.iconst 1, 1) := by decide +kernel
theorem dX10_doesHear_245 : decode cX10_doesHear 245 = .ok (.ireturn, 1) := by decide +kernel
theorem dX10_hearsNow_0 : decode cX10_hearsNow 0 = .ok (.aload_n 0, 1) := by decide +kernel
theorem dX10_hearsNow_1 : decode cX10_hearsNow 1 = .ok (.iload_n 1, 1) := by decide +kernel
theorem dX10_hearsNow_2 : decode cX10_hearsNow 2 = .ok (.iload_n 2, 1) := by decide +kernel
theorem dX10_hearsNow_3 : decode cX10_hearsNow 3 = .ok (.iload_n 3, 1) := by decide +kernel
theorem dX10_hearsNow_4 : decode cX10_hearsNow 4 = .ok (.aload_n 0, 1) := by decide +kernel
theorem dX10_hearsNow_5 : decode cX10_hearsNow 5 = .ok (.iload_n 2, 1) := by decide +kernel
theorem dX10_hearsNow_6 : decode cX10_hearsNow 6 = .ok (.invokevirtual 109, 3) := by decide +kernel
theorem dX10_hearsNow_9 : decode cX10_hearsNow 9 = .ok (.aload_n 0, 1) := by decide +kernel
theorem dX10_hearsNow_10 : decode cX10_hearsNow 10 = .ok (.iload_n 3, 1) := by decide +kernel
theorem dX10_hearsNow_11 : decode cX10_hearsNow 11 = .ok (.invokevirtual 109, 3) := by decide +kernel
theorem dX10_hearsNow_14 : decode cX10_hearsNow 14 = .ok (.iload 4, 2) := by decide +kernel
theorem dX10_hearsNow_16 : decode cX10_hearsNow 16 = .ok (.invokevirtual 233, 3) := by decide +kernel
theorem dX10_hearsNow_19 : decode cX10_hearsNow 19 = .ok (.ireturn, 1) := by decide +kernel
theorem dX10_areThree_0 : decode cX10_areThree 0 = .ok (.aload_n 0, 1) := by decide +kernel
theorem dX10_areThree_1 : decode cX10_areThree 1 = .ok (.iload_n 1, 1) := by decide +kernel
theorem dX10_areThree_2 : decode cX10_areThree 2 = .ok (.invokevirtual 105, 3) := by decide +kernel
theorem dX10_areThree_5 : decode cX10_areThree 5 = .ok (.ifCond .eq 38, 3) := by decide +kernel
theorem dX10_areThree_8 : decode cX10_areThree 8 = .ok (.aload_n 0, 1) := by decide +kernel
theorem dX10_areThree_9 : decode cX10_areThree 9 = .ok (.iload_n 2, 1) := by decide +kernel
theorem dX10_areThree_10 : decode cX10_areThree 10 = .ok (.invokevirtual 105, 3) := by decide +kernel
theorem dX10_areThree_13 : decode cX10_areThree 13 = .ok (.ifCond .eq 30, 3) := by decide +kernel
theorem dX10_areThree_16 : decode cX10_areThree 16 = .ok (.aload_n 0, 1) := by decide +kernel
theorem dX10_areThree_17 : decode cX10_areThree 17 = .ok (.iload_n 3, 1) := by decide +kernel
theorem dX10_areThree_18 : decode cX10_areThree 18 = .ok (.invokevirtual 105, 3) := by decide +kernel
theorem dX10_areThree_21 : decode cX10_areThree 21 = .ok (.ifCond .eq 22, 3) := by decide +kernel
theorem dX10_areThree_24 : decode cX10_areThree 24 = .ok (.iload_n 1, 1) := by decide +kernel
theorem dX10_areThree_25 : decode cX10_areThree 25 = .ok (.iload_n 2, 1) := by decide +kernel
theorem dX10_areThree_26 : decode cX10_areThree 26 = .ok (.if_icmp .eq 17, 3) := by decide +kernel
theorem dX10_areThree_29 : decode cX10_areThree 29 = .ok (.iload_n 1, 1) := by decide +kernel
theorem dX10_areThree_30 : decode cX10_areThree 30 = .ok (.iload_n 3, 1) := by decide +kernel
theorem dX10_areThree_31 : decode cX10_areThree 31 = .ok (.if_icmp .eq 12, 3) := by decide +kernel
theorem dX10_areThree_34 : decode cX10_areThree 34 = .ok (.iload_n 2, 1) := by decide +kernel
theorem dX10_areThree_35 : decode cX10_areThree 35 = .ok (.iload_n 3, 1) := by decide +kernel
theorem dX10_areThree_36 : decode cX10_areThree 36 = .ok (.if_icmp .eq 7, 3) := by decide +kernel
theorem dX10_areThree_39 : decode cX10_areThree 39 = .ok (.iconst 1, 1) := by decide +kernel
theorem dX10_areThree_40 : decode cX10_areThree 40 = .ok (.goto 4, 3) := by decide +kernel
theorem dX10_areThree_43 : decode cX10_areThree 43 = .ok (.iconst 0, 1) := by decide +kernel
theorem dX10_areThree_44 : decode cX10_areThree 44 = .ok (.ireturn, 1) := by decide +kernel
theorem dX10_hears_0 : decode cX10_hears 0 = .ok (.aload_n 0, 1) := by decide +kernel
theorem dX10_hears_1 : decode cX10_hears 1 = .ok (.iconst 0, 1) := by decide +kernel
theorem dX10_hears_2 : decode cX10_hears 2 = .ok (.putfield 90, 3) := by decide +kernel
theorem dX10_hears_5 : decode cX10_hears 5 = .ok (.aload_n 0, 1) := by decide +kernel
theorem dX10_hears_6 : decode cX10_hears 6 = .ok (.iload_n 1, 1) := by decide +kernel
theorem dX10_hears_7 : decode cX10_hears 7 = .ok (.iload_n 2, 1) := by decide +kernel
theorem dX10_hears_8 : decode cX10_hears 8 = .ok (.iload_n 3, 1) := by decide +kernel
theorem dX10_hears_9 : decode cX10_hears 9 = .ok (.invokevirtual 237, 3) := by decide +kernel
theorem dX10_hears_12 : decode cX10_hears 12 = .ok (.ifCond .eq 21, 3) := by decide +kernel
theorem dX10_hears_15 : decode cX10_hears 15 = .ok (.aload_n 0, 1) := by decide +kernel
theorem dX10_hears_16 : decode cX10_hears 16 = .ok (.iload_n 2, 1) := by decide +kernel
theorem dX10_hears_17 : decode cX10_hears 17 = .ok (.invokevirtual 109, 3) := by decide +kernel
theorem dX10_hears_20 : decode cX10_hears 20 = .ok (.iconst (-1), 1) := by decide +kernel
theorem dX10_hears_21 : decode cX10_hears 21 = .ok (.if_icmp .eq 12, 3) := by decide +kernel
theorem dX10_hears_24 : decode cX10_hears 24 = .ok (.aload_n 0, 1) := by decide +kernel
theorem dX10_hears_25 : decode cX10_hears 25 = .ok (.iload_n 3, 1) := by decide +kernel
theorem dX10_hears_26 : decode cX10_hears 26 = .ok (.invokevirtual 109, 3) := by decide +kernel
theorem dX10_hears_29 : decode cX10_hears 29 = .ok (.iconst (-1), 1) := by decide +kernel
theorem dX10_hears_30 : decode cX10_hears 30 = .ok (.if_icmp .ne 5, 3) := by decide +kernel
theorem dX10_hears_33 : decode cX10_hears 33 = .ok (.iconst (-1), 1) := by decide +kernel
theorem dX10_hears_34 : decode cX10_hears 34 = .ok (.ireturn, 1) := by decide +kernel
theorem dX10_hears_35 : decode cX10_hears 35 = .ok (.aload_n 0, 1) := by decide +kernel
theorem dX10_hears_36 : decode cX10_hears 36 = .ok (.iload_n 1, 1) := by decide +kernel
theorem dX10_hears_37 : decode cX10_hears 37 = .ok (.iload_n 2, 1) := by decide +kernel
theorem dX10_hears_38 : decode cX10_hears 38 = .ok (.iload_n 3, 1) := by decide +kernel
theorem dX10_hears_39 : decode cX10_hears 39 = .ok (.aload_n 0, 1) := by decide +kernel
theorem dX10_hears_40 : decode cX10_hears 40 = .ok (.getfield 116, 3) := by decide +kernel
theorem dX10_hears_43 : decode cX10_hears 43 = .ok (.invokevirtual 240, 3) := by decide +kernel
theorem dX10_hears_46 : decode cX10_hears 46 = .ok (.ifCond .eq 7, 3) := by decide +kernel
theorem dX10_hears_49 : decode cX10_hears 49 = .ok (.iconst 1, 1) := by decide +kernel
theorem dX10_hears_50 : decode cX10_hears 50 = .ok (.goto 4, 3) := by decide +kernel
theorem dX10_hears_53 : decode cX10_hears 53 = .ok (.iconst 0, 1) := by decide +kernel
theorem dX10_hears_54 : decode cX10_hears 54 = .ok (.ireturn, 1) := by decide +kernel
theorem dX10_couplesOf_0 : decode cX10_couplesOf 0 = .ok (.iconst 0, 1) := by decide +kernel
theorem dX10_couplesOf_1 : decode cX10_couplesOf 1 = .ok (.istore_n 3, 1) := by decide +kernel
theorem dX10_couplesOf_2 : decode cX10_couplesOf 2 = .ok (.iconst 0, 1) := by decide +kernel
theorem dX10_couplesOf_3 : decode cX10_couplesOf 3 = .ok (.istore 4, 2) := by decide +kernel
theorem dX10_couplesOf_5 : decode cX10_couplesOf 5 = .ok (.iload 4, 2) := by decide +kernel
theorem dX10_couplesOf_7 : decode cX10_couplesOf 7 = .ok (.bipush 61, 2) := by decide +kernel
theorem dX10_couplesOf_9 : decode cX10_couplesOf 9 = .ok (.if_icmp .ge 17, 3) := by decide +kernel
theorem dX10_couplesOf_12 : decode cX10_couplesOf 12 = .ok (.aload_n 0, 1) := by decide +kernel
theorem dX10_couplesOf_13 : decode cX10_couplesOf 13 = .ok (.getfield 56, 3) := by decide +kernel
theorem dX10_couplesOf_16 : decode cX10_couplesOf 16 = .ok (.iload 4, 2) := by decide +kernel
theorem dX10_couplesOf_18 : decode cX10_couplesOf 18 = .ok (.iconst 0, 1) := by decide +kernel
theorem dX10_couplesOf_19 : decode cX10_couplesOf 19 = .ok (.bastore, 1) := by decide +kernel
theorem dX10_couplesOf_20 : decode cX10_couplesOf 20 = .ok (.iinc 4 1, 3) := by decide +kernel
theorem dX10_couplesOf_23 : decode cX10_couplesOf 23 = .ok (.goto (-18), 3) := by decide +kernel
theorem dX10_couplesOf_26 : decode cX10_couplesOf 26 = .ok (.iconst 0, 1) := by decide +kernel
theorem dX10_couplesOf_27 : decode cX10_couplesOf 27 = .ok (.istore 4, 2) := by decide +kernel
theorem dX10_couplesOf_29 : decode cX10_couplesOf 29 = .ok (.iload 4, 2) := by decide +kernel
theorem dX10_couplesOf_31 : decode cX10_couplesOf 31 = .ok (.aload_n 0, 1) := by decide +kernel
theorem dX10_couplesOf_32 : decode cX10_couplesOf 32 = .ok (.getfield 98, 3) := by decide +kernel
theorem dX10_couplesOf_35 : decode cX10_couplesOf 35 = .ok (.if_icmp .ge 103, 3) := by decide +kernel
theorem dX10_couplesOf_38 : decode cX10_couplesOf 38 = .ok (.iload 4, 2) := by decide +kernel
theorem dX10_couplesOf_40 : decode cX10_couplesOf 40 = .ok (.iconst 1, 1) := by decide +kernel
theorem dX10_couplesOf_41 : decode cX10_couplesOf 41 = .ok (.iadd, 1) := by decide +kernel
theorem dX10_couplesOf_42 : decode cX10_couplesOf 42 = .ok (.istore 5, 2) := by decide +kernel
theorem dX10_couplesOf_44 : decode cX10_couplesOf 44 = .ok (.iload 5, 2) := by decide +kernel
theorem dX10_couplesOf_46 : decode cX10_couplesOf 46 = .ok (.aload_n 0, 1) := by decide +kernel
theorem dX10_couplesOf_47 : decode cX10_couplesOf 47 = .ok (.getfield 98, 3) := by decide +kernel
theorem dX10_couplesOf_50 : decode cX10_couplesOf 50 = .ok (.if_icmp .ge 82, 3) := by decide +kernel
theorem dX10_couplesOf_53 : decode cX10_couplesOf 53 = .ok (.iload 4, 2) := by decide +kernel
theorem dX10_couplesOf_55 : decode cX10_couplesOf 55 = .ok (.iload_n 1, 1) := by decide +kernel
theorem dX10_couplesOf_56 : decode cX10_couplesOf 56 = .ok (.if_icmp .eq 70, 3) := by decide +kernel
theorem dX10_couplesOf_59 : decode cX10_couplesOf 59 = .ok (.iload 5, 2) := by decide +kernel
theorem dX10_couplesOf_61 : decode cX10_couplesOf 61 = .ok (.iload_n 1, 1) := by decide +kernel
theorem dX10_couplesOf_62 : decode cX10_couplesOf 62 = .ok (.if_icmp .eq 64, 3) := by decide +kernel
theorem dX10_couplesOf_65 : decode cX10_couplesOf 65 = .ok (.iload_n 2, 1) := by decide +kernel
theorem dX10_couplesOf_66 : decode cX10_couplesOf 66 = .ok (.iload 4, 2) := by decide +kernel
theorem dX10_couplesOf_68 : decode cX10_couplesOf 68 = .ok (.ishr, 1) := by decide +kernel
theorem dX10_couplesOf_69 : decode cX10_couplesOf 69 = .ok (.iconst 1, 1) := by decide +kernel
theorem dX10_couplesOf_70 : decode cX10_couplesOf 70 = .ok (.iand, 1) := by decide +kernel
theorem dX10_couplesOf_71 : decode cX10_couplesOf 71 = .ok (.ifCond .eq 55, 3) := by decide +kernel
theorem dX10_couplesOf_74 : decode cX10_couplesOf 74 = .ok (.iload_n 2, 1) := by decide +kernel
theorem dX10_couplesOf_75 : decode cX10_couplesOf 75 = .ok (.iload 5, 2) := by decide +kernel
theorem dX10_couplesOf_77 : decode cX10_couplesOf 77 = .ok (.ishr, 1) := by decide +kernel
theorem dX10_couplesOf_78 : decode cX10_couplesOf 78 = .ok (.iconst 1, 1) := by decide +kernel
theorem dX10_couplesOf_79 : decode cX10_couplesOf 79 = .ok (.iand, 1) := by decide +kernel
theorem dX10_couplesOf_80 : decode cX10_couplesOf 80 = .ok (.ifCond .eq 46, 3) := by decide +kernel
theorem dX10_couplesOf_83 : decode cX10_couplesOf 83 = .ok (.aload_n 0, 1) := by decide +kernel
theorem dX10_couplesOf_84 : decode cX10_couplesOf 84 = .ok (.iload_n 1, 1) := by decide +kernel
theorem dX10_couplesOf_85 : decode cX10_couplesOf 85 = .ok (.iload 4, 2) := by decide +kernel
theorem dX10_couplesOf_87 : decode cX10_couplesOf 87 = .ok (.iload 5, 2) := by decide +kernel
theorem dX10_couplesOf_89 : decode cX10_couplesOf 89 = .ok (.iload_n 2, 1) := by decide +kernel
theorem dX10_couplesOf_90 : decode cX10_couplesOf 90 = .ok (.invokevirtual 240, 3) := by decide +kernel
theorem dX10_couplesOf_93 : decode cX10_couplesOf 93 = .ok (.ifCond .ne 6, 3) := by decide +kernel
theorem dX10_couplesOf_96 : decode cX10_couplesOf 96 = .ok (.goto 30, 3) := by decide +kernel
theorem dX10_couplesOf_99 : decode cX10_couplesOf 99 = .ok (.iload_n 3, 1) := by decide +kernel
theorem dX10_couplesOf_100 : decode cX10_couplesOf 100 = .ok (.iconst 1, 1) := by decide +kernel
theorem dX10_couplesOf_101 : decode cX10_couplesOf 101 = .ok (.iadd, 1) := by decide +kernel
theorem dX10_couplesOf_102 : decode cX10_couplesOf 102 = .ok (.istore_n 3, 1) := by decide +kernel
theorem dX10_couplesOf_103 : decode cX10_couplesOf 103 = .ok (.aload_n 0, 1) := by decide +kernel
theorem dX10_couplesOf_104 : decode cX10_couplesOf 104 = .ok (.getfield 56, 3) := by decide +kernel
theorem dX10_couplesOf_107 : decode cX10_couplesOf 107 = .ok (.aload_n 0, 1) := by decide +kernel
theorem dX10_couplesOf_108 : decode cX10_couplesOf 108 = .ok (.aload_n 0, 1) := by decide +kernel
theorem dX10_couplesOf_109 : decode cX10_couplesOf 109 = .ok (.iload 4, 2) := by decide +kernel
theorem dX10_couplesOf_111 : decode cX10_couplesOf 111 = .ok (.invokevirtual 109, 3) := by decide +kernel
theorem dX10_couplesOf_114 : decode cX10_couplesOf 114 = .ok (.aload_n 0, 1) := by decide +kernel
theorem dX10_couplesOf_115 : decode cX10_couplesOf 115 = .ok (.iload 5, 2) := by decide +kernel
theorem dX10_couplesOf_117 : decode cX10_couplesOf 117 = .ok (.invokevirtual 109, 3) := by decide +kernel
theorem dX10_couplesOf_120 : decode cX10_couplesOf 120 = .ok (.isub, 1) := by decide +kernel
theorem dX10_couplesOf_121 : decode cX10_couplesOf 121 = .ok (.invokevirtual 223, 3) := by decide +kernel
theorem dX10_couplesOf_124 : decode cX10_couplesOf 124 = .ok (.iconst 1, 1) := by decide +kernel
theorem dX10_couplesOf_125 : decode cX10_couplesOf 125 = .ok (.bastore, 1) := by decide +kernel
theorem dX10_couplesOf_126 : decode cX10_couplesOf 126 = .ok (.iinc 5 1, 3) := by decide +kernel
theorem dX10_couplesOf_129 : decode cX10_couplesOf 129 = .ok (.goto (-85), 3) := by decide +kernel
theorem dX10_couplesOf_132 : decode cX10_couplesOf 132 = .ok (.iinc 4 1, 3) := by decide +kernel
theorem dX10_couplesOf_135 : decode cX10_couplesOf 135 = .ok (.goto (-106), 3) := by decide +kernel
theorem dX10_couplesOf_138 : decode cX10_couplesOf 138 = .ok (.iload_n 3, 1) := by decide +kernel
theorem dX10_couplesOf_139 : decode cX10_couplesOf 139 = .ok (.ireturn, 1) := by decide +kernel
theorem dX10_wordsOf_0 : decode cX10_wordsOf 0 = .ok (.aload_n 0, 1) := by decide +kernel
theorem dX10_wordsOf_1 : decode cX10_wordsOf 1 = .ok (.iload_n 1, 1) := by decide +kernel
theorem dX10_wordsOf_2 : decode cX10_wordsOf 2 = .ok (.aload_n 0, 1) := by decide +kernel
theorem dX10_wordsOf_3 : decode cX10_wordsOf 3 = .ok (.getfield 116, 3) := by decide +kernel
theorem dX10_wordsOf_6 : decode cX10_wordsOf 6 = .ok (.invokevirtual 244, 3) := by decide +kernel
theorem dX10_wordsOf_9 : decode cX10_wordsOf 9 = .ok (.pop, 1) := by decide +kernel
theorem dX10_wordsOf_10 : decode cX10_wordsOf 10 = .ok (.iconst 0, 1) := by decide +kernel
theorem dX10_wordsOf_11 : decode cX10_wordsOf 11 = .ok (.istore_n 2, 1) := by decide +kernel
theorem dX10_wordsOf_12 : decode cX10_wordsOf 12 = .ok (.iconst 0, 1) := by decide +kernel
theorem dX10_wordsOf_13 : decode cX10_wordsOf 13 = .ok (.istore_n 3, 1) := by decide +kernel
theorem dX10_wordsOf_14 : decode cX10_wordsOf 14 = .ok (.iload_n 3, 1) := by decide +kernel
theorem dX10_wordsOf_15 : decode cX10_wordsOf 15 = .ok (.bipush 61, 2) := by decide +kernel
theorem dX10_wordsOf_17 : decode cX10_wordsOf 17 = .ok (.if_icmp .ge 22, 3) := by decide +kernel
theorem dX10_wordsOf_20 : decode cX10_wordsOf 20 = .ok (.aload_n 0, 1) := by decide +kernel
theorem dX10_wordsOf_21 : decode cX10_wordsOf 21 = .ok (.getfield 56, 3) := by decide +kernel
theorem dX10_wordsOf_24 : decode cX10_wordsOf 24 = .ok (.iload_n 3, 1) := by decide +kernel
theorem dX10_wordsOf_25 : decode cX10_wordsOf 25 = .ok (.baload, 1) := by decide +kernel
theorem dX10_wordsOf_26 : decode cX10_wordsOf 26 = .ok (.ifCond .eq 7, 3) := by decide +kernel
theorem dX10_wordsOf_29 : decode cX10_wordsOf 29 = .ok (.iload_n 2, 1) := by decide +kernel
theorem dX10_wordsOf_30 : decode cX10_wordsOf 30 = .ok (.iconst 1, 1) := by decide +kernel
theorem dX10_wordsOf_31 : decode cX10_wordsOf 31 = .ok (.iadd, 1) := by decide +kernel
theorem dX10_wordsOf_32 : decode cX10_wordsOf 32 = .ok (.istore_n 2, 1) := by decide +kernel
theorem dX10_wordsOf_33 : decode cX10_wordsOf 33 = .ok (.iinc 3 1, 3) := by decide +kernel
theorem dX10_wordsOf_36 : decode cX10_wordsOf 36 = .ok (.goto (-22), 3) := by decide +kernel
theorem dX10_wordsOf_39 : decode cX10_wordsOf 39 = .ok (.iload_n 2, 1) := by decide +kernel
theorem dX10_wordsOf_40 : decode cX10_wordsOf 40 = .ok (.ireturn, 1) := by decide +kernel
theorem dX10_deaf_0 : decode cX10_deaf 0 = .ok (.aload_n 0, 1) := by decide +kernel
theorem dX10_deaf_1 : decode cX10_deaf 1 = .ok (.iconst 0, 1) := by decide +kernel
theorem dX10_deaf_2 : decode cX10_deaf 2 = .ok (.putfield 90, 3) := by decide +kernel
theorem dX10_deaf_5 : decode cX10_deaf 5 = .ok (.aload_n 0, 1) := by decide +kernel
theorem dX10_deaf_6 : decode cX10_deaf 6 = .ok (.iload_n 1, 1) := by decide +kernel
theorem dX10_deaf_7 : decode cX10_deaf 7 = .ok (.invokevirtual 105, 3) := by decide +kernel
theorem dX10_deaf_10 : decode cX10_deaf 10 = .ok (.ifCond .eq 16, 3) := by decide +kernel
theorem dX10_deaf_13 : decode cX10_deaf 13 = .ok (.aload_n 0, 1) := by decide +kernel
theorem dX10_deaf_14 : decode cX10_deaf 14 = .ok (.iload_n 2, 1) := by decide +kernel
theorem dX10_deaf_15 : decode cX10_deaf 15 = .ok (.invokevirtual 105, 3) := by decide +kernel
theorem dX10_deaf_18 : decode cX10_deaf 18 = .ok (.ifCond .eq 8, 3) := by decide +kernel
theorem dX10_deaf_21 : decode cX10_deaf 21 = .ok (.iload_n 1, 1) := by decide +kernel
theorem dX10_deaf_22 : decode cX10_deaf 22 = .ok (.iload_n 2, 1) := by decide +kernel
theorem dX10_deaf_23 : decode cX10_deaf 23 = .ok (.if_icmp .ne 7, 3) := by decide +kernel
theorem dX10_deaf_26 : decode cX10_deaf 26 = .ok (.sipush (-1000), 3) := by decide +kernel
theorem dX10_deaf_29 : decode cX10_deaf 29 = .ok (.ireturn, 1) := by decide +kernel
theorem dX10_deaf_30 : decode cX10_deaf 30 = .ok (.aload_n 0, 1) := by decide +kernel
theorem dX10_deaf_31 : decode cX10_deaf 31 = .ok (.iload_n 1, 1) := by decide +kernel
theorem dX10_deaf_32 : decode cX10_deaf 32 = .ok (.aload_n 0, 1) := by decide +kernel
theorem dX10_deaf_33 : decode cX10_deaf 33 = .ok (.getfield 116, 3) := by decide +kernel
theorem dX10_deaf_36 : decode cX10_deaf 36 = .ok (.invokevirtual 244, 3) := by decide +kernel
theorem dX10_deaf_39 : decode cX10_deaf 39 = .ok (.aload_n 0, 1) := by decide +kernel
theorem dX10_deaf_40 : decode cX10_deaf 40 = .ok (.iload_n 1, 1) := by decide +kernel
theorem dX10_deaf_41 : decode cX10_deaf 41 = .ok (.aload_n 0, 1) := by decide +kernel
theorem dX10_deaf_42 : decode cX10_deaf 42 = .ok (.getfield 116, 3) := by decide +kernel
theorem dX10_deaf_45 : decode cX10_deaf 45 = .ok (.iconst 1, 1) := by decide +kernel
theorem dX10_deaf_46 : decode cX10_deaf 46 = .ok (.iload_n 2, 1) := by decide +kernel
theorem dX10_deaf_47 : decode cX10_deaf 47 = .ok (.ishl, 1) := by decide +kernel
theorem dX10_deaf_48 : decode cX10_deaf 48 = .ok (.iconst (-1), 1) := by decide +kernel
theorem dX10_deaf_49 : decode cX10_deaf 49 = .ok (.ixor, 1) := by decide +kernel
theorem dX10_deaf_50 : decode cX10_deaf 50 = .ok (.iand, 1) := by decide +kernel
theorem dX10_deaf_51 : decode cX10_deaf 51 = .ok (.invokevirtual 244, 3) := by decide +kernel
theorem dX10_deaf_54 : decode cX10_deaf 54 = .ok (.isub, 1) := by decide +kernel
theorem dX10_deaf_55 : decode cX10_deaf 55 = .ok (.ireturn, 1) := by decide +kernel
theorem dX10_of_0 : decode cX10_of 0 = .ok (.aload_n 0, 1) := by decide +kernel
theorem dX10_of_1 : decode cX10_of 1 = .ok (.iconst 0, 1) := by decide +kernel
theorem dX10_of_2 : decode cX10_of 2 = .ok (.putfield 90, 3) := by decide +kernel
theorem dX10_of_5 : decode cX10_of 5 = .ok (.aload_n 0, 1) := by decide +kernel
theorem dX10_of_6 : decode cX10_of 6 = .ok (.iload_n 1, 1) := by decide +kernel
theorem dX10_of_7 : decode cX10_of 7 = .ok (.invokevirtual 105, 3) := by decide +kernel
theorem dX10_of_10 : decode cX10_of 10 = .ok (.ifCond .ne 6, 3) := by decide +kernel
theorem dX10_of_13 : decode cX10_of 13 = .ok (.bipush (-2), 2) := by decide +kernel
theorem dX10_of_15 : decode cX10_of 15 = .ok (.ireturn, 1) := by decide +kernel
theorem dX10_of_16 : decode cX10_of 16 = .ok (.iload_n 2, 1) := by decide +kernel
theorem dX10_of_17 : decode cX10_of 17 = .ok (.ifCond .ne 9, 3) := by decide +kernel
theorem dX10_of_20 : decode cX10_of 20 = .ok (.aload_n 0, 1) := by decide +kernel
theorem dX10_of_21 : decode cX10_of 21 = .ok (.iload_n 1, 1) := by decide +kernel
theorem dX10_of_22 : decode cX10_of 22 = .ok (.invokevirtual 109, 3) := by decide +kernel
theorem dX10_of_25 : decode cX10_of 25 = .ok (.ireturn, 1) := by decide +kernel
theorem dX10_of_26 : decode cX10_of 26 = .ok (.iload_n 2, 1) := by decide +kernel
theorem dX10_of_27 : decode cX10_of 27 = .ok (.iconst 1, 1) := by decide +kernel
theorem dX10_of_28 : decode cX10_of 28 = .ok (.if_icmp .ne 12, 3) := by decide +kernel
theorem dX10_of_31 : decode cX10_of 31 = .ok (.aload_n 0, 1) := by decide +kernel
theorem dX10_of_32 : decode cX10_of 32 = .ok (.getfield 116, 3) := by decide +kernel
theorem dX10_of_35 : decode cX10_of 35 = .ok (.iload_n 1, 1) := by decide +kernel
theorem dX10_of_36 : decode cX10_of 36 = .ok (.ishr, 1) := by decide +kernel
theorem dX10_of_37 : decode cX10_of 37 = .ok (.iconst 1, 1) := by decide +kernel
theorem dX10_of_38 : decode cX10_of 38 = .ok (.iand, 1) := by decide +kernel
theorem dX10_of_39 : decode cX10_of 39 = .ok (.ireturn, 1) := by decide +kernel
theorem dX10_of_40 : decode cX10_of 40 = .ok (.iload_n 2, 1) := by decide +kernel
theorem dX10_of_41 : decode cX10_of 41 = .ok (.iconst 2, 1) := by decide +kernel
theorem dX10_of_42 : decode cX10_of 42 = .ok (.if_icmp .ne 12, 3) := by decide +kernel
theorem dX10_of_45 : decode cX10_of 45 = .ok (.aload_n 0, 1) := by decide +kernel
theorem dX10_of_46 : decode cX10_of 46 = .ok (.getfield 16, 3) := by decide +kernel
theorem dX10_of_49 : decode cX10_of 49 = .ok (.iload_n 1, 1) := by decide +kernel
theorem dX10_of_50 : decode cX10_of 50 = .ok (.iaload, 1) := by decide +kernel
theorem dX10_of_51 : decode cX10_of 51 = .ok (.iconst 5, 1) := by decide +kernel
theorem dX10_of_52 : decode cX10_of 52 = .ok (.iadd, 1) := by decide +kernel
theorem dX10_of_53 : decode cX10_of 53 = .ok (.ireturn, 1) := by decide +kernel
theorem dX10_of_54 : decode cX10_of 54 = .ok (.iload_n 2, 1) := by decide +kernel
theorem dX10_of_55 : decode cX10_of 55 = .ok (.iconst 3, 1) := by decide +kernel
theorem dX10_of_56 : decode cX10_of 56 = .ok (.if_icmp .ne 15, 3) := by decide +kernel
theorem dX10_of_59 : decode cX10_of 59 = .ok (.aload_n 0, 1) := by decide +kernel
theorem dX10_of_60 : decode cX10_of 60 = .ok (.iload_n 1, 1) := by decide +kernel
theorem dX10_of_61 : decode cX10_of 61 = .ok (.aload_n 0, 1) := by decide +kernel
theorem dX10_of_62 : decode cX10_of 62 = .ok (.getfield 116, 3) := by decide +kernel
theorem dX10_of_65 : decode cX10_of 65 = .ok (.invokevirtual 244, 3) := by decide +kernel
theorem dX10_of_68 : decode cX10_of 68 = .ok (.goto 18, 3) := by decide +kernel
theorem dX10_of_71 : decode cX10_of 71 = .ok (.iload_n 2, 1) := by decide +kernel
theorem dX10_of_72 : decode cX10_of 72 = .ok (.iconst 4, 1) := by decide +kernel
theorem dX10_of_73 : decode cX10_of 73 = .ok (.if_icmp .ne 11, 3) := by decide +kernel
theorem dX10_of_76 : decode cX10_of 76 = .ok (.aload_n 0, 1) := by decide +kernel
theorem dX10_of_77 : decode cX10_of 77 = .ok (.iload_n 1, 1) := by decide +kernel
theorem dX10_of_78 : decode cX10_of 78 = .ok (.invokevirtual 247, 3) := by decide +kernel
theorem dX10_of_81 : decode cX10_of 81 = .ok (.goto 5, 3) := by decide +kernel
theorem dX10_of_84 : decode cX10_of 84 = .ok (.bipush (-2), 2) := by decide +kernel
theorem dX10_of_86 : decode cX10_of 86 = .ok (.ireturn, 1) := by decide +kernel
theorem dX10_notes_0 : decode cX10_notes 0 = .ok (.aload_n 0, 1) := by decide +kernel
theorem dX10_notes_1 : decode cX10_notes 1 = .ok (.getfield 7, 3) := by decide +kernel
theorem dX10_notes_4 : decode cX10_notes 4 = .ok (.bipush 10, 2) := by decide +kernel
theorem dX10_notes_6 : decode cX10_notes 6 = .ok (.iaload, 1) := by decide +kernel
theorem dX10_notes_7 : decode cX10_notes 7 = .ok (.istore 4, 2) := by decide +kernel
theorem dX10_notes_9 : decode cX10_notes 9 = .ok (.iload 4, 2) := by decide +kernel
theorem dX10_notes_11 : decode cX10_notes 11 = .ok (.bipush 100, 2) := by decide +kernel
theorem dX10_notes_13 : decode cX10_notes 13 = .ok (.if_icmp .ne 4, 3) := by decide +kernel
theorem dX10_notes_16 : decode cX10_notes 16 = .ok (.return_, 1) := by decide +kernel
theorem dX10_notes_17 : decode cX10_notes 17 = .ok (.aload_n 0, 1) := by decide +kernel
theorem dX10_notes_18 : decode cX10_notes 18 = .ok (.getfield 19, 3) := by decide +kernel
theorem dX10_notes_21 : decode cX10_notes 21 = .ok (.iconst 5, 1) := by decide +kernel
theorem dX10_notes_22 : decode cX10_notes 22 = .ok (.iload 4, 2) := by decide +kernel
theorem dX10_notes_24 : decode cX10_notes 24 = .ok (.imul, 1) := by decide +kernel
theorem dX10_notes_25 : decode cX10_notes 25 = .ok (.iload_n 1, 1) := by decide +kernel
theorem dX10_notes_26 : decode cX10_notes 26 = .ok (.iload_n 2, 1) := by decide +kernel
theorem dX10_notes_27 : decode cX10_notes 27 = .ok (.if_icmp .ge 7, 3) := by decide +kernel
theorem dX10_notes_30 : decode cX10_notes 30 = .ok (.iload_n 1, 1) := by decide +kernel
theorem dX10_notes_31 : decode cX10_notes 31 = .ok (.goto 4, 3) := by decide +kernel
theorem dX10_notes_34 : decode cX10_notes 34 = .ok (.iload_n 2, 1) := by decide +kernel
theorem dX10_notes_35 : decode cX10_notes 35 = .ok (.iastore, 1) := by decide +kernel
theorem dX10_notes_36 : decode cX10_notes 36 = .ok (.aload_n 0, 1) := by decide +kernel
theorem dX10_notes_37 : decode cX10_notes 37 = .ok (.getfield 19, 3) := by decide +kernel
theorem dX10_notes_40 : decode cX10_notes 40 = .ok (.iconst 5, 1) := by decide +kernel
theorem dX10_notes_41 : decode cX10_notes 41 = .ok (.iload 4, 2) := by decide +kernel
theorem dX10_notes_43 : decode cX10_notes 43 = .ok (.imul, 1) := by decide +kernel
theorem dX10_notes_44 : decode cX10_notes 44 = .ok (.iconst 1, 1) := by decide +kernel
theorem dX10_notes_45 : decode cX10_notes 45 = .ok (.iadd, 1) := by decide +kernel
theorem dX10_notes_46 : decode cX10_notes 46 = .ok (.iload_n 1, 1) := by decide +kernel
theorem dX10_notes_47 : decode cX10_notes 47 = .ok (.iload_n 2, 1) := by decide +kernel
theorem dX10_notes_48 : decode cX10_notes 48 = .ok (.if_icmp .ge 7, 3) := by decide +kernel
theorem dX10_notes_51 : decode cX10_notes 51 = .ok (.iload_n 2, 1) := by decide +kernel
theorem dX10_notes_52 : decode cX10_notes 52 = .ok (.goto 4, 3) := by decide +kernel
theorem dX10_notes_55 : decode cX10_notes 55 = .ok (.iload_n 1, 1) := by decide +kernel
theorem dX10_notes_56 : decode cX10_notes 56 = .ok (.iastore, 1) := by decide +kernel
theorem dX10_notes_57 : decode cX10_notes 57 = .ok (.aload_n 0, 1) := by decide +kernel
theorem dX10_notes_58 : decode cX10_notes 58 = .ok (.getfield 19, 3) := by decide +kernel
theorem dX10_notes_61 : decode cX10_notes 61 = .ok (.iconst 5, 1) := by decide +kernel
theorem dX10_notes_62 : decode cX10_notes 62 = .ok (.iload 4, 2) := by decide +kernel
theorem dX10_notes_64 : decode cX10_notes 64 = .ok (.imul, 1) := by decide +kernel
theorem dX10_notes_65 : decode cX10_notes 65 = .ok (.iconst 2, 1) := by decide +kernel
theorem dX10_notes_66 : decode cX10_notes 66 = .ok (.iadd, 1) := by decide +kernel
theorem dX10_notes_67 : decode cX10_notes 67 = .ok (.aload_n 0, 1) := by decide +kernel
theorem dX10_notes_68 : decode cX10_notes 68 = .ok (.aload_n 0, 1) := by decide +kernel
theorem dX10_notes_69 : decode cX10_notes 69 = .ok (.iload_n 1, 1) := by decide +kernel
theorem dX10_notes_70 : decode cX10_notes 70 = .ok (.invokevirtual 109, 3) := by decide +kernel
theorem dX10_notes_73 : decode cX10_notes 73 = .ok (.aload_n 0, 1) := by decide +kernel
theorem dX10_notes_74 : decode cX10_notes 74 = .ok (.iload_n 2, 1) := by decide +kernel
theorem dX10_notes_75 : decode cX10_notes 75 = .ok (.invokevirtual 109, 3) := by decide +kernel
theorem dX10_notes_78 : decode cX10_notes 78 = .ok (.isub, 1) := by decide +kernel
theorem dX10_notes_79 : decode cX10_notes 79 = .ok (.invokevirtual 223, 3) := by decide +kernel
theorem dX10_notes_82 : decode cX10_notes 82 = .ok (.iastore, 1) := by decide +kernel
theorem dX10_notes_83 : decode cX10_notes 83 = .ok (.aload_n 0, 1) := by decide +kernel
theorem dX10_notes_84 : decode cX10_notes 84 = .ok (.getfield 19, 3) := by decide +kernel
theorem dX10_notes_87 : decode cX10_notes 87 = .ok (.iconst 5, 1) := by decide +kernel
theorem dX10_notes_88 : decode cX10_notes 88 = .ok (.iload 4, 2) := by decide +kernel
theorem dX10_notes_90 : decode cX10_notes 90 = .ok (.imul, 1) := by decide +kernel
theorem dX10_notes_91 : decode cX10_notes 91 = .ok (.iconst 3, 1) := by decide +kernel
theorem dX10_notes_92 : decode cX10_notes 92 = .ok (.iadd, 1) := by decide +kernel
theorem dX10_notes_93 : decode cX10_notes 93 = .ok (.aload_n 0, 1) := by decide +kernel
theorem dX10_notes_94 : decode cX10_notes 94 = .ok (.getfield 7, 3) := by decide +kernel
theorem dX10_notes_97 : decode cX10_notes 97 = .ok (.bipush 11, 2) := by decide +kernel
theorem dX10_notes_99 : decode cX10_notes 99 = .ok (.iaload, 1) := by decide +kernel
theorem dX10_notes_100 : decode cX10_notes 100 = .ok (.iastore, 1) := by decide +kernel
theorem dX10_notes_101 : decode cX10_notes 101 = .ok (.aload_n 0, 1) := by decide +kernel
theorem dX10_notes_102 : decode cX10_notes 102 = .ok (.getfield 19, 3) := by decide +kernel
theorem dX10_notes_105 : decode cX10_notes 105 = .ok (.iconst 5, 1) := by decide +kernel
theorem dX10_notes_106 : decode cX10_notes 106 = .ok (.iload 4, 2) := by decide +kernel
theorem dX10_notes_108 : decode cX10_notes 108 = .ok (.imul, 1) := by decide +kernel
theorem dX10_notes_109 : decode cX10_notes 109 = .ok (.iconst 4, 1) := by decide +kernel
theorem dX10_notes_110 : decode cX10_notes 110 = .ok (.iadd, 1) := by decide +kernel
theorem dX10_notes_111 : decode cX10_notes 111 = .ok (.iload_n 3, 1) := by decide +kernel
theorem dX10_notes_112 : decode cX10_notes 112 = .ok (.iastore, 1) := by decide +kernel
theorem dX10_notes_113 : decode cX10_notes 113 = .ok (.aload_n 0, 1) := by decide +kernel
theorem dX10_notes_114 : decode cX10_notes 114 = .ok (.getfield 7, 3) := by decide +kernel
theorem dX10_notes_117 : decode cX10_notes 117 = .ok (.bipush 10, 2) := by decide +kernel
theorem dX10_notes_119 : decode cX10_notes 119 = .ok (.iload 4, 2) := by decide +kernel
theorem dX10_notes_121 : decode cX10_notes 121 = .ok (.iconst 1, 1) := by decide +kernel
theorem dX10_notes_122 : decode cX10_notes 122 = .ok (.iadd, 1) := by decide +kernel
theorem dX10_notes_123 : decode cX10_notes 123 = .ok (.iastore, 1) := by decide +kernel
theorem dX10_notes_124 : decode cX10_notes 124 = .ok (.return_, 1) := by decide +kernel
theorem dX10_speak_0 : decode cX10_speak 0 = .ok (.aload_n 0, 1) := by decide +kernel
theorem dX10_speak_1 : decode cX10_speak 1 = .ok (.iconst 0, 1) := by decide +kernel
theorem dX10_speak_2 : decode cX10_speak 2 = .ok (.putfield 90, 3) := by decide +kernel
theorem dX10_speak_5 : decode cX10_speak 5 = .ok (.aload_n 0, 1) := by decide +kernel
theorem dX10_speak_6 : decode cX10_speak 6 = .ok (.iload_n 1, 1) := by decide +kernel
theorem dX10_speak_7 : decode cX10_speak 7 = .ok (.invokevirtual 105, 3) := by decide +kernel
theorem dX10_speak_10 : decode cX10_speak 10 = .ok (.ifCond .eq 34, 3) := by decide +kernel
theorem dX10_speak_13 : decode cX10_speak 13 = .ok (.aload_n 0, 1) := by decide +kernel
theorem dX10_speak_14 : decode cX10_speak 14 = .ok (.iload_n 2, 1) := by decide +kernel
theorem dX10_speak_15 : decode cX10_speak 15 = .ok (.invokevirtual 105, 3) := by decide +kernel
theorem dX10_speak_18 : decode cX10_speak 18 = .ok (.ifCond .eq 26, 3) := by decide +kernel
theorem dX10_speak_21 : decode cX10_speak 21 = .ok (.iload_n 1, 1) := by decide +kernel
theorem dX10_speak_22 : decode cX10_speak 22 = .ok (.iload_n 2, 1) := by decide +kernel
theorem dX10_speak_23 : decode cX10_speak 23 = .ok (.if_icmp .eq 21, 3) := by decide +kernel
theorem dX10_speak_26 : decode cX10_speak 26 = .ok (.aload_n 0, 1) := by decide +kernel
theorem dX10_speak_27 : decode cX10_speak 27 = .ok (.iload_n 1, 1) := by decide +kernel
theorem dX10_speak_28 : decode cX10_speak 28 = .ok (.invokevirtual 109, 3) := by decide +kernel
theorem dX10_speak_31 : decode cX10_speak 31 = .ok (.iconst (-1), 1) := by decide +kernel
theorem dX10_speak_32 : decode cX10_speak 32 = .ok (.if_icmp .eq 12, 3) := by decide +kernel
theorem dX10_speak_35 : decode cX10_speak 35 = .ok (.aload_n 0, 1) := by decide +kernel
theorem dX10_speak_36 : decode cX10_speak 36 = .ok (.iload_n 2, 1) := by decide +kernel
theorem dX10_speak_37 : decode cX10_speak 37 = .ok (.invokevirtual 109, 3) := by decide +kernel
theorem dX10_speak_40 : decode cX10_speak 40 = .ok (.iconst (-1), 1) := by decide +kernel
theorem dX10_speak_41 : decode cX10_speak 41 = .ok (.if_icmp .ne 5, 3) := by decide +kernel
theorem dX10_speak_44 : decode cX10_speak 44 = .ok (.iconst (-1), 1) := by decide +kernel
theorem dX10_speak_45 : decode cX10_speak 45 = .ok (.ireturn, 1) := by decide +kernel
theorem dX10_speak_46 : decode cX10_speak 46 = .ok (.aload_n 0, 1) := by decide +kernel
theorem dX10_speak_47 : decode cX10_speak 47 = .ok (.invokevirtual 250, 3) := by decide +kernel
theorem dX10_speak_50 : decode cX10_speak 50 = .ok (.iconst 0, 1) := by decide +kernel
theorem dX10_speak_51 : decode cX10_speak 51 = .ok (.istore_n 3, 1) := by decide +kernel
theorem dX10_speak_52 : decode cX10_speak 52 = .ok (.iconst 0, 1) := by decide +kernel
theorem dX10_speak_53 : decode cX10_speak 53 = .ok (.istore 4, 2) := by decide +kernel
theorem dX10_speak_55 : decode cX10_speak 55 = .ok (.iload 4, 2) := by decide +kernel
theorem dX10_speak_57 : decode cX10_speak 57 = .ok (.aload_n 0, 1) := by decide +kernel
theorem dX10_speak_58 : decode cX10_speak 58 = .ok (.getfield 98, 3) := by decide +kernel
theorem dX10_speak_61 : decode cX10_speak 61 = .ok (.if_icmp .ge 43, 3) := by decide +kernel
theorem dX10_speak_64 : decode cX10_speak 64 = .ok (.iload 4, 2) := by decide +kernel
theorem dX10_speak_66 : decode cX10_speak 66 = .ok (.iload_n 1, 1) := by decide +kernel
theorem dX10_speak_67 : decode cX10_speak 67 = .ok (.if_icmp .eq 31, 3) := by decide +kernel
theorem dX10_speak_70 : decode cX10_speak 70 = .ok (.iload 4, 2) := by decide +kernel
theorem dX10_speak_72 : decode cX10_speak 72 = .ok (.iload_n 2, 1) := by decide +kernel
theorem dX10_speak_73 : decode cX10_speak 73 = .ok (.if_icmp .eq 25, 3) := by decide +kernel
theorem dX10_speak_76 : decode cX10_speak 76 = .ok (.aload_n 0, 1) := by decide +kernel
theorem dX10_speak_77 : decode cX10_speak 77 = .ok (.iload 4, 2) := by decide +kernel
theorem dX10_speak_79 : decode cX10_speak 79 = .ok (.iload_n 1, 1) := by decide +kernel
theorem dX10_speak_80 : decode cX10_speak 80 = .ok (.iload_n 2, 1) := by decide +kernel
theorem dX10_speak_81 : decode cX10_speak 81 = .ok (.aload_n 0, 1) := by decide +kernel
theorem dX10_speak_82 : decode cX10_speak 82 = .ok (.getfield 116, 3) := by decide +kernel
theorem dX10_speak_85 : decode cX10_speak 85 = .ok (.invokevirtual 240, 3) := by decide +kernel
theorem dX10_speak_88 : decode cX10_speak 88 = .ok (.ifCond .eq 10, 3) := by decide +kernel
theorem dX10_speak_91 : decode cX10_speak 91 = .ok (.iload_n 3, 1) := by decide +kernel
theorem dX10_speak_92 : decode cX10_speak 92 = .ok (.iconst 1, 1) := by decide +kernel
theorem dX10_speak_93 : decode cX10_speak 93 = .ok (.iload 4, 2) := by decide +kernel
theorem dX10_speak_95 : decode cX10_speak 95 = .ok (.ishl, 1) := by decide +kernel
theorem dX10_speak_96 : decode cX10_speak 96 = .ok (.ior, 1) := by decide +kernel
theorem dX10_speak_97 : decode cX10_speak 97 = .ok (.istore_n 3, 1) := by decide +kernel
theorem dX10_speak_98 : decode cX10_speak 98 = .ok (.iinc 4 1, 3) := by decide +kernel
theorem dX10_speak_101 : decode cX10_speak 101 = .ok (.goto (-46), 3) := by decide +kernel
theorem dX10_speak_104 : decode cX10_speak 104 = .ok (.aload_n 0, 1) := by decide +kernel
theorem dX10_speak_105 : decode cX10_speak 105 = .ok (.iload_n 1, 1) := by decide +kernel
theorem dX10_speak_106 : decode cX10_speak 106 = .ok (.iload_n 2, 1) := by decide +kernel
theorem dX10_speak_107 : decode cX10_speak 107 = .ok (.iload_n 3, 1) := by decide +kernel
theorem dX10_speak_108 : decode cX10_speak 108 = .ok (.invokevirtual 253, 3) := by decide +kernel
theorem dX10_speak_111 : decode cX10_speak 111 = .ok (.iload_n 3, 1) := by decide +kernel
theorem dX10_speak_112 : decode cX10_speak 112 = .ok (.ireturn, 1) := by decide +kernel
theorem dX10_slips_0 : decode cX10_slips 0 = .ok (.iconst 0, 1) := by decide +kernel
theorem dX10_slips_1 : decode cX10_slips 1 = .ok (.istore_n 1, 1) := by decide +kernel
theorem dX10_slips_2 : decode cX10_slips 2 = .ok (.iconst 0, 1) := by decide +kernel
theorem dX10_slips_3 : decode cX10_slips 3 = .ok (.istore_n 2, 1) := by decide +kernel
theorem dX10_slips_4 : decode cX10_slips 4 = .ok (.iload_n 2, 1) := by decide +kernel
theorem dX10_slips_5 : decode cX10_slips 5 = .ok (.aload_n 0, 1) := by decide +kernel
theorem dX10_slips_6 : decode cX10_slips 6 = .ok (.getfield 98, 3) := by decide +kernel
theorem dX10_slips_9 : decode cX10_slips 9 = .ok (.if_icmp .ge 98, 3) := by decide +kernel
theorem dX10_slips_12 : decode cX10_slips 12 = .ok (.aload_n 0, 1) := by decide +kernel
theorem dX10_slips_13 : decode cX10_slips 13 = .ok (.getfield 116, 3) := by decide +kernel
theorem dX10_slips_16 : decode cX10_slips 16 = .ok (.iload_n 2, 1) := by decide +kernel
theorem dX10_slips_17 : decode cX10_slips 17 = .ok (.ishr, 1) := by decide +kernel
theorem dX10_slips_18 : decode cX10_slips 18 = .ok (.iconst 1, 1) := by decide +kernel
theorem dX10_slips_19 : decode cX10_slips 19 = .ok (.iand, 1) := by decide +kernel
theorem dX10_slips_20 : decode cX10_slips 20 = .ok (.ifCond .eq 81, 3) := by decide +kernel
theorem dX10_slips_23 : decode cX10_slips 23 = .ok (.aload_n 0, 1) := by decide +kernel
theorem dX10_slips_24 : decode cX10_slips 24 = .ok (.getfield 119, 3) := by decide +kernel
theorem dX10_slips_27 : decode cX10_slips 27 = .ok (.ifCond .eq 74, 3) := by decide +kernel
theorem dX10_slips_30 : decode cX10_slips 30 = .ok (.aload_n 0, 1) := by decide +kernel
theorem dX10_slips_31 : decode cX10_slips 31 = .ok (.sipush 1000, 3) := by decide +kernel
theorem dX10_slips_34 : decode cX10_slips 34 = .ok (.invokevirtual 257, 3) := by decide +kernel
theorem dX10_slips_37 : decode cX10_slips 37 = .ok (.aload_n 0, 1) := by decide +kernel
theorem dX10_slips_38 : decode cX10_slips 38 = .ok (.getfield 119, 3) := by decide +kernel
theorem dX10_slips_41 : decode cX10_slips 41 = .ok (.if_icmp .lt 6, 3) := by decide +kernel
theorem dX10_slips_44 : decode cX10_slips 44 = .ok (.goto 57, 3) := by decide +kernel
theorem dX10_slips_47 : decode cX10_slips 47 = .ok (.aload_n 0, 1) := by decide +kernel
theorem dX10_slips_48 : decode cX10_slips 48 = .ok (.iload_n 2, 1) := by decide +kernel
theorem dX10_slips_49 : decode cX10_slips 49 = .ok (.invokevirtual 109, 3) := by decide +kernel
theorem dX10_slips_52 : decode cX10_slips 52 = .ok (.aload_n 0, 1) := by decide +kernel
theorem dX10_slips_53 : decode cX10_slips 53 = .ok (.iconst 2, 1) := by decide +kernel
theorem dX10_slips_54 : decode cX10_slips 54 = .ok (.invokevirtual 257, 3) := by decide +kernel
theorem dX10_slips_57 : decode cX10_slips 57 = .ok (.ifCond .ne 7, 3) := by decide +kernel
theorem dX10_slips_60 : decode cX10_slips 60 = .ok (.iconst (-1), 1) := by decide +kernel
theorem dX10_slips_61 : decode cX10_slips 61 = .ok (.goto 4, 3) := by decide +kernel
theorem dX10_slips_64 : decode cX10_slips 64 = .ok (.iconst 1, 1) := by decide +kernel
theorem dX10_slips_65 : decode cX10_slips 65 = .ok (.iadd, 1) := by decide +kernel
theorem dX10_slips_66 : decode cX10_slips 66 = .ok (.istore_n 3, 1) := by decide +kernel
theorem dX10_slips_67 : decode cX10_slips 67 = .ok (.aload_n 0, 1) := by decide +kernel
theorem dX10_slips_68 : decode cX10_slips 68 = .ok (.getfield 7, 3) := by decide +kernel
theorem dX10_slips_71 : decode cX10_slips 71 = .ok (.iconst 0, 1) := by decide +kernel
theorem dX10_slips_72 : decode cX10_slips 72 = .ok (.iload_n 2, 1) := by decide +kernel
theorem dX10_slips_73 : decode cX10_slips 73 = .ok (.iadd, 1) := by decide +kernel
theorem dX10_slips_74 : decode cX10_slips 74 = .ok (.iload_n 3, 1) := by decide +kernel
theorem dX10_slips_75 : decode cX10_slips 75 = .ok (.ifCond .ge 7, 3) := by decide +kernel
theorem dX10_slips_78 : decode cX10_slips 78 = .ok (.iconst 1, 1) := by decide +kernel
theorem dX10_slips_79 : decode cX10_slips 79 = .ok (.goto 17, 3) := by decide +kernel
theorem dX10_slips_82 : decode cX10_slips 82 = .ok (.iload_n 3, 1) := by decide +kernel
theorem dX10_slips_83 : decode cX10_slips 83 = .ok (.bipush 60, 2) := by decide +kernel
theorem dX10_slips_85 : decode cX10_slips 85 = .ok (.if_icmp .le 8, 3) := by decide +kernel
theorem dX10_slips_88 : decode cX10_slips 88 = .ok (.bipush 61, 2) := by decide +kernel
theorem dX10_slips_90 : decode cX10_slips 90 = .ok (.goto 6, 3) := by decide +kernel
theorem dX10_slips_93 : decode cX10_slips 93 = .ok (.iload_n 3, 1) := by decide +kernel
theorem dX10_slips_94 : decode cX10_slips 94 = .ok (.iconst 1, 1) := by decide +kernel
theorem dX10_slips_95 : decode cX10_slips 95 = .ok (.iadd, 1) := by decide +kernel
theorem dX10_slips_96 : decode cX10_slips 96 = .ok (.iastore, 1) := by decide +kernel
theorem dX10_slips_97 : decode cX10_slips 97 = .ok (.iload_n 1, 1) := by decide +kernel
theorem dX10_slips_98 : decode cX10_slips 98 = .ok (.iconst 1, 1) := by decide +kernel
theorem dX10_slips_99 : decode cX10_slips 99 = .ok (.iadd, 1) := by decide +kernel
theorem dX10_slips_100 : decode cX10_slips 100 = .ok (.istore_n 1, 1) := by decide +kernel
theorem dX10_slips_101 : decode cX10_slips 101 = .ok (.iinc 2 1, 3) := by decide +kernel
theorem dX10_slips_104 : decode cX10_slips 104 = .ok (.goto (-100), 3) := by decide +kernel
theorem dX10_slips_107 : decode cX10_slips 107 = .ok (.aload_n 0, 1) := by decide +kernel
theorem dX10_slips_108 : decode cX10_slips 108 = .ok (.getfield 7, 3) := by decide +kernel
theorem dX10_slips_111 : decode cX10_slips 111 = .ok (.bipush 11, 2) := by decide +kernel
theorem dX10_slips_113 : decode cX10_slips 113 = .ok (.aload_n 0, 1) := by decide +kernel
theorem dX10_slips_114 : decode cX10_slips 114 = .ok (.getfield 7, 3) := by decide +kernel
theorem dX10_slips_117 : decode cX10_slips 117 = .ok (.bipush 11, 2) := by decide +kernel
theorem dX10_slips_119 : decode cX10_slips 119 = .ok (.iaload, 1) := by decide +kernel
theorem dX10_slips_120 : decode cX10_slips 120 = .ok (.iconst 1, 1) := by decide +kernel
theorem dX10_slips_121 : decode cX10_slips 121 = .ok (.iadd, 1) := by decide +kernel
theorem dX10_slips_122 : decode cX10_slips 122 = .ok (.iastore, 1) := by decide +kernel
theorem dX10_slips_123 : decode cX10_slips 123 = .ok (.iload_n 1, 1) := by decide +kernel
theorem dX10_slips_124 : decode cX10_slips 124 = .ok (.ireturn, 1) := by decide +kernel
theorem dX10_hours_0 : decode cX10_hours 0 = .ok (.aload_n 0, 1) := by decide +kernel
theorem dX10_hours_1 : decode cX10_hours 1 = .ok (.iconst 0, 1) := by decide +kernel
theorem dX10_hours_2 : decode cX10_hours 2 = .ok (.putfield 90, 3) := by decide +kernel
theorem dX10_hours_5 : decode cX10_hours 5 = .ok (.aload_n 0, 1) := by decide +kernel
theorem dX10_hours_6 : decode cX10_hours 6 = .ok (.iload_n 1, 1) := by decide +kernel
theorem dX10_hours_7 : decode cX10_hours 7 = .ok (.iconst 1, 1) := by decide +kernel
theorem dX10_hours_8 : decode cX10_hours 8 = .ok (.bipush 100, 2) := by decide +kernel
theorem dX10_hours_10 : decode cX10_hours 10 = .ok (.invokevirtual 101, 3) := by decide +kernel
theorem dX10_hours_13 : decode cX10_hours 13 = .ok (.ifCond .eq 18, 3) := by decide +kernel
theorem dX10_hours_16 : decode cX10_hours 16 = .ok (.aload_n 0, 1) := by decide +kernel
theorem dX10_hours_17 : decode cX10_hours 17 = .ok (.getfield 7, 3) := by decide +kernel
theorem dX10_hours_20 : decode cX10_hours 20 = .ok (.bipush 11, 2) := by decide +kernel
theorem dX10_hours_22 : decode cX10_hours 22 = .ok (.iaload, 1) := by decide +kernel
theorem dX10_hours_23 : decode cX10_hours 23 = .ok (.iload_n 1, 1) := by decide +kernel
theorem dX10_hours_24 : decode cX10_hours 24 = .ok (.iadd, 1) := by decide +kernel
theorem dX10_hours_25 : decode cX10_hours 25 = .ok (.sipush 9999, 3) := by decide +kernel
theorem dX10_hours_28 : decode cX10_hours 28 = .ok (.if_icmp .le 5, 3) := by decide +kernel
theorem dX10_hours_31 : decode cX10_hours 31 = .ok (.iconst (-1), 1) := by decide +kernel
theorem dX10_hours_32 : decode cX10_hours 32 = .ok (.ireturn, 1) := by decide +kernel
theorem dX10_hours_33 : decode cX10_hours 33 = .ok (.iconst 0, 1) := by decide +kernel
theorem dX10_hours_34 : decode cX10_hours 34 = .ok (.istore_n 2, 1) := by decide +kernel
theorem dX10_hours_35 : decode cX10_hours 35 = .ok (.iconst 0, 1) := by decide +kernel
theorem dX10_hours_36 : decode cX10_hours 36 = .ok (.istore_n 3, 1) := by decide +kernel
theorem dX10_hours_37 : decode cX10_hours 37 = .ok (.iload_n 3, 1) := by decide +kernel
theorem dX10_hours_38 : decode cX10_hours 38 = .ok (.iload_n 1, 1) := by decide +kernel
theorem dX10_hours_39 : decode cX10_hours 39 = .ok (.if_icmp .ge 20, 3) := by decide +kernel
theorem dX10_hours_42 : decode cX10_hours 42 = .ok (.aload_n 0, 1) := by decide +kernel
theorem dX10_hours_43 : decode cX10_hours 43 = .ok (.invokevirtual 250, 3) := by decide +kernel
theorem dX10_hours_46 : decode cX10_hours 46 = .ok (.iload_n 2, 1) := by decide +kernel
theorem dX10_hours_47 : decode cX10_hours 47 = .ok (.aload_n 0, 1) := by decide +kernel
theorem dX10_hours_48 : decode cX10_hours 48 = .ok (.invokevirtual 260, 3) := by decide +kernel
theorem dX10_hours_51 : decode cX10_hours 51 = .ok (.iadd, 1) := by decide +kernel
theorem dX10_hours_52 : decode cX10_hours 52 = .ok (.istore_n 2, 1) := by decide +kernel
theorem dX10_hours_53 : decode cX10_hours 53 = .ok (.iinc 3 1, 3) := by decide +kernel
theorem dX10_hours_56 : decode cX10_hours 56 = .ok (.goto (-19), 3) := by decide +kernel
theorem dX10_hours_59 : decode cX10_hours 59 = .ok (.iload_n 2, 1) := by decide +kernel
theorem dX10_hours_60 : decode cX10_hours 60 = .ok (.ireturn, 1) := by decide +kernel
theorem dX10_book_0 : decode cX10_book 0 = .ok (.aload_n 0, 1) := by decide +kernel
theorem dX10_book_1 : decode cX10_book 1 = .ok (.iconst 0, 1) := by decide +kernel
theorem dX10_book_2 : decode cX10_book 2 = .ok (.putfield 90, 3) := by decide +kernel
theorem dX10_book_5 : decode cX10_book 5 = .ok (.aload_n 0, 1) := by decide +kernel
theorem dX10_book_6 : decode cX10_book 6 = .ok (.iload_n 1, 1) := by decide +kernel
theorem dX10_book_7 : decode cX10_book 7 = .ok (.iconst 0, 1) := by decide +kernel
theorem dX10_book_8 : decode cX10_book 8 = .ok (.aload_n 0, 1) := by decide +kernel
theorem dX10_book_9 : decode cX10_book 9 = .ok (.getfield 7, 3) := by decide +kernel
theorem dX10_book_12 : decode cX10_book 12 = .ok (.bipush 10, 2) := by decide +kernel
theorem dX10_book_14 : decode cX10_book 14 = .ok (.iaload, 1) := by decide +kernel
theorem dX10_book_15 : decode cX10_book 15 = .ok (.iconst 1, 1) := by decide +kernel
theorem dX10_book_16 : decode cX10_book 16 = .ok (.isub, 1) := by decide +kernel
theorem dX10_book_17 : decode cX10_book 17 = .ok (.invokevirtual 101, 3) := by decide +kernel
theorem dX10_book_20 : decode cX10_book 20 = .ok (.ifCond .eq 26, 3) := by decide +kernel
theorem dX10_book_23 : decode cX10_book 23 = .ok (.aload_n 0, 1) := by decide +kernel
theorem dX10_book_24 : decode cX10_book 24 = .ok (.iload_n 2, 1) := by decide +kernel
theorem dX10_book_25 : decode cX10_book 25 = .ok (.iconst 0, 1) := by decide +kernel
theorem dX10_book_26 : decode cX10_book 26 = .ok (.iconst 4, 1) := by decide +kernel
theorem dX10_book_27 : decode cX10_book 27 = .ok (.invokevirtual 101, 3) := by decide +kernel
theorem dX10_book_30 : decode cX10_book 30 = .ok (.ifCond .eq 16, 3) := by decide +kernel
theorem dX10_book_33 : decode cX10_book 33 = .ok (.aload_n 0, 1) := by decide +kernel
theorem dX10_book_34 : decode cX10_book 34 = .ok (.getfield 19, 3) := by decide +kernel
theorem dX10_book_37 : decode cX10_book 37 = .ok (.iconst 5, 1) := by decide +kernel
theorem dX10_book_38 : decode cX10_book 38 = .ok (.iload_n 1, 1) := by decide +kernel
theorem dX10_book_39 : decode cX10_book 39 = .ok (.imul, 1) := by decide +kernel
theorem dX10_book_40 : decode cX10_book 40 = .ok (.iload_n 2, 1) := by decide +kernel
theorem dX10_book_41 : decode cX10_book 41 = .ok (.iadd, 1) := by decide +kernel
theorem dX10_book_42 : decode cX10_book 42 = .ok (.iaload, 1) := by decide +kernel
theorem dX10_book_43 : decode cX10_book 43 = .ok (.goto 4, 3) := by decide +kernel
theorem dX10_book_46 : decode cX10_book 46 = .ok (.iconst (-1), 1) := by decide +kernel
theorem dX10_book_47 : decode cX10_book 47 = .ok (.ireturn, 1) := by decide +kernel
theorem dX10_isTune_0 : decode cX10_isTune 0 = .ok (.iload_n 1, 1) := by decide +kernel
theorem dX10_isTune_1 : decode cX10_isTune 1 = .ok (.ifCond .lt 12, 3) := by decide +kernel
theorem dX10_isTune_4 : decode cX10_isTune 4 = .ok (.iload_n 1, 1) := by decide +kernel
theorem dX10_isTune_5 : decode cX10_isTune 5 = .ok (.iconst 4, 1) := by decide +kernel
theorem dX10_isTune_6 : decode cX10_isTune 6 = .ok (.if_icmp .ge 7, 3) := by decide +kernel
theorem dX10_isTune_9 : decode cX10_isTune 9 = .ok (.iconst 1, 1) := by decide +kernel
theorem dX10_isTune_10 : decode cX10_isTune 10 = .ok (.goto 4, 3) := by decide +kernel
theorem dX10_isTune_13 : decode cX10_isTune 13 = .ok (.iconst 0, 1) := by decide +kernel
theorem dX10_isTune_14 : decode cX10_isTune 14 = .ok (.ireturn, 1) := by decide +kernel
theorem dX10_tune_0 : decode cX10_tune 0 = .ok (.aload_n 0, 1) := by decide +kernel
theorem dX10_tune_1 : decode cX10_tune 1 = .ok (.iconst 0, 1) := by decide +kernel
theorem dX10_tune_2 : decode cX10_tune 2 = .ok (.putfield 90, 3) := by decide +kernel
theorem dX10_tune_5 : decode cX10_tune 5 = .ok (.aload_n 0, 1) := by decide +kernel
theorem dX10_tune_6 : decode cX10_tune 6 = .ok (.iload_n 1, 1) := by decide +kernel
theorem dX10_tune_7 : decode cX10_tune 7 = .ok (.invokevirtual 263, 3) := by decide +kernel
theorem dX10_tune_10 : decode cX10_tune 10 = .ok (.ifCond .eq 14, 3) := by decide +kernel
theorem dX10_tune_13 : decode cX10_tune 13 = .ok (.aload_n 0, 1) := by decide +kernel
theorem dX10_tune_14 : decode cX10_tune 14 = .ok (.iload_n 2, 1) := by decide +kernel
theorem dX10_tune_15 : decode cX10_tune 15 = .ok (.iconst (-1), 1) := by decide +kernel
theorem dX10_tune_16 : decode cX10_tune 16 = .ok (.bipush 60, 2) := by decide +kernel
theorem dX10_tune_18 : decode cX10_tune 18 = .ok (.invokevirtual 101, 3) := by decide +kernel
theorem dX10_tune_21 : decode cX10_tune 21 = .ok (.ifCond .ne 5, 3) := by decide +kernel
theorem dX10_tune_24 : decode cX10_tune 24 = .ok (.iconst (-1), 1) := by decide +kernel
theorem dX10_tune_25 : decode cX10_tune 25 = .ok (.ireturn, 1) := by decide +kernel
theorem dX10_tune_26 : decode cX10_tune 26 = .ok (.iload_n 2, 1) := by decide +kernel
theorem dX10_tune_27 : decode cX10_tune 27 = .ok (.iconst (-1), 1) := by decide +kernel
theorem dX10_tune_28 : decode cX10_tune 28 = .ok (.if_icmp .ne 12, 3) := by decide +kernel
theorem dX10_tune_31 : decode cX10_tune 31 = .ok (.aload_n 0, 1) := by decide +kernel
theorem dX10_tune_32 : decode cX10_tune 32 = .ok (.getfield 60, 3) := by decide +kernel
theorem dX10_tune_35 : decode cX10_tune 35 = .ok (.iload_n 1, 1) := by decide +kernel
theorem dX10_tune_36 : decode cX10_tune 36 = .ok (.iconst 0, 1) := by decide +kernel
theorem dX10_tune_37 : decode cX10_tune 37 = .ok (.iastore, 1) := by decide +kernel
theorem dX10_tune_38 : decode cX10_tune 38 = .ok (.iconst 0, 1) := by decide +kernel
theorem dX10_tune_39 : decode cX10_tune 39 = .ok (.ireturn, 1) := by decide +kernel
theorem dX10_tune_40 : decode cX10_tune 40 = .ok (.aload_n 0, 1) := by decide +kernel
theorem dX10_tune_41 : decode cX10_tune 41 = .ok (.getfield 60, 3) := by decide +kernel
theorem dX10_tune_44 : decode cX10_tune 44 = .ok (.iload_n 1, 1) := by decide +kernel
theorem dX10_tune_45 : decode cX10_tune 45 = .ok (.iaload, 1) := by decide +kernel
theorem dX10_tune_46 : decode cX10_tune 46 = .ok (.bipush 12, 2) := by decide +kernel
theorem dX10_tune_48 : decode cX10_tune 48 = .ok (.if_icmp .ne 5, 3) := by decide +kernel
theorem dX10_tune_51 : decode cX10_tune 51 = .ok (.iconst (-1), 1) := by decide +kernel
theorem dX10_tune_52 : decode cX10_tune 52 = .ok (.ireturn, 1) := by decide +kernel
theorem dX10_tune_53 : decode cX10_tune 53 = .ok (.aload_n 0, 1) := by decide +kernel
theorem dX10_tune_54 : decode cX10_tune 54 = .ok (.getfield 63, 3) := by decide +kernel
theorem dX10_tune_57 : decode cX10_tune 57 = .ok (.bipush 12, 2) := by decide +kernel
theorem dX10_tune_59 : decode cX10_tune 59 = .ok (.iload_n 1, 1) := by decide +kernel
theorem dX10_tune_60 : decode cX10_tune 60 = .ok (.imul, 1) := by decide +kernel
theorem dX10_tune_61 : decode cX10_tune 61 = .ok (.aload_n 0, 1) := by decide +kernel
theorem dX10_tune_62 : decode cX10_tune 62 = .ok (.getfield 60, 3) := by decide +kernel
theorem dX10_tune_65 : decode cX10_tune 65 = .ok (.iload_n 1, 1) := by decide +kernel
theorem dX10_tune_66 : decode cX10_tune 66 = .ok (.iaload, 1) := by decide +kernel
theorem dX10_tune_67 : decode cX10_tune 67 = .ok (.iadd, 1) := by decide +kernel
theorem dX10_tune_68 : decode cX10_tune 68 = .ok (.iload_n 2, 1) := by decide +kernel
theorem dX10_tune_69 : decode cX10_tune 69 = .ok (.iastore, 1) := by decide +kernel
theorem dX10_tune_70 : decode cX10_tune 70 = .ok (.aload_n 0, 1) := by decide +kernel
theorem dX10_tune_71 : decode cX10_tune 71 = .ok (.getfield 60, 3) := by decide +kernel
theorem dX10_tune_74 : decode cX10_tune 74 = .ok (.iload_n 1, 1) := by decide +kernel
theorem dX10_tune_75 : decode cX10_tune 75 = .ok (.aload_n 0, 1) := by decide +kernel
theorem dX10_tune_76 : decode cX10_tune 76 = .ok (.getfield 60, 3) := by decide +kernel
theorem dX10_tune_79 : decode cX10_tune 79 = .ok (.iload_n 1, 1) := by decide +kernel
theorem dX10_tune_80 : decode cX10_tune 80 = .ok (.iaload, 1) := by decide +kernel
theorem dX10_tune_81 : decode cX10_tune 81 = .ok (.iconst 1, 1) := by decide +kernel
theorem dX10_tune_82 : decode cX10_tune 82 = .ok (.iadd, 1) := by decide +kernel
theorem dX10_tune_83 : decode cX10_tune 83 = .ok (.iastore, 1) := by decide +kernel
theorem dX10_tune_84 : decode cX10_tune 84 = .ok (.aload_n 0, 1) := by decide +kernel
theorem dX10_tune_85 : decode cX10_tune 85 = .ok (.getfield 60, 3) := by decide +kernel
theorem dX10_tune_88 : decode cX10_tune 88 = .ok (.iload_n 1, 1) := by decide +kernel
theorem dX10_tune_89 : decode cX10_tune 89 = .ok (.iaload, 1) := by decide +kernel
theorem dX10_tune_90 : decode cX10_tune 90 = .ok (.ireturn, 1) := by decide +kernel
theorem dX10_hasSteps_0 : decode cX10_hasSteps 0 = .ok (.iconst 1, 1) := by decide +kernel
theorem dX10_hasSteps_1 : decode cX10_hasSteps 1 = .ok (.istore 4, 2) := by decide +kernel
theorem dX10_hasSteps_3 : decode cX10_hasSteps 3 = .ok (.iload 4, 2) := by decide +kernel
theorem dX10_hasSteps_5 : decode cX10_hasSteps 5 = .ok (.aload_n 0, 1) := by decide +kernel
theorem dX10_hasSteps_6 : decode cX10_hasSteps 6 = .ok (.getfield 60, 3) := by decide +kernel
theorem dX10_hasSteps_9 : decode cX10_hasSteps 9 = .ok (.iload_n 1, 1) := by decide +kernel
theorem dX10_hasSteps_10 : decode cX10_hasSteps 10 = .ok (.iaload, 1) := by decide +kernel
theorem dX10_hasSteps_11 : decode cX10_hasSteps 11 = .ok (.if_icmp .ge 70, 3) := by decide +kernel
theorem dX10_hasSteps_14 : decode cX10_hasSteps 14 = .ok (.aload_n 0, 1) := by decide +kernel
theorem dX10_hasSteps_15 : decode cX10_hasSteps 15 = .ok (.getfield 63, 3) := by decide +kernel
theorem dX10_hasSteps_18 : decode cX10_hasSteps 18 = .ok (.bipush 12, 2) := by decide +kernel
theorem dX10_hasSteps_20 : decode cX10_hasSteps 20 = .ok (.iload_n 1, 1) := by decide +kernel
theorem dX10_hasSteps_21 : decode cX10_hasSteps 21 = .ok (.imul, 1) := by decide +kernel
theorem dX10_hasSteps_22 : decode cX10_hasSteps 22 = .ok (.iload 4, 2) := by decide +kernel
theorem dX10_hasSteps_24 : decode cX10_hasSteps 24 = .ok (.iadd, 1) := by decide +kernel
theorem dX10_hasSteps_25 : decode cX10_hasSteps 25 = .ok (.iaload, 1) := by decide +kernel
theorem dX10_hasSteps_26 : decode cX10_hasSteps 26 = .ok (.aload_n 0, 1) := by decide +kernel
theorem dX10_hasSteps_27 : decode cX10_hasSteps 27 = .ok (.getfield 63, 3) := by decide +kernel
theorem dX10_hasSteps_30 : decode cX10_hasSteps 30 = .ok (.bipush 12, 2) := by decide +kernel
theorem dX10_hasSteps_32 : decode cX10_hasSteps 32 = .ok (.iload_n 1, 1) := by decide +kernel
theorem dX10_hasSteps_33 : decode cX10_hasSteps 33 = .ok (.imul, 1) := by decide +kernel
theorem dX10_hasSteps_34 : decode cX10_hasSteps 34 = .ok (.iload 4, 2) := by decide +kernel
theorem dX10_hasSteps_36 : decode cX10_hasSteps 36 = .ok (.iadd, 1) := by decide +kernel
theorem dX10_hasSteps_37 : decode cX10_hasSteps 37 = .ok (.iconst 1, 1) := by decide +kernel
theorem dX10_hasSteps_38 : decode cX10_hasSteps 38 = .ok (.isub, 1) := by decide +kernel
theorem dX10_hasSteps_39 : decode cX10_hasSteps 39 = .ok (.iaload, 1) := by decide +kernel
theorem dX10_hasSteps_40 : decode cX10_hasSteps 40 = .ok (.isub, 1) := by decide +kernel
theorem dX10_hasSteps_41 : decode cX10_hasSteps 41 = .ok (.iload_n 3, 1) := by decide +kernel
theorem dX10_hasSteps_42 : decode cX10_hasSteps 42 = .ok (.aload_n 0, 1) := by decide +kernel
theorem dX10_hasSteps_43 : decode cX10_hasSteps 43 = .ok (.getfield 63, 3) := by decide +kernel
theorem dX10_hasSteps_46 : decode cX10_hasSteps 46 = .ok (.bipush 12, 2) := by decide +kernel
theorem dX10_hasSteps_48 : decode cX10_hasSteps 48 = .ok (.iload_n 2, 1) := by decide +kernel
theorem dX10_hasSteps_49 : decode cX10_hasSteps 49 = .ok (.imul, 1) := by decide +kernel
theorem dX10_hasSteps_50 : decode cX10_hasSteps 50 = .ok (.iload 4, 2) := by decide +kernel
theorem dX10_hasSteps_52 : decode cX10_hasSteps 52 = .ok (.iadd, 1) := by decide +kernel
theorem dX10_hasSteps_53 : decode cX10_hasSteps 53 = .ok (.iaload, 1) := by decide +kernel
theorem dX10_hasSteps_54 : decode cX10_hasSteps 54 = .ok (.aload_n 0, 1) := by decide +kernel
theorem dX10_hasSteps_55 : decode cX10_hasSteps 55 = .ok (.getfield 63, 3) := by decide +kernel
theorem dX10_hasSteps_58 : decode cX10_hasSteps 58 = .ok (.bipush 12, 2) := by decide +kernel
theorem dX10_hasSteps_60 : decode cX10_hasSteps 60 = .ok (.iload_n 2, 1) := by decide +kernel
theorem dX10_hasSteps_61 : decode cX10_hasSteps 61 = .ok (.imul, 1) := by decide +kernel
theorem dX10_hasSteps_62 : decode cX10_hasSteps 62 = .ok (.iload 4, 2) := by decide +kernel
theorem dX10_hasSteps_64 : decode cX10_hasSteps 64 = .ok (.iadd, 1) := by decide +kernel
theorem dX10_hasSteps_65 : decode cX10_hasSteps 65 = .ok (.iconst 1, 1) := by decide +kernel
theorem dX10_hasSteps_66 : decode cX10_hasSteps 66 = .ok (.isub, 1) := by decide +kernel
theorem dX10_hasSteps_67 : decode cX10_hasSteps 67 = .ok (.iaload, 1) := by decide +kernel
theorem dX10_hasSteps_68 : decode cX10_hasSteps 68 = .ok (.isub, 1) := by decide +kernel
theorem dX10_hasSteps_69 : decode cX10_hasSteps 69 = .ok (.imul, 1) := by decide +kernel
theorem dX10_hasSteps_70 : decode cX10_hasSteps 70 = .ok (.if_icmp .eq 5, 3) := by decide +kernel
theorem dX10_hasSteps_73 : decode cX10_hasSteps 73 = .ok (.iconst 0, 1) := by decide +kernel
theorem dX10_hasSteps_74 : decode cX10_hasSteps 74 = .ok (.ireturn, 1) := by decide +kernel
theorem dX10_hasSteps_75 : decode cX10_hasSteps 75 = .ok (.iinc 4 1, 3) := by decide +kernel
theorem dX10_hasSteps_78 : decode cX10_hasSteps 78 = .ok (.goto (-75), 3) := by decide +kernel
theorem dX10_hasSteps_81 : decode cX10_hasSteps 81 = .ok (.iconst 1, 1) := by decide +kernel
theorem dX10_hasSteps_82 : decode cX10_hasSteps 82 = .ok (.ireturn, 1) := by decide +kernel
theorem dX10_same_0 : decode cX10_same 0 = .ok (.aload_n 0, 1) := by decide +kernel
theorem dX10_same_1 : decode cX10_same 1 = .ok (.iconst 0, 1) := by decide +kernel
theorem dX10_same_2 : decode cX10_same 2 = .ok (.putfield 90, 3) := by decide +kernel
theorem dX10_same_5 : decode cX10_same 5 = .ok (.aload_n 0, 1) := by decide +kernel
theorem dX10_same_6 : decode cX10_same 6 = .ok (.iload_n 1, 1) := by decide +kernel
theorem dX10_same_7 : decode cX10_same 7 = .ok (.invokevirtual 263, 3) := by decide +kernel
theorem dX10_same_10 : decode cX10_same 10 = .ok (.ifCond .eq 11, 3) := by decide +kernel
theorem dX10_same_13 : decode cX10_same 13 = .ok (.aload_n 0, 1) := by decide +kernel
theorem dX10_same_14 : decode cX10_same 14 = .ok (.iload_n 2, 1) := by decide +kernel
theorem dX10_same_15 : decode cX10_same 15 = .ok (.invokevirtual 263, 3) := by decide +kernel
theorem dX10_same_18 : decode cX10_same 18 = .ok (.ifCond .ne 5, 3) := by decide +kernel
theorem dX10_same_21 : decode cX10_same 21 = .ok (.iconst (-1), 1) := by decide +kernel
theorem dX10_same_22 : decode cX10_same 22 = .ok (.ireturn, 1) := by decide +kernel
theorem dX10_same_23 : decode cX10_same 23 = .ok (.aload_n 0, 1) := by decide +kernel
theorem dX10_same_24 : decode cX10_same 24 = .ok (.getfield 60, 3) := by decide +kernel
theorem dX10_same_27 : decode cX10_same 27 = .ok (.iload_n 1, 1) := by decide +kernel
theorem dX10_same_28 : decode cX10_same 28 = .ok (.iaload, 1) := by decide +kernel
theorem dX10_same_29 : decode cX10_same 29 = .ok (.ifCond .eq 18, 3) := by decide +kernel
theorem dX10_same_32 : decode cX10_same 32 = .ok (.aload_n 0, 1) := by decide +kernel
theorem dX10_same_33 : decode cX10_same 33 = .ok (.getfield 60, 3) := by decide +kernel
theorem dX10_same_36 : decode cX10_same 36 = .ok (.iload_n 1, 1) := by decide +kernel
theorem dX10_same_37 : decode cX10_same 37 = .ok (.iaload, 1) := by decide +kernel
theorem dX10_same_38 : decode cX10_same 38 = .ok (.aload_n 0, 1) := by decide +kernel
theorem dX10_same_39 : decode cX10_same 39 = .ok (.getfield 60, 3) := by decide +kernel
theorem dX10_same_42 : decode cX10_same 42 = .ok (.iload_n 2, 1) := by decide +kernel
theorem dX10_same_43 : decode cX10_same 43 = .ok (.iaload, 1) := by decide +kernel
theorem dX10_same_44 : decode cX10_same 44 = .ok (.if_icmp .eq 5, 3) := by decide +kernel
theorem dX10_same_47 : decode cX10_same 47 = .ok (.iconst 0, 1) := by decide +kernel
theorem dX10_same_48 : decode cX10_same 48 = .ok (.ireturn, 1) := by decide +kernel
theorem dX10_same_49 : decode cX10_same 49 = .ok (.aload_n 0, 1) := by decide +kernel
theorem dX10_same_50 : decode cX10_same 50 = .ok (.iload_n 1, 1) := by decide +kernel
theorem dX10_same_51 : decode cX10_same 51 = .ok (.iload_n 2, 1) := by decide +kernel
theorem dX10_same_52 : decode cX10_same 52 = .ok (.iconst 1, 1) := by decide +kernel
theorem dX10_same_53 : decode cX10_same 53 = .ok (.invokevirtual 266, 3) := by decide +kernel
theorem dX10_same_56 : decode cX10_same 56 = .ok (.ifCond .eq 30, 3) := by decide +kernel
theorem dX10_same_59 : decode cX10_same 59 = .ok (.aload_n 0, 1) := by decide +kernel
theorem dX10_same_60 : decode cX10_same 60 = .ok (.getfield 63, 3) := by decide +kernel
theorem dX10_same_63 : decode cX10_same 63 = .ok (.bipush 12, 2) := by decide +kernel
theorem dX10_same_65 : decode cX10_same 65 = .ok (.iload_n 1, 1) := by decide +kernel
theorem dX10_same_66 : decode cX10_same 66 = .ok (.imul, 1) := by decide +kernel
theorem dX10_same_67 : decode cX10_same 67 = .ok (.iaload, 1) := by decide +kernel
theorem dX10_same_68 : decode cX10_same 68 = .ok (.aload_n 0, 1) := by decide +kernel
theorem dX10_same_69 : decode cX10_same 69 = .ok (.getfield 63, 3) := by decide +kernel
theorem dX10_same_72 : decode cX10_same 72 = .ok (.bipush 12, 2) := by decide +kernel
theorem dX10_same_74 : decode cX10_same 74 = .ok (.iload_n 2, 1) := by decide +kernel
theorem dX10_same_75 : decode cX10_same 75 = .ok (.imul, 1) := by decide +kernel
theorem dX10_same_76 : decode cX10_same 76 = .ok (.iaload, 1) := by decide +kernel
theorem dX10_same_77 : decode cX10_same 77 = .ok (.if_icmp .ne 7, 3) := by decide +kernel
theorem dX10_same_80 : decode cX10_same 80 = .ok (.iconst 3, 1) := by decide +kernel
theorem dX10_same_81 : decode cX10_same 81 = .ok (.goto 4, 3) := by decide +kernel
theorem dX10_same_84 : decode cX10_same 84 = .ok (.iconst 2, 1) := by decide +kernel
theorem dX10_same_85 : decode cX10_same 85 = .ok (.ireturn, 1) := by decide +kernel
theorem dX10_same_86 : decode cX10_same 86 = .ok (.aload_n 0, 1) := by decide +kernel
theorem dX10_same_87 : decode cX10_same 87 = .ok (.iload_n 1, 1) := by decide +kernel
theorem dX10_same_88 : decode cX10_same 88 = .ok (.iload_n 2, 1) := by decide +kernel
theorem dX10_same_89 : decode cX10_same 89 = .ok (.iconst (-1), 1) := by decide +kernel
theorem dX10_same_90 : decode cX10_same 90 = .ok (.invokevirtual 266, 3) := by decide +kernel
theorem dX10_same_93 : decode cX10_same 93 = .ok (.ifCond .eq 7, 3) := by decide +kernel
theorem dX10_same_96 : decode cX10_same 96 = .ok (.iconst 1, 1) := by decide +kernel
theorem dX10_same_97 : decode cX10_same 97 = .ok (.goto 4, 3) := by decide +kernel
theorem dX10_same_100 : decode cX10_same 100 = .ok (.iconst 0, 1) := by decide +kernel
theorem dX10_same_101 : decode cX10_same 101 = .ok (.ireturn, 1) := by decide +kernel
theorem dX10_pair_0 : decode cX10_pair 0 = .ok (.aload_n 0, 1) := by decide +kernel
theorem dX10_pair_1 : decode cX10_pair 1 = .ok (.iconst 0, 1) := by decide +kernel
theorem dX10_pair_2 : decode cX10_pair 2 = .ok (.putfield 90, 3) := by decide +kernel
theorem dX10_pair_5 : decode cX10_pair 5 = .ok (.iload_n 1, 1) := by decide +kernel
theorem dX10_pair_6 : decode cX10_pair 6 = .ok (.iconst (-1), 1) := by decide +kernel
theorem dX10_pair_7 : decode cX10_pair 7 = .ok (.if_icmp .ne 10, 3) := by decide +kernel
theorem dX10_pair_10 : decode cX10_pair 10 = .ok (.aload_n 0, 1) := by decide +kernel
theorem dX10_pair_11 : decode cX10_pair 11 = .ok (.iconst 0, 1) := by decide +kernel
theorem dX10_pair_12 : decode cX10_pair 12 = .ok (.putfield 269, 3) := by decide +kernel
theorem dX10_pair_15 : decode cX10_pair 15 = .ok (.iconst 0, 1) := by decide +kernel
theorem dX10_pair_16 : decode cX10_pair 16 = .ok (.ireturn, 1) := by decide +kernel
theorem dX10_pair_17 : decode cX10_pair 17 = .ok (.aload_n 0, 1) := by decide +kernel
theorem dX10_pair_18 : decode cX10_pair 18 = .ok (.iload_n 1, 1) := by decide +kernel
theorem dX10_pair_19 : decode cX10_pair 19 = .ok (.invokevirtual 105, 3) := by decide +kernel
theorem dX10_pair_22 : decode cX10_pair 22 = .ok (.ifCond .eq 25, 3) := by decide +kernel
theorem dX10_pair_25 : decode cX10_pair 25 = .ok (.aload_n 0, 1) := by decide +kernel
theorem dX10_pair_26 : decode cX10_pair 26 = .ok (.iload_n 2, 1) := by decide +kernel
theorem dX10_pair_27 : decode cX10_pair 27 = .ok (.invokevirtual 105, 3) := by decide +kernel
theorem dX10_pair_30 : decode cX10_pair 30 = .ok (.ifCond .eq 17, 3) := by decide +kernel
theorem dX10_pair_33 : decode cX10_pair 33 = .ok (.iload_n 1, 1) := by decide +kernel
theorem dX10_pair_34 : decode cX10_pair 34 = .ok (.iload_n 2, 1) := by decide +kernel
theorem dX10_pair_35 : decode cX10_pair 35 = .ok (.if_icmp .eq 12, 3) := by decide +kernel
theorem dX10_pair_38 : decode cX10_pair 38 = .ok (.aload_n 0, 1) := by decide +kernel
theorem dX10_pair_39 : decode cX10_pair 39 = .ok (.getfield 269, 3) := by decide +kernel
theorem dX10_pair_42 : decode cX10_pair 42 = .ok (.bipush 8, 2) := by decide +kernel
theorem dX10_pair_44 : decode cX10_pair 44 = .ok (.if_icmp .ne 5, 3) := by decide +kernel
theorem dX10_pair_47 : decode cX10_pair 47 = .ok (.iconst (-1), 1) := by decide +kernel
theorem dX10_pair_48 : decode cX10_pair 48 = .ok (.ireturn, 1) := by decide +kernel
theorem dX10_pair_49 : decode cX10_pair 49 = .ok (.aload_n 0, 1) := by decide +kernel
theorem dX10_pair_50 : decode cX10_pair 50 = .ok (.getfield 66, 3) := by decide +kernel
theorem dX10_pair_53 : decode cX10_pair 53 = .ok (.aload_n 0, 1) := by decide +kernel
theorem dX10_pair_54 : decode cX10_pair 54 = .ok (.getfield 269, 3) := by decide +kernel
theorem dX10_pair_57 : decode cX10_pair 57 = .ok (.iload_n 1, 1) := by decide +kernel
theorem dX10_pair_58 : decode cX10_pair 58 = .ok (.iastore, 1) := by decide +kernel
theorem dX10_pair_59 : decode cX10_pair 59 = .ok (.aload_n 0, 1) := by decide +kernel
theorem dX10_pair_60 : decode cX10_pair 60 = .ok (.getfield 69, 3) := by decide +kernel
theorem dX10_pair_63 : decode cX10_pair 63 = .ok (.aload_n 0, 1) := by decide +kernel
theorem dX10_pair_64 : decode cX10_pair 64 = .ok (.getfield 269, 3) := by decide +kernel
theorem dX10_pair_67 : decode cX10_pair 67 = .ok (.iload_n 2, 1) := by decide +kernel
theorem dX10_pair_68 : decode cX10_pair 68 = .ok (.iastore, 1) := by decide +kernel
theorem dX10_pair_69 : decode cX10_pair 69 = .ok (.aload_n 0, 1) := by decide +kernel
theorem dX10_pair_70 : decode cX10_pair 70 = .ok (.aload_n 0, 1) := by decide +kernel
theorem dX10_pair_71 : decode cX10_pair 71 = .ok (.getfield 269, 3) := by decide +kernel
theorem dX10_pair_74 : decode cX10_pair 74 = .ok (.iconst 1, 1) := by decide +kernel
theorem dX10_pair_75 : decode cX10_pair 75 = .ok (.iadd, 1) := by decide +kernel
theorem dX10_pair_76 : decode cX10_pair 76 = .ok (.putfield 269, 3) := by decide +kernel
theorem dX10_pair_79 : decode cX10_pair 79 = .ok (.aload_n 0, 1) := by decide +kernel
theorem dX10_pair_80 : decode cX10_pair 80 = .ok (.getfield 269, 3) := by decide +kernel
theorem dX10_pair_83 : decode cX10_pair 83 = .ok (.ireturn, 1) := by decide +kernel
theorem dX10_areWithHums_0 : decode cX10_areWithHums 0 = .ok (.aload_n 0, 1) := by decide +kernel
theorem dX10_areWithHums_1 : decode cX10_areWithHums 1 = .ok (.aload_n 0, 1) := by decide +kernel
theorem dX10_areWithHums_2 : decode cX10_areWithHums 2 = .ok (.getfield 66, 3) := by decide +kernel
theorem dX10_areWithHums_5 : decode cX10_areWithHums 5 = .ok (.iload_n 1, 1) := by decide +kernel
theorem dX10_areWithHums_6 : decode cX10_areWithHums 6 = .ok (.iaload, 1) := by decide +kernel
theorem dX10_areWithHums_7 : decode cX10_areWithHums 7 = .ok (.invokevirtual 109, 3) := by decide +kernel
theorem dX10_areWithHums_10 : decode cX10_areWithHums 10 = .ok (.iconst (-1), 1) := by decide +kernel
theorem dX10_areWithHums_11 : decode cX10_areWithHums 11 = .ok (.if_icmp .eq 21, 3) := by decide +kernel
theorem dX10_areWithHums_14 : decode cX10_areWithHums 14 = .ok (.aload_n 0, 1) := by decide +kernel
theorem dX10_areWithHums_15 : decode cX10_areWithHums 15 = .ok (.aload_n 0, 1) := by decide +kernel
theorem dX10_areWithHums_16 : decode cX10_areWithHums 16 = .ok (.getfield 69, 3) := by decide +kernel
theorem dX10_areWithHums_19 : decode cX10_areWithHums 19 = .ok (.iload_n 1, 1) := by decide +kernel
theorem dX10_areWithHums_20 : decode cX10_areWithHums 20 = .ok (.iaload, 1) := by decide +kernel
theorem dX10_areWithHums_21 : decode cX10_areWithHums 21 = .ok (.invokevirtual 109, 3) := by decide +kernel
theorem dX10_areWithHums_24 : decode cX10_areWithHums 24 = .ok (.iconst (-1), 1) := by decide +kernel
theorem dX10_areWithHums_25 : decode cX10_areWithHums 25 = .ok (.if_icmp .eq 7, 3) := by decide +kernel
theorem dX10_areWithHums_28 : decode cX10_areWithHums 28 = .ok (.iconst 1, 1) := by decide +kernel
theorem dX10_areWithHums_29 : decode cX10_areWithHums 29 = .ok (.goto 4, 3) := by decide +kernel
theorem dX10_areWithHums_32 : decode cX10_areWithHums 32 = .ok (.iconst 0, 1) := by decide +kernel
theorem dX10_areWithHums_33 : decode cX10_areWithHums 33 = .ok (.ireturn, 1) := by decide +kernel
theorem dX10_cannotBoth_0 : decode cX10_cannotBoth 0 = .ok (.aload_n 0, 1) := by decide +kernel
theorem dX10_cannotBoth_1 : decode cX10_cannotBoth 1 = .ok (.getfield 66, 3) := by decide +kernel
theorem dX10_cannotBoth_4 : decode cX10_cannotBoth 4 = .ok (.iload_n 1, 1) := by decide +kernel
theorem dX10_cannotBoth_5 : decode cX10_cannotBoth 5 = .ok (.iaload, 1) := by decide +kernel
theorem dX10_cannotBoth_6 : decode cX10_cannotBoth 6 = .ok (.aload_n 0, 1) := by decide +kernel
theorem dX10_cannotBoth_7 : decode cX10_cannotBoth 7 = .ok (.getfield 66, 3) := by decide +kernel
theorem dX10_cannotBoth_10 : decode cX10_cannotBoth 10 = .ok (.iload_n 2, 1) := by decide +kernel
theorem dX10_cannotBoth_11 : decode cX10_cannotBoth 11 = .ok (.iaload, 1) := by decide +kernel
theorem dX10_cannotBoth_12 : decode cX10_cannotBoth 12 = .ok (.if_icmp .eq 48, 3) := by decide +kernel
theorem dX10_cannotBoth_15 : decode cX10_cannotBoth 15 = .ok (.aload_n 0, 1) := by decide +kernel
theorem dX10_cannotBoth_16 : decode cX10_cannotBoth 16 = .ok (.getfield 66, 3) := by decide +kernel
theorem dX10_cannotBoth_19 : decode cX10_cannotBoth 19 = .ok (.iload_n 1, 1) := by decide +kernel
theorem dX10_cannotBoth_20 : decode cX10_cannotBoth 20 = .ok (.iaload, 1) := by decide +kernel
theorem dX10_cannotBoth_21 : decode cX10_cannotBoth 21 = .ok (.aload_n 0, 1) := by decide +kernel
theorem dX10_cannotBoth_22 : decode cX10_cannotBoth 22 = .ok (.getfield 69, 3) := by decide +kernel
theorem dX10_cannotBoth_25 : decode cX10_cannotBoth 25 = .ok (.iload_n 2, 1) := by decide +kernel
theorem dX10_cannotBoth_26 : decode cX10_cannotBoth 26 = .ok (.iaload, 1) := by decide +kernel
theorem dX10_cannotBoth_27 : decode cX10_cannotBoth 27 = .ok (.if_icmp .eq 33, 3) := by decide +kernel
theorem dX10_cannotBoth_30 : decode cX10_cannotBoth 30 = .ok (.aload_n 0, 1) := by decide +kernel
theorem dX10_cannotBoth_31 : decode cX10_cannotBoth 31 = .ok (.getfield 69, 3) := by decide +kernel
theorem dX10_cannotBoth_34 : decode cX10_cannotBoth 34 = .ok (.iload_n 1, 1) := by decide +kernel
theorem dX10_cannotBoth_35 : decode cX10_cannotBoth 35 = .ok (.iaload, 1) := by decide +kernel
theorem dX10_cannotBoth_36 : decode cX10_cannotBoth 36 = .ok (.aload_n 0, 1) := by decide +kernel
theorem dX10_cannotBoth_37 : decode cX10_cannotBoth 37 = .ok (.getfield 66, 3) := by decide +kernel
theorem dX10_cannotBoth_40 : decode cX10_cannotBoth 40 = .ok (.iload_n 2, 1) := by decide +kernel
theorem dX10_cannotBoth_41 : decode cX10_cannotBoth 41 = .ok (.iaload, 1) := by decide +kernel
theorem dX10_cannotBoth_42 : decode cX10_cannotBoth 42 = .ok (.if_icmp .eq 18, 3) := by decide +kernel
theorem dX10_cannotBoth_45 : decode cX10_cannotBoth 45 = .ok (.aload_n 0, 1) := by decide +kernel
theorem dX10_cannotBoth_46 : decode cX10_cannotBoth 46 = .ok (.getfield 69, 3) := by decide +kernel
theorem dX10_cannotBoth_49 : decode cX10_cannotBoth 49 = .ok (.iload_n 1, 1) := by decide +kernel
theorem dX10_cannotBoth_50 : decode cX10_cannotBoth 50 = .ok (.iaload, 1) := by decide +kernel
theorem dX10_cannotBoth_51 : decode cX10_cannotBoth 51 = .ok (.aload_n 0, 1) := by decide +kernel
theorem dX10_cannotBoth_52 : decode cX10_cannotBoth 52 = .ok (.getfield 69, 3) := by decide +kernel
theorem dX10_cannotBoth_55 : decode cX10_cannotBoth 55 = .ok (.iload_n 2, 1) := by decide +kernel
theorem dX10_cannotBoth_56 : decode cX10_cannotBoth 56 = .ok (.iaload, 1) := by decide +kernel
theorem dX10_cannotBoth_57 : decode cX10_cannotBoth 57 = .ok (.if_icmp .ne 5, 3) := by decide +kernel
theorem dX10_cannotBoth_60 : decode cX10_cannotBoth 60 = .ok (.iconst 1, 1) := by decide +kernel
theorem dX10_cannotBoth_61 : decode cX10_cannotBoth 61 = .ok (.ireturn, 1) := by decide +kernel
theorem dX10_cannotBoth_62 : decode cX10_cannotBoth 62 = .ok (.aload_n 0, 1) := by decide +kernel
theorem dX10_cannotBoth_63 : decode cX10_cannotBoth 63 = .ok (.iload_n 1, 1) := by decide +kernel
theorem dX10_cannotBoth_64 : decode cX10_cannotBoth 64 = .ok (.invokevirtual 272, 3) := by decide +kernel
theorem dX10_cannotBoth_67 : decode cX10_cannotBoth 67 = .ok (.ifCond .eq 68, 3) := by decide +kernel
theorem dX10_cannotBoth_70 : decode cX10_cannotBoth 70 = .ok (.aload_n 0, 1) := by decide +kernel
theorem dX10_cannotBoth_71 : decode cX10_cannotBoth 71 = .ok (.iload_n 2, 1) := by decide +kernel
theorem dX10_cannotBoth_72 : decode cX10_cannotBoth 72 = .ok (.invokevirtual 272, 3) := by decide +kernel
theorem dX10_cannotBoth_75 : decode cX10_cannotBoth 75 = .ok (.ifCond .eq 60, 3) := by decide +kernel
theorem dX10_cannotBoth_78 : decode cX10_cannotBoth 78 = .ok (.aload_n 0, 1) := by decide +kernel
theorem dX10_cannotBoth_79 : decode cX10_cannotBoth 79 = .ok (.aload_n 0, 1) := by decide +kernel
theorem dX10_cannotBoth_80 : decode cX10_cannotBoth 80 = .ok (.aload_n 0, 1) := by decide +kernel
theorem dX10_cannotBoth_81 : decode cX10_cannotBoth 81 = .ok (.getfield 66, 3) := by decide +kernel
theorem dX10_cannotBoth_84 : decode cX10_cannotBoth 84 = .ok (.iload_n 1, 1) := by decide +kernel
theorem dX10_cannotBoth_85 : decode cX10_cannotBoth 85 = .ok (.iaload, 1) := by decide +kernel
theorem dX10_cannotBoth_86 : decode cX10_cannotBoth 86 = .ok (.invokevirtual 109, 3) := by decide +kernel
theorem dX10_cannotBoth_89 : decode cX10_cannotBoth 89 = .ok (.aload_n 0, 1) := by decide +kernel
theorem dX10_cannotBoth_90 : decode cX10_cannotBoth 90 = .ok (.aload_n 0, 1) := by decide +kernel
theorem dX10_cannotBoth_91 : decode cX10_cannotBoth 91 = .ok (.getfield 69, 3) := by decide +kernel
theorem dX10_cannotBoth_94 : decode cX10_cannotBoth 94 = .ok (.iload_n 1, 1) := by decide +kernel
theorem dX10_cannotBoth_95 : decode cX10_cannotBoth 95 = .ok (.iaload, 1) := by decide +kernel
theorem dX10_cannotBoth_96 : decode cX10_cannotBoth 96 = .ok (.invokevirtual 109, 3) := by decide +kernel
theorem dX10_cannotBoth_99 : decode cX10_cannotBoth 99 = .ok (.isub, 1) := by decide +kernel
theorem dX10_cannotBoth_100 : decode cX10_cannotBoth 100 = .ok (.invokevirtual 223, 3) := by decide +kernel
theorem dX10_cannotBoth_103 : decode cX10_cannotBoth 103 = .ok (.aload_n 0, 1) := by decide +kernel
theorem dX10_cannotBoth_104 : decode cX10_cannotBoth 104 = .ok (.aload_n 0, 1) := by decide +kernel
theorem dX10_cannotBoth_105 : decode cX10_cannotBoth 105 = .ok (.aload_n 0, 1) := by decide +kernel
theorem dX10_cannotBoth_106 : decode cX10_cannotBoth 106 = .ok (.getfield 66, 3) := by decide +kernel
theorem dX10_cannotBoth_109 : decode cX10_cannotBoth 109 = .ok (.iload_n 2, 1) := by decide +kernel
theorem dX10_cannotBoth_110 : decode cX10_cannotBoth 110 = .ok (.iaload, 1) := by decide +kernel
theorem dX10_cannotBoth_111 : decode cX10_cannotBoth 111 = .ok (.invokevirtual 109, 3) := by decide +kernel
theorem dX10_cannotBoth_114 : decode cX10_cannotBoth 114 = .ok (.aload_n 0, 1) := by decide +kernel
theorem dX10_cannotBoth_115 : decode cX10_cannotBoth 115 = .ok (.aload_n 0, 1) := by decide +kernel
theorem dX10_cannotBoth_116 : decode cX10_cannotBoth 116 = .ok (.getfield 69, 3) := by decide +kernel
theorem dX10_cannotBoth_119 : decode cX10_cannotBoth 119 = .ok (.iload_n 2, 1) := by decide +kernel
theorem dX10_cannotBoth_120 : decode cX10_cannotBoth 120 = .ok (.iaload, 1) := by decide +kernel
theorem dX10_cannotBoth_121 : decode cX10_cannotBoth 121 = .ok (.invokevirtual 109, 3) := by decide +kernel
theorem dX10_cannotBoth_124 : decode cX10_cannotBoth 124 = .ok (.isub, 1) := by decide +kernel
theorem dX10_cannotBoth_125 : decode cX10_cannotBoth 125 = .ok (.invokevirtual 223, 3) := by decide +kernel
theorem dX10_cannotBoth_128 : decode cX10_cannotBoth 128 = .ok (.if_icmp .ne 7, 3) := by decide +kernel
theorem dX10_cannotBoth_131 : decode cX10_cannotBoth 131 = .ok (.iconst 1, 1) := by decide +kernel
theorem dX10_cannotBoth_132 : decode cX10_cannotBoth 132 = .ok (.goto 4, 3) := by decide +kernel
theorem dX10_cannotBoth_135 : decode cX10_cannotBoth 135 = .ok (.iconst 0, 1) := by decide +kernel
theorem dX10_cannotBoth_136 : decode cX10_cannotBoth 136 = .ok (.ireturn, 1) := by decide +kernel
theorem dX10_canHave_0 : decode cX10_canHave 0 = .ok (.iconst 0, 1) := by decide +kernel
theorem dX10_canHave_1 : decode cX10_canHave 1 = .ok (.istore_n 3, 1) := by decide +kernel
theorem dX10_canHave_2 : decode cX10_canHave 2 = .ok (.iload_n 3, 1) := by decide +kernel
theorem dX10_canHave_3 : decode cX10_canHave 3 = .ok (.iload_n 1, 1) := by decide +kernel
theorem dX10_canHave_4 : decode cX10_canHave 4 = .ok (.if_icmp .ge 30, 3) := by decide +kernel
theorem dX10_canHave_7 : decode cX10_canHave 7 = .ok (.aload_n 0, 1) := by decide +kernel
theorem dX10_canHave_8 : decode cX10_canHave 8 = .ok (.getfield 72, 3) := by decide +kernel
theorem dX10_canHave_11 : decode cX10_canHave 11 = .ok (.iload_n 3, 1) := by decide +kernel
theorem dX10_canHave_12 : decode cX10_canHave 12 = .ok (.iaload, 1) := by decide +kernel
theorem dX10_canHave_13 : decode cX10_canHave 13 = .ok (.iload_n 2, 1) := by decide +kernel
theorem dX10_canHave_14 : decode cX10_canHave 14 = .ok (.if_icmp .ne 14, 3) := by decide +kernel
theorem dX10_canHave_17 : decode cX10_canHave 17 = .ok (.aload_n 0, 1) := by decide +kernel
theorem dX10_canHave_18 : decode cX10_canHave 18 = .ok (.iload_n 1, 1) := by decide +kernel
theorem dX10_canHave_19 : decode cX10_canHave 19 = .ok (.iload_n 3, 1) := by decide +kernel
theorem dX10_canHave_20 : decode cX10_canHave 20 = .ok (.invokevirtual 275, 3) := by decide +kernel
theorem dX10_canHave_23 : decode cX10_canHave 23 = .ok (.ifCond .eq 5, 3) := by decide +kernel
theorem dX10_canHave_26 : decode cX10_canHave 26 = .ok (.iconst 0, 1) := by decide +kernel
theorem dX10_canHave_27 : decode cX10_canHave 27 = .ok (.ireturn, 1) := by decide +kernel
theorem dX10_canHave_28 : decode cX10_canHave 28 = .ok (.iinc 3 1, 3) := by decide +kernel
theorem dX10_canHave_31 : decode cX10_canHave 31 = .ok (.goto (-29), 3) := by decide +kernel
theorem dX10_canHave_34 : decode cX10_canHave 34 = .ok (.iconst 1, 1) := by decide +kernel
theorem dX10_canHave_35 : decode cX10_canHave 35 = .ok (.ireturn, 1) := by decide +kernel
theorem dX10_canAll_0 : decode cX10_canAll 0 = .ok (.iconst 0, 1) := by decide +kernel
theorem dX10_canAll_1 : decode cX10_canAll 1 = .ok (.istore_n 2, 1) := by decide +kernel
theorem dX10_canAll_2 : decode cX10_canAll 2 = .ok (.iconst 0, 1) := by decide +kernel
theorem dX10_canAll_3 : decode cX10_canAll 3 = .ok (.istore_n 3, 1) := by decide +kernel
theorem dX10_canAll_4 : decode cX10_canAll 4 = .ok (.iload_n 3, 1) := by decide +kernel
theorem dX10_canAll_5 : decode cX10_canAll 5 = .ok (.bipush 8, 2) := by decide +kernel
theorem dX10_canAll_7 : decode cX10_canAll 7 = .ok (.if_icmp .ge 16, 3) := by decide +kernel
theorem dX10_canAll_10 : decode cX10_canAll 10 = .ok (.aload_n 0, 1) := by decide +kernel
theorem dX10_canAll_11 : decode cX10_canAll 11 = .ok (.getfield 72, 3) := by decide +kernel
theorem dX10_canAll_14 : decode cX10_canAll 14 = .ok (.iload_n 3, 1) := by decide +kernel
theorem dX10_canAll_15 : decode cX10_canAll 15 = .ok (.iconst 0, 1) := by decide +kernel
theorem dX10_canAll_16 : decode cX10_canAll 16 = .ok (.iastore, 1) := by decide +kernel
theorem dX10_canAll_17 : decode cX10_canAll 17 = .ok (.iinc 3 1, 3) := by decide +kernel
theorem dX10_canAll_20 : decode cX10_canAll 20 = .ok (.goto (-16), 3) := by decide +kernel
theorem dX10_canAll_23 : decode cX10_canAll 23 = .ok (.iload_n 2, 1) := by decide +kernel
theorem dX10_canAll_24 : decode cX10_canAll 24 = .ok (.ifCond .lt 75, 3) := by decide +kernel
theorem dX10_canAll_27 : decode cX10_canAll 27 = .ok (.iload_n 2, 1) := by decide +kernel
theorem dX10_canAll_28 : decode cX10_canAll 28 = .ok (.aload_n 0, 1) := by decide +kernel
theorem dX10_canAll_29 : decode cX10_canAll 29 = .ok (.getfield 269, 3) := by decide +kernel
theorem dX10_canAll_32 : decode cX10_canAll 32 = .ok (.if_icmp .ge 67, 3) := by decide +kernel
theorem dX10_canAll_35 : decode cX10_canAll 35 = .ok (.aload_n 0, 1) := by decide +kernel
theorem dX10_canAll_36 : decode cX10_canAll 36 = .ok (.getfield 72, 3) := by decide +kernel
theorem dX10_canAll_39 : decode cX10_canAll 39 = .ok (.iload_n 2, 1) := by decide +kernel
theorem dX10_canAll_40 : decode cX10_canAll 40 = .ok (.iaload, 1) := by decide +kernel
theorem dX10_canAll_41 : decode cX10_canAll 41 = .ok (.iconst 1, 1) := by decide +kernel
theorem dX10_canAll_42 : decode cX10_canAll 42 = .ok (.iadd, 1) := by decide +kernel
theorem dX10_canAll_43 : decode cX10_canAll 43 = .ok (.istore_n 3, 1) := by decide +kernel
theorem dX10_canAll_44 : decode cX10_canAll 44 = .ok (.iload_n 3, 1) := by decide +kernel
theorem dX10_canAll_45 : decode cX10_canAll 45 = .ok (.iload_n 1, 1) := by decide +kernel
theorem dX10_canAll_46 : decode cX10_canAll 46 = .ok (.if_icmp .gt 19, 3) := by decide +kernel
theorem dX10_canAll_49 : decode cX10_canAll 49 = .ok (.aload_n 0, 1) := by decide +kernel
theorem dX10_canAll_50 : decode cX10_canAll 50 = .ok (.iload_n 2, 1) := by decide +kernel
theorem dX10_canAll_51 : decode cX10_canAll 51 = .ok (.iload_n 3, 1) := by decide +kernel
theorem dX10_canAll_52 : decode cX10_canAll 52 = .ok (.invokevirtual 278, 3) := by decide +kernel
theorem dX10_canAll_55 : decode cX10_canAll 55 = .ok (.ifCond .ne 10, 3) := by decide +kernel
theorem dX10_canAll_58 : decode cX10_canAll 58 = .ok (.iload_n 3, 1) := by decide +kernel
theorem dX10_canAll_59 : decode cX10_canAll 59 = .ok (.iconst 1, 1) := by decide +kernel
theorem dX10_canAll_60 : decode cX10_canAll 60 = .ok (.iadd, 1) := by decide +kernel
theorem dX10_canAll_61 : decode cX10_canAll 61 = .ok (.istore_n 3, 1) := by decide +kernel
theorem dX10_canAll_62 : decode cX10_canAll 62 = .ok (.goto (-18), 3) := by decide +kernel
theorem dX10_canAll_65 : decode cX10_canAll 65 = .ok (.aload_n 0, 1) := by decide +kernel
theorem dX10_canAll_66 : decode cX10_canAll 66 = .ok (.getfield 72, 3) := by decide +kernel
theorem dX10_canAll_69 : decode cX10_canAll 69 = .ok (.iload_n 2, 1) := by decide +kernel
theorem dX10_canAll_70 : decode cX10_canAll 70 = .ok (.iload_n 3, 1) := by decide +kernel
theorem dX10_canAll_71 : decode cX10_canAll 71 = .ok (.iload_n 1, 1) := by decide +kernel
theorem dX10_canAll_72 : decode cX10_canAll 72 = .ok (.if_icmp .gt 7, 3) := by decide +kernel
theorem dX10_canAll_75 : decode cX10_canAll 75 = .ok (.iload_n 3, 1) := by decide +kernel
theorem dX10_canAll_76 : decode cX10_canAll 76 = .ok (.goto 4, 3) := by decide +kernel
theorem dX10_canAll_79 : decode cX10_canAll 79 = .ok (.iconst 0, 1) := by decide +kernel
theorem dX10_canAll_80 : decode cX10_canAll 80 = .ok (.iastore, 1) := by decide +kernel
theorem dX10_canAll_81 : decode cX10_canAll 81 = .ok (.iload_n 3, 1) := by decide +kernel
theorem dX10_canAll_82 : decode cX10_canAll 82 = .ok (.iload_n 1, 1) := by decide +kernel
theorem dX10_canAll_83 : decode cX10_canAll 83 = .ok (.if_icmp .gt 9, 3) := by decide +kernel
theorem dX10_canAll_86 : decode cX10_canAll 86 = .ok (.iload_n 2, 1) := by decide +kernel
theorem dX10_canAll_87 : decode cX10_canAll 87 = .ok (.iconst 1, 1) := by decide +kernel
theorem dX10_canAll_88 : decode cX10_canAll 88 = .ok (.iadd, 1) := by decide +kernel
theorem dX10_canAll_89 : decode cX10_canAll 89 = .ok (.goto 6, 3) := by decide +kernel
theorem dX10_canAll_92 : decode cX10_canAll 92 = .ok (.iload_n 2, 1) := by decide +kernel
theorem dX10_canAll_93 : decode cX10_canAll 93 = .ok (.iconst 1, 1) := by decide +kernel
theorem dX10_canAll_94 : decode cX10_canAll 94 = .ok (.isub, 1) := by decide +kernel
theorem dX10_canAll_95 : decode cX10_canAll 95 = .ok (.istore_n 2, 1) := by decide +kernel
theorem dX10_canAll_96 : decode cX10_canAll 96 = .ok (.goto (-73), 3) := by decide +kernel
theorem dX10_canAll_99 : decode cX10_canAll 99 = .ok (.iload_n 2, 1) := by decide +kernel
theorem dX10_canAll_100 : decode cX10_canAll 100 = .ok (.aload_n 0, 1) := by decide +kernel
theorem dX10_canAll_101 : decode cX10_canAll 101 = .ok (.getfield 269, 3) := by decide +kernel
theorem dX10_canAll_104 : decode cX10_canAll 104 = .ok (.if_icmp .ne 7, 3) := by decide +kernel
theorem dX10_canAll_107 : decode cX10_canAll 107 = .ok (.iconst 1, 1) := by decide +kernel
theorem dX10_canAll_108 : decode cX10_canAll 108 = .ok (.goto 4, 3) := by decide +kernel
theorem dX10_canAll_111 : decode cX10_canAll 111 = .ok (.iconst 0, 1) := by decide +kernel
theorem dX10_canAll_112 : decode cX10_canAll 112 = .ok (.ireturn, 1) := by decide +kernel
theorem dX10_turnOf_0 : decode cX10_turnOf 0 = .ok (.aload_n 0, 1) := by decide +kernel
theorem dX10_turnOf_1 : decode cX10_turnOf 1 = .ok (.iconst 0, 1) := by decide +kernel
theorem dX10_turnOf_2 : decode cX10_turnOf 2 = .ok (.putfield 90, 3) := by decide +kernel
theorem dX10_turnOf_5 : decode cX10_turnOf 5 = .ok (.iload_n 1, 1) := by decide +kernel
theorem dX10_turnOf_6 : decode cX10_turnOf 6 = .ok (.ifCond .eq 22, 3) := by decide +kernel
theorem dX10_turnOf_9 : decode cX10_turnOf 9 = .ok (.aload_n 0, 1) := by decide +kernel
theorem dX10_turnOf_10 : decode cX10_turnOf 10 = .ok (.iload_n 1, 1) := by decide +kernel
theorem dX10_turnOf_11 : decode cX10_turnOf 11 = .ok (.bipush 10, 2) := by decide +kernel
theorem dX10_turnOf_13 : decode cX10_turnOf 13 = .ok (.bipush 9, 2) := by decide +kernel
theorem dX10_turnOf_15 : decode cX10_turnOf 15 = .ok (.aload_n 0, 1) := by decide +kernel
theorem dX10_turnOf_16 : decode cX10_turnOf 16 = .ok (.getfield 269, 3) := by decide +kernel
theorem dX10_turnOf_19 : decode cX10_turnOf 19 = .ok (.iadd, 1) := by decide +kernel
theorem dX10_turnOf_20 : decode cX10_turnOf 20 = .ok (.invokevirtual 101, 3) := by decide +kernel
theorem dX10_turnOf_23 : decode cX10_turnOf 23 = .ok (.ifCond .ne 5, 3) := by decide +kernel
theorem dX10_turnOf_26 : decode cX10_turnOf 26 = .ok (.iconst (-1), 1) := by decide +kernel
theorem dX10_turnOf_27 : decode cX10_turnOf 27 = .ok (.ireturn, 1) := by decide +kernel
theorem dX10_turnOf_28 : decode cX10_turnOf 28 = .ok (.iconst 0, 1) := by decide +kernel
theorem dX10_turnOf_29 : decode cX10_turnOf 29 = .ok (.istore_n 2, 1) := by decide +kernel
theorem dX10_turnOf_30 : decode cX10_turnOf 30 = .ok (.aload_n 0, 1) := by decide +kernel
theorem dX10_turnOf_31 : decode cX10_turnOf 31 = .ok (.iload_n 2, 1) := by decide +kernel
theorem dX10_turnOf_32 : decode cX10_turnOf 32 = .ok (.invokevirtual 281, 3) := by decide +kernel
theorem dX10_turnOf_35 : decode cX10_turnOf 35 = .ok (.ifCond .ne 10, 3) := by decide +kernel
theorem dX10_turnOf_38 : decode cX10_turnOf 38 = .ok (.iload_n 2, 1) := by decide +kernel
theorem dX10_turnOf_39 : decode cX10_turnOf 39 = .ok (.iconst 1, 1) := by decide +kernel
theorem dX10_turnOf_40 : decode cX10_turnOf 40 = .ok (.iadd, 1) := by decide +kernel
theorem dX10_turnOf_41 : decode cX10_turnOf 41 = .ok (.istore_n 2, 1) := by decide +kernel
theorem dX10_turnOf_42 : decode cX10_turnOf 42 = .ok (.goto (-12), 3) := by decide +kernel
theorem dX10_turnOf_45 : decode cX10_turnOf 45 = .ok (.iload_n 1, 1) := by decide +kernel
theorem dX10_turnOf_46 : decode cX10_turnOf 46 = .ok (.ifCond .ne 7, 3) := by decide +kernel
theorem dX10_turnOf_49 : decode cX10_turnOf 49 = .ok (.iload_n 2, 1) := by decide +kernel
theorem dX10_turnOf_50 : decode cX10_turnOf 50 = .ok (.goto 12, 3) := by decide +kernel
theorem dX10_turnOf_53 : decode cX10_turnOf 53 = .ok (.aload_n 0, 1) := by decide +kernel
theorem dX10_turnOf_54 : decode cX10_turnOf 54 = .ok (.getfield 72, 3) := by decide +kernel
theorem dX10_turnOf_57 : decode cX10_turnOf 57 = .ok (.iload_n 1, 1) := by decide +kernel
theorem dX10_turnOf_58 : decode cX10_turnOf 58 = .ok (.bipush 10, 2) := by decide +kernel
theorem dX10_turnOf_60 : decode cX10_turnOf 60 = .ok (.isub, 1) := by decide +kernel
theorem dX10_turnOf_61 : decode cX10_turnOf 61 = .ok (.iaload, 1) := by decide +kernel
theorem dX10_turnOf_62 : decode cX10_turnOf 62 = .ok (.ireturn, 1) := by decide +kernel
theorem dX10_tell_0 : decode cX10_tell 0 = .ok (.aload_n 0, 1) := by decide +kernel
theorem dX10_tell_1 : decode cX10_tell 1 = .ok (.iconst 0, 1) := by decide +kernel
theorem dX10_tell_2 : decode cX10_tell 2 = .ok (.putfield 90, 3) := by decide +kernel
theorem dX10_tell_5 : decode cX10_tell 5 = .ok (.iload_n 1, 1) := by decide +kernel
theorem dX10_tell_6 : decode cX10_tell 6 = .ok (.iconst (-1), 1) := by decide +kernel
theorem dX10_tell_7 : decode cX10_tell 7 = .ok (.if_icmp .ne 10, 3) := by decide +kernel
theorem dX10_tell_10 : decode cX10_tell 10 = .ok (.aload_n 0, 1) := by decide +kernel
theorem dX10_tell_11 : decode cX10_tell 11 = .ok (.iconst 0, 1) := by decide +kernel
theorem dX10_tell_12 : decode cX10_tell 12 = .ok (.putfield 284, 3) := by decide +kernel
theorem dX10_tell_15 : decode cX10_tell 15 = .ok (.iconst 0, 1) := by decide +kernel
theorem dX10_tell_16 : decode cX10_tell 16 = .ok (.ireturn, 1) := by decide +kernel
theorem dX10_tell_17 : decode cX10_tell 17 = .ok (.aload_n 0, 1) := by decide +kernel
theorem dX10_tell_18 : decode cX10_tell 18 = .ok (.iload_n 1, 1) := by decide +kernel
theorem dX10_tell_19 : decode cX10_tell 19 = .ok (.iconst 1, 1) := by decide +kernel
theorem dX10_tell_20 : decode cX10_tell 20 = .ok (.bipush 24, 2) := by decide +kernel
theorem dX10_tell_22 : decode cX10_tell 22 = .ok (.invokevirtual 101, 3) := by decide +kernel
theorem dX10_tell_25 : decode cX10_tell 25 = .ok (.ifCond .eq 12, 3) := by decide +kernel
theorem dX10_tell_28 : decode cX10_tell 28 = .ok (.aload_n 0, 1) := by decide +kernel
theorem dX10_tell_29 : decode cX10_tell 29 = .ok (.getfield 284, 3) := by decide +kernel
theorem dX10_tell_32 : decode cX10_tell 32 = .ok (.bipush 15, 2) := by decide +kernel
theorem dX10_tell_34 : decode cX10_tell 34 = .ok (.if_icmp .ne 5, 3) := by decide +kernel
theorem dX10_tell_37 : decode cX10_tell 37 = .ok (.iconst (-1), 1) := by decide +kernel
theorem dX10_tell_38 : decode cX10_tell 38 = .ok (.ireturn, 1) := by decide +kernel
theorem dX10_tell_39 : decode cX10_tell 39 = .ok (.aload_n 0, 1) := by decide +kernel
theorem dX10_tell_40 : decode cX10_tell 40 = .ok (.getfield 75, 3) := by decide +kernel
theorem dX10_tell_43 : decode cX10_tell 43 = .ok (.aload_n 0, 1) := by decide +kernel
theorem dX10_tell_44 : decode cX10_tell 44 = .ok (.getfield 284, 3) := by decide +kernel
theorem dX10_tell_47 : decode cX10_tell 47 = .ok (.iload_n 1, 1) := by decide +kernel
theorem dX10_tell_48 : decode cX10_tell 48 = .ok (.iastore, 1) := by decide +kernel
theorem dX10_tell_49 : decode cX10_tell 49 = .ok (.aload_n 0, 1) := by decide +kernel
theorem dX10_tell_50 : decode cX10_tell 50 = .ok (.aload_n 0, 1) := by decide +kernel
theorem dX10_tell_51 : decode cX10_tell 51 = .ok (.getfield 284, 3) := by decide +kernel
theorem dX10_tell_54 : decode cX10_tell 54 = .ok (.iconst 1, 1) := by decide +kernel
theorem dX10_tell_55 : decode cX10_tell 55 = .ok (.iadd, 1) := by decide +kernel
theorem dX10_tell_56 : decode cX10_tell 56 = .ok (.putfield 284, 3) := by decide +kernel
theorem dX10_tell_59 : decode cX10_tell 59 = .ok (.aload_n 0, 1) := by decide +kernel
theorem dX10_tell_60 : decode cX10_tell 60 = .ok (.getfield 284, 3) := by decide +kernel
theorem dX10_tell_63 : decode cX10_tell 63 = .ok (.ireturn, 1) := by decide +kernel
theorem dX10_firstRow_0 : decode cX10_firstRow 0 = .ok (.iconst 0, 1) := by decide +kernel
theorem dX10_firstRow_1 : decode cX10_firstRow 1 = .ok (.istore_n 2, 1) := by decide +kernel
theorem dX10_firstRow_2 : decode cX10_firstRow 2 = .ok (.iload_n 2, 1) := by decide +kernel
theorem dX10_firstRow_3 : decode cX10_firstRow 3 = .ok (.iload_n 1, 1) := by decide +kernel
theorem dX10_firstRow_4 : decode cX10_firstRow 4 = .ok (.if_icmp .ge 16, 3) := by decide +kernel
theorem dX10_firstRow_7 : decode cX10_firstRow 7 = .ok (.aload_n 0, 1) := by decide +kernel
theorem dX10_firstRow_8 : decode cX10_firstRow 8 = .ok (.getfield 78, 3) := by decide +kernel
theorem dX10_firstRow_11 : decode cX10_firstRow 11 = .ok (.iload_n 2, 1) := by decide +kernel
theorem dX10_firstRow_12 : decode cX10_firstRow 12 = .ok (.iload_n 2, 1) := by decide +kernel
theorem dX10_firstRow_13 : decode cX10_firstRow 13 = .ok (.iastore, 1) := by decide +kernel
theorem dX10_firstRow_14 : decode cX10_firstRow 14 = .ok (.iinc 2 1, 3) := by decide +kernel
theorem dX10_firstRow_17 : decode cX10_firstRow 17 = .ok (.goto (-15), 3) := by decide +kernel
theorem dX10_firstRow_20 : decode cX10_firstRow 20 = .ok (.return_, 1) := by decide +kernel
theorem dX10_nextRow_0 : decode cX10_nextRow 0 = .ok (.iload_n 1, 1) := by decide +kernel
theorem dX10_nextRow_1 : decode cX10_nextRow 1 = .ok (.iconst 1, 1) := by decide +kernel
theorem dX10_nextRow_2 : decode cX10_nextRow 2 = .ok (.isub, 1) := by decide +kernel
theorem dX10_nextRow_3 : decode cX10_nextRow 3 = .ok (.istore_n 3, 1) := by decide +kernel
theorem dX10_nextRow_4 : decode cX10_nextRow 4 = .ok (.iload_n 3, 1) := by decide +kernel
theorem dX10_nextRow_5 : decode cX10_nextRow 5 = .ok (.ifCond .le 26, 3) := by decide +kernel
theorem dX10_nextRow_8 : decode cX10_nextRow 8 = .ok (.aload_n 0, 1) := by decide +kernel
theorem dX10_nextRow_9 : decode cX10_nextRow 9 = .ok (.getfield 78, 3) := by decide +kernel
theorem dX10_nextRow_12 : decode cX10_nextRow 12 = .ok (.iload_n 3, 1) := by decide +kernel
theorem dX10_nextRow_13 : decode cX10_nextRow 13 = .ok (.iaload, 1) := by decide +kernel
theorem dX10_nextRow_14 : decode cX10_nextRow 14 = .ok (.iload_n 2, 1) := by decide +kernel
theorem dX10_nextRow_15 : decode cX10_nextRow 15 = .ok (.iload_n 1, 1) := by decide +kernel
theorem dX10_nextRow_16 : decode cX10_nextRow 16 = .ok (.iconst 1, 1) := by decide +kernel
theorem dX10_nextRow_17 : decode cX10_nextRow 17 = .ok (.isub, 1) := by decide +kernel
theorem dX10_nextRow_18 : decode cX10_nextRow 18 = .ok (.iload_n 3, 1) := by decide +kernel
theorem dX10_nextRow_19 : decode cX10_nextRow 19 = .ok (.isub, 1) := by decide +kernel
theorem dX10_nextRow_20 : decode cX10_nextRow 20 = .ok (.isub, 1) := by decide +kernel
theorem dX10_nextRow_21 : decode cX10_nextRow 21 = .ok (.if_icmp .ne 10, 3) := by decide +kernel
theorem dX10_nextRow_24 : decode cX10_nextRow 24 = .ok (.iload_n 3, 1) := by decide +kernel
theorem dX10_nextRow_25 : decode cX10_nextRow 25 = .ok (.iconst 1, 1) := by decide +kernel
theorem dX10_nextRow_26 : decode cX10_nextRow 26 = .ok (.isub, 1) := by decide +kernel
theorem dX10_nextRow_27 : decode cX10_nextRow 27 = .ok (.istore_n 3, 1) := by decide +kernel
theorem dX10_nextRow_28 : decode cX10_nextRow 28 = .ok (.goto (-24), 3) := by decide +kernel
theorem dX10_nextRow_31 : decode cX10_nextRow 31 = .ok (.iload_n 3, 1) := by decide +kernel
theorem dX10_nextRow_32 : decode cX10_nextRow 32 = .ok (.ifCond .gt 5, 3) := by decide +kernel
theorem dX10_nextRow_35 : decode cX10_nextRow 35 = .ok (.iconst 0, 1) := by decide +kernel
theorem dX10_nextRow_36 : decode cX10_nextRow 36 = .ok (.ireturn, 1) := by decide +kernel
theorem dX10_nextRow_37 : decode cX10_nextRow 37 = .ok (.aload_n 0, 1) := by decide +kernel
theorem dX10_nextRow_38 : decode cX10_nextRow 38 = .ok (.getfield 78, 3) := by decide +kernel
theorem dX10_nextRow_41 : decode cX10_nextRow 41 = .ok (.iload_n 3, 1) := by decide +kernel
theorem dX10_nextRow_42 : decode cX10_nextRow 42 = .ok (.aload_n 0, 1) := by decide +kernel
theorem dX10_nextRow_43 : decode cX10_nextRow 43 = .ok (.getfield 78, 3) := by decide +kernel
theorem dX10_nextRow_46 : decode cX10_nextRow 46 = .ok (.iload_n 3, 1) := by decide +kernel
theorem dX10_nextRow_47 : decode cX10_nextRow 47 = .ok (.iaload, 1) := by decide +kernel
theorem dX10_nextRow_48 : decode cX10_nextRow 48 = .ok (.iconst 1, 1) := by decide +kernel
theorem dX10_nextRow_49 : decode cX10_nextRow 49 = .ok (.iadd, 1) := by decide +kernel
theorem dX10_nextRow_50 : decode cX10_nextRow 50 = .ok (.iastore, 1) := by decide +kernel
theorem dX10_nextRow_51 : decode cX10_nextRow 51 = .ok (.iload_n 3, 1) := by decide +kernel
theorem dX10_nextRow_52 : decode cX10_nextRow 52 = .ok (.iconst 1, 1) := by decide +kernel
theorem dX10_nextRow_53 : decode cX10_nextRow 53 = .ok (.iadd, 1) := by decide +kernel
theorem dX10_nextRow_54 : decode cX10_nextRow 54 = .ok (.istore 4, 2) := by decide +kernel
theorem dX10_nextRow_56 : decode cX10_nextRow 56 = .ok (.iload 4, 2) := by decide +kernel
theorem dX10_nextRow_58 : decode cX10_nextRow 58 = .ok (.iload_n 1, 1) := by decide +kernel
theorem dX10_nextRow_59 : decode cX10_nextRow 59 = .ok (.if_icmp .ge 27, 3) := by decide +kernel
theorem dX10_nextRow_62 : decode cX10_nextRow 62 = .ok (.aload_n 0, 1) := by decide +kernel
theorem dX10_nextRow_63 : decode cX10_nextRow 63 = .ok (.getfield 78, 3) := by decide +kernel
theorem dX10_nextRow_66 : decode cX10_nextRow 66 = .ok (.iload 4, 2) := by decide +kernel
theorem dX10_nextRow_68 : decode cX10_nextRow 68 = .ok (.aload_n 0, 1) := by decide +kernel
theorem dX10_nextRow_69 : decode cX10_nextRow 69 = .ok (.getfield 78, 3) := by decide +kernel
theorem dX10_nextRow_72 : decode cX10_nextRow 72 = .ok (.iload 4, 2) := by decide +kernel
theorem dX10_nextRow_74 : decode cX10_nextRow 74 = .ok (.iconst 1, 1) := by decide +kernel
theorem dX10_nextRow_75 : decode cX10_nextRow 75 = .ok (.isub, 1) := by decide +kernel
theorem dX10_nextRow_76 : decode cX10_nextRow 76 = .ok (.iaload, 1) := by decide +kernel
theorem dX10_nextRow_77 : decode cX10_nextRow 77 = .ok (.iconst 1, 1) := by decide +kernel
theorem dX10_nextRow_78 : decode cX10_nextRow 78 = .ok (.iadd, 1) := by decide +kernel
theorem dX10_nextRow_79 : decode cX10_nextRow 79 = .ok (.iastore, 1) := by decide +kernel
theorem dX10_nextRow_80 : decode cX10_nextRow 80 = .ok (.iinc 4 1, 3) := by decide +kernel
theorem dX10_nextRow_83 : decode cX10_nextRow 83 = .ok (.goto (-27), 3) := by decide +kernel
theorem dX10_nextRow_86 : decode cX10_nextRow 86 = .ok (.iconst 1, 1) := by decide +kernel
theorem dX10_nextRow_87 : decode cX10_nextRow 87 = .ok (.ireturn, 1) := by decide +kernel
theorem dX10_countsWords_0 : decode cX10_countsWords 0 = .ok (.iconst 0, 1) := by decide +kernel
theorem dX10_countsWords_1 : decode cX10_countsWords 1 = .ok (.istore_n 2, 1) := by decide +kernel
theorem dX10_countsWords_2 : decode cX10_countsWords 2 = .ok (.iload_n 2, 1) := by decide +kernel
theorem dX10_countsWords_3 : decode cX10_countsWords 3 = .ok (.bipush 61, 2) := by decide +kernel
theorem dX10_countsWords_5 : decode cX10_countsWords 5 = .ok (.if_icmp .ge 16, 3) := by decide +kernel
theorem dX10_countsWords_8 : decode cX10_countsWords 8 = .ok (.aload_n 0, 1) := by decide +kernel
theorem dX10_countsWords_9 : decode cX10_countsWords 9 = .ok (.getfield 81, 3) := by decide +kernel
theorem dX10_countsWords_12 : decode cX10_countsWords 12 = .ok (.iload_n 2, 1) := by decide +kernel
theorem dX10_countsWords_13 : decode cX10_countsWords 13 = .ok (.iconst 0, 1) := by decide +kernel
theorem dX10_countsWords_14 : decode cX10_countsWords 14 = .ok (.iastore, 1) := by decide +kernel
theorem dX10_countsWords_15 : decode cX10_countsWords 15 = .ok (.iinc 2 1, 3) := by decide +kernel
theorem dX10_countsWords_18 : decode cX10_countsWords 18 = .ok (.goto (-16), 3) := by decide +kernel
theorem dX10_countsWords_21 : decode cX10_countsWords 21 = .ok (.iconst 0, 1) := by decide +kernel
theorem dX10_countsWords_22 : decode cX10_countsWords 22 = .ok (.istore_n 2, 1) := by decide +kernel
theorem dX10_countsWords_23 : decode cX10_countsWords 23 = .ok (.iload_n 2, 1) := by decide +kernel
theorem dX10_countsWords_24 : decode cX10_countsWords 24 = .ok (.iload_n 1, 1) := by decide +kernel
theorem dX10_countsWords_25 : decode cX10_countsWords 25 = .ok (.if_icmp .ge 60, 3) := by decide +kernel
theorem dX10_countsWords_28 : decode cX10_countsWords 28 = .ok (.iconst 0, 1) := by decide +kernel
theorem dX10_countsWords_29 : decode cX10_countsWords 29 = .ok (.istore_n 3, 1) := by decide +kernel
theorem dX10_countsWords_30 : decode cX10_countsWords 30 = .ok (.iload_n 3, 1) := by decide +kernel
theorem dX10_countsWords_31 : decode cX10_countsWords 31 = .ok (.iload_n 2, 1) := by decide +kernel
theorem dX10_countsWords_32 : decode cX10_countsWords 32 = .ok (.if_icmp .ge 47, 3) := by decide +kernel
theorem dX10_countsWords_35 : decode cX10_countsWords 35 = .ok (.aload_n 0, 1) := by decide +kernel
theorem dX10_countsWords_36 : decode cX10_countsWords 36 = .ok (.getfield 81, 3) := by decide +kernel
theorem dX10_countsWords_39 : decode cX10_countsWords 39 = .ok (.aload_n 0, 1) := by decide +kernel
theorem dX10_countsWords_40 : decode cX10_countsWords 40 = .ok (.getfield 78, 3) := by decide +kernel
theorem dX10_countsWords_43 : decode cX10_countsWords 43 = .ok (.iload_n 2, 1) := by decide +kernel
theorem dX10_countsWords_44 : decode cX10_countsWords 44 = .ok (.iaload, 1) := by decide +kernel
theorem dX10_countsWords_45 : decode cX10_countsWords 45 = .ok (.aload_n 0, 1) := by decide +kernel
theorem dX10_countsWords_46 : decode cX10_countsWords 46 = .ok (.getfield 78, 3) := by decide +kernel
theorem dX10_countsWords_49 : decode cX10_countsWords 49 = .ok (.iload_n 3, 1) := by decide +kernel
theorem dX10_countsWords_50 : decode cX10_countsWords 50 = .ok (.iaload, 1) := by decide +kernel
theorem dX10_countsWords_51 : decode cX10_countsWords 51 = .ok (.isub, 1) := by decide +kernel
theorem dX10_countsWords_52 : decode cX10_countsWords 52 = .ok (.aload_n 0, 1) := by decide +kernel
theorem dX10_countsWords_53 : decode cX10_countsWords 53 = .ok (.getfield 81, 3) := by decide +kernel
theorem dX10_countsWords_56 : decode cX10_countsWords 56 = .ok (.aload_n 0, 1) := by decide +kernel
theorem dX10_countsWords_57 : decode cX10_countsWords 57 = .ok (.getfield 78, 3) := by decide +kernel
theorem dX10_countsWords_60 : decode cX10_countsWords 60 = .ok (.iload_n 2, 1) := by decide +kernel
theorem dX10_countsWords_61 : decode cX10_countsWords 61 = .ok (.iaload, 1) := by decide +kernel
theorem dX10_countsWords_62 : decode cX10_countsWords 62 = .ok (.aload_n 0, 1) := by decide +kernel
theorem dX10_countsWords_63 : decode cX10_countsWords 63 = .ok (.getfield 78, 3) := by decide +kernel
theorem dX10_countsWords_66 : decode cX10_countsWords 66 = .ok (.iload_n 3, 1) := by decide +kernel
theorem dX10_countsWords_67 : decode cX10_countsWords 67 = .ok (.iaload, 1) := by decide +kernel
theorem dX10_countsWords_68 : decode cX10_countsWords 68 = .ok (.isub, 1) := by decide +kernel
theorem dX10_countsWords_69 : decode cX10_countsWords 69 = .ok (.iaload, 1) := by decide +kernel
theorem dX10_countsWords_70 : decode cX10_countsWords 70 = .ok (.iconst 1, 1) := by decide +kernel
theorem dX10_countsWords_71 : decode cX10_countsWords 71 = .ok (.iadd, 1) := by decide +kernel
theorem dX10_countsWords_72 : decode cX10_countsWords 72 = .ok (.iastore, 1) := by decide +kernel
theorem dX10_countsWords_73 : decode cX10_countsWords 73 = .ok (.iinc 3 1, 3) := by decide +kernel
theorem dX10_countsWords_76 : decode cX10_countsWords 76 = .ok (.goto (-46), 3) := by decide +kernel
theorem dX10_countsWords_79 : decode cX10_countsWords 79 = .ok (.iinc 2 1, 3) := by decide +kernel
theorem dX10_countsWords_82 : decode cX10_countsWords 82 = .ok (.goto (-59), 3) := by decide +kernel
theorem dX10_countsWords_85 : decode cX10_countsWords 85 = .ok (.return_, 1) := by decide +kernel
theorem dX10_areJustTold_0 : decode cX10_areJustTold 0 = .ok (.iload_n 1, 1) := by decide +kernel
theorem dX10_areJustTold_1 : decode cX10_areJustTold 1 = .ok (.iload_n 1, 1) := by decide +kernel
theorem dX10_areJustTold_2 : decode cX10_areJustTold 2 = .ok (.iconst 1, 1) := by decide +kernel
theorem dX10_areJustTold_3 : decode cX10_areJustTold 3 = .ok (.isub, 1) := by decide +kernel
theorem dX10_areJustTold_4 : decode cX10_areJustTold 4 = .ok (.imul, 1) := by decide +kernel
theorem dX10_areJustTold_5 : decode cX10_areJustTold 5 = .ok (.iconst 2, 1) := by decide +kernel
theorem dX10_areJustTold_6 : decode cX10_areJustTold 6 = .ok (.idiv, 1) := by decide +kernel
theorem dX10_areJustTold_7 : decode cX10_areJustTold 7 = .ok (.aload_n 0, 1) := by decide +kernel
theorem dX10_areJustTold_8 : decode cX10_areJustTold 8 = .ok (.getfield 284, 3) := by decide +kernel
theorem dX10_areJustTold_11 : decode cX10_areJustTold 11 = .ok (.if_icmp .eq 5, 3) := by decide +kernel
theorem dX10_areJustTold_14 : decode cX10_areJustTold 14 = .ok (.iconst 0, 1) := by decide +kernel
theorem dX10_areJustTold_15 : decode cX10_areJustTold 15 = .ok (.ireturn, 1) := by decide +kernel
theorem dX10_areJustTold_16 : decode cX10_areJustTold 16 = .ok (.aload_n 0, 1) := by decide +kernel
theorem dX10_areJustTold_17 : decode cX10_areJustTold 17 = .ok (.iload_n 1, 1) := by decide +kernel
theorem dX10_areJustTold_18 : decode cX10_areJustTold 18 = .ok (.invokevirtual 287, 3) := by decide +kernel
theorem dX10_areJustTold_21 : decode cX10_areJustTold 21 = .ok (.iconst 0, 1) := by decide +kernel
theorem dX10_areJustTold_22 : decode cX10_areJustTold 22 = .ok (.istore_n 2, 1) := by decide +kernel
theorem dX10_areJustTold_23 : decode cX10_areJustTold 23 = .ok (.iload_n 2, 1) := by decide +kernel
theorem dX10_areJustTold_24 : decode cX10_areJustTold 24 = .ok (.aload_n 0, 1) := by decide +kernel
theorem dX10_areJustTold_25 : decode cX10_areJustTold 25 = .ok (.getfield 284, 3) := by decide +kernel
theorem dX10_areJustTold_28 : decode cX10_areJustTold 28 = .ok (.if_icmp .ge 33, 3) := by decide +kernel
theorem dX10_areJustTold_31 : decode cX10_areJustTold 31 = .ok (.aload_n 0, 1) := by decide +kernel
theorem dX10_areJustTold_32 : decode cX10_areJustTold 32 = .ok (.getfield 81, 3) := by decide +kernel
theorem dX10_areJustTold_35 : decode cX10_areJustTold 35 = .ok (.aload_n 0, 1) := by decide +kernel
theorem dX10_areJustTold_36 : decode cX10_areJustTold 36 = .ok (.getfield 75, 3) := by decide +kernel
theorem dX10_areJustTold_39 : decode cX10_areJustTold 39 = .ok (.iload_n 2, 1) := by decide +kernel
theorem dX10_areJustTold_40 : decode cX10_areJustTold 40 = .ok (.iaload, 1) := by decide +kernel
theorem dX10_areJustTold_41 : decode cX10_areJustTold 41 = .ok (.aload_n 0, 1) := by decide +kernel
theorem dX10_areJustTold_42 : decode cX10_areJustTold 42 = .ok (.getfield 81, 3) := by decide +kernel
theorem dX10_areJustTold_45 : decode cX10_areJustTold 45 = .ok (.aload_n 0, 1) := by decide +kernel
theorem dX10_areJustTold_46 : decode cX10_areJustTold 46 = .ok (.getfield 75, 3) := by decide +kernel
theorem dX10_areJustTold_49 : decode cX10_areJustTold 49 = .ok (.iload_n 2, 1) := by decide +kernel
theorem dX10_areJustTold_50 : decode cX10_areJustTold 50 = .ok (.iaload, 1) := by decide +kernel
theorem dX10_areJustTold_51 : decode cX10_areJustTold 51 = .ok (.iaload, 1) := by decide +kernel
theorem dX10_areJustTold_52 : decode cX10_areJustTold 52 = .ok (.iconst 1, 1) := by decide +kernel
theorem dX10_areJustTold_53 : decode cX10_areJustTold 53 = .ok (.isub, 1) := by decide +kernel
theorem dX10_areJustTold_54 : decode cX10_areJustTold 54 = .ok (.iastore, 1) := by decide +kernel
theorem dX10_areJustTold_55 : decode cX10_areJustTold 55 = .ok (.iinc 2 1, 3) := by decide +kernel
theorem dX10_areJustTold_58 : decode cX10_areJustTold 58 = .ok (.goto (-35), 3) := by decide +kernel
theorem dX10_areJustTold_61 : decode cX10_areJustTold 61 = .ok (.iconst 0, 1) := by decide +kernel
theorem dX10_areJustTold_62 : decode cX10_areJustTold 62 = .ok (.istore_n 2, 1) := by decide +kernel
theorem dX10_areJustTold_63 : decode cX10_areJustTold 63 = .ok (.iload_n 2, 1) := by decide +kernel
theorem dX10_areJustTold_64 : decode cX10_areJustTold 64 = .ok (.bipush 61, 2) := by decide +kernel
theorem dX10_areJustTold_66 : decode cX10_areJustTold 66 = .ok (.if_icmp .ge 20, 3) := by decide +kernel
theorem dX10_areJustTold_69 : decode cX10_areJustTold 69 = .ok (.aload_n 0, 1) := by decide +kernel
theorem dX10_areJustTold_70 : decode cX10_areJustTold 70 = .ok (.getfield 81, 3) := by decide +kernel
theorem dX10_areJustTold_73 : decode cX10_areJustTold 73 = .ok (.iload_n 2, 1) := by decide +kernel
theorem dX10_areJustTold_74 : decode cX10_areJustTold 74 = .ok (.iaload, 1) := by decide +kernel
theorem dX10_areJustTold_75 : decode cX10_areJustTold 75 = .ok (.ifCond .eq 5, 3) := by decide +kernel
theorem dX10_areJustTold_78 : decode cX10_areJustTold 78 = .ok (.iconst 0, 1) := by decide +kernel
theorem dX10_areJustTold_79 : decode cX10_areJustTold 79 = .ok (.ireturn, 1) := by decide +kernel
theorem dX10_areJustTold_80 : decode cX10_areJustTold 80 = .ok (.iinc 2 1, 3) := by decide +kernel
theorem dX10_areJustTold_83 : decode cX10_areJustTold 83 = .ok (.goto (-20), 3) := by decide +kernel
theorem dX10_areJustTold_86 : decode cX10_areJustTold 86 = .ok (.iconst 1, 1) := by decide +kernel
theorem dX10_areJustTold_87 : decode cX10_areJustTold 87 = .ok (.ireturn, 1) := by decide +kernel
theorem dX10_fits_0 : decode cX10_fits 0 = .ok (.iconst 0, 1) := by decide +kernel
theorem dX10_fits_1 : decode cX10_fits 1 = .ok (.istore_n 2, 1) := by decide +kernel
theorem dX10_fits_2 : decode cX10_fits 2 = .ok (.iload_n 1, 1) := by decide +kernel
theorem dX10_fits_3 : decode cX10_fits 3 = .ok (.iload_n 1, 1) := by decide +kernel
theorem dX10_fits_4 : decode cX10_fits 4 = .ok (.iconst 1, 1) := by decide +kernel
theorem dX10_fits_5 : decode cX10_fits 5 = .ok (.isub, 1) := by decide +kernel
theorem dX10_fits_6 : decode cX10_fits 6 = .ok (.imul, 1) := by decide +kernel
theorem dX10_fits_7 : decode cX10_fits 7 = .ok (.iconst 2, 1) := by decide +kernel
theorem dX10_fits_8 : decode cX10_fits 8 = .ok (.idiv, 1) := by decide +kernel
theorem dX10_fits_9 : decode cX10_fits 9 = .ok (.aload_n 0, 1) := by decide +kernel
theorem dX10_fits_10 : decode cX10_fits 10 = .ok (.getfield 284, 3) := by decide +kernel
theorem dX10_fits_13 : decode cX10_fits 13 = .ok (.if_icmp .eq 5, 3) := by decide +kernel
theorem dX10_fits_16 : decode cX10_fits 16 = .ok (.iconst 0, 1) := by decide +kernel
theorem dX10_fits_17 : decode cX10_fits 17 = .ok (.ireturn, 1) := by decide +kernel
theorem dX10_fits_18 : decode cX10_fits 18 = .ok (.aload_n 0, 1) := by decide +kernel
theorem dX10_fits_19 : decode cX10_fits 19 = .ok (.iload_n 1, 1) := by decide +kernel
theorem dX10_fits_20 : decode cX10_fits 20 = .ok (.invokevirtual 290, 3) := by decide +kernel
theorem dX10_fits_23 : decode cX10_fits 23 = .ok (.iconst 1, 1) := by decide +kernel
theorem dX10_fits_24 : decode cX10_fits 24 = .ok (.istore_n 3, 1) := by decide +kernel
theorem dX10_fits_25 : decode cX10_fits 25 = .ok (.iload_n 3, 1) := by decide +kernel
theorem dX10_fits_26 : decode cX10_fits 26 = .ok (.ifCond .eq 59, 3) := by decide +kernel
theorem dX10_fits_29 : decode cX10_fits 29 = .ok (.aload_n 0, 1) := by decide +kernel
theorem dX10_fits_30 : decode cX10_fits 30 = .ok (.iload_n 1, 1) := by decide +kernel
theorem dX10_fits_31 : decode cX10_fits 31 = .ok (.invokevirtual 293, 3) := by decide +kernel
theorem dX10_fits_34 : decode cX10_fits 34 = .ok (.ifCond .eq 40, 3) := by decide +kernel
theorem dX10_fits_37 : decode cX10_fits 37 = .ok (.iconst 0, 1) := by decide +kernel
theorem dX10_fits_38 : decode cX10_fits 38 = .ok (.istore 4, 2) := by decide +kernel
theorem dX10_fits_40 : decode cX10_fits 40 = .ok (.iload 4, 2) := by decide +kernel
theorem dX10_fits_42 : decode cX10_fits 42 = .ok (.iload_n 1, 1) := by decide +kernel
theorem dX10_fits_43 : decode cX10_fits 43 = .ok (.if_icmp .ge 27, 3) := by decide +kernel
theorem dX10_fits_46 : decode cX10_fits 46 = .ok (.iload_n 2, 1) := by decide +kernel
theorem dX10_fits_47 : decode cX10_fits 47 = .ok (.ifCond .ne 23, 3) := by decide +kernel
theorem dX10_fits_50 : decode cX10_fits 50 = .ok (.aload_n 0, 1) := by decide +kernel
theorem dX10_fits_51 : decode cX10_fits 51 = .ok (.getfield 84, 3) := by decide +kernel
theorem dX10_fits_54 : decode cX10_fits 54 = .ok (.iload 4, 2) := by decide +kernel
theorem dX10_fits_56 : decode cX10_fits 56 = .ok (.aload_n 0, 1) := by decide +kernel
theorem dX10_fits_57 : decode cX10_fits 57 = .ok (.getfield 78, 3) := by decide +kernel
theorem dX10_fits_60 : decode cX10_fits 60 = .ok (.iload 4, 2) := by decide +kernel
theorem dX10_fits_62 : decode cX10_fits 62 = .ok (.iaload, 1) := by decide +kernel
theorem dX10_fits_63 : decode cX10_fits 63 = .ok (.iastore, 1) := by decide +kernel
theorem dX10_fits_64 : decode cX10_fits 64 = .ok (.iinc 4 1, 3) := by decide +kernel
theorem dX10_fits_67 : decode cX10_fits 67 = .ok (.goto (-27), 3) := by decide +kernel
theorem dX10_fits_70 : decode cX10_fits 70 = .ok (.iload_n 2, 1) := by decide +kernel
theorem dX10_fits_71 : decode cX10_fits 71 = .ok (.iconst 1, 1) := by decide +kernel
theorem dX10_fits_72 : decode cX10_fits 72 = .ok (.iadd, 1) := by decide +kernel
theorem dX10_fits_73 : decode cX10_fits 73 = .ok (.istore_n 2, 1) := by decide +kernel
theorem dX10_fits_74 : decode cX10_fits 74 = .ok (.aload_n 0, 1) := by decide +kernel
theorem dX10_fits_75 : decode cX10_fits 75 = .ok (.iload_n 1, 1) := by decide +kernel
theorem dX10_fits_76 : decode cX10_fits 76 = .ok (.bipush 24, 2) := by decide +kernel
theorem dX10_fits_78 : decode cX10_fits 78 = .ok (.invokevirtual 296, 3) := by decide +kernel
theorem dX10_fits_81 : decode cX10_fits 81 = .ok (.istore_n 3, 1) := by decide +kernel
theorem dX10_fits_82 : decode cX10_fits 82 = .ok (.goto (-57), 3) := by decide +kernel
theorem dX10_fits_85 : decode cX10_fits 85 = .ok (.iload_n 2, 1) := by decide +kernel
theorem dX10_fits_86 : decode cX10_fits 86 = .ok (.ireturn, 1) := by decide +kernel
theorem dX10_fit_0 : decode cX10_fit 0 = .ok (.aload_n 0, 1) := by decide +kernel
theorem dX10_fit_1 : decode cX10_fit 1 = .ok (.iconst 0, 1) := by decide +kernel
theorem dX10_fit_2 : decode cX10_fit 2 = .ok (.putfield 90, 3) := by decide +kernel
theorem dX10_fit_5 : decode cX10_fit 5 = .ok (.aload_n 0, 1) := by decide +kernel
theorem dX10_fit_6 : decode cX10_fit 6 = .ok (.iload_n 1, 1) := by decide +kernel
theorem dX10_fit_7 : decode cX10_fit 7 = .ok (.iconst 1, 1) := by decide +kernel
theorem dX10_fit_8 : decode cX10_fit 8 = .ok (.bipush 6, 2) := by decide +kernel
theorem dX10_fit_10 : decode cX10_fit 10 = .ok (.invokevirtual 101, 3) := by decide +kernel
theorem dX10_fit_13 : decode cX10_fit 13 = .ok (.ifCond .eq 21, 3) := by decide +kernel
theorem dX10_fit_16 : decode cX10_fit 16 = .ok (.iload_n 2, 1) := by decide +kernel
theorem dX10_fit_17 : decode cX10_fit 17 = .ok (.ifCond .eq 19, 3) := by decide +kernel
theorem dX10_fit_20 : decode cX10_fit 20 = .ok (.aload_n 0, 1) := by decide +kernel
theorem dX10_fit_21 : decode cX10_fit 21 = .ok (.iload_n 2, 1) := by decide +kernel
theorem dX10_fit_22 : decode cX10_fit 22 = .ok (.bipush 10, 2) := by decide +kernel
theorem dX10_fit_24 : decode cX10_fit 24 = .ok (.bipush 9, 2) := by decide +kernel
theorem dX10_fit_26 : decode cX10_fit 26 = .ok (.iload_n 1, 1) := by decide +kernel
theorem dX10_fit_27 : decode cX10_fit 27 = .ok (.iadd, 1) := by decide +kernel
theorem dX10_fit_28 : decode cX10_fit 28 = .ok (.invokevirtual 101, 3) := by decide +kernel
theorem dX10_fit_31 : decode cX10_fit 31 = .ok (.ifCond .ne 5, 3) := by decide +kernel
theorem dX10_fit_34 : decode cX10_fit 34 = .ok (.iconst (-1), 1) := by decide +kernel
theorem dX10_fit_35 : decode cX10_fit 35 = .ok (.ireturn, 1) := by decide +kernel
theorem dX10_fit_36 : decode cX10_fit 36 = .ok (.aload_n 0, 1) := by decide +kernel
theorem dX10_fit_37 : decode cX10_fit 37 = .ok (.iload_n 1, 1) := by decide +kernel
theorem dX10_fit_38 : decode cX10_fit 38 = .ok (.invokevirtual 299, 3) := by decide +kernel
theorem dX10_fit_41 : decode cX10_fit 41 = .ok (.istore_n 3, 1) := by decide +kernel
theorem dX10_fit_42 : decode cX10_fit 42 = .ok (.iload_n 2, 1) := by decide +kernel
theorem dX10_fit_43 : decode cX10_fit 43 = .ok (.ifCond .ne 7, 3) := by decide +kernel
theorem dX10_fit_46 : decode cX10_fit 46 = .ok (.iload_n 3, 1) := by decide +kernel
theorem dX10_fit_47 : decode cX10_fit 47 = .ok (.goto 20, 3) := by decide +kernel
theorem dX10_fit_50 : decode cX10_fit 50 = .ok (.iload_n 3, 1) := by decide +kernel
theorem dX10_fit_51 : decode cX10_fit 51 = .ok (.ifCond .ne 7, 3) := by decide +kernel
theorem dX10_fit_54 : decode cX10_fit 54 = .ok (.iconst (-1), 1) := by decide +kernel
theorem dX10_fit_55 : decode cX10_fit 55 = .ok (.goto 12, 3) := by decide +kernel
theorem dX10_fit_58 : decode cX10_fit 58 = .ok (.aload_n 0, 1) := by decide +kernel
theorem dX10_fit_59 : decode cX10_fit 59 = .ok (.getfield 84, 3) := by decide +kernel
theorem dX10_fit_62 : decode cX10_fit 62 = .ok (.iload_n 2, 1) := by decide +kernel
theorem dX10_fit_63 : decode cX10_fit 63 = .ok (.bipush 10, 2) := by decide +kernel
theorem dX10_fit_65 : decode cX10_fit 65 = .ok (.isub, 1) := by decide +kernel
theorem dX10_fit_66 : decode cX10_fit 66 = .ok (.iaload, 1) := by decide +kernel
theorem dX10_fit_67 : decode cX10_fit 67 = .ok (.ireturn, 1) := by decide +kernel
theorem dX10_haveAllTold_0 : decode cX10_haveAllTold 0 = .ok (.aload_n 0, 1) := by decide +kernel
theorem dX10_haveAllTold_1 : decode cX10_haveAllTold 1 = .ok (.iload_n 1, 1) := by decide +kernel
theorem dX10_haveAllTold_2 : decode cX10_haveAllTold 2 = .ok (.invokevirtual 287, 3) := by decide +kernel
theorem dX10_haveAllTold_5 : decode cX10_haveAllTold 5 = .ok (.iconst 0, 1) := by decide +kernel
theorem dX10_haveAllTold_6 : decode cX10_haveAllTold 6 = .ok (.istore_n 2, 1) := by decide +kernel
theorem dX10_haveAllTold_7 : decode cX10_haveAllTold 7 = .ok (.iload_n 2, 1) := by decide +kernel
theorem dX10_haveAllTold_8 : decode cX10_haveAllTold 8 = .ok (.aload_n 0, 1) := by decide +kernel
theorem dX10_haveAllTold_9 : decode cX10_haveAllTold 9 = .ok (.getfield 284, 3) := by decide +kernel
theorem dX10_haveAllTold_12 : decode cX10_haveAllTold 12 = .ok (.if_icmp .ge 25, 3) := by decide +kernel
theorem dX10_haveAllTold_15 : decode cX10_haveAllTold 15 = .ok (.aload_n 0, 1) := by decide +kernel
theorem dX10_haveAllTold_16 : decode cX10_haveAllTold 16 = .ok (.getfield 81, 3) := by decide +kernel
theorem dX10_haveAllTold_19 : decode cX10_haveAllTold 19 = .ok (.aload_n 0, 1) := by decide +kernel
theorem dX10_haveAllTold_20 : decode cX10_haveAllTold 20 = .ok (.getfield 75, 3) := by decide +kernel
theorem dX10_haveAllTold_23 : decode cX10_haveAllTold 23 = .ok (.iload_n 2, 1) := by decide +kernel
theorem dX10_haveAllTold_24 : decode cX10_haveAllTold 24 = .ok (.iaload, 1) := by decide +kernel
theorem dX10_haveAllTold_25 : decode cX10_haveAllTold 25 = .ok (.iaload, 1) := by decide +kernel
theorem dX10_haveAllTold_26 : decode cX10_haveAllTold 26 = .ok (.ifCond .ne 5, 3) := by decide +kernel
theorem dX10_haveAllTold_29 : decode cX10_haveAllTold 29 = .ok (.iconst 0, 1) := by decide +kernel
theorem dX10_haveAllTold_30 : decode cX10_haveAllTold 30 = .ok (.ireturn, 1) := by decide +kernel
theorem dX10_haveAllTold_31 : decode cX10_haveAllTold 31 = .ok (.iinc 2 1, 3) := by decide +kernel
theorem dX10_haveAllTold_34 : decode cX10_haveAllTold 34 = .ok (.goto (-27), 3) := by decide +kernel
theorem dX10_haveAllTold_37 : decode cX10_haveAllTold 37 = .ok (.iconst 1, 1) := by decide +kernel
theorem dX10_haveAllTold_38 : decode cX10_haveAllTold 38 = .ok (.ireturn, 1) := by decide +kernel
theorem dX10_fewestTones_0 : decode cX10_fewestTones 0 = .ok (.iconst 1, 1) := by decide +kernel
theorem dX10_fewestTones_1 : decode cX10_fewestTones 1 = .ok (.istore_n 1, 1) := by decide +kernel
theorem dX10_fewestTones_2 : decode cX10_fewestTones 2 = .ok (.iload_n 1, 1) := by decide +kernel
theorem dX10_fewestTones_3 : decode cX10_fewestTones 3 = .ok (.iconst 5, 1) := by decide +kernel
theorem dX10_fewestTones_4 : decode cX10_fewestTones 4 = .ok (.if_icmp .gt 41, 3) := by decide +kernel
theorem dX10_fewestTones_7 : decode cX10_fewestTones 7 = .ok (.aload_n 0, 1) := by decide +kernel
theorem dX10_fewestTones_8 : decode cX10_fewestTones 8 = .ok (.iload_n 1, 1) := by decide +kernel
theorem dX10_fewestTones_9 : decode cX10_fewestTones 9 = .ok (.invokevirtual 290, 3) := by decide +kernel
theorem dX10_fewestTones_12 : decode cX10_fewestTones 12 = .ok (.iconst 1, 1) := by decide +kernel
theorem dX10_fewestTones_13 : decode cX10_fewestTones 13 = .ok (.istore_n 2, 1) := by decide +kernel
theorem dX10_fewestTones_14 : decode cX10_fewestTones 14 = .ok (.iload_n 2, 1) := by decide +kernel
theorem dX10_fewestTones_15 : decode cX10_fewestTones 15 = .ok (.ifCond .eq 24, 3) := by decide +kernel
theorem dX10_fewestTones_18 : decode cX10_fewestTones 18 = .ok (.aload_n 0, 1) := by decide +kernel
theorem dX10_fewestTones_19 : decode cX10_fewestTones 19 = .ok (.iload_n 1, 1) := by decide +kernel
theorem dX10_fewestTones_20 : decode cX10_fewestTones 20 = .ok (.invokevirtual 302, 3) := by decide +kernel
theorem dX10_fewestTones_23 : decode cX10_fewestTones 23 = .ok (.ifCond .eq 5, 3) := by decide +kernel
theorem dX10_fewestTones_26 : decode cX10_fewestTones 26 = .ok (.iload_n 1, 1) := by decide +kernel
theorem dX10_fewestTones_27 : decode cX10_fewestTones 27 = .ok (.ireturn, 1) := by decide +kernel
theorem dX10_fewestTones_28 : decode cX10_fewestTones 28 = .ok (.aload_n 0, 1) := by decide +kernel
theorem dX10_fewestTones_29 : decode cX10_fewestTones 29 = .ok (.iload_n 1, 1) := by decide +kernel
theorem dX10_fewestTones_30 : decode cX10_fewestTones 30 = .ok (.bipush 24, 2) := by decide +kernel
theorem dX10_fewestTones_32 : decode cX10_fewestTones 32 = .ok (.invokevirtual 296, 3) := by decide +kernel
theorem dX10_fewestTones_35 : decode cX10_fewestTones 35 = .ok (.istore_n 2, 1) := by decide +kernel
theorem dX10_fewestTones_36 : decode cX10_fewestTones 36 = .ok (.goto (-22), 3) := by decide +kernel
theorem dX10_fewestTones_39 : decode cX10_fewestTones 39 = .ok (.iinc 1 1, 3) := by decide +kernel
theorem dX10_fewestTones_42 : decode cX10_fewestTones 42 = .ok (.goto (-40), 3) := by decide +kernel
theorem dX10_fewestTones_45 : decode cX10_fewestTones 45 = .ok (.iconst (-1), 1) := by decide +kernel
theorem dX10_fewestTones_46 : decode cX10_fewestTones 46 = .ok (.ireturn, 1) := by decide +kernel
theorem dX10_fewest_0 : decode cX10_fewest 0 = .ok (.aload_n 0, 1) := by decide +kernel
theorem dX10_fewest_1 : decode cX10_fewest 1 = .ok (.iconst 0, 1) := by decide +kernel
theorem dX10_fewest_2 : decode cX10_fewest 2 = .ok (.putfield 90, 3) := by decide +kernel
theorem dX10_fewest_5 : decode cX10_fewest 5 = .ok (.iload_n 1, 1) := by decide +kernel
theorem dX10_fewest_6 : decode cX10_fewest 6 = .ok (.ifCond .eq 17, 3) := by decide +kernel
theorem dX10_fewest_9 : decode cX10_fewest 9 = .ok (.aload_n 0, 1) := by decide +kernel
theorem dX10_fewest_10 : decode cX10_fewest 10 = .ok (.iload_n 1, 1) := by decide +kernel
theorem dX10_fewest_11 : decode cX10_fewest 11 = .ok (.bipush 10, 2) := by decide +kernel
theorem dX10_fewest_13 : decode cX10_fewest 13 = .ok (.bipush 14, 2) := by decide +kernel
theorem dX10_fewest_15 : decode cX10_fewest 15 = .ok (.invokevirtual 101, 3) := by decide +kernel
theorem dX10_fewest_18 : decode cX10_fewest 18 = .ok (.ifCond .ne 5, 3) := by decide +kernel
theorem dX10_fewest_21 : decode cX10_fewest 21 = .ok (.iconst (-1), 1) := by decide +kernel
theorem dX10_fewest_22 : decode cX10_fewest 22 = .ok (.ireturn, 1) := by decide +kernel
theorem dX10_fewest_23 : decode cX10_fewest 23 = .ok (.aload_n 0, 1) := by decide +kernel
theorem dX10_fewest_24 : decode cX10_fewest 24 = .ok (.invokevirtual 305, 3) := by decide +kernel
theorem dX10_fewest_27 : decode cX10_fewest 27 = .ok (.istore_n 2, 1) := by decide +kernel
theorem dX10_fewest_28 : decode cX10_fewest 28 = .ok (.iload_n 1, 1) := by decide +kernel
theorem dX10_fewest_29 : decode cX10_fewest 29 = .ok (.ifCond .ne 7, 3) := by decide +kernel
theorem dX10_fewest_32 : decode cX10_fewest 32 = .ok (.iload_n 2, 1) := by decide +kernel
theorem dX10_fewest_33 : decode cX10_fewest 33 = .ok (.goto 24, 3) := by decide +kernel
theorem dX10_fewest_36 : decode cX10_fewest 36 = .ok (.iload_n 1, 1) := by decide +kernel
theorem dX10_fewest_37 : decode cX10_fewest 37 = .ok (.bipush 10, 2) := by decide +kernel
theorem dX10_fewest_39 : decode cX10_fewest 39 = .ok (.isub, 1) := by decide +kernel
theorem dX10_fewest_40 : decode cX10_fewest 40 = .ok (.iload_n 2, 1) := by decide +kernel
theorem dX10_fewest_41 : decode cX10_fewest 41 = .ok (.if_icmp .ge 15, 3) := by decide +kernel
theorem dX10_fewest_44 : decode cX10_fewest 44 = .ok (.aload_n 0, 1) := by decide +kernel
theorem dX10_fewest_45 : decode cX10_fewest 45 = .ok (.getfield 78, 3) := by decide +kernel
theorem dX10_fewest_48 : decode cX10_fewest 48 = .ok (.iload_n 1, 1) := by decide +kernel
theorem dX10_fewest_49 : decode cX10_fewest 49 = .ok (.bipush 10, 2) := by decide +kernel
theorem dX10_fewest_51 : decode cX10_fewest 51 = .ok (.isub, 1) := by decide +kernel
theorem dX10_fewest_52 : decode cX10_fewest 52 = .ok (.iaload, 1) := by decide +kernel
theorem dX10_fewest_53 : decode cX10_fewest 53 = .ok (.goto 4, 3) := by decide +kernel
theorem dX10_fewest_56 : decode cX10_fewest 56 = .ok (.iconst (-1), 1) := by decide +kernel
theorem dX10_fewest_57 : decode cX10_fewest 57 = .ok (.ireturn, 1) := by decide +kernel
theorem dX10_areUnlike_0 : decode cX10_areUnlike 0 = .ok (.aload_n 0, 1) := by decide +kernel
theorem dX10_areUnlike_1 : decode cX10_areUnlike 1 = .ok (.iload_n 1, 1) := by decide +kernel
theorem dX10_areUnlike_2 : decode cX10_areUnlike 2 = .ok (.invokevirtual 287, 3) := by decide +kernel
theorem dX10_areUnlike_5 : decode cX10_areUnlike 5 = .ok (.iconst 0, 1) := by decide +kernel
theorem dX10_areUnlike_6 : decode cX10_areUnlike 6 = .ok (.istore_n 2, 1) := by decide +kernel
theorem dX10_areUnlike_7 : decode cX10_areUnlike 7 = .ok (.iload_n 2, 1) := by decide +kernel
theorem dX10_areUnlike_8 : decode cX10_areUnlike 8 = .ok (.bipush 61, 2) := by decide +kernel
theorem dX10_areUnlike_10 : decode cX10_areUnlike 10 = .ok (.if_icmp .ge 21, 3) := by decide +kernel
theorem dX10_areUnlike_13 : decode cX10_areUnlike 13 = .ok (.aload_n 0, 1) := by decide +kernel
theorem dX10_areUnlike_14 : decode cX10_areUnlike 14 = .ok (.getfield 81, 3) := by decide +kernel
theorem dX10_areUnlike_17 : decode cX10_areUnlike 17 = .ok (.iload_n 2, 1) := by decide +kernel
theorem dX10_areUnlike_18 : decode cX10_areUnlike 18 = .ok (.iaload, 1) := by decide +kernel
theorem dX10_areUnlike_19 : decode cX10_areUnlike 19 = .ok (.iconst 1, 1) := by decide +kernel
theorem dX10_areUnlike_20 : decode cX10_areUnlike 20 = .ok (.if_icmp .le 5, 3) := by decide +kernel
theorem dX10_areUnlike_23 : decode cX10_areUnlike 23 = .ok (.iconst 0, 1) := by decide +kernel
theorem dX10_areUnlike_24 : decode cX10_areUnlike 24 = .ok (.ireturn, 1) := by decide +kernel
theorem dX10_areUnlike_25 : decode cX10_areUnlike 25 = .ok (.iinc 2 1, 3) := by decide +kernel
theorem dX10_areUnlike_28 : decode cX10_areUnlike 28 = .ok (.goto (-21), 3) := by decide +kernel
theorem dX10_areUnlike_31 : decode cX10_areUnlike 31 = .ok (.iconst 1, 1) := by decide +kernel
theorem dX10_areUnlike_32 : decode cX10_areUnlike 32 = .ok (.ireturn, 1) := by decide +kernel
theorem dX10_findsRuler_0 : decode cX10_findsRuler 0 = .ok (.iload_n 1, 1) := by decide +kernel
theorem dX10_findsRuler_1 : decode cX10_findsRuler 1 = .ok (.iconst 1, 1) := by decide +kernel
theorem dX10_findsRuler_2 : decode cX10_findsRuler 2 = .ok (.isub, 1) := by decide +kernel
theorem dX10_findsRuler_3 : decode cX10_findsRuler 3 = .ok (.istore_n 2, 1) := by decide +kernel
theorem dX10_findsRuler_4 : decode cX10_findsRuler 4 = .ok (.aload_n 0, 1) := by decide +kernel
theorem dX10_findsRuler_5 : decode cX10_findsRuler 5 = .ok (.iload_n 1, 1) := by decide +kernel
theorem dX10_findsRuler_6 : decode cX10_findsRuler 6 = .ok (.invokevirtual 290, 3) := by decide +kernel
theorem dX10_findsRuler_9 : decode cX10_findsRuler 9 = .ok (.iconst 1, 1) := by decide +kernel
theorem dX10_findsRuler_10 : decode cX10_findsRuler 10 = .ok (.istore_n 3, 1) := by decide +kernel
theorem dX10_findsRuler_11 : decode cX10_findsRuler 11 = .ok (.iload_n 3, 1) := by decide +kernel
theorem dX10_findsRuler_12 : decode cX10_findsRuler 12 = .ok (.ifCond .eq 34, 3) := by decide +kernel
theorem dX10_findsRuler_15 : decode cX10_findsRuler 15 = .ok (.aload_n 0, 1) := by decide +kernel
theorem dX10_findsRuler_16 : decode cX10_findsRuler 16 = .ok (.getfield 78, 3) := by decide +kernel
theorem dX10_findsRuler_19 : decode cX10_findsRuler 19 = .ok (.iload_n 1, 1) := by decide +kernel
theorem dX10_findsRuler_20 : decode cX10_findsRuler 20 = .ok (.iconst 1, 1) := by decide +kernel
theorem dX10_findsRuler_21 : decode cX10_findsRuler 21 = .ok (.isub, 1) := by decide +kernel
theorem dX10_findsRuler_22 : decode cX10_findsRuler 22 = .ok (.iaload, 1) := by decide +kernel
theorem dX10_findsRuler_23 : decode cX10_findsRuler 23 = .ok (.iload_n 2, 1) := by decide +kernel
theorem dX10_findsRuler_24 : decode cX10_findsRuler 24 = .ok (.if_icmp .ne 12, 3) := by decide +kernel
theorem dX10_findsRuler_27 : decode cX10_findsRuler 27 = .ok (.aload_n 0, 1) := by decide +kernel
theorem dX10_findsRuler_28 : decode cX10_findsRuler 28 = .ok (.iload_n 1, 1) := by decide +kernel
theorem dX10_findsRuler_29 : decode cX10_findsRuler 29 = .ok (.invokevirtual 308, 3) := by decide +kernel
theorem dX10_findsRuler_32 : decode cX10_findsRuler 32 = .ok (.ifCond .eq 4, 3) := by decide +kernel
theorem dX10_findsRuler_35 : decode cX10_findsRuler 35 = .ok (.return_, 1) := by decide +kernel
theorem dX10_findsRuler_36 : decode cX10_findsRuler 36 = .ok (.aload_n 0, 1) := by decide +kernel
theorem dX10_findsRuler_37 : decode cX10_findsRuler 37 = .ok (.iload_n 1, 1) := by decide +kernel
theorem dX10_findsRuler_38 : decode cX10_findsRuler 38 = .ok (.iload_n 2, 1) := by decide +kernel
theorem dX10_findsRuler_39 : decode cX10_findsRuler 39 = .ok (.invokevirtual 296, 3) := by decide +kernel
theorem dX10_findsRuler_42 : decode cX10_findsRuler 42 = .ok (.istore_n 3, 1) := by decide +kernel
theorem dX10_findsRuler_43 : decode cX10_findsRuler 43 = .ok (.goto (-32), 3) := by decide +kernel
theorem dX10_findsRuler_46 : decode cX10_findsRuler 46 = .ok (.iload_n 2, 1) := by decide +kernel
theorem dX10_findsRuler_47 : decode cX10_findsRuler 47 = .ok (.iconst 1, 1) := by decide +kernel
theorem dX10_findsRuler_48 : decode cX10_findsRuler 48 = .ok (.iadd, 1) := by decide +kernel
theorem dX10_findsRuler_49 : decode cX10_findsRuler 49 = .ok (.istore_n 2, 1) := by decide +kernel
theorem dX10_findsRuler_50 : decode cX10_findsRuler 50 = .ok (.goto (-46), 3) := by decide +kernel
theorem dX10_ruler_0 : decode cX10_ruler 0 = .ok (.aload_n 0, 1) := by decide +kernel
theorem dX10_ruler_1 : decode cX10_ruler 1 = .ok (.iconst 0, 1) := by decide +kernel
theorem dX10_ruler_2 : decode cX10_ruler 2 = .ok (.putfield 90, 3) := by decide +kernel
theorem dX10_ruler_5 : decode cX10_ruler 5 = .ok (.aload_n 0, 1) := by decide +kernel
theorem dX10_ruler_6 : decode cX10_ruler 6 = .ok (.iload_n 1, 1) := by decide +kernel
theorem dX10_ruler_7 : decode cX10_ruler 7 = .ok (.iconst 1, 1) := by decide +kernel
theorem dX10_ruler_8 : decode cX10_ruler 8 = .ok (.bipush 6, 2) := by decide +kernel
theorem dX10_ruler_10 : decode cX10_ruler 10 = .ok (.invokevirtual 101, 3) := by decide +kernel
theorem dX10_ruler_13 : decode cX10_ruler 13 = .ok (.ifCond .eq 21, 3) := by decide +kernel
theorem dX10_ruler_16 : decode cX10_ruler 16 = .ok (.iload_n 2, 1) := by decide +kernel
theorem dX10_ruler_17 : decode cX10_ruler 17 = .ok (.ifCond .eq 19, 3) := by decide +kernel
theorem dX10_ruler_20 : decode cX10_ruler 20 = .ok (.aload_n 0, 1) := by decide +kernel
theorem dX10_ruler_21 : decode cX10_ruler 21 = .ok (.iload_n 2, 1) := by decide +kernel
theorem dX10_ruler_22 : decode cX10_ruler 22 = .ok (.bipush 10, 2) := by decide +kernel
theorem dX10_ruler_24 : decode cX10_ruler 24 = .ok (.bipush 9, 2) := by decide +kernel
theorem dX10_ruler_26 : decode cX10_ruler 26 = .ok (.iload_n 1, 1) := by decide +kernel
theorem dX10_ruler_27 : decode cX10_ruler 27 = .ok (.iadd, 1) := by decide +kernel
theorem dX10_ruler_28 : decode cX10_ruler 28 = .ok (.invokevirtual 101, 3) := by decide +kernel
theorem dX10_ruler_31 : decode cX10_ruler 31 = .ok (.ifCond .ne 5, 3) := by decide +kernel
theorem dX10_ruler_34 : decode cX10_ruler 34 = .ok (.iconst (-1), 1) := by decide +kernel
theorem dX10_ruler_35 : decode cX10_ruler 35 = .ok (.ireturn, 1) := by decide +kernel
theorem dX10_ruler_36 : decode cX10_ruler 36 = .ok (.aload_n 0, 1) := by decide +kernel
theorem dX10_ruler_37 : decode cX10_ruler 37 = .ok (.iload_n 1, 1) := by decide +kernel
theorem dX10_ruler_38 : decode cX10_ruler 38 = .ok (.invokevirtual 311, 3) := by decide +kernel
theorem dX10_ruler_41 : decode cX10_ruler 41 = .ok (.iload_n 2, 1) := by decide +kernel
theorem dX10_ruler_42 : decode cX10_ruler 42 = .ok (.ifCond .ne 14, 3) := by decide +kernel
theorem dX10_ruler_45 : decode cX10_ruler 45 = .ok (.aload_n 0, 1) := by decide +kernel
theorem dX10_ruler_46 : decode cX10_ruler 46 = .ok (.getfield 78, 3) := by decide +kernel
theorem dX10_ruler_49 : decode cX10_ruler 49 = .ok (.iload_n 1, 1) := by decide +kernel
theorem dX10_ruler_50 : decode cX10_ruler 50 = .ok (.iconst 1, 1) := by decide +kernel
theorem dX10_ruler_51 : decode cX10_ruler 51 = .ok (.isub, 1) := by decide +kernel
theorem dX10_ruler_52 : decode cX10_ruler 52 = .ok (.iaload, 1) := by decide +kernel
theorem dX10_ruler_53 : decode cX10_ruler 53 = .ok (.goto 12, 3) := by decide +kernel
theorem dX10_ruler_56 : decode cX10_ruler 56 = .ok (.aload_n 0, 1) := by decide +kernel
theorem dX10_ruler_57 : decode cX10_ruler 57 = .ok (.getfield 78, 3) := by decide +kernel
theorem dX10_ruler_60 : decode cX10_ruler 60 = .ok (.iload_n 2, 1) := by decide +kernel
theorem dX10_ruler_61 : decode cX10_ruler 61 = .ok (.bipush 10, 2) := by decide +kernel
theorem dX10_ruler_63 : decode cX10_ruler 63 = .ok (.isub, 1) := by decide +kernel
theorem dX10_ruler_64 : decode cX10_ruler 64 = .ok (.iaload, 1) := by decide +kernel
theorem dX10_ruler_65 : decode cX10_ruler 65 = .ok (.ireturn, 1) := by decide +kernel
theorem dX10_isAlone_0 : decode cX10_isAlone 0 = .ok (.iconst 0, 1) := by decide +kernel
theorem dX10_isAlone_1 : decode cX10_isAlone 1 = .ok (.istore 6, 2) := by decide +kernel
theorem dX10_isAlone_3 : decode cX10_isAlone 3 = .ok (.iload 6, 2) := by decide +kernel
theorem dX10_isAlone_5 : decode cX10_isAlone 5 = .ok (.aload_n 0, 1) := by decide +kernel
theorem dX10_isAlone_6 : decode cX10_isAlone 6 = .ok (.getfield 98, 3) := by decide +kernel
theorem dX10_isAlone_9 : decode cX10_isAlone 9 = .ok (.if_icmp .ge 53, 3) := by decide +kernel
theorem dX10_isAlone_12 : decode cX10_isAlone 12 = .ok (.iload 6, 2) := by decide +kernel
theorem dX10_isAlone_14 : decode cX10_isAlone 14 = .ok (.iload_n 2, 1) := by decide +kernel
theorem dX10_isAlone_15 : decode cX10_isAlone 15 = .ok (.if_icmp .eq 41, 3) := by decide +kernel
theorem dX10_isAlone_18 : decode cX10_isAlone 18 = .ok (.iload 6, 2) := by decide +kernel
theorem dX10_isAlone_20 : decode cX10_isAlone 20 = .ok (.iload_n 3, 1) := by decide +kernel
theorem dX10_isAlone_21 : decode cX10_isAlone 21 = .ok (.if_icmp .eq 35, 3) := by decide +kernel
theorem dX10_isAlone_24 : decode cX10_isAlone 24 = .ok (.aload_n 0, 1) := by decide +kernel
theorem dX10_isAlone_25 : decode cX10_isAlone 25 = .ok (.iload 6, 2) := by decide +kernel
theorem dX10_isAlone_27 : decode cX10_isAlone 27 = .ok (.iload_n 2, 1) := by decide +kernel
theorem dX10_isAlone_28 : decode cX10_isAlone 28 = .ok (.iload_n 3, 1) := by decide +kernel
theorem dX10_isAlone_29 : decode cX10_isAlone 29 = .ok (.iload 4, 2) := by decide +kernel
theorem dX10_isAlone_31 : decode cX10_isAlone 31 = .ok (.iload 5, 2) := by decide +kernel
theorem dX10_isAlone_33 : decode cX10_isAlone 33 = .ok (.aload_n 0, 1) := by decide +kernel
theorem dX10_isAlone_34 : decode cX10_isAlone 34 = .ok (.getfield 116, 3) := by decide +kernel
theorem dX10_isAlone_37 : decode cX10_isAlone 37 = .ok (.invokevirtual 233, 3) := by decide +kernel
theorem dX10_isAlone_40 : decode cX10_isAlone 40 = .ok (.iload 6, 2) := by decide +kernel
theorem dX10_isAlone_42 : decode cX10_isAlone 42 = .ok (.iload_n 1, 1) := by decide +kernel
theorem dX10_isAlone_43 : decode cX10_isAlone 43 = .ok (.if_icmp .ne 7, 3) := by decide +kernel
theorem dX10_isAlone_46 : decode cX10_isAlone 46 = .ok (.iconst 1, 1) := by decide +kernel
theorem dX10_isAlone_47 : decode cX10_isAlone 47 = .ok (.goto 4, 3) := by decide +kernel
theorem dX10_isAlone_50 : decode cX10_isAlone 50 = .ok (.iconst 0, 1) := by decide +kernel
theorem dX10_isAlone_51 : decode cX10_isAlone 51 = .ok (.if_icmp .eq 5, 3) := by decide +kernel
theorem dX10_isAlone_54 : decode cX10_isAlone 54 = .ok (.iconst 0, 1) := by decide +kernel
theorem dX10_isAlone_55 : decode cX10_isAlone 55 = .ok (.ireturn, 1) := by decide +kernel
theorem dX10_isAlone_56 : decode cX10_isAlone 56 = .ok (.iinc 6 1, 3) := by decide +kernel
theorem dX10_isAlone_59 : decode cX10_isAlone 59 = .ok (.goto (-56), 3) := by decide +kernel
theorem dX10_isAlone_62 : decode cX10_isAlone 62 = .ok (.iconst 1, 1) := by decide +kernel
theorem dX10_isAlone_63 : decode cX10_isAlone 63 = .ok (.ireturn, 1) := by decide +kernel
theorem dX10_alone_0 : decode cX10_alone 0 = .ok (.aload_n 0, 1) := by decide +kernel
theorem dX10_alone_1 : decode cX10_alone 1 = .ok (.iconst 0, 1) := by decide +kernel
theorem dX10_alone_2 : decode cX10_alone 2 = .ok (.putfield 90, 3) := by decide +kernel
theorem dX10_alone_5 : decode cX10_alone 5 = .ok (.aload_n 0, 1) := by decide +kernel
theorem dX10_alone_6 : decode cX10_alone 6 = .ok (.iload_n 1, 1) := by decide +kernel
theorem dX10_alone_7 : decode cX10_alone 7 = .ok (.iload_n 2, 1) := by decide +kernel
theorem dX10_alone_8 : decode cX10_alone 8 = .ok (.iload_n 3, 1) := by decide +kernel
theorem dX10_alone_9 : decode cX10_alone 9 = .ok (.invokevirtual 237, 3) := by decide +kernel
theorem dX10_alone_12 : decode cX10_alone 12 = .ok (.ifCond .eq 35, 3) := by decide +kernel
theorem dX10_alone_15 : decode cX10_alone 15 = .ok (.aload_n 0, 1) := by decide +kernel
theorem dX10_alone_16 : decode cX10_alone 16 = .ok (.iload_n 1, 1) := by decide +kernel
theorem dX10_alone_17 : decode cX10_alone 17 = .ok (.invokevirtual 109, 3) := by decide +kernel
theorem dX10_alone_20 : decode cX10_alone 20 = .ok (.iconst (-1), 1) := by decide +kernel
theorem dX10_alone_21 : decode cX10_alone 21 = .ok (.if_icmp .eq 26, 3) := by decide +kernel
theorem dX10_alone_24 : decode cX10_alone 24 = .ok (.aload_n 0, 1) := by decide +kernel
theorem dX10_alone_25 : decode cX10_alone 25 = .ok (.iload 4, 2) := by decide +kernel
theorem dX10_alone_27 : decode cX10_alone 27 = .ok (.iconst 0, 1) := by decide +kernel
theorem dX10_alone_28 : decode cX10_alone 28 = .ok (.bipush 60, 2) := by decide +kernel
theorem dX10_alone_30 : decode cX10_alone 30 = .ok (.invokevirtual 101, 3) := by decide +kernel
theorem dX10_alone_33 : decode cX10_alone 33 = .ok (.ifCond .eq 14, 3) := by decide +kernel
theorem dX10_alone_36 : decode cX10_alone 36 = .ok (.aload_n 0, 1) := by decide +kernel
theorem dX10_alone_37 : decode cX10_alone 37 = .ok (.iload 5, 2) := by decide +kernel
theorem dX10_alone_39 : decode cX10_alone 39 = .ok (.iconst 0, 1) := by decide +kernel
theorem dX10_alone_40 : decode cX10_alone 40 = .ok (.iconst 1, 1) := by decide +kernel
theorem dX10_alone_41 : decode cX10_alone 41 = .ok (.invokevirtual 101, 3) := by decide +kernel
theorem dX10_alone_44 : decode cX10_alone 44 = .ok (.ifCond .ne 5, 3) := by decide +kernel
theorem dX10_alone_47 : decode cX10_alone 47 = .ok (.iconst (-1), 1) := by decide +kernel
theorem dX10_alone_48 : decode cX10_alone 48 = .ok (.ireturn, 1) := by decide +kernel
theorem dX10_alone_49 : decode cX10_alone 49 = .ok (.iconst 0, 1) := by decide +kernel
theorem dX10_alone_50 : decode cX10_alone 50 = .ok (.istore 6, 2) := by decide +kernel
theorem dX10_alone_52 : decode cX10_alone 52 = .ok (.iconst (-1), 1) := by decide +kernel
theorem dX10_alone_53 : decode cX10_alone 53 = .ok (.istore 7, 2) := by decide +kernel
theorem dX10_alone_55 : decode cX10_alone 55 = .ok (.iconst 0, 1) := by decide +kernel
theorem dX10_alone_56 : decode cX10_alone 56 = .ok (.istore 8, 2) := by decide +kernel
theorem dX10_alone_58 : decode cX10_alone 58 = .ok (.iload 8, 2) := by decide +kernel
theorem dX10_alone_60 : decode cX10_alone 60 = .ok (.iload 4, 2) := by decide +kernel
theorem dX10_alone_62 : decode cX10_alone 62 = .ok (.iadd, 1) := by decide +kernel
theorem dX10_alone_63 : decode cX10_alone 63 = .ok (.bipush 60, 2) := by decide +kernel
theorem dX10_alone_65 : decode cX10_alone 65 = .ok (.if_icmp .gt 49, 3) := by decide +kernel
theorem dX10_alone_68 : decode cX10_alone 68 = .ok (.aload_n 0, 1) := by decide +kernel
theorem dX10_alone_69 : decode cX10_alone 69 = .ok (.iload_n 1, 1) := by decide +kernel
theorem dX10_alone_70 : decode cX10_alone 70 = .ok (.iload_n 2, 1) := by decide +kernel
theorem dX10_alone_71 : decode cX10_alone 71 = .ok (.iload_n 3, 1) := by decide +kernel
theorem dX10_alone_72 : decode cX10_alone 72 = .ok (.iload 8, 2) := by decide +kernel
theorem dX10_alone_74 : decode cX10_alone 74 = .ok (.iload 8, 2) := by decide +kernel
theorem dX10_alone_76 : decode cX10_alone 76 = .ok (.iload 4, 2) := by decide +kernel
theorem dX10_alone_78 : decode cX10_alone 78 = .ok (.iadd, 1) := by decide +kernel
theorem dX10_alone_79 : decode cX10_alone 79 = .ok (.invokevirtual 314, 3) := by decide +kernel
theorem dX10_alone_82 : decode cX10_alone 82 = .ok (.ifCond .ne 6, 3) := by decide +kernel
theorem dX10_alone_85 : decode cX10_alone 85 = .ok (.goto 23, 3) := by decide +kernel
theorem dX10_alone_88 : decode cX10_alone 88 = .ok (.iload 6, 2) := by decide +kernel
theorem dX10_alone_90 : decode cX10_alone 90 = .ok (.ifCond .ne 8, 3) := by decide +kernel
theorem dX10_alone_93 : decode cX10_alone 93 = .ok (.iload 8, 2) := by decide +kernel
theorem dX10_alone_95 : decode cX10_alone 95 = .ok (.goto 5, 3) := by decide +kernel
theorem dX10_alone_98 : decode cX10_alone 98 = .ok (.iload 7, 2) := by decide +kernel
theorem dX10_alone_100 : decode cX10_alone 100 = .ok (.istore 7, 2) := by decide +kernel
theorem dX10_alone_102 : decode cX10_alone 102 = .ok (.iload 6, 2) := by decide +kernel
theorem dX10_alone_104 : decode cX10_alone 104 = .ok (.iconst 1, 1) := by decide +kernel
theorem dX10_alone_105 : decode cX10_alone 105 = .ok (.iadd, 1) := by decide +kernel
theorem dX10_alone_106 : decode cX10_alone 106 = .ok (.istore 6, 2) := by decide +kernel
theorem dX10_alone_108 : decode cX10_alone 108 = .ok (.iinc 8 1, 3) := by decide +kernel
theorem dX10_alone_111 : decode cX10_alone 111 = .ok (.goto (-53), 3) := by decide +kernel
theorem dX10_alone_114 : decode cX10_alone 114 = .ok (.iload 5, 2) := by decide +kernel
theorem dX10_alone_116 : decode cX10_alone 116 = .ok (.ifCond .ne 8, 3) := by decide +kernel
theorem dX10_alone_119 : decode cX10_alone 119 = .ok (.iload 6, 2) := by decide +kernel
theorem dX10_alone_121 : decode cX10_alone 121 = .ok (.goto 5, 3) := by decide +kernel
theorem dX10_alone_124 : decode cX10_alone 124 = .ok (.iload 7, 2) := by decide +kernel
theorem dX10_alone_126 : decode cX10_alone 126 = .ok (.ireturn, 1) := by decide +kernel
theorem dX10_canSay_0 : decode cX10_canSay 0 = .ok (.iconst 0, 1) := by decide +kernel
theorem dX10_canSay_1 : decode cX10_canSay 1 = .ok (.istore_n 2, 1) := by decide +kernel
theorem dX10_canSay_2 : decode cX10_canSay 2 = .ok (.iload_n 2, 1) := by decide +kernel
theorem dX10_canSay_3 : decode cX10_canSay 3 = .ok (.aload_n 0, 1) := by decide +kernel
theorem dX10_canSay_4 : decode cX10_canSay 4 = .ok (.getfield 98, 3) := by decide +kernel
theorem dX10_canSay_7 : decode cX10_canSay 7 = .ok (.if_icmp .ge 61, 3) := by decide +kernel
theorem dX10_canSay_10 : decode cX10_canSay 10 = .ok (.iconst 0, 1) := by decide +kernel
theorem dX10_canSay_11 : decode cX10_canSay 11 = .ok (.istore_n 3, 1) := by decide +kernel
theorem dX10_canSay_12 : decode cX10_canSay 12 = .ok (.iload_n 3, 1) := by decide +kernel
theorem dX10_canSay_13 : decode cX10_canSay 13 = .ok (.iload_n 2, 1) := by decide +kernel
theorem dX10_canSay_14 : decode cX10_canSay 14 = .ok (.if_icmp .ge 48, 3) := by decide +kernel
theorem dX10_canSay_17 : decode cX10_canSay 17 = .ok (.aload_n 0, 1) := by decide +kernel
theorem dX10_canSay_18 : decode cX10_canSay 18 = .ok (.iload_n 2, 1) := by decide +kernel
theorem dX10_canSay_19 : decode cX10_canSay 19 = .ok (.invokevirtual 109, 3) := by decide +kernel
theorem dX10_canSay_22 : decode cX10_canSay 22 = .ok (.iconst (-1), 1) := by decide +kernel
theorem dX10_canSay_23 : decode cX10_canSay 23 = .ok (.if_icmp .eq 33, 3) := by decide +kernel
theorem dX10_canSay_26 : decode cX10_canSay 26 = .ok (.aload_n 0, 1) := by decide +kernel
theorem dX10_canSay_27 : decode cX10_canSay 27 = .ok (.iload_n 3, 1) := by decide +kernel
theorem dX10_canSay_28 : decode cX10_canSay 28 = .ok (.invokevirtual 109, 3) := by decide +kernel
theorem dX10_canSay_31 : decode cX10_canSay 31 = .ok (.iconst (-1), 1) := by decide +kernel
theorem dX10_canSay_32 : decode cX10_canSay 32 = .ok (.if_icmp .eq 24, 3) := by decide +kernel
theorem dX10_canSay_35 : decode cX10_canSay 35 = .ok (.aload_n 0, 1) := by decide +kernel
theorem dX10_canSay_36 : decode cX10_canSay 36 = .ok (.aload_n 0, 1) := by decide +kernel
theorem dX10_canSay_37 : decode cX10_canSay 37 = .ok (.iload_n 2, 1) := by decide +kernel
theorem dX10_canSay_38 : decode cX10_canSay 38 = .ok (.invokevirtual 109, 3) := by decide +kernel
theorem dX10_canSay_41 : decode cX10_canSay 41 = .ok (.aload_n 0, 1) := by decide +kernel
theorem dX10_canSay_42 : decode cX10_canSay 42 = .ok (.iload_n 3, 1) := by decide +kernel
theorem dX10_canSay_43 : decode cX10_canSay 43 = .ok (.invokevirtual 109, 3) := by decide +kernel
theorem dX10_canSay_46 : decode cX10_canSay 46 = .ok (.isub, 1) := by decide +kernel
theorem dX10_canSay_47 : decode cX10_canSay 47 = .ok (.invokevirtual 223, 3) := by decide +kernel
theorem dX10_canSay_50 : decode cX10_canSay 50 = .ok (.iload_n 1, 1) := by decide +kernel
theorem dX10_canSay_51 : decode cX10_canSay 51 = .ok (.if_icmp .ne 5, 3) := by decide +kernel
theorem dX10_canSay_54 : decode cX10_canSay 54 = .ok (.iconst 1, 1) := by decide +kernel
theorem dX10_canSay_55 : decode cX10_canSay 55 = .ok (.ireturn, 1) := by decide +kernel
theorem dX10_canSay_56 : decode cX10_canSay 56 = .ok (.iinc 3 1, 3) := by decide +kernel
theorem dX10_canSay_59 : decode cX10_canSay 59 = .ok (.goto (-47), 3) := by decide +kernel
theorem dX10_canSay_62 : decode cX10_canSay 62 = .ok (.iinc 2 1, 3) := by decide +kernel
theorem dX10_canSay_65 : decode cX10_canSay 65 = .ok (.goto (-63), 3) := by decide +kernel
theorem dX10_canSay_68 : decode cX10_canSay 68 = .ok (.iconst 0, 1) := by decide +kernel
theorem dX10_canSay_69 : decode cX10_canSay 69 = .ok (.ireturn, 1) := by decide +kernel
theorem dX10_safe_0 : decode cX10_safe 0 = .ok (.aload_n 0, 1) := by decide +kernel
theorem dX10_safe_1 : decode cX10_safe 1 = .ok (.iconst 0, 1) := by decide +kernel
theorem dX10_safe_2 : decode cX10_safe 2 = .ok (.putfield 90, 3) := by decide +kernel
theorem dX10_safe_5 : decode cX10_safe 5 = .ok (.aload_n 0, 1) := by decide +kernel
theorem dX10_safe_6 : decode cX10_safe 6 = .ok (.iload_n 1, 1) := by decide +kernel
theorem dX10_safe_7 : decode cX10_safe 7 = .ok (.iconst 0, 1) := by decide +kernel
theorem dX10_safe_8 : decode cX10_safe 8 = .ok (.iconst 1, 1) := by decide +kernel
theorem dX10_safe_9 : decode cX10_safe 9 = .ok (.invokevirtual 101, 3) := by decide +kernel
theorem dX10_safe_12 : decode cX10_safe 12 = .ok (.ifCond .ne 5, 3) := by decide +kernel
theorem dX10_safe_15 : decode cX10_safe 15 = .ok (.iconst (-1), 1) := by decide +kernel
theorem dX10_safe_16 : decode cX10_safe 16 = .ok (.ireturn, 1) := by decide +kernel
theorem dX10_safe_17 : decode cX10_safe 17 = .ok (.iconst 0, 1) := by decide +kernel
theorem dX10_safe_18 : decode cX10_safe 18 = .ok (.istore_n 2, 1) := by decide +kernel
theorem dX10_safe_19 : decode cX10_safe 19 = .ok (.bipush (-3), 2) := by decide +kernel
theorem dX10_safe_21 : decode cX10_safe 21 = .ok (.istore_n 3, 1) := by decide +kernel
theorem dX10_safe_22 : decode cX10_safe 22 = .ok (.iconst 1, 1) := by decide +kernel
theorem dX10_safe_23 : decode cX10_safe 23 = .ok (.istore 4, 2) := by decide +kernel
theorem dX10_safe_25 : decode cX10_safe 25 = .ok (.iload 4, 2) := by decide +kernel
theorem dX10_safe_27 : decode cX10_safe 27 = .ok (.bipush 24, 2) := by decide +kernel
theorem dX10_safe_29 : decode cX10_safe 29 = .ok (.if_icmp .gt 39, 3) := by decide +kernel
theorem dX10_safe_32 : decode cX10_safe 32 = .ok (.iload 4, 2) := by decide +kernel
theorem dX10_safe_34 : decode cX10_safe 34 = .ok (.iload_n 3, 1) := by decide +kernel
theorem dX10_safe_35 : decode cX10_safe 35 = .ok (.isub, 1) := by decide +kernel
theorem dX10_safe_36 : decode cX10_safe 36 = .ok (.iconst 3, 1) := by decide +kernel
theorem dX10_safe_37 : decode cX10_safe 37 = .ok (.if_icmp .lt 25, 3) := by decide +kernel
theorem dX10_safe_40 : decode cX10_safe 40 = .ok (.aload_n 0, 1) := by decide +kernel
theorem dX10_safe_41 : decode cX10_safe 41 = .ok (.iload 4, 2) := by decide +kernel
theorem dX10_safe_43 : decode cX10_safe 43 = .ok (.invokevirtual 318, 3) := by decide +kernel
theorem dX10_safe_46 : decode cX10_safe 46 = .ok (.ifCond .ne 6, 3) := by decide +kernel
theorem dX10_safe_49 : decode cX10_safe 49 = .ok (.goto 13, 3) := by decide +kernel
theorem dX10_safe_52 : decode cX10_safe 52 = .ok (.iload_n 2, 1) := by decide +kernel
theorem dX10_safe_53 : decode cX10_safe 53 = .ok (.iconst 1, 1) := by decide +kernel
theorem dX10_safe_54 : decode cX10_safe 54 = .ok (.iload 4, 2) := by decide +kernel
theorem dX10_safe_56 : decode cX10_safe 56 = .ok (.ishl, 1) := by decide +kernel
theorem dX10_safe_57 : decode cX10_safe 57 = .ok (.ior, 1) := by decide +kernel
theorem dX10_safe_58 : decode cX10_safe 58 = .ok (.istore_n 2, 1) := by decide +kernel
theorem dX10_safe_59 : decode cX10_safe 59 = .ok (.iload 4, 2) := by decide +kernel
theorem dX10_safe_61 : decode cX10_safe 61 = .ok (.istore_n 3, 1) := by decide +kernel
theorem dX10_safe_62 : decode cX10_safe 62 = .ok (.iinc 4 1, 3) := by decide +kernel
theorem dX10_safe_65 : decode cX10_safe 65 = .ok (.goto (-40), 3) := by decide +kernel
theorem dX10_safe_68 : decode cX10_safe 68 = .ok (.iload_n 1, 1) := by decide +kernel
theorem dX10_safe_69 : decode cX10_safe 69 = .ok (.ifCond .ne 11, 3) := by decide +kernel
theorem dX10_safe_72 : decode cX10_safe 72 = .ok (.aload_n 0, 1) := by decide +kernel
theorem dX10_safe_73 : decode cX10_safe 73 = .ok (.iload_n 2, 1) := by decide +kernel
theorem dX10_safe_74 : decode cX10_safe 74 = .ok (.invokevirtual 226, 3) := by decide +kernel
theorem dX10_safe_77 : decode cX10_safe 77 = .ok (.goto 4, 3) := by decide +kernel
theorem dX10_safe_80 : decode cX10_safe 80 = .ok (.iload_n 2, 1) := by decide +kernel
theorem dX10_safe_81 : decode cX10_safe 81 = .ok (.ireturn, 1) := by decide +kernel
theorem dX10_kept_0 : decode cX10_kept 0 = .ok (.aload_n 0, 1) := by decide +kernel
theorem dX10_kept_1 : decode cX10_kept 1 = .ok (.aload_n 0, 1) := by decide +kernel
theorem dX10_kept_2 : decode cX10_kept 2 = .ok (.getfield 321, 3) := by decide +kernel
theorem dX10_kept_5 : decode cX10_kept 5 = .ok (.iconst 1, 1) := by decide +kernel
theorem dX10_kept_6 : decode cX10_kept 6 = .ok (.iadd, 1) := by decide +kernel
theorem dX10_kept_7 : decode cX10_kept 7 = .ok (.putfield 321, 3) := by decide +kernel
theorem dX10_kept_10 : decode cX10_kept 10 = .ok (.aload_n 0, 1) := by decide +kernel
theorem dX10_kept_11 : decode cX10_kept 11 = .ok (.getfield 324, 3) := by decide +kernel
theorem dX10_kept_14 : decode cX10_kept 14 = .ok (.ifCond .ne 15, 3) := by decide +kernel
theorem dX10_kept_17 : decode cX10_kept 17 = .ok (.aload_n 0, 1) := by decide +kernel
theorem dX10_kept_18 : decode cX10_kept 18 = .ok (.getfield 87, 3) := by decide +kernel
theorem dX10_kept_21 : decode cX10_kept 21 = .ok (.aload_n 0, 1) := by decide +kernel
theorem dX10_kept_22 : decode cX10_kept 22 = .ok (.getfield 321, 3) := by decide +kernel
theorem dX10_kept_25 : decode cX10_kept 25 = .ok (.iconst 1, 1) := by decide +kernel
theorem dX10_kept_26 : decode cX10_kept 26 = .ok (.isub, 1) := by decide +kernel
theorem dX10_kept_27 : decode cX10_kept 27 = .ok (.iaload, 1) := by decide +kernel
theorem dX10_kept_28 : decode cX10_kept 28 = .ok (.ireturn, 1) := by decide +kernel
theorem dX10_kept_29 : decode cX10_kept 29 = .ok (.aload_n 0, 1) := by decide +kernel
theorem dX10_kept_30 : decode cX10_kept 30 = .ok (.getfield 87, 3) := by decide +kernel
theorem dX10_kept_33 : decode cX10_kept 33 = .ok (.aload_n 0, 1) := by decide +kernel
theorem dX10_kept_34 : decode cX10_kept 34 = .ok (.getfield 321, 3) := by decide +kernel
theorem dX10_kept_37 : decode cX10_kept 37 = .ok (.iconst 1, 1) := by decide +kernel
theorem dX10_kept_38 : decode cX10_kept 38 = .ok (.isub, 1) := by decide +kernel
theorem dX10_kept_39 : decode cX10_kept 39 = .ok (.iload_n 1, 1) := by decide +kernel
theorem dX10_kept_40 : decode cX10_kept 40 = .ok (.iastore, 1) := by decide +kernel
theorem dX10_kept_41 : decode cX10_kept 41 = .ok (.iload_n 1, 1) := by decide +kernel
theorem dX10_kept_42 : decode cX10_kept 42 = .ok (.ireturn, 1) := by decide +kernel
theorem dX10_keepsLaw_0 : decode cX10_keepsLaw 0 = .ok (.aload_n 0, 1) := by decide +kernel
theorem dX10_keepsLaw_1 : decode cX10_keepsLaw 1 = .ok (.aload_n 0, 1) := by decide +kernel
theorem dX10_keepsLaw_2 : decode cX10_keepsLaw 2 = .ok (.aload_n 0, 1) := by decide +kernel
theorem dX10_keepsLaw_3 : decode cX10_keepsLaw 3 = .ok (.getfield 216, 3) := by decide +kernel
theorem dX10_keepsLaw_6 : decode cX10_keepsLaw 6 = .ok (.invokevirtual 328, 3) := by decide +kernel
theorem dX10_keepsLaw_9 : decode cX10_keepsLaw 9 = .ok (.putfield 216, 3) := by decide +kernel
theorem dX10_keepsLaw_12 : decode cX10_keepsLaw 12 = .ok (.iconst 0, 1) := by decide +kernel
theorem dX10_keepsLaw_13 : decode cX10_keepsLaw 13 = .ok (.istore_n 1, 1) := by decide +kernel
theorem dX10_keepsLaw_14 : decode cX10_keepsLaw 14 = .ok (.iload_n 1, 1) := by decide +kernel
theorem dX10_keepsLaw_15 : decode cX10_keepsLaw 15 = .ok (.bipush 16, 2) := by decide +kernel
theorem dX10_keepsLaw_17 : decode cX10_keepsLaw 17 = .ok (.if_icmp .ge 57, 3) := by decide +kernel
theorem dX10_keepsLaw_20 : decode cX10_keepsLaw 20 = .ok (.aload_n 0, 1) := by decide +kernel
theorem dX10_keepsLaw_21 : decode cX10_keepsLaw 21 = .ok (.getfield 28, 3) := by decide +kernel
theorem dX10_keepsLaw_24 : decode cX10_keepsLaw 24 = .ok (.iload_n 1, 1) := by decide +kernel
theorem dX10_keepsLaw_25 : decode cX10_keepsLaw 25 = .ok (.aload_n 0, 1) := by decide +kernel
theorem dX10_keepsLaw_26 : decode cX10_keepsLaw 26 = .ok (.aload_n 0, 1) := by decide +kernel
theorem dX10_keepsLaw_27 : decode cX10_keepsLaw 27 = .ok (.getfield 28, 3) := by decide +kernel
theorem dX10_keepsLaw_30 : decode cX10_keepsLaw 30 = .ok (.iload_n 1, 1) := by decide +kernel
theorem dX10_keepsLaw_31 : decode cX10_keepsLaw 31 = .ok (.iaload, 1) := by decide +kernel
theorem dX10_keepsLaw_32 : decode cX10_keepsLaw 32 = .ok (.invokevirtual 328, 3) := by decide +kernel
theorem dX10_keepsLaw_35 : decode cX10_keepsLaw 35 = .ok (.iastore, 1) := by decide +kernel
theorem dX10_keepsLaw_36 : decode cX10_keepsLaw 36 = .ok (.aload_n 0, 1) := by decide +kernel
theorem dX10_keepsLaw_37 : decode cX10_keepsLaw 37 = .ok (.getfield 31, 3) := by decide +kernel
theorem dX10_keepsLaw_40 : decode cX10_keepsLaw 40 = .ok (.iload_n 1, 1) := by decide +kernel
theorem dX10_keepsLaw_41 : decode cX10_keepsLaw 41 = .ok (.aload_n 0, 1) := by decide +kernel
theorem dX10_keepsLaw_42 : decode cX10_keepsLaw 42 = .ok (.aload_n 0, 1) := by decide +kernel
theorem dX10_keepsLaw_43 : decode cX10_keepsLaw 43 = .ok (.getfield 31, 3) := by decide +kernel
theorem dX10_keepsLaw_46 : decode cX10_keepsLaw 46 = .ok (.iload_n 1, 1) := by decide +kernel
theorem dX10_keepsLaw_47 : decode cX10_keepsLaw 47 = .ok (.iaload, 1) := by decide +kernel
theorem dX10_keepsLaw_48 : decode cX10_keepsLaw 48 = .ok (.invokevirtual 328, 3) := by decide +kernel
theorem dX10_keepsLaw_51 : decode cX10_keepsLaw 51 = .ok (.iastore, 1) := by decide +kernel
theorem dX10_keepsLaw_52 : decode cX10_keepsLaw 52 = .ok (.aload_n 0, 1) := by decide +kernel
theorem dX10_keepsLaw_53 : decode cX10_keepsLaw 53 = .ok (.getfield 34, 3) := by decide +kernel
theorem dX10_keepsLaw_56 : decode cX10_keepsLaw 56 = .ok (.iload_n 1, 1) := by decide +kernel
theorem dX10_keepsLaw_57 : decode cX10_keepsLaw 57 = .ok (.aload_n 0, 1) := by decide +kernel
theorem dX10_keepsLaw_58 : decode cX10_keepsLaw 58 = .ok (.aload_n 0, 1) := by decide +kernel
theorem dX10_keepsLaw_59 : decode cX10_keepsLaw 59 = .ok (.getfield 34, 3) := by decide +kernel
theorem dX10_keepsLaw_62 : decode cX10_keepsLaw 62 = .ok (.iload_n 1, 1) := by decide +kernel
theorem dX10_keepsLaw_63 : decode cX10_keepsLaw 63 = .ok (.iaload, 1) := by decide +kernel
theorem dX10_keepsLaw_64 : decode cX10_keepsLaw 64 = .ok (.invokevirtual 328, 3) := by decide +kernel
theorem dX10_keepsLaw_67 : decode cX10_keepsLaw 67 = .ok (.iastore, 1) := by decide +kernel
theorem dX10_keepsLaw_68 : decode cX10_keepsLaw 68 = .ok (.iinc 1 1, 3) := by decide +kernel
theorem dX10_keepsLaw_71 : decode cX10_keepsLaw 71 = .ok (.goto (-57), 3) := by decide +kernel
theorem dX10_keepsLaw_74 : decode cX10_keepsLaw 74 = .ok (.iconst 0, 1) := by decide +kernel
theorem dX10_keepsLaw_75 : decode cX10_keepsLaw 75 = .ok (.istore_n 1, 1) := by decide +kernel
theorem dX10_keepsLaw_76 : decode cX10_keepsLaw 76 = .ok (.iload_n 1, 1) := by decide +kernel
theorem dX10_keepsLaw_77 : decode cX10_keepsLaw 77 = .ok (.sipush 400, 3) := by decide +kernel
theorem dX10_keepsLaw_80 : decode cX10_keepsLaw 80 = .ok (.if_icmp .ge 41, 3) := by decide +kernel
theorem dX10_keepsLaw_83 : decode cX10_keepsLaw 83 = .ok (.aload_n 0, 1) := by decide +kernel
theorem dX10_keepsLaw_84 : decode cX10_keepsLaw 84 = .ok (.getfield 37, 3) := by decide +kernel
theorem dX10_keepsLaw_87 : decode cX10_keepsLaw 87 = .ok (.iload_n 1, 1) := by decide +kernel
theorem dX10_keepsLaw_88 : decode cX10_keepsLaw 88 = .ok (.aload_n 0, 1) := by decide +kernel
theorem dX10_keepsLaw_89 : decode cX10_keepsLaw 89 = .ok (.aload_n 0, 1) := by decide +kernel
theorem dX10_keepsLaw_90 : decode cX10_keepsLaw 90 = .ok (.getfield 37, 3) := by decide +kernel
theorem dX10_keepsLaw_93 : decode cX10_keepsLaw 93 = .ok (.iload_n 1, 1) := by decide +kernel
theorem dX10_keepsLaw_94 : decode cX10_keepsLaw 94 = .ok (.iaload, 1) := by decide +kernel
theorem dX10_keepsLaw_95 : decode cX10_keepsLaw 95 = .ok (.invokevirtual 328, 3) := by decide +kernel
theorem dX10_keepsLaw_98 : decode cX10_keepsLaw 98 = .ok (.iastore, 1) := by decide +kernel
theorem dX10_keepsLaw_99 : decode cX10_keepsLaw 99 = .ok (.aload_n 0, 1) := by decide +kernel
theorem dX10_keepsLaw_100 : decode cX10_keepsLaw 100 = .ok (.getfield 40, 3) := by decide +kernel
theorem dX10_keepsLaw_103 : decode cX10_keepsLaw 103 = .ok (.iload_n 1, 1) := by decide +kernel
theorem dX10_keepsLaw_104 : decode cX10_keepsLaw 104 = .ok (.aload_n 0, 1) := by decide +kernel
theorem dX10_keepsLaw_105 : decode cX10_keepsLaw 105 = .ok (.aload_n 0, 1) := by decide +kernel
theorem dX10_keepsLaw_106 : decode cX10_keepsLaw 106 = .ok (.getfield 40, 3) := by decide +kernel
theorem dX10_keepsLaw_109 : decode cX10_keepsLaw 109 = .ok (.iload_n 1, 1) := by decide +kernel
theorem dX10_keepsLaw_110 : decode cX10_keepsLaw 110 = .ok (.iaload, 1) := by decide +kernel
theorem dX10_keepsLaw_111 : decode cX10_keepsLaw 111 = .ok (.invokevirtual 328, 3) := by decide +kernel
theorem dX10_keepsLaw_114 : decode cX10_keepsLaw 114 = .ok (.iastore, 1) := by decide +kernel
theorem dX10_keepsLaw_115 : decode cX10_keepsLaw 115 = .ok (.iinc 1 1, 3) := by decide +kernel
theorem dX10_keepsLaw_118 : decode cX10_keepsLaw 118 = .ok (.goto (-42), 3) := by decide +kernel
theorem dX10_keepsLaw_121 : decode cX10_keepsLaw 121 = .ok (.return_, 1) := by decide +kernel
theorem dX10_keepsRows_0 : decode cX10_keepsRows 0 = .ok (.iconst 0, 1) := by decide +kernel
theorem dX10_keepsRows_1 : decode cX10_keepsRows 1 = .ok (.istore_n 1, 1) := by decide +kernel
theorem dX10_keepsRows_2 : decode cX10_keepsRows 2 = .ok (.iload_n 1, 1) := by decide +kernel
theorem dX10_keepsRows_3 : decode cX10_keepsRows 3 = .ok (.iconst 4, 1) := by decide +kernel
theorem dX10_keepsRows_4 : decode cX10_keepsRows 4 = .ok (.if_icmp .ge 25, 3) := by decide +kernel
theorem dX10_keepsRows_7 : decode cX10_keepsRows 7 = .ok (.aload_n 0, 1) := by decide +kernel
theorem dX10_keepsRows_8 : decode cX10_keepsRows 8 = .ok (.getfield 60, 3) := by decide +kernel
theorem dX10_keepsRows_11 : decode cX10_keepsRows 11 = .ok (.iload_n 1, 1) := by decide +kernel
theorem dX10_keepsRows_12 : decode cX10_keepsRows 12 = .ok (.aload_n 0, 1) := by decide +kernel
theorem dX10_keepsRows_13 : decode cX10_keepsRows 13 = .ok (.aload_n 0, 1) := by decide +kernel
theorem dX10_keepsRows_14 : decode cX10_keepsRows 14 = .ok (.getfield 60, 3) := by decide +kernel
theorem dX10_keepsRows_17 : decode cX10_keepsRows 17 = .ok (.iload_n 1, 1) := by decide +kernel
theorem dX10_keepsRows_18 : decode cX10_keepsRows 18 = .ok (.iaload, 1) := by decide +kernel
theorem dX10_keepsRows_19 : decode cX10_keepsRows 19 = .ok (.invokevirtual 328, 3) := by decide +kernel
theorem dX10_keepsRows_22 : decode cX10_keepsRows 22 = .ok (.iastore, 1) := by decide +kernel
theorem dX10_keepsRows_23 : decode cX10_keepsRows 23 = .ok (.iinc 1 1, 3) := by decide +kernel
theorem dX10_keepsRows_26 : decode cX10_keepsRows 26 = .ok (.goto (-24), 3) := by decide +kernel
theorem dX10_keepsRows_29 : decode cX10_keepsRows 29 = .ok (.iconst 0, 1) := by decide +kernel
theorem dX10_keepsRows_30 : decode cX10_keepsRows 30 = .ok (.istore_n 1, 1) := by decide +kernel
theorem dX10_keepsRows_31 : decode cX10_keepsRows 31 = .ok (.iload_n 1, 1) := by decide +kernel
theorem dX10_keepsRows_32 : decode cX10_keepsRows 32 = .ok (.bipush 48, 2) := by decide +kernel
theorem dX10_keepsRows_34 : decode cX10_keepsRows 34 = .ok (.if_icmp .ge 25, 3) := by decide +kernel
theorem dX10_keepsRows_37 : decode cX10_keepsRows 37 = .ok (.aload_n 0, 1) := by decide +kernel
theorem dX10_keepsRows_38 : decode cX10_keepsRows 38 = .ok (.getfield 63, 3) := by decide +kernel
theorem dX10_keepsRows_41 : decode cX10_keepsRows 41 = .ok (.iload_n 1, 1) := by decide +kernel
theorem dX10_keepsRows_42 : decode cX10_keepsRows 42 = .ok (.aload_n 0, 1) := by decide +kernel
theorem dX10_keepsRows_43 : decode cX10_keepsRows 43 = .ok (.aload_n 0, 1) := by decide +kernel
theorem dX10_keepsRows_44 : decode cX10_keepsRows 44 = .ok (.getfield 63, 3) := by decide +kernel
theorem dX10_keepsRows_47 : decode cX10_keepsRows 47 = .ok (.iload_n 1, 1) := by decide +kernel
theorem dX10_keepsRows_48 : decode cX10_keepsRows 48 = .ok (.iaload, 1) := by decide +kernel
theorem dX10_keepsRows_49 : decode cX10_keepsRows 49 = .ok (.invokevirtual 328, 3) := by decide +kernel
theorem dX10_keepsRows_52 : decode cX10_keepsRows 52 = .ok (.iastore, 1) := by decide +kernel
theorem dX10_keepsRows_53 : decode cX10_keepsRows 53 = .ok (.iinc 1 1, 3) := by decide +kernel
theorem dX10_keepsRows_56 : decode cX10_keepsRows 56 = .ok (.goto (-25), 3) := by decide +kernel
theorem dX10_keepsRows_59 : decode cX10_keepsRows 59 = .ok (.aload_n 0, 1) := by decide +kernel
theorem dX10_keepsRows_60 : decode cX10_keepsRows 60 = .ok (.aload_n 0, 1) := by decide +kernel
theorem dX10_keepsRows_61 : decode cX10_keepsRows 61 = .ok (.aload_n 0, 1) := by decide +kernel
theorem dX10_keepsRows_62 : decode cX10_keepsRows 62 = .ok (.getfield 269, 3) := by decide +kernel
theorem dX10_keepsRows_65 : decode cX10_keepsRows 65 = .ok (.invokevirtual 328, 3) := by decide +kernel
theorem dX10_keepsRows_68 : decode cX10_keepsRows 68 = .ok (.putfield 269, 3) := by decide +kernel
theorem dX10_keepsRows_71 : decode cX10_keepsRows 71 = .ok (.iconst 0, 1) := by decide +kernel
theorem dX10_keepsRows_72 : decode cX10_keepsRows 72 = .ok (.istore_n 1, 1) := by decide +kernel
theorem dX10_keepsRows_73 : decode cX10_keepsRows 73 = .ok (.iload_n 1, 1) := by decide +kernel
theorem dX10_keepsRows_74 : decode cX10_keepsRows 74 = .ok (.bipush 8, 2) := by decide +kernel
theorem dX10_keepsRows_76 : decode cX10_keepsRows 76 = .ok (.if_icmp .ge 41, 3) := by decide +kernel
theorem dX10_keepsRows_79 : decode cX10_keepsRows 79 = .ok (.aload_n 0, 1) := by decide +kernel
theorem dX10_keepsRows_80 : decode cX10_keepsRows 80 = .ok (.getfield 66, 3) := by decide +kernel
theorem dX10_keepsRows_83 : decode cX10_keepsRows 83 = .ok (.iload_n 1, 1) := by decide +kernel
theorem dX10_keepsRows_84 : decode cX10_keepsRows 84 = .ok (.aload_n 0, 1) := by decide +kernel
theorem dX10_keepsRows_85 : decode cX10_keepsRows 85 = .ok (.aload_n 0, 1) := by decide +kernel
theorem dX10_keepsRows_86 : decode cX10_keepsRows 86 = .ok (.getfield 66, 3) := by decide +kernel
theorem dX10_keepsRows_89 : decode cX10_keepsRows 89 = .ok (.iload_n 1, 1) := by decide +kernel
theorem dX10_keepsRows_90 : decode cX10_keepsRows 90 = .ok (.iaload, 1) := by decide +kernel
theorem dX10_keepsRows_91 : decode cX10_keepsRows 91 = .ok (.invokevirtual 328, 3) := by decide +kernel
theorem dX10_keepsRows_94 : decode cX10_keepsRows 94 = .ok (.iastore, 1) := by decide +kernel
theorem dX10_keepsRows_95 : decode cX10_keepsRows 95 = .ok (.aload_n 0, 1) := by decide +kernel
theorem dX10_keepsRows_96 : decode cX10_keepsRows 96 = .ok (.getfield 69, 3) := by decide +kernel
theorem dX10_keepsRows_99 : decode cX10_keepsRows 99 = .ok (.iload_n 1, 1) := by decide +kernel
theorem dX10_keepsRows_100 : decode cX10_keepsRows 100 = .ok (.aload_n 0, 1) := by decide +kernel
theorem dX10_keepsRows_101 : decode cX10_keepsRows 101 = .ok (.aload_n 0, 1) := by decide +kernel
theorem dX10_keepsRows_102 : decode cX10_keepsRows 102 = .ok (.getfield 69, 3) := by decide +kernel
theorem dX10_keepsRows_105 : decode cX10_keepsRows 105 = .ok (.iload_n 1, 1) := by decide +kernel
theorem dX10_keepsRows_106 : decode cX10_keepsRows 106 = .ok (.iaload, 1) := by decide +kernel
theorem dX10_keepsRows_107 : decode cX10_keepsRows 107 = .ok (.invokevirtual 328, 3) := by decide +kernel
theorem dX10_keepsRows_110 : decode cX10_keepsRows 110 = .ok (.iastore, 1) := by decide +kernel
theorem dX10_keepsRows_111 : decode cX10_keepsRows 111 = .ok (.iinc 1 1, 3) := by decide +kernel
theorem dX10_keepsRows_114 : decode cX10_keepsRows 114 = .ok (.goto (-41), 3) := by decide +kernel
theorem dX10_keepsRows_117 : decode cX10_keepsRows 117 = .ok (.aload_n 0, 1) := by decide +kernel
theorem dX10_keepsRows_118 : decode cX10_keepsRows 118 = .ok (.aload_n 0, 1) := by decide +kernel
theorem dX10_keepsRows_119 : decode cX10_keepsRows 119 = .ok (.aload_n 0, 1) := by decide +kernel
theorem dX10_keepsRows_120 : decode cX10_keepsRows 120 = .ok (.getfield 284, 3) := by decide +kernel
theorem dX10_keepsRows_123 : decode cX10_keepsRows 123 = .ok (.invokevirtual 328, 3) := by decide +kernel
theorem dX10_keepsRows_126 : decode cX10_keepsRows 126 = .ok (.putfield 284, 3) := by decide +kernel
theorem dX10_keepsRows_129 : decode cX10_keepsRows 129 = .ok (.iconst 0, 1) := by decide +kernel
theorem dX10_keepsRows_130 : decode cX10_keepsRows 130 = .ok (.istore_n 1, 1) := by decide +kernel
theorem dX10_keepsRows_131 : decode cX10_keepsRows 131 = .ok (.iload_n 1, 1) := by decide +kernel
theorem dX10_keepsRows_132 : decode cX10_keepsRows 132 = .ok (.bipush 15, 2) := by decide +kernel
theorem dX10_keepsRows_134 : decode cX10_keepsRows 134 = .ok (.if_icmp .ge 25, 3) := by decide +kernel
theorem dX10_keepsRows_137 : decode cX10_keepsRows 137 = .ok (.aload_n 0, 1) := by decide +kernel
theorem dX10_keepsRows_138 : decode cX10_keepsRows 138 = .ok (.getfield 75, 3) := by decide +kernel
theorem dX10_keepsRows_141 : decode cX10_keepsRows 141 = .ok (.iload_n 1, 1) := by decide +kernel
theorem dX10_keepsRows_142 : decode cX10_keepsRows 142 = .ok (.aload_n 0, 1) := by decide +kernel
theorem dX10_keepsRows_143 : decode cX10_keepsRows 143 = .ok (.aload_n 0, 1) := by decide +kernel
theorem dX10_keepsRows_144 : decode cX10_keepsRows 144 = .ok (.getfield 75, 3) := by decide +kernel
theorem dX10_keepsRows_147 : decode cX10_keepsRows 147 = .ok (.iload_n 1, 1) := by decide +kernel
theorem dX10_keepsRows_148 : decode cX10_keepsRows 148 = .ok (.iaload, 1) := by decide +kernel
theorem dX10_keepsRows_149 : decode cX10_keepsRows 149 = .ok (.invokevirtual 328, 3) := by decide +kernel
theorem dX10_keepsRows_152 : decode cX10_keepsRows 152 = .ok (.iastore, 1) := by decide +kernel
theorem dX10_keepsRows_153 : decode cX10_keepsRows 153 = .ok (.iinc 1 1, 3) := by decide +kernel
theorem dX10_keepsRows_156 : decode cX10_keepsRows 156 = .ok (.goto (-25), 3) := by decide +kernel
theorem dX10_keepsRows_159 : decode cX10_keepsRows 159 = .ok (.return_, 1) := by decide +kernel
theorem dX10_image_0 : decode cX10_image 0 = .ok (.aload_n 0, 1) := by decide +kernel
theorem dX10_image_1 : decode cX10_image 1 = .ok (.iconst 0, 1) := by decide +kernel
theorem dX10_image_2 : decode cX10_image 2 = .ok (.putfield 90, 3) := by decide +kernel
theorem dX10_image_5 : decode cX10_image 5 = .ok (.iload_n 1, 1) := by decide +kernel
theorem dX10_image_6 : decode cX10_image 6 = .ok (.ifCond .ne 12, 3) := by decide +kernel
theorem dX10_image_9 : decode cX10_image 9 = .ok (.aload_n 0, 1) := by decide +kernel
theorem dX10_image_10 : decode cX10_image 10 = .ok (.getfield 331, 3) := by decide +kernel
theorem dX10_image_13 : decode cX10_image 13 = .ok (.ifCond .ne 5, 3) := by decide +kernel
theorem dX10_image_16 : decode cX10_image 16 = .ok (.iconst 0, 1) := by decide +kernel
theorem dX10_image_17 : decode cX10_image 17 = .ok (.ireturn, 1) := by decide +kernel
theorem dX10_image_18 : decode cX10_image 18 = .ok (.aload_n 0, 1) := by decide +kernel
theorem dX10_image_19 : decode cX10_image 19 = .ok (.iload_n 1, 1) := by decide +kernel
theorem dX10_image_20 : decode cX10_image 20 = .ok (.putfield 324, 3) := by decide +kernel
theorem dX10_image_23 : decode cX10_image 23 = .ok (.aload_n 0, 1) := by decide +kernel
theorem dX10_image_24 : decode cX10_image 24 = .ok (.iconst 1, 1) := by decide +kernel
theorem dX10_image_25 : decode cX10_image 25 = .ok (.putfield 331, 3) := by decide +kernel
theorem dX10_image_28 : decode cX10_image 28 = .ok (.aload_n 0, 1) := by decide +kernel
theorem dX10_image_29 : decode cX10_image 29 = .ok (.iconst 0, 1) := by decide +kernel
theorem dX10_image_30 : decode cX10_image 30 = .ok (.putfield 321, 3) := by decide +kernel
theorem dX10_image_33 : decode cX10_image 33 = .ok (.iconst 0, 1) := by decide +kernel
theorem dX10_image_34 : decode cX10_image 34 = .ok (.istore_n 2, 1) := by decide +kernel
theorem dX10_image_35 : decode cX10_image 35 = .ok (.iload_n 2, 1) := by decide +kernel
theorem dX10_image_36 : decode cX10_image 36 = .ok (.bipush 13, 2) := by decide +kernel
theorem dX10_image_38 : decode cX10_image 38 = .ok (.if_icmp .ge 25, 3) := by decide +kernel
theorem dX10_image_41 : decode cX10_image 41 = .ok (.aload_n 0, 1) := by decide +kernel
theorem dX10_image_42 : decode cX10_image 42 = .ok (.getfield 7, 3) := by decide +kernel
theorem dX10_image_45 : decode cX10_image 45 = .ok (.iload_n 2, 1) := by decide +kernel
theorem dX10_image_46 : decode cX10_image 46 = .ok (.aload_n 0, 1) := by decide +kernel
theorem dX10_image_47 : decode cX10_image 47 = .ok (.aload_n 0, 1) := by decide +kernel
theorem dX10_image_48 : decode cX10_image 48 = .ok (.getfield 7, 3) := by decide +kernel
theorem dX10_image_51 : decode cX10_image 51 = .ok (.iload_n 2, 1) := by decide +kernel
theorem dX10_image_52 : decode cX10_image 52 = .ok (.iaload, 1) := by decide +kernel
theorem dX10_image_53 : decode cX10_image 53 = .ok (.invokevirtual 328, 3) := by decide +kernel
theorem dX10_image_56 : decode cX10_image 56 = .ok (.iastore, 1) := by decide +kernel
theorem dX10_image_57 : decode cX10_image 57 = .ok (.iinc 2 1, 3) := by decide +kernel
theorem dX10_image_60 : decode cX10_image 60 = .ok (.goto (-25), 3) := by decide +kernel
theorem dX10_image_63 : decode cX10_image 63 = .ok (.aload_n 0, 1) := by decide +kernel
theorem dX10_image_64 : decode cX10_image 64 = .ok (.aload_n 0, 1) := by decide +kernel
theorem dX10_image_65 : decode cX10_image 65 = .ok (.aload_n 0, 1) := by decide +kernel
theorem dX10_image_66 : decode cX10_image 66 = .ok (.getfield 98, 3) := by decide +kernel
theorem dX10_image_69 : decode cX10_image 69 = .ok (.invokevirtual 328, 3) := by decide +kernel
theorem dX10_image_72 : decode cX10_image 72 = .ok (.putfield 98, 3) := by decide +kernel
theorem dX10_image_75 : decode cX10_image 75 = .ok (.aload_n 0, 1) := by decide +kernel
theorem dX10_image_76 : decode cX10_image 76 = .ok (.aload_n 0, 1) := by decide +kernel
theorem dX10_image_77 : decode cX10_image 77 = .ok (.aload_n 0, 1) := by decide +kernel
theorem dX10_image_78 : decode cX10_image 78 = .ok (.getfield 116, 3) := by decide +kernel
theorem dX10_image_81 : decode cX10_image 81 = .ok (.invokevirtual 328, 3) := by decide +kernel
theorem dX10_image_84 : decode cX10_image 84 = .ok (.putfield 116, 3) := by decide +kernel
theorem dX10_image_87 : decode cX10_image 87 = .ok (.iconst 0, 1) := by decide +kernel
theorem dX10_image_88 : decode cX10_image 88 = .ok (.istore_n 2, 1) := by decide +kernel
theorem dX10_image_89 : decode cX10_image 89 = .ok (.iload_n 2, 1) := by decide +kernel
theorem dX10_image_90 : decode cX10_image 90 = .ok (.bipush 10, 2) := by decide +kernel
theorem dX10_image_92 : decode cX10_image 92 = .ok (.if_icmp .ge 25, 3) := by decide +kernel
theorem dX10_image_95 : decode cX10_image 95 = .ok (.aload_n 0, 1) := by decide +kernel
theorem dX10_image_96 : decode cX10_image 96 = .ok (.getfield 16, 3) := by decide +kernel
theorem dX10_image_99 : decode cX10_image 99 = .ok (.iload_n 2, 1) := by decide +kernel
theorem dX10_image_100 : decode cX10_image 100 = .ok (.aload_n 0, 1) := by decide +kernel
theorem dX10_image_101 : decode cX10_image 101 = .ok (.aload_n 0, 1) := by decide +kernel
theorem dX10_image_102 : decode cX10_image 102 = .ok (.getfield 16, 3) := by decide +kernel
theorem dX10_image_105 : decode cX10_image 105 = .ok (.iload_n 2, 1) := by decide +kernel
theorem dX10_image_106 : decode cX10_image 106 = .ok (.iaload, 1) := by decide +kernel
theorem dX10_image_107 : decode cX10_image 107 = .ok (.invokevirtual 328, 3) := by decide +kernel
theorem dX10_image_110 : decode cX10_image 110 = .ok (.iastore, 1) := by decide +kernel
theorem dX10_image_111 : decode cX10_image 111 = .ok (.iinc 2 1, 3) := by decide +kernel
theorem dX10_image_114 : decode cX10_image 114 = .ok (.goto (-25), 3) := by decide +kernel
theorem dX10_image_117 : decode cX10_image 117 = .ok (.aload_n 0, 1) := by decide +kernel
theorem dX10_image_118 : decode cX10_image 118 = .ok (.aload_n 0, 1) := by decide +kernel
theorem dX10_image_119 : decode cX10_image 119 = .ok (.aload_n 0, 1) := by decide +kernel
theorem dX10_image_120 : decode cX10_image 120 = .ok (.getfield 119, 3) := by decide +kernel
theorem dX10_image_123 : decode cX10_image 123 = .ok (.invokevirtual 328, 3) := by decide +kernel
theorem dX10_image_126 : decode cX10_image 126 = .ok (.putfield 119, 3) := by decide +kernel
theorem dX10_image_129 : decode cX10_image 129 = .ok (.iconst 0, 1) := by decide +kernel
theorem dX10_image_130 : decode cX10_image 130 = .ok (.istore_n 2, 1) := by decide +kernel
theorem dX10_image_131 : decode cX10_image 131 = .ok (.iload_n 2, 1) := by decide +kernel
theorem dX10_image_132 : decode cX10_image 132 = .ok (.sipush 500, 3) := by decide +kernel
theorem dX10_image_135 : decode cX10_image 135 = .ok (.if_icmp .ge 25, 3) := by decide +kernel
theorem dX10_image_138 : decode cX10_image 138 = .ok (.aload_n 0, 1) := by decide +kernel
theorem dX10_image_139 : decode cX10_image 139 = .ok (.getfield 19, 3) := by decide +kernel
theorem dX10_image_142 : decode cX10_image 142 = .ok (.iload_n 2, 1) := by decide +kernel
theorem dX10_image_143 : decode cX10_image 143 = .ok (.aload_n 0, 1) := by decide +kernel
theorem dX10_image_144 : decode cX10_image 144 = .ok (.aload_n 0, 1) := by decide +kernel
theorem dX10_image_145 : decode cX10_image 145 = .ok (.getfield 19, 3) := by decide +kernel
theorem dX10_image_148 : decode cX10_image 148 = .ok (.iload_n 2, 1) := by decide +kernel
theorem dX10_image_149 : decode cX10_image 149 = .ok (.iaload, 1) := by decide +kernel
theorem dX10_image_150 : decode cX10_image 150 = .ok (.invokevirtual 328, 3) := by decide +kernel
theorem dX10_image_153 : decode cX10_image 153 = .ok (.iastore, 1) := by decide +kernel
theorem dX10_image_154 : decode cX10_image 154 = .ok (.iinc 2 1, 3) := by decide +kernel
theorem dX10_image_157 : decode cX10_image 157 = .ok (.goto (-26), 3) := by decide +kernel
theorem dX10_image_160 : decode cX10_image 160 = .ok (.aload_n 0, 1) := by decide +kernel
theorem dX10_image_161 : decode cX10_image 161 = .ok (.invokevirtual 334, 3) := by decide +kernel
theorem dX10_image_164 : decode cX10_image 164 = .ok (.aload_n 0, 1) := by decide +kernel
theorem dX10_image_165 : decode cX10_image 165 = .ok (.invokevirtual 337, 3) := by decide +kernel
theorem dX10_image_168 : decode cX10_image 168 = .ok (.iload_n 1, 1) := by decide +kernel
theorem dX10_image_169 : decode cX10_image 169 = .ok (.ifCond .ne 8, 3) := by decide +kernel
theorem dX10_image_172 : decode cX10_image 172 = .ok (.aload_n 0, 1) := by decide +kernel
theorem dX10_image_173 : decode cX10_image 173 = .ok (.iconst 0, 1) := by decide +kernel
theorem dX10_image_174 : decode cX10_image 174 = .ok (.putfield 93, 3) := by decide +kernel
theorem dX10_image_177 : decode cX10_image 177 = .ok (.iconst 1, 1) := by decide +kernel
theorem dX10_image_178 : decode cX10_image 178 = .ok (.ireturn, 1) := by decide +kernel
theorem dX10_look_0 : decode cX10_look 0 = .ok (.aload_n 0, 1) := by decide +kernel
theorem dX10_look_1 : decode cX10_look 1 = .ok (.iconst 0, 1) := by decide +kernel
theorem dX10_look_2 : decode cX10_look 2 = .ok (.putfield 90, 3) := by decide +kernel
theorem dX10_look_5 : decode cX10_look 5 = .ok (.iload_n 1, 1) := by decide +kernel
theorem dX10_look_6 : decode cX10_look 6 = .ok (.ifCond .ne 8, 3) := by decide +kernel
theorem dX10_look_9 : decode cX10_look 9 = .ok (.aload_n 0, 1) := by decide +kernel
theorem dX10_look_10 : decode cX10_look 10 = .ok (.getfield 98, 3) := by decide +kernel
theorem dX10_look_13 : decode cX10_look 13 = .ok (.ireturn, 1) := by decide +kernel
theorem dX10_look_14 : decode cX10_look 14 = .ok (.iload_n 1, 1) := by decide +kernel
theorem dX10_look_15 : decode cX10_look 15 = .ok (.iconst 1, 1) := by decide +kernel
theorem dX10_look_16 : decode cX10_look 16 = .ok (.if_icmp .ne 11, 3) := by decide +kernel
theorem dX10_look_19 : decode cX10_look 19 = .ok (.aload_n 0, 1) := by decide +kernel
theorem dX10_look_20 : decode cX10_look 20 = .ok (.getfield 7, 3) := by decide +kernel
theorem dX10_look_23 : decode cX10_look 23 = .ok (.bipush 11, 2) := by decide +kernel
theorem dX10_look_25 : decode cX10_look 25 = .ok (.iaload, 1) := by decide +kernel
theorem dX10_look_26 : decode cX10_look 26 = .ok (.ireturn, 1) := by decide +kernel
theorem dX10_look_27 : decode cX10_look 27 = .ok (.iload_n 1, 1) := by decide +kernel
theorem dX10_look_28 : decode cX10_look 28 = .ok (.iconst 2, 1) := by decide +kernel
theorem dX10_look_29 : decode cX10_look 29 = .ok (.if_icmp .ne 11, 3) := by decide +kernel
theorem dX10_look_32 : decode cX10_look 32 = .ok (.aload_n 0, 1) := by decide +kernel
theorem dX10_look_33 : decode cX10_look 33 = .ok (.getfield 7, 3) := by decide +kernel
theorem dX10_look_36 : decode cX10_look 36 = .ok (.bipush 10, 2) := by decide +kernel
theorem dX10_look_38 : decode cX10_look 38 = .ok (.iaload, 1) := by decide +kernel
theorem dX10_look_39 : decode cX10_look 39 = .ok (.ireturn, 1) := by decide +kernel
theorem dX10_look_40 : decode cX10_look 40 = .ok (.iload_n 1, 1) := by decide +kernel
theorem dX10_look_41 : decode cX10_look 41 = .ok (.iconst 3, 1) := by decide +kernel
theorem dX10_look_42 : decode cX10_look 42 = .ok (.if_icmp .ne 8, 3) := by decide +kernel
theorem dX10_look_45 : decode cX10_look 45 = .ok (.aload_n 0, 1) := by decide +kernel
theorem dX10_look_46 : decode cX10_look 46 = .ok (.getfield 119, 3) := by decide +kernel
theorem dX10_look_49 : decode cX10_look 49 = .ok (.ireturn, 1) := by decide +kernel
theorem dX10_look_50 : decode cX10_look 50 = .ok (.iload_n 1, 1) := by decide +kernel
theorem dX10_look_51 : decode cX10_look 51 = .ok (.iconst 4, 1) := by decide +kernel
theorem dX10_look_52 : decode cX10_look 52 = .ok (.if_icmp .ne 11, 3) := by decide +kernel
theorem dX10_look_55 : decode cX10_look 55 = .ok (.aload_n 0, 1) := by decide +kernel
theorem dX10_look_56 : decode cX10_look 56 = .ok (.getfield 7, 3) := by decide +kernel
theorem dX10_look_59 : decode cX10_look 59 = .ok (.bipush 12, 2) := by decide +kernel
theorem dX10_look_61 : decode cX10_look 61 = .ok (.iaload, 1) := by decide +kernel
theorem dX10_look_62 : decode cX10_look 62 = .ok (.ireturn, 1) := by decide +kernel
theorem dX10_look_63 : decode cX10_look 63 = .ok (.iload_n 1, 1) := by decide +kernel
theorem dX10_look_64 : decode cX10_look 64 = .ok (.iconst 5, 1) := by decide +kernel
theorem dX10_look_65 : decode cX10_look 65 = .ok (.if_icmp .ne 8, 3) := by decide +kernel
theorem dX10_look_68 : decode cX10_look 68 = .ok (.aload_n 0, 1) := by decide +kernel
theorem dX10_look_69 : decode cX10_look 69 = .ok (.getfield 216, 3) := by decide +kernel
theorem dX10_look_72 : decode cX10_look 72 = .ok (.ireturn, 1) := by decide +kernel
theorem dX10_look_73 : decode cX10_look 73 = .ok (.iload_n 1, 1) := by decide +kernel
theorem dX10_look_74 : decode cX10_look 74 = .ok (.bipush 6, 2) := by decide +kernel
theorem dX10_look_76 : decode cX10_look 76 = .ok (.if_icmp .ne 8, 3) := by decide +kernel
theorem dX10_look_79 : decode cX10_look 79 = .ok (.aload_n 0, 1) := by decide +kernel
theorem dX10_look_80 : decode cX10_look 80 = .ok (.getfield 93, 3) := by decide +kernel
theorem dX10_look_83 : decode cX10_look 83 = .ok (.ireturn, 1) := by decide +kernel
theorem dX10_look_84 : decode cX10_look 84 = .ok (.iload_n 1, 1) := by decide +kernel
theorem dX10_look_85 : decode cX10_look 85 = .ok (.bipush 7, 2) := by decide +kernel
theorem dX10_look_87 : decode cX10_look 87 = .ok (.if_icmp .ne 8, 3) := by decide +kernel
theorem dX10_look_90 : decode cX10_look 90 = .ok (.aload_n 0, 1) := by decide +kernel
theorem dX10_look_91 : decode cX10_look 91 = .ok (.getfield 269, 3) := by decide +kernel
theorem dX10_look_94 : decode cX10_look 94 = .ok (.ireturn, 1) := by decide +kernel
theorem dX10_look_95 : decode cX10_look 95 = .ok (.iload_n 1, 1) := by decide +kernel
theorem dX10_look_96 : decode cX10_look 96 = .ok (.bipush 8, 2) := by decide +kernel
theorem dX10_look_98 : decode cX10_look 98 = .ok (.if_icmp .ne 8, 3) := by decide +kernel
theorem dX10_look_101 : decode cX10_look 101 = .ok (.aload_n 0, 1) := by decide +kernel
theorem dX10_look_102 : decode cX10_look 102 = .ok (.getfield 284, 3) := by decide +kernel
theorem dX10_look_105 : decode cX10_look 105 = .ok (.ireturn, 1) := by decide +kernel
theorem dX10_look_106 : decode cX10_look 106 = .ok (.aload_n 0, 1) := by decide +kernel
theorem dX10_look_107 : decode cX10_look 107 = .ok (.iload_n 1, 1) := by decide +kernel
theorem dX10_look_108 : decode cX10_look 108 = .ok (.bipush 10, 2) := by decide +kernel
theorem dX10_look_110 : decode cX10_look 110 = .ok (.bipush 13, 2) := by decide +kernel
theorem dX10_look_112 : decode cX10_look 112 = .ok (.invokevirtual 101, 3) := by decide +kernel
theorem dX10_look_115 : decode cX10_look 115 = .ok (.ifCond .eq 15, 3) := by decide +kernel
theorem dX10_look_118 : decode cX10_look 118 = .ok (.aload_n 0, 1) := by decide +kernel
theorem dX10_look_119 : decode cX10_look 119 = .ok (.getfield 60, 3) := by decide +kernel
theorem dX10_look_122 : decode cX10_look 122 = .ok (.iload_n 1, 1) := by decide +kernel
theorem dX10_look_123 : decode cX10_look 123 = .ok (.bipush 10, 2) := by decide +kernel
theorem dX10_look_125 : decode cX10_look 125 = .ok (.isub, 1) := by decide +kernel
theorem dX10_look_126 : decode cX10_look 126 = .ok (.iaload, 1) := by decide +kernel
theorem dX10_look_127 : decode cX10_look 127 = .ok (.goto 4, 3) := by decide +kernel
theorem dX10_look_130 : decode cX10_look 130 = .ok (.iconst (-1), 1) := by decide +kernel
theorem dX10_look_131 : decode cX10_look 131 = .ok (.ireturn, 1) := by decide +kernel
theorem zz_end : True := trivial
end
section
/-! THE PURE LAYER: after the constructors no cell comes or goes, and no reference changes: the world is a fixed layout of cells, and all that changes are ints by cell and place. PW_ says: from this place of the method the machine comes to a return with Q; it hides heap, frames and tables. -/
abbrev GS : Type := Nat → Nat → Int32
def gf_ (G : GS) (k : Nat) (f : Nat → Int32) : GS := fun a => if a = k then f else G a
def gu_ (G : GS) (k j : Nat) (v : Int32) : GS := gf_ G k (upd (G k) j v)
/-- a cell's shape: an object (its class's number; of each field the cell that it refers to, or none: an int), or an array (its kind: 0 int, 1 byte, 2 boolean; its length) -/
abbrev ShT : Type := (Nat × List (Option Nat)) ⊕ (Nat × Nat)
def Lay : List ShT := [.inl (9, [some 1, some 14, none, some 27, some 32, none, some 33, none, none, some 38, some 40, some 43, some 47]),
  .inl (8, [none, none, some 2, some 3, none, none, none, some 4, some 5, none, some 6, some 7, none, some 8, some 9, some 12]),
  .inr (0, 10),
  .inr (0, 10),
  .inr (0, 48),
  .inr (0, 4),
  .inr (0, 8),
  .inr (0, 8),
  .inr (0, 15),
  .inl (4, [none, none, some 10, none, some 11]),
  .inr (0, 16),
  .inr (0, 400),
  .inl (0, [none, some 13]),
  .inr (0, 500),
  .inl (8, [none, none, some 15, some 16, none, none, none, some 17, some 18, none, some 19, some 20, none, some 21, some 22, some 25]),
  .inr (0, 10),
  .inr (0, 10),
  .inr (0, 48),
  .inr (0, 4),
  .inr (0, 8),
  .inr (0, 8),
  .inr (0, 15),
  .inl (4, [none, none, some 23, none, some 24]),
  .inr (0, 16),
  .inr (0, 400),
  .inl (0, [none, some 26]),
  .inr (0, 500),
  .inl (5, [none, none, some 28, some 29, some 30, some 31]),
  .inr (0, 80),
  .inr (0, 8),
  .inr (0, 8),
  .inr (0, 8),
  .inr (1, 400),
  .inl (6, [some 34, none, none, some 32, none, none, none, none, none, none, none, none, some 37, none, none]),
  .inl (4, [none, none, some 35, none, some 36]),
  .inr (0, 16),
  .inr (0, 400),
  .inr (0, 32),
  .inl (2, [some 1, some 39, none, none, none, none, none, none, none]),
  .inr (0, 32),
  .inl (7, [some 41, some 42]),
  .inr (0, 8),
  .inr (0, 8),
  .inl (3, [some 44, some 45, some 46, none]),
  .inr (0, 6),
  .inr (0, 6),
  .inr (0, 25),
  .inl (1, [some 48]),
  .inr (0, 5),
  .inl (10, [none, some 50, some 51, none, none, none, some 52, none, some 53, some 54, none, none, none, none, none, some 55, none, some 56, some 57, some 58, some 59, some 60, none, none, some 61, none, none, none, none, none, some 62, some 63, some 64, some 65, some 66, none, some 67, some 68, some 69, none, some 70, some 71, some 72, some 73, none, none, none, some 74]),
  .inr (0, 13),
  .inr (0, 104),
  .inr (0, 10),
  .inr (0, 500),
  .inr (0, 400),
  .inr (0, 71),
  .inr (0, 32),
  .inr (0, 32),
  .inr (0, 32),
  .inr (0, 800),
  .inr (0, 800),
  .inr (0, 40),
  .inr (0, 9),
  .inr (0, 420),
  .inr (2, 61),
  .inr (0, 4),
  .inr (0, 48),
  .inr (0, 8),
  .inr (0, 8),
  .inr (0, 8),
  .inr (0, 15),
  .inr (0, 6),
  .inr (0, 61),
  .inr (0, 6),
  .inr (0, 1600)]
/-! 0 HD; 1 world; 2 world.hums; 3 world.louds; 4 world.tones; 5 world.tuneLengths; 6 world.pairOnes; 7 world.pairOthers; 8 world.told; 9 world.law; 10 world.law.lineEnds; 11 world.law.steps; 12 world.book; 13 world.book.cells; 14 kept; 15 kept.hums; 16 kept.louds; 17 kept.tones; 18 kept.tuneLengths; 19 kept.pairOnes; 20 kept.pairOthers; 21 kept.told; 22 kept.law; 23 kept.law.lineEnds; 24 kept.law.steps; 25 kept.book; 26 kept.book.cells; 27 past; 28 past.hums; 29 past.draws; 30 past.hours; 31 past.bookLines; 32 tape; 33 reader; 34 draft; 35 draft.lineEnds; 36 draft.steps; 37 waiting; 38 ear; 39 ear.stack; 40 turns; 41 given; 42 clashes; 43 fitting; 44 first; 45 frow; 46 left; 47 cover; 48 crow; 49 M; 50 M.now; 51 M.rows; 52 M.loudOf; 53 M.book; 54 M.tape; 55 M.words; 56 M.lineWord; 57 M.lineFrom; 58 M.lineTo; 59 M.op; 60 M.arg; 61 M.pending; 62 M.asked; 63 M.stack; 64 M.isWordHeard; 65 M.tuneLong; 66 M.tuneOf; 67 M.pairA; 68 M.pairB; 69 M.turnAt; 70 M.wordTold; 71 M.row; 72 M.howOften; 73 M.firstFit; 74 M.images -/
/-- launch, classes, addresses of the cells, array classes, string constants (address, bytes), the static array, the JDK's formatter, the script (address, length, ints) -/
abbrev EV : Type := Launch × va_G × (Nat → Nat) × (Nat → ClassId) × (Nat → Nat) × (Nat → Nat) × Nat × Option Nat × Nat × Nat × (Nat → Int32)
abbrev ev_l (E : EV) : Launch := E.1
abbrev ev_D (E : EV) : va_G := E.2.1
abbrev ev_ad (E : EV) : Nat → Nat := E.2.2.1
abbrev ev_cA (E : EV) : Nat → ClassId := E.2.2.2.1
abbrev ev_aK (E : EV) : Nat → Nat := E.2.2.2.2.1
abbrev ev_aV (E : EV) : Nat → Nat := E.2.2.2.2.2.1
abbrev ev_ru (E : EV) : Nat := E.2.2.2.2.2.2.1
abbrev ev_fm (E : EV) : Option Nat := E.2.2.2.2.2.2.2.1
abbrev ev_b (E : EV) : Nat := E.2.2.2.2.2.2.2.2.1
abbrev ev_L (E : EV) : Nat := E.2.2.2.2.2.2.2.2.2.1
abbrev ev_xs (E : EV) : Nat → Int32 := E.2.2.2.2.2.2.2.2.2.2
def fv_ (E : EV) (G : GS) (k j : Nat) : Option Nat → Value
  | some q => .ref (ev_ad E q)
  | none => .int (G k j)
def ce_ (E : EV) (G : GS) (k : Nat) : ShT → va_E
  | .inl o => .inr (o.1, o.2.mapIdx (fun j f => fv_ E G k j f))
  | .inr a => .inl (ev_cA E a.1, (a.2, .inl (G k)))
def wo_ (E : EV) (G : GS) : va_W := Lay.mapIdx (fun k s => (ev_ad E k, ce_ E G k s))
def ty_ (E : EV) : List (ClassId × FieldType) := [(ev_cA E 0, .int), (ev_cA E 1, .byte), (ev_cA E 2, .boolean)]
theorem wo_at {E : EV} {G : GS} {k : Nat} {sh : ShT} (h : Lay[k]? = some sh) : (wo_ E G)[k]? = some (ev_ad E k, ce_ E G k sh) := by
  simp only [wo_, List.getElem?_mapIdx, h, Option.map_some]
theorem wo_len {E : EV} {G : GS} : (wo_ E G).length = Lay.length := by simp only [wo_, List.length_mapIdx]
theorem wo_get {E : EV} {G : GS} {k : Nat} {q : Nat × va_E} (h : (wo_ E G)[k]? = some q) : k < Lay.length ∧ q.1 = ev_ad E k := by
  have hk : k < (wo_ E G).length := (List.getElem?_eq_some_iff.mp h).1
  rw [wo_len] at hk
  refine ⟨hk, ?_⟩
  rw [wo_at (List.getElem?_eq_getElem hk)] at h
  cases h
  rfl
theorem wo_D {E : EV} {G : GS} {A : Nat → Prop} (hi : ∀ i j, i < Lay.length → j < Lay.length → ev_ad E i = ev_ad E j → i = j) (hA : ∀ k, k < Lay.length → A (ev_ad E k)) : va_D A (wo_ E G) := by
  refine ⟨fun i j p q h1 h2 e => ?_, fun k q h => ?_⟩
  · obtain ⟨l1, e1⟩ := wo_get h1
    obtain ⟨l2, e2⟩ := wo_get h2
    exact hi i j l1 l2 (by rw [← e1, ← e2]; exact e)
  · obtain ⟨l1, e1⟩ := wo_get h
    rw [e1]; exact hA k l1
theorem gf_same (G : GS) (k : Nat) (f : Nat → Int32) : gf_ G k f k = f := if_pos rfl
theorem gf_ne (G : GS) {k a : Nat} (f : Nat → Int32) (h : a ≠ k) : gf_ G k f a = G a := if_neg h
theorem ce_ne {E : EV} {G : GS} {k a : Nat} {f : Nat → Int32} {sh : ShT} (h : a ≠ k) : ce_ E (gf_ G k f) a sh = ce_ E G a sh := by
  have e : gf_ G k f a = G a := gf_ne G f h
  cases sh with
  | inl o =>
    have hf : ∀ j g, fv_ E (gf_ G k f) a j g = fv_ E G a j g := by
      intro j g
      cases g with
      | some q => rfl
      | none => simp only [fv_, e]
    simp only [ce_, hf]
  | inr o => simp only [ce_, e]
theorem wo_setA {E : EV} {G : GS} {k t n : Nat} (f : Nat → Int32) (h : Lay[k]? = some (.inr (t, n))) : (wo_ E G).set k (ev_ad E k, .inl (ev_cA E t, (n, .inl f))) = wo_ E (gf_ G k f) := by
  have hk : k < (wo_ E G).length := by rw [wo_len]; exact (List.getElem?_eq_some_iff.mp h).1
  refine List.ext_getElem? fun i => ?_
  by_cases hi : i = k
  · subst hi
    rw [List.getElem?_set_self hk, wo_at h]
    simp only [ce_, gf_same]
  · rw [List.getElem?_set_ne (Ne.symm hi)]
    cases hL : Lay[i]? with
    | none =>
      have : Lay.length ≤ i := List.getElem?_eq_none_iff.mp hL
      rw [List.getElem?_eq_none_iff.mpr (by rw [wo_len]; exact this), List.getElem?_eq_none_iff.mpr (by rw [wo_len]; exact this)]
    | some sh => rw [wo_at hL, wo_at hL, ce_ne hi]
theorem wo_setF {E : EV} {G : GS} {k ci j : Nat} {fs : List (Option Nat)} (v : Int32) (h : Lay[k]? = some (.inl (ci, fs))) (hj : fs[j]? = some none) : (wo_ E G).set k (ev_ad E k, .inr (ci, (fs.mapIdx (fun j f => fv_ E G k j f)).set j (.int v))) = wo_ E (gu_ G k j v) := by
  have hk : k < (wo_ E G).length := by rw [wo_len]; exact (List.getElem?_eq_some_iff.mp h).1
  have hjl : j < fs.length := (List.getElem?_eq_some_iff.mp hj).1
  refine List.ext_getElem? fun i => ?_
  by_cases hi : i = k
  · subst hi
    rw [List.getElem?_set_self hk, wo_at h]
    have e : (fs.mapIdx (fun j f => fv_ E G i j f)).set j (.int v) = fs.mapIdx (fun z f => fv_ E (gu_ G i j v) i z f) := by
      refine List.ext_getElem? fun q => ?_
      by_cases hq : q = j
      · subst hq
        rw [List.getElem?_set_self (by rw [List.length_mapIdx]; exact hjl), List.getElem?_mapIdx, hj]
        simp only [Option.map_some, fv_, gu_, gf_same, upd, if_true]
      · rw [List.getElem?_set_ne (Ne.symm hq), List.getElem?_mapIdx, List.getElem?_mapIdx]
        cases fs[q]? with
        | none => rfl
        | some g =>
          cases g with
          | some z => rfl
          | none => simp only [Option.map_some, fv_, gu_, gf_same, upd, if_neg hq]
    rw [e]
    rfl
  · rw [List.getElem?_set_ne (Ne.symm hi)]
    cases hL : Lay[i]? with
    | none =>
      have : Lay.length ≤ i := List.getElem?_eq_none_iff.mp hL
      rw [List.getElem?_eq_none_iff.mpr (by rw [wo_len]; exact this), List.getElem?_eq_none_iff.mpr (by rw [wo_len]; exact this)]
    | some sh => rw [wo_at hL, wo_at hL]; simp only [gu_, ce_ne hi]
/-! ===== the tables' words, one list for every method ===== -/
def TB : List Cond := lw_tbl.filter goodWord
/-- a method: its name, code, locals, answer -/
abbrev MI : Type := MethodName × ByteArray × Nat × Option FieldType
def mw_ (M : MI) : List Cond := .code M.1 M.2.1 M.2.2.1 M.2.2.2 :: TB
theorem tb_in {w : Cond} (h : w ∈ lw_tbl) (g : goodWord w = true) : w ∈ TB := List.mem_filter.mpr ⟨h, g⟩
theorem tb_t {w : Cond} (h : w ∈ tables_1) (g : goodWord w = true) : w ∈ TB := tb_in (List.mem_append_right _ h) g
theorem tb_s {w : Cond} (h : w ∈ k2_sels lw_privs) (g : goodWord w = true) : w ∈ TB := tb_in (List.mem_append_left _ h) g
theorem tb_good {M M2 : MI} (h : Cond.code M2.1 M2.2.1 M2.2.2.1 M2.2.2.2 ∈ TB) : GoodIn (mw_ M) (mw_ M2) := by
  intro w hw
  have hT : w ∈ TB := by
    rcases List.mem_cons.mp hw with e | e
    · rw [e]; exact h
    · exact e
  exact ⟨List.mem_cons_of_mem _ hT, good_of_word (List.mem_filter.mp hT).2⟩
/-! ===== what old cells hold: links of nest mates, string constants, statics ===== -/
def nk_ : Nat := 17
def kx_ : List Nat := [169, 171, 173, 175, 177, 179, 181, 183, 185, 187, 189, 191, 193, 195, 197, 199, 164]
def ks_ : List String := ["hear", "miss", "when", "or", "and", "not", "low", "high", "apart", "hum", "near", "loud", "crowd", "hour", "who", "", ";+-*/()<=>"]
def kl_ : List Nat := [4, 4, 4, 2, 3, 3, 3, 4, 5, 3, 4, 4, 5, 4, 3, 0, 10]
def kb_ : List (List Int32) := [[104, 101, 97, 114], [109, 105, 115, 115], [119, 104, 101, 110], [111, 114], [97, 110, 100], [110, 111, 116], [108, 111, 119], [104, 105, 103, 104], [97, 112, 97, 114, 116], [104, 117, 109], [110, 101, 97, 114], [108, 111, 117, 100], [99, 114, 111, 119, 100], [104, 111, 117, 114], [119, 104, 111], [], [59, 43, 45, 42, 47, 40, 41, 60, 61, 62]]
def ru_ : List Int32 := [0, 0, 1, 0, 1, 3, 0, 1, 4, 6, 0, 1, 4, 9, 11, 0, 1, 4, 10, 12, 17]
def ush_ (x y : Int32) : Int32 := (x.toUInt32 >>> (y.toUInt32 &&& Int32.toUInt32 31)).toInt32
def lush_ (x : Int64) (y : Int32) : Int64 := (x.toUInt64 >>> (y.toInt64.toUInt64 &&& Int64.toUInt64 63)).toInt64
/-- a copy's bounds -/
def cp_ (sp dp n : Int32) (n0 n1 : Nat) : Prop := ¬ sp < 0 ∧ ¬ dp < 0 ∧ ¬ n < 0 ∧ sp.toNatClampNeg + n.toNatClampNeg ≤ n0 ∧ dp.toNatClampNeg + n.toNatClampNeg ≤ n1
/-- what the tables say of a method: an instance's, a static one -/
def CM_ (M : MI) (n : Nat) : Prop := Cond.code M.1 M.2.1 M.2.2.1 M.2.2.2 ∈ TB ∧ Cond.initialized M.1.cls ∈ TB ∧ Cond.instanceMethod M.1 ∈ TB ∧ Cond.selects M.1.cls M.1 M.1 ∈ TB ∧ M.1.cls ≠ "java/lang/invoke/MethodHandle" ∧ M.1.cls ≠ "java/lang/invoke/VarHandle" ∧ (parseMethodDescriptor M.1.desc).map (fun d => d.parameters.length) = some n ∧ M.2.2.1 ≤ 21
def CS_ (M : MI) (n : Nat) : Prop := Cond.code M.1 M.2.1 M.2.2.1 M.2.2.2 ∈ TB ∧ Cond.initialized M.1.cls ∈ TB ∧ Cond.static M.1 ∈ TB ∧ M.1.cls ≠ "java/lang/invoke/MethodHandle" ∧ M.1.cls ≠ "java/lang/invoke/VarHandle" ∧ (parseMethodDescriptor M.1.desc).map (fun d => d.parameters.length) = some n ∧ M.2.2.1 ≤ 21
def EX_ (E : EV) (A : Nat → Prop) (U : State) : Prop :=
  (∀ a i b n d h, Cond.fieldLinkNest a i b n d h ∈ tables_1 → va_Nw (.fieldLinkNest a i b n d h) U) ∧
  (∀ a i x h, Cond.methodLinkNest a i x h ∈ tables_1 → va_Nw (.methodLinkNest a i x h) U) ∧
  (∀ i, i < nk_ → vk_R "HearDifference$Reader" (kx_.getD i 0) (ks_.getD i "") (ev_aK E i) U) ∧
  vk_S nk_ kl_ kb_ (ev_aK E) (ev_aV E) A U U.heap ∧
  va_Z "java/lang/String" "COMPACT_STRINGS" "Z" (.int 1) A U U.heap ∧
  va_Z "HearDifference" "RULERS" "[I" (.ref (ev_ru E)) A U U.heap ∧
  va_T .int (ev_ru E) 21 (fun j => .int (ru_.getD j 0)) A U U.heap ∧
  va_Z "jdk/internal/util/Preconditions" "SIOOBE_FORMATTER" "Ljava/util/function/BiFunction;" (va_rf (ev_fm E)) A U U.heap ∧
  va_X (ev_b E) (ev_L E) (ev_xs E) U U.heap ∧ ¬ A (ev_b E) ∧ ev_b E < U.heap.size
theorem EX_.moved {E : EV} {A B : Nat → Prop} {s U : State} (h : EX_ E A s) (hW : s.WarmedH U.vm) (hk : ∀ a : Nat, a < s.heap.size → ¬ A a → U.heap[a]? = s.heap[a]?) (hAB : ∀ q, B q → A q) : EX_ E B U := by
  obtain ⟨h1, h2, h3, h4, h5, h6, h7, h8, h9, h10, h11⟩ := h
  have al := hW.alike
  exact ⟨fun a i b n d h hm => va_Nw.warmF hW (h1 a i b n d h hm), fun a i x h hm => va_Nw.warmM hW (h2 a i x h hm), fun i hi => vk_R.warm hW (h3 i hi),
    ((h4.moved al).kept hk).narrow hAB, ((h5.moved al).kept hk).narrow hAB, ((h6.moved al).kept hk).narrow hAB, ((h7.moved al).kept hk).narrow hAB, ((h8.moved al).kept hk).narrow hAB, (h9.moved al).kept (hk _ h11 h10), fun z => h10 (hAB _ z), by
      obtain ⟨scr, q, -⟩ := (h9.moved al).kept (H1 := U.heap) (hk _ h11 h10)
      exact (Array.getElem?_eq_some_iff.mp q).1⟩
/-! ===== a place in a method ===== -/
def EI_ (E : EV) : Prop := ∀ i j, i < Lay.length → j < Lay.length → ev_ad E i = ev_ad E j → i = j
def Cx_ (E : EV) (M : MI) (p : Program) (s : State) (m : MethodId) (args : Array Value) (c : Code) (A : Nat → Prop) : Prop :=
  p.tables.exec = Jvm.exec ∧ c.code = M.2.1 ∧ c.maxLocals = M.2.2.1 ∧ s.vm.findClass M.1.cls = some m.cls ∧ (∀ w ∈ mw_ M, w.before args s = true) ∧ va_K (ev_D E) vwCl (ty_ E) s ∧ (∀ k, k < Lay.length → A (ev_ad E k)) ∧ EI_ E ∧ EX_ E A s
theorem Cx_.D {E : EV} {M : MI} {p : Program} {s : State} {m : MethodId} {args : Array Value} {c : Code} {A : Nat → Prop} (C : Cx_ E M p s m args c A) (G : GS) : va_D A (wo_ E G) := wo_D C.2.2.2.2.2.2.2.1 C.2.2.2.2.2.2.1
theorem Cx_.w {E : EV} {M : MI} {p : Program} {s : State} {m : MethodId} {args : Array Value} {c : Code} {A : Nat → Prop} (C : Cx_ E M p s m args c A) {w : Cond} (h : w ∈ TB) : w.before args s = true := C.2.2.2.2.1 w (List.mem_cons_of_mem _ h)
theorem Cx_.ts {E : EV} {M : MI} {p : Program} {s : State} {m : MethodId} {args : Array Value} {c : Code} {A : Nat → Prop} (C : Cx_ E M p s m args c A) : ∀ w ∈ TB, w.before args s = true := fun _ h => C.w h
theorem Cx_.own {E : EV} {M : MI} {p : Program} {s : State} {m : MethodId} {args : Array Value} {c : Code} {A : Nat → Prop} (C : Cx_ E M p s m args c A) : s.vm.findClass M.1.cls = some m.cls := C.2.2.2.1
theorem Cx_.K {E : EV} {M : MI} {p : Program} {s : State} {m : MethodId} {args : Array Value} {c : Code} {A : Nat → Prop} (C : Cx_ E M p s m args c A) : va_K (ev_D E) vwCl (ty_ E) s := C.2.2.2.2.2.1
theorem Cx_.X {E : EV} {M : MI} {p : Program} {s : State} {m : MethodId} {args : Array Value} {c : Code} {A : Nat → Prop} (C : Cx_ E M p s m args c A) : EX_ E A s := C.2.2.2.2.2.2.2.2
def RT_ (M : MI) (pc : Nat) (r : Option Value) (st : List Value) : Prop :=
  (∃ (v : Int32) (ty : FieldType), M.2.2.2 = some ty ∧ narrow ty (.int v) = .int v ∧ decode M.2.1 pc = .ok (.ireturn, 1) ∧ r = some (.int v) ∧ st = [.int v]) ∨
  (M.2.2.2 = none ∧ decode M.2.1 pc = .ok (.return_, 1) ∧ r = none ∧ st = []) ∨
  (∃ (a : Nat) (n : String), M.2.2.2 = some (.object n) ∧ decode M.2.1 pc = .ok (.areturn, 1) ∧ r = some (.ref a) ∧ st = [.ref a])
def PW_ (E : EV) (M : MI) (R : Room) (cells slots pc : Nat) (lv : List (Nat × Value)) (st : List Value) (G : GS) (Q : Option Value → GS → Prop) : Prop :=
  ∀ (p : Program) (e : Env) (s : State) (m : MethodId) (args : Array Value) (below : List Frame) (meth : Method) (c : Code) (A : Nat → Prop) (Qz : State → Prop), Cx_ E M p s m args c A →
    (∀ (r : Option Value) (G' : GS) (H : Heap) (locs : List Loc) (pc' : Nat) (ls : Array Slot) (st' : List Value), Q r G' → RT_ M pc' r st' → va_P (ev_D E) vwCl (wo_ E G') H → va_S A s.heap H locs → W p (ev_l E) e R s m args below meth c H locs cells slots Qz (F0 m pc' ls st')) →
    ∀ (H : Heap) (locs : List Loc) (ls : Array Slot), va_P (ev_D E) vwCl (wo_ E G) H → va_S A s.heap H locs → lv_has ls M.2.2.1 lv → W p (ev_l E) e R s m args below meth c H locs cells slots Qz (F0 m pc ls st)
def A0_ (E : EV) : Nat → Prop := fun q => ∃ k, k < Lay.length ∧ q = ev_ad E k
def rm_ (d : Nat) : Room := { frames := d, cells := 0, slots := 0, locals := 40 * d }
/-- what a method needs at its start, and leaves at its end -/
def pc_ (E : EV) (args : List Value) (G : GS) : Array Value → State → Prop := va_Pc args (fun U => va_P (ev_D E) vwCl (wo_ E G) U.heap ∧ va_K (ev_D E) vwCl (ty_ E) U ∧ EX_ E (A0_ E) U)
def qc_ (E : EV) (Q : Option Value → GS → Prop) : Array Value → State → Outcome → State → Prop := fun _ st oc t => (∃ (r : Option Value) (G' : GS), oc = .returned r ∧ Q r G' ∧ va_P (ev_D E) vwCl (wo_ E G') t.heap) ∧ va_F (A0_ E) st t
def PMet (E : EV) (M : MI) (d : Nat) (args : List Value) (G : GS) (Q : Option Value → GS → Prop) : Prop := Met (ev_l E) M.1 (mw_ M) (rm_ d) (pc_ E args G) (qc_ E Q) 0 0 (A0_ E)
theorem pm_of {E : EV} {M : MI} {d : Nat} {args : List Value} {G : GS} {Q : Option Value → GS → Prop} (hE : EI_ E) (hy : plainName M.1.cls = true) (hn : (lg_sl args).length ≤ M.2.2.1) (h : PW_ E M (rm_ d) 0 0 0 (lv_args 0 args) [] G Q) : PMet E M d args G Q := by
  refine Met.ofW (cc := M.2.1) (maxL := M.2.2.1) (ret := M.2.2.2) hy rfl ?_
  intro p e s m args' below meth c s₁ B hml hv
  obtain ⟨rfl, hP, hK, hX⟩ := hv
  have hlocks := B.notSynchronized
  have C : Cx_ E M p s m args.toArray c (A0_ E) := ⟨B.exec, B.bytes, hml, findClass_of_methodNamed B.named, atoms_spec (ws := mw_ M) B.pre, hK, fun k hk => ⟨k, hk, rfl⟩, hE, hX⟩
  rw [lg_entry_eq]
  refine h p e s m args.toArray below meth c (A0_ E) _ C ?_ s.heap [] _ hP va_S.rf (lv_entry args hn)
  intro r G' H locs pc' ls st' hq hrt hP' hS
  rcases hrt with ⟨v, ty, h1, h2, h3, rfl, rfl⟩ | ⟨h1, h3, rfl, rfl⟩ | ⟨a, n, h1, h3, rfl, rfl⟩
  · exact W.zret (ty := ty) B.exec B.bytes (B.returns.trans h1) h2 (fun t ht hW => ⟨⟨_, G', rfl, hq, by rw [ht]; exact hP'⟩, hS.F ht⟩) hS.2.2 h3
  · exact W.vret B.exec B.bytes (B.returns.trans h1) (fun t ht hW => ⟨⟨_, G', rfl, hq, by rw [ht]; exact hP'⟩, hS.F ht⟩) hS.2.2 h3
  · exact W.aret (rt := .object n) B.exec B.bytes (B.returns.trans h1) (Or.inl ⟨n, rfl⟩) (Or.inr ⟨a, rfl⟩) (fun t ht hW => ⟨⟨_, G', rfl, hq, by rw [ht]; exact hP'⟩, hS.F ht⟩) hS.2.2 h3
theorem rm_ok {d d' : Nat} (h : d' + 1 ≤ d) : d' + 1 ≤ (rm_ d).frames ∧ 40 * (d' + 1) ≤ (rm_ d).locals := ⟨h, by show 40 * (d' + 1) ≤ 40 * d; omega⟩
theorem rm_ok1 {d : Nat} (h : 1 ≤ d) : 1 ≤ (rm_ d).frames ∧ 40 ≤ (rm_ d).locals := ⟨h, by show 40 ≤ 40 * d; omega⟩
theorem rm_0 {d : Nat} : 0 ≤ (rm_ d).cells ∧ 0 ≤ (rm_ d).slots := ⟨Nat.le_refl 0, Nat.le_refl 0⟩
/-- answers: an int, none, a text -/
def qi_ (Q : Int32 → GS → Prop) : Option Value → GS → Prop := fun r G => ∃ v : Int32, r = some (.int v) ∧ Q v G
def qv_ (Q : Int32 → GS → Prop) : Option Value → GS → Prop := fun r G => r = none ∧ Q 0 G
def qs_ (E : EV) (Q : Nat → GS → Prop) : Option Value → GS → Prop := fun r G => ∃ i : Nat, r = some (.ref (ev_aK E i)) ∧ Q i G
theorem pm_mono {E : EV} {M : MI} {d : Nat} {args : List Value} {G : GS} {Q Q2 : Option Value → GS → Prop} (h : PMet E M d args G Q) (hq : ∀ r G', Q r G' → Q2 r G') : PMet E M d args G Q2 := by
  intro p e ha hc hk s m args' below hf happ hP hK
  obtain ⟨k, o, h1, h2, h3, ⟨⟨r, G', e1, e2, e3⟩, e4⟩, e5⟩ := h p e ha hc hk s m args' below hf happ hP hK
  exact ⟨k, o, h1, h2, h3, ⟨⟨r, G', e1, hq r G' e2, e3⟩, e4⟩, e5⟩
/-! ===== rows ===== -/
section PWROWS
variable {E : EV} {M : MI} {R : Room} {cells slots pc : Nat} {lv : List (Nat × Value)} {rest : List Value} {G : GS} {Q : Option Value → GS → Prop}
theorem pw_iconst {n : Int} {v : Int32} (dg : decode M.2.1 pc = .ok (.iconst n, 1)) (hv : Int32.ofInt n = v) (kk : PW_ E M R cells slots (pc + 1) lv (.int v :: rest) G Q) : PW_ E M R cells slots pc lv (rest) G Q := fun p e s m args below meth c A Qz C hr H locs ls hP hS hl => lv_iconst C.1 C.2.1 dg hv (kk p e s m args below meth c A Qz C hr H locs ls hP hS hl)
theorem pw_bipush {n : Int} {v : Int32} (dg : decode M.2.1 pc = .ok (.bipush n, 2)) (hv : (Int8.ofInt n).toInt32 = v) (kk : PW_ E M R cells slots (pc + 2) lv (.int v :: rest) G Q) : PW_ E M R cells slots pc lv (rest) G Q := fun p e s m args below meth c A Qz C hr H locs ls hP hS hl => lv_bipush C.1 C.2.1 dg hv (kk p e s m args below meth c A Qz C hr H locs ls hP hS hl)
theorem pw_sipush {n : Int} {v : Int32} (dg : decode M.2.1 pc = .ok (.sipush n, 3)) (hv : (Int16.ofInt n).toInt32 = v) (kk : PW_ E M R cells slots (pc + 3) lv (.int v :: rest) G Q) : PW_ E M R cells slots pc lv (rest) G Q := fun p e s m args below meth c A Qz C hr H locs ls hP hS hl => lv_sipush C.1 C.2.1 dg hv (kk p e s m args below meth c A Qz C hr H locs ls hP hS hl)
theorem pw_lconst {n : Fin 2} {v : Int64} (dg : decode M.2.1 pc = .ok (.lconst n, 1)) (hv : Int64.ofNat (n : Nat) = v) (kk : PW_ E M R cells slots (pc + 1) lv (.long v :: rest) G Q) : PW_ E M R cells slots pc lv (rest) G Q := fun p e s m args below meth c A Qz C hr H locs ls hP hS hl => lv_lconst C.1 C.2.1 dg hv (kk p e s m args below meth c A Qz C hr H locs ls hP hS hl)
theorem pw_iload_n {k : Fin 4} {i : Nat} {x : Int32} (dg : decode M.2.1 pc = .ok (.iload_n k, 1)) (hi : (k : Nat) = i) (q : Nat) (hq : lv[q]? = some (i, .int x)) (kk : PW_ E M R cells slots (pc + 1) lv (.int x :: rest) G Q) : PW_ E M R cells slots pc lv rest G Q := fun p e s m args below meth c A Qz C hr H locs ls hP hS hl => lv_iload_n C.1 C.2.1 dg hi (lv_at hl q hq) (kk p e s m args below meth c A Qz C hr H locs ls hP hS hl)
theorem pw_iload {i : Nat} {x : Int32} (dg : decode M.2.1 pc = .ok (.iload i, 2)) (q : Nat) (hq : lv[q]? = some (i, .int x)) (kk : PW_ E M R cells slots (pc + 2) lv (.int x :: rest) G Q) : PW_ E M R cells slots pc lv rest G Q := fun p e s m args below meth c A Qz C hr H locs ls hP hS hl => lv_iload C.1 C.2.1 dg (lv_at hl q hq) (kk p e s m args below meth c A Qz C hr H locs ls hP hS hl)
theorem pw_istore_n {k : Fin 4} {i : Nat} {x : Int32} {lv' : List (Nat × Value)} (dg : decode M.2.1 pc = .ok (.istore_n k, 1)) (hi : (k : Nat) = i) (hn : i < M.2.2.1) (hl' : (i, Value.int x) :: lv.filter (fun q => !(q.1 == i) && !(q.1 + 1 == i && q.2.category == 2)) = lv') (kk : PW_ E M R cells slots (pc + 1) lv' rest G Q) : PW_ E M R cells slots pc lv (.int x :: rest) G Q := fun p e s m args below meth c A Qz C hr H locs ls hP hS hl => lv_istore_n C.1 C.2.1 dg hi hl hn hl' (fun ls hl => kk p e s m args below meth c A Qz C hr H locs ls hP hS hl)
theorem pw_istore {i : Nat} {x : Int32} {lv' : List (Nat × Value)} (dg : decode M.2.1 pc = .ok (.istore i, 2)) (hn : i < M.2.2.1) (hl' : (i, Value.int x) :: lv.filter (fun q => !(q.1 == i) && !(q.1 + 1 == i && q.2.category == 2)) = lv') (kk : PW_ E M R cells slots (pc + 2) lv' rest G Q) : PW_ E M R cells slots pc lv (.int x :: rest) G Q := fun p e s m args below meth c A Qz C hr H locs ls hP hS hl => lv_istore C.1 C.2.1 dg hl hn hl' (fun ls hl => kk p e s m args below meth c A Qz C hr H locs ls hP hS hl)
theorem pw_lload_n {k : Fin 4} {i : Nat} {x : Int64} (dg : decode M.2.1 pc = .ok (.lload_n k, 1)) (hi : (k : Nat) = i) (q : Nat) (hq : lv[q]? = some (i, .long x)) (kk : PW_ E M R cells slots (pc + 1) lv (.long x :: rest) G Q) : PW_ E M R cells slots pc lv rest G Q := fun p e s m args below meth c A Qz C hr H locs ls hP hS hl => lv_lload_n C.1 C.2.1 dg hi (lv_at hl q hq) (kk p e s m args below meth c A Qz C hr H locs ls hP hS hl)
theorem pw_lload {i : Nat} {x : Int64} (dg : decode M.2.1 pc = .ok (.lload i, 2)) (q : Nat) (hq : lv[q]? = some (i, .long x)) (kk : PW_ E M R cells slots (pc + 2) lv (.long x :: rest) G Q) : PW_ E M R cells slots pc lv rest G Q := fun p e s m args below meth c A Qz C hr H locs ls hP hS hl => lv_lload C.1 C.2.1 dg (lv_at hl q hq) (kk p e s m args below meth c A Qz C hr H locs ls hP hS hl)
theorem pw_lstore_n {k : Fin 4} {i : Nat} {x : Int64} {lv' : List (Nat × Value)} (dg : decode M.2.1 pc = .ok (.lstore_n k, 1)) (hi : (k : Nat) = i) (hn : i + 1 < M.2.2.1) (hl' : (i, Value.long x) :: lv.filter (fun q => !(q.1 == i) && (!(q.1 == i + 1) && !(q.1 + 1 == i && q.2.category == 2))) = lv') (kk : PW_ E M R cells slots (pc + 1) lv' rest G Q) : PW_ E M R cells slots pc lv (.long x :: rest) G Q := fun p e s m args below meth c A Qz C hr H locs ls hP hS hl => lv_lstore_n C.1 C.2.1 dg hi hl hn hl' (fun ls hl => kk p e s m args below meth c A Qz C hr H locs ls hP hS hl)
theorem pw_lstore {i : Nat} {x : Int64} {lv' : List (Nat × Value)} (dg : decode M.2.1 pc = .ok (.lstore i, 2)) (hn : i + 1 < M.2.2.1) (hl' : (i, Value.long x) :: lv.filter (fun q => !(q.1 == i) && (!(q.1 == i + 1) && !(q.1 + 1 == i && q.2.category == 2))) = lv') (kk : PW_ E M R cells slots (pc + 2) lv' rest G Q) : PW_ E M R cells slots pc lv (.long x :: rest) G Q := fun p e s m args below meth c A Qz C hr H locs ls hP hS hl => lv_lstore C.1 C.2.1 dg hl hn hl' (fun ls hl => kk p e s m args below meth c A Qz C hr H locs ls hP hS hl)
theorem pw_aload_n {k : Fin 4} {i : Nat} {x : Nat} (dg : decode M.2.1 pc = .ok (.aload_n k, 1)) (hi : (k : Nat) = i) (q : Nat) (hq : lv[q]? = some (i, .ref x)) (kk : PW_ E M R cells slots (pc + 1) lv (.ref x :: rest) G Q) : PW_ E M R cells slots pc lv rest G Q := fun p e s m args below meth c A Qz C hr H locs ls hP hS hl => lv_aload_n C.1 C.2.1 dg hi (lv_at hl q hq) (kk p e s m args below meth c A Qz C hr H locs ls hP hS hl)
theorem pw_aload {i : Nat} {x : Nat} (dg : decode M.2.1 pc = .ok (.aload i, 2)) (q : Nat) (hq : lv[q]? = some (i, .ref x)) (kk : PW_ E M R cells slots (pc + 2) lv (.ref x :: rest) G Q) : PW_ E M R cells slots pc lv rest G Q := fun p e s m args below meth c A Qz C hr H locs ls hP hS hl => lv_aload C.1 C.2.1 dg (lv_at hl q hq) (kk p e s m args below meth c A Qz C hr H locs ls hP hS hl)
theorem pw_astore_n {k : Fin 4} {i : Nat} {x : Nat} {lv' : List (Nat × Value)} (dg : decode M.2.1 pc = .ok (.astore_n k, 1)) (hi : (k : Nat) = i) (hn : i < M.2.2.1) (hl' : (i, Value.ref x) :: lv.filter (fun q => !(q.1 == i) && !(q.1 + 1 == i && q.2.category == 2)) = lv') (kk : PW_ E M R cells slots (pc + 1) lv' rest G Q) : PW_ E M R cells slots pc lv (.ref x :: rest) G Q := fun p e s m args below meth c A Qz C hr H locs ls hP hS hl => lv_astore_n C.1 C.2.1 dg hi hl hn hl' (fun ls hl => kk p e s m args below meth c A Qz C hr H locs ls hP hS hl)
theorem pw_astore {i : Nat} {x : Nat} {lv' : List (Nat × Value)} (dg : decode M.2.1 pc = .ok (.astore i, 2)) (hn : i < M.2.2.1) (hl' : (i, Value.ref x) :: lv.filter (fun q => !(q.1 == i) && !(q.1 + 1 == i && q.2.category == 2)) = lv') (kk : PW_ E M R cells slots (pc + 2) lv' rest G Q) : PW_ E M R cells slots pc lv (.ref x :: rest) G Q := fun p e s m args below meth c A Qz C hr H locs ls hP hS hl => lv_astore C.1 C.2.1 dg hl hn hl' (fun ls hl => kk p e s m args below meth c A Qz C hr H locs ls hP hS hl)
theorem pw_iinc {i k : Nat} {n : Int} {x v : Int32} {lv' : List (Nat × Value)} (dg : decode M.2.1 pc = .ok (.iinc i n, 3)) (hk : lv[k]? = some (i, .int x)) (hv : x + Int32.ofInt n = v) (hn : i < M.2.2.1) (hl' : (i, Value.int v) :: lv.filter (fun q => !(q.1 == i) && !(q.1 + 1 == i && q.2.category == 2)) = lv') (kk : PW_ E M R cells slots (pc + 3) lv' rest G Q) : PW_ E M R cells slots pc lv rest G Q := fun p e s m args below meth c A Qz C hr H locs ls hP hS hl => lv_iinc C.1 C.2.1 dg hl hk hv hn hl' (fun ls hl => kk p e s m args below meth c A Qz C hr H locs ls hP hS hl)
theorem pw_iadd {x y : Int32} (dg : decode M.2.1 pc = .ok (.iadd, 1)) (kk : PW_ E M R cells slots (pc + 1) lv (.int (x + y) :: rest) G Q) : PW_ E M R cells slots pc lv (.int y :: .int x :: rest) G Q := fun p e s m args below meth c A Qz C hr H locs ls hP hS hl => lv_iadd C.1 C.2.1 dg (kk p e s m args below meth c A Qz C hr H locs ls hP hS hl)
theorem pw_isub {x y : Int32} (dg : decode M.2.1 pc = .ok (.isub, 1)) (kk : PW_ E M R cells slots (pc + 1) lv (.int (x - y) :: rest) G Q) : PW_ E M R cells slots pc lv (.int y :: .int x :: rest) G Q := fun p e s m args below meth c A Qz C hr H locs ls hP hS hl => lv_isub C.1 C.2.1 dg (kk p e s m args below meth c A Qz C hr H locs ls hP hS hl)
theorem pw_imul {x y : Int32} (dg : decode M.2.1 pc = .ok (.imul, 1)) (kk : PW_ E M R cells slots (pc + 1) lv (.int (x * y) :: rest) G Q) : PW_ E M R cells slots pc lv (.int y :: .int x :: rest) G Q := fun p e s m args below meth c A Qz C hr H locs ls hP hS hl => lv_imul C.1 C.2.1 dg (kk p e s m args below meth c A Qz C hr H locs ls hP hS hl)
theorem pw_iand {x y : Int32} (dg : decode M.2.1 pc = .ok (.iand, 1)) (kk : PW_ E M R cells slots (pc + 1) lv (.int (x &&& y) :: rest) G Q) : PW_ E M R cells slots pc lv (.int y :: .int x :: rest) G Q := fun p e s m args below meth c A Qz C hr H locs ls hP hS hl => lv_iand C.1 C.2.1 dg (kk p e s m args below meth c A Qz C hr H locs ls hP hS hl)
theorem pw_ior {x y : Int32} (dg : decode M.2.1 pc = .ok (.ior, 1)) (kk : PW_ E M R cells slots (pc + 1) lv (.int (x ||| y) :: rest) G Q) : PW_ E M R cells slots pc lv (.int y :: .int x :: rest) G Q := fun p e s m args below meth c A Qz C hr H locs ls hP hS hl => lv_ior C.1 C.2.1 dg (kk p e s m args below meth c A Qz C hr H locs ls hP hS hl)
theorem pw_ixor {x y : Int32} (dg : decode M.2.1 pc = .ok (.ixor, 1)) (kk : PW_ E M R cells slots (pc + 1) lv (.int (x ^^^ y) :: rest) G Q) : PW_ E M R cells slots pc lv (.int y :: .int x :: rest) G Q := fun p e s m args below meth c A Qz C hr H locs ls hP hS hl => lv_ixor C.1 C.2.1 dg (kk p e s m args below meth c A Qz C hr H locs ls hP hS hl)
theorem pw_ishl {x y : Int32} (dg : decode M.2.1 pc = .ok (.ishl, 1)) (kk : PW_ E M R cells slots (pc + 1) lv (.int (x <<< (y &&& 31)) :: rest) G Q) : PW_ E M R cells slots pc lv (.int y :: .int x :: rest) G Q := fun p e s m args below meth c A Qz C hr H locs ls hP hS hl => lv_ishl C.1 C.2.1 dg (kk p e s m args below meth c A Qz C hr H locs ls hP hS hl)
theorem pw_ishr {x y : Int32} (dg : decode M.2.1 pc = .ok (.ishr, 1)) (kk : PW_ E M R cells slots (pc + 1) lv (.int (x >>> (y &&& 31)) :: rest) G Q) : PW_ E M R cells slots pc lv (.int y :: .int x :: rest) G Q := fun p e s m args below meth c A Qz C hr H locs ls hP hS hl => lv_ishr C.1 C.2.1 dg (kk p e s m args below meth c A Qz C hr H locs ls hP hS hl)
theorem pw_idiv {x y : Int32} (dg : decode M.2.1 pc = .ok (.idiv, 1)) (hne : ¬ y = 0) (kk : PW_ E M R cells slots (pc + 1) lv (.int (x / y) :: rest) G Q) : PW_ E M R cells slots pc lv (.int y :: .int x :: rest) G Q := fun p e s m args below meth c A Qz C hr H locs ls hP hS hl => lv_idiv C.1 C.2.1 dg hne (kk p e s m args below meth c A Qz C hr H locs ls hP hS hl)
theorem pw_irem {x y : Int32} (dg : decode M.2.1 pc = .ok (.irem, 1)) (hne : ¬ y = 0) (kk : PW_ E M R cells slots (pc + 1) lv (.int (x - x / y * y) :: rest) G Q) : PW_ E M R cells slots pc lv (.int y :: .int x :: rest) G Q := fun p e s m args below meth c A Qz C hr H locs ls hP hS hl => lv_irem C.1 C.2.1 dg hne (kk p e s m args below meth c A Qz C hr H locs ls hP hS hl)
theorem pw_ineg {x : Int32} (dg : decode M.2.1 pc = .ok (.ineg, 1)) (kk : PW_ E M R cells slots (pc + 1) lv (.int (-x) :: rest) G Q) : PW_ E M R cells slots pc lv (.int x :: rest) G Q := fun p e s m args below meth c A Qz C hr H locs ls hP hS hl => lv_ineg C.1 C.2.1 dg (kk p e s m args below meth c A Qz C hr H locs ls hP hS hl)
theorem pw_iushr {x y : Int32} (dg : decode M.2.1 pc = .ok (.iushr, 1)) (kk : PW_ E M R cells slots (pc + 1) lv (.int (ush_ x y) :: rest) G Q) : PW_ E M R cells slots pc lv (.int y :: .int x :: rest) G Q := fun p e s m args below meth c A Qz C hr H locs ls hP hS hl => lv_iushr C.1 C.2.1 dg rfl (kk p e s m args below meth c A Qz C hr H locs ls hP hS hl)
theorem pw_lushr {x : Int64} {y : Int32} (dg : decode M.2.1 pc = .ok (.lushr, 1)) (kk : PW_ E M R cells slots (pc + 1) lv (.long (lush_ x y) :: rest) G Q) : PW_ E M R cells slots pc lv (.int y :: .long x :: rest) G Q := fun p e s m args below meth c A Qz C hr H locs ls hP hS hl => lv_lushr C.1 C.2.1 dg rfl (kk p e s m args below meth c A Qz C hr H locs ls hP hS hl)
theorem pw_lshl {x : Int64} {y : Int32} (dg : decode M.2.1 pc = .ok (.lshl, 1)) (kk : PW_ E M R cells slots (pc + 1) lv (.long (x <<< (y.toInt64 &&& 63)) :: rest) G Q) : PW_ E M R cells slots pc lv (.int y :: .long x :: rest) G Q := fun p e s m args below meth c A Qz C hr H locs ls hP hS hl => lv_lshl C.1 C.2.1 dg rfl (kk p e s m args below meth c A Qz C hr H locs ls hP hS hl)
theorem pw_ladd {x y : Int64} (dg : decode M.2.1 pc = .ok (.ladd, 1)) (kk : PW_ E M R cells slots (pc + 1) lv (.long (x + y) :: rest) G Q) : PW_ E M R cells slots pc lv (.long y :: .long x :: rest) G Q := fun p e s m args below meth c A Qz C hr H locs ls hP hS hl => lv_ladd C.1 C.2.1 dg (kk p e s m args below meth c A Qz C hr H locs ls hP hS hl)
theorem pw_lsub {x y : Int64} (dg : decode M.2.1 pc = .ok (.lsub, 1)) (kk : PW_ E M R cells slots (pc + 1) lv (.long (x - y) :: rest) G Q) : PW_ E M R cells slots pc lv (.long y :: .long x :: rest) G Q := fun p e s m args below meth c A Qz C hr H locs ls hP hS hl => lv_lsub C.1 C.2.1 dg (kk p e s m args below meth c A Qz C hr H locs ls hP hS hl)
theorem pw_land {x y : Int64} (dg : decode M.2.1 pc = .ok (.land, 1)) (kk : PW_ E M R cells slots (pc + 1) lv (.long (x &&& y) :: rest) G Q) : PW_ E M R cells slots pc lv (.long y :: .long x :: rest) G Q := fun p e s m args below meth c A Qz C hr H locs ls hP hS hl => lv_land C.1 C.2.1 dg (kk p e s m args below meth c A Qz C hr H locs ls hP hS hl)
theorem pw_lor {x y : Int64} (dg : decode M.2.1 pc = .ok (.lor, 1)) (kk : PW_ E M R cells slots (pc + 1) lv (.long (x ||| y) :: rest) G Q) : PW_ E M R cells slots pc lv (.long y :: .long x :: rest) G Q := fun p e s m args below meth c A Qz C hr H locs ls hP hS hl => lv_lor C.1 C.2.1 dg (kk p e s m args below meth c A Qz C hr H locs ls hP hS hl)
theorem pw_l2i {x : Int64} (dg : decode M.2.1 pc = .ok (.l2i, 1)) (kk : PW_ E M R cells slots (pc + 1) lv (.int x.toInt32 :: rest) G Q) : PW_ E M R cells slots pc lv (.long x :: rest) G Q := fun p e s m args below meth c A Qz C hr H locs ls hP hS hl => lv_l2i C.1 C.2.1 dg rfl (kk p e s m args below meth c A Qz C hr H locs ls hP hS hl)
theorem pw_i2b {x : Int32} (dg : decode M.2.1 pc = .ok (.i2b, 1)) (kk : PW_ E M R cells slots (pc + 1) lv (.int x.toInt8.toInt32 :: rest) G Q) : PW_ E M R cells slots pc lv (.int x :: rest) G Q := fun p e s m args below meth c A Qz C hr H locs ls hP hS hl => lv_i2b C.1 C.2.1 dg rfl (kk p e s m args below meth c A Qz C hr H locs ls hP hS hl)
theorem pw_i2c {x : Int32} (dg : decode M.2.1 pc = .ok (.i2c, 1)) (kk : PW_ E M R cells slots (pc + 1) lv (.int (x.toUInt32 % 65536).toInt32 :: rest) G Q) : PW_ E M R cells slots pc lv (.int x :: rest) G Q := fun p e s m args below meth c A Qz C hr H locs ls hP hS hl => lv_i2c C.1 C.2.1 dg rfl (kk p e s m args below meth c A Qz C hr H locs ls hP hS hl)
theorem pw_dup {va : Value} (dg : decode M.2.1 pc = .ok (.dup, 1)) (h1 : va.category = 1) (kk : PW_ E M R cells slots (pc + 1) lv (va :: va :: rest) G Q) : PW_ E M R cells slots pc lv (va :: rest) G Q := fun p e s m args below meth c A Qz C hr H locs ls hP hS hl => lv_dup C.1 C.2.1 dg h1 (kk p e s m args below meth c A Qz C hr H locs ls hP hS hl)
theorem pw_pop {va : Value} (dg : decode M.2.1 pc = .ok (.pop, 1)) (h1 : va.category = 1) (kk : PW_ E M R cells slots (pc + 1) lv (rest) G Q) : PW_ E M R cells slots pc lv (va :: rest) G Q := fun p e s m args below meth c A Qz C hr H locs ls hP hS hl => lv_pop C.1 C.2.1 dg h1 (kk p e s m args below meth c A Qz C hr H locs ls hP hS hl)
theorem pw_dup2 {va vb : Value} (dg : decode M.2.1 pc = .ok (.dup2, 1)) (h1 : va.category = 1) (h2 : vb.category = 1) (kk : PW_ E M R cells slots (pc + 1) lv (va :: vb :: va :: vb :: rest) G Q) : PW_ E M R cells slots pc lv (va :: vb :: rest) G Q := fun p e s m args below meth c A Qz C hr H locs ls hP hS hl => lv_dup2_11 C.1 C.2.1 dg h1 h2 (kk p e s m args below meth c A Qz C hr H locs ls hP hS hl)
theorem pw_dup_x1 {va vb : Value} (dg : decode M.2.1 pc = .ok (.dup_x1, 1)) (h1 : va.category = 1) (h2 : vb.category = 1) (kk : PW_ E M R cells slots (pc + 1) lv (va :: vb :: va :: rest) G Q) : PW_ E M R cells slots pc lv (va :: vb :: rest) G Q := fun p e s m args below meth c A Qz C hr H locs ls hP hS hl => lv_dup_x1 C.1 C.2.1 dg h1 h2 (kk p e s m args below meth c A Qz C hr H locs ls hP hS hl)
theorem pw_if_eq {x : Int32} {off : Int} {tgt : Nat} (dg : decode M.2.1 pc = .ok (.ifCond .eq off, 3)) (ht : (pc : Int) + off = (tgt : Int)) (kt : x = 0 → PW_ E M R cells slots tgt lv rest G Q) (kf : ¬ x = 0 → PW_ E M R cells slots (pc + 3) lv rest G Q) : PW_ E M R cells slots pc lv (.int x :: rest) G Q := fun p e s m args below meth c A Qz C hr H locs ls hP hS hl => lv_if_eq C.1 C.2.1 dg ht (fun h => kt h p e s m args below meth c A Qz C hr H locs ls hP hS hl) (fun h => kf h p e s m args below meth c A Qz C hr H locs ls hP hS hl)
theorem pw_if_ne {x : Int32} {off : Int} {tgt : Nat} (dg : decode M.2.1 pc = .ok (.ifCond .ne off, 3)) (ht : (pc : Int) + off = (tgt : Int)) (kt : ¬ x = 0 → PW_ E M R cells slots tgt lv rest G Q) (kf : x = 0 → PW_ E M R cells slots (pc + 3) lv rest G Q) : PW_ E M R cells slots pc lv (.int x :: rest) G Q := fun p e s m args below meth c A Qz C hr H locs ls hP hS hl => lv_if_ne C.1 C.2.1 dg ht (fun h => kt h p e s m args below meth c A Qz C hr H locs ls hP hS hl) (fun h => kf h p e s m args below meth c A Qz C hr H locs ls hP hS hl)
theorem pw_if_lt {x : Int32} {off : Int} {tgt : Nat} (dg : decode M.2.1 pc = .ok (.ifCond .lt off, 3)) (ht : (pc : Int) + off = (tgt : Int)) (kt : x < 0 → PW_ E M R cells slots tgt lv rest G Q) (kf : ¬ x < 0 → PW_ E M R cells slots (pc + 3) lv rest G Q) : PW_ E M R cells slots pc lv (.int x :: rest) G Q := fun p e s m args below meth c A Qz C hr H locs ls hP hS hl => lv_if_lt C.1 C.2.1 dg ht (fun h => kt h p e s m args below meth c A Qz C hr H locs ls hP hS hl) (fun h => kf h p e s m args below meth c A Qz C hr H locs ls hP hS hl)
theorem pw_if_ge {x : Int32} {off : Int} {tgt : Nat} (dg : decode M.2.1 pc = .ok (.ifCond .ge off, 3)) (ht : (pc : Int) + off = (tgt : Int)) (kt : 0 ≤ x → PW_ E M R cells slots tgt lv rest G Q) (kf : ¬ 0 ≤ x → PW_ E M R cells slots (pc + 3) lv rest G Q) : PW_ E M R cells slots pc lv (.int x :: rest) G Q := fun p e s m args below meth c A Qz C hr H locs ls hP hS hl => lv_if_ge C.1 C.2.1 dg ht (fun h => kt h p e s m args below meth c A Qz C hr H locs ls hP hS hl) (fun h => kf h p e s m args below meth c A Qz C hr H locs ls hP hS hl)
theorem pw_if_gt {x : Int32} {off : Int} {tgt : Nat} (dg : decode M.2.1 pc = .ok (.ifCond .gt off, 3)) (ht : (pc : Int) + off = (tgt : Int)) (kt : 0 < x → PW_ E M R cells slots tgt lv rest G Q) (kf : ¬ 0 < x → PW_ E M R cells slots (pc + 3) lv rest G Q) : PW_ E M R cells slots pc lv (.int x :: rest) G Q := fun p e s m args below meth c A Qz C hr H locs ls hP hS hl => lv_if_gt C.1 C.2.1 dg ht (fun h => kt h p e s m args below meth c A Qz C hr H locs ls hP hS hl) (fun h => kf h p e s m args below meth c A Qz C hr H locs ls hP hS hl)
theorem pw_if_le {x : Int32} {off : Int} {tgt : Nat} (dg : decode M.2.1 pc = .ok (.ifCond .le off, 3)) (ht : (pc : Int) + off = (tgt : Int)) (kt : x ≤ 0 → PW_ E M R cells slots tgt lv rest G Q) (kf : ¬ x ≤ 0 → PW_ E M R cells slots (pc + 3) lv rest G Q) : PW_ E M R cells slots pc lv (.int x :: rest) G Q := fun p e s m args below meth c A Qz C hr H locs ls hP hS hl => lv_if_le C.1 C.2.1 dg ht (fun h => kt h p e s m args below meth c A Qz C hr H locs ls hP hS hl) (fun h => kf h p e s m args below meth c A Qz C hr H locs ls hP hS hl)
theorem pw_icmp_eq {x y : Int32} {off : Int} {tgt : Nat} (dg : decode M.2.1 pc = .ok (.if_icmp .eq off, 3)) (ht : (pc : Int) + off = (tgt : Int)) (kt : x = y → PW_ E M R cells slots tgt lv rest G Q) (kf : ¬ x = y → PW_ E M R cells slots (pc + 3) lv rest G Q) : PW_ E M R cells slots pc lv (.int y :: .int x :: rest) G Q := fun p e s m args below meth c A Qz C hr H locs ls hP hS hl => lv_icmp_eq C.1 C.2.1 dg ht (fun h => kt h p e s m args below meth c A Qz C hr H locs ls hP hS hl) (fun h => kf h p e s m args below meth c A Qz C hr H locs ls hP hS hl)
theorem pw_icmp_ne {x y : Int32} {off : Int} {tgt : Nat} (dg : decode M.2.1 pc = .ok (.if_icmp .ne off, 3)) (ht : (pc : Int) + off = (tgt : Int)) (kt : ¬ x = y → PW_ E M R cells slots tgt lv rest G Q) (kf : x = y → PW_ E M R cells slots (pc + 3) lv rest G Q) : PW_ E M R cells slots pc lv (.int y :: .int x :: rest) G Q := fun p e s m args below meth c A Qz C hr H locs ls hP hS hl => lv_icmp_ne C.1 C.2.1 dg ht (fun h => kt h p e s m args below meth c A Qz C hr H locs ls hP hS hl) (fun h => kf h p e s m args below meth c A Qz C hr H locs ls hP hS hl)
theorem pw_icmp_lt {x y : Int32} {off : Int} {tgt : Nat} (dg : decode M.2.1 pc = .ok (.if_icmp .lt off, 3)) (ht : (pc : Int) + off = (tgt : Int)) (kt : x < y → PW_ E M R cells slots tgt lv rest G Q) (kf : ¬ x < y → PW_ E M R cells slots (pc + 3) lv rest G Q) : PW_ E M R cells slots pc lv (.int y :: .int x :: rest) G Q := fun p e s m args below meth c A Qz C hr H locs ls hP hS hl => lv_icmp_lt C.1 C.2.1 dg ht (fun h => kt h p e s m args below meth c A Qz C hr H locs ls hP hS hl) (fun h => kf h p e s m args below meth c A Qz C hr H locs ls hP hS hl)
theorem pw_icmp_ge {x y : Int32} {off : Int} {tgt : Nat} (dg : decode M.2.1 pc = .ok (.if_icmp .ge off, 3)) (ht : (pc : Int) + off = (tgt : Int)) (kt : y ≤ x → PW_ E M R cells slots tgt lv rest G Q) (kf : ¬ y ≤ x → PW_ E M R cells slots (pc + 3) lv rest G Q) : PW_ E M R cells slots pc lv (.int y :: .int x :: rest) G Q := fun p e s m args below meth c A Qz C hr H locs ls hP hS hl => lv_icmp_ge C.1 C.2.1 dg ht (fun h => kt h p e s m args below meth c A Qz C hr H locs ls hP hS hl) (fun h => kf h p e s m args below meth c A Qz C hr H locs ls hP hS hl)
theorem pw_icmp_gt {x y : Int32} {off : Int} {tgt : Nat} (dg : decode M.2.1 pc = .ok (.if_icmp .gt off, 3)) (ht : (pc : Int) + off = (tgt : Int)) (kt : y < x → PW_ E M R cells slots tgt lv rest G Q) (kf : ¬ y < x → PW_ E M R cells slots (pc + 3) lv rest G Q) : PW_ E M R cells slots pc lv (.int y :: .int x :: rest) G Q := fun p e s m args below meth c A Qz C hr H locs ls hP hS hl => lv_icmp_gt C.1 C.2.1 dg ht (fun h => kt h p e s m args below meth c A Qz C hr H locs ls hP hS hl) (fun h => kf h p e s m args below meth c A Qz C hr H locs ls hP hS hl)
theorem pw_icmp_le {x y : Int32} {off : Int} {tgt : Nat} (dg : decode M.2.1 pc = .ok (.if_icmp .le off, 3)) (ht : (pc : Int) + off = (tgt : Int)) (kt : x ≤ y → PW_ E M R cells slots tgt lv rest G Q) (kf : ¬ x ≤ y → PW_ E M R cells slots (pc + 3) lv rest G Q) : PW_ E M R cells slots pc lv (.int y :: .int x :: rest) G Q := fun p e s m args below meth c A Qz C hr H locs ls hP hS hl => lv_icmp_le C.1 C.2.1 dg ht (fun h => kt h p e s m args below meth c A Qz C hr H locs ls hP hS hl) (fun h => kf h p e s m args below meth c A Qz C hr H locs ls hP hS hl)
theorem pw_goto {off : Int} {tgt : Nat} (dg : decode M.2.1 pc = .ok (.goto off, 3)) (ht : (pc : Int) + off = (tgt : Int)) (kk : PW_ E M R cells slots tgt lv rest G Q) : PW_ E M R cells slots pc lv rest G Q := fun p e s m args below meth c A Qz C hr H locs ls hP hS hl => lv_goto C.1 C.2.1 dg ht (kk p e s m args below meth c A Qz C hr H locs ls hP hS hl)
theorem pw_tswIn {dflt lo hi : Int} {offs : Array Int} {len tgt : Nat} {x : Int32} {off : Int} (v : Int32) (dg : decode M.2.1 pc = .ok (.tableswitch dflt lo hi offs, len)) (hx : x = v) (h1 : ¬ v.toInt < lo) (h2 : ¬ hi < v.toInt) (ho : offs[(v.toInt - lo).toNat]? = some off) (ht : (pc : Int) + off = (tgt : Int)) (kk : PW_ E M R cells slots tgt lv rest G Q) : PW_ E M R cells slots pc lv (.int x :: rest) G Q := fun p e s m args below meth c A Qz C hr H locs ls hP hS hl => lv_tableIn C.1 C.2.1 dg (by rw [hx]; exact h1) (by rw [hx]; exact h2) (by rw [hx]; exact ho) ht (kk p e s m args below meth c A Qz C hr H locs ls hP hS hl)
theorem pw_tswOut {dflt lo hi : Int} {offs : Array Int} {len tgt : Nat} {x : Int32} (dg : decode M.2.1 pc = .ok (.tableswitch dflt lo hi offs, len)) (h : x.toInt < lo ∨ hi < x.toInt) (ht : (pc : Int) + dflt = (tgt : Int)) (kk : PW_ E M R cells slots tgt lv rest G Q) : PW_ E M R cells slots pc lv (.int x :: rest) G Q := fun p e s m args below meth c A Qz C hr H locs ls hP hS hl => lv_tableOut C.1 C.2.1 dg h ht (kk p e s m args below meth c A Qz C hr H locs ls hP hS hl)
theorem pw_lsw {dflt : Int} {ps : Array (Int × Int)} {len tgt : Nat} {x : Int32} {off : Int} (dg : decode M.2.1 pc = .ok (.lookupswitch dflt ps, len)) (hp : (ps.toList.zip (ps.toList.drop 1)).all (fun (a, next) => a.1 < next.1) = true) (ho : Op.lookupswitch.offset ps.toList dflt x.toInt = off) (ht : (pc : Int) + off = (tgt : Int)) (kk : PW_ E M R cells slots tgt lv rest G Q) : PW_ E M R cells slots pc lv (.int x :: rest) G Q := fun p e s m args below meth c A Qz C hr H locs ls hP hS hl => lv_lookup C.1 C.2.1 dg hp ho ht (kk p e s m args below meth c A Qz C hr H locs ls hP hS hl)
theorem pw_loc {lv' : List (Nat × Value)} {st : List Value} (ks : List Nat) (h : lv_pick lv ks = lv') (kk : PW_ E M R cells slots pc lv' st G Q) : PW_ E M R cells slots pc lv st G Q := fun p e s m args below meth c A Qz C hr H locs ls hP hS hl => kk p e s m args below meth c A Qz C hr H locs ls hP hS (lv_sub hl ks h)
theorem pw_mono {Q2 : Option Value → GS → Prop} {st : List Value} (hq : ∀ r G', Q r G' → Q2 r G') (kk : PW_ E M R cells slots pc lv st G Q) : PW_ E M R cells slots pc lv st G Q2 := fun p e s m args below meth c A Qz C hr H locs ls hP hS hl => kk p e s m args below meth c A Qz C (fun r G' H locs pc' ls st' h => hr r G' H locs pc' ls st' (hq r G' h)) H locs ls hP hS hl
theorem pw_ireturn {v : Int32} {ty : FieldType} (dg : decode M.2.1 pc = .ok (.ireturn, 1)) (hr0 : M.2.2.2 = some ty) (hn : narrow ty (.int v) = .int v) (hq : Q (some (.int v)) G) : PW_ E M R cells slots pc lv [.int v] G Q := fun p e s m args below meth c A Qz C hr H locs ls hP hS hl => hr _ G H locs pc ls _ hq (Or.inl ⟨v, ty, hr0, hn, dg, rfl, rfl⟩) hP hS
theorem pw_return (dg : decode M.2.1 pc = .ok (.return_, 1)) (hr0 : M.2.2.2 = none) (hq : Q none G) : PW_ E M R cells slots pc lv [] G Q := fun p e s m args below meth c A Qz C hr H locs ls hP hS hl => hr _ G H locs pc ls _ hq (Or.inr (Or.inl ⟨hr0, dg, rfl, rfl⟩)) hP hS
theorem pw_areturn {a : Nat} {n : String} (dg : decode M.2.1 pc = .ok (.areturn, 1)) (hr0 : M.2.2.2 = some (.object n)) (hq : Q (some (.ref a)) G) : PW_ E M R cells slots pc lv [.ref a] G Q := fun p e s m args below meth c A Qz C hr H locs ls hP hS hl => hr _ G H locs pc ls _ hq (Or.inr (Or.inr ⟨a, n, hr0, dg, rfl, rfl⟩)) hP hS
theorem pw_ldc {idx : Nat} {v : Int32} (dg : decode M.2.1 pc = .ok (.ldc idx, 2)) (hc : Cond.constant M.1.cls idx v ∈ TB) (kk : PW_ E M R cells slots (pc + 2) lv (.int v :: rest) G Q) : PW_ E M R cells slots pc lv rest G Q := fun p e s m args below meth c A Qz C hr H locs ls hP hS hl => lv_ldc C.1 C.2.1 C.own (C.w hc) dg (kk p e s m args below meth c A Qz C hr H locs ls hP hS hl)
theorem pw_ldcw {idx : Nat} {v : Int32} (dg : decode M.2.1 pc = .ok (.ldc_w idx, 3)) (hc : Cond.constant M.1.cls idx v ∈ TB) (kk : PW_ E M R cells slots (pc + 3) lv (.int v :: rest) G Q) : PW_ E M R cells slots pc lv rest G Q := fun p e s m args below meth c A Qz C hr H locs ls hP hS hl => lv_ldcw C.1 C.2.1 C.own (C.w hc) dg (kk p e s m args below meth c A Qz C hr H locs ls hP hS hl)
theorem pw_ldc2 {idx : Nat} {v : Int64} (dg : decode M.2.1 pc = .ok (.ldc2_w idx, 3)) (hc : Cond.constantLong M.1.cls idx v ∈ TB) (kk : PW_ E M R cells slots (pc + 3) lv (.long v :: rest) G Q) : PW_ E M R cells slots pc lv rest G Q := fun p e s m args below meth c A Qz C hr H locs ls hP hS hl => lv_ldc2 C.1 C.2.1 C.own (C.w hc) dg (kk p e s m args below meth c A Qz C hr H locs ls hP hS hl)
theorem pw_ldcS {idx : Nat} (i : Nat) (hi : i < nk_) (dg : decode M.2.1 pc = .ok (.ldc idx, 2)) (ho : M.1.cls = "HearDifference$Reader") (hx : kx_.getD i 0 = idx) (kk : PW_ E M R cells slots (pc + 2) lv (.ref (ev_aK E i) :: rest) G Q) : PW_ E M R cells slots pc lv rest G Q := fun p e s m args below meth c A Qz C hr H locs ls hP hS hl => va_ldcS (own := "HearDifference$Reader") (index := idx) (q := ev_aK E i) C.1 C.2.1 (by rw [← ho]; exact C.own) (by rw [← hx]; exact C.X.2.2.1 i hi) dg (kk p e s m args below meth c A Qz C hr H locs ls hP hS hl)
/-- a field's place: its class, its words, its link -/
def FA_ (own : String) (idx ci j : Nat) : Prop := ∃ (C : String) (T : u_T) (N : Nat), vwCl[ci]? = some (C, T, N) ∧ (∀ w ∈ u_ws C T N, w ∈ TB) ∧ j < N ∧ (Cond.fieldLink own idx (T j).1 (T j).2.1 (T j).2.2.1 ∈ TB ∨ ∃ host, Cond.fieldLinkNest own idx (T j).1 (T j).2.1 (T j).2.2.1 host ∈ tables_1)
def FP_ (own : String) (idx ci j : Nat) (ty : FieldType) : Prop := ∃ (C : String) (T : u_T) (N : Nat) (ty0 : Nat → FieldType), vwCl[ci]? = some (C, T, N) ∧ (∀ w ∈ u_ws C T N, w ∈ TB) ∧ j < N ∧ (Cond.fieldLink own idx (T j).1 (T j).2.1 (T j).2.2.1 ∈ TB ∨ ∃ host, Cond.fieldLinkNest own idx (T j).1 (T j).2.1 (T j).2.2.1 host ∈ tables_1) ∧ (∀ k, k < N → parseFieldDescriptor (T k).2.2.1 = some (ty0 k)) ∧ (∀ a, a < N → ∀ b, b < N → a ≠ b → (T a).2.1 ≠ (T b).2.1) ∧ (T j).2.2.2 = false ∧ parseFieldDescriptor (T j).2.2.1 = some ty
theorem pw_getf {k j ci idx : Nat} {fs : List (Option Nat)} {f : Option Nat} (dg : decode M.2.1 pc = .ok (.getfield idx, 3)) (hF : FA_ M.1.cls idx ci j) (hL : Lay[k]? = some (.inl (ci, fs))) (hf : fs[j]? = some f) (kk : PW_ E M R cells slots (pc + 3) lv (fv_ E G k j f :: rest) G Q) : PW_ E M R cells slots pc lv (.ref (ev_ad E k) :: rest) G Q := by
  intro p e s m args below meth c A Qz C hr H locs ls hP hS hl
  obtain ⟨Cn, T, N, hc, hin, hj, hlk⟩ := hF
  have hv : (fs.mapIdx (fun j f => fv_ E G k j f))[j]? = some (fv_ E G k j f) := by rw [List.getElem?_mapIdx, hf]; rfl
  rcases hlk with hlk | ⟨host, hlk⟩
  · exact va_get C.1 C.2.1 C.ts hin C.own C.K hP k (wo_at hL) hc j hj (C.w hlk) (fun _ h => h) hv dg (kk p e s m args below meth c A Qz C hr H locs ls hP hS hl)
  · exact va_getN C.1 C.2.1 C.ts hin C.own C.K hP k (wo_at hL) hc j hj (va_Nw.use rfl (C.X.1 _ _ _ _ _ _ hlk)) (fun _ h => h) hv dg (kk p e s m args below meth c A Qz C hr H locs ls hP hS hl)
theorem pw_geti {k j ci idx : Nat} {fs : List (Option Nat)} (dg : decode M.2.1 pc = .ok (.getfield idx, 3)) (hF : FA_ M.1.cls idx ci j) (hL : Lay[k]? = some (.inl (ci, fs))) (hf : fs[j]? = some none) {v : Int32} (hv : G k j = v) (kk : PW_ E M R cells slots (pc + 3) lv (.int v :: rest) G Q) : PW_ E M R cells slots pc lv (.ref (ev_ad E k) :: rest) G Q := pw_getf dg hF hL hf (by subst hv; exact kk)
theorem pw_getr {k j ci idx q : Nat} {fs : List (Option Nat)} (dg : decode M.2.1 pc = .ok (.getfield idx, 3)) (hF : FA_ M.1.cls idx ci j) (hL : Lay[k]? = some (.inl (ci, fs))) (hf : fs[j]? = some (some q)) (kk : PW_ E M R cells slots (pc + 3) lv (.ref (ev_ad E q) :: rest) G Q) : PW_ E M R cells slots pc lv (.ref (ev_ad E k) :: rest) G Q := pw_getf dg hF hL hf kk
theorem pw_put {k j ci idx : Nat} {fs : List (Option Nat)} {ty : FieldType} {v : Int32} (dg : decode M.2.1 pc = .ok (.putfield idx, 3)) (hF : FP_ M.1.cls idx ci j ty) (hL : Lay[k]? = some (.inl (ci, fs))) (hf : fs[j]? = some none) (hn : narrow ty (.int v) = .int v) (hft : fits ty (.int v) = true) (kk : PW_ E M R cells slots (pc + 3) lv rest (gu_ G k j v) Q) : PW_ E M R cells slots pc lv (.int v :: .ref (ev_ad E k) :: rest) G Q := by
  intro p e s m args below meth c A Qz C hr H locs ls hP hS hl
  obtain ⟨Cn, T, N, ty0, hc, hin, hj, hlk, hty, hnm, hfin, hd⟩ := hF
  have hlen : j < (fs.mapIdx (fun j f => fv_ E G k j f)).length := by rw [List.length_mapIdx]; exact (List.getElem?_eq_some_iff.mp hf).1
  rcases hlk with hlk | ⟨host, hlk⟩
  · refine va_put C.1 C.2.1 C.ts hin ty0 hty hnm C.own C.K hP (C.D G) hS k (wo_at hL) hc j hj (C.w hlk) (fun _ h => h) hfin hd hn hft hlen dg (fun H1 locs1 hP1 _ hS1 => ?_)
    exact kk p e s m args below meth c A Qz C hr H1 locs1 ls (by rw [← wo_setF v hL hf]; exact hP1) hS1 hl
  · refine va_putN C.1 C.2.1 C.ts hin ty0 hty hnm C.own C.K hP (C.D G) hS k (wo_at hL) hc j hj (va_Nw.use rfl (C.X.1 _ _ _ _ _ _ hlk)) (fun _ h => h) hfin hd hn hft hlen dg (fun H1 locs1 hP1 _ hS1 => ?_)
    exact kk p e s m args below meth c A Qz C hr H1 locs1 ls (by rw [← wo_setF v hL hf]; exact hP1) hS1 hl
theorem pw_puti {k j ci idx : Nat} {fs : List (Option Nat)} {v : Int32} (dg : decode M.2.1 pc = .ok (.putfield idx, 3)) (hF : FP_ M.1.cls idx ci j .int) (hL : Lay[k]? = some (.inl (ci, fs))) (hf : fs[j]? = some none) (kk : PW_ E M R cells slots (pc + 3) lv rest (gu_ G k j v) Q) : PW_ E M R cells slots pc lv (.int v :: .ref (ev_ad E k) :: rest) G Q := pw_put dg hF hL hf rfl rfl kk
/-- 0 or 1 -/
def bz_ (v : Int32) : Prop := v = 0 ∨ v = 1
theorem bz_n {v : Int32} (h : bz_ v) : narrow .boolean (.int v) = .int v := by rcases h with rfl | rfl <;> rfl
theorem bz_f {v : Int32} (h : bz_ v) : fits .boolean (.int v) = true := by rcases h with rfl | rfl <;> rfl
theorem pw_putz {k j ci idx : Nat} {fs : List (Option Nat)} {v : Int32} (dg : decode M.2.1 pc = .ok (.putfield idx, 3)) (hF : FP_ M.1.cls idx ci j .boolean) (hL : Lay[k]? = some (.inl (ci, fs))) (hf : fs[j]? = some none) (hz : bz_ v) (kk : PW_ E M R cells slots (pc + 3) lv rest (gu_ G k j v) Q) : PW_ E M R cells slots pc lv (.int v :: .ref (ev_ad E k) :: rest) G Q := pw_put dg hF hL hf (bz_n hz) (bz_f hz) kk
theorem pw_iald {k n : Nat} {i : Int32} (dg : decode M.2.1 pc = .ok (.iaload, 1)) (hL : Lay[k]? = some (.inr (0, n))) (hin : vp_in i n) {v : Int32} (hv : G k i.toNatClampNeg = v) (kk : PW_ E M R cells slots (pc + 1) lv (.int v :: rest) G Q) : PW_ E M R cells slots pc lv (.int i :: .ref (ev_ad E k) :: rest) G Q := fun p e s m args below meth c A Qz C hr H locs ls hP hS hl => va_iald (q0 := k) (t0 := 0) (cA := ev_cA E 0) (n := n) (f := G k) C.1 C.2.1 C.K hP (ha := wo_at hL) (ht := rfl) hin dg (by subst hv; exact (kk p e s m args below meth c A Qz C hr H locs ls hP hS hl))
theorem pw_bald {k n : Nat} {i : Int32} (dg : decode M.2.1 pc = .ok (.baload, 1)) (hL : Lay[k]? = some (.inr (1, n))) (hin : vp_in i n) {v : Int32} (hv : G k i.toNatClampNeg = v) (kk : PW_ E M R cells slots (pc + 1) lv (.int v :: rest) G Q) : PW_ E M R cells slots pc lv (.int i :: .ref (ev_ad E k) :: rest) G Q := fun p e s m args below meth c A Qz C hr H locs ls hP hS hl => va_bald (q0 := k) (t0 := 1) (cA := ev_cA E 1) (n := n) (f := G k) C.1 C.2.1 C.K hP (ha := wo_at hL) (ht := rfl) hin dg (by subst hv; exact (kk p e s m args below meth c A Qz C hr H locs ls hP hS hl))
theorem pw_zald {k n : Nat} {i : Int32} (dg : decode M.2.1 pc = .ok (.baload, 1)) (hL : Lay[k]? = some (.inr (2, n))) (hin : vp_in i n) {v : Int32} (hv : G k i.toNatClampNeg = v) (kk : PW_ E M R cells slots (pc + 1) lv (.int v :: rest) G Q) : PW_ E M R cells slots pc lv (.int i :: .ref (ev_ad E k) :: rest) G Q := fun p e s m args below meth c A Qz C hr H locs ls hP hS hl => va_zald (q0 := k) (t0 := 2) (cA := ev_cA E 2) (n := n) (f := G k) C.1 C.2.1 C.K hP (ha := wo_at hL) (ht := rfl) hin dg (by subst hv; exact (kk p e s m args below meth c A Qz C hr H locs ls hP hS hl))
theorem pw_iast {k n : Nat} {i x : Int32} (dg : decode M.2.1 pc = .ok (.iastore, 1)) (hL : Lay[k]? = some (.inr (0, n))) (hin : vp_in i n) {z : Nat} (hz : i.toNatClampNeg = z) (kk : PW_ E M R cells slots (pc + 1) lv rest (gu_ G k z (x)) Q) : PW_ E M R cells slots pc lv (.int x :: .int i :: .ref (ev_ad E k) :: rest) G Q := by
  subst hz
  intro p e s m args below meth c A Qz C hr H locs ls hP hS hl
  refine va_iast (q0 := k) (t0 := 0) (cA := ev_cA E 0) (n := n) (f := G k) C.1 C.2.1 C.K hP (C.D G) hS (ha := wo_at hL) (ht := rfl) hin dg (fun H1 locs1 hP1 _ hS1 => ?_)
  exact kk p e s m args below meth c A Qz C hr H1 locs1 ls (by show va_P _ _ (wo_ E (gf_ G k (upd (G k) i.toNatClampNeg (x)))) H1; rw [← wo_setA _ hL]; exact hP1) hS1 hl
theorem pw_bast {k n : Nat} {i x : Int32} (dg : decode M.2.1 pc = .ok (.bastore, 1)) (hL : Lay[k]? = some (.inr (1, n))) (hin : vp_in i n) {z : Nat} (hz : i.toNatClampNeg = z) (kk : PW_ E M R cells slots (pc + 1) lv rest (gu_ G k z (vp_nar .byte x)) Q) : PW_ E M R cells slots pc lv (.int x :: .int i :: .ref (ev_ad E k) :: rest) G Q := by
  subst hz
  intro p e s m args below meth c A Qz C hr H locs ls hP hS hl
  refine va_bast (q0 := k) (t0 := 1) (cA := ev_cA E 1) (n := n) (f := G k) C.1 C.2.1 C.K hP (C.D G) hS (ha := wo_at hL) (ht := rfl) hin dg (fun H1 locs1 hP1 _ hS1 => ?_)
  exact kk p e s m args below meth c A Qz C hr H1 locs1 ls (by show va_P _ _ (wo_ E (gf_ G k (upd (G k) i.toNatClampNeg (vp_nar .byte x)))) H1; rw [← wo_setA _ hL]; exact hP1) hS1 hl
theorem pw_zast {k n : Nat} {i x : Int32} (dg : decode M.2.1 pc = .ok (.bastore, 1)) (hL : Lay[k]? = some (.inr (2, n))) (hin : vp_in i n) {z : Nat} (hz : i.toNatClampNeg = z) (kk : PW_ E M R cells slots (pc + 1) lv rest (gu_ G k z (vp_nar .boolean x)) Q) : PW_ E M R cells slots pc lv (.int x :: .int i :: .ref (ev_ad E k) :: rest) G Q := by
  subst hz
  intro p e s m args below meth c A Qz C hr H locs ls hP hS hl
  refine va_zast (q0 := k) (t0 := 2) (cA := ev_cA E 2) (n := n) (f := G k) C.1 C.2.1 C.K hP (C.D G) hS (ha := wo_at hL) (ht := rfl) hin dg (fun H1 locs1 hP1 _ hS1 => ?_)
  exact kk p e s m args below meth c A Qz C hr H1 locs1 ls (by show va_P _ _ (wo_ E (gf_ G k (upd (G k) i.toNatClampNeg (vp_nar .boolean x)))) H1; rw [← wo_setA _ hL]; exact hP1) hS1 hl
theorem pw_alen {k t n : Nat} {v : Int32} {ty : FieldType} (dg : decode M.2.1 pc = .ok (.arraylength, 1)) (hL : Lay[k]? = some (.inr (t, n))) (hv : Int32.ofNat n = v) (ht : (ty_ E)[t]? = some (ev_cA E t, ty)) (kk : PW_ E M R cells slots (pc + 1) lv (.int v :: rest) G Q) : PW_ E M R cells slots pc lv (.ref (ev_ad E k) :: rest) G Q := fun p e s m args below meth c A Qz C hr H locs ls hP hS hl => va_alen (q0 := k) (t0 := t) (cA := ev_cA E t) (x := (n, .inl (G k))) (ty := ty) C.1 C.2.1 C.K hP (ha := wo_at hL) (ht := ht) hv dg (kk p e s m args below meth c A Qz C hr H locs ls hP hS hl)
theorem pw_getru {idx : Nat} (dg : decode M.2.1 pc = .ok (.getstatic idx, 3)) (hlk : Cond.fieldLink M.1.cls idx "HearDifference" "RULERS" "[I" ∈ TB) (kk : PW_ E M R cells slots (pc + 3) lv (.ref (ev_ru E) :: rest) G Q) : PW_ E M R cells slots pc lv rest G Q := fun p e s m args below meth c A Qz C hr H locs ls hP hS hl => va_gets C.1 C.2.1 C.X.2.2.2.2.2.1 hS C.own (C.w hlk) (fun _ h => h) dg (kk p e s m args below meth c A Qz C hr H locs ls hP hS hl)
theorem pw_ruld {i : Int32} (dg : decode M.2.1 pc = .ok (.iaload, 1)) (hin : vp_in i 21) (kk : PW_ E M R cells slots (pc + 1) lv (.int (ru_.getD i.toNatClampNeg 0) :: rest) G Q) : PW_ E M R cells slots pc lv (.int i :: .ref (ev_ru E) :: rest) G Q := by
  intro p e s m args below meth c A Qz C hr H locs ls hP hS hl
  obtain ⟨cell, h1, h2, h3, h4, h5, h6, h7⟩ := C.X.2.2.2.2.2.2.1.kept hS.2.1
  have hlt : i.toNatClampNeg < 21 := Nat.not_le.mp fun q => hin (Or.inr q)
  exact W.iald (v := .int (ru_.getD i.toNatClampNeg 0)) C.1 C.2.1 h1 h2 h3 (fun q => q.elim (fun z => hin (Or.inl z)) (fun z => by omega)) (h6 _ hlt) rfl rfl dg (kk p e s m args below meth c A Qz C hr H locs ls hP hS hl)
theorem pw_strv {idx i : Nat} (hi : i < nk_) (dg : decode M.2.1 pc = .ok (.getfield idx, 3)) (hlk : Cond.fieldLink M.1.cls idx "java/lang/String" "value" "[B" ∈ TB) (kk : PW_ E M R cells slots (pc + 3) lv (.ref (ev_aV E i) :: rest) G Q) : PW_ E M R cells slots pc lv (.ref (ev_aK E i) :: rest) G Q := fun p e s m args below meth c A Qz C hr H locs ls hP hS hl => vk_getf C.1 C.2.1 (C.X.2.2.2.1.1 i hi).2.2.1 hS C.own (C.w hlk) (fun _ h => h) dg (kk p e s m args below meth c A Qz C hr H locs ls hP hS hl)
theorem pw_strc {idx i : Nat} (hi : i < nk_) (dg : decode M.2.1 pc = .ok (.getfield idx, 3)) (hlk : Cond.fieldLink M.1.cls idx "java/lang/String" "coder" "B" ∈ TB) (kk : PW_ E M R cells slots (pc + 3) lv (.int 0 :: rest) G Q) : PW_ E M R cells slots pc lv (.ref (ev_aK E i) :: rest) G Q := fun p e s m args below meth c A Qz C hr H locs ls hP hS hl => vk_getf C.1 C.2.1 (C.X.2.2.2.1.1 i hi).2.1 hS C.own (C.w hlk) (fun _ h => h) dg (kk p e s m args below meth c A Qz C hr H locs ls hP hS hl)
theorem pw_strl {i : Nat} (hi : i < nk_) (dg : decode M.2.1 pc = .ok (.arraylength, 1)) (kk : PW_ E M R cells slots (pc + 1) lv (.int (nI (kl_.getD i 0)) :: rest) G Q) : PW_ E M R cells slots pc lv (.ref (ev_aV E i) :: rest) G Q := by
  intro p e s m args below meth c A Qz C hr H locs ls hP hS hl
  obtain ⟨cell, h1, h2, h3, h4, h5, h6, h7⟩ := (C.X.2.2.2.1.1 i hi).2.2.2.kept hS.2.1
  exact W.alen C.1 C.2.1 h1 h2 h5 rfl rfl dg (kk p e s m args below meth c A Qz C hr H locs ls hP hS hl)
theorem pw_strb {i : Nat} {k : Int32} (hi : i < nk_) (dg : decode M.2.1 pc = .ok (.baload, 1)) (hin : vp_in k (kl_.getD i 0)) (hbig : ∀ (c : Cell), kl_.getD i 0 ≤ c.slots.size → c.slots.size.toInt32 = Int32.ofNat (kl_.getD i 0) → ¬ (k < 0 ∨ c.slots.size ≤ k.toNatClampNeg)) (kk : PW_ E M R cells slots (pc + 1) lv (.int ((kb_.getD i []).getD k.toNatClampNeg 0) :: rest) G Q) : PW_ E M R cells slots pc lv (.int k :: .ref (ev_aV E i) :: rest) G Q := by
  intro p e s m args below meth c A Qz C hr H locs ls hP hS hl
  obtain ⟨cell, h1, h2, h3, h4, h5, h6, h7⟩ := (C.X.2.2.2.1.1 i hi).2.2.2.kept hS.2.1
  have hlt : k.toNatClampNeg < kl_.getD i 0 := Nat.not_le.mp fun q => hin (Or.inr q)
  exact W.bald (v := .int ((kb_.getD i []).getD k.toNatClampNeg 0)) C.1 C.2.1 h1 h2 h3 (hbig cell h4 h5) (h6 _ hlt) rfl rfl dg (kk p e s m args below meth c A Qz C hr H locs ls hP hS hl)
theorem pw_getcs {idx : Nat} (dg : decode M.2.1 pc = .ok (.getstatic idx, 3)) (hlk : Cond.fieldLink M.1.cls idx "java/lang/String" "COMPACT_STRINGS" "Z" ∈ TB) (kk : PW_ E M R cells slots (pc + 3) lv (.int 1 :: rest) G Q) : PW_ E M R cells slots pc lv rest G Q := fun p e s m args below meth c A Qz C hr H locs ls hP hS hl => va_gets C.1 C.2.1 C.X.2.2.2.2.1 hS C.own (C.w hlk) (fun _ h => h) dg (kk p e s m args below meth c A Qz C hr H locs ls hP hS hl)
theorem pw_getfm {idx : Nat} (dg : decode M.2.1 pc = .ok (.getstatic idx, 3)) (hlk : Cond.fieldLink M.1.cls idx "jdk/internal/util/Preconditions" "SIOOBE_FORMATTER" "Ljava/util/function/BiFunction;" ∈ TB) (kk : PW_ E M R cells slots (pc + 3) lv (va_rf (ev_fm E) :: rest) G Q) : PW_ E M R cells slots pc lv rest G Q := fun p e s m args below meth c A Qz C hr H locs ls hP hS hl => va_gets C.1 C.2.1 C.X.2.2.2.2.2.2.2.1 hS C.own (C.w hlk) (fun _ h => h) dg (kk p e s m args below meth c A Qz C hr H locs ls hP hS hl)
theorem pw_sld {i : Int32} (dg : decode M.2.1 pc = .ok (.iaload, 1)) (hin : vp_in i (ev_L E)) (kk : PW_ E M R cells slots (pc + 1) lv (.int (ev_xs E i.toNatClampNeg) :: rest) G Q) : PW_ E M R cells slots pc lv (.int i :: .ref (ev_b E) :: rest) G Q := fun p e s m args below meth c A Qz C hr H locs ls hP hS hl => va_sld C.1 C.2.1 C.X.2.2.2.2.2.2.2.2.1 C.X.2.2.2.2.2.2.2.2.2.2 C.X.2.2.2.2.2.2.2.2.2.1 hS hin dg (kk p e s m args below meth c A Qz C hr H locs ls hP hS hl)
theorem pw_slen (dg : decode M.2.1 pc = .ok (.arraylength, 1)) (kk : PW_ E M R cells slots (pc + 1) lv (.int (Int32.ofNat (ev_L E)) :: rest) G Q) : PW_ E M R cells slots pc lv (.ref (ev_b E) :: rest) G Q := fun p e s m args below meth c A Qz C hr H locs ls hP hS hl => va_slen C.1 C.2.1 C.X.2.2.2.2.2.2.2.2.1 C.X.2.2.2.2.2.2.2.2.2.2 C.X.2.2.2.2.2.2.2.2.2.1 hS dg (kk p e s m args below meth c A Qz C hr H locs ls hP hS hl)
def JM_min (own : String) (idx : Nat) : Prop := Cond.methodLink own idx Lib.Math.min.name ∈ TB ∧ Cond.static Lib.Math.min.name ∈ TB ∧ Cond.initialized "java/lang/Math" ∈ TB ∧ Cond.code Lib.Math.min.name Lib.Math.min.code 2 (some .int) ∈ TB
theorem pw_mmin {idx : Nat} {x y : Int32} (dg : decode M.2.1 pc = .ok (.invokestatic idx, 3)) (hJ : JM_min M.1.cls idx) (hd : 1 ≤ R.frames ∧ 40 ≤ R.locals) (hcs : cells ≤ R.cells ∧ slots ≤ R.slots) (hrest : (rest.map fun v => v.category).sum ≤ 8) (kk : PW_ E M R cells slots (pc + 3) lv (.int (if y < x then y else x) :: rest) G Q) : PW_ E M R cells slots pc lv (.int y :: .int x :: rest) G Q := fun p e s m args below meth c A Qz C hr H locs ls hP hS hl => va_mmin C.1 C.2.1 (C.2.2.1.trans hl.1.symm) C.own (C.w hJ.1) (C.w hJ.2.1) (C.w hJ.2.2.1) (C.w hJ.2.2.2) hd.1 (by omega) hcs.1 hcs.2 dg (kk p e s m args below meth c A Qz C hr H locs ls hP hS hl)
def JM_max (own : String) (idx : Nat) : Prop := Cond.methodLink own idx Lib.Math.max.name ∈ TB ∧ Cond.static Lib.Math.max.name ∈ TB ∧ Cond.initialized "java/lang/Math" ∈ TB ∧ Cond.code Lib.Math.max.name Lib.Math.max.code 2 (some .int) ∈ TB
theorem pw_mmax {idx : Nat} {x y : Int32} (dg : decode M.2.1 pc = .ok (.invokestatic idx, 3)) (hJ : JM_max M.1.cls idx) (hd : 1 ≤ R.frames ∧ 40 ≤ R.locals) (hcs : cells ≤ R.cells ∧ slots ≤ R.slots) (hrest : (rest.map fun v => v.category).sum ≤ 8) (kk : PW_ E M R cells slots (pc + 3) lv (.int (if x < y then y else x) :: rest) G Q) : PW_ E M R cells slots pc lv (.int y :: .int x :: rest) G Q := fun p e s m args below meth c A Qz C hr H locs ls hP hS hl => va_mmax C.1 C.2.1 (C.2.2.1.trans hl.1.symm) C.own (C.w hJ.1) (C.w hJ.2.1) (C.w hJ.2.2.1) (C.w hJ.2.2.2) hd.1 (by omega) hcs.1 hcs.2 dg (kk p e s m args below meth c A Qz C hr H locs ls hP hS hl)
def JM_abs (own : String) (idx : Nat) : Prop := Cond.methodLink own idx Lib.Math.abs.name ∈ TB ∧ Cond.static Lib.Math.abs.name ∈ TB ∧ Cond.initialized "java/lang/Math" ∈ TB ∧ Cond.code Lib.Math.abs.name Lib.Math.abs.code 1 (some .int) ∈ TB
theorem pw_mabs {idx : Nat} {x : Int32} (dg : decode M.2.1 pc = .ok (.invokestatic idx, 3)) (hJ : JM_abs M.1.cls idx) (hd : 1 ≤ R.frames ∧ 40 ≤ R.locals) (hcs : cells ≤ R.cells ∧ slots ≤ R.slots) (hrest : (rest.map fun v => v.category).sum ≤ 8) (kk : PW_ E M R cells slots (pc + 3) lv (.int (if 0 ≤ x then x else 0 - x) :: rest) G Q) : PW_ E M R cells slots pc lv (.int x :: rest) G Q := fun p e s m args below meth c A Qz C hr H locs ls hP hS hl => va_mabs C.1 C.2.1 (C.2.2.1.trans hl.1.symm) C.own (C.w hJ.1) (C.w hJ.2.1) (C.w hJ.2.2.1) (C.w hJ.2.2.2) hd.1 (by omega) hcs.1 hcs.2 dg (kk p e s m args below meth c A Qz C hr H locs ls hP hS hl)
def JC_ (own : String) (idx : Nat) : Prop := Cond.methodLink own idx arraycopyName ∈ TB ∧ Cond.native arraycopyName ∈ TB ∧ Cond.static arraycopyName ∈ TB ∧ Cond.initialized "java/lang/System" ∈ TB
theorem pw_copy {idx k0 k1 n0 n1 : Nat} {sp dp n : Int32} (dg : decode M.2.1 pc = .ok (.invokestatic idx, 3)) (hJ : JC_ M.1.cls idx) (hL0 : Lay[k0]? = some (.inr (0, n0))) (hL1 : Lay[k1]? = some (.inr (0, n1))) (hb : cp_ sp dp n n0 n1) (hd : 1 ≤ R.frames ∧ 40 ≤ R.locals) (hrest : rest = []) (kk : PW_ E M R cells slots (pc + 3) lv rest (gf_ G k1 (va_cpy (G k0) (G k1) sp.toNatClampNeg dp.toNatClampNeg n.toNatClampNeg)) Q) : PW_ E M R cells slots pc lv (.int n :: .int dp :: .ref (ev_ad E k1) :: .int sp :: .ref (ev_ad E k0) :: rest) G Q := by
  intro p e s m args below meth c A Qz C hr H locs ls hP hS hl
  subst hrest
  obtain ⟨h1, h2, h3, h4, h5⟩ := hb
  refine va_copyi (q0 := k0) (q1 := k1) (t0 := 0) (t1 := 0) (c0 := ev_cA E 0) (c1 := ev_cA E 0) (n0 := n0) (n1 := n1) (f := G k0) (g := G k1) (ty := .int) C.1 C.2.1 (C.2.2.1.trans hl.1.symm) C.own (C.w hJ.1) (C.w hJ.2.1) (C.w hJ.2.2.1) (C.w hJ.2.2.2) C.K hP (C.D G) hS (ha0 := wo_at hL0) (ha1 := wo_at hL1) (ht0 := rfl) (ht1 := rfl) rfl h1 h2 h3 h4 h5 (fun _ _ => rfl) hd.1 (Nat.le_trans (Nat.le_of_ble_eq_true (by decide +kernel)) hd.2) dg (fun H1 locs1 hP1 _ hS1 => ?_)
  exact kk p e s m args below meth c A Qz C hr H1 locs1 ls (by rw [← wo_setA _ hL1]; exact hP1) hS1 hl
/-- behind a call of a method with a contract -/
theorem pw_run {M2 : MI} {d : Nat} {Q2 : Option Value → GS → Prop} {st0 : List Value} {av : List Value}
    (hrun : ∀ (p : Program) (e : Env) (s : State) (m : MethodId) (args : Array Value) (below : List Frame) (meth : Method) (c : Code) (A : Nat → Prop) (H : Heap) (locs : List Loc) (ls : Array Slot), Cx_ E M p s m args c A → va_P (ev_D E) vwCl (wo_ E G) H → va_S A s.heap H locs → lv_has ls M.2.2.1 lv →
      va_Run p (ev_l E) e R s m args below meth c H locs cells slots 0 0 (F0 m pc ls st0) rest (qc_ E Q2 av.toArray) (A0_ E))
    (kk : ∀ r G', Q2 r G' → PW_ E M R cells slots (pc + 3) lv (r.toList ++ rest) G' Q) : PW_ E M R cells slots pc lv st0 G Q := by
  intro p e s m args below meth c A Qz C hr H locs ls hP hS hl T hT X
  obtain ⟨v, st₀, t, T', L, h0, X', hL, e1, e2, ⟨⟨r, G', hv, hq, hP'⟩, hz, hk⟩, st⟩ := hrun p e s m args below meth c A H locs ls C hP hS hl T hT X
  cases hv
  rw [h0] at hz hk
  have hA : ∀ q, A0_ E q → A q := by
    rintro q ⟨k, hk, rfl⟩
    exact C.2.2.2.2.2.2.1 k hk
  obtain ⟨t2, a1, b1⟩ := kk v G' hq p e s m args below meth c A Qz C hr T'.heap (locs ++ L) ls (by rw [e1]; exact hP') ⟨Nat.le_trans hS.1 (by rw [e1]; exact hz), fun q h1 h2 => by rw [e1, hk q (Nat.lt_of_lt_of_le h1 hS.1) (fun z => h2 (hA q z))]; exact hS.2.1 q h1 h2, fun q hq => by
      rcases List.mem_append.mp hq with h | h
      · exact hS.2.2 q h
      · exact hA _ (hL q h)⟩ hl T' rfl X'
  exact ⟨t2, st t2 a1, b1⟩
theorem pc_blind {av : List Value} : FrameBlind (pc_ E av G) := by
  intro a U g mk ⟨h1, h2, h3, h4⟩
  exact ⟨h1, h2, va_K.moved (u := U) (U := U.calling g mk a) (Vm.Alike.refl U.vm) h3, h4.moved (U := U.calling g mk a) (State.WarmedH.refl U) (fun _ _ _ => rfl) (fun _ h => h)⟩
theorem pc_at {p : Program} {s : State} {m : MethodId} {args : Array Value} {c : Code} {A : Nat → Prop} {H : Heap} {locs : List Loc} {av : List Value} (C : Cx_ E M p s m args c A) (hP : va_P (ev_D E) vwCl (wo_ E G) H) (hS : va_S A s.heap H locs) : ∀ U : State, U.heap = H → s.WarmedH U.vm → pc_ E av G av.toArray U := by
  intro U hU hW
  refine ⟨rfl, by rw [hU]; exact hP, va_K.moved hW.alike C.K, C.X.moved hW (fun a h1 h2 => by rw [hU]; exact hS.2.1 a h1 h2) ?_⟩
  rintro q ⟨k, hk, rfl⟩
  exact C.2.2.2.2.2.2.1 k hk
theorem pw_recv {p : Program} {s : State} {m : MethodId} {args : Array Value} {c : Code} {A : Nat → Prop} {H : Heap} (C : Cx_ E M p s m args c A) (hP : va_P (ev_D E) vwCl (wo_ E G) H) {k ci N : Nat} {fs : List (Option Nat)} {Cn : String} {T : u_T} (hL : Lay[k]? = some (.inl (ci, fs))) (hc : vwCl[ci]? = some (Cn, T, N)) : ∃ cell : Cell, H[ev_ad E k]? = some cell ∧ cell.vm.isStatics = false ∧ s.vm.findClass Cn = some cell.cls := by
  obtain ⟨r, h1, cell, q1, q2, q3, -⟩ := hP k _ (wo_at hL)
  have hr : r = (Cn, T, N) := Option.some.inj (h1.symm.trans hc)
  subst hr
  obtain ⟨-, hfc, -⟩ := C.K.1 ci _ hc
  exact ⟨cell, q1, by rw [q3]; rfl, by rw [q2]; exact hfc⟩
/-- a call of an instance method (of the same class, or a nest mate's private one) -/
theorem pw_callV {M2 : MI} {d n idx : Nat} {Q2 : Option Value → GS → Prop} {As : List Value} {k ci N : Nat} {fs : List (Option Nat)} {T : u_T}
    (hM : PMet E M2 d (.ref (ev_ad E k) :: As) G Q2) (dg : decode M.2.1 pc = .ok (.invokevirtual idx, 3)) (hL : Lay[k]? = some (.inl (ci, fs))) (hc : vwCl[ci]? = some (M2.1.cls, T, N))
    (hlk : Cond.methodLink M.1.cls idx M2.1 ∈ TB ∨ ∃ host, Cond.methodLinkNest M.1.cls idx M2.1 host ∈ tables_1) (hst : CM_ M2 n) (hn : As.length = n) (hd : d + 1 ≤ R.frames ∧ 40 * (d + 1) ≤ R.locals) (hcs : cells ≤ R.cells ∧ slots ≤ R.slots) (hrest : (rest.map fun v => v.category).sum ≤ 8)
    (kk : ∀ r G', Q2 r G' → PW_ E M R cells slots (pc + 3) lv (r.toList ++ rest) G' Q) : PW_ E M R cells slots pc lv (As.reverse ++ .ref (ev_ad E k) :: rest) G Q := by
  obtain ⟨hcode, hini, hins, hsel, hy1, hy2, hpar, hmax⟩ := hst
  refine pw_run (M2 := M2) (d := d) (av := .ref (ev_ad E k) :: As) (Q2 := Q2) ?_ kk
  intro p e s m args below meth c A H locs ls C hP hS hl
  have hR : (rm_ d).frames + 1 ≤ R.frames ∧ 8 + (M2.2.2.1 + 11) + (rm_ d).locals ≤ R.locals := ⟨hd.1, by show 8 + (M2.2.2.1 + 11) + 40 * d ≤ R.locals; omega⟩
  rcases hlk with hlk | ⟨host, hlk⟩
  · exact va_runV (Ts := mw_ M) (own := M.1.cls) ⟨C.1, C.2.1, C.2.2.1, C.own, C.2.2.2.2.1⟩ hM ⟨callB_of n C.2.2.2.2.1 (tb_good hcode) rfl rfl rfl (C.w hini) (C.w hlk) ⟨hy1, hy2, hpar⟩ hR, C.w hins, C.w hsel⟩ ⟨pc_blind, pw_recv C hP hL hc, pc_at C hP hS⟩ rfl hn hl.1 rfl (lv_room hrest) dg ⟨by simpa using hcs.1, by simpa using hcs.2⟩
  · exact va_runVN (Ts := mw_ M) (own := M.1.cls) (host := host) ⟨C.1, C.2.1, C.2.2.1, C.own, C.2.2.2.2.1⟩ hM ⟨va_cnB n C.2.2.2.2.1 (tb_good hcode) rfl rfl rfl (C.X.2.1 _ _ _ _ hlk) (C.w hini) ⟨hy1, hy2, hpar⟩ hR, C.w hins, C.w hsel⟩ ⟨pc_blind, pw_recv C hP hL hc, pc_at C hP hS⟩ rfl hn hl.1 rfl (lv_room hrest) dg ⟨by simpa using hcs.1, by simpa using hcs.2⟩
/-- a call of a static method -/
theorem pw_callS {M2 : MI} {d n idx : Nat} {Q2 : Option Value → GS → Prop} {As : List Value}
    (hM : PMet E M2 d As G Q2) (dg : decode M.2.1 pc = .ok (.invokestatic idx, 3))
    (hlk : Cond.methodLink M.1.cls idx M2.1 ∈ TB) (hst : CS_ M2 n) (hn : As.length = n) (hd : d + 1 ≤ R.frames ∧ 40 * (d + 1) ≤ R.locals) (hcs : cells ≤ R.cells ∧ slots ≤ R.slots) (hrest : (rest.map fun v => v.category).sum ≤ 8)
    (kk : ∀ r G', Q2 r G' → PW_ E M R cells slots (pc + 3) lv (r.toList ++ rest) G' Q) : PW_ E M R cells slots pc lv (As.reverse ++ rest) G Q := by
  obtain ⟨hcode, hini, hsta, hy1, hy2, hpar, hmax⟩ := hst
  refine pw_run (M2 := M2) (d := d) (av := As) (Q2 := Q2) ?_ kk
  intro p e s m args below meth c A H locs ls C hP hS hl
  have hR : (rm_ d).frames + 1 ≤ R.frames ∧ 8 + (M2.2.2.1 + 11) + (rm_ d).locals ≤ R.locals := ⟨hd.1, by show 8 + (M2.2.2.1 + 11) + 40 * d ≤ R.locals; omega⟩
  exact va_runS (Ts := mw_ M) (own := M.1.cls) ⟨C.1, C.2.1, C.2.2.1, C.own, C.2.2.2.2.1⟩ hM ⟨callB_of n C.2.2.2.2.1 (tb_good hcode) rfl rfl rfl (C.w hini) (C.w hlk) ⟨hy1, hy2, hpar⟩ hR, C.w hsta⟩ ⟨pc_blind, pc_at C hP hS⟩ rfl hn hl.1 rfl (lv_room hrest) dg ⟨by simpa using hcs.1, by simpa using hcs.2⟩
end PWROWS
end
