theorem ly_0 : Lay[0]? = some (.inl (9, [some 1, some 14, none, some 27, some 33, none, none, none, some 38, some 40, some 43, some 47])) := rfl
theorem ly_1 : Lay[1]? = some (.inl (8, [none, none, some 2, some 3, none, none, none, some 4, some 5, none, some 6, some 7, none, some 8, some 9, some 12])) := rfl
theorem ly_2 : Lay[2]? = some (.inr (0, 10)) := rfl
theorem ly_3 : Lay[3]? = some (.inr (0, 10)) := rfl
theorem ly_4 : Lay[4]? = some (.inr (0, 48)) := rfl
theorem ly_5 : Lay[5]? = some (.inr (0, 4)) := rfl
theorem ly_6 : Lay[6]? = some (.inr (0, 8)) := rfl
theorem ly_7 : Lay[7]? = some (.inr (0, 8)) := rfl
theorem ly_8 : Lay[8]? = some (.inr (0, 15)) := rfl
theorem ly_9 : Lay[9]? = some (.inl (4, [none, none, some 10, none, some 11])) := rfl
theorem ly_10 : Lay[10]? = some (.inr (0, 16)) := rfl
theorem ly_11 : Lay[11]? = some (.inr (0, 400)) := rfl
theorem ly_12 : Lay[12]? = some (.inl (0, [none, some 13])) := rfl
theorem ly_13 : Lay[13]? = some (.inr (0, 500)) := rfl
theorem ly_14 : Lay[14]? = some (.inl (8, [none, none, some 15, some 16, none, none, none, some 17, some 18, none, some 19, some 20, none, some 21, some 22, some 25])) := rfl
theorem ly_15 : Lay[15]? = some (.inr (0, 10)) := rfl
theorem ly_16 : Lay[16]? = some (.inr (0, 10)) := rfl
theorem ly_17 : Lay[17]? = some (.inr (0, 48)) := rfl
theorem ly_18 : Lay[18]? = some (.inr (0, 4)) := rfl
theorem ly_19 : Lay[19]? = some (.inr (0, 8)) := rfl
theorem ly_20 : Lay[20]? = some (.inr (0, 8)) := rfl
theorem ly_21 : Lay[21]? = some (.inr (0, 15)) := rfl
theorem ly_22 : Lay[22]? = some (.inl (4, [none, none, some 23, none, some 24])) := rfl
theorem ly_23 : Lay[23]? = some (.inr (0, 16)) := rfl
theorem ly_24 : Lay[24]? = some (.inr (0, 400)) := rfl
theorem ly_25 : Lay[25]? = some (.inl (0, [none, some 26])) := rfl
theorem ly_26 : Lay[26]? = some (.inr (0, 500)) := rfl
theorem ly_27 : Lay[27]? = some (.inl (5, [none, none, some 28, some 29, some 30, some 31])) := rfl
theorem ly_28 : Lay[28]? = some (.inr (0, 80)) := rfl
theorem ly_29 : Lay[29]? = some (.inr (0, 8)) := rfl
theorem ly_30 : Lay[30]? = some (.inr (0, 8)) := rfl
theorem ly_31 : Lay[31]? = some (.inr (0, 8)) := rfl
theorem ly_32 : Lay[32]? = some (.inr (1, 400)) := rfl
theorem ly_33 : Lay[33]? = some (.inl (6, [some 32, some 34, none, none, none, none, none, none, none, none, none, none, some 37, none, none])) := rfl
theorem ly_34 : Lay[34]? = some (.inl (4, [none, none, some 35, none, some 36])) := rfl
theorem ly_35 : Lay[35]? = some (.inr (0, 16)) := rfl
theorem ly_36 : Lay[36]? = some (.inr (0, 400)) := rfl
theorem ly_37 : Lay[37]? = some (.inr (0, 32)) := rfl
theorem ly_38 : Lay[38]? = some (.inl (2, [some 39, none, none, none, none, none, none, none, none, none])) := rfl
theorem ly_39 : Lay[39]? = some (.inr (0, 32)) := rfl
theorem ly_40 : Lay[40]? = some (.inl (7, [some 41, some 42])) := rfl
theorem ly_41 : Lay[41]? = some (.inr (0, 8)) := rfl
theorem ly_42 : Lay[42]? = some (.inr (0, 8)) := rfl
theorem ly_43 : Lay[43]? = some (.inl (3, [some 44, some 45, some 46, none])) := rfl
theorem ly_44 : Lay[44]? = some (.inr (0, 6)) := rfl
theorem ly_45 : Lay[45]? = some (.inr (0, 6)) := rfl
theorem ly_46 : Lay[46]? = some (.inr (0, 25)) := rfl
theorem ly_47 : Lay[47]? = some (.inl (1, [some 48])) := rfl
theorem ly_48 : Lay[48]? = some (.inr (0, 5)) := rfl
theorem ly_49 : Lay[49]? = some (.inl (10, [none, some 50, some 51, none, none, none, some 52, none, some 53, some 54, none, none, none, none, none, some 55, none, some 56, some 57, some 58, some 59, some 60, none, none, some 61, none, none, none, none, none, some 62, some 63, some 64, some 65, some 66, none, some 67, some 68, some 69, none, some 70, some 71, some 72, some 73, none, none, none, some 74])) := rfl
theorem ly_50 : Lay[50]? = some (.inr (0, 13)) := rfl
theorem ly_51 : Lay[51]? = some (.inr (0, 104)) := rfl
theorem ly_52 : Lay[52]? = some (.inr (0, 10)) := rfl
theorem ly_53 : Lay[53]? = some (.inr (0, 500)) := rfl
theorem ly_54 : Lay[54]? = some (.inr (0, 400)) := rfl
theorem ly_55 : Lay[55]? = some (.inr (0, 71)) := rfl
theorem ly_56 : Lay[56]? = some (.inr (0, 32)) := rfl
theorem ly_57 : Lay[57]? = some (.inr (0, 32)) := rfl
theorem ly_58 : Lay[58]? = some (.inr (0, 32)) := rfl
theorem ly_59 : Lay[59]? = some (.inr (0, 800)) := rfl
theorem ly_60 : Lay[60]? = some (.inr (0, 800)) := rfl
theorem ly_61 : Lay[61]? = some (.inr (0, 40)) := rfl
theorem ly_62 : Lay[62]? = some (.inr (0, 9)) := rfl
theorem ly_63 : Lay[63]? = some (.inr (0, 420)) := rfl
theorem ly_64 : Lay[64]? = some (.inr (2, 61)) := rfl
theorem ly_65 : Lay[65]? = some (.inr (0, 4)) := rfl
theorem ly_66 : Lay[66]? = some (.inr (0, 48)) := rfl
theorem ly_67 : Lay[67]? = some (.inr (0, 8)) := rfl
theorem ly_68 : Lay[68]? = some (.inr (0, 8)) := rfl
theorem ly_69 : Lay[69]? = some (.inr (0, 8)) := rfl
theorem ly_70 : Lay[70]? = some (.inr (0, 15)) := rfl
theorem ly_71 : Lay[71]? = some (.inr (0, 6)) := rfl
theorem ly_72 : Lay[72]? = some (.inr (0, 61)) := rfl
theorem ly_73 : Lay[73]? = some (.inr (0, 6)) := rfl
theorem ly_74 : Lay[74]? = some (.inr (0, 1600)) := rfl
theorem ub_X0 : ∀ w ∈ u_ws RX0 TX0 2, w ∈ TB := fun w h => tb_t ((by decide +kernel : ∀ w ∈ u_ws RX0 TX0 2, w ∈ tables_1) w h) ((by decide +kernel : ∀ w ∈ u_ws RX0 TX0 2, goodWord w = true) w h)
theorem ub_X1 : ∀ w ∈ u_ws RX1 TX1 1, w ∈ TB := fun w h => tb_t ((by decide +kernel : ∀ w ∈ u_ws RX1 TX1 1, w ∈ tables_1) w h) ((by decide +kernel : ∀ w ∈ u_ws RX1 TX1 1, goodWord w = true) w h)
theorem ub_X2 : ∀ w ∈ u_ws RX2 TX2 10, w ∈ TB := fun w h => tb_t ((by decide +kernel : ∀ w ∈ u_ws RX2 TX2 10, w ∈ tables_1) w h) ((by decide +kernel : ∀ w ∈ u_ws RX2 TX2 10, goodWord w = true) w h)
theorem ub_X3 : ∀ w ∈ u_ws RX3 TX3 4, w ∈ TB := fun w h => tb_t ((by decide +kernel : ∀ w ∈ u_ws RX3 TX3 4, w ∈ tables_1) w h) ((by decide +kernel : ∀ w ∈ u_ws RX3 TX3 4, goodWord w = true) w h)
theorem ub_X4 : ∀ w ∈ u_ws RX4 TX4 5, w ∈ TB := fun w h => tb_t ((by decide +kernel : ∀ w ∈ u_ws RX4 TX4 5, w ∈ tables_1) w h) ((by decide +kernel : ∀ w ∈ u_ws RX4 TX4 5, goodWord w = true) w h)
theorem ub_X5 : ∀ w ∈ u_ws RX5 TX5 6, w ∈ TB := fun w h => tb_t ((by decide +kernel : ∀ w ∈ u_ws RX5 TX5 6, w ∈ tables_1) w h) ((by decide +kernel : ∀ w ∈ u_ws RX5 TX5 6, goodWord w = true) w h)
theorem ub_X6 : ∀ w ∈ u_ws RX6 TX6 15, w ∈ TB := fun w h => tb_t ((by decide +kernel : ∀ w ∈ u_ws RX6 TX6 15, w ∈ tables_1) w h) ((by decide +kernel : ∀ w ∈ u_ws RX6 TX6 15, goodWord w = true) w h)
theorem ub_X7 : ∀ w ∈ u_ws RX7 TX7 2, w ∈ TB := fun w h => tb_t ((by decide +kernel : ∀ w ∈ u_ws RX7 TX7 2, w ∈ tables_1) w h) ((by decide +kernel : ∀ w ∈ u_ws RX7 TX7 2, goodWord w = true) w h)
theorem ub_X8 : ∀ w ∈ u_ws RX8 TX8 16, w ∈ TB := fun w h => tb_t ((by decide +kernel : ∀ w ∈ u_ws RX8 TX8 16, w ∈ tables_1) w h) ((by decide +kernel : ∀ w ∈ u_ws RX8 TX8 16, goodWord w = true) w h)
theorem ub_X9 : ∀ w ∈ u_ws RX9 TX9 12, w ∈ TB := fun w h => tb_t ((by decide +kernel : ∀ w ∈ u_ws RX9 TX9 12, w ∈ tables_1) w h) ((by decide +kernel : ∀ w ∈ u_ws RX9 TX9 12, goodWord w = true) w h)
theorem ub_X10 : ∀ w ∈ u_ws RX10 TX10 48, w ∈ TB := fun w h => tb_t ((by decide +kernel : ∀ w ∈ u_ws RX10 TX10 48, w ∈ tables_1) w h) ((by decide +kernel : ∀ w ∈ u_ws RX10 TX10 48, goodWord w = true) w h)
abbrev mi_J0_checkIndex_df160 : MI := (yJ0_checkIndex_df160, cJ0_checkIndex_df160, 2, none)
theorem cs_J0_checkIndex_df160 : CS_ mi_J0_checkIndex_df160 2 := ⟨tb_t (List.mem_of_getElem? (i := 503) (by decide +kernel)) rfl, tb_t (List.mem_of_getElem? (i := 13) (by decide +kernel)) rfl, tb_t (List.mem_of_getElem? (i := 502) (by decide +kernel)) rfl, by decide, by decide, by decide +kernel, by decide⟩
abbrev mi_J3_checkIndex_8e157 : MI := (yJ3_checkIndex_8e157, cJ3_checkIndex_8e157, 3, some .int)
theorem cs_J3_checkIndex_8e157 : CS_ mi_J3_checkIndex_8e157 3 := ⟨tb_t (List.mem_of_getElem? (i := 508) (by decide +kernel)) rfl, tb_t (List.mem_of_getElem? (i := 15) (by decide +kernel)) rfl, tb_t (List.mem_of_getElem? (i := 507) (by decide +kernel)) rfl, by decide, by decide, by decide +kernel, by decide⟩
theorem ml_J0_1059 : Cond.methodLink RJ0 1059 yJ3_checkIndex_8e157 ∈ TB := tb_t (List.mem_of_getElem? (i := 506) (by decide +kernel)) rfl
theorem fl_J0_1053 : Cond.fieldLink RJ0 1053 "jdk/internal/util/Preconditions" "SIOOBE_FORMATTER" "Ljava/util/function/BiFunction;" ∈ TB := tb_t (List.mem_of_getElem? (i := 504) (by decide +kernel)) rfl
abbrev mi_J0_length_8abf5 : MI := (yJ0_length_8abf5, cJ0_length_8abf5, 1, some .int)
theorem fl_J0_9 : Cond.fieldLink RJ0 9 "java/lang/String" "value" "[B" ∈ TB := tb_t (List.mem_of_getElem? (i := 1430) (by decide +kernel)) rfl
abbrev mi_J0_coder_7d493 : MI := (yJ0_coder_7d493, cJ0_coder_7d493, 1, some .byte)
theorem fl_J0_38 : Cond.fieldLink RJ0 38 "java/lang/String" "COMPACT_STRINGS" "Z" ∈ TB := tb_t (List.mem_of_getElem? (i := 488) (by decide +kernel)) rfl
theorem fl_J0_15 : Cond.fieldLink RJ0 15 "java/lang/String" "coder" "B" ∈ TB := tb_t (List.mem_of_getElem? (i := 1431) (by decide +kernel)) rfl
theorem cm_J0_coder_7d493 : CM_ mi_J0_coder_7d493 0 := ⟨tb_t (List.mem_of_getElem? (i := 487) (by decide +kernel)) rfl, tb_t (List.mem_of_getElem? (i := 13) (by decide +kernel)) rfl, tb_t (List.mem_of_getElem? (i := 485) (by decide +kernel)) rfl, tb_t (List.mem_of_getElem? (i := 486) (by decide +kernel)) rfl, by decide, by decide, by decide +kernel, by decide⟩
theorem ml_J0_335 : Cond.methodLink RJ0 335 yJ0_coder_7d493 ∈ TB := tb_t (List.mem_of_getElem? (i := 484) (by decide +kernel)) rfl
abbrev mi_J0_charAt_5068e : MI := (yJ0_charAt_5068e, cJ0_charAt_5068e, 2, some .char)
abbrev mi_J0_isLatin1_aae02 : MI := (yJ0_isLatin1_aae02, cJ0_isLatin1_aae02, 1, some .boolean)
theorem cm_J0_isLatin1_aae02 : CM_ mi_J0_isLatin1_aae02 0 := ⟨tb_t (List.mem_of_getElem? (i := 497) (by decide +kernel)) rfl, tb_t (List.mem_of_getElem? (i := 13) (by decide +kernel)) rfl, tb_t (List.mem_of_getElem? (i := 495) (by decide +kernel)) rfl, tb_t (List.mem_of_getElem? (i := 496) (by decide +kernel)) rfl, by decide, by decide, by decide +kernel, by decide⟩
theorem ml_J0_492 : Cond.methodLink RJ0 492 yJ0_isLatin1_aae02 ∈ TB := tb_t (List.mem_of_getElem? (i := 494) (by decide +kernel)) rfl
abbrev mi_J1_charAt_3b067 : MI := (yJ1_charAt_3b067, cJ1_charAt_3b067, 2, some .char)
theorem ml_J1_9 : Cond.methodLink RJ1 9 yJ0_checkIndex_df160 ∈ TB := tb_t (List.mem_of_getElem? (i := 501) (by decide +kernel)) rfl
theorem cs_J1_charAt_3b067 : CS_ mi_J1_charAt_3b067 2 := ⟨tb_t (List.mem_of_getElem? (i := 500) (by decide +kernel)) rfl, tb_t (List.mem_of_getElem? (i := 14) (by decide +kernel)) rfl, tb_t (List.mem_of_getElem? (i := 499) (by decide +kernel)) rfl, by decide, by decide, by decide +kernel, by decide⟩
theorem ml_J0_495 : Cond.methodLink RJ0 495 yJ1_charAt_3b067 ∈ TB := tb_t (List.mem_of_getElem? (i := 498) (by decide +kernel)) rfl
abbrev mi_J0_indexOf_0f7a4 : MI := (yJ0_indexOf_0f7a4, cJ0_indexOf_0f7a4, 2, some .int)
abbrev mi_J0_indexOf_7cf53 : MI := (yJ0_indexOf_7cf53, cJ0_indexOf_7cf53, 3, some .int)
theorem cm_J0_length_8abf5 : CM_ mi_J0_length_8abf5 0 := ⟨tb_t (List.mem_of_getElem? (i := 483) (by decide +kernel)) rfl, tb_t (List.mem_of_getElem? (i := 13) (by decide +kernel)) rfl, tb_t (List.mem_of_getElem? (i := 481) (by decide +kernel)) rfl, tb_t (List.mem_of_getElem? (i := 482) (by decide +kernel)) rfl, by decide, by decide, by decide +kernel, by decide⟩
theorem ml_J0_505 : Cond.methodLink RJ0 505 yJ0_length_8abf5 ∈ TB := tb_t (List.mem_of_getElem? (i := 547) (by decide +kernel)) rfl
abbrev mi_J1_indexOf_4cfef : MI := (yJ1_indexOf_4cfef, cJ1_indexOf_4cfef, 4, some .int)
abbrev mi_J1_canEncode_9a6ad : MI := (yJ1_canEncode_9a6ad, cJ1_canEncode_9a6ad, 1, some .boolean)
theorem cs_J1_canEncode_9a6ad : CS_ mi_J1_canEncode_9a6ad 1 := ⟨tb_t (List.mem_of_getElem? (i := 553) (by decide +kernel)) rfl, tb_t (List.mem_of_getElem? (i := 14) (by decide +kernel)) rfl, tb_t (List.mem_of_getElem? (i := 552) (by decide +kernel)) rfl, by decide, by decide, by decide +kernel, by decide⟩
theorem ml_J1_88 : Cond.methodLink RJ1 88 yJ1_canEncode_9a6ad ∈ TB := tb_t (List.mem_of_getElem? (i := 551) (by decide +kernel)) rfl
theorem jm_J1_92 : JM_max RJ1 92 := ⟨tb_t (List.mem_of_getElem? (i := 554) (by decide +kernel)) rfl, tb_t (List.mem_of_getElem? (i := 555) (by decide +kernel)) rfl, tb_t (List.mem_of_getElem? (i := 17) (by decide +kernel)) rfl, tb_t (List.mem_of_getElem? (i := 556) (by decide +kernel)) rfl⟩
theorem jm_J1_38 : JM_min RJ1 38 := ⟨tb_t (List.mem_of_getElem? (i := 557) (by decide +kernel)) rfl, tb_t (List.mem_of_getElem? (i := 558) (by decide +kernel)) rfl, tb_t (List.mem_of_getElem? (i := 17) (by decide +kernel)) rfl, tb_t (List.mem_of_getElem? (i := 559) (by decide +kernel)) rfl⟩
abbrev mi_J1_indexOfChar_4cfef : MI := (yJ1_indexOfChar_4cfef, cJ1_indexOfChar_4cfef, 6, some .int)
theorem cs_J1_indexOfChar_4cfef : CS_ mi_J1_indexOfChar_4cfef 4 := ⟨tb_t (List.mem_of_getElem? (i := 562) (by decide +kernel)) rfl, tb_t (List.mem_of_getElem? (i := 14) (by decide +kernel)) rfl, tb_t (List.mem_of_getElem? (i := 561) (by decide +kernel)) rfl, by decide, by decide, by decide +kernel, by decide⟩
theorem ml_J1_95 : Cond.methodLink RJ1 95 yJ1_indexOfChar_4cfef ∈ TB := tb_t (List.mem_of_getElem? (i := 560) (by decide +kernel)) rfl
theorem cs_J1_indexOf_4cfef : CS_ mi_J1_indexOf_4cfef 4 := ⟨tb_t (List.mem_of_getElem? (i := 550) (by decide +kernel)) rfl, tb_t (List.mem_of_getElem? (i := 14) (by decide +kernel)) rfl, tb_t (List.mem_of_getElem? (i := 549) (by decide +kernel)) rfl, by decide, by decide, by decide +kernel, by decide⟩
theorem ml_J0_637 : Cond.methodLink RJ0 637 yJ1_indexOf_4cfef ∈ TB := tb_t (List.mem_of_getElem? (i := 548) (by decide +kernel)) rfl
theorem cm_J0_indexOf_7cf53 : CM_ mi_J0_indexOf_7cf53 2 := ⟨tb_t (List.mem_of_getElem? (i := 546) (by decide +kernel)) rfl, tb_t (List.mem_of_getElem? (i := 13) (by decide +kernel)) rfl, tb_t (List.mem_of_getElem? (i := 544) (by decide +kernel)) rfl, tb_t (List.mem_of_getElem? (i := 545) (by decide +kernel)) rfl, by decide, by decide, by decide +kernel, by decide⟩
theorem ml_J0_633 : Cond.methodLink RJ0 633 yJ0_indexOf_7cf53 ∈ TB := tb_t (List.mem_of_getElem? (i := 543) (by decide +kernel)) rfl
abbrev mi_X9_state : MI := (yX9_state, cX9_state, 3, some .int)
theorem fa_X9_10 : FA_ RX9 10 9 0 := ⟨RX9, TX9, 12, rfl, ub_X9, by decide, Or.inl (tb_t (List.mem_of_getElem? (i := 330) (by decide +kernel)) rfl)⟩
theorem fa_X9_75 : FA_ RX9 75 8 0 := ⟨RX8, TX8, 16, rfl, ub_X8, by decide, Or.inr ⟨"HearDifference", (List.mem_of_getElem? (i := 84) (by decide +kernel))⟩⟩
theorem fp_X9_75 : FP_ RX9 75 8 0 .int := ⟨RX8, TX8, 16, tyX8, rfl, ub_X8, by decide, Or.inr ⟨"HearDifference", (List.mem_of_getElem? (i := 84) (by decide +kernel))⟩, tyX8_ok, nmX8, rfl, by decide +kernel⟩
theorem fa_X9_26 : FA_ RX9 26 9 3 := ⟨RX9, TX9, 12, rfl, ub_X9, by decide, Or.inl (tb_t (List.mem_of_getElem? (i := 333) (by decide +kernel)) rfl)⟩
abbrev mi_X5_forget : MI := (yX5_forget, cX5_forget, 1, none)
theorem fa_X5_24 : FA_ RX5 24 5 1 := ⟨RX5, TX5, 6, rfl, ub_X5, by decide, Or.inl (tb_t (List.mem_of_getElem? (i := 170) (by decide +kernel)) rfl)⟩
theorem fp_X5_24 : FP_ RX5 24 5 1 .int := ⟨RX5, TX5, 6, tyX5, rfl, ub_X5, by decide, Or.inl (tb_t (List.mem_of_getElem? (i := 170) (by decide +kernel)) rfl), tyX5_ok, nmX5, rfl, by decide +kernel⟩
theorem cm_X5_forget : CM_ mi_X5_forget 0 := ⟨tb_t (List.mem_of_getElem? (i := 374) (by decide +kernel)) rfl, tb_t (List.mem_of_getElem? (i := 6) (by decide +kernel)) rfl, tb_t (List.mem_of_getElem? (i := 373) (by decide +kernel)) rfl, tb_s (List.mem_of_getElem? (i := 0) (by decide +kernel)) rfl, by decide, by decide, by decide +kernel, by decide⟩
theorem mn_X9_78 : ∃ host, Cond.methodLinkNest RX9 78 yX5_forget host ∈ tables_1 := ⟨"HearDifference", (List.mem_of_getElem? (i := 371) (by decide +kernel))⟩
abbrev mi_X9_person : MI := (yX9_person, cX9_person, 3, some .int)
abbrev mi_X9_isToneOrNone : MI := (yX9_isToneOrNone, cX9_isToneOrNone, 1, some .boolean)
theorem cs_X9_isToneOrNone : CS_ mi_X9_isToneOrNone 1 := ⟨tb_t (List.mem_of_getElem? (i := 381) (by decide +kernel)) rfl, tb_t (List.mem_of_getElem? (i := 1) (by decide +kernel)) rfl, tb_t (List.mem_of_getElem? (i := 380) (by decide +kernel)) rfl, by decide, by decide, by decide +kernel, by decide⟩
theorem ml_X9_81 : Cond.methodLink RX9 81 yX9_isToneOrNone ∈ TB := tb_t (List.mem_of_getElem? (i := 379) (by decide +kernel)) rfl
theorem fa_X9_85 : FA_ RX9 85 8 1 := ⟨RX8, TX8, 16, rfl, ub_X8, by decide, Or.inr ⟨"HearDifference", (List.mem_of_getElem? (i := 88) (by decide +kernel))⟩⟩
theorem fa_X9_88 : FA_ RX9 88 8 2 := ⟨RX8, TX8, 16, rfl, ub_X8, by decide, Or.inr ⟨"HearDifference", (List.mem_of_getElem? (i := 92) (by decide +kernel))⟩⟩
theorem fp_X9_85 : FP_ RX9 85 8 1 .int := ⟨RX8, TX8, 16, tyX8, rfl, ub_X8, by decide, Or.inr ⟨"HearDifference", (List.mem_of_getElem? (i := 88) (by decide +kernel))⟩, tyX8_ok, nmX8, rfl, by decide +kernel⟩
abbrev mi_X9_set : MI := (yX9_set, cX9_set, 5, some .boolean)
abbrev mi_X8_isPerson : MI := (yX8_isPerson, cX8_isPerson, 2, some .boolean)
theorem fa_X8_57 : FA_ RX8 57 8 1 := ⟨RX8, TX8, 16, rfl, ub_X8, by decide, Or.inl (tb_t (List.mem_of_getElem? (i := 86) (by decide +kernel)) rfl)⟩
theorem cm_X8_isPerson : CM_ mi_X8_isPerson 1 := ⟨tb_t (List.mem_of_getElem? (i := 393) (by decide +kernel)) rfl, tb_t (List.mem_of_getElem? (i := 2) (by decide +kernel)) rfl, tb_t (List.mem_of_getElem? (i := 392) (by decide +kernel)) rfl, tb_s (List.mem_of_getElem? (i := 2) (by decide +kernel)) rfl, by decide, by decide, by decide +kernel, by decide⟩
theorem mn_X9_95 : ∃ host, Cond.methodLinkNest RX9 95 yX8_isPerson host ∈ tables_1 := ⟨"HearDifference", (List.mem_of_getElem? (i := 390) (by decide +kernel))⟩
abbrev mi_X9_tellOfPerson : MI := (yX9_tellOfPerson, cX9_tellOfPerson, 4, some .boolean)
abbrev mi_X9_tellHum : MI := (yX9_tellHum, cX9_tellHum, 3, some .boolean)
theorem fa_X9_171 : FA_ RX9 171 8 4 := ⟨RX8, TX8, 16, rfl, ub_X8, by decide, Or.inr ⟨"HearDifference", (List.mem_of_getElem? (i := 98) (by decide +kernel))⟩⟩
theorem fp_X9_171 : FP_ RX9 171 8 4 .int := ⟨RX8, TX8, 16, tyX8, rfl, ub_X8, by decide, Or.inr ⟨"HearDifference", (List.mem_of_getElem? (i := 98) (by decide +kernel))⟩, tyX8_ok, nmX8, rfl, by decide +kernel⟩
theorem cm_X9_tellHum : CM_ mi_X9_tellHum 2 := ⟨tb_t (List.mem_of_getElem? (i := 401) (by decide +kernel)) rfl, tb_t (List.mem_of_getElem? (i := 1) (by decide +kernel)) rfl, tb_t (List.mem_of_getElem? (i := 400) (by decide +kernel)) rfl, tb_s (List.mem_of_getElem? (i := 4) (by decide +kernel)) rfl, by decide, by decide, by decide +kernel, by decide⟩
theorem ml_X9_288 : Cond.methodLink RX9 288 yX9_tellHum ∈ TB := tb_t (List.mem_of_getElem? (i := 398) (by decide +kernel)) rfl
abbrev mi_X9_tellSounding : MI := (yX9_tellSounding, cX9_tellSounding, 3, some .boolean)
abbrev mi_X8_hasHum : MI := (yX8_hasHum, cX8_hasHum, 2, some .boolean)
theorem ml_X8_88 : Cond.methodLink RX8 88 yX8_isPerson ∈ TB := tb_t (List.mem_of_getElem? (i := 410) (by decide +kernel)) rfl
theorem fa_X8_9 : FA_ RX8 9 8 2 := ⟨RX8, TX8, 16, rfl, ub_X8, by decide, Or.inl (tb_t (List.mem_of_getElem? (i := 89) (by decide +kernel)) rfl)⟩
theorem cm_X8_hasHum : CM_ mi_X8_hasHum 1 := ⟨tb_t (List.mem_of_getElem? (i := 409) (by decide +kernel)) rfl, tb_t (List.mem_of_getElem? (i := 2) (by decide +kernel)) rfl, tb_t (List.mem_of_getElem? (i := 408) (by decide +kernel)) rfl, tb_s (List.mem_of_getElem? (i := 6) (by decide +kernel)) rfl, by decide, by decide, by decide +kernel, by decide⟩
theorem mn_X9_131 : ∃ host, Cond.methodLinkNest RX9 131 yX8_hasHum host ∈ tables_1 := ⟨"HearDifference", (List.mem_of_getElem? (i := 406) (by decide +kernel))⟩
theorem cm_X9_tellSounding : CM_ mi_X9_tellSounding 2 := ⟨tb_t (List.mem_of_getElem? (i := 405) (by decide +kernel)) rfl, tb_t (List.mem_of_getElem? (i := 1) (by decide +kernel)) rfl, tb_t (List.mem_of_getElem? (i := 404) (by decide +kernel)) rfl, tb_s (List.mem_of_getElem? (i := 5) (by decide +kernel)) rfl, by decide, by decide, by decide +kernel, by decide⟩
theorem ml_X9_291 : Cond.methodLink RX9 291 yX9_tellSounding ∈ TB := tb_t (List.mem_of_getElem? (i := 402) (by decide +kernel)) rfl
abbrev mi_X9_tellLoud : MI := (yX9_tellLoud, cX9_tellLoud, 3, some .boolean)
theorem fa_X9_174 : FA_ RX9 174 8 3 := ⟨RX8, TX8, 16, rfl, ub_X8, by decide, Or.inr ⟨"HearDifference", (List.mem_of_getElem? (i := 95) (by decide +kernel))⟩⟩
theorem cm_X9_tellLoud : CM_ mi_X9_tellLoud 2 := ⟨tb_t (List.mem_of_getElem? (i := 414) (by decide +kernel)) rfl, tb_t (List.mem_of_getElem? (i := 1) (by decide +kernel)) rfl, tb_t (List.mem_of_getElem? (i := 413) (by decide +kernel)) rfl, tb_s (List.mem_of_getElem? (i := 7) (by decide +kernel)) rfl, by decide, by decide, by decide +kernel, by decide⟩
theorem ml_X9_294 : Cond.methodLink RX9 294 yX9_tellLoud ∈ TB := tb_t (List.mem_of_getElem? (i := 411) (by decide +kernel)) rfl
theorem cm_X9_tellOfPerson : CM_ mi_X9_tellOfPerson 3 := ⟨tb_t (List.mem_of_getElem? (i := 397) (by decide +kernel)) rfl, tb_t (List.mem_of_getElem? (i := 1) (by decide +kernel)) rfl, tb_t (List.mem_of_getElem? (i := 396) (by decide +kernel)) rfl, tb_s (List.mem_of_getElem? (i := 3) (by decide +kernel)) rfl, by decide, by decide, by decide +kernel, by decide⟩
theorem ml_X9_98 : Cond.methodLink RX9 98 yX9_tellOfPerson ∈ TB := tb_t (List.mem_of_getElem? (i := 394) (by decide +kernel)) rfl
abbrev mi_X9_tellSlip : MI := (yX9_tellSlip, cX9_tellSlip, 2, some .boolean)
theorem fa_X9_282 : FA_ RX9 282 8 5 := ⟨RX8, TX8, 16, rfl, ub_X8, by decide, Or.inr ⟨"HearDifference", (List.mem_of_getElem? (i := 100) (by decide +kernel))⟩⟩
theorem fp_X9_282 : FP_ RX9 282 8 5 .int := ⟨RX8, TX8, 16, tyX8, rfl, ub_X8, by decide, Or.inr ⟨"HearDifference", (List.mem_of_getElem? (i := 100) (by decide +kernel))⟩, tyX8_ok, nmX8, rfl, by decide +kernel⟩
theorem cm_X9_tellSlip : CM_ mi_X9_tellSlip 1 := ⟨tb_t (List.mem_of_getElem? (i := 389) (by decide +kernel)) rfl, tb_t (List.mem_of_getElem? (i := 1) (by decide +kernel)) rfl, tb_t (List.mem_of_getElem? (i := 388) (by decide +kernel)) rfl, tb_s (List.mem_of_getElem? (i := 1) (by decide +kernel)) rfl, by decide, by decide, by decide +kernel, by decide⟩
theorem ml_X9_92 : Cond.methodLink RX9 92 yX9_tellSlip ∈ TB := tb_t (List.mem_of_getElem? (i := 386) (by decide +kernel)) rfl
abbrev mi_X9_feed : MI := (yX9_feed, cX9_feed, 6, some .int)
theorem fa_X9_37 : FA_ RX9 37 9 5 := ⟨RX9, TX9, 12, rfl, ub_X9, by decide, Or.inl (tb_t (List.mem_of_getElem? (i := 335) (by decide +kernel)) rfl)⟩
abbrev mi_X9_putBytes : MI := (yX9_putBytes, cX9_putBytes, 3, none)
theorem fa_X9_33 : FA_ RX9 33 9 4 := ⟨RX9, TX9, 12, rfl, ub_X9, by decide, Or.inl (tb_t (List.mem_of_getElem? (i := 334) (by decide +kernel)) rfl)⟩
theorem fa_X9_297 : FA_ RX9 297 6 0 := ⟨RX6, TX6, 15, rfl, ub_X6, by decide, Or.inr ⟨"HearDifference", (List.mem_of_getElem? (i := 198) (by decide +kernel))⟩⟩
theorem fp_X9_37 : FP_ RX9 37 9 5 .int := ⟨RX9, TX9, 12, tyX9, rfl, ub_X9, by decide, Or.inl (tb_t (List.mem_of_getElem? (i := 335) (by decide +kernel)) rfl), tyX9_ok, nmX9, rfl, by decide +kernel⟩
theorem cm_X9_putBytes : CM_ mi_X9_putBytes 1 := ⟨tb_t (List.mem_of_getElem? (i := 422) (by decide +kernel)) rfl, tb_t (List.mem_of_getElem? (i := 1) (by decide +kernel)) rfl, tb_t (List.mem_of_getElem? (i := 421) (by decide +kernel)) rfl, tb_s (List.mem_of_getElem? (i := 8) (by decide +kernel)) rfl, by decide, by decide, by decide +kernel, by decide⟩
theorem ml_X9_102 : Cond.methodLink RX9 102 yX9_putBytes ∈ TB := tb_t (List.mem_of_getElem? (i := 419) (by decide +kernel)) rfl
abbrev mi_X9_end : MI := (yX9_end, cX9_end, 2, some .boolean)
abbrev mi_X9_text : MI := (yX9_text, cX9_text, 2, some .int)
abbrev mi_X6_readLaw : MI := (yX6_readLaw, cX6_readLaw, 3, some .boolean)
theorem fa_X6_30 : FA_ RX6 30 6 4 := ⟨RX6, TX6, 15, rfl, ub_X6, by decide, Or.inl (tb_t (List.mem_of_getElem? (i := 205) (by decide +kernel)) rfl)⟩
theorem fp_X6_30 : FP_ RX6 30 6 4 .int := ⟨RX6, TX6, 15, tyX6, rfl, ub_X6, by decide, Or.inl (tb_t (List.mem_of_getElem? (i := 205) (by decide +kernel)) rfl), tyX6_ok, nmX6, rfl, by decide +kernel⟩
theorem fa_X6_33 : FA_ RX6 33 6 8 := ⟨RX6, TX6, 15, rfl, ub_X6, by decide, Or.inl (tb_t (List.mem_of_getElem? (i := 209) (by decide +kernel)) rfl)⟩
theorem fp_X6_33 : FP_ RX6 33 6 8 .int := ⟨RX6, TX6, 15, tyX6, rfl, ub_X6, by decide, Or.inl (tb_t (List.mem_of_getElem? (i := 209) (by decide +kernel)) rfl), tyX6_ok, nmX6, rfl, by decide +kernel⟩
theorem fa_X6_36 : FA_ RX6 36 6 2 := ⟨RX6, TX6, 15, rfl, ub_X6, by decide, Or.inl (tb_t (List.mem_of_getElem? (i := 201) (by decide +kernel)) rfl)⟩
theorem fp_X6_36 : FP_ RX6 36 6 2 .int := ⟨RX6, TX6, 15, tyX6, rfl, ub_X6, by decide, Or.inl (tb_t (List.mem_of_getElem? (i := 201) (by decide +kernel)) rfl), tyX6_ok, nmX6, rfl, by decide +kernel⟩
theorem fa_X6_26 : FA_ RX6 26 6 3 := ⟨RX6, TX6, 15, rfl, ub_X6, by decide, Or.inl (tb_t (List.mem_of_getElem? (i := 203) (by decide +kernel)) rfl)⟩
theorem fp_X6_26 : FP_ RX6 26 6 3 .int := ⟨RX6, TX6, 15, tyX6, rfl, ub_X6, by decide, Or.inl (tb_t (List.mem_of_getElem? (i := 203) (by decide +kernel)) rfl), tyX6_ok, nmX6, rfl, by decide +kernel⟩
theorem fa_X6_39 : FA_ RX6 39 6 9 := ⟨RX6, TX6, 15, rfl, ub_X6, by decide, Or.inl (tb_t (List.mem_of_getElem? (i := 210) (by decide +kernel)) rfl)⟩
theorem fp_X6_39 : FP_ RX6 39 6 9 .int := ⟨RX6, TX6, 15, tyX6, rfl, ub_X6, by decide, Or.inl (tb_t (List.mem_of_getElem? (i := 210) (by decide +kernel)) rfl), tyX6_ok, nmX6, rfl, by decide +kernel⟩
theorem fa_X6_42 : FA_ RX6 42 6 13 := ⟨RX6, TX6, 15, rfl, ub_X6, by decide, Or.inl (tb_t (List.mem_of_getElem? (i := 214) (by decide +kernel)) rfl)⟩
theorem fp_X6_42 : FP_ RX6 42 6 13 .int := ⟨RX6, TX6, 15, tyX6, rfl, ub_X6, by decide, Or.inl (tb_t (List.mem_of_getElem? (i := 214) (by decide +kernel)) rfl), tyX6_ok, nmX6, rfl, by decide +kernel⟩
theorem fa_X6_45 : FA_ RX6 45 6 14 := ⟨RX6, TX6, 15, rfl, ub_X6, by decide, Or.inl (tb_t (List.mem_of_getElem? (i := 215) (by decide +kernel)) rfl)⟩
theorem fp_X6_45 : FP_ RX6 45 6 14 .int := ⟨RX6, TX6, 15, tyX6, rfl, ub_X6, by decide, Or.inl (tb_t (List.mem_of_getElem? (i := 215) (by decide +kernel)) rfl), tyX6_ok, nmX6, rfl, by decide +kernel⟩
theorem fa_X6_18 : FA_ RX6 18 6 1 := ⟨RX6, TX6, 15, rfl, ub_X6, by decide, Or.inl (tb_t (List.mem_of_getElem? (i := 199) (by decide +kernel)) rfl)⟩
abbrev mi_X4_empty : MI := (yX4_empty, cX4_empty, 1, none)
theorem fa_X4_18 : FA_ RX4 18 4 0 := ⟨RX4, TX4, 5, rfl, ub_X4, by decide, Or.inl (tb_t (List.mem_of_getElem? (i := 45) (by decide +kernel)) rfl)⟩
theorem fp_X4_18 : FP_ RX4 18 4 0 .int := ⟨RX4, TX4, 5, tyX4, rfl, ub_X4, by decide, Or.inl (tb_t (List.mem_of_getElem? (i := 45) (by decide +kernel)) rfl), tyX4_ok, nmX4, rfl, by decide +kernel⟩
theorem fa_X4_22 : FA_ RX4 22 4 1 := ⟨RX4, TX4, 5, rfl, ub_X4, by decide, Or.inl (tb_t (List.mem_of_getElem? (i := 49) (by decide +kernel)) rfl)⟩
theorem fp_X4_22 : FP_ RX4 22 4 1 .int := ⟨RX4, TX4, 5, tyX4, rfl, ub_X4, by decide, Or.inl (tb_t (List.mem_of_getElem? (i := 49) (by decide +kernel)) rfl), tyX4_ok, nmX4, rfl, by decide +kernel⟩
theorem fa_X4_31 : FA_ RX4 31 4 3 := ⟨RX4, TX4, 5, rfl, ub_X4, by decide, Or.inl (tb_t (List.mem_of_getElem? (i := 53) (by decide +kernel)) rfl)⟩
theorem fp_X4_31 : FP_ RX4 31 4 3 .int := ⟨RX4, TX4, 5, tyX4, rfl, ub_X4, by decide, Or.inl (tb_t (List.mem_of_getElem? (i := 53) (by decide +kernel)) rfl), tyX4_ok, nmX4, rfl, by decide +kernel⟩
theorem cm_X4_empty : CM_ mi_X4_empty 0 := ⟨tb_t (List.mem_of_getElem? (i := 438) (by decide +kernel)) rfl, tb_t (List.mem_of_getElem? (i := 4) (by decide +kernel)) rfl, tb_t (List.mem_of_getElem? (i := 437) (by decide +kernel)) rfl, tb_s (List.mem_of_getElem? (i := 10) (by decide +kernel)) rfl, by decide, by decide, by decide +kernel, by decide⟩
theorem mn_X6_48 : ∃ host, Cond.methodLinkNest RX6 48 yX4_empty host ∈ tables_1 := ⟨"HearDifference", (List.mem_of_getElem? (i := 435) (by decide +kernel))⟩
abbrev mi_X6_step : MI := (yX6_step, cX6_step, 2, none)
theorem fa_X6_61 : FA_ RX6 61 6 7 := ⟨RX6, TX6, 15, rfl, ub_X6, by decide, Or.inl (tb_t (List.mem_of_getElem? (i := 208) (by decide +kernel)) rfl)⟩
theorem fp_X6_61 : FP_ RX6 61 6 7 .int := ⟨RX6, TX6, 15, tyX6, rfl, ub_X6, by decide, Or.inl (tb_t (List.mem_of_getElem? (i := 208) (by decide +kernel)) rfl), tyX6_ok, nmX6, rfl, by decide +kernel⟩
abbrev mi_X6_signAt : MI := (yX6_signAt, cX6_signAt, 2, some .int)
theorem fa_X6_9 : FA_ RX6 9 6 0 := ⟨RX6, TX6, 15, rfl, ub_X6, by decide, Or.inl (tb_t (List.mem_of_getElem? (i := 197) (by decide +kernel)) rfl)⟩
theorem cm_X6_signAt : CM_ mi_X6_signAt 1 := ⟨tb_t (List.mem_of_getElem? (i := 446) (by decide +kernel)) rfl, tb_t (List.mem_of_getElem? (i := 7) (by decide +kernel)) rfl, tb_t (List.mem_of_getElem? (i := 445) (by decide +kernel)) rfl, tb_s (List.mem_of_getElem? (i := 12) (by decide +kernel)) rfl, by decide, by decide, by decide +kernel, by decide⟩
theorem ml_X6_126 : Cond.methodLink RX6 126 yX6_signAt ∈ TB := tb_t (List.mem_of_getElem? (i := 443) (by decide +kernel)) rfl
abbrev mi_X6_isBlank : MI := (yX6_isBlank, cX6_isBlank, 1, some .boolean)
theorem cs_X6_isBlank : CS_ mi_X6_isBlank 1 := ⟨tb_t (List.mem_of_getElem? (i := 449) (by decide +kernel)) rfl, tb_t (List.mem_of_getElem? (i := 7) (by decide +kernel)) rfl, tb_t (List.mem_of_getElem? (i := 448) (by decide +kernel)) rfl, by decide, by decide, by decide +kernel, by decide⟩
theorem ml_X6_129 : Cond.methodLink RX6 129 yX6_isBlank ∈ TB := tb_t (List.mem_of_getElem? (i := 447) (by decide +kernel)) rfl
abbrev mi_X6_isLetter : MI := (yX6_isLetter, cX6_isLetter, 1, some .boolean)
theorem cs_X6_isLetter : CS_ mi_X6_isLetter 1 := ⟨tb_t (List.mem_of_getElem? (i := 452) (by decide +kernel)) rfl, tb_t (List.mem_of_getElem? (i := 7) (by decide +kernel)) rfl, tb_t (List.mem_of_getElem? (i := 451) (by decide +kernel)) rfl, by decide, by decide, by decide +kernel, by decide⟩
theorem ml_X6_132 : Cond.methodLink RX6 132 yX6_isLetter ∈ TB := tb_t (List.mem_of_getElem? (i := 450) (by decide +kernel)) rfl
abbrev mi_X6_isDigit : MI := (yX6_isDigit, cX6_isDigit, 1, some .boolean)
theorem cs_X6_isDigit : CS_ mi_X6_isDigit 1 := ⟨tb_t (List.mem_of_getElem? (i := 530) (by decide +kernel)) rfl, tb_t (List.mem_of_getElem? (i := 7) (by decide +kernel)) rfl, tb_t (List.mem_of_getElem? (i := 529) (by decide +kernel)) rfl, by decide, by decide, by decide +kernel, by decide⟩
theorem ml_X6_138 : Cond.methodLink RX6 138 yX6_isDigit ∈ TB := tb_t (List.mem_of_getElem? (i := 528) (by decide +kernel)) rfl
abbrev mi_X6_isSign : MI := (yX6_isSign, cX6_isSign, 1, some .boolean)
theorem cm_J0_indexOf_0f7a4 : CM_ mi_J0_indexOf_0f7a4 1 := ⟨tb_t (List.mem_of_getElem? (i := 542) (by decide +kernel)) rfl, tb_t (List.mem_of_getElem? (i := 13) (by decide +kernel)) rfl, tb_t (List.mem_of_getElem? (i := 540) (by decide +kernel)) rfl, tb_t (List.mem_of_getElem? (i := 541) (by decide +kernel)) rfl, by decide, by decide, by decide +kernel, by decide⟩
theorem ml_X6_166 : Cond.methodLink RX6 166 yJ0_indexOf_0f7a4 ∈ TB := tb_t (List.mem_of_getElem? (i := 539) (by decide +kernel)) rfl
theorem cs_X6_isSign : CS_ mi_X6_isSign 1 := ⟨tb_t (List.mem_of_getElem? (i := 537) (by decide +kernel)) rfl, tb_t (List.mem_of_getElem? (i := 7) (by decide +kernel)) rfl, tb_t (List.mem_of_getElem? (i := 536) (by decide +kernel)) rfl, by decide, by decide, by decide +kernel, by decide⟩
theorem ml_X6_144 : Cond.methodLink RX6 144 yX6_isSign ∈ TB := tb_t (List.mem_of_getElem? (i := 535) (by decide +kernel)) rfl
theorem fa_X6_54 : FA_ RX6 54 6 5 := ⟨RX6, TX6, 15, rfl, ub_X6, by decide, Or.inl (tb_t (List.mem_of_getElem? (i := 206) (by decide +kernel)) rfl)⟩
theorem fp_X6_54 : FP_ RX6 54 6 5 .int := ⟨RX6, TX6, 15, tyX6, rfl, ub_X6, by decide, Or.inl (tb_t (List.mem_of_getElem? (i := 206) (by decide +kernel)) rfl), tyX6_ok, nmX6, rfl, by decide +kernel⟩
abbrev mi_X6_takeDigits : MI := (yX6_takeDigits, cX6_takeDigits, 2, none)
theorem fa_X6_106 : FA_ RX6 106 6 6 := ⟨RX6, TX6, 15, rfl, ub_X6, by decide, Or.inl (tb_t (List.mem_of_getElem? (i := 207) (by decide +kernel)) rfl)⟩
theorem fp_X6_106 : FP_ RX6 106 6 6 .int := ⟨RX6, TX6, 15, tyX6, rfl, ub_X6, by decide, Or.inl (tb_t (List.mem_of_getElem? (i := 207) (by decide +kernel)) rfl), tyX6_ok, nmX6, rfl, by decide +kernel⟩
theorem cm_X6_takeDigits : CM_ mi_X6_takeDigits 0 := ⟨tb_t (List.mem_of_getElem? (i := 534) (by decide +kernel)) rfl, tb_t (List.mem_of_getElem? (i := 7) (by decide +kernel)) rfl, tb_t (List.mem_of_getElem? (i := 533) (by decide +kernel)) rfl, tb_s (List.mem_of_getElem? (i := 15) (by decide +kernel)) rfl, by decide, by decide, by decide +kernel, by decide⟩
theorem ml_X6_141 : Cond.methodLink RX6 141 yX6_takeDigits ∈ TB := tb_t (List.mem_of_getElem? (i := 531) (by decide +kernel)) rfl
abbrev mi_X6_takeLetters : MI := (yX6_takeLetters, cX6_takeLetters, 2, none)
abbrev mi_X6_nameOf : MI := (yX6_nameOf, cX6_nameOf, 1, some (.object "java/lang/String"))
theorem cs_X6_nameOf : CS_ mi_X6_nameOf 1 := ⟨tb_t (List.mem_of_getElem? (i := 459) (by decide +kernel)) rfl, tb_t (List.mem_of_getElem? (i := 7) (by decide +kernel)) rfl, tb_t (List.mem_of_getElem? (i := 458) (by decide +kernel)) rfl, by decide, by decide, by decide +kernel, by decide⟩
theorem ml_X6_147 : Cond.methodLink RX6 147 yX6_nameOf ∈ TB := tb_t (List.mem_of_getElem? (i := 457) (by decide +kernel)) rfl
abbrev mi_X6_isSpelt : MI := (yX6_isSpelt, cX6_isSpelt, 3, some .boolean)
theorem ml_X6_155 : Cond.methodLink RX6 155 yJ0_length_8abf5 ∈ TB := tb_t (List.mem_of_getElem? (i := 480) (by decide +kernel)) rfl
theorem cm_J0_charAt_5068e : CM_ mi_J0_charAt_5068e 1 := ⟨tb_t (List.mem_of_getElem? (i := 493) (by decide +kernel)) rfl, tb_t (List.mem_of_getElem? (i := 13) (by decide +kernel)) rfl, tb_t (List.mem_of_getElem? (i := 491) (by decide +kernel)) rfl, tb_t (List.mem_of_getElem? (i := 492) (by decide +kernel)) rfl, by decide, by decide, by decide +kernel, by decide⟩
theorem ml_X6_160 : Cond.methodLink RX6 160 yJ0_charAt_5068e ∈ TB := tb_t (List.mem_of_getElem? (i := 490) (by decide +kernel)) rfl
theorem cm_X6_isSpelt : CM_ mi_X6_isSpelt 1 := ⟨tb_t (List.mem_of_getElem? (i := 479) (by decide +kernel)) rfl, tb_t (List.mem_of_getElem? (i := 7) (by decide +kernel)) rfl, tb_t (List.mem_of_getElem? (i := 478) (by decide +kernel)) rfl, tb_s (List.mem_of_getElem? (i := 14) (by decide +kernel)) rfl, by decide, by decide, by decide +kernel, by decide⟩
theorem ml_X6_151 : Cond.methodLink RX6 151 yX6_isSpelt ∈ TB := tb_t (List.mem_of_getElem? (i := 476) (by decide +kernel)) rfl
theorem cm_X6_takeLetters : CM_ mi_X6_takeLetters 0 := ⟨tb_t (List.mem_of_getElem? (i := 456) (by decide +kernel)) rfl, tb_t (List.mem_of_getElem? (i := 7) (by decide +kernel)) rfl, tb_t (List.mem_of_getElem? (i := 455) (by decide +kernel)) rfl, tb_s (List.mem_of_getElem? (i := 13) (by decide +kernel)) rfl, by decide, by decide, by decide +kernel, by decide⟩
theorem ml_X6_135 : Cond.methodLink RX6 135 yX6_takeLetters ∈ TB := tb_t (List.mem_of_getElem? (i := 453) (by decide +kernel)) rfl
theorem cm_X6_step : CM_ mi_X6_step 0 := ⟨tb_t (List.mem_of_getElem? (i := 442) (by decide +kernel)) rfl, tb_t (List.mem_of_getElem? (i := 7) (by decide +kernel)) rfl, tb_t (List.mem_of_getElem? (i := 441) (by decide +kernel)) rfl, tb_s (List.mem_of_getElem? (i := 11) (by decide +kernel)) rfl, by decide, by decide, by decide +kernel, by decide⟩
theorem ml_X6_51 : Cond.methodLink RX6 51 yX6_step ∈ TB := tb_t (List.mem_of_getElem? (i := 439) (by decide +kernel)) rfl
abbrev mi_X6_accept : MI := (yX6_accept, cX6_accept, 1, some .boolean)
abbrev mi_X6_acceptLine : MI := (yX6_acceptLine, cX6_acceptLine, 1, some .boolean)
abbrev mi_X6_refuse : MI := (yX6_refuse, cX6_refuse, 2, some .boolean)
theorem cm_X6_refuse : CM_ mi_X6_refuse 1 := ⟨tb_t (List.mem_of_getElem? (i := 609) (by decide +kernel)) rfl, tb_t (List.mem_of_getElem? (i := 7) (by decide +kernel)) rfl, tb_t (List.mem_of_getElem? (i := 608) (by decide +kernel)) rfl, tb_s (List.mem_of_getElem? (i := 18) (by decide +kernel)) rfl, by decide, by decide, by decide +kernel, by decide⟩
theorem ml_X6_85 : Cond.methodLink RX6 85 yX6_refuse ∈ TB := tb_t (List.mem_of_getElem? (i := 606) (by decide +kernel)) rfl
theorem fa_X6_89 : FA_ RX6 89 4 0 := ⟨RX4, TX4, 5, rfl, ub_X4, by decide, Or.inr ⟨"HearDifference", (List.mem_of_getElem? (i := 46) (by decide +kernel))⟩⟩
theorem fa_X6_92 : FA_ RX6 92 6 10 := ⟨RX6, TX6, 15, rfl, ub_X6, by decide, Or.inl (tb_t (List.mem_of_getElem? (i := 211) (by decide +kernel)) rfl)⟩
theorem fp_X6_92 : FP_ RX6 92 6 10 .boolean := ⟨RX6, TX6, 15, tyX6, rfl, ub_X6, by decide, Or.inl (tb_t (List.mem_of_getElem? (i := 211) (by decide +kernel)) rfl), tyX6_ok, nmX6, rfl, by decide +kernel⟩
theorem cm_X6_acceptLine : CM_ mi_X6_acceptLine 0 := ⟨tb_t (List.mem_of_getElem? (i := 605) (by decide +kernel)) rfl, tb_t (List.mem_of_getElem? (i := 7) (by decide +kernel)) rfl, tb_t (List.mem_of_getElem? (i := 604) (by decide +kernel)) rfl, tb_s (List.mem_of_getElem? (i := 17) (by decide +kernel)) rfl, by decide, by decide, by decide +kernel, by decide⟩
theorem ml_X6_64 : Cond.methodLink RX6 64 yX6_acceptLine ∈ TB := tb_t (List.mem_of_getElem? (i := 602) (by decide +kernel)) rfl
abbrev mi_X6_acceptLineTail : MI := (yX6_acceptLineTail, cX6_acceptLineTail, 1, some .boolean)
abbrev mi_X6_closeLine : MI := (yX6_closeLine, cX6_closeLine, 1, some .boolean)
abbrev mi_X4_closeLine : MI := (yX4_closeLine, cX4_closeLine, 2, none)
theorem fa_X4_9 : FA_ RX4 9 4 2 := ⟨RX4, TX4, 5, rfl, ub_X4, by decide, Or.inl (tb_t (List.mem_of_getElem? (i := 51) (by decide +kernel)) rfl)⟩
theorem cm_X4_closeLine : CM_ mi_X4_closeLine 1 := ⟨tb_t (List.mem_of_getElem? (i := 621) (by decide +kernel)) rfl, tb_t (List.mem_of_getElem? (i := 4) (by decide +kernel)) rfl, tb_t (List.mem_of_getElem? (i := 620) (by decide +kernel)) rfl, tb_s (List.mem_of_getElem? (i := 21) (by decide +kernel)) rfl, by decide, by decide, by decide +kernel, by decide⟩
theorem mn_X6_123 : ∃ host, Cond.methodLinkNest RX6 123 yX4_closeLine host ∈ tables_1 := ⟨"HearDifference", (List.mem_of_getElem? (i := 618) (by decide +kernel))⟩
theorem cm_X6_closeLine : CM_ mi_X6_closeLine 0 := ⟨tb_t (List.mem_of_getElem? (i := 617) (by decide +kernel)) rfl, tb_t (List.mem_of_getElem? (i := 7) (by decide +kernel)) rfl, tb_t (List.mem_of_getElem? (i := 616) (by decide +kernel)) rfl, tb_s (List.mem_of_getElem? (i := 20) (by decide +kernel)) rfl, by decide, by decide, by decide +kernel, by decide⟩
theorem ml_X6_96 : Cond.methodLink RX6 96 yX6_closeLine ∈ TB := tb_t (List.mem_of_getElem? (i := 614) (by decide +kernel)) rfl
theorem cm_X6_acceptLineTail : CM_ mi_X6_acceptLineTail 0 := ⟨tb_t (List.mem_of_getElem? (i := 613) (by decide +kernel)) rfl, tb_t (List.mem_of_getElem? (i := 7) (by decide +kernel)) rfl, tb_t (List.mem_of_getElem? (i := 612) (by decide +kernel)) rfl, tb_s (List.mem_of_getElem? (i := 19) (by decide +kernel)) rfl, by decide, by decide, by decide +kernel, by decide⟩
theorem ml_X6_67 : Cond.methodLink RX6 67 yX6_acceptLineTail ∈ TB := tb_t (List.mem_of_getElem? (i := 610) (by decide +kernel)) rfl
abbrev mi_X6_acceptCondition : MI := (yX6_acceptCondition, cX6_acceptCondition, 1, some .boolean)
theorem fa_X6_99 : FA_ RX6 99 6 11 := ⟨RX6, TX6, 15, rfl, ub_X6, by decide, Or.inl (tb_t (List.mem_of_getElem? (i := 212) (by decide +kernel)) rfl)⟩
theorem fp_X6_99 : FP_ RX6 99 6 11 .boolean := ⟨RX6, TX6, 15, tyX6, rfl, ub_X6, by decide, Or.inl (tb_t (List.mem_of_getElem? (i := 212) (by decide +kernel)) rfl), tyX6_ok, nmX6, rfl, by decide +kernel⟩
abbrev mi_X6_acceptValue : MI := (yX6_acceptValue, cX6_acceptValue, 1, some .boolean)
abbrev mi_X4_add : MI := (yX4_add, cX4_add, 2, none)
theorem fa_X4_15 : FA_ RX4 15 4 4 := ⟨RX4, TX4, 5, rfl, ub_X4, by decide, Or.inl (tb_t (List.mem_of_getElem? (i := 54) (by decide +kernel)) rfl)⟩
theorem cm_X4_add : CM_ mi_X4_add 1 := ⟨tb_t (List.mem_of_getElem? (i := 633) (by decide +kernel)) rfl, tb_t (List.mem_of_getElem? (i := 4) (by decide +kernel)) rfl, tb_t (List.mem_of_getElem? (i := 632) (by decide +kernel)) rfl, tb_s (List.mem_of_getElem? (i := 24) (by decide +kernel)) rfl, by decide, by decide, by decide +kernel, by decide⟩
theorem mn_X6_109 : ∃ host, Cond.methodLinkNest RX6 109 yX4_add host ∈ tables_1 := ⟨"HearDifference", (List.mem_of_getElem? (i := 630) (by decide +kernel))⟩
theorem cm_X6_acceptValue : CM_ mi_X6_acceptValue 0 := ⟨tb_t (List.mem_of_getElem? (i := 629) (by decide +kernel)) rfl, tb_t (List.mem_of_getElem? (i := 7) (by decide +kernel)) rfl, tb_t (List.mem_of_getElem? (i := 628) (by decide +kernel)) rfl, tb_s (List.mem_of_getElem? (i := 23) (by decide +kernel)) rfl, by decide, by decide, by decide +kernel, by decide⟩
theorem ml_X6_73 : Cond.methodLink RX6 73 yX6_acceptValue ∈ TB := tb_t (List.mem_of_getElem? (i := 626) (by decide +kernel)) rfl
abbrev mi_X6_holdSign : MI := (yX6_holdSign, cX6_holdSign, 3, some .boolean)
theorem fa_X6_22 : FA_ RX6 22 6 12 := ⟨RX6, TX6, 15, rfl, ub_X6, by decide, Or.inl (tb_t (List.mem_of_getElem? (i := 213) (by decide +kernel)) rfl)⟩
theorem cm_X6_holdSign : CM_ mi_X6_holdSign 2 := ⟨tb_t (List.mem_of_getElem? (i := 637) (by decide +kernel)) rfl, tb_t (List.mem_of_getElem? (i := 7) (by decide +kernel)) rfl, tb_t (List.mem_of_getElem? (i := 636) (by decide +kernel)) rfl, tb_s (List.mem_of_getElem? (i := 25) (by decide +kernel)) rfl, by decide, by decide, by decide +kernel, by decide⟩
theorem ml_X6_102 : Cond.methodLink RX6 102 yX6_holdSign ∈ TB := tb_t (List.mem_of_getElem? (i := 634) (by decide +kernel)) rfl
theorem cm_X6_acceptCondition : CM_ mi_X6_acceptCondition 0 := ⟨tb_t (List.mem_of_getElem? (i := 625) (by decide +kernel)) rfl, tb_t (List.mem_of_getElem? (i := 7) (by decide +kernel)) rfl, tb_t (List.mem_of_getElem? (i := 624) (by decide +kernel)) rfl, tb_s (List.mem_of_getElem? (i := 22) (by decide +kernel)) rfl, by decide, by decide, by decide +kernel, by decide⟩
theorem ml_X6_70 : Cond.methodLink RX6 70 yX6_acceptCondition ∈ TB := tb_t (List.mem_of_getElem? (i := 622) (by decide +kernel)) rfl
abbrev mi_X6_acceptDivisor : MI := (yX6_acceptDivisor, cX6_acceptDivisor, 1, some .boolean)
theorem cm_X6_acceptDivisor : CM_ mi_X6_acceptDivisor 0 := ⟨tb_t (List.mem_of_getElem? (i := 641) (by decide +kernel)) rfl, tb_t (List.mem_of_getElem? (i := 7) (by decide +kernel)) rfl, tb_t (List.mem_of_getElem? (i := 640) (by decide +kernel)) rfl, tb_s (List.mem_of_getElem? (i := 26) (by decide +kernel)) rfl, by decide, by decide, by decide +kernel, by decide⟩
theorem ml_X6_76 : Cond.methodLink RX6 76 yX6_acceptDivisor ∈ TB := tb_t (List.mem_of_getElem? (i := 638) (by decide +kernel)) rfl
abbrev mi_X6_acceptValueTail : MI := (yX6_acceptValueTail, cX6_acceptValueTail, 2, some .boolean)
abbrev mi_X6_rankOf : MI := (yX6_rankOf, cX6_rankOf, 1, some .int)
theorem cs_X6_rankOf : CS_ mi_X6_rankOf 1 := ⟨tb_t (List.mem_of_getElem? (i := 648) (by decide +kernel)) rfl, tb_t (List.mem_of_getElem? (i := 7) (by decide +kernel)) rfl, tb_t (List.mem_of_getElem? (i := 647) (by decide +kernel)) rfl, by decide, by decide, by decide +kernel, by decide⟩
theorem ml_X6_113 : Cond.methodLink RX6 113 yX6_rankOf ∈ TB := tb_t (List.mem_of_getElem? (i := 646) (by decide +kernel)) rfl
abbrev mi_X6_settle : MI := (yX6_settle, cX6_settle, 3, none)
theorem cm_X6_settle : CM_ mi_X6_settle 1 := ⟨tb_t (List.mem_of_getElem? (i := 652) (by decide +kernel)) rfl, tb_t (List.mem_of_getElem? (i := 7) (by decide +kernel)) rfl, tb_t (List.mem_of_getElem? (i := 651) (by decide +kernel)) rfl, tb_s (List.mem_of_getElem? (i := 28) (by decide +kernel)) rfl, by decide, by decide, by decide +kernel, by decide⟩
theorem ml_X6_117 : Cond.methodLink RX6 117 yX6_settle ∈ TB := tb_t (List.mem_of_getElem? (i := 649) (by decide +kernel)) rfl
abbrev mi_X6_acceptConditionTail : MI := (yX6_acceptConditionTail, cX6_acceptConditionTail, 2, some .boolean)
abbrev mi_X6_closeBracket : MI := (yX6_closeBracket, cX6_closeBracket, 1, some .boolean)
theorem cm_X6_closeBracket : CM_ mi_X6_closeBracket 0 := ⟨tb_t (List.mem_of_getElem? (i := 660) (by decide +kernel)) rfl, tb_t (List.mem_of_getElem? (i := 7) (by decide +kernel)) rfl, tb_t (List.mem_of_getElem? (i := 659) (by decide +kernel)) rfl, tb_s (List.mem_of_getElem? (i := 30) (by decide +kernel)) rfl, by decide, by decide, by decide +kernel, by decide⟩
theorem ml_X6_120 : Cond.methodLink RX6 120 yX6_closeBracket ∈ TB := tb_t (List.mem_of_getElem? (i := 657) (by decide +kernel)) rfl
theorem cm_X6_acceptConditionTail : CM_ mi_X6_acceptConditionTail 0 := ⟨tb_t (List.mem_of_getElem? (i := 656) (by decide +kernel)) rfl, tb_t (List.mem_of_getElem? (i := 7) (by decide +kernel)) rfl, tb_t (List.mem_of_getElem? (i := 655) (by decide +kernel)) rfl, tb_s (List.mem_of_getElem? (i := 29) (by decide +kernel)) rfl, by decide, by decide, by decide +kernel, by decide⟩
theorem ml_X6_82 : Cond.methodLink RX6 82 yX6_acceptConditionTail ∈ TB := tb_t (List.mem_of_getElem? (i := 653) (by decide +kernel)) rfl
theorem cm_X6_acceptValueTail : CM_ mi_X6_acceptValueTail 0 := ⟨tb_t (List.mem_of_getElem? (i := 645) (by decide +kernel)) rfl, tb_t (List.mem_of_getElem? (i := 7) (by decide +kernel)) rfl, tb_t (List.mem_of_getElem? (i := 644) (by decide +kernel)) rfl, tb_s (List.mem_of_getElem? (i := 27) (by decide +kernel)) rfl, by decide, by decide, by decide +kernel, by decide⟩
theorem ml_X6_79 : Cond.methodLink RX6 79 yX6_acceptValueTail ∈ TB := tb_t (List.mem_of_getElem? (i := 642) (by decide +kernel)) rfl
theorem cm_X6_accept : CM_ mi_X6_accept 0 := ⟨tb_t (List.mem_of_getElem? (i := 601) (by decide +kernel)) rfl, tb_t (List.mem_of_getElem? (i := 7) (by decide +kernel)) rfl, tb_t (List.mem_of_getElem? (i := 600) (by decide +kernel)) rfl, tb_s (List.mem_of_getElem? (i := 16) (by decide +kernel)) rfl, by decide, by decide, by decide +kernel, by decide⟩
theorem ml_X6_57 : Cond.methodLink RX6 57 yX6_accept ∈ TB := tb_t (List.mem_of_getElem? (i := 598) (by decide +kernel)) rfl
theorem cm_X6_readLaw : CM_ mi_X6_readLaw 1 := ⟨tb_t (List.mem_of_getElem? (i := 434) (by decide +kernel)) rfl, tb_t (List.mem_of_getElem? (i := 7) (by decide +kernel)) rfl, tb_t (List.mem_of_getElem? (i := 433) (by decide +kernel)) rfl, tb_s (List.mem_of_getElem? (i := 9) (by decide +kernel)) rfl, by decide, by decide, by decide +kernel, by decide⟩
theorem mn_X9_106 : ∃ host, Cond.methodLinkNest RX9 106 yX6_readLaw host ∈ tables_1 := ⟨"HearDifference", (List.mem_of_getElem? (i := 431) (by decide +kernel))⟩
theorem fa_X9_109 : FA_ RX9 109 6 2 := ⟨RX6, TX6, 15, rfl, ub_X6, by decide, Or.inr ⟨"HearDifference", (List.mem_of_getElem? (i := 202) (by decide +kernel))⟩⟩
theorem fa_X9_41 : FA_ RX9 41 9 6 := ⟨RX9, TX9, 12, rfl, ub_X9, by decide, Or.inl (tb_t (List.mem_of_getElem? (i := 336) (by decide +kernel)) rfl)⟩
theorem fp_X9_41 : FP_ RX9 41 9 6 .int := ⟨RX9, TX9, 12, tyX9, rfl, ub_X9, by decide, Or.inl (tb_t (List.mem_of_getElem? (i := 336) (by decide +kernel)) rfl), tyX9_ok, nmX9, rfl, by decide +kernel⟩
theorem fa_X9_112 : FA_ RX9 112 6 3 := ⟨RX6, TX6, 15, rfl, ub_X6, by decide, Or.inr ⟨"HearDifference", (List.mem_of_getElem? (i := 204) (by decide +kernel))⟩⟩
theorem fa_X9_44 : FA_ RX9 44 9 7 := ⟨RX9, TX9, 12, rfl, ub_X9, by decide, Or.inl (tb_t (List.mem_of_getElem? (i := 337) (by decide +kernel)) rfl)⟩
theorem fp_X9_44 : FP_ RX9 44 9 7 .int := ⟨RX9, TX9, 12, tyX9, rfl, ub_X9, by decide, Or.inl (tb_t (List.mem_of_getElem? (i := 337) (by decide +kernel)) rfl), tyX9_ok, nmX9, rfl, by decide +kernel⟩
theorem fa_X9_115 : FA_ RX9 115 8 14 := ⟨RX8, TX8, 16, rfl, ub_X8, by decide, Or.inr ⟨"HearDifference", (List.mem_of_getElem? (i := 125) (by decide +kernel))⟩⟩
theorem fa_X9_119 : FA_ RX9 119 6 1 := ⟨RX6, TX6, 15, rfl, ub_X6, by decide, Or.inr ⟨"HearDifference", (List.mem_of_getElem? (i := 200) (by decide +kernel))⟩⟩
abbrev mi_X4_copyFrom : MI := (yX4_copyFrom, cX4_copyFrom, 2, none)
theorem jc_X4_25 : JC_ RX4 25 := ⟨tb_t (List.mem_of_getElem? (i := 665) (by decide +kernel)) rfl, tb_t (List.mem_of_getElem? (i := 667) (by decide +kernel)) rfl, tb_t (List.mem_of_getElem? (i := 666) (by decide +kernel)) rfl, tb_t (List.mem_of_getElem? (i := 19) (by decide +kernel)) rfl⟩
theorem cm_X4_copyFrom : CM_ mi_X4_copyFrom 1 := ⟨tb_t (List.mem_of_getElem? (i := 664) (by decide +kernel)) rfl, tb_t (List.mem_of_getElem? (i := 4) (by decide +kernel)) rfl, tb_t (List.mem_of_getElem? (i := 663) (by decide +kernel)) rfl, tb_s (List.mem_of_getElem? (i := 31) (by decide +kernel)) rfl, by decide, by decide, by decide +kernel, by decide⟩
theorem mn_X9_122 : ∃ host, Cond.methodLinkNest RX9 122 yX4_copyFrom host ∈ tables_1 := ⟨"HearDifference", (List.mem_of_getElem? (i := 661) (by decide +kernel))⟩
theorem fa_X9_128 : FA_ RX9 128 4 0 := ⟨RX4, TX4, 5, rfl, ub_X4, by decide, Or.inr ⟨"HearDifference", (List.mem_of_getElem? (i := 47) (by decide +kernel))⟩⟩
abbrev mi_X9_fault : MI := (yX9_fault, cX9_fault, 2, some .int)
abbrev mi_X9_speak : MI := (yX9_speak, cX9_speak, 4, some .int)
abbrev mi_X5_keep : MI := (yX5_keep, cX5_keep, 2, none)
theorem fa_X5_28 : FA_ RX5 28 8 2 := ⟨RX8, TX8, 16, rfl, ub_X8, by decide, Or.inr ⟨"HearDifference", (List.mem_of_getElem? (i := 91) (by decide +kernel))⟩⟩
theorem fa_X5_9 : FA_ RX5 9 5 2 := ⟨RX5, TX5, 6, rfl, ub_X5, by decide, Or.inl (tb_t (List.mem_of_getElem? (i := 172) (by decide +kernel)) rfl)⟩
theorem fa_X5_31 : FA_ RX5 31 5 0 := ⟨RX5, TX5, 6, rfl, ub_X5, by decide, Or.inl (tb_t (List.mem_of_getElem? (i := 169) (by decide +kernel)) rfl)⟩
theorem jc_X5_34 : JC_ RX5 34 := ⟨tb_t (List.mem_of_getElem? (i := 680) (by decide +kernel)) rfl, tb_t (List.mem_of_getElem? (i := 667) (by decide +kernel)) rfl, tb_t (List.mem_of_getElem? (i := 666) (by decide +kernel)) rfl, tb_t (List.mem_of_getElem? (i := 19) (by decide +kernel)) rfl⟩
theorem fa_X5_15 : FA_ RX5 15 5 3 := ⟨RX5, TX5, 6, rfl, ub_X5, by decide, Or.inl (tb_t (List.mem_of_getElem? (i := 173) (by decide +kernel)) rfl)⟩
theorem fa_X5_40 : FA_ RX5 40 8 0 := ⟨RX8, TX8, 16, rfl, ub_X8, by decide, Or.inr ⟨"HearDifference", (List.mem_of_getElem? (i := 85) (by decide +kernel))⟩⟩
theorem fa_X5_18 : FA_ RX5 18 5 4 := ⟨RX5, TX5, 6, rfl, ub_X5, by decide, Or.inl (tb_t (List.mem_of_getElem? (i := 174) (by decide +kernel)) rfl)⟩
theorem fa_X5_42 : FA_ RX5 42 8 6 := ⟨RX8, TX8, 16, rfl, ub_X8, by decide, Or.inr ⟨"HearDifference", (List.mem_of_getElem? (i := 102) (by decide +kernel))⟩⟩
theorem fa_X5_21 : FA_ RX5 21 5 5 := ⟨RX5, TX5, 6, rfl, ub_X5, by decide, Or.inl (tb_t (List.mem_of_getElem? (i := 175) (by decide +kernel)) rfl)⟩
theorem fa_X5_45 : FA_ RX5 45 8 15 := ⟨RX8, TX8, 16, rfl, ub_X8, by decide, Or.inr ⟨"HearDifference", (List.mem_of_getElem? (i := 128) (by decide +kernel))⟩⟩
theorem fa_X5_49 : FA_ RX5 49 0 0 := ⟨RX0, TX0, 2, rfl, ub_X0, by decide, Or.inr ⟨"HearDifference", (List.mem_of_getElem? (i := 75) (by decide +kernel))⟩⟩
theorem fp_X5_31 : FP_ RX5 31 5 0 .int := ⟨RX5, TX5, 6, tyX5, rfl, ub_X5, by decide, Or.inl (tb_t (List.mem_of_getElem? (i := 169) (by decide +kernel)) rfl), tyX5_ok, nmX5, rfl, by decide +kernel⟩
theorem jm_X5_54 : JM_min RX5 54 := ⟨tb_t (List.mem_of_getElem? (i := 681) (by decide +kernel)) rfl, tb_t (List.mem_of_getElem? (i := 558) (by decide +kernel)) rfl, tb_t (List.mem_of_getElem? (i := 17) (by decide +kernel)) rfl, tb_t (List.mem_of_getElem? (i := 559) (by decide +kernel)) rfl⟩
theorem cm_X5_keep : CM_ mi_X5_keep 1 := ⟨tb_t (List.mem_of_getElem? (i := 679) (by decide +kernel)) rfl, tb_t (List.mem_of_getElem? (i := 6) (by decide +kernel)) rfl, tb_t (List.mem_of_getElem? (i := 678) (by decide +kernel)) rfl, tb_s (List.mem_of_getElem? (i := 32) (by decide +kernel)) rfl, by decide, by decide, by decide +kernel, by decide⟩
theorem mn_X9_134 : ∃ host, Cond.methodLinkNest RX9 134 yX5_keep host ∈ tables_1 := ⟨"HearDifference", (List.mem_of_getElem? (i := 676) (by decide +kernel))⟩
theorem fa_X9_50 : FA_ RX9 50 9 8 := ⟨RX9, TX9, 12, rfl, ub_X9, by decide, Or.inl (tb_t (List.mem_of_getElem? (i := 338) (by decide +kernel)) rfl)⟩
abbrev mi_X2_hearersOf : MI := (yX2_hearersOf, cX2_hearersOf, 6, some .int)
theorem fa_X2_15 : FA_ RX2 15 8 2 := ⟨RX8, TX8, 16, rfl, ub_X8, by decide, Or.inr ⟨"HearDifference", (List.mem_of_getElem? (i := 90) (by decide +kernel))⟩⟩
abbrev mi_X2_attend : MI := (yX2_attend, cX2_attend, 6, none)
theorem jm_X2_53 : JM_min RX2 53 := ⟨tb_t (List.mem_of_getElem? (i := 690) (by decide +kernel)) rfl, tb_t (List.mem_of_getElem? (i := 558) (by decide +kernel)) rfl, tb_t (List.mem_of_getElem? (i := 17) (by decide +kernel)) rfl, tb_t (List.mem_of_getElem? (i := 559) (by decide +kernel)) rfl⟩
theorem fa_X2_58 : FA_ RX2 58 2 2 := ⟨RX2, TX2, 10, rfl, ub_X2, by decide, Or.inl (tb_t (List.mem_of_getElem? (i := 256) (by decide +kernel)) rfl)⟩
theorem fp_X2_58 : FP_ RX2 58 2 2 .int := ⟨RX2, TX2, 10, tyX2, rfl, ub_X2, by decide, Or.inl (tb_t (List.mem_of_getElem? (i := 256) (by decide +kernel)) rfl), tyX2_ok, nmX2, rfl, by decide +kernel⟩
theorem jm_X2_61 : JM_max RX2 61 := ⟨tb_t (List.mem_of_getElem? (i := 691) (by decide +kernel)) rfl, tb_t (List.mem_of_getElem? (i := 555) (by decide +kernel)) rfl, tb_t (List.mem_of_getElem? (i := 17) (by decide +kernel)) rfl, tb_t (List.mem_of_getElem? (i := 556) (by decide +kernel)) rfl⟩
theorem fa_X2_64 : FA_ RX2 64 2 3 := ⟨RX2, TX2, 10, rfl, ub_X2, by decide, Or.inl (tb_t (List.mem_of_getElem? (i := 257) (by decide +kernel)) rfl)⟩
theorem fp_X2_64 : FP_ RX2 64 2 3 .int := ⟨RX2, TX2, 10, tyX2, rfl, ub_X2, by decide, Or.inl (tb_t (List.mem_of_getElem? (i := 257) (by decide +kernel)) rfl), tyX2_ok, nmX2, rfl, by decide +kernel⟩
theorem fa_X2_67 : FA_ RX2 67 2 4 := ⟨RX2, TX2, 10, rfl, ub_X2, by decide, Or.inl (tb_t (List.mem_of_getElem? (i := 258) (by decide +kernel)) rfl)⟩
theorem fp_X2_67 : FP_ RX2 67 2 4 .int := ⟨RX2, TX2, 10, tyX2, rfl, ub_X2, by decide, Or.inl (tb_t (List.mem_of_getElem? (i := 258) (by decide +kernel)) rfl), tyX2_ok, nmX2, rfl, by decide +kernel⟩
theorem fa_X2_70 : FA_ RX2 70 8 3 := ⟨RX8, TX8, 16, rfl, ub_X8, by decide, Or.inr ⟨"HearDifference", (List.mem_of_getElem? (i := 94) (by decide +kernel))⟩⟩
theorem fa_X2_73 : FA_ RX2 73 2 5 := ⟨RX2, TX2, 10, rfl, ub_X2, by decide, Or.inl (tb_t (List.mem_of_getElem? (i := 259) (by decide +kernel)) rfl)⟩
theorem fp_X2_73 : FP_ RX2 73 2 5 .int := ⟨RX2, TX2, 10, tyX2, rfl, ub_X2, by decide, Or.inl (tb_t (List.mem_of_getElem? (i := 259) (by decide +kernel)) rfl), tyX2_ok, nmX2, rfl, by decide +kernel⟩
theorem fa_X2_76 : FA_ RX2 76 8 6 := ⟨RX8, TX8, 16, rfl, ub_X8, by decide, Or.inr ⟨"HearDifference", (List.mem_of_getElem? (i := 103) (by decide +kernel))⟩⟩
theorem fa_X2_79 : FA_ RX2 79 2 6 := ⟨RX2, TX2, 10, rfl, ub_X2, by decide, Or.inl (tb_t (List.mem_of_getElem? (i := 260) (by decide +kernel)) rfl)⟩
theorem fp_X2_79 : FP_ RX2 79 2 6 .int := ⟨RX2, TX2, 10, tyX2, rfl, ub_X2, by decide, Or.inl (tb_t (List.mem_of_getElem? (i := 260) (by decide +kernel)) rfl), tyX2_ok, nmX2, rfl, by decide +kernel⟩
theorem cm_X2_attend : CM_ mi_X2_attend 5 := ⟨tb_t (List.mem_of_getElem? (i := 689) (by decide +kernel)) rfl, tb_t (List.mem_of_getElem? (i := 8) (by decide +kernel)) rfl, tb_t (List.mem_of_getElem? (i := 688) (by decide +kernel)) rfl, tb_s (List.mem_of_getElem? (i := 34) (by decide +kernel)) rfl, by decide, by decide, by decide +kernel, by decide⟩
theorem ml_X2_20 : Cond.methodLink RX2 20 yX2_attend ∈ TB := tb_t (List.mem_of_getElem? (i := 686) (by decide +kernel)) rfl
theorem fa_X2_24 : FA_ RX2 24 8 1 := ⟨RX8, TX8, 16, rfl, ub_X8, by decide, Or.inr ⟨"HearDifference", (List.mem_of_getElem? (i := 87) (by decide +kernel))⟩⟩
abbrev mi_X2_isSinger : MI := (yX2_isSinger, cX2_isSinger, 2, some .boolean)
theorem cm_X2_isSinger : CM_ mi_X2_isSinger 1 := ⟨tb_t (List.mem_of_getElem? (i := 695) (by decide +kernel)) rfl, tb_t (List.mem_of_getElem? (i := 8) (by decide +kernel)) rfl, tb_t (List.mem_of_getElem? (i := 694) (by decide +kernel)) rfl, tb_s (List.mem_of_getElem? (i := 35) (by decide +kernel)) rfl, by decide, by decide, by decide +kernel, by decide⟩
theorem ml_X2_28 : Cond.methodLink RX2 28 yX2_isSinger ∈ TB := tb_t (List.mem_of_getElem? (i := 692) (by decide +kernel)) rfl
theorem fa_X2_32 : FA_ RX2 32 8 4 := ⟨RX8, TX8, 16, rfl, ub_X8, by decide, Or.inr ⟨"HearDifference", (List.mem_of_getElem? (i := 96) (by decide +kernel))⟩⟩
abbrev mi_X2_hearsThem : MI := (yX2_hearsThem, cX2_hearsThem, 7, some .boolean)
theorem mn_X2_82 : ∃ host, Cond.methodLinkNest RX2 82 yX8_hasHum host ∈ tables_1 := ⟨"HearDifference", (List.mem_of_getElem? (i := 700) (by decide +kernel))⟩
theorem fa_X2_85 : FA_ RX2 85 2 7 := ⟨RX2, TX2, 10, rfl, ub_X2, by decide, Or.inl (tb_t (List.mem_of_getElem? (i := 261) (by decide +kernel)) rfl)⟩
theorem fp_X2_85 : FP_ RX2 85 2 7 .int := ⟨RX2, TX2, 10, tyX2, rfl, ub_X2, by decide, Or.inl (tb_t (List.mem_of_getElem? (i := 261) (by decide +kernel)) rfl), tyX2_ok, nmX2, rfl, by decide +kernel⟩
theorem fa_X2_88 : FA_ RX2 88 2 8 := ⟨RX2, TX2, 10, rfl, ub_X2, by decide, Or.inl (tb_t (List.mem_of_getElem? (i := 262) (by decide +kernel)) rfl)⟩
theorem fp_X2_88 : FP_ RX2 88 2 8 .int := ⟨RX2, TX2, 10, tyX2, rfl, ub_X2, by decide, Or.inl (tb_t (List.mem_of_getElem? (i := 262) (by decide +kernel)) rfl), tyX2_ok, nmX2, rfl, by decide +kernel⟩
abbrev mi_J6_bitCount_0f7a4 : MI := (yJ6_bitCount_0f7a4, cJ6_bitCount_0f7a4, 1, some .int)
theorem k_J6_265 : Cond.constant RJ6 265 (1431655765) ∈ TB := tb_t (List.mem_of_getElem? (i := 704) (by decide +kernel)) rfl
theorem k_J6_266 : Cond.constant RJ6 266 (858993459) ∈ TB := tb_t (List.mem_of_getElem? (i := 705) (by decide +kernel)) rfl
theorem k_J6_267 : Cond.constant RJ6 267 (252645135) ∈ TB := tb_t (List.mem_of_getElem? (i := 706) (by decide +kernel)) rfl
theorem cs_J6_bitCount_0f7a4 : CS_ mi_J6_bitCount_0f7a4 1 := ⟨tb_t (List.mem_of_getElem? (i := 703) (by decide +kernel)) rfl, tb_t (List.mem_of_getElem? (i := 20) (by decide +kernel)) rfl, tb_t (List.mem_of_getElem? (i := 702) (by decide +kernel)) rfl, by decide, by decide, by decide +kernel, by decide⟩
theorem ml_X2_91 : Cond.methodLink RX2 91 yJ6_bitCount_0f7a4 ∈ TB := tb_t (List.mem_of_getElem? (i := 701) (by decide +kernel)) rfl
theorem fa_X2_96 : FA_ RX2 96 2 9 := ⟨RX2, TX2, 10, rfl, ub_X2, by decide, Or.inl (tb_t (List.mem_of_getElem? (i := 263) (by decide +kernel)) rfl)⟩
theorem fp_X2_96 : FP_ RX2 96 2 9 .int := ⟨RX2, TX2, 10, tyX2, rfl, ub_X2, by decide, Or.inl (tb_t (List.mem_of_getElem? (i := 263) (by decide +kernel)) rfl), tyX2_ok, nmX2, rfl, by decide +kernel⟩
theorem fa_X2_99 : FA_ RX2 99 8 14 := ⟨RX8, TX8, 16, rfl, ub_X8, by decide, Or.inr ⟨"HearDifference", (List.mem_of_getElem? (i := 126) (by decide +kernel))⟩⟩
theorem fa_X2_103 : FA_ RX2 103 4 0 := ⟨RX4, TX4, 5, rfl, ub_X4, by decide, Or.inr ⟨"HearDifference", (List.mem_of_getElem? (i := 48) (by decide +kernel))⟩⟩
theorem fa_X2_108 : FA_ RX2 108 4 2 := ⟨RX4, TX4, 5, rfl, ub_X4, by decide, Or.inr ⟨"HearDifference", (List.mem_of_getElem? (i := 52) (by decide +kernel))⟩⟩
abbrev mi_X2_isSo : MI := (yX2_isSo, cX2_isSo, 7, some .boolean)
theorem fa_X2_118 : FA_ RX2 118 2 1 := ⟨RX2, TX2, 10, rfl, ub_X2, by decide, Or.inl (tb_t (List.mem_of_getElem? (i := 255) (by decide +kernel)) rfl)⟩
theorem fp_X2_118 : FP_ RX2 118 2 1 .int := ⟨RX2, TX2, 10, tyX2, rfl, ub_X2, by decide, Or.inl (tb_t (List.mem_of_getElem? (i := 255) (by decide +kernel)) rfl), tyX2_ok, nmX2, rfl, by decide +kernel⟩
abbrev mi_X2_pop : MI := (yX2_pop, cX2_pop, 1, some .int)
theorem fa_X2_11 : FA_ RX2 11 2 0 := ⟨RX2, TX2, 10, rfl, ub_X2, by decide, Or.inl (tb_t (List.mem_of_getElem? (i := 254) (by decide +kernel)) rfl)⟩
theorem cm_X2_pop : CM_ mi_X2_pop 0 := ⟨tb_t (List.mem_of_getElem? (i := 725) (by decide +kernel)) rfl, tb_t (List.mem_of_getElem? (i := 8) (by decide +kernel)) rfl, tb_t (List.mem_of_getElem? (i := 724) (by decide +kernel)) rfl, tb_s (List.mem_of_getElem? (i := 40) (by decide +kernel)) rfl, by decide, by decide, by decide +kernel, by decide⟩
theorem ml_X2_131 : Cond.methodLink RX2 131 yX2_pop ∈ TB := tb_t (List.mem_of_getElem? (i := 722) (by decide +kernel)) rfl
theorem fa_X2_121 : FA_ RX2 121 4 4 := ⟨RX4, TX4, 5, rfl, ub_X4, by decide, Or.inr ⟨"HearDifference", (List.mem_of_getElem? (i := 55) (by decide +kernel))⟩⟩
abbrev mi_X2_joined : MI := (yX2_joined, cX2_joined, 3, some .int)
theorem cs_X2_joined : CS_ mi_X2_joined 3 := ⟨tb_t (List.mem_of_getElem? (i := 728) (by decide +kernel)) rfl, tb_t (List.mem_of_getElem? (i := 8) (by decide +kernel)) rfl, tb_t (List.mem_of_getElem? (i := 727) (by decide +kernel)) rfl, by decide, by decide, by decide +kernel, by decide⟩
theorem ml_X2_135 : Cond.methodLink RX2 135 yX2_joined ∈ TB := tb_t (List.mem_of_getElem? (i := 726) (by decide +kernel)) rfl
abbrev mi_X2_push : MI := (yX2_push, cX2_push, 2, none)
theorem cm_X2_push : CM_ mi_X2_push 1 := ⟨tb_t (List.mem_of_getElem? (i := 714) (by decide +kernel)) rfl, tb_t (List.mem_of_getElem? (i := 8) (by decide +kernel)) rfl, tb_t (List.mem_of_getElem? (i := 713) (by decide +kernel)) rfl, tb_s (List.mem_of_getElem? (i := 38) (by decide +kernel)) rfl, by decide, by decide, by decide +kernel, by decide⟩
theorem ml_X2_124 : Cond.methodLink RX2 124 yX2_push ∈ TB := tb_t (List.mem_of_getElem? (i := 711) (by decide +kernel)) rfl
abbrev mi_X2_valueOf : MI := (yX2_valueOf, cX2_valueOf, 2, some .int)
theorem jm_X2_139 : JM_abs RX2 139 := ⟨tb_t (List.mem_of_getElem? (i := 719) (by decide +kernel)) rfl, tb_t (List.mem_of_getElem? (i := 720) (by decide +kernel)) rfl, tb_t (List.mem_of_getElem? (i := 17) (by decide +kernel)) rfl, tb_t (List.mem_of_getElem? (i := 721) (by decide +kernel)) rfl⟩
theorem cm_X2_valueOf : CM_ mi_X2_valueOf 1 := ⟨tb_t (List.mem_of_getElem? (i := 718) (by decide +kernel)) rfl, tb_t (List.mem_of_getElem? (i := 8) (by decide +kernel)) rfl, tb_t (List.mem_of_getElem? (i := 717) (by decide +kernel)) rfl, tb_s (List.mem_of_getElem? (i := 39) (by decide +kernel)) rfl, by decide, by decide, by decide +kernel, by decide⟩
theorem ml_X2_128 : Cond.methodLink RX2 128 yX2_valueOf ∈ TB := tb_t (List.mem_of_getElem? (i := 715) (by decide +kernel)) rfl
theorem cm_X2_isSo : CM_ mi_X2_isSo 3 := ⟨tb_t (List.mem_of_getElem? (i := 710) (by decide +kernel)) rfl, tb_t (List.mem_of_getElem? (i := 8) (by decide +kernel)) rfl, tb_t (List.mem_of_getElem? (i := 709) (by decide +kernel)) rfl, tb_s (List.mem_of_getElem? (i := 37) (by decide +kernel)) rfl, by decide, by decide, by decide +kernel, by decide⟩
theorem ml_X2_111 : Cond.methodLink RX2 111 yX2_isSo ∈ TB := tb_t (List.mem_of_getElem? (i := 707) (by decide +kernel)) rfl
theorem fa_X2_115 : FA_ RX2 115 4 1 := ⟨RX4, TX4, 5, rfl, ub_X4, by decide, Or.inr ⟨"HearDifference", (List.mem_of_getElem? (i := 50) (by decide +kernel))⟩⟩
theorem cm_X2_hearsThem : CM_ mi_X2_hearsThem 3 := ⟨tb_t (List.mem_of_getElem? (i := 699) (by decide +kernel)) rfl, tb_t (List.mem_of_getElem? (i := 8) (by decide +kernel)) rfl, tb_t (List.mem_of_getElem? (i := 698) (by decide +kernel)) rfl, tb_s (List.mem_of_getElem? (i := 36) (by decide +kernel)) rfl, by decide, by decide, by decide +kernel, by decide⟩
theorem ml_X2_35 : Cond.methodLink RX2 35 yX2_hearsThem ∈ TB := tb_t (List.mem_of_getElem? (i := 696) (by decide +kernel)) rfl
theorem cm_X2_hearersOf : CM_ mi_X2_hearersOf 3 := ⟨tb_t (List.mem_of_getElem? (i := 685) (by decide +kernel)) rfl, tb_t (List.mem_of_getElem? (i := 8) (by decide +kernel)) rfl, tb_t (List.mem_of_getElem? (i := 684) (by decide +kernel)) rfl, tb_s (List.mem_of_getElem? (i := 33) (by decide +kernel)) rfl, by decide, by decide, by decide +kernel, by decide⟩
theorem mn_X9_138 : ∃ host, Cond.methodLinkNest RX9 138 yX2_hearersOf host ∈ tables_1 := ⟨"HearDifference", (List.mem_of_getElem? (i := 682) (by decide +kernel))⟩
theorem fa_X9_142 : FA_ RX9 142 8 15 := ⟨RX8, TX8, 16, rfl, ub_X8, by decide, Or.inr ⟨"HearDifference", (List.mem_of_getElem? (i := 129) (by decide +kernel))⟩⟩
theorem jm_X9_146 : JM_min RX9 146 := ⟨tb_t (List.mem_of_getElem? (i := 729) (by decide +kernel)) rfl, tb_t (List.mem_of_getElem? (i := 558) (by decide +kernel)) rfl, tb_t (List.mem_of_getElem? (i := 17) (by decide +kernel)) rfl, tb_t (List.mem_of_getElem? (i := 559) (by decide +kernel)) rfl⟩
theorem jm_X9_152 : JM_max RX9 152 := ⟨tb_t (List.mem_of_getElem? (i := 730) (by decide +kernel)) rfl, tb_t (List.mem_of_getElem? (i := 555) (by decide +kernel)) rfl, tb_t (List.mem_of_getElem? (i := 17) (by decide +kernel)) rfl, tb_t (List.mem_of_getElem? (i := 556) (by decide +kernel)) rfl⟩
abbrev mi_X8_wordOf : MI := (yX8_wordOf, cX8_wordOf, 3, some .int)
theorem jm_X8_92 : JM_abs RX8 92 := ⟨tb_t (List.mem_of_getElem? (i := 735) (by decide +kernel)) rfl, tb_t (List.mem_of_getElem? (i := 720) (by decide +kernel)) rfl, tb_t (List.mem_of_getElem? (i := 17) (by decide +kernel)) rfl, tb_t (List.mem_of_getElem? (i := 721) (by decide +kernel)) rfl⟩
theorem cm_X8_wordOf : CM_ mi_X8_wordOf 2 := ⟨tb_t (List.mem_of_getElem? (i := 734) (by decide +kernel)) rfl, tb_t (List.mem_of_getElem? (i := 2) (by decide +kernel)) rfl, tb_t (List.mem_of_getElem? (i := 733) (by decide +kernel)) rfl, tb_s (List.mem_of_getElem? (i := 41) (by decide +kernel)) rfl, by decide, by decide, by decide +kernel, by decide⟩
theorem mn_X9_155 : ∃ host, Cond.methodLinkNest RX9 155 yX8_wordOf host ∈ tables_1 := ⟨"HearDifference", (List.mem_of_getElem? (i := 731) (by decide +kernel))⟩
theorem fa_X9_158 : FA_ RX9 158 8 6 := ⟨RX8, TX8, 16, rfl, ub_X8, by decide, Or.inr ⟨"HearDifference", (List.mem_of_getElem? (i := 104) (by decide +kernel))⟩⟩
abbrev mi_X0_write : MI := (yX0_write, cX0_write, 7, none)
theorem fa_X0_15 : FA_ RX0 15 0 0 := ⟨RX0, TX0, 2, rfl, ub_X0, by decide, Or.inl (tb_t (List.mem_of_getElem? (i := 74) (by decide +kernel)) rfl)⟩
theorem fa_X0_9 : FA_ RX0 9 0 1 := ⟨RX0, TX0, 2, rfl, ub_X0, by decide, Or.inl (tb_t (List.mem_of_getElem? (i := 77) (by decide +kernel)) rfl)⟩
theorem fp_X0_15 : FP_ RX0 15 0 0 .int := ⟨RX0, TX0, 2, tyX0, rfl, ub_X0, by decide, Or.inl (tb_t (List.mem_of_getElem? (i := 74) (by decide +kernel)) rfl), tyX0_ok, nmX0, rfl, by decide +kernel⟩
theorem cm_X0_write : CM_ mi_X0_write 5 := ⟨tb_t (List.mem_of_getElem? (i := 739) (by decide +kernel)) rfl, tb_t (List.mem_of_getElem? (i := 5) (by decide +kernel)) rfl, tb_t (List.mem_of_getElem? (i := 738) (by decide +kernel)) rfl, tb_s (List.mem_of_getElem? (i := 42) (by decide +kernel)) rfl, by decide, by decide, by decide +kernel, by decide⟩
theorem mn_X9_161 : ∃ host, Cond.methodLinkNest RX9 161 yX0_write host ∈ tables_1 := ⟨"HearDifference", (List.mem_of_getElem? (i := 736) (by decide +kernel))⟩
abbrev mi_X9_hours : MI := (yX9_hours, cX9_hours, 4, some .int)
abbrev mi_X8_passHour : MI := (yX8_passHour, cX8_passHour, 4, some .int)
theorem fa_X8_72 : FA_ RX8 72 8 6 := ⟨RX8, TX8, 16, rfl, ub_X8, by decide, Or.inl (tb_t (List.mem_of_getElem? (i := 101) (by decide +kernel)) rfl)⟩
theorem fp_X8_72 : FP_ RX8 72 8 6 .int := ⟨RX8, TX8, 16, tyX8, rfl, ub_X8, by decide, Or.inl (tb_t (List.mem_of_getElem? (i := 101) (by decide +kernel)) rfl), tyX8_ok, nmX8, rfl, by decide +kernel⟩
theorem fa_X8_69 : FA_ RX8 69 8 5 := ⟨RX8, TX8, 16, rfl, ub_X8, by decide, Or.inl (tb_t (List.mem_of_getElem? (i := 99) (by decide +kernel)) rfl)⟩
theorem fa_X8_66 : FA_ RX8 66 8 4 := ⟨RX8, TX8, 16, rfl, ub_X8, by decide, Or.inl (tb_t (List.mem_of_getElem? (i := 97) (by decide +kernel)) rfl)⟩
abbrev mi_X8_draw : MI := (yX8_draw, cX8_draw, 2, some .int)
theorem k_X8_105 : Cond.constant RX8 105 (1664525) ∈ TB := tb_t (List.mem_of_getElem? (i := 752) (by decide +kernel)) rfl
theorem fa_X8_53 : FA_ RX8 53 8 0 := ⟨RX8, TX8, 16, rfl, ub_X8, by decide, Or.inl (tb_t (List.mem_of_getElem? (i := 83) (by decide +kernel)) rfl)⟩
theorem k_X8_106 : Cond.constant RX8 106 (1013904223) ∈ TB := tb_t (List.mem_of_getElem? (i := 753) (by decide +kernel)) rfl
theorem fp_X8_53 : FP_ RX8 53 8 0 .int := ⟨RX8, TX8, 16, tyX8, rfl, ub_X8, by decide, Or.inl (tb_t (List.mem_of_getElem? (i := 83) (by decide +kernel)) rfl), tyX8_ok, nmX8, rfl, by decide +kernel⟩
theorem cm_X8_draw : CM_ mi_X8_draw 1 := ⟨tb_t (List.mem_of_getElem? (i := 751) (by decide +kernel)) rfl, tb_t (List.mem_of_getElem? (i := 2) (by decide +kernel)) rfl, tb_t (List.mem_of_getElem? (i := 750) (by decide +kernel)) rfl, tb_s (List.mem_of_getElem? (i := 44) (by decide +kernel)) rfl, by decide, by decide, by decide +kernel, by decide⟩
theorem ml_X8_107 : Cond.methodLink RX8 107 yX8_draw ∈ TB := tb_t (List.mem_of_getElem? (i := 748) (by decide +kernel)) rfl
theorem jm_X8_110 : JM_min RX8 110 := ⟨tb_t (List.mem_of_getElem? (i := 754) (by decide +kernel)) rfl, tb_t (List.mem_of_getElem? (i := 558) (by decide +kernel)) rfl, tb_t (List.mem_of_getElem? (i := 17) (by decide +kernel)) rfl, tb_t (List.mem_of_getElem? (i := 559) (by decide +kernel)) rfl⟩
theorem jm_X8_113 : JM_max RX8 113 := ⟨tb_t (List.mem_of_getElem? (i := 755) (by decide +kernel)) rfl, tb_t (List.mem_of_getElem? (i := 555) (by decide +kernel)) rfl, tb_t (List.mem_of_getElem? (i := 17) (by decide +kernel)) rfl, tb_t (List.mem_of_getElem? (i := 556) (by decide +kernel)) rfl⟩
theorem cm_X8_passHour : CM_ mi_X8_passHour 0 := ⟨tb_t (List.mem_of_getElem? (i := 747) (by decide +kernel)) rfl, tb_t (List.mem_of_getElem? (i := 2) (by decide +kernel)) rfl, tb_t (List.mem_of_getElem? (i := 746) (by decide +kernel)) rfl, tb_s (List.mem_of_getElem? (i := 43) (by decide +kernel)) rfl, by decide, by decide, by decide +kernel, by decide⟩
theorem mn_X9_167 : ∃ host, Cond.methodLinkNest RX9 167 yX8_passHour host ∈ tables_1 := ⟨"HearDifference", (List.mem_of_getElem? (i := 744) (by decide +kernel))⟩
abbrev mi_X9_of : MI := (yX9_of, cX9_of, 3, some .int)
abbrev mi_X2_couplesHeard : MI := (yX2_couplesHeard, cX2_couplesHeard, 8, some .int)
abbrev mi_X2_hearsNow : MI := (yX2_hearsNow, cX2_hearsNow, 6, some .boolean)
theorem cm_X2_hearsNow : CM_ mi_X2_hearsNow 5 := ⟨tb_t (List.mem_of_getElem? (i := 767) (by decide +kernel)) rfl, tb_t (List.mem_of_getElem? (i := 8) (by decide +kernel)) rfl, tb_t (List.mem_of_getElem? (i := 766) (by decide +kernel)) rfl, tb_s (List.mem_of_getElem? (i := 46) (by decide +kernel)) rfl, by decide, by decide, by decide +kernel, by decide⟩
theorem ml_X2_39 : Cond.methodLink RX2 39 yX2_hearsNow ∈ TB := tb_t (List.mem_of_getElem? (i := 764) (by decide +kernel)) rfl
theorem cm_X2_couplesHeard : CM_ mi_X2_couplesHeard 3 := ⟨tb_t (List.mem_of_getElem? (i := 763) (by decide +kernel)) rfl, tb_t (List.mem_of_getElem? (i := 8) (by decide +kernel)) rfl, tb_t (List.mem_of_getElem? (i := 762) (by decide +kernel)) rfl, tb_s (List.mem_of_getElem? (i := 45) (by decide +kernel)) rfl, by decide, by decide, by decide +kernel, by decide⟩
theorem mn_X9_177 : ∃ host, Cond.methodLinkNest RX9 177 yX2_couplesHeard host ∈ tables_1 := ⟨"HearDifference", (List.mem_of_getElem? (i := 760) (by decide +kernel))⟩
abbrev mi_X2_wordsHeard : MI := (yX2_wordsHeard, cX2_wordsHeard, 8, some .int)
abbrev mi_J13_bitCount_95d88 : MI := (yJ13_bitCount_95d88, cJ13_bitCount_95d88, 2, some .int)
theorem k_J13_314 : Cond.constantLong RJ13 314 (6148914691236517205) ∈ TB := tb_t (List.mem_of_getElem? (i := 776) (by decide +kernel)) rfl
theorem k_J13_316 : Cond.constantLong RJ13 316 (3689348814741910323) ∈ TB := tb_t (List.mem_of_getElem? (i := 777) (by decide +kernel)) rfl
theorem k_J13_318 : Cond.constantLong RJ13 318 (1085102592571150095) ∈ TB := tb_t (List.mem_of_getElem? (i := 778) (by decide +kernel)) rfl
theorem cs_J13_bitCount_95d88 : CS_ mi_J13_bitCount_95d88 1 := ⟨tb_t (List.mem_of_getElem? (i := 775) (by decide +kernel)) rfl, tb_t (List.mem_of_getElem? (i := 21) (by decide +kernel)) rfl, tb_t (List.mem_of_getElem? (i := 774) (by decide +kernel)) rfl, by decide, by decide, by decide +kernel, by decide⟩
theorem ml_X2_47 : Cond.methodLink RX2 47 yJ13_bitCount_95d88 ∈ TB := tb_t (List.mem_of_getElem? (i := 773) (by decide +kernel)) rfl
theorem mn_X2_43 : ∃ host, Cond.methodLinkNest RX2 43 yX8_wordOf host ∈ tables_1 := ⟨"HearDifference", (List.mem_of_getElem? (i := 772) (by decide +kernel))⟩
theorem cm_X2_wordsHeard : CM_ mi_X2_wordsHeard 2 := ⟨tb_t (List.mem_of_getElem? (i := 771) (by decide +kernel)) rfl, tb_t (List.mem_of_getElem? (i := 8) (by decide +kernel)) rfl, tb_t (List.mem_of_getElem? (i := 770) (by decide +kernel)) rfl, tb_s (List.mem_of_getElem? (i := 47) (by decide +kernel)) rfl, by decide, by decide, by decide +kernel, by decide⟩
theorem mn_X9_180 : ∃ host, Cond.methodLinkNest RX9 180 yX2_wordsHeard host ∈ tables_1 := ⟨"HearDifference", (List.mem_of_getElem? (i := 768) (by decide +kernel))⟩
abbrev mi_X9_hears : MI := (yX9_hears, cX9_hears, 4, some .int)
abbrev mi_X9_areThree : MI := (yX9_areThree, cX9_areThree, 4, some .boolean)
theorem cm_X9_areThree : CM_ mi_X9_areThree 3 := ⟨tb_t (List.mem_of_getElem? (i := 786) (by decide +kernel)) rfl, tb_t (List.mem_of_getElem? (i := 1) (by decide +kernel)) rfl, tb_t (List.mem_of_getElem? (i := 785) (by decide +kernel)) rfl, tb_s (List.mem_of_getElem? (i := 48) (by decide +kernel)) rfl, by decide, by decide, by decide +kernel, by decide⟩
theorem ml_X9_184 : Cond.methodLink RX9 184 yX9_areThree ∈ TB := tb_t (List.mem_of_getElem? (i := 783) (by decide +kernel)) rfl
theorem mn_X9_187 : ∃ host, Cond.methodLinkNest RX9 187 yX2_hearsNow host ∈ tables_1 := ⟨"HearDifference", (List.mem_of_getElem? (i := 787) (by decide +kernel))⟩
abbrev mi_X9_deaf : MI := (yX9_deaf, cX9_deaf, 4, some .int)
abbrev mi_X9_book : MI := (yX9_book, cX9_book, 3, some .int)
abbrev mi_X0_read : MI := (yX0_read, cX0_read, 3, some .int)
theorem cm_X0_read : CM_ mi_X0_read 2 := ⟨tb_t (List.mem_of_getElem? (i := 799) (by decide +kernel)) rfl, tb_t (List.mem_of_getElem? (i := 5) (by decide +kernel)) rfl, tb_t (List.mem_of_getElem? (i := 798) (by decide +kernel)) rfl, tb_s (List.mem_of_getElem? (i := 49) (by decide +kernel)) rfl, by decide, by decide, by decide +kernel, by decide⟩
theorem mn_X9_191 : ∃ host, Cond.methodLinkNest RX9 191 yX0_read host ∈ tables_1 := ⟨"HearDifference", (List.mem_of_getElem? (i := 796) (by decide +kernel))⟩
abbrev mi_X9_tune : MI := (yX9_tune, cX9_tune, 4, some .int)
abbrev mi_X9_isTune : MI := (yX9_isTune, cX9_isTune, 1, some .boolean)
theorem cs_X9_isTune : CS_ mi_X9_isTune 1 := ⟨tb_t (List.mem_of_getElem? (i := 806) (by decide +kernel)) rfl, tb_t (List.mem_of_getElem? (i := 1) (by decide +kernel)) rfl, tb_t (List.mem_of_getElem? (i := 805) (by decide +kernel)) rfl, by decide, by decide, by decide +kernel, by decide⟩
theorem ml_X9_194 : Cond.methodLink RX9 194 yX9_isTune ∈ TB := tb_t (List.mem_of_getElem? (i := 804) (by decide +kernel)) rfl
theorem fa_X9_197 : FA_ RX9 197 8 8 := ⟨RX8, TX8, 16, rfl, ub_X8, by decide, Or.inr ⟨"HearDifference", (List.mem_of_getElem? (i := 108) (by decide +kernel))⟩⟩
theorem fa_X9_200 : FA_ RX9 200 8 7 := ⟨RX8, TX8, 16, rfl, ub_X8, by decide, Or.inr ⟨"HearDifference", (List.mem_of_getElem? (i := 106) (by decide +kernel))⟩⟩
abbrev mi_X9_same : MI := (yX9_same, cX9_same, 4, some .int)
abbrev mi_X9_stepsAgree : MI := (yX9_stepsAgree, cX9_stepsAgree, 8, some .boolean)
abbrev mi_X8_toneOf : MI := (yX8_toneOf, cX8_toneOf, 3, some .int)
theorem fa_X8_24 : FA_ RX8 24 8 7 := ⟨RX8, TX8, 16, rfl, ub_X8, by decide, Or.inl (tb_t (List.mem_of_getElem? (i := 105) (by decide +kernel)) rfl)⟩
theorem cm_X8_toneOf : CM_ mi_X8_toneOf 2 := ⟨tb_t (List.mem_of_getElem? (i := 818) (by decide +kernel)) rfl, tb_t (List.mem_of_getElem? (i := 2) (by decide +kernel)) rfl, tb_t (List.mem_of_getElem? (i := 817) (by decide +kernel)) rfl, tb_s (List.mem_of_getElem? (i := 51) (by decide +kernel)) rfl, by decide, by decide, by decide +kernel, by decide⟩
theorem mn_X9_207 : ∃ host, Cond.methodLinkNest RX9 207 yX8_toneOf host ∈ tables_1 := ⟨"HearDifference", (List.mem_of_getElem? (i := 815) (by decide +kernel))⟩
theorem cm_X9_stepsAgree : CM_ mi_X9_stepsAgree 4 := ⟨tb_t (List.mem_of_getElem? (i := 814) (by decide +kernel)) rfl, tb_t (List.mem_of_getElem? (i := 1) (by decide +kernel)) rfl, tb_t (List.mem_of_getElem? (i := 813) (by decide +kernel)) rfl, tb_s (List.mem_of_getElem? (i := 50) (by decide +kernel)) rfl, by decide, by decide, by decide +kernel, by decide⟩
theorem ml_X9_203 : Cond.methodLink RX9 203 yX9_stepsAgree ∈ TB := tb_t (List.mem_of_getElem? (i := 811) (by decide +kernel)) rfl
abbrev mi_X9_pair : MI := (yX9_pair, cX9_pair, 3, some .int)
theorem fa_X9_210 : FA_ RX9 210 8 9 := ⟨RX8, TX8, 16, rfl, ub_X8, by decide, Or.inr ⟨"HearDifference", (List.mem_of_getElem? (i := 111) (by decide +kernel))⟩⟩
theorem fa_X9_213 : FA_ RX9 213 8 10 := ⟨RX8, TX8, 16, rfl, ub_X8, by decide, Or.inr ⟨"HearDifference", (List.mem_of_getElem? (i := 114) (by decide +kernel))⟩⟩
theorem fa_X9_216 : FA_ RX9 216 8 11 := ⟨RX8, TX8, 16, rfl, ub_X8, by decide, Or.inr ⟨"HearDifference", (List.mem_of_getElem? (i := 117) (by decide +kernel))⟩⟩
theorem fp_X9_210 : FP_ RX9 210 8 9 .int := ⟨RX8, TX8, 16, tyX8, rfl, ub_X8, by decide, Or.inr ⟨"HearDifference", (List.mem_of_getElem? (i := 111) (by decide +kernel))⟩, tyX8_ok, nmX8, rfl, by decide +kernel⟩
abbrev mi_X9_turnOf : MI := (yX9_turnOf, cX9_turnOf, 2, some .int)
abbrev mi_X9_isInRow : MI := (yX9_isInRow, cX9_isInRow, 2, some .boolean)
theorem cs_X9_isInRow : CS_ mi_X9_isInRow 2 := ⟨tb_t (List.mem_of_getElem? (i := 847) (by decide +kernel)) rfl, tb_t (List.mem_of_getElem? (i := 1) (by decide +kernel)) rfl, tb_t (List.mem_of_getElem? (i := 846) (by decide +kernel)) rfl, by decide, by decide, by decide +kernel, by decide⟩
theorem ml_X9_223 : Cond.methodLink RX9 223 yX9_isInRow ∈ TB := tb_t (List.mem_of_getElem? (i := 845) (by decide +kernel)) rfl
theorem fa_X9_57 : FA_ RX9 57 9 9 := ⟨RX9, TX9, 12, rfl, ub_X9, by decide, Or.inl (tb_t (List.mem_of_getElem? (i := 339) (by decide +kernel)) rfl)⟩
abbrev mi_X7_arrange : MI := (yX7_arrange, cX7_arrange, 4, some .int)
theorem fa_X7_18 : FA_ RX7 18 8 9 := ⟨RX8, TX8, 16, rfl, ub_X8, by decide, Or.inr ⟨"HearDifference", (List.mem_of_getElem? (i := 109) (by decide +kernel))⟩⟩
theorem fa_X7_15 : FA_ RX7 15 7 1 := ⟨RX7, TX7, 2, rfl, ub_X7, by decide, Or.inl (tb_t (List.mem_of_getElem? (i := 293) (by decide +kernel)) rfl)⟩
abbrev mi_X7_clash : MI := (yX7_clash, cX7_clash, 7, some .boolean)
theorem fa_X7_32 : FA_ RX7 32 8 10 := ⟨RX8, TX8, 16, rfl, ub_X8, by decide, Or.inr ⟨"HearDifference", (List.mem_of_getElem? (i := 113) (by decide +kernel))⟩⟩
theorem fa_X7_35 : FA_ RX7 35 8 11 := ⟨RX8, TX8, 16, rfl, ub_X8, by decide, Or.inr ⟨"HearDifference", (List.mem_of_getElem? (i := 116) (by decide +kernel))⟩⟩
theorem mn_X7_38 : ∃ host, Cond.methodLinkNest RX7 38 yX8_hasHum host ∈ tables_1 := ⟨"HearDifference", (List.mem_of_getElem? (i := 834) (by decide +kernel))⟩
theorem mn_X7_42 : ∃ host, Cond.methodLinkNest RX7 42 yX8_wordOf host ∈ tables_1 := ⟨"HearDifference", (List.mem_of_getElem? (i := 835) (by decide +kernel))⟩
theorem cs_X7_clash : CS_ mi_X7_clash 3 := ⟨tb_t (List.mem_of_getElem? (i := 833) (by decide +kernel)) rfl, tb_t (List.mem_of_getElem? (i := 9) (by decide +kernel)) rfl, tb_t (List.mem_of_getElem? (i := 832) (by decide +kernel)) rfl, by decide, by decide, by decide +kernel, by decide⟩
theorem ml_X7_24 : Cond.methodLink RX7 24 yX7_clash ∈ TB := tb_t (List.mem_of_getElem? (i := 831) (by decide +kernel)) rfl
abbrev mi_X7_place : MI := (yX7_place, cX7_place, 6, some .boolean)
abbrev mi_X7_isFree : MI := (yX7_isFree, cX7_isFree, 4, some .boolean)
theorem fa_X7_9 : FA_ RX7 9 7 0 := ⟨RX7, TX7, 2, rfl, ub_X7, by decide, Or.inl (tb_t (List.mem_of_getElem? (i := 291) (by decide +kernel)) rfl)⟩
theorem cm_X7_isFree : CM_ mi_X7_isFree 2 := ⟨tb_t (List.mem_of_getElem? (i := 843) (by decide +kernel)) rfl, tb_t (List.mem_of_getElem? (i := 9) (by decide +kernel)) rfl, tb_t (List.mem_of_getElem? (i := 842) (by decide +kernel)) rfl, tb_s (List.mem_of_getElem? (i := 54) (by decide +kernel)) rfl, by decide, by decide, by decide +kernel, by decide⟩
theorem ml_X7_46 : Cond.methodLink RX7 46 yX7_isFree ∈ TB := tb_t (List.mem_of_getElem? (i := 840) (by decide +kernel)) rfl
theorem jm_X7_50 : JM_max RX7 50 := ⟨tb_t (List.mem_of_getElem? (i := 844) (by decide +kernel)) rfl, tb_t (List.mem_of_getElem? (i := 555) (by decide +kernel)) rfl, tb_t (List.mem_of_getElem? (i := 17) (by decide +kernel)) rfl, tb_t (List.mem_of_getElem? (i := 556) (by decide +kernel)) rfl⟩
theorem cm_X7_place : CM_ mi_X7_place 4 := ⟨tb_t (List.mem_of_getElem? (i := 839) (by decide +kernel)) rfl, tb_t (List.mem_of_getElem? (i := 9) (by decide +kernel)) rfl, tb_t (List.mem_of_getElem? (i := 838) (by decide +kernel)) rfl, tb_s (List.mem_of_getElem? (i := 53) (by decide +kernel)) rfl, by decide, by decide, by decide +kernel, by decide⟩
theorem ml_X7_28 : Cond.methodLink RX7 28 yX7_place ∈ TB := tb_t (List.mem_of_getElem? (i := 836) (by decide +kernel)) rfl
theorem cm_X7_arrange : CM_ mi_X7_arrange 1 := ⟨tb_t (List.mem_of_getElem? (i := 830) (by decide +kernel)) rfl, tb_t (List.mem_of_getElem? (i := 9) (by decide +kernel)) rfl, tb_t (List.mem_of_getElem? (i := 829) (by decide +kernel)) rfl, tb_s (List.mem_of_getElem? (i := 52) (by decide +kernel)) rfl, by decide, by decide, by decide +kernel, by decide⟩
theorem mn_X9_219 : ∃ host, Cond.methodLinkNest RX9 219 yX7_arrange host ∈ tables_1 := ⟨"HearDifference", (List.mem_of_getElem? (i := 827) (by decide +kernel))⟩
theorem fa_X9_227 : FA_ RX9 227 7 0 := ⟨RX7, TX7, 2, rfl, ub_X7, by decide, Or.inr ⟨"HearDifference", (List.mem_of_getElem? (i := 292) (by decide +kernel))⟩⟩
abbrev mi_X9_tell : MI := (yX9_tell, cX9_tell, 2, some .int)
theorem fa_X9_230 : FA_ RX9 230 8 12 := ⟨RX8, TX8, 16, rfl, ub_X8, by decide, Or.inr ⟨"HearDifference", (List.mem_of_getElem? (i := 120) (by decide +kernel))⟩⟩
theorem fa_X9_233 : FA_ RX9 233 8 13 := ⟨RX8, TX8, 16, rfl, ub_X8, by decide, Or.inr ⟨"HearDifference", (List.mem_of_getElem? (i := 123) (by decide +kernel))⟩⟩
theorem fp_X9_230 : FP_ RX9 230 8 12 .int := ⟨RX8, TX8, 16, tyX8, rfl, ub_X8, by decide, Or.inr ⟨"HearDifference", (List.mem_of_getElem? (i := 120) (by decide +kernel))⟩, tyX8_ok, nmX8, rfl, by decide +kernel⟩
abbrev mi_X9_fit : MI := (yX9_fit, cX9_fit, 4, some .int)
theorem fa_X9_64 : FA_ RX9 64 9 10 := ⟨RX9, TX9, 12, rfl, ub_X9, by decide, Or.inl (tb_t (List.mem_of_getElem? (i := 340) (by decide +kernel)) rfl)⟩
abbrev mi_X3_countRows : MI := (yX3_countRows, cX3_countRows, 4, some .int)
theorem fa_X3_21 : FA_ RX3 21 3 3 := ⟨RX3, TX3, 4, rfl, ub_X3, by decide, Or.inl (tb_t (List.mem_of_getElem? (i := 309) (by decide +kernel)) rfl)⟩
theorem fp_X3_21 : FP_ RX3 21 3 3 .int := ⟨RX3, TX3, 4, tyX3, rfl, ub_X3, by decide, Or.inl (tb_t (List.mem_of_getElem? (i := 309) (by decide +kernel)) rfl), tyX3_ok, nmX3, rfl, by decide +kernel⟩
theorem fa_X3_25 : FA_ RX3 25 8 12 := ⟨RX8, TX8, 16, rfl, ub_X8, by decide, Or.inr ⟨"HearDifference", (List.mem_of_getElem? (i := 118) (by decide +kernel))⟩⟩
theorem fa_X3_18 : FA_ RX3 18 3 2 := ⟨RX3, TX3, 4, rfl, ub_X3, by decide, Or.inl (tb_t (List.mem_of_getElem? (i := 308) (by decide +kernel)) rfl)⟩
abbrev mi_J7_fill_53178 : MI := (yJ7_fill_53178, cJ7_fill_53178, 4, none)
theorem cs_J7_fill_53178 : CS_ mi_J7_fill_53178 2 := ⟨tb_t (List.mem_of_getElem? (i := 38) (by decide +kernel)) rfl, tb_t (List.mem_of_getElem? (i := 3) (by decide +kernel)) rfl, tb_t (List.mem_of_getElem? (i := 37) (by decide +kernel)) rfl, by decide, by decide, by decide +kernel, by decide⟩
theorem ml_X3_30 : Cond.methodLink RX3 30 yJ7_fill_53178 ∈ TB := tb_t (List.mem_of_getElem? (i := 860) (by decide +kernel)) rfl
theorem fa_X3_15 : FA_ RX3 15 3 1 := ⟨RX3, TX3, 4, rfl, ub_X3, by decide, Or.inl (tb_t (List.mem_of_getElem? (i := 307) (by decide +kernel)) rfl)⟩
abbrev mi_X3_extend : MI := (yX3_extend, cX3_extend, 4, none)
abbrev mi_X3_hasWordsFor : MI := (yX3_hasWordsFor, cX3_hasWordsFor, 4, some .boolean)
theorem cm_X3_hasWordsFor : CM_ mi_X3_hasWordsFor 2 := ⟨tb_t (List.mem_of_getElem? (i := 869) (by decide +kernel)) rfl, tb_t (List.mem_of_getElem? (i := 10) (by decide +kernel)) rfl, tb_t (List.mem_of_getElem? (i := 868) (by decide +kernel)) rfl, tb_s (List.mem_of_getElem? (i := 57) (by decide +kernel)) rfl, by decide, by decide, by decide +kernel, by decide⟩
theorem ml_X3_49 : Cond.methodLink RX3 49 yX3_hasWordsFor ∈ TB := tb_t (List.mem_of_getElem? (i := 866) (by decide +kernel)) rfl
abbrev mi_X3_changeLeft : MI := (yX3_changeLeft, cX3_changeLeft, 5, none)
theorem cm_X3_changeLeft : CM_ mi_X3_changeLeft 3 := ⟨tb_t (List.mem_of_getElem? (i := 873) (by decide +kernel)) rfl, tb_t (List.mem_of_getElem? (i := 10) (by decide +kernel)) rfl, tb_t (List.mem_of_getElem? (i := 872) (by decide +kernel)) rfl, tb_s (List.mem_of_getElem? (i := 58) (by decide +kernel)) rfl, by decide, by decide, by decide +kernel, by decide⟩
theorem ml_X3_53 : Cond.methodLink RX3 53 yX3_changeLeft ∈ TB := tb_t (List.mem_of_getElem? (i := 870) (by decide +kernel)) rfl
theorem cm_X3_extend : CM_ mi_X3_extend 2 := ⟨tb_t (List.mem_of_getElem? (i := 864) (by decide +kernel)) rfl, tb_t (List.mem_of_getElem? (i := 10) (by decide +kernel)) rfl, tb_t (List.mem_of_getElem? (i := 863) (by decide +kernel)) rfl, tb_s (List.mem_of_getElem? (i := 56) (by decide +kernel)) rfl, by decide, by decide, by decide +kernel, by decide⟩
theorem ml_X3_39 : Cond.methodLink RX3 39 yX3_extend ∈ TB := tb_t (List.mem_of_getElem? (i := 861) (by decide +kernel)) rfl
theorem fa_X3_9 : FA_ RX3 9 3 0 := ⟨RX3, TX3, 4, rfl, ub_X3, by decide, Or.inl (tb_t (List.mem_of_getElem? (i := 305) (by decide +kernel)) rfl)⟩
theorem jc_X3_43 : JC_ RX3 43 := ⟨tb_t (List.mem_of_getElem? (i := 865) (by decide +kernel)) rfl, tb_t (List.mem_of_getElem? (i := 667) (by decide +kernel)) rfl, tb_t (List.mem_of_getElem? (i := 666) (by decide +kernel)) rfl, tb_t (List.mem_of_getElem? (i := 19) (by decide +kernel)) rfl⟩
theorem fa_X3_36 : FA_ RX3 36 8 13 := ⟨RX8, TX8, 16, rfl, ub_X8, by decide, Or.inr ⟨"HearDifference", (List.mem_of_getElem? (i := 122) (by decide +kernel))⟩⟩
theorem cm_X3_countRows : CM_ mi_X3_countRows 2 := ⟨tb_t (List.mem_of_getElem? (i := 859) (by decide +kernel)) rfl, tb_t (List.mem_of_getElem? (i := 10) (by decide +kernel)) rfl, tb_t (List.mem_of_getElem? (i := 858) (by decide +kernel)) rfl, tb_s (List.mem_of_getElem? (i := 55) (by decide +kernel)) rfl, by decide, by decide, by decide +kernel, by decide⟩
theorem mn_X9_236 : ∃ host, Cond.methodLinkNest RX9 236 yX3_countRows host ∈ tables_1 := ⟨"HearDifference", (List.mem_of_getElem? (i := 856) (by decide +kernel))⟩
theorem fa_X9_240 : FA_ RX9 240 3 0 := ⟨RX3, TX3, 4, rfl, ub_X3, by decide, Or.inr ⟨"HearDifference", (List.mem_of_getElem? (i := 306) (by decide +kernel))⟩⟩
abbrev mi_X9_fewest : MI := (yX9_fewest, cX9_fewest, 3, some .int)
theorem fa_X9_71 : FA_ RX9 71 9 11 := ⟨RX9, TX9, 12, rfl, ub_X9, by decide, Or.inl (tb_t (List.mem_of_getElem? (i := 341) (by decide +kernel)) rfl)⟩
abbrev mi_X8_toldSet : MI := (yX8_toldSet, cX8_toldSet, 3, some .int)
theorem fa_X8_78 : FA_ RX8 78 8 12 := ⟨RX8, TX8, 16, rfl, ub_X8, by decide, Or.inl (tb_t (List.mem_of_getElem? (i := 119) (by decide +kernel)) rfl)⟩
theorem fa_X8_36 : FA_ RX8 36 8 13 := ⟨RX8, TX8, 16, rfl, ub_X8, by decide, Or.inl (tb_t (List.mem_of_getElem? (i := 121) (by decide +kernel)) rfl)⟩
theorem cm_X8_toldSet : CM_ mi_X8_toldSet 0 := ⟨tb_t (List.mem_of_getElem? (i := 881) (by decide +kernel)) rfl, tb_t (List.mem_of_getElem? (i := 2) (by decide +kernel)) rfl, tb_t (List.mem_of_getElem? (i := 880) (by decide +kernel)) rfl, tb_s (List.mem_of_getElem? (i := 59) (by decide +kernel)) rfl, by decide, by decide, by decide +kernel, by decide⟩
theorem mn_X9_243 : ∃ host, Cond.methodLinkNest RX9 243 yX8_toldSet host ∈ tables_1 := ⟨"HearDifference", (List.mem_of_getElem? (i := 878) (by decide +kernel))⟩
abbrev mi_X1_leastSize : MI := (yX1_leastSize, cX1_leastSize, 3, some .int)
theorem fa_X1_9 : FA_ RX1 9 1 0 := ⟨RX1, TX1, 1, rfl, ub_X1, by decide, Or.inl (tb_t (List.mem_of_getElem? (i := 325) (by decide +kernel)) rfl)⟩
theorem k_X1_15 : Cond.constant RX1 15 (16777216) ∈ TB := tb_t (List.mem_of_getElem? (i := 886) (by decide +kernel)) rfl
abbrev mi_X1_extend : MI := (yX1_extend, cX1_extend, 8, some .boolean)
theorem ml_X1_20 : Cond.methodLink RX1 20 yJ6_bitCount_0f7a4 ∈ TB := tb_t (List.mem_of_getElem? (i := 891) (by decide +kernel)) rfl
theorem cm_X1_extend : CM_ mi_X1_extend 4 := ⟨tb_t (List.mem_of_getElem? (i := 890) (by decide +kernel)) rfl, tb_t (List.mem_of_getElem? (i := 11) (by decide +kernel)) rfl, tb_t (List.mem_of_getElem? (i := 889) (by decide +kernel)) rfl, tb_s (List.mem_of_getElem? (i := 61) (by decide +kernel)) rfl, by decide, by decide, by decide +kernel, by decide⟩
theorem ml_X1_16 : Cond.methodLink RX1 16 yX1_extend ∈ TB := tb_t (List.mem_of_getElem? (i := 887) (by decide +kernel)) rfl
theorem cm_X1_leastSize : CM_ mi_X1_leastSize 1 := ⟨tb_t (List.mem_of_getElem? (i := 885) (by decide +kernel)) rfl, tb_t (List.mem_of_getElem? (i := 11) (by decide +kernel)) rfl, tb_t (List.mem_of_getElem? (i := 884) (by decide +kernel)) rfl, tb_s (List.mem_of_getElem? (i := 60) (by decide +kernel)) rfl, by decide, by decide, by decide +kernel, by decide⟩
theorem mn_X9_246 : ∃ host, Cond.methodLinkNest RX9 246 yX1_leastSize host ∈ tables_1 := ⟨"HearDifference", (List.mem_of_getElem? (i := 882) (by decide +kernel))⟩
theorem fa_X9_250 : FA_ RX9 250 1 0 := ⟨RX1, TX1, 1, rfl, ub_X1, by decide, Or.inr ⟨"HearDifference", (List.mem_of_getElem? (i := 326) (by decide +kernel))⟩⟩
abbrev mi_X9_ruler : MI := (yX9_ruler, cX9_ruler, 4, some .int)
theorem fl_X9_253 : Cond.fieldLink RX9 253 "HearDifference" "RULERS" "[I" ∈ TB := tb_t (List.mem_of_getElem? (i := 896) (by decide +kernel)) rfl
abbrev mi_X9_alone : MI := (yX9_alone, cX9_alone, 9, some .int)
theorem mn_X9_256 : ∃ host, Cond.methodLinkNest RX9 256 yX2_attend host ∈ tables_1 := ⟨"HearDifference", (List.mem_of_getElem? (i := 902) (by decide +kernel))⟩
abbrev mi_X2_onlyOneHears : MI := (yX2_onlyOneHears, cX2_onlyOneHears, 4, some .boolean)
theorem cm_X2_onlyOneHears : CM_ mi_X2_onlyOneHears 2 := ⟨tb_t (List.mem_of_getElem? (i := 906) (by decide +kernel)) rfl, tb_t (List.mem_of_getElem? (i := 8) (by decide +kernel)) rfl, tb_t (List.mem_of_getElem? (i := 905) (by decide +kernel)) rfl, tb_s (List.mem_of_getElem? (i := 62) (by decide +kernel)) rfl, by decide, by decide, by decide +kernel, by decide⟩
theorem mn_X9_260 : ∃ host, Cond.methodLinkNest RX9 260 yX2_onlyOneHears host ∈ tables_1 := ⟨"HearDifference", (List.mem_of_getElem? (i := 903) (by decide +kernel))⟩
abbrev mi_X9_safe : MI := (yX9_safe, cX9_safe, 3, some .int)
abbrev mi_X8_wordsSayable : MI := (yX8_wordsSayable, cX8_wordsSayable, 5, some .int)
theorem ml_X8_98 : Cond.methodLink RX8 98 yX8_wordOf ∈ TB := tb_t (List.mem_of_getElem? (i := 915) (by decide +kernel)) rfl
theorem ml_X8_102 : Cond.methodLink RX8 102 yX8_hasHum ∈ TB := tb_t (List.mem_of_getElem? (i := 916) (by decide +kernel)) rfl
theorem cm_X8_wordsSayable : CM_ mi_X8_wordsSayable 0 := ⟨tb_t (List.mem_of_getElem? (i := 914) (by decide +kernel)) rfl, tb_t (List.mem_of_getElem? (i := 2) (by decide +kernel)) rfl, tb_t (List.mem_of_getElem? (i := 913) (by decide +kernel)) rfl, tb_s (List.mem_of_getElem? (i := 63) (by decide +kernel)) rfl, by decide, by decide, by decide +kernel, by decide⟩
theorem mn_X9_264 : ∃ host, Cond.methodLinkNest RX9 264 yX8_wordsSayable host ∈ tables_1 := ⟨"HearDifference", (List.mem_of_getElem? (i := 911) (by decide +kernel))⟩
abbrev mi_X9_firstSafeWords : MI := (yX9_firstSafeWords, cX9_firstSafeWords, 4, some .int)
theorem cs_X9_firstSafeWords : CS_ mi_X9_firstSafeWords 1 := ⟨tb_t (List.mem_of_getElem? (i := 919) (by decide +kernel)) rfl, tb_t (List.mem_of_getElem? (i := 1) (by decide +kernel)) rfl, tb_t (List.mem_of_getElem? (i := 918) (by decide +kernel)) rfl, by decide, by decide, by decide +kernel, by decide⟩
theorem ml_X9_267 : Cond.methodLink RX9 267 yX9_firstSafeWords ∈ TB := tb_t (List.mem_of_getElem? (i := 917) (by decide +kernel)) rfl
theorem ml_X9_270 : Cond.methodLink RX9 270 yJ6_bitCount_0f7a4 ∈ TB := tb_t (List.mem_of_getElem? (i := 920) (by decide +kernel)) rfl
abbrev mi_X9_undo : MI := (yX9_undo, cX9_undo, 1, some .boolean)
abbrev mi_X5_goBack : MI := (yX5_goBack, cX5_goBack, 2, some .boolean)
theorem fp_X5_40 : FP_ RX5 40 8 0 .int := ⟨RX8, TX8, 16, tyX8, rfl, ub_X8, by decide, Or.inr ⟨"HearDifference", (List.mem_of_getElem? (i := 85) (by decide +kernel))⟩, tyX8_ok, nmX8, rfl, by decide +kernel⟩
theorem fp_X5_42 : FP_ RX5 42 8 6 .int := ⟨RX8, TX8, 16, tyX8, rfl, ub_X8, by decide, Or.inr ⟨"HearDifference", (List.mem_of_getElem? (i := 102) (by decide +kernel))⟩, tyX8_ok, nmX8, rfl, by decide +kernel⟩
theorem fp_X5_49 : FP_ RX5 49 0 0 .int := ⟨RX0, TX0, 2, tyX0, rfl, ub_X0, by decide, Or.inr ⟨"HearDifference", (List.mem_of_getElem? (i := 75) (by decide +kernel))⟩, tyX0_ok, nmX0, rfl, by decide +kernel⟩
theorem cm_X5_goBack : CM_ mi_X5_goBack 1 := ⟨tb_t (List.mem_of_getElem? (i := 928) (by decide +kernel)) rfl, tb_t (List.mem_of_getElem? (i := 6) (by decide +kernel)) rfl, tb_t (List.mem_of_getElem? (i := 927) (by decide +kernel)) rfl, tb_s (List.mem_of_getElem? (i := 64) (by decide +kernel)) rfl, by decide, by decide, by decide +kernel, by decide⟩
theorem mn_X9_275 : ∃ host, Cond.methodLinkNest RX9 275 yX5_goBack host ∈ tables_1 := ⟨"HearDifference", (List.mem_of_getElem? (i := 925) (by decide +kernel))⟩
abbrev mi_X9_image : MI := (yX9_image, cX9_image, 2, some .boolean)
theorem fa_X9_19 : FA_ RX9 19 9 2 := ⟨RX9, TX9, 12, rfl, ub_X9, by decide, Or.inl (tb_t (List.mem_of_getElem? (i := 332) (by decide +kernel)) rfl)⟩
theorem fa_X9_16 : FA_ RX9 16 9 1 := ⟨RX9, TX9, 12, rfl, ub_X9, by decide, Or.inl (tb_t (List.mem_of_getElem? (i := 331) (by decide +kernel)) rfl)⟩
abbrev mi_X8_copyFrom : MI := (yX8_copyFrom, cX8_copyFrom, 2, none)
theorem fp_X8_57 : FP_ RX8 57 8 1 .int := ⟨RX8, TX8, 16, tyX8, rfl, ub_X8, by decide, Or.inl (tb_t (List.mem_of_getElem? (i := 86) (by decide +kernel)) rfl), tyX8_ok, nmX8, rfl, by decide +kernel⟩
theorem jc_X8_60 : JC_ RX8 60 := ⟨tb_t (List.mem_of_getElem? (i := 937) (by decide +kernel)) rfl, tb_t (List.mem_of_getElem? (i := 667) (by decide +kernel)) rfl, tb_t (List.mem_of_getElem? (i := 666) (by decide +kernel)) rfl, tb_t (List.mem_of_getElem? (i := 19) (by decide +kernel)) rfl⟩
theorem fa_X8_15 : FA_ RX8 15 8 3 := ⟨RX8, TX8, 16, rfl, ub_X8, by decide, Or.inl (tb_t (List.mem_of_getElem? (i := 93) (by decide +kernel)) rfl)⟩
theorem fp_X8_66 : FP_ RX8 66 8 4 .int := ⟨RX8, TX8, 16, tyX8, rfl, ub_X8, by decide, Or.inl (tb_t (List.mem_of_getElem? (i := 97) (by decide +kernel)) rfl), tyX8_ok, nmX8, rfl, by decide +kernel⟩
theorem fp_X8_69 : FP_ RX8 69 8 5 .int := ⟨RX8, TX8, 16, tyX8, rfl, ub_X8, by decide, Or.inl (tb_t (List.mem_of_getElem? (i := 99) (by decide +kernel)) rfl), tyX8_ok, nmX8, rfl, by decide +kernel⟩
theorem fa_X8_27 : FA_ RX8 27 8 8 := ⟨RX8, TX8, 16, rfl, ub_X8, by decide, Or.inl (tb_t (List.mem_of_getElem? (i := 107) (by decide +kernel)) rfl)⟩
theorem fa_X8_75 : FA_ RX8 75 8 9 := ⟨RX8, TX8, 16, rfl, ub_X8, by decide, Or.inl (tb_t (List.mem_of_getElem? (i := 110) (by decide +kernel)) rfl)⟩
theorem fp_X8_75 : FP_ RX8 75 8 9 .int := ⟨RX8, TX8, 16, tyX8, rfl, ub_X8, by decide, Or.inl (tb_t (List.mem_of_getElem? (i := 110) (by decide +kernel)) rfl), tyX8_ok, nmX8, rfl, by decide +kernel⟩
theorem fa_X8_30 : FA_ RX8 30 8 10 := ⟨RX8, TX8, 16, rfl, ub_X8, by decide, Or.inl (tb_t (List.mem_of_getElem? (i := 112) (by decide +kernel)) rfl)⟩
theorem fa_X8_33 : FA_ RX8 33 8 11 := ⟨RX8, TX8, 16, rfl, ub_X8, by decide, Or.inl (tb_t (List.mem_of_getElem? (i := 115) (by decide +kernel)) rfl)⟩
theorem fp_X8_78 : FP_ RX8 78 8 12 .int := ⟨RX8, TX8, 16, tyX8, rfl, ub_X8, by decide, Or.inl (tb_t (List.mem_of_getElem? (i := 119) (by decide +kernel)) rfl), tyX8_ok, nmX8, rfl, by decide +kernel⟩
theorem fa_X8_42 : FA_ RX8 42 8 14 := ⟨RX8, TX8, 16, rfl, ub_X8, by decide, Or.inl (tb_t (List.mem_of_getElem? (i := 124) (by decide +kernel)) rfl)⟩
theorem mn_X8_81 : ∃ host, Cond.methodLinkNest RX8 81 yX4_copyFrom host ∈ tables_1 := ⟨"HearDifference", (List.mem_of_getElem? (i := 938) (by decide +kernel))⟩
theorem fa_X8_49 : FA_ RX8 49 8 15 := ⟨RX8, TX8, 16, rfl, ub_X8, by decide, Or.inl (tb_t (List.mem_of_getElem? (i := 127) (by decide +kernel)) rfl)⟩
abbrev mi_X0_copyFrom : MI := (yX0_copyFrom, cX0_copyFrom, 2, none)
theorem jc_X0_19 : JC_ RX0 19 := ⟨tb_t (List.mem_of_getElem? (i := 943) (by decide +kernel)) rfl, tb_t (List.mem_of_getElem? (i := 667) (by decide +kernel)) rfl, tb_t (List.mem_of_getElem? (i := 666) (by decide +kernel)) rfl, tb_t (List.mem_of_getElem? (i := 19) (by decide +kernel)) rfl⟩
theorem cm_X0_copyFrom : CM_ mi_X0_copyFrom 1 := ⟨tb_t (List.mem_of_getElem? (i := 942) (by decide +kernel)) rfl, tb_t (List.mem_of_getElem? (i := 5) (by decide +kernel)) rfl, tb_t (List.mem_of_getElem? (i := 941) (by decide +kernel)) rfl, tb_s (List.mem_of_getElem? (i := 66) (by decide +kernel)) rfl, by decide, by decide, by decide +kernel, by decide⟩
theorem mn_X8_85 : ∃ host, Cond.methodLinkNest RX8 85 yX0_copyFrom host ∈ tables_1 := ⟨"HearDifference", (List.mem_of_getElem? (i := 939) (by decide +kernel))⟩
theorem cm_X8_copyFrom : CM_ mi_X8_copyFrom 1 := ⟨tb_t (List.mem_of_getElem? (i := 936) (by decide +kernel)) rfl, tb_t (List.mem_of_getElem? (i := 2) (by decide +kernel)) rfl, tb_t (List.mem_of_getElem? (i := 935) (by decide +kernel)) rfl, tb_s (List.mem_of_getElem? (i := 65) (by decide +kernel)) rfl, by decide, by decide, by decide +kernel, by decide⟩
theorem mn_X9_279 : ∃ host, Cond.methodLinkNest RX9 279 yX8_copyFrom host ∈ tables_1 := ⟨"HearDifference", (List.mem_of_getElem? (i := 933) (by decide +kernel))⟩
theorem fp_X9_19 : FP_ RX9 19 9 2 .boolean := ⟨RX9, TX9, 12, tyX9, rfl, ub_X9, by decide, Or.inl (tb_t (List.mem_of_getElem? (i := 332) (by decide +kernel)) rfl), tyX9_ok, nmX9, rfl, by decide +kernel⟩
abbrev mi_X9_look : MI := (yX9_look, cX9_look, 2, some .int)
theorem fa_X9_281 : FA_ RX9 281 0 0 := ⟨RX0, TX0, 2, rfl, ub_X0, by decide, Or.inr ⟨"HearDifference", (List.mem_of_getElem? (i := 76) (by decide +kernel))⟩⟩
theorem fa_X9_285 : FA_ RX9 285 5 1 := ⟨RX5, TX5, 6, rfl, ub_X5, by decide, Or.inr ⟨"HearDifference", (List.mem_of_getElem? (i := 171) (by decide +kernel))⟩⟩
abbrev mi_X10_state : MI := (yX10_state, cX10_state, 3, some .int)
theorem fa_X10_90 : FA_ RX10 90 10 0 := ⟨RX10, TX10, 48, rfl, ub_X10, by decide, Or.inl (tb_t (List.mem_of_getElem? (i := 954) (by decide +kernel)) rfl)⟩
theorem fp_X10_90 : FP_ RX10 90 10 0 .int := ⟨RX10, TX10, 48, tyX10, rfl, ub_X10, by decide, Or.inl (tb_t (List.mem_of_getElem? (i := 954) (by decide +kernel)) rfl), tyX10_ok, nmX10, rfl, by decide +kernel⟩
theorem fa_X10_7 : FA_ RX10 7 10 1 := ⟨RX10, TX10, 48, rfl, ub_X10, by decide, Or.inl (tb_t (List.mem_of_getElem? (i := 955) (by decide +kernel)) rfl)⟩
theorem fa_X10_93 : FA_ RX10 93 10 3 := ⟨RX10, TX10, 48, rfl, ub_X10, by decide, Or.inl (tb_t (List.mem_of_getElem? (i := 957) (by decide +kernel)) rfl)⟩
theorem fp_X10_93 : FP_ RX10 93 10 3 .int := ⟨RX10, TX10, 48, tyX10, rfl, ub_X10, by decide, Or.inl (tb_t (List.mem_of_getElem? (i := 957) (by decide +kernel)) rfl), tyX10_ok, nmX10, rfl, by decide +kernel⟩
abbrev mi_X10_person : MI := (yX10_person, cX10_person, 2, some .int)
abbrev mi_X10_isIn : MI := (yX10_isIn, cX10_isIn, 4, some .boolean)
theorem cm_X10_isIn : CM_ mi_X10_isIn 3 := ⟨tb_t (List.mem_of_getElem? (i := 1115) (by decide +kernel)) rfl, tb_t (List.mem_of_getElem? (i := 12) (by decide +kernel)) rfl, tb_t (List.mem_of_getElem? (i := 1114) (by decide +kernel)) rfl, tb_s (List.mem_of_getElem? (i := 67) (by decide +kernel)) rfl, by decide, by decide, by decide +kernel, by decide⟩
theorem ml_X10_101 : Cond.methodLink RX10 101 yX10_isIn ∈ TB := tb_t (List.mem_of_getElem? (i := 1112) (by decide +kernel)) rfl
theorem fa_X10_98 : FA_ RX10 98 10 4 := ⟨RX10, TX10, 48, rfl, ub_X10, by decide, Or.inl (tb_t (List.mem_of_getElem? (i := 958) (by decide +kernel)) rfl)⟩
theorem fa_X10_16 : FA_ RX10 16 10 6 := ⟨RX10, TX10, 48, rfl, ub_X10, by decide, Or.inl (tb_t (List.mem_of_getElem? (i := 960) (by decide +kernel)) rfl)⟩
theorem fp_X10_98 : FP_ RX10 98 10 4 .int := ⟨RX10, TX10, 48, tyX10, rfl, ub_X10, by decide, Or.inl (tb_t (List.mem_of_getElem? (i := 958) (by decide +kernel)) rfl), tyX10_ok, nmX10, rfl, by decide +kernel⟩
abbrev mi_X10_set : MI := (yX10_set, cX10_set, 4, some .boolean)
abbrev mi_X10_canSet : MI := (yX10_canSet, cX10_canSet, 4, some .boolean)
abbrev mi_X10_isPerson : MI := (yX10_isPerson, cX10_isPerson, 2, some .boolean)
theorem cm_X10_isPerson : CM_ mi_X10_isPerson 1 := ⟨tb_t (List.mem_of_getElem? (i := 1127) (by decide +kernel)) rfl, tb_t (List.mem_of_getElem? (i := 12) (by decide +kernel)) rfl, tb_t (List.mem_of_getElem? (i := 1126) (by decide +kernel)) rfl, tb_s (List.mem_of_getElem? (i := 69) (by decide +kernel)) rfl, by decide, by decide, by decide +kernel, by decide⟩
theorem ml_X10_105 : Cond.methodLink RX10 105 yX10_isPerson ∈ TB := tb_t (List.mem_of_getElem? (i := 1124) (by decide +kernel)) rfl
abbrev mi_X10_humOf : MI := (yX10_humOf, cX10_humOf, 2, some .int)
theorem cm_X10_humOf : CM_ mi_X10_humOf 1 := ⟨tb_t (List.mem_of_getElem? (i := 1131) (by decide +kernel)) rfl, tb_t (List.mem_of_getElem? (i := 12) (by decide +kernel)) rfl, tb_t (List.mem_of_getElem? (i := 1130) (by decide +kernel)) rfl, tb_s (List.mem_of_getElem? (i := 70) (by decide +kernel)) rfl, by decide, by decide, by decide +kernel, by decide⟩
theorem ml_X10_109 : Cond.methodLink RX10 109 yX10_humOf ∈ TB := tb_t (List.mem_of_getElem? (i := 1128) (by decide +kernel)) rfl
theorem cm_X10_canSet : CM_ mi_X10_canSet 3 := ⟨tb_t (List.mem_of_getElem? (i := 1123) (by decide +kernel)) rfl, tb_t (List.mem_of_getElem? (i := 12) (by decide +kernel)) rfl, tb_t (List.mem_of_getElem? (i := 1122) (by decide +kernel)) rfl, tb_s (List.mem_of_getElem? (i := 68) (by decide +kernel)) rfl, by decide, by decide, by decide +kernel, by decide⟩
theorem ml_X10_113 : Cond.methodLink RX10 113 yX10_canSet ∈ TB := tb_t (List.mem_of_getElem? (i := 1120) (by decide +kernel)) rfl
theorem fa_X10_116 : FA_ RX10 116 10 5 := ⟨RX10, TX10, 48, rfl, ub_X10, by decide, Or.inl (tb_t (List.mem_of_getElem? (i := 959) (by decide +kernel)) rfl)⟩
theorem fp_X10_116 : FP_ RX10 116 10 5 .int := ⟨RX10, TX10, 48, tyX10, rfl, ub_X10, by decide, Or.inl (tb_t (List.mem_of_getElem? (i := 959) (by decide +kernel)) rfl), tyX10_ok, nmX10, rfl, by decide +kernel⟩
theorem fa_X10_119 : FA_ RX10 119 10 7 := ⟨RX10, TX10, 48, rfl, ub_X10, by decide, Or.inl (tb_t (List.mem_of_getElem? (i := 961) (by decide +kernel)) rfl)⟩
theorem fp_X10_119 : FP_ RX10 119 10 7 .int := ⟨RX10, TX10, 48, tyX10, rfl, ub_X10, by decide, Or.inl (tb_t (List.mem_of_getElem? (i := 961) (by decide +kernel)) rfl), tyX10_ok, nmX10, rfl, by decide +kernel⟩
abbrev mi_X10_feed : MI := (yX10_feed, cX10_feed, 6, some .int)
theorem fa_X10_122 : FA_ RX10 122 10 10 := ⟨RX10, TX10, 48, rfl, ub_X10, by decide, Or.inl (tb_t (List.mem_of_getElem? (i := 964) (by decide +kernel)) rfl)⟩
abbrev mi_X10_types : MI := (yX10_types, cX10_types, 3, none)
theorem fa_X10_22 : FA_ RX10 22 10 9 := ⟨RX10, TX10, 48, rfl, ub_X10, by decide, Or.inl (tb_t (List.mem_of_getElem? (i := 963) (by decide +kernel)) rfl)⟩
theorem fp_X10_122 : FP_ RX10 122 10 10 .int := ⟨RX10, TX10, 48, tyX10, rfl, ub_X10, by decide, Or.inl (tb_t (List.mem_of_getElem? (i := 964) (by decide +kernel)) rfl), tyX10_ok, nmX10, rfl, by decide +kernel⟩
theorem cm_X10_types : CM_ mi_X10_types 1 := ⟨tb_t (List.mem_of_getElem? (i := 1139) (by decide +kernel)) rfl, tb_t (List.mem_of_getElem? (i := 12) (by decide +kernel)) rfl, tb_t (List.mem_of_getElem? (i := 1138) (by decide +kernel)) rfl, tb_s (List.mem_of_getElem? (i := 71) (by decide +kernel)) rfl, by decide, by decide, by decide +kernel, by decide⟩
theorem ml_X10_125 : Cond.methodLink RX10 125 yX10_types ∈ TB := tb_t (List.mem_of_getElem? (i := 1136) (by decide +kernel)) rfl
abbrev mi_X10_end : MI := (yX10_end, cX10_end, 2, some .boolean)
abbrev mi_X10_text : MI := (yX10_text, cX10_text, 3, some .int)
theorem fa_X10_210 : FA_ RX10 210 10 28 := ⟨RX10, TX10, 48, rfl, ub_X10, by decide, Or.inl (tb_t (List.mem_of_getElem? (i := 982) (by decide +kernel)) rfl)⟩
theorem fp_X10_210 : FP_ RX10 210 10 28 .int := ⟨RX10, TX10, 48, tyX10, rfl, ub_X10, by decide, Or.inl (tb_t (List.mem_of_getElem? (i := 982) (by decide +kernel)) rfl), tyX10_ok, nmX10, rfl, by decide +kernel⟩
theorem fa_X10_46 : FA_ RX10 46 10 29 := ⟨RX10, TX10, 48, rfl, ub_X10, by decide, Or.inl (tb_t (List.mem_of_getElem? (i := 983) (by decide +kernel)) rfl)⟩
theorem fp_X10_46 : FP_ RX10 46 10 29 .int := ⟨RX10, TX10, 48, tyX10, rfl, ub_X10, by decide, Or.inl (tb_t (List.mem_of_getElem? (i := 983) (by decide +kernel)) rfl), tyX10_ok, nmX10, rfl, by decide +kernel⟩
theorem fa_X10_129 : FA_ RX10 129 10 11 := ⟨RX10, TX10, 48, rfl, ub_X10, by decide, Or.inl (tb_t (List.mem_of_getElem? (i := 965) (by decide +kernel)) rfl)⟩
theorem fp_X10_129 : FP_ RX10 129 10 11 .int := ⟨RX10, TX10, 48, tyX10, rfl, ub_X10, by decide, Or.inl (tb_t (List.mem_of_getElem? (i := 965) (by decide +kernel)) rfl), tyX10_ok, nmX10, rfl, by decide +kernel⟩
theorem fa_X10_163 : FA_ RX10 163 10 22 := ⟨RX10, TX10, 48, rfl, ub_X10, by decide, Or.inl (tb_t (List.mem_of_getElem? (i := 976) (by decide +kernel)) rfl)⟩
theorem fp_X10_163 : FP_ RX10 163 10 22 .int := ⟨RX10, TX10, 48, tyX10, rfl, ub_X10, by decide, Or.inl (tb_t (List.mem_of_getElem? (i := 976) (by decide +kernel)) rfl), tyX10_ok, nmX10, rfl, by decide +kernel⟩
theorem fa_X10_192 : FA_ RX10 192 10 23 := ⟨RX10, TX10, 48, rfl, ub_X10, by decide, Or.inl (tb_t (List.mem_of_getElem? (i := 977) (by decide +kernel)) rfl)⟩
theorem fp_X10_192 : FP_ RX10 192 10 23 .int := ⟨RX10, TX10, 48, tyX10, rfl, ub_X10, by decide, Or.inl (tb_t (List.mem_of_getElem? (i := 977) (by decide +kernel)) rfl), tyX10_ok, nmX10, rfl, by decide +kernel⟩
abbrev mi_X10_reads : MI := (yX10_reads, cX10_reads, 2, none)
abbrev mi_X10_raw : MI := (yX10_raw, cX10_raw, 2, some .int)
theorem cm_X10_raw : CM_ mi_X10_raw 1 := ⟨tb_t (List.mem_of_getElem? (i := 1155) (by decide +kernel)) rfl, tb_t (List.mem_of_getElem? (i := 12) (by decide +kernel)) rfl, tb_t (List.mem_of_getElem? (i := 1154) (by decide +kernel)) rfl, tb_s (List.mem_of_getElem? (i := 73) (by decide +kernel)) rfl, by decide, by decide, by decide +kernel, by decide⟩
theorem ml_X10_132 : Cond.methodLink RX10 132 yX10_raw ∈ TB := tb_t (List.mem_of_getElem? (i := 1152) (by decide +kernel)) rfl
theorem fa_X10_135 : FA_ RX10 135 10 12 := ⟨RX10, TX10, 48, rfl, ub_X10, by decide, Or.inl (tb_t (List.mem_of_getElem? (i := 966) (by decide +kernel)) rfl)⟩
theorem fp_X10_135 : FP_ RX10 135 10 12 .int := ⟨RX10, TX10, 48, tyX10, rfl, ub_X10, by decide, Or.inl (tb_t (List.mem_of_getElem? (i := 966) (by decide +kernel)) rfl), tyX10_ok, nmX10, rfl, by decide +kernel⟩
theorem fa_X10_138 : FA_ RX10 138 10 13 := ⟨RX10, TX10, 48, rfl, ub_X10, by decide, Or.inl (tb_t (List.mem_of_getElem? (i := 967) (by decide +kernel)) rfl)⟩
theorem fp_X10_138 : FP_ RX10 138 10 13 .int := ⟨RX10, TX10, 48, tyX10, rfl, ub_X10, by decide, Or.inl (tb_t (List.mem_of_getElem? (i := 967) (by decide +kernel)) rfl), tyX10_ok, nmX10, rfl, by decide +kernel⟩
theorem fa_X10_141 : FA_ RX10 141 10 14 := ⟨RX10, TX10, 48, rfl, ub_X10, by decide, Or.inl (tb_t (List.mem_of_getElem? (i := 968) (by decide +kernel)) rfl)⟩
theorem fp_X10_141 : FP_ RX10 141 10 14 .int := ⟨RX10, TX10, 48, tyX10, rfl, ub_X10, by decide, Or.inl (tb_t (List.mem_of_getElem? (i := 968) (by decide +kernel)) rfl), tyX10_ok, nmX10, rfl, by decide +kernel⟩
abbrev mi_X10_isLetter : MI := (yX10_isLetter, cX10_isLetter, 2, some .boolean)
theorem cm_X10_isLetter : CM_ mi_X10_isLetter 1 := ⟨tb_t (List.mem_of_getElem? (i := 1159) (by decide +kernel)) rfl, tb_t (List.mem_of_getElem? (i := 12) (by decide +kernel)) rfl, tb_t (List.mem_of_getElem? (i := 1158) (by decide +kernel)) rfl, tb_s (List.mem_of_getElem? (i := 74) (by decide +kernel)) rfl, by decide, by decide, by decide +kernel, by decide⟩
theorem ml_X10_144 : Cond.methodLink RX10 144 yX10_isLetter ∈ TB := tb_t (List.mem_of_getElem? (i := 1156) (by decide +kernel)) rfl
abbrev mi_X10_isDigit : MI := (yX10_isDigit, cX10_isDigit, 2, some .boolean)
theorem cm_X10_isDigit : CM_ mi_X10_isDigit 1 := ⟨tb_t (List.mem_of_getElem? (i := 1167) (by decide +kernel)) rfl, tb_t (List.mem_of_getElem? (i := 12) (by decide +kernel)) rfl, tb_t (List.mem_of_getElem? (i := 1166) (by decide +kernel)) rfl, tb_s (List.mem_of_getElem? (i := 76) (by decide +kernel)) rfl, by decide, by decide, by decide +kernel, by decide⟩
theorem ml_X10_151 : Cond.methodLink RX10 151 yX10_isDigit ∈ TB := tb_t (List.mem_of_getElem? (i := 1164) (by decide +kernel)) rfl
abbrev mi_X10_isMarkSign : MI := (yX10_isMarkSign, cX10_isMarkSign, 2, some .boolean)
theorem cm_X10_isMarkSign : CM_ mi_X10_isMarkSign 1 := ⟨tb_t (List.mem_of_getElem? (i := 1171) (by decide +kernel)) rfl, tb_t (List.mem_of_getElem? (i := 12) (by decide +kernel)) rfl, tb_t (List.mem_of_getElem? (i := 1170) (by decide +kernel)) rfl, tb_s (List.mem_of_getElem? (i := 77) (by decide +kernel)) rfl, by decide, by decide, by decide +kernel, by decide⟩
theorem ml_X10_154 : Cond.methodLink RX10 154 yX10_isMarkSign ∈ TB := tb_t (List.mem_of_getElem? (i := 1168) (by decide +kernel)) rfl
abbrev mi_X10_wordAt : MI := (yX10_wordAt, cX10_wordAt, 6, some .int)
theorem fa_X10_25 : FA_ RX10 25 10 15 := ⟨RX10, TX10, 48, rfl, ub_X10, by decide, Or.inl (tb_t (List.mem_of_getElem? (i := 969) (by decide +kernel)) rfl)⟩
theorem cm_X10_wordAt : CM_ mi_X10_wordAt 2 := ⟨tb_t (List.mem_of_getElem? (i := 1163) (by decide +kernel)) rfl, tb_t (List.mem_of_getElem? (i := 12) (by decide +kernel)) rfl, tb_t (List.mem_of_getElem? (i := 1162) (by decide +kernel)) rfl, tb_s (List.mem_of_getElem? (i := 75) (by decide +kernel)) rfl, by decide, by decide, by decide +kernel, by decide⟩
theorem ml_X10_147 : Cond.methodLink RX10 147 yX10_wordAt ∈ TB := tb_t (List.mem_of_getElem? (i := 1160) (by decide +kernel)) rfl
theorem cm_X10_reads : CM_ mi_X10_reads 0 := ⟨tb_t (List.mem_of_getElem? (i := 1151) (by decide +kernel)) rfl, tb_t (List.mem_of_getElem? (i := 12) (by decide +kernel)) rfl, tb_t (List.mem_of_getElem? (i := 1150) (by decide +kernel)) rfl, tb_s (List.mem_of_getElem? (i := 72) (by decide +kernel)) rfl, by decide, by decide, by decide +kernel, by decide⟩
theorem ml_X10_173 : Cond.methodLink RX10 173 yX10_reads ∈ TB := tb_t (List.mem_of_getElem? (i := 1148) (by decide +kernel)) rfl
abbrev mi_X10_readText : MI := (yX10_readText, cX10_readText, 3, some .int)
abbrev mi_X10_errs : MI := (yX10_errs, cX10_errs, 2, some .int)
theorem fa_X10_157 : FA_ RX10 157 10 26 := ⟨RX10, TX10, 48, rfl, ub_X10, by decide, Or.inl (tb_t (List.mem_of_getElem? (i := 980) (by decide +kernel)) rfl)⟩
theorem fp_X10_157 : FP_ RX10 157 10 26 .int := ⟨RX10, TX10, 48, tyX10, rfl, ub_X10, by decide, Or.inl (tb_t (List.mem_of_getElem? (i := 980) (by decide +kernel)) rfl), tyX10_ok, nmX10, rfl, by decide +kernel⟩
theorem fa_X10_160 : FA_ RX10 160 10 27 := ⟨RX10, TX10, 48, rfl, ub_X10, by decide, Or.inl (tb_t (List.mem_of_getElem? (i := 981) (by decide +kernel)) rfl)⟩
theorem fp_X10_160 : FP_ RX10 160 10 27 .int := ⟨RX10, TX10, 48, tyX10, rfl, ub_X10, by decide, Or.inl (tb_t (List.mem_of_getElem? (i := 981) (by decide +kernel)) rfl), tyX10_ok, nmX10, rfl, by decide +kernel⟩
theorem cm_X10_errs : CM_ mi_X10_errs 1 := ⟨tb_t (List.mem_of_getElem? (i := 1179) (by decide +kernel)) rfl, tb_t (List.mem_of_getElem? (i := 12) (by decide +kernel)) rfl, tb_t (List.mem_of_getElem? (i := 1178) (by decide +kernel)) rfl, tb_s (List.mem_of_getElem? (i := 79) (by decide +kernel)) rfl, by decide, by decide, by decide +kernel, by decide⟩
theorem ml_X10_166 : Cond.methodLink RX10 166 yX10_errs ∈ TB := tb_t (List.mem_of_getElem? (i := 1176) (by decide +kernel)) rfl
theorem fa_X10_28 : FA_ RX10 28 10 17 := ⟨RX10, TX10, 48, rfl, ub_X10, by decide, Or.inl (tb_t (List.mem_of_getElem? (i := 971) (by decide +kernel)) rfl)⟩
theorem fa_X10_31 : FA_ RX10 31 10 18 := ⟨RX10, TX10, 48, rfl, ub_X10, by decide, Or.inl (tb_t (List.mem_of_getElem? (i := 972) (by decide +kernel)) rfl)⟩
abbrev mi_X10_isWord : MI := (yX10_isWord, cX10_isWord, 2, some .boolean)
theorem cm_X10_isWord : CM_ mi_X10_isWord 1 := ⟨tb_t (List.mem_of_getElem? (i := 1183) (by decide +kernel)) rfl, tb_t (List.mem_of_getElem? (i := 12) (by decide +kernel)) rfl, tb_t (List.mem_of_getElem? (i := 1182) (by decide +kernel)) rfl, tb_s (List.mem_of_getElem? (i := 80) (by decide +kernel)) rfl, by decide, by decide, by decide +kernel, by decide⟩
theorem ml_X10_195 : Cond.methodLink RX10 195 yX10_isWord ∈ TB := tb_t (List.mem_of_getElem? (i := 1180) (by decide +kernel)) rfl
abbrev mi_X10_readAny : MI := (yX10_readAny, cX10_readAny, 4, some .int)
theorem fa_X10_189 : FA_ RX10 189 10 25 := ⟨RX10, TX10, 48, rfl, ub_X10, by decide, Or.inl (tb_t (List.mem_of_getElem? (i := 979) (by decide +kernel)) rfl)⟩
theorem fp_X10_189 : FP_ RX10 189 10 25 .int := ⟨RX10, TX10, 48, tyX10, rfl, ub_X10, by decide, Or.inl (tb_t (List.mem_of_getElem? (i := 979) (by decide +kernel)) rfl), tyX10_ok, nmX10, rfl, by decide +kernel⟩
abbrev mi_X10_settles : MI := (yX10_settles, cX10_settles, 2, none)
theorem fa_X10_43 : FA_ RX10 43 10 24 := ⟨RX10, TX10, 48, rfl, ub_X10, by decide, Or.inl (tb_t (List.mem_of_getElem? (i := 978) (by decide +kernel)) rfl)⟩
abbrev mi_X10_emits : MI := (yX10_emits, cX10_emits, 3, none)
theorem fa_X10_37 : FA_ RX10 37 10 20 := ⟨RX10, TX10, 48, rfl, ub_X10, by decide, Or.inl (tb_t (List.mem_of_getElem? (i := 974) (by decide +kernel)) rfl)⟩
theorem fa_X10_40 : FA_ RX10 40 10 21 := ⟨RX10, TX10, 48, rfl, ub_X10, by decide, Or.inl (tb_t (List.mem_of_getElem? (i := 975) (by decide +kernel)) rfl)⟩
theorem cm_X10_emits : CM_ mi_X10_emits 2 := ⟨tb_t (List.mem_of_getElem? (i := 1215) (by decide +kernel)) rfl, tb_t (List.mem_of_getElem? (i := 12) (by decide +kernel)) rfl, tb_t (List.mem_of_getElem? (i := 1214) (by decide +kernel)) rfl, tb_s (List.mem_of_getElem? (i := 88) (by decide +kernel)) rfl, by decide, by decide, by decide +kernel, by decide⟩
theorem ml_X10_169 : Cond.methodLink RX10 169 yX10_emits ∈ TB := tb_t (List.mem_of_getElem? (i := 1212) (by decide +kernel)) rfl
theorem cm_X10_settles : CM_ mi_X10_settles 1 := ⟨tb_t (List.mem_of_getElem? (i := 1219) (by decide +kernel)) rfl, tb_t (List.mem_of_getElem? (i := 12) (by decide +kernel)) rfl, tb_t (List.mem_of_getElem? (i := 1218) (by decide +kernel)) rfl, tb_s (List.mem_of_getElem? (i := 89) (by decide +kernel)) rfl, by decide, by decide, by decide +kernel, by decide⟩
theorem ml_X10_204 : Cond.methodLink RX10 204 yX10_settles ∈ TB := tb_t (List.mem_of_getElem? (i := 1216) (by decide +kernel)) rfl
abbrev mi_X10_isSign : MI := (yX10_isSign, cX10_isSign, 2, some .boolean)
theorem cm_X10_isSign : CM_ mi_X10_isSign 1 := ⟨tb_t (List.mem_of_getElem? (i := 1191) (by decide +kernel)) rfl, tb_t (List.mem_of_getElem? (i := 12) (by decide +kernel)) rfl, tb_t (List.mem_of_getElem? (i := 1190) (by decide +kernel)) rfl, tb_s (List.mem_of_getElem? (i := 82) (by decide +kernel)) rfl, by decide, by decide, by decide +kernel, by decide⟩
theorem ml_X10_180 : Cond.methodLink RX10 180 yX10_isSign ∈ TB := tb_t (List.mem_of_getElem? (i := 1188) (by decide +kernel)) rfl
abbrev mi_X10_waits : MI := (yX10_waits, cX10_waits, 2, none)
theorem cm_X10_waits : CM_ mi_X10_waits 1 := ⟨tb_t (List.mem_of_getElem? (i := 1195) (by decide +kernel)) rfl, tb_t (List.mem_of_getElem? (i := 12) (by decide +kernel)) rfl, tb_t (List.mem_of_getElem? (i := 1194) (by decide +kernel)) rfl, tb_s (List.mem_of_getElem? (i := 83) (by decide +kernel)) rfl, by decide, by decide, by decide +kernel, by decide⟩
theorem ml_X10_198 : Cond.methodLink RX10 198 yX10_waits ∈ TB := tb_t (List.mem_of_getElem? (i := 1192) (by decide +kernel)) rfl
abbrev mi_X10_readCompared : MI := (yX10_readCompared, cX10_readCompared, 2, some .int)
abbrev mi_X10_readSum : MI := (yX10_readSum, cX10_readSum, 2, some .int)
abbrev mi_X10_readProduct : MI := (yX10_readProduct, cX10_readProduct, 2, some .int)
abbrev mi_X10_readUnit : MI := (yX10_readUnit, cX10_readUnit, 2, some .int)
theorem cm_X10_readUnit : CM_ mi_X10_readUnit 0 := ⟨tb_t (List.mem_of_getElem? (i := 1211) (by decide +kernel)) rfl, tb_t (List.mem_of_getElem? (i := 12) (by decide +kernel)) rfl, tb_t (List.mem_of_getElem? (i := 1210) (by decide +kernel)) rfl, tb_s (List.mem_of_getElem? (i := 87) (by decide +kernel)) rfl, by decide, by decide, by decide +kernel, by decide⟩
theorem ml_X10_176 : Cond.methodLink RX10 176 yX10_readUnit ∈ TB := tb_t (List.mem_of_getElem? (i := 1208) (by decide +kernel)) rfl
theorem cm_X10_readProduct : CM_ mi_X10_readProduct 0 := ⟨tb_t (List.mem_of_getElem? (i := 1207) (by decide +kernel)) rfl, tb_t (List.mem_of_getElem? (i := 12) (by decide +kernel)) rfl, tb_t (List.mem_of_getElem? (i := 1206) (by decide +kernel)) rfl, tb_s (List.mem_of_getElem? (i := 86) (by decide +kernel)) rfl, by decide, by decide, by decide +kernel, by decide⟩
theorem ml_X10_183 : Cond.methodLink RX10 183 yX10_readProduct ∈ TB := tb_t (List.mem_of_getElem? (i := 1204) (by decide +kernel)) rfl
theorem cm_X10_readSum : CM_ mi_X10_readSum 0 := ⟨tb_t (List.mem_of_getElem? (i := 1203) (by decide +kernel)) rfl, tb_t (List.mem_of_getElem? (i := 12) (by decide +kernel)) rfl, tb_t (List.mem_of_getElem? (i := 1202) (by decide +kernel)) rfl, tb_s (List.mem_of_getElem? (i := 85) (by decide +kernel)) rfl, by decide, by decide, by decide +kernel, by decide⟩
theorem ml_X10_186 : Cond.methodLink RX10 186 yX10_readSum ∈ TB := tb_t (List.mem_of_getElem? (i := 1200) (by decide +kernel)) rfl
theorem cm_X10_readCompared : CM_ mi_X10_readCompared 0 := ⟨tb_t (List.mem_of_getElem? (i := 1199) (by decide +kernel)) rfl, tb_t (List.mem_of_getElem? (i := 12) (by decide +kernel)) rfl, tb_t (List.mem_of_getElem? (i := 1198) (by decide +kernel)) rfl, tb_s (List.mem_of_getElem? (i := 84) (by decide +kernel)) rfl, by decide, by decide, by decide +kernel, by decide⟩
theorem ml_X10_201 : Cond.methodLink RX10 201 yX10_readCompared ∈ TB := tb_t (List.mem_of_getElem? (i := 1196) (by decide +kernel)) rfl
theorem cm_X10_readAny : CM_ mi_X10_readAny 0 := ⟨tb_t (List.mem_of_getElem? (i := 1187) (by decide +kernel)) rfl, tb_t (List.mem_of_getElem? (i := 12) (by decide +kernel)) rfl, tb_t (List.mem_of_getElem? (i := 1186) (by decide +kernel)) rfl, tb_s (List.mem_of_getElem? (i := 81) (by decide +kernel)) rfl, by decide, by decide, by decide +kernel, by decide⟩
theorem ml_X10_207 : Cond.methodLink RX10 207 yX10_readAny ∈ TB := tb_t (List.mem_of_getElem? (i := 1184) (by decide +kernel)) rfl
theorem fa_X10_34 : FA_ RX10 34 10 19 := ⟨RX10, TX10, 48, rfl, ub_X10, by decide, Or.inl (tb_t (List.mem_of_getElem? (i := 973) (by decide +kernel)) rfl)⟩
theorem cm_X10_readText : CM_ mi_X10_readText 0 := ⟨tb_t (List.mem_of_getElem? (i := 1175) (by decide +kernel)) rfl, tb_t (List.mem_of_getElem? (i := 12) (by decide +kernel)) rfl, tb_t (List.mem_of_getElem? (i := 1174) (by decide +kernel)) rfl, tb_s (List.mem_of_getElem? (i := 78) (by decide +kernel)) rfl, by decide, by decide, by decide +kernel, by decide⟩
theorem ml_X10_213 : Cond.methodLink RX10 213 yX10_readText ∈ TB := tb_t (List.mem_of_getElem? (i := 1172) (by decide +kernel)) rfl
theorem fa_X10_216 : FA_ RX10 216 10 16 := ⟨RX10, TX10, 48, rfl, ub_X10, by decide, Or.inl (tb_t (List.mem_of_getElem? (i := 970) (by decide +kernel)) rfl)⟩
theorem fp_X10_216 : FP_ RX10 216 10 16 .int := ⟨RX10, TX10, 48, tyX10, rfl, ub_X10, by decide, Or.inl (tb_t (List.mem_of_getElem? (i := 970) (by decide +kernel)) rfl), tyX10_ok, nmX10, rfl, by decide +kernel⟩
abbrev mi_X10_fault : MI := (yX10_fault, cX10_fault, 2, some .int)
abbrev mi_X10_speak : MI := (yX10_speak, cX10_speak, 5, some .int)
abbrev mi_X10_keepsAhead : MI := (yX10_keepsAhead, cX10_keepsAhead, 2, none)
theorem fa_X10_13 : FA_ RX10 13 10 2 := ⟨RX10, TX10, 48, rfl, ub_X10, by decide, Or.inl (tb_t (List.mem_of_getElem? (i := 956) (by decide +kernel)) rfl)⟩
theorem cm_X10_keepsAhead : CM_ mi_X10_keepsAhead 0 := ⟨tb_t (List.mem_of_getElem? (i := 1279) (by decide +kernel)) rfl, tb_t (List.mem_of_getElem? (i := 12) (by decide +kernel)) rfl, tb_t (List.mem_of_getElem? (i := 1278) (by decide +kernel)) rfl, tb_s (List.mem_of_getElem? (i := 99) (by decide +kernel)) rfl, by decide, by decide, by decide +kernel, by decide⟩
theorem ml_X10_250 : Cond.methodLink RX10 250 yX10_keepsAhead ∈ TB := tb_t (List.mem_of_getElem? (i := 1276) (by decide +kernel)) rfl
abbrev mi_X10_notes : MI := (yX10_notes, cX10_notes, 5, none)
theorem fa_X10_19 : FA_ RX10 19 10 8 := ⟨RX10, TX10, 48, rfl, ub_X10, by decide, Or.inl (tb_t (List.mem_of_getElem? (i := 962) (by decide +kernel)) rfl)⟩
abbrev mi_X10_without : MI := (yX10_without, cX10_without, 2, some .int)
theorem cm_X10_without : CM_ mi_X10_without 1 := ⟨tb_t (List.mem_of_getElem? (i := 1243) (by decide +kernel)) rfl, tb_t (List.mem_of_getElem? (i := 12) (by decide +kernel)) rfl, tb_t (List.mem_of_getElem? (i := 1242) (by decide +kernel)) rfl, tb_s (List.mem_of_getElem? (i := 93) (by decide +kernel)) rfl, by decide, by decide, by decide +kernel, by decide⟩
theorem ml_X10_223 : Cond.methodLink RX10 223 yX10_without ∈ TB := tb_t (List.mem_of_getElem? (i := 1240) (by decide +kernel)) rfl
theorem cm_X10_notes : CM_ mi_X10_notes 3 := ⟨tb_t (List.mem_of_getElem? (i := 1283) (by decide +kernel)) rfl, tb_t (List.mem_of_getElem? (i := 12) (by decide +kernel)) rfl, tb_t (List.mem_of_getElem? (i := 1282) (by decide +kernel)) rfl, tb_s (List.mem_of_getElem? (i := 100) (by decide +kernel)) rfl, by decide, by decide, by decide +kernel, by decide⟩
theorem ml_X10_253 : Cond.methodLink RX10 253 yX10_notes ∈ TB := tb_t (List.mem_of_getElem? (i := 1280) (by decide +kernel)) rfl
abbrev mi_X10_hearsNow : MI := (yX10_hearsNow, cX10_hearsNow, 5, some .boolean)
abbrev mi_X10_doesHear : MI := (yX10_doesHear, cX10_doesHear, 10, some .boolean)
theorem fa_X10_50 : FA_ RX10 50 10 30 := ⟨RX10, TX10, 48, rfl, ub_X10, by decide, Or.inl (tb_t (List.mem_of_getElem? (i := 984) (by decide +kernel)) rfl)⟩
abbrev mi_X10_ones : MI := (yX10_ones, cX10_ones, 4, some .int)
theorem cm_X10_ones : CM_ mi_X10_ones 1 := ⟨tb_t (List.mem_of_getElem? (i := 1247) (by decide +kernel)) rfl, tb_t (List.mem_of_getElem? (i := 12) (by decide +kernel)) rfl, tb_t (List.mem_of_getElem? (i := 1246) (by decide +kernel)) rfl, tb_s (List.mem_of_getElem? (i := 94) (by decide +kernel)) rfl, by decide, by decide, by decide +kernel, by decide⟩
theorem ml_X10_226 : Cond.methodLink RX10 226 yX10_ones ∈ TB := tb_t (List.mem_of_getElem? (i := 1244) (by decide +kernel)) rfl
abbrev mi_X10_isSo : MI := (yX10_isSo, cX10_isSo, 5, some .boolean)
theorem fa_X10_53 : FA_ RX10 53 10 31 := ⟨RX10, TX10, 48, rfl, ub_X10, by decide, Or.inl (tb_t (List.mem_of_getElem? (i := 985) (by decide +kernel)) rfl)⟩
abbrev mi_X10_twoOf : MI := (yX10_twoOf, cX10_twoOf, 4, some .int)
theorem cm_X10_twoOf : CM_ mi_X10_twoOf 3 := ⟨tb_t (List.mem_of_getElem? (i := 1255) (by decide +kernel)) rfl, tb_t (List.mem_of_getElem? (i := 12) (by decide +kernel)) rfl, tb_t (List.mem_of_getElem? (i := 1254) (by decide +kernel)) rfl, tb_s (List.mem_of_getElem? (i := 96) (by decide +kernel)) rfl, by decide, by decide, by decide +kernel, by decide⟩
theorem ml_X10_219 : Cond.methodLink RX10 219 yX10_twoOf ∈ TB := tb_t (List.mem_of_getElem? (i := 1252) (by decide +kernel)) rfl
theorem cm_X10_isSo : CM_ mi_X10_isSo 2 := ⟨tb_t (List.mem_of_getElem? (i := 1251) (by decide +kernel)) rfl, tb_t (List.mem_of_getElem? (i := 12) (by decide +kernel)) rfl, tb_t (List.mem_of_getElem? (i := 1250) (by decide +kernel)) rfl, tb_s (List.mem_of_getElem? (i := 95) (by decide +kernel)) rfl, by decide, by decide, by decide +kernel, by decide⟩
theorem ml_X10_229 : Cond.methodLink RX10 229 yX10_isSo ∈ TB := tb_t (List.mem_of_getElem? (i := 1248) (by decide +kernel)) rfl
theorem cm_X10_doesHear : CM_ mi_X10_doesHear 6 := ⟨tb_t (List.mem_of_getElem? (i := 1239) (by decide +kernel)) rfl, tb_t (List.mem_of_getElem? (i := 12) (by decide +kernel)) rfl, tb_t (List.mem_of_getElem? (i := 1238) (by decide +kernel)) rfl, tb_s (List.mem_of_getElem? (i := 92) (by decide +kernel)) rfl, by decide, by decide, by decide +kernel, by decide⟩
theorem ml_X10_233 : Cond.methodLink RX10 233 yX10_doesHear ∈ TB := tb_t (List.mem_of_getElem? (i := 1236) (by decide +kernel)) rfl
theorem cm_X10_hearsNow : CM_ mi_X10_hearsNow 4 := ⟨tb_t (List.mem_of_getElem? (i := 1235) (by decide +kernel)) rfl, tb_t (List.mem_of_getElem? (i := 12) (by decide +kernel)) rfl, tb_t (List.mem_of_getElem? (i := 1234) (by decide +kernel)) rfl, tb_s (List.mem_of_getElem? (i := 91) (by decide +kernel)) rfl, by decide, by decide, by decide +kernel, by decide⟩
theorem ml_X10_240 : Cond.methodLink RX10 240 yX10_hearsNow ∈ TB := tb_t (List.mem_of_getElem? (i := 1232) (by decide +kernel)) rfl
abbrev mi_X10_hours : MI := (yX10_hours, cX10_hours, 4, some .int)
abbrev mi_X10_slips : MI := (yX10_slips, cX10_slips, 4, some .int)
abbrev mi_X10_draw : MI := (yX10_draw, cX10_draw, 2, some .int)
theorem k_X10_96 : Cond.constant RX10 96 (1664525) ∈ TB := tb_t (List.mem_of_getElem? (i := 1296) (by decide +kernel)) rfl
theorem k_X10_97 : Cond.constant RX10 97 (1013904223) ∈ TB := tb_t (List.mem_of_getElem? (i := 1297) (by decide +kernel)) rfl
theorem cm_X10_draw : CM_ mi_X10_draw 1 := ⟨tb_t (List.mem_of_getElem? (i := 1295) (by decide +kernel)) rfl, tb_t (List.mem_of_getElem? (i := 12) (by decide +kernel)) rfl, tb_t (List.mem_of_getElem? (i := 1294) (by decide +kernel)) rfl, tb_s (List.mem_of_getElem? (i := 102) (by decide +kernel)) rfl, by decide, by decide, by decide +kernel, by decide⟩
theorem ml_X10_257 : Cond.methodLink RX10 257 yX10_draw ∈ TB := tb_t (List.mem_of_getElem? (i := 1292) (by decide +kernel)) rfl
theorem cm_X10_slips : CM_ mi_X10_slips 0 := ⟨tb_t (List.mem_of_getElem? (i := 1291) (by decide +kernel)) rfl, tb_t (List.mem_of_getElem? (i := 12) (by decide +kernel)) rfl, tb_t (List.mem_of_getElem? (i := 1290) (by decide +kernel)) rfl, tb_s (List.mem_of_getElem? (i := 101) (by decide +kernel)) rfl, by decide, by decide, by decide +kernel, by decide⟩
theorem ml_X10_260 : Cond.methodLink RX10 260 yX10_slips ∈ TB := tb_t (List.mem_of_getElem? (i := 1288) (by decide +kernel)) rfl
abbrev mi_X10_of : MI := (yX10_of, cX10_of, 3, some .int)
abbrev mi_X10_wordsOf : MI := (yX10_wordsOf, cX10_wordsOf, 4, some .int)
abbrev mi_X10_couplesOf : MI := (yX10_couplesOf, cX10_couplesOf, 6, some .int)
theorem fa_X10_56 : FA_ RX10 56 10 32 := ⟨RX10, TX10, 48, rfl, ub_X10, by decide, Or.inl (tb_t (List.mem_of_getElem? (i := 986) (by decide +kernel)) rfl)⟩
theorem cm_X10_couplesOf : CM_ mi_X10_couplesOf 2 := ⟨tb_t (List.mem_of_getElem? (i := 1263) (by decide +kernel)) rfl, tb_t (List.mem_of_getElem? (i := 12) (by decide +kernel)) rfl, tb_t (List.mem_of_getElem? (i := 1262) (by decide +kernel)) rfl, tb_s (List.mem_of_getElem? (i := 97) (by decide +kernel)) rfl, by decide, by decide, by decide +kernel, by decide⟩
theorem ml_X10_244 : Cond.methodLink RX10 244 yX10_couplesOf ∈ TB := tb_t (List.mem_of_getElem? (i := 1260) (by decide +kernel)) rfl
theorem cm_X10_wordsOf : CM_ mi_X10_wordsOf 1 := ⟨tb_t (List.mem_of_getElem? (i := 1271) (by decide +kernel)) rfl, tb_t (List.mem_of_getElem? (i := 12) (by decide +kernel)) rfl, tb_t (List.mem_of_getElem? (i := 1270) (by decide +kernel)) rfl, tb_s (List.mem_of_getElem? (i := 98) (by decide +kernel)) rfl, by decide, by decide, by decide +kernel, by decide⟩
theorem ml_X10_247 : Cond.methodLink RX10 247 yX10_wordsOf ∈ TB := tb_t (List.mem_of_getElem? (i := 1268) (by decide +kernel)) rfl
abbrev mi_X10_hears : MI := (yX10_hears, cX10_hears, 4, some .int)
abbrev mi_X10_areThree : MI := (yX10_areThree, cX10_areThree, 4, some .boolean)
theorem cm_X10_areThree : CM_ mi_X10_areThree 3 := ⟨tb_t (List.mem_of_getElem? (i := 1231) (by decide +kernel)) rfl, tb_t (List.mem_of_getElem? (i := 12) (by decide +kernel)) rfl, tb_t (List.mem_of_getElem? (i := 1230) (by decide +kernel)) rfl, tb_s (List.mem_of_getElem? (i := 90) (by decide +kernel)) rfl, by decide, by decide, by decide +kernel, by decide⟩
theorem ml_X10_237 : Cond.methodLink RX10 237 yX10_areThree ∈ TB := tb_t (List.mem_of_getElem? (i := 1228) (by decide +kernel)) rfl
abbrev mi_X10_deaf : MI := (yX10_deaf, cX10_deaf, 3, some .int)
abbrev mi_X10_book : MI := (yX10_book, cX10_book, 3, some .int)
abbrev mi_X10_tune : MI := (yX10_tune, cX10_tune, 3, some .int)
abbrev mi_X10_isTune : MI := (yX10_isTune, cX10_isTune, 2, some .boolean)
theorem cm_X10_isTune : CM_ mi_X10_isTune 1 := ⟨tb_t (List.mem_of_getElem? (i := 1309) (by decide +kernel)) rfl, tb_t (List.mem_of_getElem? (i := 12) (by decide +kernel)) rfl, tb_t (List.mem_of_getElem? (i := 1308) (by decide +kernel)) rfl, tb_s (List.mem_of_getElem? (i := 103) (by decide +kernel)) rfl, by decide, by decide, by decide +kernel, by decide⟩
theorem ml_X10_263 : Cond.methodLink RX10 263 yX10_isTune ∈ TB := tb_t (List.mem_of_getElem? (i := 1306) (by decide +kernel)) rfl
theorem fa_X10_60 : FA_ RX10 60 10 33 := ⟨RX10, TX10, 48, rfl, ub_X10, by decide, Or.inl (tb_t (List.mem_of_getElem? (i := 987) (by decide +kernel)) rfl)⟩
theorem fa_X10_63 : FA_ RX10 63 10 34 := ⟨RX10, TX10, 48, rfl, ub_X10, by decide, Or.inl (tb_t (List.mem_of_getElem? (i := 988) (by decide +kernel)) rfl)⟩
abbrev mi_X10_same : MI := (yX10_same, cX10_same, 3, some .int)
abbrev mi_X10_hasSteps : MI := (yX10_hasSteps, cX10_hasSteps, 5, some .boolean)
theorem cm_X10_hasSteps : CM_ mi_X10_hasSteps 3 := ⟨tb_t (List.mem_of_getElem? (i := 1317) (by decide +kernel)) rfl, tb_t (List.mem_of_getElem? (i := 12) (by decide +kernel)) rfl, tb_t (List.mem_of_getElem? (i := 1316) (by decide +kernel)) rfl, tb_s (List.mem_of_getElem? (i := 104) (by decide +kernel)) rfl, by decide, by decide, by decide +kernel, by decide⟩
theorem ml_X10_266 : Cond.methodLink RX10 266 yX10_hasSteps ∈ TB := tb_t (List.mem_of_getElem? (i := 1314) (by decide +kernel)) rfl
abbrev mi_X10_pair : MI := (yX10_pair, cX10_pair, 3, some .int)
theorem fa_X10_269 : FA_ RX10 269 10 35 := ⟨RX10, TX10, 48, rfl, ub_X10, by decide, Or.inl (tb_t (List.mem_of_getElem? (i := 989) (by decide +kernel)) rfl)⟩
theorem fa_X10_66 : FA_ RX10 66 10 36 := ⟨RX10, TX10, 48, rfl, ub_X10, by decide, Or.inl (tb_t (List.mem_of_getElem? (i := 990) (by decide +kernel)) rfl)⟩
theorem fa_X10_69 : FA_ RX10 69 10 37 := ⟨RX10, TX10, 48, rfl, ub_X10, by decide, Or.inl (tb_t (List.mem_of_getElem? (i := 991) (by decide +kernel)) rfl)⟩
theorem fp_X10_269 : FP_ RX10 269 10 35 .int := ⟨RX10, TX10, 48, tyX10, rfl, ub_X10, by decide, Or.inl (tb_t (List.mem_of_getElem? (i := 989) (by decide +kernel)) rfl), tyX10_ok, nmX10, rfl, by decide +kernel⟩
abbrev mi_X10_turnOf : MI := (yX10_turnOf, cX10_turnOf, 3, some .int)
abbrev mi_X10_canAll : MI := (yX10_canAll, cX10_canAll, 4, some .boolean)
theorem fa_X10_72 : FA_ RX10 72 10 38 := ⟨RX10, TX10, 48, rfl, ub_X10, by decide, Or.inl (tb_t (List.mem_of_getElem? (i := 992) (by decide +kernel)) rfl)⟩
abbrev mi_X10_canHave : MI := (yX10_canHave, cX10_canHave, 4, some .boolean)
abbrev mi_X10_cannotBoth : MI := (yX10_cannotBoth, cX10_cannotBoth, 3, some .boolean)
abbrev mi_X10_areWithHums : MI := (yX10_areWithHums, cX10_areWithHums, 2, some .boolean)
theorem cm_X10_areWithHums : CM_ mi_X10_areWithHums 1 := ⟨tb_t (List.mem_of_getElem? (i := 1341) (by decide +kernel)) rfl, tb_t (List.mem_of_getElem? (i := 12) (by decide +kernel)) rfl, tb_t (List.mem_of_getElem? (i := 1340) (by decide +kernel)) rfl, tb_s (List.mem_of_getElem? (i := 108) (by decide +kernel)) rfl, by decide, by decide, by decide +kernel, by decide⟩
theorem ml_X10_272 : Cond.methodLink RX10 272 yX10_areWithHums ∈ TB := tb_t (List.mem_of_getElem? (i := 1338) (by decide +kernel)) rfl
theorem cm_X10_cannotBoth : CM_ mi_X10_cannotBoth 2 := ⟨tb_t (List.mem_of_getElem? (i := 1337) (by decide +kernel)) rfl, tb_t (List.mem_of_getElem? (i := 12) (by decide +kernel)) rfl, tb_t (List.mem_of_getElem? (i := 1336) (by decide +kernel)) rfl, tb_s (List.mem_of_getElem? (i := 107) (by decide +kernel)) rfl, by decide, by decide, by decide +kernel, by decide⟩
theorem ml_X10_275 : Cond.methodLink RX10 275 yX10_cannotBoth ∈ TB := tb_t (List.mem_of_getElem? (i := 1334) (by decide +kernel)) rfl
theorem cm_X10_canHave : CM_ mi_X10_canHave 2 := ⟨tb_t (List.mem_of_getElem? (i := 1333) (by decide +kernel)) rfl, tb_t (List.mem_of_getElem? (i := 12) (by decide +kernel)) rfl, tb_t (List.mem_of_getElem? (i := 1332) (by decide +kernel)) rfl, tb_s (List.mem_of_getElem? (i := 106) (by decide +kernel)) rfl, by decide, by decide, by decide +kernel, by decide⟩
theorem ml_X10_278 : Cond.methodLink RX10 278 yX10_canHave ∈ TB := tb_t (List.mem_of_getElem? (i := 1330) (by decide +kernel)) rfl
theorem cm_X10_canAll : CM_ mi_X10_canAll 1 := ⟨tb_t (List.mem_of_getElem? (i := 1329) (by decide +kernel)) rfl, tb_t (List.mem_of_getElem? (i := 12) (by decide +kernel)) rfl, tb_t (List.mem_of_getElem? (i := 1328) (by decide +kernel)) rfl, tb_s (List.mem_of_getElem? (i := 105) (by decide +kernel)) rfl, by decide, by decide, by decide +kernel, by decide⟩
theorem ml_X10_281 : Cond.methodLink RX10 281 yX10_canAll ∈ TB := tb_t (List.mem_of_getElem? (i := 1326) (by decide +kernel)) rfl
abbrev mi_X10_tell : MI := (yX10_tell, cX10_tell, 2, some .int)
theorem fa_X10_284 : FA_ RX10 284 10 39 := ⟨RX10, TX10, 48, rfl, ub_X10, by decide, Or.inl (tb_t (List.mem_of_getElem? (i := 993) (by decide +kernel)) rfl)⟩
theorem fa_X10_75 : FA_ RX10 75 10 40 := ⟨RX10, TX10, 48, rfl, ub_X10, by decide, Or.inl (tb_t (List.mem_of_getElem? (i := 994) (by decide +kernel)) rfl)⟩
theorem fp_X10_284 : FP_ RX10 284 10 39 .int := ⟨RX10, TX10, 48, tyX10, rfl, ub_X10, by decide, Or.inl (tb_t (List.mem_of_getElem? (i := 993) (by decide +kernel)) rfl), tyX10_ok, nmX10, rfl, by decide +kernel⟩
abbrev mi_X10_fit : MI := (yX10_fit, cX10_fit, 4, some .int)
abbrev mi_X10_fits : MI := (yX10_fits, cX10_fits, 5, some .int)
abbrev mi_X10_firstRow : MI := (yX10_firstRow, cX10_firstRow, 3, none)
theorem fa_X10_78 : FA_ RX10 78 10 41 := ⟨RX10, TX10, 48, rfl, ub_X10, by decide, Or.inl (tb_t (List.mem_of_getElem? (i := 995) (by decide +kernel)) rfl)⟩
theorem cm_X10_firstRow : CM_ mi_X10_firstRow 1 := ⟨tb_t (List.mem_of_getElem? (i := 1357) (by decide +kernel)) rfl, tb_t (List.mem_of_getElem? (i := 12) (by decide +kernel)) rfl, tb_t (List.mem_of_getElem? (i := 1356) (by decide +kernel)) rfl, tb_s (List.mem_of_getElem? (i := 110) (by decide +kernel)) rfl, by decide, by decide, by decide +kernel, by decide⟩
theorem ml_X10_290 : Cond.methodLink RX10 290 yX10_firstRow ∈ TB := tb_t (List.mem_of_getElem? (i := 1354) (by decide +kernel)) rfl
abbrev mi_X10_areJustTold : MI := (yX10_areJustTold, cX10_areJustTold, 3, some .boolean)
abbrev mi_X10_countsWords : MI := (yX10_countsWords, cX10_countsWords, 4, none)
theorem fa_X10_81 : FA_ RX10 81 10 42 := ⟨RX10, TX10, 48, rfl, ub_X10, by decide, Or.inl (tb_t (List.mem_of_getElem? (i := 996) (by decide +kernel)) rfl)⟩
theorem cm_X10_countsWords : CM_ mi_X10_countsWords 1 := ⟨tb_t (List.mem_of_getElem? (i := 1365) (by decide +kernel)) rfl, tb_t (List.mem_of_getElem? (i := 12) (by decide +kernel)) rfl, tb_t (List.mem_of_getElem? (i := 1364) (by decide +kernel)) rfl, tb_s (List.mem_of_getElem? (i := 112) (by decide +kernel)) rfl, by decide, by decide, by decide +kernel, by decide⟩
theorem ml_X10_287 : Cond.methodLink RX10 287 yX10_countsWords ∈ TB := tb_t (List.mem_of_getElem? (i := 1362) (by decide +kernel)) rfl
theorem cm_X10_areJustTold : CM_ mi_X10_areJustTold 1 := ⟨tb_t (List.mem_of_getElem? (i := 1361) (by decide +kernel)) rfl, tb_t (List.mem_of_getElem? (i := 12) (by decide +kernel)) rfl, tb_t (List.mem_of_getElem? (i := 1360) (by decide +kernel)) rfl, tb_s (List.mem_of_getElem? (i := 111) (by decide +kernel)) rfl, by decide, by decide, by decide +kernel, by decide⟩
theorem ml_X10_293 : Cond.methodLink RX10 293 yX10_areJustTold ∈ TB := tb_t (List.mem_of_getElem? (i := 1358) (by decide +kernel)) rfl
abbrev mi_X10_nextRow : MI := (yX10_nextRow, cX10_nextRow, 5, some .boolean)
theorem cm_X10_nextRow : CM_ mi_X10_nextRow 2 := ⟨tb_t (List.mem_of_getElem? (i := 1369) (by decide +kernel)) rfl, tb_t (List.mem_of_getElem? (i := 12) (by decide +kernel)) rfl, tb_t (List.mem_of_getElem? (i := 1368) (by decide +kernel)) rfl, tb_s (List.mem_of_getElem? (i := 113) (by decide +kernel)) rfl, by decide, by decide, by decide +kernel, by decide⟩
theorem ml_X10_296 : Cond.methodLink RX10 296 yX10_nextRow ∈ TB := tb_t (List.mem_of_getElem? (i := 1366) (by decide +kernel)) rfl
theorem fa_X10_84 : FA_ RX10 84 10 43 := ⟨RX10, TX10, 48, rfl, ub_X10, by decide, Or.inl (tb_t (List.mem_of_getElem? (i := 997) (by decide +kernel)) rfl)⟩
theorem cm_X10_fits : CM_ mi_X10_fits 1 := ⟨tb_t (List.mem_of_getElem? (i := 1353) (by decide +kernel)) rfl, tb_t (List.mem_of_getElem? (i := 12) (by decide +kernel)) rfl, tb_t (List.mem_of_getElem? (i := 1352) (by decide +kernel)) rfl, tb_s (List.mem_of_getElem? (i := 109) (by decide +kernel)) rfl, by decide, by decide, by decide +kernel, by decide⟩
theorem ml_X10_299 : Cond.methodLink RX10 299 yX10_fits ∈ TB := tb_t (List.mem_of_getElem? (i := 1350) (by decide +kernel)) rfl
abbrev mi_X10_fewest : MI := (yX10_fewest, cX10_fewest, 3, some .int)
abbrev mi_X10_fewestTones : MI := (yX10_fewestTones, cX10_fewestTones, 3, some .int)
abbrev mi_X10_haveAllTold : MI := (yX10_haveAllTold, cX10_haveAllTold, 3, some .boolean)
theorem cm_X10_haveAllTold : CM_ mi_X10_haveAllTold 1 := ⟨tb_t (List.mem_of_getElem? (i := 1381) (by decide +kernel)) rfl, tb_t (List.mem_of_getElem? (i := 12) (by decide +kernel)) rfl, tb_t (List.mem_of_getElem? (i := 1380) (by decide +kernel)) rfl, tb_s (List.mem_of_getElem? (i := 115) (by decide +kernel)) rfl, by decide, by decide, by decide +kernel, by decide⟩
theorem ml_X10_302 : Cond.methodLink RX10 302 yX10_haveAllTold ∈ TB := tb_t (List.mem_of_getElem? (i := 1378) (by decide +kernel)) rfl
theorem cm_X10_fewestTones : CM_ mi_X10_fewestTones 0 := ⟨tb_t (List.mem_of_getElem? (i := 1377) (by decide +kernel)) rfl, tb_t (List.mem_of_getElem? (i := 12) (by decide +kernel)) rfl, tb_t (List.mem_of_getElem? (i := 1376) (by decide +kernel)) rfl, tb_s (List.mem_of_getElem? (i := 114) (by decide +kernel)) rfl, by decide, by decide, by decide +kernel, by decide⟩
theorem ml_X10_305 : Cond.methodLink RX10 305 yX10_fewestTones ∈ TB := tb_t (List.mem_of_getElem? (i := 1374) (by decide +kernel)) rfl
abbrev mi_X10_ruler : MI := (yX10_ruler, cX10_ruler, 3, some .int)
abbrev mi_X10_findsRuler : MI := (yX10_findsRuler, cX10_findsRuler, 4, none)
abbrev mi_X10_areUnlike : MI := (yX10_areUnlike, cX10_areUnlike, 3, some .boolean)
theorem cm_X10_areUnlike : CM_ mi_X10_areUnlike 1 := ⟨tb_t (List.mem_of_getElem? (i := 1393) (by decide +kernel)) rfl, tb_t (List.mem_of_getElem? (i := 12) (by decide +kernel)) rfl, tb_t (List.mem_of_getElem? (i := 1392) (by decide +kernel)) rfl, tb_s (List.mem_of_getElem? (i := 117) (by decide +kernel)) rfl, by decide, by decide, by decide +kernel, by decide⟩
theorem ml_X10_308 : Cond.methodLink RX10 308 yX10_areUnlike ∈ TB := tb_t (List.mem_of_getElem? (i := 1390) (by decide +kernel)) rfl
theorem cm_X10_findsRuler : CM_ mi_X10_findsRuler 1 := ⟨tb_t (List.mem_of_getElem? (i := 1389) (by decide +kernel)) rfl, tb_t (List.mem_of_getElem? (i := 12) (by decide +kernel)) rfl, tb_t (List.mem_of_getElem? (i := 1388) (by decide +kernel)) rfl, tb_s (List.mem_of_getElem? (i := 116) (by decide +kernel)) rfl, by decide, by decide, by decide +kernel, by decide⟩
theorem ml_X10_311 : Cond.methodLink RX10 311 yX10_findsRuler ∈ TB := tb_t (List.mem_of_getElem? (i := 1386) (by decide +kernel)) rfl
abbrev mi_X10_alone : MI := (yX10_alone, cX10_alone, 9, some .int)
abbrev mi_X10_isAlone : MI := (yX10_isAlone, cX10_isAlone, 7, some .boolean)
theorem cm_X10_isAlone : CM_ mi_X10_isAlone 5 := ⟨tb_t (List.mem_of_getElem? (i := 1401) (by decide +kernel)) rfl, tb_t (List.mem_of_getElem? (i := 12) (by decide +kernel)) rfl, tb_t (List.mem_of_getElem? (i := 1400) (by decide +kernel)) rfl, tb_s (List.mem_of_getElem? (i := 118) (by decide +kernel)) rfl, by decide, by decide, by decide +kernel, by decide⟩
theorem ml_X10_314 : Cond.methodLink RX10 314 yX10_isAlone ∈ TB := tb_t (List.mem_of_getElem? (i := 1398) (by decide +kernel)) rfl
abbrev mi_X10_safe : MI := (yX10_safe, cX10_safe, 5, some .int)
abbrev mi_X10_canSay : MI := (yX10_canSay, cX10_canSay, 4, some .boolean)
theorem cm_X10_canSay : CM_ mi_X10_canSay 1 := ⟨tb_t (List.mem_of_getElem? (i := 1409) (by decide +kernel)) rfl, tb_t (List.mem_of_getElem? (i := 12) (by decide +kernel)) rfl, tb_t (List.mem_of_getElem? (i := 1408) (by decide +kernel)) rfl, tb_s (List.mem_of_getElem? (i := 119) (by decide +kernel)) rfl, by decide, by decide, by decide +kernel, by decide⟩
theorem ml_X10_318 : Cond.methodLink RX10 318 yX10_canSay ∈ TB := tb_t (List.mem_of_getElem? (i := 1406) (by decide +kernel)) rfl
abbrev mi_X10_undo : MI := (yX10_undo, cX10_undo, 2, some .boolean)
abbrev mi_X10_image : MI := (yX10_image, cX10_image, 3, some .boolean)
theorem fa_X10_324 : FA_ RX10 324 10 44 := ⟨RX10, TX10, 48, rfl, ub_X10, by decide, Or.inl (tb_t (List.mem_of_getElem? (i := 998) (by decide +kernel)) rfl)⟩
theorem fp_X10_324 : FP_ RX10 324 10 44 .boolean := ⟨RX10, TX10, 48, tyX10, rfl, ub_X10, by decide, Or.inl (tb_t (List.mem_of_getElem? (i := 998) (by decide +kernel)) rfl), tyX10_ok, nmX10, rfl, by decide +kernel⟩
theorem fa_X10_331 : FA_ RX10 331 10 45 := ⟨RX10, TX10, 48, rfl, ub_X10, by decide, Or.inl (tb_t (List.mem_of_getElem? (i := 999) (by decide +kernel)) rfl)⟩
theorem fp_X10_331 : FP_ RX10 331 10 45 .boolean := ⟨RX10, TX10, 48, tyX10, rfl, ub_X10, by decide, Or.inl (tb_t (List.mem_of_getElem? (i := 999) (by decide +kernel)) rfl), tyX10_ok, nmX10, rfl, by decide +kernel⟩
theorem fa_X10_321 : FA_ RX10 321 10 46 := ⟨RX10, TX10, 48, rfl, ub_X10, by decide, Or.inl (tb_t (List.mem_of_getElem? (i := 1000) (by decide +kernel)) rfl)⟩
theorem fp_X10_321 : FP_ RX10 321 10 46 .int := ⟨RX10, TX10, 48, tyX10, rfl, ub_X10, by decide, Or.inl (tb_t (List.mem_of_getElem? (i := 1000) (by decide +kernel)) rfl), tyX10_ok, nmX10, rfl, by decide +kernel⟩
abbrev mi_X10_kept : MI := (yX10_kept, cX10_kept, 2, some .int)
theorem fa_X10_87 : FA_ RX10 87 10 47 := ⟨RX10, TX10, 48, rfl, ub_X10, by decide, Or.inl (tb_t (List.mem_of_getElem? (i := 1001) (by decide +kernel)) rfl)⟩
theorem cm_X10_kept : CM_ mi_X10_kept 1 := ⟨tb_t (List.mem_of_getElem? (i := 1417) (by decide +kernel)) rfl, tb_t (List.mem_of_getElem? (i := 12) (by decide +kernel)) rfl, tb_t (List.mem_of_getElem? (i := 1416) (by decide +kernel)) rfl, tb_s (List.mem_of_getElem? (i := 120) (by decide +kernel)) rfl, by decide, by decide, by decide +kernel, by decide⟩
theorem ml_X10_328 : Cond.methodLink RX10 328 yX10_kept ∈ TB := tb_t (List.mem_of_getElem? (i := 1414) (by decide +kernel)) rfl
abbrev mi_X10_keepsRows : MI := (yX10_keepsRows, cX10_keepsRows, 2, none)
theorem cm_X10_keepsRows : CM_ mi_X10_keepsRows 0 := ⟨tb_t (List.mem_of_getElem? (i := 1421) (by decide +kernel)) rfl, tb_t (List.mem_of_getElem? (i := 12) (by decide +kernel)) rfl, tb_t (List.mem_of_getElem? (i := 1420) (by decide +kernel)) rfl, tb_s (List.mem_of_getElem? (i := 121) (by decide +kernel)) rfl, by decide, by decide, by decide +kernel, by decide⟩
theorem ml_X10_334 : Cond.methodLink RX10 334 yX10_keepsRows ∈ TB := tb_t (List.mem_of_getElem? (i := 1418) (by decide +kernel)) rfl
abbrev mi_X10_keepsLaw : MI := (yX10_keepsLaw, cX10_keepsLaw, 2, none)
theorem cm_X10_keepsLaw : CM_ mi_X10_keepsLaw 0 := ⟨tb_t (List.mem_of_getElem? (i := 1425) (by decide +kernel)) rfl, tb_t (List.mem_of_getElem? (i := 12) (by decide +kernel)) rfl, tb_t (List.mem_of_getElem? (i := 1424) (by decide +kernel)) rfl, tb_s (List.mem_of_getElem? (i := 122) (by decide +kernel)) rfl, by decide, by decide, by decide +kernel, by decide⟩
theorem ml_X10_337 : Cond.methodLink RX10 337 yX10_keepsLaw ∈ TB := tb_t (List.mem_of_getElem? (i := 1422) (by decide +kernel)) rfl
abbrev mi_X10_look : MI := (yX10_look, cX10_look, 2, some .int)
abbrev mi_L_law : MI := (yL_law, cL_law, 4, some .boolean)
theorem cm_X9_state : CM_ mi_X9_state 1 := ⟨tb_t (List.mem_of_getElem? (i := 370) (by decide +kernel)) rfl, tb_t (List.mem_of_getElem? (i := 1) (by decide +kernel)) rfl, tb_t (List.mem_of_getElem? (i := 368) (by decide +kernel)) rfl, tb_t (List.mem_of_getElem? (i := 369) (by decide +kernel)) rfl, by decide, by decide, by decide +kernel, by decide⟩
theorem ml_L_13 : Cond.methodLink RL 13 yX9_state ∈ TB := tb_t (List.mem_of_getElem? (i := 367) (by decide +kernel)) rfl
theorem cm_X10_state : CM_ mi_X10_state 1 := ⟨tb_t (List.mem_of_getElem? (i := 1107) (by decide +kernel)) rfl, tb_t (List.mem_of_getElem? (i := 12) (by decide +kernel)) rfl, tb_t (List.mem_of_getElem? (i := 1105) (by decide +kernel)) rfl, tb_t (List.mem_of_getElem? (i := 1106) (by decide +kernel)) rfl, by decide, by decide, by decide +kernel, by decide⟩
theorem ml_L_17 : Cond.methodLink RL 17 yX10_state ∈ TB := tb_t (List.mem_of_getElem? (i := 1104) (by decide +kernel)) rfl
theorem cm_X9_person : CM_ mi_X9_person 1 := ⟨tb_t (List.mem_of_getElem? (i := 378) (by decide +kernel)) rfl, tb_t (List.mem_of_getElem? (i := 1) (by decide +kernel)) rfl, tb_t (List.mem_of_getElem? (i := 376) (by decide +kernel)) rfl, tb_t (List.mem_of_getElem? (i := 377) (by decide +kernel)) rfl, by decide, by decide, by decide +kernel, by decide⟩
theorem ml_L_18 : Cond.methodLink RL 18 yX9_person ∈ TB := tb_t (List.mem_of_getElem? (i := 375) (by decide +kernel)) rfl
theorem cm_X10_person : CM_ mi_X10_person 1 := ⟨tb_t (List.mem_of_getElem? (i := 1111) (by decide +kernel)) rfl, tb_t (List.mem_of_getElem? (i := 12) (by decide +kernel)) rfl, tb_t (List.mem_of_getElem? (i := 1109) (by decide +kernel)) rfl, tb_t (List.mem_of_getElem? (i := 1110) (by decide +kernel)) rfl, by decide, by decide, by decide +kernel, by decide⟩
theorem ml_L_21 : Cond.methodLink RL 21 yX10_person ∈ TB := tb_t (List.mem_of_getElem? (i := 1108) (by decide +kernel)) rfl
theorem cm_X9_set : CM_ mi_X9_set 3 := ⟨tb_t (List.mem_of_getElem? (i := 385) (by decide +kernel)) rfl, tb_t (List.mem_of_getElem? (i := 1) (by decide +kernel)) rfl, tb_t (List.mem_of_getElem? (i := 383) (by decide +kernel)) rfl, tb_t (List.mem_of_getElem? (i := 384) (by decide +kernel)) rfl, by decide, by decide, by decide +kernel, by decide⟩
theorem ml_L_22 : Cond.methodLink RL 22 yX9_set ∈ TB := tb_t (List.mem_of_getElem? (i := 382) (by decide +kernel)) rfl
theorem cm_X10_set : CM_ mi_X10_set 3 := ⟨tb_t (List.mem_of_getElem? (i := 1119) (by decide +kernel)) rfl, tb_t (List.mem_of_getElem? (i := 12) (by decide +kernel)) rfl, tb_t (List.mem_of_getElem? (i := 1117) (by decide +kernel)) rfl, tb_t (List.mem_of_getElem? (i := 1118) (by decide +kernel)) rfl, by decide, by decide, by decide +kernel, by decide⟩
theorem ml_L_26 : Cond.methodLink RL 26 yX10_set ∈ TB := tb_t (List.mem_of_getElem? (i := 1116) (by decide +kernel)) rfl
theorem cm_X9_feed : CM_ mi_X9_feed 5 := ⟨tb_t (List.mem_of_getElem? (i := 418) (by decide +kernel)) rfl, tb_t (List.mem_of_getElem? (i := 1) (by decide +kernel)) rfl, tb_t (List.mem_of_getElem? (i := 416) (by decide +kernel)) rfl, tb_t (List.mem_of_getElem? (i := 417) (by decide +kernel)) rfl, by decide, by decide, by decide +kernel, by decide⟩
theorem ml_L_27 : Cond.methodLink RL 27 yX9_feed ∈ TB := tb_t (List.mem_of_getElem? (i := 415) (by decide +kernel)) rfl
theorem cm_X10_feed : CM_ mi_X10_feed 5 := ⟨tb_t (List.mem_of_getElem? (i := 1135) (by decide +kernel)) rfl, tb_t (List.mem_of_getElem? (i := 12) (by decide +kernel)) rfl, tb_t (List.mem_of_getElem? (i := 1133) (by decide +kernel)) rfl, tb_t (List.mem_of_getElem? (i := 1134) (by decide +kernel)) rfl, by decide, by decide, by decide +kernel, by decide⟩
theorem ml_L_31 : Cond.methodLink RL 31 yX10_feed ∈ TB := tb_t (List.mem_of_getElem? (i := 1132) (by decide +kernel)) rfl
theorem cm_X9_end : CM_ mi_X9_end 1 := ⟨tb_t (List.mem_of_getElem? (i := 426) (by decide +kernel)) rfl, tb_t (List.mem_of_getElem? (i := 1) (by decide +kernel)) rfl, tb_t (List.mem_of_getElem? (i := 424) (by decide +kernel)) rfl, tb_t (List.mem_of_getElem? (i := 425) (by decide +kernel)) rfl, by decide, by decide, by decide +kernel, by decide⟩
theorem ml_L_32 : Cond.methodLink RL 32 yX9_end ∈ TB := tb_t (List.mem_of_getElem? (i := 423) (by decide +kernel)) rfl
theorem cm_X10_end : CM_ mi_X10_end 1 := ⟨tb_t (List.mem_of_getElem? (i := 1143) (by decide +kernel)) rfl, tb_t (List.mem_of_getElem? (i := 12) (by decide +kernel)) rfl, tb_t (List.mem_of_getElem? (i := 1141) (by decide +kernel)) rfl, tb_t (List.mem_of_getElem? (i := 1142) (by decide +kernel)) rfl, by decide, by decide, by decide +kernel, by decide⟩
theorem ml_L_36 : Cond.methodLink RL 36 yX10_end ∈ TB := tb_t (List.mem_of_getElem? (i := 1140) (by decide +kernel)) rfl
theorem cm_X9_text : CM_ mi_X9_text 0 := ⟨tb_t (List.mem_of_getElem? (i := 430) (by decide +kernel)) rfl, tb_t (List.mem_of_getElem? (i := 1) (by decide +kernel)) rfl, tb_t (List.mem_of_getElem? (i := 428) (by decide +kernel)) rfl, tb_t (List.mem_of_getElem? (i := 429) (by decide +kernel)) rfl, by decide, by decide, by decide +kernel, by decide⟩
theorem ml_L_37 : Cond.methodLink RL 37 yX9_text ∈ TB := tb_t (List.mem_of_getElem? (i := 427) (by decide +kernel)) rfl
theorem cm_X10_text : CM_ mi_X10_text 0 := ⟨tb_t (List.mem_of_getElem? (i := 1147) (by decide +kernel)) rfl, tb_t (List.mem_of_getElem? (i := 12) (by decide +kernel)) rfl, tb_t (List.mem_of_getElem? (i := 1145) (by decide +kernel)) rfl, tb_t (List.mem_of_getElem? (i := 1146) (by decide +kernel)) rfl, by decide, by decide, by decide +kernel, by decide⟩
theorem ml_L_41 : Cond.methodLink RL 41 yX10_text ∈ TB := tb_t (List.mem_of_getElem? (i := 1144) (by decide +kernel)) rfl
theorem cm_X9_fault : CM_ mi_X9_fault 1 := ⟨tb_t (List.mem_of_getElem? (i := 671) (by decide +kernel)) rfl, tb_t (List.mem_of_getElem? (i := 1) (by decide +kernel)) rfl, tb_t (List.mem_of_getElem? (i := 669) (by decide +kernel)) rfl, tb_t (List.mem_of_getElem? (i := 670) (by decide +kernel)) rfl, by decide, by decide, by decide +kernel, by decide⟩
theorem ml_L_42 : Cond.methodLink RL 42 yX9_fault ∈ TB := tb_t (List.mem_of_getElem? (i := 668) (by decide +kernel)) rfl
theorem cm_X10_fault : CM_ mi_X10_fault 1 := ⟨tb_t (List.mem_of_getElem? (i := 1223) (by decide +kernel)) rfl, tb_t (List.mem_of_getElem? (i := 12) (by decide +kernel)) rfl, tb_t (List.mem_of_getElem? (i := 1221) (by decide +kernel)) rfl, tb_t (List.mem_of_getElem? (i := 1222) (by decide +kernel)) rfl, by decide, by decide, by decide +kernel, by decide⟩
theorem ml_L_45 : Cond.methodLink RL 45 yX10_fault ∈ TB := tb_t (List.mem_of_getElem? (i := 1220) (by decide +kernel)) rfl
theorem cm_X9_speak : CM_ mi_X9_speak 2 := ⟨tb_t (List.mem_of_getElem? (i := 675) (by decide +kernel)) rfl, tb_t (List.mem_of_getElem? (i := 1) (by decide +kernel)) rfl, tb_t (List.mem_of_getElem? (i := 673) (by decide +kernel)) rfl, tb_t (List.mem_of_getElem? (i := 674) (by decide +kernel)) rfl, by decide, by decide, by decide +kernel, by decide⟩
theorem ml_L_46 : Cond.methodLink RL 46 yX9_speak ∈ TB := tb_t (List.mem_of_getElem? (i := 672) (by decide +kernel)) rfl
theorem cm_X10_speak : CM_ mi_X10_speak 2 := ⟨tb_t (List.mem_of_getElem? (i := 1275) (by decide +kernel)) rfl, tb_t (List.mem_of_getElem? (i := 12) (by decide +kernel)) rfl, tb_t (List.mem_of_getElem? (i := 1273) (by decide +kernel)) rfl, tb_t (List.mem_of_getElem? (i := 1274) (by decide +kernel)) rfl, by decide, by decide, by decide +kernel, by decide⟩
theorem ml_L_50 : Cond.methodLink RL 50 yX10_speak ∈ TB := tb_t (List.mem_of_getElem? (i := 1272) (by decide +kernel)) rfl
theorem cm_X9_hours : CM_ mi_X9_hours 1 := ⟨tb_t (List.mem_of_getElem? (i := 743) (by decide +kernel)) rfl, tb_t (List.mem_of_getElem? (i := 1) (by decide +kernel)) rfl, tb_t (List.mem_of_getElem? (i := 741) (by decide +kernel)) rfl, tb_t (List.mem_of_getElem? (i := 742) (by decide +kernel)) rfl, by decide, by decide, by decide +kernel, by decide⟩
theorem ml_L_51 : Cond.methodLink RL 51 yX9_hours ∈ TB := tb_t (List.mem_of_getElem? (i := 740) (by decide +kernel)) rfl
theorem cm_X10_hours : CM_ mi_X10_hours 1 := ⟨tb_t (List.mem_of_getElem? (i := 1287) (by decide +kernel)) rfl, tb_t (List.mem_of_getElem? (i := 12) (by decide +kernel)) rfl, tb_t (List.mem_of_getElem? (i := 1285) (by decide +kernel)) rfl, tb_t (List.mem_of_getElem? (i := 1286) (by decide +kernel)) rfl, by decide, by decide, by decide +kernel, by decide⟩
theorem ml_L_54 : Cond.methodLink RL 54 yX10_hours ∈ TB := tb_t (List.mem_of_getElem? (i := 1284) (by decide +kernel)) rfl
theorem cm_X9_of : CM_ mi_X9_of 2 := ⟨tb_t (List.mem_of_getElem? (i := 759) (by decide +kernel)) rfl, tb_t (List.mem_of_getElem? (i := 1) (by decide +kernel)) rfl, tb_t (List.mem_of_getElem? (i := 757) (by decide +kernel)) rfl, tb_t (List.mem_of_getElem? (i := 758) (by decide +kernel)) rfl, by decide, by decide, by decide +kernel, by decide⟩
theorem ml_L_55 : Cond.methodLink RL 55 yX9_of ∈ TB := tb_t (List.mem_of_getElem? (i := 756) (by decide +kernel)) rfl
theorem cm_X10_of : CM_ mi_X10_of 2 := ⟨tb_t (List.mem_of_getElem? (i := 1267) (by decide +kernel)) rfl, tb_t (List.mem_of_getElem? (i := 12) (by decide +kernel)) rfl, tb_t (List.mem_of_getElem? (i := 1265) (by decide +kernel)) rfl, tb_t (List.mem_of_getElem? (i := 1266) (by decide +kernel)) rfl, by decide, by decide, by decide +kernel, by decide⟩
theorem ml_L_58 : Cond.methodLink RL 58 yX10_of ∈ TB := tb_t (List.mem_of_getElem? (i := 1264) (by decide +kernel)) rfl
theorem cm_X9_hears : CM_ mi_X9_hears 3 := ⟨tb_t (List.mem_of_getElem? (i := 782) (by decide +kernel)) rfl, tb_t (List.mem_of_getElem? (i := 1) (by decide +kernel)) rfl, tb_t (List.mem_of_getElem? (i := 780) (by decide +kernel)) rfl, tb_t (List.mem_of_getElem? (i := 781) (by decide +kernel)) rfl, by decide, by decide, by decide +kernel, by decide⟩
theorem ml_L_59 : Cond.methodLink RL 59 yX9_hears ∈ TB := tb_t (List.mem_of_getElem? (i := 779) (by decide +kernel)) rfl
theorem cm_X10_hears : CM_ mi_X10_hears 3 := ⟨tb_t (List.mem_of_getElem? (i := 1227) (by decide +kernel)) rfl, tb_t (List.mem_of_getElem? (i := 12) (by decide +kernel)) rfl, tb_t (List.mem_of_getElem? (i := 1225) (by decide +kernel)) rfl, tb_t (List.mem_of_getElem? (i := 1226) (by decide +kernel)) rfl, by decide, by decide, by decide +kernel, by decide⟩
theorem ml_L_63 : Cond.methodLink RL 63 yX10_hears ∈ TB := tb_t (List.mem_of_getElem? (i := 1224) (by decide +kernel)) rfl
theorem cm_X9_deaf : CM_ mi_X9_deaf 2 := ⟨tb_t (List.mem_of_getElem? (i := 791) (by decide +kernel)) rfl, tb_t (List.mem_of_getElem? (i := 1) (by decide +kernel)) rfl, tb_t (List.mem_of_getElem? (i := 789) (by decide +kernel)) rfl, tb_t (List.mem_of_getElem? (i := 790) (by decide +kernel)) rfl, by decide, by decide, by decide +kernel, by decide⟩
theorem ml_L_64 : Cond.methodLink RL 64 yX9_deaf ∈ TB := tb_t (List.mem_of_getElem? (i := 788) (by decide +kernel)) rfl
theorem cm_X10_deaf : CM_ mi_X10_deaf 2 := ⟨tb_t (List.mem_of_getElem? (i := 1259) (by decide +kernel)) rfl, tb_t (List.mem_of_getElem? (i := 12) (by decide +kernel)) rfl, tb_t (List.mem_of_getElem? (i := 1257) (by decide +kernel)) rfl, tb_t (List.mem_of_getElem? (i := 1258) (by decide +kernel)) rfl, by decide, by decide, by decide +kernel, by decide⟩
theorem ml_L_67 : Cond.methodLink RL 67 yX10_deaf ∈ TB := tb_t (List.mem_of_getElem? (i := 1256) (by decide +kernel)) rfl
theorem cm_X9_book : CM_ mi_X9_book 2 := ⟨tb_t (List.mem_of_getElem? (i := 795) (by decide +kernel)) rfl, tb_t (List.mem_of_getElem? (i := 1) (by decide +kernel)) rfl, tb_t (List.mem_of_getElem? (i := 793) (by decide +kernel)) rfl, tb_t (List.mem_of_getElem? (i := 794) (by decide +kernel)) rfl, by decide, by decide, by decide +kernel, by decide⟩
theorem ml_L_68 : Cond.methodLink RL 68 yX9_book ∈ TB := tb_t (List.mem_of_getElem? (i := 792) (by decide +kernel)) rfl
theorem cm_X10_book : CM_ mi_X10_book 2 := ⟨tb_t (List.mem_of_getElem? (i := 1301) (by decide +kernel)) rfl, tb_t (List.mem_of_getElem? (i := 12) (by decide +kernel)) rfl, tb_t (List.mem_of_getElem? (i := 1299) (by decide +kernel)) rfl, tb_t (List.mem_of_getElem? (i := 1300) (by decide +kernel)) rfl, by decide, by decide, by decide +kernel, by decide⟩
theorem ml_L_71 : Cond.methodLink RL 71 yX10_book ∈ TB := tb_t (List.mem_of_getElem? (i := 1298) (by decide +kernel)) rfl
theorem cm_X9_tune : CM_ mi_X9_tune 2 := ⟨tb_t (List.mem_of_getElem? (i := 803) (by decide +kernel)) rfl, tb_t (List.mem_of_getElem? (i := 1) (by decide +kernel)) rfl, tb_t (List.mem_of_getElem? (i := 801) (by decide +kernel)) rfl, tb_t (List.mem_of_getElem? (i := 802) (by decide +kernel)) rfl, by decide, by decide, by decide +kernel, by decide⟩
theorem ml_L_72 : Cond.methodLink RL 72 yX9_tune ∈ TB := tb_t (List.mem_of_getElem? (i := 800) (by decide +kernel)) rfl
theorem cm_X10_tune : CM_ mi_X10_tune 2 := ⟨tb_t (List.mem_of_getElem? (i := 1305) (by decide +kernel)) rfl, tb_t (List.mem_of_getElem? (i := 12) (by decide +kernel)) rfl, tb_t (List.mem_of_getElem? (i := 1303) (by decide +kernel)) rfl, tb_t (List.mem_of_getElem? (i := 1304) (by decide +kernel)) rfl, by decide, by decide, by decide +kernel, by decide⟩
theorem ml_L_75 : Cond.methodLink RL 75 yX10_tune ∈ TB := tb_t (List.mem_of_getElem? (i := 1302) (by decide +kernel)) rfl
theorem cm_X9_same : CM_ mi_X9_same 2 := ⟨tb_t (List.mem_of_getElem? (i := 810) (by decide +kernel)) rfl, tb_t (List.mem_of_getElem? (i := 1) (by decide +kernel)) rfl, tb_t (List.mem_of_getElem? (i := 808) (by decide +kernel)) rfl, tb_t (List.mem_of_getElem? (i := 809) (by decide +kernel)) rfl, by decide, by decide, by decide +kernel, by decide⟩
theorem ml_L_76 : Cond.methodLink RL 76 yX9_same ∈ TB := tb_t (List.mem_of_getElem? (i := 807) (by decide +kernel)) rfl
theorem cm_X10_same : CM_ mi_X10_same 2 := ⟨tb_t (List.mem_of_getElem? (i := 1313) (by decide +kernel)) rfl, tb_t (List.mem_of_getElem? (i := 12) (by decide +kernel)) rfl, tb_t (List.mem_of_getElem? (i := 1311) (by decide +kernel)) rfl, tb_t (List.mem_of_getElem? (i := 1312) (by decide +kernel)) rfl, by decide, by decide, by decide +kernel, by decide⟩
theorem ml_L_79 : Cond.methodLink RL 79 yX10_same ∈ TB := tb_t (List.mem_of_getElem? (i := 1310) (by decide +kernel)) rfl
theorem cm_X9_pair : CM_ mi_X9_pair 2 := ⟨tb_t (List.mem_of_getElem? (i := 822) (by decide +kernel)) rfl, tb_t (List.mem_of_getElem? (i := 1) (by decide +kernel)) rfl, tb_t (List.mem_of_getElem? (i := 820) (by decide +kernel)) rfl, tb_t (List.mem_of_getElem? (i := 821) (by decide +kernel)) rfl, by decide, by decide, by decide +kernel, by decide⟩
theorem ml_L_80 : Cond.methodLink RL 80 yX9_pair ∈ TB := tb_t (List.mem_of_getElem? (i := 819) (by decide +kernel)) rfl
theorem cm_X10_pair : CM_ mi_X10_pair 2 := ⟨tb_t (List.mem_of_getElem? (i := 1321) (by decide +kernel)) rfl, tb_t (List.mem_of_getElem? (i := 12) (by decide +kernel)) rfl, tb_t (List.mem_of_getElem? (i := 1319) (by decide +kernel)) rfl, tb_t (List.mem_of_getElem? (i := 1320) (by decide +kernel)) rfl, by decide, by decide, by decide +kernel, by decide⟩
theorem ml_L_83 : Cond.methodLink RL 83 yX10_pair ∈ TB := tb_t (List.mem_of_getElem? (i := 1318) (by decide +kernel)) rfl
theorem cm_X9_turnOf : CM_ mi_X9_turnOf 1 := ⟨tb_t (List.mem_of_getElem? (i := 826) (by decide +kernel)) rfl, tb_t (List.mem_of_getElem? (i := 1) (by decide +kernel)) rfl, tb_t (List.mem_of_getElem? (i := 824) (by decide +kernel)) rfl, tb_t (List.mem_of_getElem? (i := 825) (by decide +kernel)) rfl, by decide, by decide, by decide +kernel, by decide⟩
theorem ml_L_84 : Cond.methodLink RL 84 yX9_turnOf ∈ TB := tb_t (List.mem_of_getElem? (i := 823) (by decide +kernel)) rfl
theorem cm_X10_turnOf : CM_ mi_X10_turnOf 1 := ⟨tb_t (List.mem_of_getElem? (i := 1325) (by decide +kernel)) rfl, tb_t (List.mem_of_getElem? (i := 12) (by decide +kernel)) rfl, tb_t (List.mem_of_getElem? (i := 1323) (by decide +kernel)) rfl, tb_t (List.mem_of_getElem? (i := 1324) (by decide +kernel)) rfl, by decide, by decide, by decide +kernel, by decide⟩
theorem ml_L_87 : Cond.methodLink RL 87 yX10_turnOf ∈ TB := tb_t (List.mem_of_getElem? (i := 1322) (by decide +kernel)) rfl
theorem cm_X9_tell : CM_ mi_X9_tell 1 := ⟨tb_t (List.mem_of_getElem? (i := 851) (by decide +kernel)) rfl, tb_t (List.mem_of_getElem? (i := 1) (by decide +kernel)) rfl, tb_t (List.mem_of_getElem? (i := 849) (by decide +kernel)) rfl, tb_t (List.mem_of_getElem? (i := 850) (by decide +kernel)) rfl, by decide, by decide, by decide +kernel, by decide⟩
theorem ml_L_88 : Cond.methodLink RL 88 yX9_tell ∈ TB := tb_t (List.mem_of_getElem? (i := 848) (by decide +kernel)) rfl
theorem cm_X10_tell : CM_ mi_X10_tell 1 := ⟨tb_t (List.mem_of_getElem? (i := 1345) (by decide +kernel)) rfl, tb_t (List.mem_of_getElem? (i := 12) (by decide +kernel)) rfl, tb_t (List.mem_of_getElem? (i := 1343) (by decide +kernel)) rfl, tb_t (List.mem_of_getElem? (i := 1344) (by decide +kernel)) rfl, by decide, by decide, by decide +kernel, by decide⟩
theorem ml_L_91 : Cond.methodLink RL 91 yX10_tell ∈ TB := tb_t (List.mem_of_getElem? (i := 1342) (by decide +kernel)) rfl
theorem cm_X9_fit : CM_ mi_X9_fit 2 := ⟨tb_t (List.mem_of_getElem? (i := 855) (by decide +kernel)) rfl, tb_t (List.mem_of_getElem? (i := 1) (by decide +kernel)) rfl, tb_t (List.mem_of_getElem? (i := 853) (by decide +kernel)) rfl, tb_t (List.mem_of_getElem? (i := 854) (by decide +kernel)) rfl, by decide, by decide, by decide +kernel, by decide⟩
theorem ml_L_92 : Cond.methodLink RL 92 yX9_fit ∈ TB := tb_t (List.mem_of_getElem? (i := 852) (by decide +kernel)) rfl
theorem cm_X10_fit : CM_ mi_X10_fit 2 := ⟨tb_t (List.mem_of_getElem? (i := 1349) (by decide +kernel)) rfl, tb_t (List.mem_of_getElem? (i := 12) (by decide +kernel)) rfl, tb_t (List.mem_of_getElem? (i := 1347) (by decide +kernel)) rfl, tb_t (List.mem_of_getElem? (i := 1348) (by decide +kernel)) rfl, by decide, by decide, by decide +kernel, by decide⟩
theorem ml_L_95 : Cond.methodLink RL 95 yX10_fit ∈ TB := tb_t (List.mem_of_getElem? (i := 1346) (by decide +kernel)) rfl
theorem cm_X9_fewest : CM_ mi_X9_fewest 1 := ⟨tb_t (List.mem_of_getElem? (i := 877) (by decide +kernel)) rfl, tb_t (List.mem_of_getElem? (i := 1) (by decide +kernel)) rfl, tb_t (List.mem_of_getElem? (i := 875) (by decide +kernel)) rfl, tb_t (List.mem_of_getElem? (i := 876) (by decide +kernel)) rfl, by decide, by decide, by decide +kernel, by decide⟩
theorem ml_L_96 : Cond.methodLink RL 96 yX9_fewest ∈ TB := tb_t (List.mem_of_getElem? (i := 874) (by decide +kernel)) rfl
theorem cm_X10_fewest : CM_ mi_X10_fewest 1 := ⟨tb_t (List.mem_of_getElem? (i := 1373) (by decide +kernel)) rfl, tb_t (List.mem_of_getElem? (i := 12) (by decide +kernel)) rfl, tb_t (List.mem_of_getElem? (i := 1371) (by decide +kernel)) rfl, tb_t (List.mem_of_getElem? (i := 1372) (by decide +kernel)) rfl, by decide, by decide, by decide +kernel, by decide⟩
theorem ml_L_99 : Cond.methodLink RL 99 yX10_fewest ∈ TB := tb_t (List.mem_of_getElem? (i := 1370) (by decide +kernel)) rfl
theorem cm_X9_ruler : CM_ mi_X9_ruler 2 := ⟨tb_t (List.mem_of_getElem? (i := 895) (by decide +kernel)) rfl, tb_t (List.mem_of_getElem? (i := 1) (by decide +kernel)) rfl, tb_t (List.mem_of_getElem? (i := 893) (by decide +kernel)) rfl, tb_t (List.mem_of_getElem? (i := 894) (by decide +kernel)) rfl, by decide, by decide, by decide +kernel, by decide⟩
theorem ml_L_100 : Cond.methodLink RL 100 yX9_ruler ∈ TB := tb_t (List.mem_of_getElem? (i := 892) (by decide +kernel)) rfl
theorem cm_X10_ruler : CM_ mi_X10_ruler 2 := ⟨tb_t (List.mem_of_getElem? (i := 1385) (by decide +kernel)) rfl, tb_t (List.mem_of_getElem? (i := 12) (by decide +kernel)) rfl, tb_t (List.mem_of_getElem? (i := 1383) (by decide +kernel)) rfl, tb_t (List.mem_of_getElem? (i := 1384) (by decide +kernel)) rfl, by decide, by decide, by decide +kernel, by decide⟩
theorem ml_L_103 : Cond.methodLink RL 103 yX10_ruler ∈ TB := tb_t (List.mem_of_getElem? (i := 1382) (by decide +kernel)) rfl
theorem cm_X9_alone : CM_ mi_X9_alone 5 := ⟨tb_t (List.mem_of_getElem? (i := 901) (by decide +kernel)) rfl, tb_t (List.mem_of_getElem? (i := 1) (by decide +kernel)) rfl, tb_t (List.mem_of_getElem? (i := 899) (by decide +kernel)) rfl, tb_t (List.mem_of_getElem? (i := 900) (by decide +kernel)) rfl, by decide, by decide, by decide +kernel, by decide⟩
theorem ml_L_104 : Cond.methodLink RL 104 yX9_alone ∈ TB := tb_t (List.mem_of_getElem? (i := 898) (by decide +kernel)) rfl
theorem cm_X10_alone : CM_ mi_X10_alone 5 := ⟨tb_t (List.mem_of_getElem? (i := 1397) (by decide +kernel)) rfl, tb_t (List.mem_of_getElem? (i := 12) (by decide +kernel)) rfl, tb_t (List.mem_of_getElem? (i := 1395) (by decide +kernel)) rfl, tb_t (List.mem_of_getElem? (i := 1396) (by decide +kernel)) rfl, by decide, by decide, by decide +kernel, by decide⟩
theorem ml_L_107 : Cond.methodLink RL 107 yX10_alone ∈ TB := tb_t (List.mem_of_getElem? (i := 1394) (by decide +kernel)) rfl
theorem cm_X9_safe : CM_ mi_X9_safe 1 := ⟨tb_t (List.mem_of_getElem? (i := 910) (by decide +kernel)) rfl, tb_t (List.mem_of_getElem? (i := 1) (by decide +kernel)) rfl, tb_t (List.mem_of_getElem? (i := 908) (by decide +kernel)) rfl, tb_t (List.mem_of_getElem? (i := 909) (by decide +kernel)) rfl, by decide, by decide, by decide +kernel, by decide⟩
theorem ml_L_108 : Cond.methodLink RL 108 yX9_safe ∈ TB := tb_t (List.mem_of_getElem? (i := 907) (by decide +kernel)) rfl
theorem cm_X10_safe : CM_ mi_X10_safe 1 := ⟨tb_t (List.mem_of_getElem? (i := 1405) (by decide +kernel)) rfl, tb_t (List.mem_of_getElem? (i := 12) (by decide +kernel)) rfl, tb_t (List.mem_of_getElem? (i := 1403) (by decide +kernel)) rfl, tb_t (List.mem_of_getElem? (i := 1404) (by decide +kernel)) rfl, by decide, by decide, by decide +kernel, by decide⟩
theorem ml_L_111 : Cond.methodLink RL 111 yX10_safe ∈ TB := tb_t (List.mem_of_getElem? (i := 1402) (by decide +kernel)) rfl
theorem cm_X9_undo : CM_ mi_X9_undo 0 := ⟨tb_t (List.mem_of_getElem? (i := 924) (by decide +kernel)) rfl, tb_t (List.mem_of_getElem? (i := 1) (by decide +kernel)) rfl, tb_t (List.mem_of_getElem? (i := 922) (by decide +kernel)) rfl, tb_t (List.mem_of_getElem? (i := 923) (by decide +kernel)) rfl, by decide, by decide, by decide +kernel, by decide⟩
theorem ml_L_112 : Cond.methodLink RL 112 yX9_undo ∈ TB := tb_t (List.mem_of_getElem? (i := 921) (by decide +kernel)) rfl
theorem cm_X10_undo : CM_ mi_X10_undo 0 := ⟨tb_t (List.mem_of_getElem? (i := 1103) (by decide +kernel)) rfl, tb_t (List.mem_of_getElem? (i := 12) (by decide +kernel)) rfl, tb_t (List.mem_of_getElem? (i := 1101) (by decide +kernel)) rfl, tb_t (List.mem_of_getElem? (i := 1102) (by decide +kernel)) rfl, by decide, by decide, by decide +kernel, by decide⟩
theorem ml_L_116 : Cond.methodLink RL 116 yX10_undo ∈ TB := tb_t (List.mem_of_getElem? (i := 1100) (by decide +kernel)) rfl
theorem cm_X9_look : CM_ mi_X9_look 1 := ⟨tb_t (List.mem_of_getElem? (i := 947) (by decide +kernel)) rfl, tb_t (List.mem_of_getElem? (i := 1) (by decide +kernel)) rfl, tb_t (List.mem_of_getElem? (i := 945) (by decide +kernel)) rfl, tb_t (List.mem_of_getElem? (i := 946) (by decide +kernel)) rfl, by decide, by decide, by decide +kernel, by decide⟩
theorem ml_L_122 : Cond.methodLink RL 122 yX9_look ∈ TB := tb_t (List.mem_of_getElem? (i := 944) (by decide +kernel)) rfl
theorem cm_X10_look : CM_ mi_X10_look 1 := ⟨tb_t (List.mem_of_getElem? (i := 1429) (by decide +kernel)) rfl, tb_t (List.mem_of_getElem? (i := 12) (by decide +kernel)) rfl, tb_t (List.mem_of_getElem? (i := 1427) (by decide +kernel)) rfl, tb_t (List.mem_of_getElem? (i := 1428) (by decide +kernel)) rfl, by decide, by decide, by decide +kernel, by decide⟩
theorem ml_L_125 : Cond.methodLink RL 125 yX10_look ∈ TB := tb_t (List.mem_of_getElem? (i := 1426) (by decide +kernel)) rfl
theorem cm_X9_image : CM_ mi_X9_image 1 := ⟨tb_t (List.mem_of_getElem? (i := 932) (by decide +kernel)) rfl, tb_t (List.mem_of_getElem? (i := 1) (by decide +kernel)) rfl, tb_t (List.mem_of_getElem? (i := 930) (by decide +kernel)) rfl, tb_t (List.mem_of_getElem? (i := 931) (by decide +kernel)) rfl, by decide, by decide, by decide +kernel, by decide⟩
theorem ml_L_117 : Cond.methodLink RL 117 yX9_image ∈ TB := tb_t (List.mem_of_getElem? (i := 929) (by decide +kernel)) rfl
theorem cm_X10_image : CM_ mi_X10_image 1 := ⟨tb_t (List.mem_of_getElem? (i := 1413) (by decide +kernel)) rfl, tb_t (List.mem_of_getElem? (i := 12) (by decide +kernel)) rfl, tb_t (List.mem_of_getElem? (i := 1411) (by decide +kernel)) rfl, tb_t (List.mem_of_getElem? (i := 1412) (by decide +kernel)) rfl, by decide, by decide, by decide +kernel, by decide⟩
theorem ml_L_121 : Cond.methodLink RL 121 yX10_image ∈ TB := tb_t (List.mem_of_getElem? (i := 1410) (by decide +kernel)) rfl
