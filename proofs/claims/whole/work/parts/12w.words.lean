theorem m_0 : (0, 0) ∈ lvC := by decide +kernel
theorem m_1 : (1, 0) ∈ lvC := by decide +kernel
theorem m_2 : (2, 0) ∈ lvC := by decide +kernel
theorem m_3 : (3, 0) ∈ lvC := by decide +kernel
theorem m_4 : (4, 0) ∈ lvC := by decide +kernel
theorem m_5 : (5, 0) ∈ lvC := by decide +kernel
theorem m_6 : (6, 0) ∈ lvC := by decide +kernel
theorem m_7 : (7, 0) ∈ lvC := by decide +kernel
theorem m_8 : (8, 0) ∈ lvC := by decide +kernel
theorem m_9 : (9, 0) ∈ lvC := by decide +kernel
theorem m_10 : (10, 0) ∈ lvC := by decide +kernel
theorem m_11 : (11, 0) ∈ lvC := by decide +kernel
theorem m_12 : (12, 0) ∈ lvC := by decide +kernel
theorem m_13 : (13, 0) ∈ lvC := by decide +kernel
theorem m_14 : (14, 0) ∈ lvC := by decide +kernel
theorem m_15 : (15, 0) ∈ lvC := by decide +kernel
theorem m_16 : (16, 0) ∈ lvC := by decide +kernel
theorem m_17 : (17, 0) ∈ lvC := by decide +kernel
theorem m_30 : (30, 0) ∈ lvM := by decide +kernel
theorem m_31 : (31, 0) ∈ lvM := by decide +kernel
theorem m_32 : (32, 0) ∈ lvM := by decide +kernel
theorem m_33 : (33, 0) ∈ lvM := by decide +kernel
theorem m_34 : (34, 0) ∈ lvM := by decide +kernel
theorem m_35 : (35, 0) ∈ lvM := by decide +kernel
theorem m_36 : (36, 0) ∈ lvM := by decide +kernel
theorem m_37 : (37, 0) ∈ lvM := by decide +kernel
theorem m_38 : (38, 0) ∈ lvM := by decide +kernel
theorem m_39 : (39, 0) ∈ lvM := by decide +kernel
theorem m_40 : (40, 0) ∈ lvM := by decide +kernel
theorem m_41 : (41, 0) ∈ lvM := by decide +kernel
theorem m_42 : (42, 0) ∈ lvM := by decide +kernel
theorem fp_RX1_18 : FP RX1 18 3 2 .int := ⟨RX1, TX1, 4, tyX1, rfl, inX1, tyX1_ok, nmX1, by decide, rfl, by decide +kernel, Or.inl (List.mem_of_getElem? (i := 187) (by decide +kernel))⟩
theorem fp_RX1_22 : FP RX1 22 3 3 .int := ⟨RX1, TX1, 4, tyX1, rfl, inX1, tyX1_ok, nmX1, by decide, rfl, by decide +kernel, Or.inl (List.mem_of_getElem? (i := 191) (by decide +kernel))⟩
theorem fl_RX1_18 : FL RX1 18 3 2 := ⟨RX1, TX1, 4, rfl, inX1, by decide, Or.inl (List.mem_of_getElem? (i := 187) (by decide +kernel))⟩
theorem fl_RX1_9 : FL RX1 9 3 0 := ⟨RX1, TX1, 4, rfl, inX1, by decide, Or.inl (List.mem_of_getElem? (i := 178) (by decide +kernel))⟩
theorem fl_RX1_22 : FL RX1 22 3 3 := ⟨RX1, TX1, 4, rfl, inX1, by decide, Or.inl (List.mem_of_getElem? (i := 191) (by decide +kernel))⟩
theorem th_RX1_25 : TH RX1 25 27 1 := ⟨by decide +kernel, (List.mem_of_getElem? (i := 591) (by decide +kernel)), (List.mem_of_getElem? (i := 75) (by decide +kernel)), by decide +kernel⟩
theorem lk_RX1_28 : Cond.methodLink RX1 28 yX1_addAxis ∈ lw_tbl := (List.mem_of_getElem? (i := 587) (by decide +kernel))
theorem tb_X1_addAxis : TbV yX1_addAxis cX1_addAxis 2 none 1 := ⟨(List.mem_of_getElem? (i := 588) (by decide +kernel)), (List.mem_of_getElem? (i := 589) (by decide +kernel)), (List.mem_of_getElem? (i := 590) (by decide +kernel)), (List.mem_of_getElem? (i := 59) (by decide +kernel)), by decide +kernel, by decide +kernel⟩
theorem th_RX3_12 : TH RX3 12 14 2 := ⟨by decide +kernel, (List.mem_of_getElem? (i := 622) (by decide +kernel)), (List.mem_of_getElem? (i := 65) (by decide +kernel)), by decide +kernel⟩
theorem th_RX3_9 : TH RX3 9 11 1 := TH.of th_RX1_25 (List.mem_of_getElem? (i := 633) (by decide +kernel)) (List.mem_of_getElem? (i := 634) (by decide +kernel))
theorem lk_RX3_21 : Cond.methodLink RX3 21 yX3_needDivides ∈ lw_tbl := (List.mem_of_getElem? (i := 635) (by decide +kernel))
theorem tb_X3_needDivides : TbS yX3_needDivides cX3_needDivides 2 none 2 := ⟨(List.mem_of_getElem? (i := 636) (by decide +kernel)), (List.mem_of_getElem? (i := 637) (by decide +kernel)), (List.mem_of_getElem? (i := 74) (by decide +kernel)), by decide +kernel, by decide +kernel⟩
theorem lk_RX3_15 : Cond.methodLink RX3 15 yX3_fit ∈ lw_tbl := (List.mem_of_getElem? (i := 630) (by decide +kernel))
theorem tb_X3_fit : TbS yX3_fit cX3_fit 2 (some .int) 1 := ⟨(List.mem_of_getElem? (i := 631) (by decide +kernel)), (List.mem_of_getElem? (i := 632) (by decide +kernel)), (List.mem_of_getElem? (i := 74) (by decide +kernel)), by decide +kernel, by decide +kernel⟩
theorem lk_RX3_31 : Cond.methodLink RX3 31 Lib.Math.min.name ∈ lw_tbl := (List.mem_of_getElem? (i := 641) (by decide +kernel))
theorem lk_RX3_25 : Cond.methodLink RX3 25 yJ9_floorMod_7cf53 ∈ lw_tbl := (List.mem_of_getElem? (i := 638) (by decide +kernel))
theorem tb_J9_floorMod_7cf53 : TbS yJ9_floorMod_7cf53 cJ9_floorMod_7cf53 3 (some .int) 2 := ⟨(List.mem_of_getElem? (i := 639) (by decide +kernel)), (List.mem_of_getElem? (i := 640) (by decide +kernel)), (List.mem_of_getElem? (i := 70) (by decide +kernel)), by decide +kernel, by decide +kernel⟩
theorem lk_RX3_34 : Cond.methodLink RX3 34 Lib.Math.max.name ∈ lw_tbl := (List.mem_of_getElem? (i := 642) (by decide +kernel))
theorem lk_RX3_41 : Cond.methodLink RX3 41 yX3_work ∈ lw_tbl := (List.mem_of_getElem? (i := 627) (by decide +kernel))
theorem tb_X3_work : TbS yX3_work cX3_work 3 (some .int) 3 := ⟨(List.mem_of_getElem? (i := 628) (by decide +kernel)), (List.mem_of_getElem? (i := 629) (by decide +kernel)), (List.mem_of_getElem? (i := 74) (by decide +kernel)), by decide +kernel, by decide +kernel⟩
theorem lk_RX3_37 : Cond.methodLink RX3 37 yX3_ofNothing ∈ lw_tbl := (List.mem_of_getElem? (i := 619) (by decide +kernel))
theorem tb_X3_ofNothing : TbS yX3_ofNothing cX3_ofNothing 1 (some .int) 1 := ⟨(List.mem_of_getElem? (i := 620) (by decide +kernel)), (List.mem_of_getElem? (i := 621) (by decide +kernel)), (List.mem_of_getElem? (i := 74) (by decide +kernel)), by decide +kernel, by decide +kernel⟩
theorem lk_RX3_87 : Cond.methodLink RX3 87 yX1_rowLength ∈ lw_tbl := (List.mem_of_getElem? (i := 579) (by decide +kernel))
theorem tb_X1_rowLength : TbV yX1_rowLength cX1_rowLength 1 (some .int) 0 := ⟨(List.mem_of_getElem? (i := 580) (by decide +kernel)), (List.mem_of_getElem? (i := 581) (by decide +kernel)), (List.mem_of_getElem? (i := 582) (by decide +kernel)), (List.mem_of_getElem? (i := 59) (by decide +kernel)), by decide +kernel, by decide +kernel⟩
theorem fl_RX3_75 : FL RX3 75 3 2 := ⟨RX1, TX1, 4, rfl, inX1, by decide, Or.inr ⟨"RankCalc", (List.mem_of_getElem? (i := 190) (by decide +kernel))⟩⟩
theorem lk_RX3_91 : Cond.methodLink RX3 91 yX1_addAxesOf ∈ lw_tbl := (List.mem_of_getElem? (i := 583) (by decide +kernel))
theorem tb_X1_addAxesOf : TbV yX1_addAxesOf cX1_addAxesOf 5 none 3 := ⟨(List.mem_of_getElem? (i := 584) (by decide +kernel)), (List.mem_of_getElem? (i := 585) (by decide +kernel)), (List.mem_of_getElem? (i := 586) (by decide +kernel)), (List.mem_of_getElem? (i := 59) (by decide +kernel)), by decide +kernel, by decide +kernel⟩
theorem lk_RX3_95 : Cond.methodLink RX3 95 yX1_endAxes ∈ lw_tbl := (List.mem_of_getElem? (i := 612) (by decide +kernel))
theorem tb_X1_endAxes : TbV yX1_endAxes cX1_endAxes 1 none 0 := ⟨(List.mem_of_getElem? (i := 613) (by decide +kernel)), (List.mem_of_getElem? (i := 614) (by decide +kernel)), (List.mem_of_getElem? (i := 615) (by decide +kernel)), (List.mem_of_getElem? (i := 59) (by decide +kernel)), by decide +kernel, by decide +kernel⟩
theorem fl_RX3_51 : FL RX3 51 3 3 := ⟨RX1, TX1, 4, rfl, inX1, by decide, Or.inr ⟨"RankCalc", (List.mem_of_getElem? (i := 194) (by decide +kernel))⟩⟩
theorem fl_RX3_55 : FL RX3 55 3 1 := ⟨RX1, TX1, 4, rfl, inX1, by decide, Or.inr ⟨"RankCalc", (List.mem_of_getElem? (i := 185) (by decide +kernel))⟩⟩
theorem lk_RX3_98 : Cond.methodLink RX3 98 yX3_fold ∈ lw_tbl := (List.mem_of_getElem? (i := 616) (by decide +kernel))
theorem tb_X3_fold : TbS yX3_fold cX3_fold 6 (some .int) 4 := ⟨(List.mem_of_getElem? (i := 617) (by decide +kernel)), (List.mem_of_getElem? (i := 618) (by decide +kernel)), (List.mem_of_getElem? (i := 74) (by decide +kernel)), by decide +kernel, by decide +kernel⟩
theorem lk_RX1_32 : Cond.methodLink RX1 32 yX1_restart ∈ lw_tbl := (List.mem_of_getElem? (i := 650) (by decide +kernel))
theorem tb_X1_restart : TbV yX1_restart cX1_restart 1 none 0 := ⟨(List.mem_of_getElem? (i := 573) (by decide +kernel)), (List.mem_of_getElem? (i := 574) (by decide +kernel)), (List.mem_of_getElem? (i := 575) (by decide +kernel)), (List.mem_of_getElem? (i := 59) (by decide +kernel)), by decide +kernel, by decide +kernel⟩
theorem lk_RX1_35 : Cond.methodLink RX1 35 yX1_addAxesOf ∈ lw_tbl := (List.mem_of_getElem? (i := 651) (by decide +kernel))
theorem lk_RX3_45 : Cond.methodLink RX3 45 yX1_shapeLike ∈ lw_tbl := (List.mem_of_getElem? (i := 646) (by decide +kernel))
theorem tb_X1_shapeLike : TbV yX1_shapeLike cX1_shapeLike 2 none 1 := ⟨(List.mem_of_getElem? (i := 647) (by decide +kernel)), (List.mem_of_getElem? (i := 648) (by decide +kernel)), (List.mem_of_getElem? (i := 649) (by decide +kernel)), (List.mem_of_getElem? (i := 59) (by decide +kernel)), by decide +kernel, by decide +kernel⟩
theorem sl_RJ0_38 : Cond.fieldLink RJ0 38 "java/lang/String" "COMPACT_STRINGS" "Z" ∈ lw_tbl := (List.mem_of_getElem? (i := 475) (by decide +kernel))
theorem sl_RJ0_15 : Cond.fieldLink RJ0 15 "java/lang/String" "coder" "B" ∈ lw_tbl := (List.mem_of_getElem? (i := 1118) (by decide +kernel))
theorem sl_RJ0_9 : Cond.fieldLink RJ0 9 "java/lang/String" "value" "[B" ∈ lw_tbl := (List.mem_of_getElem? (i := 1119) (by decide +kernel))
theorem lk_RJ0_335 : Cond.methodLink RJ0 335 yJ0_coder_7d493 ∈ lw_tbl := (List.mem_of_getElem? (i := 481) (by decide +kernel))
theorem tb_J0_coder_7d493 : TbV yJ0_coder_7d493 cJ0_coder_7d493 1 (some .byte) 0 := ⟨(List.mem_of_getElem? (i := 482) (by decide +kernel)), (List.mem_of_getElem? (i := 483) (by decide +kernel)), (List.mem_of_getElem? (i := 484) (by decide +kernel)), (List.mem_of_getElem? (i := 66) (by decide +kernel)), by decide +kernel, by decide +kernel⟩
theorem lk_RJ1_88 : Cond.methodLink RJ1 88 yJ1_canEncode_9a6ad ∈ lw_tbl := (List.mem_of_getElem? (i := 488) (by decide +kernel))
theorem tb_J1_canEncode_9a6ad : TbS yJ1_canEncode_9a6ad cJ1_canEncode_9a6ad 1 (some .boolean) 1 := ⟨(List.mem_of_getElem? (i := 489) (by decide +kernel)), (List.mem_of_getElem? (i := 490) (by decide +kernel)), (List.mem_of_getElem? (i := 69) (by decide +kernel)), by decide +kernel, by decide +kernel⟩
theorem lk_RJ1_92 : Cond.methodLink RJ1 92 Lib.Math.max.name ∈ lw_tbl := (List.mem_of_getElem? (i := 491) (by decide +kernel))
theorem lk_RJ1_38 : Cond.methodLink RJ1 38 Lib.Math.min.name ∈ lw_tbl := (List.mem_of_getElem? (i := 494) (by decide +kernel))
theorem lk_RJ1_95 : Cond.methodLink RJ1 95 yJ1_indexOfChar_4cfef ∈ lw_tbl := (List.mem_of_getElem? (i := 497) (by decide +kernel))
theorem tb_J1_indexOfChar_4cfef : TbS yJ1_indexOfChar_4cfef cJ1_indexOfChar_4cfef 6 (some .int) 4 := ⟨(List.mem_of_getElem? (i := 498) (by decide +kernel)), (List.mem_of_getElem? (i := 499) (by decide +kernel)), (List.mem_of_getElem? (i := 69) (by decide +kernel)), by decide +kernel, by decide +kernel⟩
theorem lk_RJ0_492 : Cond.methodLink RJ0 492 yJ0_isLatin1_aae02 ∈ lw_tbl := (List.mem_of_getElem? (i := 471) (by decide +kernel))
theorem tb_J0_isLatin1_aae02 : TbV yJ0_isLatin1_aae02 cJ0_isLatin1_aae02 1 (some .boolean) 0 := ⟨(List.mem_of_getElem? (i := 472) (by decide +kernel)), (List.mem_of_getElem? (i := 473) (by decide +kernel)), (List.mem_of_getElem? (i := 474) (by decide +kernel)), (List.mem_of_getElem? (i := 66) (by decide +kernel)), by decide +kernel, by decide +kernel⟩
theorem lk_RJ0_505 : Cond.methodLink RJ0 505 yJ0_length_8abf5 ∈ lw_tbl := (List.mem_of_getElem? (i := 477) (by decide +kernel))
theorem tb_J0_length_8abf5 : TbV yJ0_length_8abf5 cJ0_length_8abf5 1 (some .int) 0 := ⟨(List.mem_of_getElem? (i := 478) (by decide +kernel)), (List.mem_of_getElem? (i := 479) (by decide +kernel)), (List.mem_of_getElem? (i := 480) (by decide +kernel)), (List.mem_of_getElem? (i := 66) (by decide +kernel)), by decide +kernel, by decide +kernel⟩
theorem lk_RJ0_637 : Cond.methodLink RJ0 637 yJ1_indexOf_4cfef ∈ lw_tbl := (List.mem_of_getElem? (i := 485) (by decide +kernel))
theorem tb_J1_indexOf_4cfef : TbS yJ1_indexOf_4cfef cJ1_indexOf_4cfef 4 (some .int) 4 := ⟨(List.mem_of_getElem? (i := 486) (by decide +kernel)), (List.mem_of_getElem? (i := 487) (by decide +kernel)), (List.mem_of_getElem? (i := 69) (by decide +kernel)), by decide +kernel, by decide +kernel⟩
theorem lk_RJ0_633 : Cond.methodLink RJ0 633 yJ0_indexOf_7cf53 ∈ lw_tbl := (List.mem_of_getElem? (i := 467) (by decide +kernel))
theorem tb_J0_indexOf_7cf53 : TbV yJ0_indexOf_7cf53 cJ0_indexOf_7cf53 3 (some .int) 2 := ⟨(List.mem_of_getElem? (i := 468) (by decide +kernel)), (List.mem_of_getElem? (i := 469) (by decide +kernel)), (List.mem_of_getElem? (i := 470) (by decide +kernel)), (List.mem_of_getElem? (i := 66) (by decide +kernel)), by decide +kernel, by decide +kernel⟩
theorem fl_RX4_54 : FL RX4 54 3 2 := ⟨RX1, TX1, 4, rfl, inX1, by decide, Or.inr ⟨"RankCalc", (List.mem_of_getElem? (i := 188) (by decide +kernel))⟩⟩
theorem fl_RX4_18 : FL RX4 18 3 3 := ⟨RX1, TX1, 4, rfl, inX1, by decide, Or.inr ⟨"RankCalc", (List.mem_of_getElem? (i := 192) (by decide +kernel))⟩⟩
theorem fl_RX4_28 : FL RX4 28 3 1 := ⟨RX1, TX1, 4, rfl, inX1, by decide, Or.inr ⟨"RankCalc", (List.mem_of_getElem? (i := 183) (by decide +kernel))⟩⟩
theorem lk_RX4_24 : Cond.methodLink RX4 24 yX1_addAxis ∈ lw_tbl := (List.mem_of_getElem? (i := 692) (by decide +kernel))
theorem th_RX4_63 : TH RX4 63 65 2 := TH.of th_RX3_12 (List.mem_of_getElem? (i := 690) (by decide +kernel)) (List.mem_of_getElem? (i := 691) (by decide +kernel))
theorem th_RX4_60 : TH RX4 60 62 3 := ⟨by decide +kernel, (List.mem_of_getElem? (i := 675) (by decide +kernel)), (List.mem_of_getElem? (i := 78) (by decide +kernel)), by decide +kernel⟩
theorem th_RX4_57 : TH RX4 57 59 4 := ⟨by decide +kernel, (List.mem_of_getElem? (i := 660) (by decide +kernel)), (List.mem_of_getElem? (i := 77) (by decide +kernel)), by decide +kernel⟩
theorem fl_RX4_66 : FL RX4 66 3 0 := ⟨RX1, TX1, 4, rfl, inX1, by decide, Or.inr ⟨"RankCalc", (List.mem_of_getElem? (i := 179) (by decide +kernel))⟩⟩
theorem lk_RX4_32 : Cond.methodLink RX4 32 arraycopyName ∈ lw_tbl := (List.mem_of_getElem? (i := 696) (by decide +kernel))
theorem lk_RX4_69 : Cond.methodLink RX4 69 yX1_rowLength ∈ lw_tbl := (List.mem_of_getElem? (i := 702) (by decide +kernel))
theorem lk_RX4_73 : Cond.methodLink RX4 73 yX1_shapeLike ∈ lw_tbl := (List.mem_of_getElem? (i := 706) (by decide +kernel))
theorem lk_RX4_9 : Cond.methodLink RX4 9 yX4_upTo ∈ lw_tbl := (List.mem_of_getElem? (i := 657) (by decide +kernel))
theorem tb_X4_upTo : TbS yX4_upTo cX4_upTo 3 none 2 := ⟨(List.mem_of_getElem? (i := 658) (by decide +kernel)), (List.mem_of_getElem? (i := 659) (by decide +kernel)), (List.mem_of_getElem? (i := 76) (by decide +kernel)), by decide +kernel, by decide +kernel⟩
theorem lk_RX4_15 : Cond.methodLink RX4 15 yX4_lengthsOf ∈ lw_tbl := (List.mem_of_getElem? (i := 693) (by decide +kernel))
theorem tb_X4_lengthsOf : TbS yX4_lengthsOf cX4_lengthsOf 2 none 2 := ⟨(List.mem_of_getElem? (i := 694) (by decide +kernel)), (List.mem_of_getElem? (i := 695) (by decide +kernel)), (List.mem_of_getElem? (i := 76) (by decide +kernel)), by decide +kernel, by decide +kernel⟩
theorem lk_RX4_38 : Cond.methodLink RX4 38 yX4_turnAxes ∈ lw_tbl := (List.mem_of_getElem? (i := 699) (by decide +kernel))
theorem tb_X4_turnAxes : TbS yX4_turnAxes cX4_turnAxes 9 none 2 := ⟨(List.mem_of_getElem? (i := 700) (by decide +kernel)), (List.mem_of_getElem? (i := 701) (by decide +kernel)), (List.mem_of_getElem? (i := 76) (by decide +kernel)), by decide +kernel, by decide +kernel⟩
theorem lk_RX4_41 : Cond.methodLink RX4 41 yX4_turnRows ∈ lw_tbl := (List.mem_of_getElem? (i := 703) (by decide +kernel))
theorem tb_X4_turnRows : TbS yX4_turnRows cX4_turnRows 5 none 2 := ⟨(List.mem_of_getElem? (i := 704) (by decide +kernel)), (List.mem_of_getElem? (i := 705) (by decide +kernel)), (List.mem_of_getElem? (i := 76) (by decide +kernel)), by decide +kernel, by decide +kernel⟩
theorem lk_RX3_59 : Cond.methodLink RX3 59 yX3_workAlone ∈ lw_tbl := (List.mem_of_getElem? (i := 710) (by decide +kernel))
theorem tb_X3_workAlone : TbS yX3_workAlone cX3_workAlone 2 (some .int) 2 := ⟨(List.mem_of_getElem? (i := 711) (by decide +kernel)), (List.mem_of_getElem? (i := 712) (by decide +kernel)), (List.mem_of_getElem? (i := 74) (by decide +kernel)), by decide +kernel, by decide +kernel⟩
theorem fl_RX0_13 : FL RX0 13 2 0 := ⟨RX0, TX0, 7, rfl, inX0, by decide, Or.inl (List.mem_of_getElem? (i := 222) (by decide +kernel))⟩
theorem fl_RX0_29 : FL RX0 29 2 4 := ⟨RX0, TX0, 7, rfl, inX0, by decide, Or.inl (List.mem_of_getElem? (i := 226) (by decide +kernel))⟩
theorem fl_RX0_25 : FL RX0 25 2 3 := ⟨RX0, TX0, 7, rfl, inX0, by decide, Or.inl (List.mem_of_getElem? (i := 225) (by decide +kernel))⟩
theorem fp_RX0_25 : FP RX0 25 2 3 (.object "RankCalc$Grid") := ⟨RX0, TX0, 7, tyX0, rfl, inX0, tyX0_ok, nmX0, by decide, rfl, by decide +kernel, Or.inl (List.mem_of_getElem? (i := 225) (by decide +kernel))⟩
theorem fl_RX0_36 : FL RX0 36 2 6 := ⟨RX0, TX0, 7, rfl, inX0, by decide, Or.inl (List.mem_of_getElem? (i := 228) (by decide +kernel))⟩
theorem fp_RX0_36 : FP RX0 36 2 6 .int := ⟨RX0, TX0, 7, tyX0, rfl, inX0, tyX0_ok, nmX0, by decide, rfl, by decide +kernel, Or.inl (List.mem_of_getElem? (i := 228) (by decide +kernel))⟩
theorem fl_RX0_96 : FL RX0 96 5 4 := ⟨RX5, TX5, 14, rfl, inX5, by decide, Or.inr ⟨"RankCalc", (List.mem_of_getElem? (i := 120) (by decide +kernel))⟩⟩
theorem fl_RX0_100 : FL RX0 100 5 5 := ⟨RX5, TX5, 14, rfl, inX5, by decide, Or.inr ⟨"RankCalc", (List.mem_of_getElem? (i := 122) (by decide +kernel))⟩⟩
theorem lk_RX0_77 : Cond.methodLink RX0 77 yX1_restart ∈ lw_tbl := (List.mem_of_getElem? (i := 572) (by decide +kernel))
theorem lk_RX0_128 : Cond.methodLink RX0 128 yX0_putSpare ∈ lw_tbl := (List.mem_of_getElem? (i := 713) (by decide +kernel))
theorem tb_X0_putSpare : TbV yX0_putSpare cX0_putSpare 2 none 0 := ⟨(List.mem_of_getElem? (i := 715) (by decide +kernel)), (List.mem_of_getElem? (i := 12) (by decide +kernel)), (List.mem_of_getElem? (i := 716) (by decide +kernel)), (List.mem_of_getElem? (i := 60) (by decide +kernel)), by decide +kernel, by decide +kernel⟩
theorem lk_RX0_114 : Cond.methodLink RX0 114 yJ0_indexOf_0f7a4 ∈ lw_tbl := (List.mem_of_getElem? (i := 653) (by decide +kernel))
theorem tb_J0_indexOf_0f7a4 : TbV yJ0_indexOf_0f7a4 cJ0_indexOf_0f7a4 2 (some .int) 1 := ⟨(List.mem_of_getElem? (i := 464) (by decide +kernel)), (List.mem_of_getElem? (i := 465) (by decide +kernel)), (List.mem_of_getElem? (i := 466) (by decide +kernel)), (List.mem_of_getElem? (i := 66) (by decide +kernel)), by decide +kernel, by decide +kernel⟩
theorem lk_RX0_125 : Cond.methodLink RX0 125 yX3_eachOfOne ∈ lw_tbl := (List.mem_of_getElem? (i := 707) (by decide +kernel))
theorem tb_X3_eachOfOne : TbS yX3_eachOfOne cX3_eachOfOne 4 none 3 := ⟨(List.mem_of_getElem? (i := 708) (by decide +kernel)), (List.mem_of_getElem? (i := 709) (by decide +kernel)), (List.mem_of_getElem? (i := 74) (by decide +kernel)), by decide +kernel, by decide +kernel⟩
theorem lk_RX0_120 : Cond.methodLink RX0 120 yX4_ofOne ∈ lw_tbl := (List.mem_of_getElem? (i := 654) (by decide +kernel))
theorem tb_X4_ofOne : TbS yX4_ofOne cX4_ofOne 3 none 3 := ⟨(List.mem_of_getElem? (i := 655) (by decide +kernel)), (List.mem_of_getElem? (i := 656) (by decide +kernel)), (List.mem_of_getElem? (i := 76) (by decide +kernel)), by decide +kernel, by decide +kernel⟩
theorem lk_RX0_109 : Cond.methodLink RX0 109 yX3_scan ∈ lw_tbl := (List.mem_of_getElem? (i := 643) (by decide +kernel))
theorem tb_X3_scan : TbS yX3_scan cX3_scan 6 none 3 := ⟨(List.mem_of_getElem? (i := 644) (by decide +kernel)), (List.mem_of_getElem? (i := 645) (by decide +kernel)), (List.mem_of_getElem? (i := 74) (by decide +kernel)), by decide +kernel, by decide +kernel⟩
theorem lk_RX0_103 : Cond.methodLink RX0 103 yX3_reduce ∈ lw_tbl := (List.mem_of_getElem? (i := 576) (by decide +kernel))
theorem tb_X3_reduce : TbS yX3_reduce cX3_reduce 5 none 3 := ⟨(List.mem_of_getElem? (i := 577) (by decide +kernel)), (List.mem_of_getElem? (i := 578) (by decide +kernel)), (List.mem_of_getElem? (i := 74) (by decide +kernel)), by decide +kernel, by decide +kernel⟩
theorem fl_RX2_17 : FL RX2 17 4 1 := ⟨RX2, TX2, 2, rfl, inX2, by decide, Or.inl (List.mem_of_getElem? (i := 207) (by decide +kernel))⟩
theorem lk_RX2_26 : Cond.methodLink RX2 26 yX2_has ∈ lw_tbl := (List.mem_of_getElem? (i := 725) (by decide +kernel))
theorem tb_X2_has : TbV yX2_has cX2_has 2 (some .boolean) 1 := ⟨(List.mem_of_getElem? (i := 301) (by decide +kernel)), (List.mem_of_getElem? (i := 302) (by decide +kernel)), (List.mem_of_getElem? (i := 303) (by decide +kernel)), (List.mem_of_getElem? (i := 58) (by decide +kernel)), by decide +kernel, by decide +kernel⟩
theorem fl_RX2_11 : FL RX2 11 4 0 := ⟨RX2, TX2, 2, rfl, inX2, by decide, Or.inl (List.mem_of_getElem? (i := 205) (by decide +kernel))⟩
theorem th_RX2_30 : TH RX2 30 32 6 := ⟨by decide +kernel, (List.mem_of_getElem? (i := 726) (by decide +kernel)), (List.mem_of_getElem? (i := 80) (by decide +kernel)), by decide +kernel⟩
theorem lk_RX1_39 : Cond.methodLink RX1 39 yX1_shapeLike ∈ lw_tbl := (List.mem_of_getElem? (i := 745) (by decide +kernel))
theorem fl_RX1_15 : FL RX1 15 3 1 := ⟨RX1, TX1, 4, rfl, inX1, by decide, Or.inl (List.mem_of_getElem? (i := 182) (by decide +kernel))⟩
theorem lk_RX1_43 : Cond.methodLink RX1 43 arraycopyName ∈ lw_tbl := (List.mem_of_getElem? (i := 746) (by decide +kernel))
theorem fl_RX0_74 : FL RX0 74 5 3 := ⟨RX5, TX5, 14, rfl, inX5, by decide, Or.inr ⟨"RankCalc", (List.mem_of_getElem? (i := 118) (by decide +kernel))⟩⟩
theorem fl_RX0_84 : FL RX0 84 5 7 := ⟨RX5, TX5, 14, rfl, inX5, by decide, Or.inr ⟨"RankCalc", (List.mem_of_getElem? (i := 126) (by decide +kernel))⟩⟩
theorem fl_RX0_58 : FL RX0 58 5 2 := ⟨RX5, TX5, 14, rfl, inX5, by decide, Or.inr ⟨"RankCalc", (List.mem_of_getElem? (i := 116) (by decide +kernel))⟩⟩
theorem fl_RX0_87 : FL RX0 87 3 1 := ⟨RX1, TX1, 4, rfl, inX1, by decide, Or.inr ⟨"RankCalc", (List.mem_of_getElem? (i := 184) (by decide +kernel))⟩⟩
theorem lk_RX0_90 : Cond.methodLink RX0 90 arraycopyName ∈ lw_tbl := (List.mem_of_getElem? (i := 752) (by decide +kernel))
theorem fp_RX0_29 : FP RX0 29 2 4 .int := ⟨RX0, TX0, 7, tyX0, rfl, inX0, tyX0_ok, nmX0, by decide, rfl, by decide +kernel, Or.inl (List.mem_of_getElem? (i := 226) (by decide +kernel))⟩
theorem lk_RX0_80 : Cond.methodLink RX0 80 yX1_addAxis ∈ lw_tbl := (List.mem_of_getElem? (i := 751) (by decide +kernel))
theorem fl_RX0_44 : FL RX0 44 5 1 := ⟨RX5, TX5, 14, rfl, inX5, by decide, Or.inr ⟨"RankCalc", (List.mem_of_getElem? (i := 114) (by decide +kernel))⟩⟩
theorem lk_RX0_71 : Cond.methodLink RX0 71 yX0_pushNumbers ∈ lw_tbl := (List.mem_of_getElem? (i := 747) (by decide +kernel))
theorem tb_X0_pushNumbers : TbV yX0_pushNumbers cX0_pushNumbers 5 none 2 := ⟨(List.mem_of_getElem? (i := 749) (by decide +kernel)), (List.mem_of_getElem? (i := 14) (by decide +kernel)), (List.mem_of_getElem? (i := 750) (by decide +kernel)), (List.mem_of_getElem? (i := 60) (by decide +kernel)), by decide +kernel, by decide +kernel⟩
theorem lk_RX0_61 : Cond.methodLink RX0 61 yX2_find ∈ lw_tbl := (List.mem_of_getElem? (i := 721) (by decide +kernel))
theorem tb_X2_find : TbV yX2_find cX2_find 2 (some (.object "RankCalc$Grid")) 1 := ⟨(List.mem_of_getElem? (i := 722) (by decide +kernel)), (List.mem_of_getElem? (i := 723) (by decide +kernel)), (List.mem_of_getElem? (i := 724) (by decide +kernel)), (List.mem_of_getElem? (i := 58) (by decide +kernel)), by decide +kernel, by decide +kernel⟩
theorem lk_RX0_67 : Cond.methodLink RX0 67 yX1_copy ∈ lw_tbl := (List.mem_of_getElem? (i := 741) (by decide +kernel))
theorem tb_X1_copy : TbV yX1_copy cX1_copy 2 none 1 := ⟨(List.mem_of_getElem? (i := 742) (by decide +kernel)), (List.mem_of_getElem? (i := 743) (by decide +kernel)), (List.mem_of_getElem? (i := 744) (by decide +kernel)), (List.mem_of_getElem? (i := 59) (by decide +kernel)), by decide +kernel, by decide +kernel⟩
theorem fl_RX0_33 : FL RX0 33 2 5 := ⟨RX0, TX0, 7, rfl, inX0, by decide, Or.inl (List.mem_of_getElem? (i := 227) (by decide +kernel))⟩
theorem fp_RX0_33 : FP RX0 33 2 5 .int := ⟨RX0, TX0, 7, tyX0, rfl, inX0, tyX0_ok, nmX0, by decide, rfl, by decide +kernel, Or.inl (List.mem_of_getElem? (i := 227) (by decide +kernel))⟩
theorem fl_RX0_17 : FL RX0 17 2 1 := ⟨RX0, TX0, 7, rfl, inX0, by decide, Or.inl (List.mem_of_getElem? (i := 223) (by decide +kernel))⟩
theorem lk_RX3_63 : Cond.methodLink RX3 63 yX1_isScalar ∈ lw_tbl := (List.mem_of_getElem? (i := 760) (by decide +kernel))
theorem tb_X1_isScalar : TbV yX1_isScalar cX1_isScalar 1 (some .boolean) 0 := ⟨(List.mem_of_getElem? (i := 761) (by decide +kernel)), (List.mem_of_getElem? (i := 762) (by decide +kernel)), (List.mem_of_getElem? (i := 763) (by decide +kernel)), (List.mem_of_getElem? (i := 59) (by decide +kernel)), by decide +kernel, by decide +kernel⟩
theorem th_RX3_78 : TH RX3 78 80 4 := TH.of th_RX4_57 (List.mem_of_getElem? (i := 764) (by decide +kernel)) (List.mem_of_getElem? (i := 765) (by decide +kernel))
theorem fl_RX3_81 : FL RX3 81 3 0 := ⟨RX1, TX1, 4, rfl, inX1, by decide, Or.inr ⟨"RankCalc", (List.mem_of_getElem? (i := 181) (by decide +kernel))⟩⟩
theorem lk_RX3_102 : Cond.methodLink RX3 102 yX1_span ∈ lw_tbl := (List.mem_of_getElem? (i := 768) (by decide +kernel))
theorem tb_X1_span : TbV yX1_span cX1_span 5 (some .int) 2 := ⟨(List.mem_of_getElem? (i := 769) (by decide +kernel)), (List.mem_of_getElem? (i := 770) (by decide +kernel)), (List.mem_of_getElem? (i := 771) (by decide +kernel)), (List.mem_of_getElem? (i := 59) (by decide +kernel)), by decide +kernel, by decide +kernel⟩
theorem th_RX3_84 : TH RX3 84 86 3 := TH.of th_RX4_60 (List.mem_of_getElem? (i := 766) (by decide +kernel)) (List.mem_of_getElem? (i := 767) (by decide +kernel))
theorem lk_RX4_77 : Cond.methodLink RX4 77 yX1_endAxes ∈ lw_tbl := (List.mem_of_getElem? (i := 782) (by decide +kernel))
theorem lk_RX4_98 : Cond.methodLink RX4 98 yX1_isScalar ∈ lw_tbl := (List.mem_of_getElem? (i := 790) (by decide +kernel))
theorem lk_RX4_80 : Cond.methodLink RX4 80 Lib.Math.max.name ∈ lw_tbl := (List.mem_of_getElem? (i := 786) (by decide +kernel))
theorem lk_RX4_86 : Cond.methodLink RX4 86 yX4_needJoinable ∈ lw_tbl := (List.mem_of_getElem? (i := 787) (by decide +kernel))
theorem tb_X4_needJoinable : TbS yX4_needJoinable cX4_needJoinable 4 none 3 := ⟨(List.mem_of_getElem? (i := 788) (by decide +kernel)), (List.mem_of_getElem? (i := 789) (by decide +kernel)), (List.mem_of_getElem? (i := 76) (by decide +kernel)), by decide +kernel, by decide +kernel⟩
theorem lk_RX4_90 : Cond.methodLink RX4 90 yX1_addAxesOf ∈ lw_tbl := (List.mem_of_getElem? (i := 791) (by decide +kernel))
theorem lk_RX4_94 : Cond.methodLink RX4 94 yX1_cellFor ∈ lw_tbl := (List.mem_of_getElem? (i := 792) (by decide +kernel))
theorem tb_X1_cellFor : TbV yX1_cellFor cX1_cellFor 2 (some .int) 1 := ⟨(List.mem_of_getElem? (i := 793) (by decide +kernel)), (List.mem_of_getElem? (i := 794) (by decide +kernel)), (List.mem_of_getElem? (i := 795) (by decide +kernel)), (List.mem_of_getElem? (i := 59) (by decide +kernel)), by decide +kernel, by decide +kernel⟩
theorem lk_RX4_102 : Cond.methodLink RX4 102 yX1_span ∈ lw_tbl := (List.mem_of_getElem? (i := 799) (by decide +kernel))
theorem th_RX4_105 : TH RX4 105 107 5 := ⟨by decide +kernel, (List.mem_of_getElem? (i := 800) (by decide +kernel)), (List.mem_of_getElem? (i := 67) (by decide +kernel)), by decide +kernel⟩
theorem lk_RX4_48 : Cond.methodLink RX4 48 yX4_join ∈ lw_tbl := (List.mem_of_getElem? (i := 783) (by decide +kernel))
theorem tb_X4_join : TbS yX4_join cX4_join 11 none 3 := ⟨(List.mem_of_getElem? (i := 784) (by decide +kernel)), (List.mem_of_getElem? (i := 785) (by decide +kernel)), (List.mem_of_getElem? (i := 76) (by decide +kernel)), by decide +kernel, by decide +kernel⟩
theorem lk_RX4_44 : Cond.methodLink RX4 44 yX4_reshape ∈ lw_tbl := (List.mem_of_getElem? (i := 779) (by decide +kernel))
theorem tb_X4_reshape : TbS yX4_reshape cX4_reshape 5 none 3 := ⟨(List.mem_of_getElem? (i := 780) (by decide +kernel)), (List.mem_of_getElem? (i := 781) (by decide +kernel)), (List.mem_of_getElem? (i := 76) (by decide +kernel)), by decide +kernel, by decide +kernel⟩
theorem lk_RX4_51 : Cond.methodLink RX4 51 yX4_pick ∈ lw_tbl := (List.mem_of_getElem? (i := 796) (by decide +kernel))
theorem tb_X4_pick : TbS yX4_pick cX4_pick 6 none 3 := ⟨(List.mem_of_getElem? (i := 797) (by decide +kernel)), (List.mem_of_getElem? (i := 798) (by decide +kernel)), (List.mem_of_getElem? (i := 76) (by decide +kernel)), by decide +kernel, by decide +kernel⟩
theorem lk_RX3_71 : Cond.methodLink RX3 71 yX1_cellFor ∈ lw_tbl := (List.mem_of_getElem? (i := 821) (by decide +kernel))
theorem lk_RX3_67 : Cond.methodLink RX3 67 yX3_needSameShape ∈ lw_tbl := (List.mem_of_getElem? (i := 818) (by decide +kernel))
theorem tb_X3_needSameShape : TbS yX3_needSameShape cX3_needSameShape 3 none 2 := ⟨(List.mem_of_getElem? (i := 819) (by decide +kernel)), (List.mem_of_getElem? (i := 820) (by decide +kernel)), (List.mem_of_getElem? (i := 74) (by decide +kernel)), by decide +kernel, by decide +kernel⟩
theorem lk_RX0_147 : Cond.methodLink RX0 147 yX3_each ∈ lw_tbl := (List.mem_of_getElem? (i := 815) (by decide +kernel))
theorem tb_X3_each : TbS yX3_each cX3_each 5 none 4 := ⟨(List.mem_of_getElem? (i := 816) (by decide +kernel)), (List.mem_of_getElem? (i := 817) (by decide +kernel)), (List.mem_of_getElem? (i := 74) (by decide +kernel)), by decide +kernel, by decide +kernel⟩
theorem lk_RX0_144 : Cond.methodLink RX0 144 yX4_ofTwo ∈ lw_tbl := (List.mem_of_getElem? (i := 776) (by decide +kernel))
theorem tb_X4_ofTwo : TbS yX4_ofTwo cX4_ofTwo 4 none 4 := ⟨(List.mem_of_getElem? (i := 777) (by decide +kernel)), (List.mem_of_getElem? (i := 778) (by decide +kernel)), (List.mem_of_getElem? (i := 76) (by decide +kernel)), by decide +kernel, by decide +kernel⟩
theorem lk_RX0_138 : Cond.methodLink RX0 138 yX3_outer ∈ lw_tbl := (List.mem_of_getElem? (i := 772) (by decide +kernel))
theorem tb_X3_outer : TbS yX3_outer cX3_outer 7 none 4 := ⟨(List.mem_of_getElem? (i := 773) (by decide +kernel)), (List.mem_of_getElem? (i := 774) (by decide +kernel)), (List.mem_of_getElem? (i := 74) (by decide +kernel)), by decide +kernel, by decide +kernel⟩
theorem fl_RX0_131 : FL RX0 131 5 6 := ⟨RX5, TX5, 14, rfl, inX5, by decide, Or.inr ⟨"RankCalc", (List.mem_of_getElem? (i := 124) (by decide +kernel))⟩⟩
theorem fl_RX0_21 : FL RX0 21 2 2 := ⟨RX0, TX0, 7, rfl, inX0, by decide, Or.inl (List.mem_of_getElem? (i := 224) (by decide +kernel))⟩
theorem lk_RX0_134 : Cond.methodLink RX0 134 yX3_inner ∈ lw_tbl := (List.mem_of_getElem? (i := 757) (by decide +kernel))
theorem tb_X3_inner : TbS yX3_inner cX3_inner 12 none 6 := ⟨(List.mem_of_getElem? (i := 758) (by decide +kernel)), (List.mem_of_getElem? (i := 759) (by decide +kernel)), (List.mem_of_getElem? (i := 74) (by decide +kernel)), by decide +kernel, by decide +kernel⟩
theorem fl_RX0_39 : FL RX0 39 5 8 := ⟨RX5, TX5, 14, rfl, inX5, by decide, Or.inr ⟨"RankCalc", (List.mem_of_getElem? (i := 128) (by decide +kernel))⟩⟩
theorem lk_RX0_51 : Cond.methodLink RX0 51 yX0_endsTerm ∈ lw_tbl := (List.mem_of_getElem? (i := 717) (by decide +kernel))
theorem tb_X0_endsTerm : TbV yX0_endsTerm cX0_endsTerm 4 (some .boolean) 3 := ⟨(List.mem_of_getElem? (i := 719) (by decide +kernel)), (List.mem_of_getElem? (i := 13) (by decide +kernel)), (List.mem_of_getElem? (i := 720) (by decide +kernel)), (List.mem_of_getElem? (i := 60) (by decide +kernel)), by decide +kernel, by decide +kernel⟩
theorem lk_RX0_55 : Cond.methodLink RX0 55 yX0_workOnTwo ∈ lw_tbl := (List.mem_of_getElem? (i := 753) (by decide +kernel))
theorem tb_X0_workOnTwo : TbV yX0_workOnTwo cX0_workOnTwo 7 none 2 := ⟨(List.mem_of_getElem? (i := 755) (by decide +kernel)), (List.mem_of_getElem? (i := 15) (by decide +kernel)), (List.mem_of_getElem? (i := 756) (by decide +kernel)), (List.mem_of_getElem? (i := 60) (by decide +kernel)), by decide +kernel, by decide +kernel⟩
theorem lk_RX0_47 : Cond.methodLink RX0 47 yX0_workOnOne ∈ lw_tbl := (List.mem_of_getElem? (i := 568) (by decide +kernel))
theorem tb_X0_workOnOne : TbV yX0_workOnOne cX0_workOnOne 6 none 2 := ⟨(List.mem_of_getElem? (i := 570) (by decide +kernel)), (List.mem_of_getElem? (i := 11) (by decide +kernel)), (List.mem_of_getElem? (i := 571) (by decide +kernel)), (List.mem_of_getElem? (i := 60) (by decide +kernel)), by decide +kernel, by decide +kernel⟩
theorem lk_RX2_22 : Cond.methodLink RX2 22 yX1_copy ∈ lw_tbl := (List.mem_of_getElem? (i := 827) (by decide +kernel))
theorem fl_RX6_19 : FL RX6 19 6 1 := ⟨RX6, TX6, 2, rfl, inX6, by decide, Or.inl (List.mem_of_getElem? (i := 102) (by decide +kernel))⟩
theorem fl_RX6_9 : FL RX6 9 6 0 := ⟨RX6, TX6, 2, rfl, inX6, by decide, Or.inl (List.mem_of_getElem? (i := 101) (by decide +kernel))⟩
theorem fl_RX5_12 : FL RX5 12 5 0 := ⟨RX5, TX5, 14, rfl, inX5, by decide, Or.inl (List.mem_of_getElem? (i := 111) (by decide +kernel))⟩
theorem fl_RX5_41 : FL RX5 41 5 11 := ⟨RX5, TX5, 14, rfl, inX5, by decide, Or.inl (List.mem_of_getElem? (i := 132) (by decide +kernel))⟩
theorem lk_RX5_77 : Cond.methodLink RX5 77 yX6_codeAt ∈ lw_tbl := (List.mem_of_getElem? (i := 429) (by decide +kernel))
theorem tb_X6_codeAt : TbV yX6_codeAt cX6_codeAt 2 (some .char) 1 := ⟨(List.mem_of_getElem? (i := 430) (by decide +kernel)), (List.mem_of_getElem? (i := 431) (by decide +kernel)), (List.mem_of_getElem? (i := 432) (by decide +kernel)), (List.mem_of_getElem? (i := 57) (by decide +kernel)), by decide +kernel, by decide +kernel⟩
theorem fp_RX5_41 : FP RX5 41 5 11 .int := ⟨RX5, TX5, 14, tyX5, rfl, inX5, tyX5_ok, nmX5, by decide, rfl, by decide +kernel, Or.inl (List.mem_of_getElem? (i := 132) (by decide +kernel))⟩
theorem fp_RX5_74 : FP RX5 74 5 10 .int := ⟨RX5, TX5, 14, tyX5, rfl, inX5, tyX5_ok, nmX5, by decide, rfl, by decide +kernel, Or.inl (List.mem_of_getElem? (i := 130) (by decide +kernel))⟩
theorem lk_RX5_71 : Cond.methodLink RX5 71 yX5_skipBlanks ∈ lw_tbl := (List.mem_of_getElem? (i := 425) (by decide +kernel))
theorem tb_X5_skipBlanks : TbV yX5_skipBlanks cX5_skipBlanks 2 none 0 := ⟨(List.mem_of_getElem? (i := 427) (by decide +kernel)), (List.mem_of_getElem? (i := 2) (by decide +kernel)), (List.mem_of_getElem? (i := 428) (by decide +kernel)), (List.mem_of_getElem? (i := 56) (by decide +kernel)), by decide +kernel, by decide +kernel⟩
theorem lk_RX5_81 : Cond.methodLink RX5 81 yX5_isName ∈ lw_tbl := (List.mem_of_getElem? (i := 433) (by decide +kernel))
theorem tb_X5_isName : TbS yX5_isName cX5_isName 1 (some .boolean) 1 := ⟨(List.mem_of_getElem? (i := 434) (by decide +kernel)), (List.mem_of_getElem? (i := 435) (by decide +kernel)), (List.mem_of_getElem? (i := 56) (by decide +kernel)), by decide +kernel, by decide +kernel⟩
theorem lk_RX5_85 : Cond.methodLink RX5 85 yX5_isDigit ∈ lw_tbl := (List.mem_of_getElem? (i := 440) (by decide +kernel))
theorem tb_X5_isDigit : TbS yX5_isDigit cX5_isDigit 1 (some .boolean) 1 := ⟨(List.mem_of_getElem? (i := 441) (by decide +kernel)), (List.mem_of_getElem? (i := 442) (by decide +kernel)), (List.mem_of_getElem? (i := 56) (by decide +kernel)), by decide +kernel, by decide +kernel⟩
theorem fl_RX5_38 : FL RX5 38 5 7 := ⟨RX5, TX5, 14, rfl, inX5, by decide, Or.inl (List.mem_of_getElem? (i := 125) (by decide +kernel))⟩
theorem fl_RX5_48 : FL RX5 48 5 9 := ⟨RX5, TX5, 14, rfl, inX5, by decide, Or.inl (List.mem_of_getElem? (i := 129) (by decide +kernel))⟩
theorem fp_RX5_48 : FP RX5 48 5 9 .int := ⟨RX5, TX5, 14, tyX5, rfl, inX5, tyX5_ok, nmX5, by decide, rfl, by decide +kernel, Or.inl (List.mem_of_getElem? (i := 129) (by decide +kernel))⟩
theorem fl_RX5_18 : FL RX5 18 5 1 := ⟨RX5, TX5, 14, rfl, inX5, by decide, Or.inl (List.mem_of_getElem? (i := 113) (by decide +kernel))⟩
theorem fl_RX5_45 : FL RX5 45 5 8 := ⟨RX5, TX5, 14, rfl, inX5, by decide, Or.inl (List.mem_of_getElem? (i := 127) (by decide +kernel))⟩
theorem fp_RX5_45 : FP RX5 45 5 8 .int := ⟨RX5, TX5, 14, tyX5, rfl, inX5, tyX5_ok, nmX5, by decide, rfl, by decide +kernel, Or.inl (List.mem_of_getElem? (i := 127) (by decide +kernel))⟩
theorem lk_RX5_120 : Cond.methodLink RX5 120 yX5_readNumber ∈ lw_tbl := (List.mem_of_getElem? (i := 447) (by decide +kernel))
theorem tb_X5_readNumber : TbV yX5_readNumber cX5_readNumber 4 (some .boolean) 0 := ⟨(List.mem_of_getElem? (i := 449) (by decide +kernel)), (List.mem_of_getElem? (i := 5) (by decide +kernel)), (List.mem_of_getElem? (i := 450) (by decide +kernel)), (List.mem_of_getElem? (i := 56) (by decide +kernel)), by decide +kernel, by decide +kernel⟩
theorem fl_RX5_22 : FL RX5 22 5 2 := ⟨RX5, TX5, 14, rfl, inX5, by decide, Or.inl (List.mem_of_getElem? (i := 115) (by decide +kernel))⟩
theorem fl_RX5_25 : FL RX5 25 5 3 := ⟨RX5, TX5, 14, rfl, inX5, by decide, Or.inl (List.mem_of_getElem? (i := 117) (by decide +kernel))⟩
theorem lk_RX5_91 : Cond.methodLink RX5 91 yX5_addStep ∈ lw_tbl := (List.mem_of_getElem? (i := 451) (by decide +kernel))
theorem tb_X5_addStep : TbV yX5_addStep cX5_addStep 2 none 1 := ⟨(List.mem_of_getElem? (i := 453) (by decide +kernel)), (List.mem_of_getElem? (i := 6) (by decide +kernel)), (List.mem_of_getElem? (i := 454) (by decide +kernel)), (List.mem_of_getElem? (i := 56) (by decide +kernel)), by decide +kernel, by decide +kernel⟩
theorem fp_RX5_54 : FP RX5 54 5 13 .boolean := ⟨RX5, TX5, 14, tyX5, rfl, inX5, tyX5_ok, nmX5, by decide, rfl, by decide +kernel, Or.inl (List.mem_of_getElem? (i := 134) (by decide +kernel))⟩
theorem lk_RX5_110 : Cond.methodLink RX5 110 yJ0_indexOf_0f7a4 ∈ lw_tbl := (List.mem_of_getElem? (i := 463) (by decide +kernel))
theorem fl_RX5_28 : FL RX5 28 5 4 := ⟨RX5, TX5, 14, rfl, inX5, by decide, Or.inl (List.mem_of_getElem? (i := 119) (by decide +kernel))⟩
theorem fl_RX5_32 : FL RX5 32 5 5 := ⟨RX5, TX5, 14, rfl, inX5, by decide, Or.inl (List.mem_of_getElem? (i := 121) (by decide +kernel))⟩
theorem fl_RX5_35 : FL RX5 35 5 6 := ⟨RX5, TX5, 14, rfl, inX5, by decide, Or.inl (List.mem_of_getElem? (i := 123) (by decide +kernel))⟩
theorem lk_RX5_101 : Cond.methodLink RX5 101 yX5_isNumberFunction ∈ lw_tbl := (List.mem_of_getElem? (i := 459) (by decide +kernel))
theorem tb_X5_isNumberFunction : TbS yX5_isNumberFunction cX5_isNumberFunction 1 (some .boolean) 1 := ⟨(List.mem_of_getElem? (i := 460) (by decide +kernel)), (List.mem_of_getElem? (i := 461) (by decide +kernel)), (List.mem_of_getElem? (i := 56) (by decide +kernel)), by decide +kernel, by decide +kernel⟩
theorem lk_RX5_104 : Cond.methodLink RX5 104 yX5_addFunction ∈ lw_tbl := (List.mem_of_getElem? (i := 549) (by decide +kernel))
theorem tb_X5_addFunction : TbV yX5_addFunction cX5_addFunction 5 none 4 := ⟨(List.mem_of_getElem? (i := 551) (by decide +kernel)), (List.mem_of_getElem? (i := 8) (by decide +kernel)), (List.mem_of_getElem? (i := 552) (by decide +kernel)), (List.mem_of_getElem? (i := 56) (by decide +kernel)), by decide +kernel, by decide +kernel⟩
theorem lk_RX5_88 : Cond.methodLink RX5 88 yX5_readNumbers ∈ lw_tbl := (List.mem_of_getElem? (i := 443) (by decide +kernel))
theorem tb_X5_readNumbers : TbV yX5_readNumbers cX5_readNumbers 3 (some .boolean) 0 := ⟨(List.mem_of_getElem? (i := 445) (by decide +kernel)), (List.mem_of_getElem? (i := 4) (by decide +kernel)), (List.mem_of_getElem? (i := 446) (by decide +kernel)), (List.mem_of_getElem? (i := 56) (by decide +kernel)), by decide +kernel, by decide +kernel⟩
theorem lk_RX5_95 : Cond.methodLink RX5 95 yX5_readFunctionOfOne ∈ lw_tbl := (List.mem_of_getElem? (i := 455) (by decide +kernel))
theorem tb_X5_readFunctionOfOne : TbV yX5_readFunctionOfOne cX5_readFunctionOfOne 3 (some .boolean) 1 := ⟨(List.mem_of_getElem? (i := 457) (by decide +kernel)), (List.mem_of_getElem? (i := 7) (by decide +kernel)), (List.mem_of_getElem? (i := 458) (by decide +kernel)), (List.mem_of_getElem? (i := 56) (by decide +kernel)), by decide +kernel, by decide +kernel⟩
theorem fl_RX5_51 : FL RX5 51 5 12 := ⟨RX5, TX5, 14, rfl, inX5, by decide, Or.inl (List.mem_of_getElem? (i := 133) (by decide +kernel))⟩
theorem fp_RX5_51 : FP RX5 51 5 12 .int := ⟨RX5, TX5, 14, tyX5, rfl, inX5, tyX5_ok, nmX5, by decide, rfl, by decide +kernel, Or.inl (List.mem_of_getElem? (i := 133) (by decide +kernel))⟩
theorem lk_RX5_98 : Cond.methodLink RX5 98 yX5_readFunctionOfTwo ∈ lw_tbl := (List.mem_of_getElem? (i := 559) (by decide +kernel))
theorem tb_X5_readFunctionOfTwo : TbV yX5_readFunctionOfTwo cX5_readFunctionOfTwo 4 (some .boolean) 1 := ⟨(List.mem_of_getElem? (i := 561) (by decide +kernel)), (List.mem_of_getElem? (i := 10) (by decide +kernel)), (List.mem_of_getElem? (i := 562) (by decide +kernel)), (List.mem_of_getElem? (i := 56) (by decide +kernel)), by decide +kernel, by decide +kernel⟩
theorem lk_RX5_58 : Cond.methodLink RX5 58 yX5_readTarget ∈ lw_tbl := (List.mem_of_getElem? (i := 421) (by decide +kernel))
theorem tb_X5_readTarget : TbV yX5_readTarget cX5_readTarget 3 none 0 := ⟨(List.mem_of_getElem? (i := 423) (by decide +kernel)), (List.mem_of_getElem? (i := 1) (by decide +kernel)), (List.mem_of_getElem? (i := 424) (by decide +kernel)), (List.mem_of_getElem? (i := 56) (by decide +kernel)), by decide +kernel, by decide +kernel⟩
theorem fl_RX5_61 : FL RX5 61 6 1 := ⟨RX6, TX6, 2, rfl, inX6, by decide, Or.inr ⟨"RankCalc", (List.mem_of_getElem? (i := 103) (by decide +kernel))⟩⟩
theorem fl_RX5_54 : FL RX5 54 5 13 := ⟨RX5, TX5, 14, rfl, inX5, by decide, Or.inl (List.mem_of_getElem? (i := 134) (by decide +kernel))⟩
theorem lk_RX5_68 : Cond.methodLink RX5 68 yX5_readBehindTerm ∈ lw_tbl := (List.mem_of_getElem? (i := 555) (by decide +kernel))
theorem tb_X5_readBehindTerm : TbV yX5_readBehindTerm cX5_readBehindTerm 2 (some .boolean) 0 := ⟨(List.mem_of_getElem? (i := 557) (by decide +kernel)), (List.mem_of_getElem? (i := 9) (by decide +kernel)), (List.mem_of_getElem? (i := 558) (by decide +kernel)), (List.mem_of_getElem? (i := 56) (by decide +kernel)), by decide +kernel, by decide +kernel⟩
theorem lk_RX5_64 : Cond.methodLink RX5 64 yX5_readStart ∈ lw_tbl := (List.mem_of_getElem? (i := 436) (by decide +kernel))
theorem tb_X5_readStart : TbV yX5_readStart cX5_readStart 2 (some .boolean) 0 := ⟨(List.mem_of_getElem? (i := 438) (by decide +kernel)), (List.mem_of_getElem? (i := 3) (by decide +kernel)), (List.mem_of_getElem? (i := 439) (by decide +kernel)), (List.mem_of_getElem? (i := 56) (by decide +kernel)), by decide +kernel, by decide +kernel⟩
theorem lk_RX6_15 : Cond.methodLink RX6 15 yX6_leadingCodes ∈ lw_tbl := (List.mem_of_getElem? (i := 268) (by decide +kernel))
theorem tb_X6_leadingCodes : TbS yX6_leadingCodes cX6_leadingCodes 2 (some .int) 1 := ⟨(List.mem_of_getElem? (i := 269) (by decide +kernel)), (List.mem_of_getElem? (i := 270) (by decide +kernel)), (List.mem_of_getElem? (i := 57) (by decide +kernel)), by decide +kernel, by decide +kernel⟩
theorem fp_RX6_19 : FP RX6 19 6 1 .int := ⟨RX6, TX6, 2, tyX6, rfl, inX6, tyX6_ok, nmX6, by decide, rfl, by decide +kernel, Or.inl (List.mem_of_getElem? (i := 102) (by decide +kernel))⟩
theorem fl_RX7_10 : FL RX7 10 7 0 := ⟨RX7, TX7, 4, rfl, inX7, by decide, Or.inl (List.mem_of_getElem? (i := 247) (by decide +kernel))⟩
theorem fl_RX7_37 : FL RX7 37 5 0 := ⟨RX5, TX5, 14, rfl, inX5, by decide, Or.inr ⟨"RankCalc", (List.mem_of_getElem? (i := 112) (by decide +kernel))⟩⟩
theorem lk_RX7_41 : Cond.methodLink RX7 41 yX6_append ∈ lw_tbl := (List.mem_of_getElem? (i := 264) (by decide +kernel))
theorem tb_X6_append : TbV yX6_append cX6_append 4 (some .int) 1 := ⟨(List.mem_of_getElem? (i := 265) (by decide +kernel)), (List.mem_of_getElem? (i := 266) (by decide +kernel)), (List.mem_of_getElem? (i := 267) (by decide +kernel)), (List.mem_of_getElem? (i := 57) (by decide +kernel)), by decide +kernel, by decide +kernel⟩
theorem fp_RX7_47 : FP RX7 47 6 1 .int := ⟨RX6, TX6, 2, tyX6, rfl, inX6, tyX6_ok, nmX6, by decide, rfl, by decide +kernel, Or.inr ⟨"RankCalc", (List.mem_of_getElem? (i := 104) (by decide +kernel))⟩⟩
theorem lk_RX7_51 : Cond.methodLink RX7 51 yX5_read ∈ lw_tbl := (List.mem_of_getElem? (i := 417) (by decide +kernel))
theorem tb_X5_read : TbV yX5_read cX5_read 2 (some .boolean) 0 := ⟨(List.mem_of_getElem? (i := 418) (by decide +kernel)), (List.mem_of_getElem? (i := 419) (by decide +kernel)), (List.mem_of_getElem? (i := 420) (by decide +kernel)), (List.mem_of_getElem? (i := 56) (by decide +kernel)), by decide +kernel, by decide +kernel⟩
theorem fl_RX7_26 : FL RX7 26 7 2 := ⟨RX7, TX7, 4, rfl, inX7, by decide, Or.inl (List.mem_of_getElem? (i := 249) (by decide +kernel))⟩
theorem fl_RX7_19 : FL RX7 19 7 1 := ⟨RX7, TX7, 4, rfl, inX7, by decide, Or.inl (List.mem_of_getElem? (i := 248) (by decide +kernel))⟩
theorem lk_RX7_55 : Cond.methodLink RX7 55 yX0_evaluate ∈ lw_tbl := (List.mem_of_getElem? (i := 564) (by decide +kernel))
theorem tb_X0_evaluate : TbV yX0_evaluate cX0_evaluate 4 (some (.object "RankCalc$Grid")) 2 := ⟨(List.mem_of_getElem? (i := 565) (by decide +kernel)), (List.mem_of_getElem? (i := 566) (by decide +kernel)), (List.mem_of_getElem? (i := 567) (by decide +kernel)), (List.mem_of_getElem? (i := 60) (by decide +kernel)), by decide +kernel, by decide +kernel⟩
theorem fl_RX7_33 : FL RX7 33 7 3 := ⟨RX7, TX7, 4, rfl, inX7, by decide, Or.inl (List.mem_of_getElem? (i := 250) (by decide +kernel))⟩
theorem lk_RX7_59 : Cond.methodLink RX7 59 yX1_copy ∈ lw_tbl := (List.mem_of_getElem? (i := 822) (by decide +kernel))
theorem fl_RX7_63 : FL RX7 63 5 10 := ⟨RX5, TX5, 14, rfl, inX5, by decide, Or.inr ⟨"RankCalc", (List.mem_of_getElem? (i := 131) (by decide +kernel))⟩⟩
theorem fl_RX7_70 : FL RX7 70 3 3 := ⟨RX1, TX1, 4, rfl, inX1, by decide, Or.inr ⟨"RankCalc", (List.mem_of_getElem? (i := 193) (by decide +kernel))⟩⟩
theorem lk_RX7_66 : Cond.methodLink RX7 66 yX2_put ∈ lw_tbl := (List.mem_of_getElem? (i := 823) (by decide +kernel))
theorem tb_X2_put : TbV yX2_put cX2_put 3 none 2 := ⟨(List.mem_of_getElem? (i := 824) (by decide +kernel)), (List.mem_of_getElem? (i := 825) (by decide +kernel)), (List.mem_of_getElem? (i := 826) (by decide +kernel)), (List.mem_of_getElem? (i := 58) (by decide +kernel)), by decide +kernel, by decide +kernel⟩
theorem fl_RX7_73 : FL RX7 73 3 2 := ⟨RX1, TX1, 4, rfl, inX1, by decide, Or.inr ⟨"RankCalc", (List.mem_of_getElem? (i := 189) (by decide +kernel))⟩⟩
theorem fl_RX7_76 : FL RX7 76 3 0 := ⟨RX1, TX1, 4, rfl, inX1, by decide, Or.inr ⟨"RankCalc", (List.mem_of_getElem? (i := 180) (by decide +kernel))⟩⟩
theorem kl_RX7_83 : Cond.constantLong RX7 83 (4294967296 : Int64) ∈ lw_tbl := (List.mem_of_getElem? (i := 291) (by decide +kernel))
theorem fl_RX7_80 : FL RX7 80 3 1 := ⟨RX1, TX1, 4, rfl, inX1, by decide, Or.inr ⟨"RankCalc", (List.mem_of_getElem? (i := 186) (by decide +kernel))⟩⟩
theorem lk_RX7_85 : Cond.methodLink RX7 85 yX2_has ∈ lw_tbl := (List.mem_of_getElem? (i := 300) (by decide +kernel))
theorem fl_RX7_89 : FL RX7 89 4 0 := ⟨RX2, TX2, 2, rfl, inX2, by decide, Or.inr ⟨"RankCalc", (List.mem_of_getElem? (i := 206) (by decide +kernel))⟩⟩
theorem fl_RX7_93 : FL RX7 93 4 1 := ⟨RX2, TX2, 2, rfl, inX2, by decide, Or.inr ⟨"RankCalc", (List.mem_of_getElem? (i := 208) (by decide +kernel))⟩⟩
theorem fl_RX7_97 : FL RX7 97 2 6 := ⟨RX0, TX0, 7, rfl, inX0, by decide, Or.inr ⟨"RankCalc", (List.mem_of_getElem? (i := 229) (by decide +kernel))⟩⟩
theorem fl_RX8_47 : FL RX8 47 8 17 := ⟨RX8, TX8, 19, rfl, inX8, by decide, Or.inl (List.mem_of_getElem? (i := 851) (by decide +kernel))⟩
theorem fp_RX8_47 : FP RX8 47 8 17 .int := ⟨RX8, TX8, 19, tyX8, rfl, inX8, tyX8_ok, nmX8, by decide, rfl, by decide +kernel, Or.inl (List.mem_of_getElem? (i := 851) (by decide +kernel))⟩
theorem fl_RX8_51 : FL RX8 51 8 1 := ⟨RX8, TX8, 19, rfl, inX8, by decide, Or.inl (List.mem_of_getElem? (i := 835) (by decide +kernel))⟩
theorem fl_RX8_7 : FL RX8 7 8 0 := ⟨RX8, TX8, 19, rfl, inX8, by decide, Or.inl (List.mem_of_getElem? (i := 834) (by decide +kernel))⟩
theorem fp_RX8_51 : FP RX8 51 8 1 .int := ⟨RX8, TX8, 19, tyX8, rfl, inX8, tyX8_ok, nmX8, by decide, rfl, by decide +kernel, Or.inl (List.mem_of_getElem? (i := 835) (by decide +kernel))⟩
theorem fl_RX8_54 : FL RX8 54 8 11 := ⟨RX8, TX8, 19, rfl, inX8, by decide, Or.inl (List.mem_of_getElem? (i := 845) (by decide +kernel))⟩
theorem fp_RX8_54 : FP RX8 54 8 11 .int := ⟨RX8, TX8, 19, tyX8, rfl, inX8, tyX8_ok, nmX8, by decide, rfl, by decide +kernel, Or.inl (List.mem_of_getElem? (i := 845) (by decide +kernel))⟩
theorem fl_RX8_22 : FL RX8 22 8 5 := ⟨RX8, TX8, 19, rfl, inX8, by decide, Or.inl (List.mem_of_getElem? (i := 839) (by decide +kernel))⟩
theorem fl_RX8_57 : FL RX8 57 8 9 := ⟨RX8, TX8, 19, rfl, inX8, by decide, Or.inl (List.mem_of_getElem? (i := 843) (by decide +kernel))⟩
theorem fl_RX8_25 : FL RX8 25 8 6 := ⟨RX8, TX8, 19, rfl, inX8, by decide, Or.inl (List.mem_of_getElem? (i := 840) (by decide +kernel))⟩
theorem fl_RX8_28 : FL RX8 28 8 7 := ⟨RX8, TX8, 19, rfl, inX8, by decide, Or.inl (List.mem_of_getElem? (i := 841) (by decide +kernel))⟩
theorem fp_RX8_57 : FP RX8 57 8 9 .int := ⟨RX8, TX8, 19, tyX8, rfl, inX8, tyX8_ok, nmX8, by decide, rfl, by decide +kernel, Or.inl (List.mem_of_getElem? (i := 843) (by decide +kernel))⟩
theorem fl_RX8_60 : FL RX8 60 8 10 := ⟨RX8, TX8, 19, rfl, inX8, by decide, Or.inl (List.mem_of_getElem? (i := 844) (by decide +kernel))⟩
theorem lk_RX8_63 : Cond.methodLink RX8 63 yX8_ahead ∈ lw_tbl := (List.mem_of_getElem? (i := 912) (by decide +kernel))
theorem tb_X8_ahead : TbV yX8_ahead cX8_ahead 2 (some .int) 0 := ⟨(List.mem_of_getElem? (i := 914) (by decide +kernel)), (List.mem_of_getElem? (i := 17) (by decide +kernel)), (List.mem_of_getElem? (i := 915) (by decide +kernel)), (List.mem_of_getElem? (i := 61) (by decide +kernel)), by decide +kernel, by decide +kernel⟩
theorem lk_RX8_67 : Cond.methodLink RX8 67 yX8_digit ∈ lw_tbl := (List.mem_of_getElem? (i := 920) (by decide +kernel))
theorem tb_X8_digit : TbS yX8_digit cX8_digit 1 (some .boolean) 1 := ⟨(List.mem_of_getElem? (i := 921) (by decide +kernel)), (List.mem_of_getElem? (i := 922) (by decide +kernel)), (List.mem_of_getElem? (i := 61) (by decide +kernel)), by decide +kernel, by decide +kernel⟩
theorem fl_RX8_31 : FL RX8 31 8 8 := ⟨RX8, TX8, 19, rfl, inX8, by decide, Or.inl (List.mem_of_getElem? (i := 842) (by decide +kernel))⟩
theorem fp_RX8_60 : FP RX8 60 8 10 .int := ⟨RX8, TX8, 19, tyX8, rfl, inX8, tyX8_ok, nmX8, by decide, rfl, by decide +kernel, Or.inl (List.mem_of_getElem? (i := 844) (by decide +kernel))⟩
theorem lk_RX8_71 : Cond.methodLink RX8 71 yX8_add ∈ lw_tbl := (List.mem_of_getElem? (i := 927) (by decide +kernel))
theorem tb_X8_add : TbV yX8_add cX8_add 4 none 3 := ⟨(List.mem_of_getElem? (i := 929) (by decide +kernel)), (List.mem_of_getElem? (i := 20) (by decide +kernel)), (List.mem_of_getElem? (i := 930) (by decide +kernel)), (List.mem_of_getElem? (i := 61) (by decide +kernel)), by decide +kernel, by decide +kernel⟩
theorem lk_RX8_75 : Cond.methodLink RX8 75 yX8_plain ∈ lw_tbl := (List.mem_of_getElem? (i := 935) (by decide +kernel))
theorem tb_X8_plain : TbS yX8_plain cX8_plain 1 (some .int) 1 := ⟨(List.mem_of_getElem? (i := 936) (by decide +kernel)), (List.mem_of_getElem? (i := 937) (by decide +kernel)), (List.mem_of_getElem? (i := 61) (by decide +kernel)), by decide +kernel, by decide +kernel⟩
theorem lk_RX8_85 : Cond.methodLink RX8 85 yX8_two ∈ lw_tbl := (List.mem_of_getElem? (i := 938) (by decide +kernel))
theorem tb_X8_two : TbV yX8_two cX8_two 5 (some .int) 0 := ⟨(List.mem_of_getElem? (i := 940) (by decide +kernel)), (List.mem_of_getElem? (i := 22) (by decide +kernel)), (List.mem_of_getElem? (i := 941) (by decide +kernel)), (List.mem_of_getElem? (i := 61) (by decide +kernel)), by decide +kernel, by decide +kernel⟩
theorem lk_RX8_79 : Cond.methodLink RX8 79 yX8_row ∈ lw_tbl := (List.mem_of_getElem? (i := 923) (by decide +kernel))
theorem tb_X8_row : TbV yX8_row cX8_row 7 (some .boolean) 0 := ⟨(List.mem_of_getElem? (i := 925) (by decide +kernel)), (List.mem_of_getElem? (i := 19) (by decide +kernel)), (List.mem_of_getElem? (i := 926) (by decide +kernel)), (List.mem_of_getElem? (i := 61) (by decide +kernel)), by decide +kernel, by decide +kernel⟩
theorem lk_RX8_82 : Cond.methodLink RX8 82 yX8_one ∈ lw_tbl := (List.mem_of_getElem? (i := 931) (by decide +kernel))
theorem tb_X8_one : TbV yX8_one cX8_one 4 (some .int) 0 := ⟨(List.mem_of_getElem? (i := 933) (by decide +kernel)), (List.mem_of_getElem? (i := 21) (by decide +kernel)), (List.mem_of_getElem? (i := 934) (by decide +kernel)), (List.mem_of_getElem? (i := 61) (by decide +kernel)), by decide +kernel, by decide +kernel⟩
theorem fl_RX8_16 : FL RX8 16 8 3 := ⟨RX8, TX8, 19, rfl, inX8, by decide, Or.inl (List.mem_of_getElem? (i := 837) (by decide +kernel))⟩
theorem fl_RX8_13 : FL RX8 13 8 2 := ⟨RX8, TX8, 19, rfl, inX8, by decide, Or.inl (List.mem_of_getElem? (i := 836) (by decide +kernel))⟩
theorem lk_RX8_88 : Cond.methodLink RX8 88 yX8_axisOf ∈ lw_tbl := (List.mem_of_getElem? (i := 974) (by decide +kernel))
theorem tb_X8_axisOf : TbV yX8_axisOf cX8_axisOf 3 (some .int) 2 := ⟨(List.mem_of_getElem? (i := 976) (by decide +kernel)), (List.mem_of_getElem? (i := 31) (by decide +kernel)), (List.mem_of_getElem? (i := 977) (by decide +kernel)), (List.mem_of_getElem? (i := 61) (by decide +kernel)), by decide +kernel, by decide +kernel⟩
theorem fl_RX8_19 : FL RX8 19 8 4 := ⟨RX8, TX8, 19, rfl, inX8, by decide, Or.inl (List.mem_of_getElem? (i := 838) (by decide +kernel))⟩
theorem fp_RX8_92 : FP RX8 92 8 16 .int := ⟨RX8, TX8, 19, tyX8, rfl, inX8, tyX8_ok, nmX8, by decide, rfl, by decide +kernel, Or.inl (List.mem_of_getElem? (i := 850) (by decide +kernel))⟩
theorem lk_RX8_95 : Cond.methodLink RX8 95 yX8_stop ∈ lw_tbl := (List.mem_of_getElem? (i := 950) (by decide +kernel))
theorem tb_X8_stop : TbV yX8_stop cX8_stop 2 (some .boolean) 1 := ⟨(List.mem_of_getElem? (i := 952) (by decide +kernel)), (List.mem_of_getElem? (i := 25) (by decide +kernel)), (List.mem_of_getElem? (i := 953) (by decide +kernel)), (List.mem_of_getElem? (i := 61) (by decide +kernel)), by decide +kernel, by decide +kernel⟩
theorem lk_RX8_98 : Cond.methodLink RX8 98 yX8_sizeOf ∈ lw_tbl := (List.mem_of_getElem? (i := 978) (by decide +kernel))
theorem tb_X8_sizeOf : TbV yX8_sizeOf cX8_sizeOf 4 (some .int) 1 := ⟨(List.mem_of_getElem? (i := 980) (by decide +kernel)), (List.mem_of_getElem? (i := 32) (by decide +kernel)), (List.mem_of_getElem? (i := 981) (by decide +kernel)), (List.mem_of_getElem? (i := 61) (by decide +kernel)), by decide +kernel, by decide +kernel⟩
theorem lk_RX8_101 : Cond.methodLink RX8 101 yX8_ofInt ∈ lw_tbl := (List.mem_of_getElem? (i := 990) (by decide +kernel))
theorem tb_X8_ofInt : TbV yX8_ofInt cX8_ofInt 3 (some .int) 1 := ⟨(List.mem_of_getElem? (i := 992) (by decide +kernel)), (List.mem_of_getElem? (i := 35) (by decide +kernel)), (List.mem_of_getElem? (i := 993) (by decide +kernel)), (List.mem_of_getElem? (i := 61) (by decide +kernel)), by decide +kernel, by decide +kernel⟩
theorem fl_RX8_44 : FL RX8 44 8 15 := ⟨RX8, TX8, 19, rfl, inX8, by decide, Or.inl (List.mem_of_getElem? (i := 849) (by decide +kernel))⟩
theorem fl_RX8_92 : FL RX8 92 8 16 := ⟨RX8, TX8, 19, rfl, inX8, by decide, Or.inl (List.mem_of_getElem? (i := 850) (by decide +kernel))⟩
theorem lk_RX8_105 : Cond.methodLink RX8 105 yX8_number ∈ lw_tbl := (List.mem_of_getElem? (i := 986) (by decide +kernel))
theorem tb_X8_number : TbV yX8_number cX8_number 8 (some .int) 3 := ⟨(List.mem_of_getElem? (i := 988) (by decide +kernel)), (List.mem_of_getElem? (i := 34) (by decide +kernel)), (List.mem_of_getElem? (i := 989) (by decide +kernel)), (List.mem_of_getElem? (i := 61) (by decide +kernel)), by decide +kernel, by decide +kernel⟩
theorem lk_RX8_138 : Cond.methodLink RX8 138 yX8_copy ∈ lw_tbl := (List.mem_of_getElem? (i := 954) (by decide +kernel))
theorem tb_X8_copy : TbV yX8_copy cX8_copy 4 none 2 := ⟨(List.mem_of_getElem? (i := 956) (by decide +kernel)), (List.mem_of_getElem? (i := 26) (by decide +kernel)), (List.mem_of_getElem? (i := 957) (by decide +kernel)), (List.mem_of_getElem? (i := 61) (by decide +kernel)), by decide +kernel, by decide +kernel⟩
theorem lk_RX8_142 : Cond.methodLink RX8 142 yX8_last ∈ lw_tbl := (List.mem_of_getElem? (i := 1018) (by decide +kernel))
theorem tb_X8_last : TbV yX8_last cX8_last 2 (some .int) 1 := ⟨(List.mem_of_getElem? (i := 1020) (by decide +kernel)), (List.mem_of_getElem? (i := 42) (by decide +kernel)), (List.mem_of_getElem? (i := 1021) (by decide +kernel)), (List.mem_of_getElem? (i := 61) (by decide +kernel)), by decide +kernel, by decide +kernel⟩
theorem lk_RX8_128 : Cond.methodLink RX8 128 yX8_shape ∈ lw_tbl := (List.mem_of_getElem? (i := 1002) (by decide +kernel))
theorem tb_X8_shape : TbV yX8_shape cX8_shape 6 (some .boolean) 4 := ⟨(List.mem_of_getElem? (i := 1004) (by decide +kernel)), (List.mem_of_getElem? (i := 38) (by decide +kernel)), (List.mem_of_getElem? (i := 1005) (by decide +kernel)), (List.mem_of_getElem? (i := 61) (by decide +kernel)), by decide +kernel, by decide +kernel⟩
theorem lk_RX8_119 : Cond.methodLink RX8 119 yX8_get ∈ lw_tbl := (List.mem_of_getElem? (i := 982) (by decide +kernel))
theorem tb_X8_get : TbV yX8_get cX8_get 3 (some .int) 2 := ⟨(List.mem_of_getElem? (i := 984) (by decide +kernel)), (List.mem_of_getElem? (i := 33) (by decide +kernel)), (List.mem_of_getElem? (i := 985) (by decide +kernel)), (List.mem_of_getElem? (i := 61) (by decide +kernel)), by decide +kernel, by decide +kernel⟩
theorem lk_RX8_145 : Cond.methodLink RX8 145 yX8_folded ∈ lw_tbl := (List.mem_of_getElem? (i := 1034) (by decide +kernel))
theorem tb_X8_folded : TbV yX8_folded cX8_folded 5 (some .int) 2 := ⟨(List.mem_of_getElem? (i := 1036) (by decide +kernel)), (List.mem_of_getElem? (i := 46) (by decide +kernel)), (List.mem_of_getElem? (i := 1037) (by decide +kernel)), (List.mem_of_getElem? (i := 61) (by decide +kernel)), by decide +kernel, by decide +kernel⟩
theorem lk_RX8_122 : Cond.methodLink RX8 122 yX8_set ∈ lw_tbl := (List.mem_of_getElem? (i := 958) (by decide +kernel))
theorem tb_X8_set : TbV yX8_set cX8_set 4 none 3 := ⟨(List.mem_of_getElem? (i := 960) (by decide +kernel)), (List.mem_of_getElem? (i := 27) (by decide +kernel)), (List.mem_of_getElem? (i := 961) (by decide +kernel)), (List.mem_of_getElem? (i := 61) (by decide +kernel)), by decide +kernel, by decide +kernel⟩
theorem lk_RX8_109 : Cond.methodLink RX8 109 yX8_same ∈ lw_tbl := (List.mem_of_getElem? (i := 1042) (by decide +kernel))
theorem tb_X8_same : TbV yX8_same cX8_same 1 (some .boolean) 0 := ⟨(List.mem_of_getElem? (i := 1044) (by decide +kernel)), (List.mem_of_getElem? (i := 48) (by decide +kernel)), (List.mem_of_getElem? (i := 1045) (by decide +kernel)), (List.mem_of_getElem? (i := 61) (by decide +kernel)), by decide +kernel, by decide +kernel⟩
theorem lk_RX8_135 : Cond.methodLink RX8 135 yX8_reverse ∈ lw_tbl := (List.mem_of_getElem? (i := 1062) (by decide +kernel))
theorem tb_X8_reverse : TbV yX8_reverse cX8_reverse 5 (some .boolean) 1 := ⟨(List.mem_of_getElem? (i := 1064) (by decide +kernel)), (List.mem_of_getElem? (i := 53) (by decide +kernel)), (List.mem_of_getElem? (i := 1065) (by decide +kernel)), (List.mem_of_getElem? (i := 61) (by decide +kernel)), by decide +kernel, by decide +kernel⟩
theorem lk_RX8_132 : Cond.methodLink RX8 132 yX8_turn ∈ lw_tbl := (List.mem_of_getElem? (i := 1058) (by decide +kernel))
theorem tb_X8_turn : TbV yX8_turn cX8_turn 11 (some .boolean) 1 := ⟨(List.mem_of_getElem? (i := 1060) (by decide +kernel)), (List.mem_of_getElem? (i := 52) (by decide +kernel)), (List.mem_of_getElem? (i := 1061) (by decide +kernel)), (List.mem_of_getElem? (i := 61) (by decide +kernel)), by decide +kernel, by decide +kernel⟩
theorem lk_RX8_125 : Cond.methodLink RX8 125 yX8_count ∈ lw_tbl := (List.mem_of_getElem? (i := 1054) (by decide +kernel))
theorem tb_X8_count : TbV yX8_count cX8_count 4 (some .boolean) 1 := ⟨(List.mem_of_getElem? (i := 1056) (by decide +kernel)), (List.mem_of_getElem? (i := 51) (by decide +kernel)), (List.mem_of_getElem? (i := 1057) (by decide +kernel)), (List.mem_of_getElem? (i := 61) (by decide +kernel)), by decide +kernel, by decide +kernel⟩
theorem lk_RX8_116 : Cond.methodLink RX8 116 yX8_scan ∈ lw_tbl := (List.mem_of_getElem? (i := 1050) (by decide +kernel))
theorem tb_X8_scan : TbV yX8_scan cX8_scan 8 (some .boolean) 2 := ⟨(List.mem_of_getElem? (i := 1052) (by decide +kernel)), (List.mem_of_getElem? (i := 50) (by decide +kernel)), (List.mem_of_getElem? (i := 1053) (by decide +kernel)), (List.mem_of_getElem? (i := 61) (by decide +kernel)), by decide +kernel, by decide +kernel⟩
theorem lk_RX8_112 : Cond.methodLink RX8 112 yX8_reduce ∈ lw_tbl := (List.mem_of_getElem? (i := 1046) (by decide +kernel))
theorem tb_X8_reduce : TbV yX8_reduce cX8_reduce 7 (some .boolean) 2 := ⟨(List.mem_of_getElem? (i := 1048) (by decide +kernel)), (List.mem_of_getElem? (i := 49) (by decide +kernel)), (List.mem_of_getElem? (i := 1049) (by decide +kernel)), (List.mem_of_getElem? (i := 61) (by decide +kernel)), by decide +kernel, by decide +kernel⟩
theorem lk_RX8_166 : Cond.methodLink RX8 166 yX8_joined ∈ lw_tbl := (List.mem_of_getElem? (i := 998) (by decide +kernel))
theorem tb_X8_joined : TbV yX8_joined cX8_joined 6 (some .int) 3 := ⟨(List.mem_of_getElem? (i := 1000) (by decide +kernel)), (List.mem_of_getElem? (i := 37) (by decide +kernel)), (List.mem_of_getElem? (i := 1001) (by decide +kernel)), (List.mem_of_getElem? (i := 61) (by decide +kernel)), by decide +kernel, by decide +kernel⟩
theorem lk_RX8_173 : Cond.methodLink RX8 173 yX8_before ∈ lw_tbl := (List.mem_of_getElem? (i := 1022) (by decide +kernel))
theorem tb_X8_before : TbV yX8_before cX8_before 5 (some .int) 4 := ⟨(List.mem_of_getElem? (i := 1024) (by decide +kernel)), (List.mem_of_getElem? (i := 43) (by decide +kernel)), (List.mem_of_getElem? (i := 1025) (by decide +kernel)), (List.mem_of_getElem? (i := 61) (by decide +kernel)), by decide +kernel, by decide +kernel⟩
theorem lk_RX8_170 : Cond.methodLink RX8 170 yX8_width ∈ lw_tbl := (List.mem_of_getElem? (i := 1014) (by decide +kernel))
theorem tb_X8_width : TbV yX8_width cX8_width 3 (some .int) 2 := ⟨(List.mem_of_getElem? (i := 1016) (by decide +kernel)), (List.mem_of_getElem? (i := 41) (by decide +kernel)), (List.mem_of_getElem? (i := 1017) (by decide +kernel)), (List.mem_of_getElem? (i := 61) (by decide +kernel)), by decide +kernel, by decide +kernel⟩
theorem lk_RX8_163 : Cond.methodLink RX8 163 yX8_inner ∈ lw_tbl := (List.mem_of_getElem? (i := 1030) (by decide +kernel))
theorem tb_X8_inner : TbV yX8_inner cX8_inner 9 (some .boolean) 2 := ⟨(List.mem_of_getElem? (i := 1032) (by decide +kernel)), (List.mem_of_getElem? (i := 45) (by decide +kernel)), (List.mem_of_getElem? (i := 1033) (by decide +kernel)), (List.mem_of_getElem? (i := 61) (by decide +kernel)), by decide +kernel, by decide +kernel⟩
theorem lk_RX8_160 : Cond.methodLink RX8 160 yX8_pick ∈ lw_tbl := (List.mem_of_getElem? (i := 1026) (by decide +kernel))
theorem tb_X8_pick : TbV yX8_pick cX8_pick 7 (some .boolean) 0 := ⟨(List.mem_of_getElem? (i := 1028) (by decide +kernel)), (List.mem_of_getElem? (i := 44) (by decide +kernel)), (List.mem_of_getElem? (i := 1029) (by decide +kernel)), (List.mem_of_getElem? (i := 61) (by decide +kernel)), by decide +kernel, by decide +kernel⟩
theorem lk_RX8_157 : Cond.methodLink RX8 157 yX8_join ∈ lw_tbl := (List.mem_of_getElem? (i := 1010) (by decide +kernel))
theorem tb_X8_join : TbV yX8_join cX8_join 12 (some .boolean) 0 := ⟨(List.mem_of_getElem? (i := 1012) (by decide +kernel)), (List.mem_of_getElem? (i := 40) (by decide +kernel)), (List.mem_of_getElem? (i := 1013) (by decide +kernel)), (List.mem_of_getElem? (i := 61) (by decide +kernel)), by decide +kernel, by decide +kernel⟩
theorem lk_RX8_154 : Cond.methodLink RX8 154 yX8_reshape ∈ lw_tbl := (List.mem_of_getElem? (i := 1006) (by decide +kernel))
theorem tb_X8_reshape : TbV yX8_reshape cX8_reshape 5 (some .boolean) 0 := ⟨(List.mem_of_getElem? (i := 1008) (by decide +kernel)), (List.mem_of_getElem? (i := 39) (by decide +kernel)), (List.mem_of_getElem? (i := 1009) (by decide +kernel)), (List.mem_of_getElem? (i := 61) (by decide +kernel)), by decide +kernel, by decide +kernel⟩
theorem lk_RX8_151 : Cond.methodLink RX8 151 yX8_outer ∈ lw_tbl := (List.mem_of_getElem? (i := 994) (by decide +kernel))
theorem tb_X8_outer : TbV yX8_outer cX8_outer 6 (some .boolean) 1 := ⟨(List.mem_of_getElem? (i := 996) (by decide +kernel)), (List.mem_of_getElem? (i := 36) (by decide +kernel)), (List.mem_of_getElem? (i := 997) (by decide +kernel)), (List.mem_of_getElem? (i := 61) (by decide +kernel)), by decide +kernel, by decide +kernel⟩
theorem lk_RX8_148 : Cond.methodLink RX8 148 yX8_each ∈ lw_tbl := (List.mem_of_getElem? (i := 970) (by decide +kernel))
theorem tb_X8_each : TbV yX8_each cX8_each 6 (some .boolean) 1 := ⟨(List.mem_of_getElem? (i := 972) (by decide +kernel)), (List.mem_of_getElem? (i := 30) (by decide +kernel)), (List.mem_of_getElem? (i := 973) (by decide +kernel)), (List.mem_of_getElem? (i := 61) (by decide +kernel)), by decide +kernel, by decide +kernel⟩
theorem fl_RX8_38 : FL RX8 38 8 13 := ⟨RX8, TX8, 19, rfl, inX8, by decide, Or.inl (List.mem_of_getElem? (i := 847) (by decide +kernel))⟩
theorem fl_RX8_41 : FL RX8 41 8 14 := ⟨RX8, TX8, 19, rfl, inX8, by decide, Or.inl (List.mem_of_getElem? (i := 848) (by decide +kernel))⟩
theorem lk_RX8_177 : Cond.methodLink RX8 177 yX8_pair ∈ lw_tbl := (List.mem_of_getElem? (i := 966) (by decide +kernel))
theorem tb_X8_pair : TbV yX8_pair cX8_pair 2 (some .boolean) 1 := ⟨(List.mem_of_getElem? (i := 968) (by decide +kernel)), (List.mem_of_getElem? (i := 29) (by decide +kernel)), (List.mem_of_getElem? (i := 969) (by decide +kernel)), (List.mem_of_getElem? (i := 61) (by decide +kernel)), by decide +kernel, by decide +kernel⟩
theorem fl_RX8_180 : FL RX8 180 8 18 := ⟨RX8, TX8, 19, rfl, inX8, by decide, Or.inl (List.mem_of_getElem? (i := 852) (by decide +kernel))⟩
theorem fp_RX8_180 : FP RX8 180 8 18 .int := ⟨RX8, TX8, 19, tyX8, rfl, inX8, tyX8_ok, nmX8, by decide, rfl, by decide +kernel, Or.inl (List.mem_of_getElem? (i := 852) (by decide +kernel))⟩
theorem lk_RX8_190 : Cond.methodLink RX8 190 yX8_single ∈ lw_tbl := (List.mem_of_getElem? (i := 1038) (by decide +kernel))
theorem tb_X8_single : TbV yX8_single cX8_single 8 (some .boolean) 1 := ⟨(List.mem_of_getElem? (i := 1040) (by decide +kernel)), (List.mem_of_getElem? (i := 47) (by decide +kernel)), (List.mem_of_getElem? (i := 1041) (by decide +kernel)), (List.mem_of_getElem? (i := 61) (by decide +kernel)), by decide +kernel, by decide +kernel⟩
theorem lk_RX8_186 : Cond.methodLink RX8 186 yX8_arrive ∈ lw_tbl := (List.mem_of_getElem? (i := 962) (by decide +kernel))
theorem tb_X8_arrive : TbV yX8_arrive cX8_arrive 2 none 1 := ⟨(List.mem_of_getElem? (i := 964) (by decide +kernel)), (List.mem_of_getElem? (i := 28) (by decide +kernel)), (List.mem_of_getElem? (i := 965) (by decide +kernel)), (List.mem_of_getElem? (i := 61) (by decide +kernel)), by decide +kernel, by decide +kernel⟩
theorem lk_RX8_183 : Cond.methodLink RX8 183 yX8_term ∈ lw_tbl := (List.mem_of_getElem? (i := 946) (by decide +kernel))
theorem tb_X8_term : TbV yX8_term cX8_term 4 (some .boolean) 1 := ⟨(List.mem_of_getElem? (i := 948) (by decide +kernel)), (List.mem_of_getElem? (i := 24) (by decide +kernel)), (List.mem_of_getElem? (i := 949) (by decide +kernel)), (List.mem_of_getElem? (i := 61) (by decide +kernel)), by decide +kernel, by decide +kernel⟩
theorem lk_RX8_193 : Cond.methodLink RX8 193 yX8_target ∈ lw_tbl := (List.mem_of_getElem? (i := 908) (by decide +kernel))
theorem tb_X8_target : TbV yX8_target cX8_target 2 (some .int) 0 := ⟨(List.mem_of_getElem? (i := 910) (by decide +kernel)), (List.mem_of_getElem? (i := 16) (by decide +kernel)), (List.mem_of_getElem? (i := 911) (by decide +kernel)), (List.mem_of_getElem? (i := 61) (by decide +kernel)), by decide +kernel, by decide +kernel⟩
theorem lk_RX8_196 : Cond.methodLink RX8 196 yX8_read ∈ lw_tbl := (List.mem_of_getElem? (i := 916) (by decide +kernel))
theorem tb_X8_read : TbV yX8_read cX8_read 6 (some .boolean) 0 := ⟨(List.mem_of_getElem? (i := 918) (by decide +kernel)), (List.mem_of_getElem? (i := 18) (by decide +kernel)), (List.mem_of_getElem? (i := 919) (by decide +kernel)), (List.mem_of_getElem? (i := 61) (by decide +kernel)), by decide +kernel, by decide +kernel⟩
theorem lk_RX8_199 : Cond.methodLink RX8 199 yX8_evaluate ∈ lw_tbl := (List.mem_of_getElem? (i := 942) (by decide +kernel))
theorem tb_X8_evaluate : TbV yX8_evaluate cX8_evaluate 4 none 1 := ⟨(List.mem_of_getElem? (i := 944) (by decide +kernel)), (List.mem_of_getElem? (i := 23) (by decide +kernel)), (List.mem_of_getElem? (i := 945) (by decide +kernel)), (List.mem_of_getElem? (i := 61) (by decide +kernel)), by decide +kernel, by decide +kernel⟩
theorem kl_RX8_202 : Cond.constantLong RX8 202 (4294967296 : Int64) ∈ lw_tbl := (List.mem_of_getElem? (i := 1082) (by decide +kernel))
