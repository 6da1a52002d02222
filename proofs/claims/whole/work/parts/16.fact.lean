theorem TB_ps (ws : List Cond) (ps : List Nat) (hp : ws = ps.filterMap (fun i => lw_tbl[i]?)) (h : ws.all TB_ok = true) : ∀ w ∈ ws, w ∈ TB := by
  intro w hw
  have h1 := List.all_eq_true.mp h w hw
  rw [hp] at hw
  obtain ⟨i, -, hi⟩ := List.mem_filterMap.mp hw
  exact TB_at hi h1
theorem in_X0 : ∀ w ∈ u_ws RX0 TX0 2, w ∈ TB := TB_ps _ [146, 148] (by decide +kernel) (by decide +kernel)
theorem in_X1 : ∀ w ∈ u_ws RX1 TX1 4, w ∈ TB := TB_ps _ [269, 271, 273, 275] (by decide +kernel) (by decide +kernel)
theorem in_X2 : ∀ w ∈ u_ws RX2 TX2 5, w ∈ TB := TB_ps _ [291, 293, 295, 297, 299] (by decide +kernel) (by decide +kernel)
theorem in_X3 : ∀ w ∈ u_ws RX3 TX3 2, w ∈ TB := TB_ps _ [258, 260] (by decide +kernel) (by decide +kernel)
theorem in_X4 : ∀ w ∈ u_ws RX4 TX4 8, w ∈ TB := TB_ps _ [180, 182, 184, 186, 188, 190, 192, 194] (by decide +kernel) (by decide +kernel)
theorem in_X5 : ∀ w ∈ u_ws RX5 TX5 11, w ∈ TB := TB_ps _ [219, 221, 223, 225, 227, 229, 231, 233, 235, 237, 239] (by decide +kernel) (by decide +kernel)
theorem in_X6 : ∀ w ∈ u_ws RX6 TX6 11, w ∈ TB := TB_ps _ [346, 348, 350, 352, 354, 356, 358, 360, 362, 364, 366] (by decide +kernel) (by decide +kernel)
theorem in_X7 : ∀ w ∈ u_ws RX7 TX7 22, w ∈ TB := TB_ps _ [1634, 1636, 1638, 1640, 1642, 1644, 1646, 1648, 1650, 1652, 1654, 1656, 1658, 1660, 1662, 1664, 1666, 1668, 1670, 1672, 1674, 1676] (by decide +kernel) (by decide +kernel)
theorem ac_X0_19 : Cond.methodLink RX0 19 arraycopyName ∈ TB ∧ Cond.native arraycopyName ∈ TB ∧ Cond.static arraycopyName ∈ TB ∧ Cond.initialized "java/lang/System" ∈ TB := ⟨TB_at (i := 542) (by decide +kernel) (by decide +kernel), TB_at (i := 537) (by decide +kernel) (by decide +kernel), TB_at (i := 536) (by decide +kernel) (by decide +kernel), TB_at (i := 102) (by decide +kernel) (by decide +kernel)⟩
theorem ac_X4_38 : Cond.methodLink RX4 38 arraycopyName ∈ TB ∧ Cond.native arraycopyName ∈ TB ∧ Cond.static arraycopyName ∈ TB ∧ Cond.initialized "java/lang/System" ∈ TB := ⟨TB_at (i := 547) (by decide +kernel) (by decide +kernel), TB_at (i := 537) (by decide +kernel) (by decide +kernel), TB_at (i := 536) (by decide +kernel) (by decide +kernel), TB_at (i := 102) (by decide +kernel) (by decide +kernel)⟩
theorem fl_X0_15 : jFld RX0 15 4 2 1 := ⟨RX0, TX0, rfl, in_X0, by decide, Or.inl (TB_at (i := 142) (by decide +kernel) (by decide +kernel))⟩
theorem fl_X0_9 : jFld RX0 9 4 2 0 := ⟨RX0, TX0, rfl, in_X0, by decide, Or.inl (TB_at (i := 139) (by decide +kernel) (by decide +kernel))⟩
theorem fl_X1_15 : jFld RX1 15 5 4 1 := ⟨RX1, TX1, rfl, in_X1, by decide, Or.inl (TB_at (i := 265) (by decide +kernel) (by decide +kernel))⟩
theorem fl_X1_18 : jFld RX1 18 5 4 2 := ⟨RX1, TX1, rfl, in_X1, by decide, Or.inl (TB_at (i := 267) (by decide +kernel) (by decide +kernel))⟩
theorem fl_X1_24 : jFld RX1 24 5 4 3 := ⟨RX1, TX1, rfl, in_X1, by decide, Or.inl (TB_at (i := 268) (by decide +kernel) (by decide +kernel))⟩
theorem fl_X1_41 : jFld RX1 41 8 8 3 := ⟨RX4, TX4, rfl, in_X4, by decide, Or.inr ⟨"TailorWorkshop", TB_at (i := 167) (by decide +kernel) (by decide +kernel)⟩⟩
theorem fl_X1_66 : jFld RX1 66 8 8 7 := ⟨RX4, TX4, rfl, in_X4, by decide, Or.inr ⟨"TailorWorkshop", TB_at (i := 179) (by decide +kernel) (by decide +kernel)⟩⟩
theorem fl_X1_9 : jFld RX1 9 5 4 0 := ⟨RX1, TX1, rfl, in_X1, by decide, Or.inl (TB_at (i := 263) (by decide +kernel) (by decide +kernel))⟩
theorem fl_X3_15 : jFld RX3 15 7 2 1 := ⟨RX3, TX3, rfl, in_X3, by decide, Or.inl (TB_at (i := 256) (by decide +kernel) (by decide +kernel))⟩
theorem fl_X3_9 : jFld RX3 9 7 2 0 := ⟨RX3, TX3, rfl, in_X3, by decide, Or.inl (TB_at (i := 255) (by decide +kernel) (by decide +kernel))⟩
theorem fl_X4_15 : jFld RX4 15 8 8 1 := ⟨RX4, TX4, rfl, in_X4, by decide, Or.inl (TB_at (i := 160) (by decide +kernel) (by decide +kernel))⟩
theorem fl_X4_18 : jFld RX4 18 8 8 2 := ⟨RX4, TX4, rfl, in_X4, by decide, Or.inl (TB_at (i := 163) (by decide +kernel) (by decide +kernel))⟩
theorem fl_X4_21 : jFld RX4 21 8 8 3 := ⟨RX4, TX4, rfl, in_X4, by decide, Or.inl (TB_at (i := 166) (by decide +kernel) (by decide +kernel))⟩
theorem fl_X4_24 : jFld RX4 24 8 8 4 := ⟨RX4, TX4, rfl, in_X4, by decide, Or.inl (TB_at (i := 169) (by decide +kernel) (by decide +kernel))⟩
theorem fl_X4_27 : jFld RX4 27 8 8 5 := ⟨RX4, TX4, rfl, in_X4, by decide, Or.inl (TB_at (i := 172) (by decide +kernel) (by decide +kernel))⟩
theorem fl_X4_31 : jFld RX4 31 8 8 6 := ⟨RX4, TX4, rfl, in_X4, by decide, Or.inl (TB_at (i := 175) (by decide +kernel) (by decide +kernel))⟩
theorem fl_X4_35 : jFld RX4 35 8 8 7 := ⟨RX4, TX4, rfl, in_X4, by decide, Or.inl (TB_at (i := 178) (by decide +kernel) (by decide +kernel))⟩
theorem fl_X4_54 : jFld RX4 54 4 2 1 := ⟨RX0, TX0, rfl, in_X0, by decide, Or.inr ⟨"TailorWorkshop", TB_at (i := 143) (by decide +kernel) (by decide +kernel)⟩⟩
theorem fl_X4_9 : jFld RX4 9 8 8 0 := ⟨RX4, TX4, rfl, in_X4, by decide, Or.inl (TB_at (i := 157) (by decide +kernel) (by decide +kernel))⟩
theorem fw_X0_9 : jFlw RX0 9 4 2 0 .int := ⟨RX0, TX0, tyX0, rfl, in_X0, tyX0_ok, nmX0, by decide, rfl, rfl, Or.inl (TB_at (i := 139) (by decide +kernel) (by decide +kernel))⟩
theorem fw_X1_63 : jFlw RX1 63 7 2 1 .int := ⟨RX3, TX3, tyX3, rfl, in_X3, tyX3_ok, nmX3, by decide, rfl, rfl, Or.inr ⟨"TailorWorkshop", TB_at (i := 257) (by decide +kernel) (by decide +kernel)⟩⟩
theorem fw_X3_15 : jFlw RX3 15 7 2 1 .int := ⟨RX3, TX3, tyX3, rfl, in_X3, tyX3_ok, nmX3, by decide, rfl, rfl, Or.inl (TB_at (i := 256) (by decide +kernel) (by decide +kernel))⟩
theorem fw_X4_15 : jFlw RX4 15 8 8 1 .int := ⟨RX4, TX4, tyX4, rfl, in_X4, tyX4_ok, nmX4, by decide, rfl, rfl, Or.inl (TB_at (i := 160) (by decide +kernel) (by decide +kernel))⟩
theorem fw_X4_18 : jFlw RX4 18 8 8 2 .int := ⟨RX4, TX4, tyX4, rfl, in_X4, tyX4_ok, nmX4, by decide, rfl, rfl, Or.inl (TB_at (i := 163) (by decide +kernel) (by decide +kernel))⟩
theorem fw_X4_21 : jFlw RX4 21 8 8 3 .int := ⟨RX4, TX4, tyX4, rfl, in_X4, tyX4_ok, nmX4, by decide, rfl, rfl, Or.inl (TB_at (i := 166) (by decide +kernel) (by decide +kernel))⟩
theorem fw_X4_24 : jFlw RX4 24 8 8 4 .int := ⟨RX4, TX4, tyX4, rfl, in_X4, tyX4_ok, nmX4, by decide, rfl, rfl, Or.inl (TB_at (i := 169) (by decide +kernel) (by decide +kernel))⟩
theorem fw_X4_9 : jFlw RX4 9 8 8 0 .int := ⟨RX4, TX4, tyX4, rfl, in_X4, tyX4_ok, nmX4, by decide, rfl, rfl, Or.inl (TB_at (i := 157) (by decide +kernel) (by decide +kernel))⟩
theorem ld_J6_265 : Cond.constant RJ6 265 1431655765 ∈ TB := TB_at (i := 429) (by decide +kernel) (by decide +kernel)
theorem ld_J6_266 : Cond.constant RJ6 266 858993459 ∈ TB := TB_at (i := 430) (by decide +kernel) (by decide +kernel)
theorem ld_J6_267 : Cond.constant RJ6 267 252645135 ∈ TB := TB_at (i := 431) (by decide +kernel) (by decide +kernel)
theorem ml_X1_28 : Cond.methodLink RX1 28 yX4_sewnSet ∈ TB := TB_at (i := 417) (by decide +kernel) (by decide +kernel)
theorem ml_X1_34 : Cond.methodLink RX1 34 yX4_unsewnCount ∈ TB := TB_at (i := 421) (by decide +kernel) (by decide +kernel)
theorem ml_X1_37 : Cond.methodLink RX1 37 yX1_lowestFree ∈ TB := TB_at (i := 432) (by decide +kernel) (by decide +kernel)
theorem ml_X1_45 : Cond.methodLink RX1 45 yX4_contains ∈ TB := TB_at (i := 436) (by decide +kernel) (by decide +kernel)
theorem ml_X1_49 : Cond.methodLink RX1 49 yX4_isHeldBack ∈ TB := TB_at (i := 439) (by decide +kernel) (by decide +kernel)
theorem ml_X1_52 : Cond.methodLink RX1 52 yX1_queueFreeSleeves ∈ TB := TB_at (i := 447) (by decide +kernel) (by decide +kernel)
theorem ml_X1_56 : Cond.methodLink RX1 56 yX3_takeLowest ∈ TB := TB_at (i := 464) (by decide +kernel) (by decide +kernel)
theorem ml_X1_59 : Cond.methodLink RX1 59 yX1_releaseFrom ∈ TB := TB_at (i := 476) (by decide +kernel) (by decide +kernel)
theorem ml_X1_69 : Cond.methodLink RX1 69 yJ6_bitCount_0f7a4 ∈ TB := TB_at (i := 451) (by decide +kernel) (by decide +kernel)
theorem ml_X1_75 : Cond.methodLink RX1 75 yX4_isSewn ∈ TB := TB_at (i := 452) (by decide +kernel) (by decide +kernel)
theorem ml_X1_79 : Cond.methodLink RX1 79 yX3_add ∈ TB := TB_at (i := 456) (by decide +kernel) (by decide +kernel)
theorem ml_X1_83 : Cond.methodLink RX1 83 yX4_hasDemand ∈ TB := TB_at (i := 480) (by decide +kernel) (by decide +kernel)
theorem ml_X1_86 : Cond.methodLink RX1 86 yX1_findByScan ∈ TB := TB_at (i := 413) (by decide +kernel) (by decide +kernel)
theorem ml_X1_90 : Cond.methodLink RX1 90 yX1_findByQueue ∈ TB := TB_at (i := 443) (by decide +kernel) (by decide +kernel)
theorem ml_X3_19 : Cond.methodLink RX3 19 yX3_swapIfLower ∈ TB := TB_at (i := 460) (by decide +kernel) (by decide +kernel)
theorem ml_X3_23 : Cond.methodLink RX3 23 yX3_sinkTop ∈ TB := TB_at (i := 468) (by decide +kernel) (by decide +kernel)
theorem ml_X3_26 : Cond.methodLink RX3 26 yX3_lowerChildOf ∈ TB := TB_at (i := 472) (by decide +kernel) (by decide +kernel)
theorem ml_X4_102 : Cond.methodLink RX4 102 yX4_hasDemand ∈ TB := TB_at (i := 716) (by decide +kernel) (by decide +kernel)
theorem ml_X4_105 : Cond.methodLink RX4 105 yX4_freeSleeves ∈ TB := TB_at (i := 1128) (by decide +kernel) (by decide +kernel)
theorem ml_X4_44 : Cond.methodLink RX4 44 yX4_sewnSet ∈ TB := TB_at (i := 425) (by decide +kernel) (by decide +kernel)
theorem ml_X4_48 : Cond.methodLink RX4 48 yJ6_bitCount_0f7a4 ∈ TB := TB_at (i := 426) (by decide +kernel) (by decide +kernel)
theorem ml_X4_59 : Cond.methodLink RX4 59 yX4_isPlanned ∈ TB := TB_at (i := 489) (by decide +kernel) (by decide +kernel)
theorem ml_X4_63 : Cond.methodLink RX4 63 yX4_fitsAt ∈ TB := TB_at (i := 744) (by decide +kernel) (by decide +kernel)
theorem ml_X4_72 : Cond.methodLink RX4 72 yX4_allSleeves ∈ TB := TB_at (i := 736) (by decide +kernel) (by decide +kernel)
theorem ml_X4_75 : Cond.methodLink RX4 75 yX4_isFitting ∈ TB := TB_at (i := 740) (by decide +kernel) (by decide +kernel)
theorem ml_X4_79 : Cond.methodLink RX4 79 yX4_hasEvenSleeves ∈ TB := TB_at (i := 748) (by decide +kernel) (by decide +kernel)
theorem ml_X4_83 : Cond.methodLink RX4 83 yX0_legSum ∈ TB := TB_at (i := 497) (by decide +kernel) (by decide +kernel)
theorem ml_X4_86 : Cond.methodLink RX4 86 yX4_contains ∈ TB := TB_at (i := 484) (by decide +kernel) (by decide +kernel)
theorem ml_X4_90 : Cond.methodLink RX4 90 yX4_allBefore ∈ TB := TB_at (i := 509) (by decide +kernel) (by decide +kernel)
theorem ml_X4_93 : Cond.methodLink RX4 93 yX4_comesBefore ∈ TB := TB_at (i := 505) (by decide +kernel) (by decide +kernel)
theorem ml_X4_96 : Cond.methodLink RX4 96 yX4_isSewn ∈ TB := TB_at (i := 517) (by decide +kernel) (by decide +kernel)
theorem ml_X4_99 : Cond.methodLink RX4 99 yX4_isHeldBack ∈ TB := TB_at (i := 518) (by decide +kernel) (by decide +kernel)
theorem mx_X0_25 : jMx RX0 25 Lib.Math.abs.name Lib.Math.abs.code 1 := ⟨TB_at (i := 972) (by decide +kernel) (by decide +kernel), TB_at (i := 753) (by decide +kernel) (by decide +kernel), TB_at (i := 105) (by decide +kernel) (by decide +kernel), TB_at (i := 754) (by decide +kernel) (by decide +kernel)⟩
theorem mx_X4_67 : jMx RX4 67 Lib.Math.abs.name Lib.Math.abs.code 1 := ⟨TB_at (i := 752) (by decide +kernel) (by decide +kernel), TB_at (i := 753) (by decide +kernel) (by decide +kernel), TB_at (i := 105) (by decide +kernel) (by decide +kernel), TB_at (i := 754) (by decide +kernel) (by decide +kernel)⟩
theorem yv_X0_legSum : jYV yX0_legSum cX0_legSum 3 (some .int) 0 := ⟨TB_at (i := 498) (by decide +kernel) (by decide +kernel), TB_at (i := 499) (by decide +kernel) (by decide +kernel), TB_at (i := 87) (by decide +kernel) (by decide +kernel), TB_at (i := 500) (by decide +kernel) (by decide +kernel), ⟨by decide +kernel, by decide +kernel⟩, by decide +kernel⟩
theorem yv_X1_findByQueue : jYV yX1_findByQueue cX1_findByQueue 6 (some .int) 1 := ⟨TB_at (i := 444) (by decide +kernel) (by decide +kernel), TB_at (i := 445) (by decide +kernel) (by decide +kernel), TB_at (i := 89) (by decide +kernel) (by decide +kernel), TB_at (i := 446) (by decide +kernel) (by decide +kernel), ⟨by decide +kernel, by decide +kernel⟩, by decide +kernel⟩
theorem yv_X1_findByScan : jYV yX1_findByScan cX1_findByScan 7 (some .int) 1 := ⟨TB_at (i := 414) (by decide +kernel) (by decide +kernel), TB_at (i := 415) (by decide +kernel) (by decide +kernel), TB_at (i := 89) (by decide +kernel) (by decide +kernel), TB_at (i := 416) (by decide +kernel) (by decide +kernel), ⟨by decide +kernel, by decide +kernel⟩, by decide +kernel⟩
theorem yv_X1_lowestFree : jYV yX1_lowestFree cX1_lowestFree 4 (some .int) 2 := ⟨TB_at (i := 434) (by decide +kernel) (by decide +kernel), TB_at (i := 1) (by decide +kernel) (by decide +kernel), TB_at (i := 89) (by decide +kernel) (by decide +kernel), TB_at (i := 435) (by decide +kernel) (by decide +kernel), ⟨by decide +kernel, by decide +kernel⟩, by decide +kernel⟩
theorem yv_X1_queueFreeSleeves : jYV yX1_queueFreeSleeves cX1_queueFreeSleeves 4 none 1 := ⟨TB_at (i := 449) (by decide +kernel) (by decide +kernel), TB_at (i := 2) (by decide +kernel) (by decide +kernel), TB_at (i := 89) (by decide +kernel) (by decide +kernel), TB_at (i := 450) (by decide +kernel) (by decide +kernel), ⟨by decide +kernel, by decide +kernel⟩, by decide +kernel⟩
theorem yv_X1_releaseFrom : jYV yX1_releaseFrom cX1_releaseFrom 4 none 2 := ⟨TB_at (i := 478) (by decide +kernel) (by decide +kernel), TB_at (i := 6) (by decide +kernel) (by decide +kernel), TB_at (i := 89) (by decide +kernel) (by decide +kernel), TB_at (i := 479) (by decide +kernel) (by decide +kernel), ⟨by decide +kernel, by decide +kernel⟩, by decide +kernel⟩
theorem yv_X3_add : jYV yX3_add cX3_add 3 none 1 := ⟨TB_at (i := 457) (by decide +kernel) (by decide +kernel), TB_at (i := 458) (by decide +kernel) (by decide +kernel), TB_at (i := 90) (by decide +kernel) (by decide +kernel), TB_at (i := 459) (by decide +kernel) (by decide +kernel), ⟨by decide +kernel, by decide +kernel⟩, by decide +kernel⟩
theorem yv_X3_lowerChildOf : jYV yX3_lowerChildOf cX3_lowerChildOf 3 (some .int) 1 := ⟨TB_at (i := 474) (by decide +kernel) (by decide +kernel), TB_at (i := 5) (by decide +kernel) (by decide +kernel), TB_at (i := 90) (by decide +kernel) (by decide +kernel), TB_at (i := 475) (by decide +kernel) (by decide +kernel), ⟨by decide +kernel, by decide +kernel⟩, by decide +kernel⟩
theorem yv_X3_sinkTop : jYV yX3_sinkTop cX3_sinkTop 4 none 0 := ⟨TB_at (i := 470) (by decide +kernel) (by decide +kernel), TB_at (i := 4) (by decide +kernel) (by decide +kernel), TB_at (i := 90) (by decide +kernel) (by decide +kernel), TB_at (i := 471) (by decide +kernel) (by decide +kernel), ⟨by decide +kernel, by decide +kernel⟩, by decide +kernel⟩
theorem yv_X3_swapIfLower : jYV yX3_swapIfLower cX3_swapIfLower 4 none 2 := ⟨TB_at (i := 462) (by decide +kernel) (by decide +kernel), TB_at (i := 3) (by decide +kernel) (by decide +kernel), TB_at (i := 90) (by decide +kernel) (by decide +kernel), TB_at (i := 463) (by decide +kernel) (by decide +kernel), ⟨by decide +kernel, by decide +kernel⟩, by decide +kernel⟩
theorem yv_X3_takeLowest : jYV yX3_takeLowest cX3_takeLowest 2 (some .int) 0 := ⟨TB_at (i := 465) (by decide +kernel) (by decide +kernel), TB_at (i := 466) (by decide +kernel) (by decide +kernel), TB_at (i := 90) (by decide +kernel) (by decide +kernel), TB_at (i := 467) (by decide +kernel) (by decide +kernel), ⟨by decide +kernel, by decide +kernel⟩, by decide +kernel⟩
theorem yv_X4_allBefore : jYV yX4_allBefore cX4_allBefore 6 (some .int) 1 := ⟨TB_at (i := 510) (by decide +kernel) (by decide +kernel), TB_at (i := 511) (by decide +kernel) (by decide +kernel), TB_at (i := 88) (by decide +kernel) (by decide +kernel), TB_at (i := 512) (by decide +kernel) (by decide +kernel), ⟨by decide +kernel, by decide +kernel⟩, by decide +kernel⟩
theorem yv_X4_allSleeves : jYV yX4_allSleeves cX4_allSleeves 1 (some .int) 0 := ⟨TB_at (i := 737) (by decide +kernel) (by decide +kernel), TB_at (i := 738) (by decide +kernel) (by decide +kernel), TB_at (i := 88) (by decide +kernel) (by decide +kernel), TB_at (i := 739) (by decide +kernel) (by decide +kernel), ⟨by decide +kernel, by decide +kernel⟩, by decide +kernel⟩
theorem yv_X4_comesBefore : jYV yX4_comesBefore cX4_comesBefore 3 (some .boolean) 2 := ⟨TB_at (i := 506) (by decide +kernel) (by decide +kernel), TB_at (i := 507) (by decide +kernel) (by decide +kernel), TB_at (i := 88) (by decide +kernel) (by decide +kernel), TB_at (i := 508) (by decide +kernel) (by decide +kernel), ⟨by decide +kernel, by decide +kernel⟩, by decide +kernel⟩
theorem yv_X4_contains : jYS yX4_contains cX4_contains 2 (some .boolean) 2 := ⟨TB_at (i := 437) (by decide +kernel) (by decide +kernel), TB_at (i := 88) (by decide +kernel) (by decide +kernel), TB_at (i := 438) (by decide +kernel) (by decide +kernel), ⟨by decide +kernel, by decide +kernel⟩, by decide +kernel⟩
theorem yv_X4_fitsAt : jYV yX4_fitsAt cX4_fitsAt 3 (some .boolean) 2 := ⟨TB_at (i := 745) (by decide +kernel) (by decide +kernel), TB_at (i := 746) (by decide +kernel) (by decide +kernel), TB_at (i := 88) (by decide +kernel) (by decide +kernel), TB_at (i := 747) (by decide +kernel) (by decide +kernel), ⟨by decide +kernel, by decide +kernel⟩, by decide +kernel⟩
theorem yv_X4_freeSleeves : jYV yX4_freeSleeves cX4_freeSleeves 4 (some .int) 1 := ⟨TB_at (i := 1130) (by decide +kernel) (by decide +kernel), TB_at (i := 28) (by decide +kernel) (by decide +kernel), TB_at (i := 88) (by decide +kernel) (by decide +kernel), TB_at (i := 1131) (by decide +kernel) (by decide +kernel), ⟨by decide +kernel, by decide +kernel⟩, by decide +kernel⟩
theorem yv_X4_hasDemand : jYV yX4_hasDemand cX4_hasDemand 3 (some .boolean) 2 := ⟨TB_at (i := 481) (by decide +kernel) (by decide +kernel), TB_at (i := 482) (by decide +kernel) (by decide +kernel), TB_at (i := 88) (by decide +kernel) (by decide +kernel), TB_at (i := 483) (by decide +kernel) (by decide +kernel), ⟨by decide +kernel, by decide +kernel⟩, by decide +kernel⟩
theorem yv_X4_hasEvenSleeves : jYV yX4_hasEvenSleeves cX4_hasEvenSleeves 2 (some .boolean) 0 := ⟨TB_at (i := 749) (by decide +kernel) (by decide +kernel), TB_at (i := 750) (by decide +kernel) (by decide +kernel), TB_at (i := 88) (by decide +kernel) (by decide +kernel), TB_at (i := 751) (by decide +kernel) (by decide +kernel), ⟨by decide +kernel, by decide +kernel⟩, by decide +kernel⟩
theorem yv_X4_isFitting : jYV yX4_isFitting cX4_isFitting 3 (some .boolean) 1 := ⟨TB_at (i := 741) (by decide +kernel) (by decide +kernel), TB_at (i := 742) (by decide +kernel) (by decide +kernel), TB_at (i := 88) (by decide +kernel) (by decide +kernel), TB_at (i := 743) (by decide +kernel) (by decide +kernel), ⟨by decide +kernel, by decide +kernel⟩, by decide +kernel⟩
theorem yv_X4_isHeldBack : jYV yX4_isHeldBack cX4_isHeldBack 3 (some .boolean) 2 := ⟨TB_at (i := 440) (by decide +kernel) (by decide +kernel), TB_at (i := 441) (by decide +kernel) (by decide +kernel), TB_at (i := 88) (by decide +kernel) (by decide +kernel), TB_at (i := 442) (by decide +kernel) (by decide +kernel), ⟨by decide +kernel, by decide +kernel⟩, by decide +kernel⟩
theorem yv_X4_isPlanned : jYV yX4_isPlanned cX4_isPlanned 2 (some .boolean) 1 := ⟨TB_at (i := 490) (by decide +kernel) (by decide +kernel), TB_at (i := 491) (by decide +kernel) (by decide +kernel), TB_at (i := 88) (by decide +kernel) (by decide +kernel), TB_at (i := 492) (by decide +kernel) (by decide +kernel), ⟨by decide +kernel, by decide +kernel⟩, by decide +kernel⟩
theorem yv_X4_isSewn : jYV yX4_isSewn cX4_isSewn 2 (some .boolean) 1 := ⟨TB_at (i := 453) (by decide +kernel) (by decide +kernel), TB_at (i := 454) (by decide +kernel) (by decide +kernel), TB_at (i := 88) (by decide +kernel) (by decide +kernel), TB_at (i := 455) (by decide +kernel) (by decide +kernel), ⟨by decide +kernel, by decide +kernel⟩, by decide +kernel⟩
theorem yv_X4_sewnSet : jYV yX4_sewnSet cX4_sewnSet 3 (some .int) 0 := ⟨TB_at (i := 418) (by decide +kernel) (by decide +kernel), TB_at (i := 419) (by decide +kernel) (by decide +kernel), TB_at (i := 88) (by decide +kernel) (by decide +kernel), TB_at (i := 420) (by decide +kernel) (by decide +kernel), ⟨by decide +kernel, by decide +kernel⟩, by decide +kernel⟩
theorem yv_X4_unsewnCount : jYV yX4_unsewnCount cX4_unsewnCount 1 (some .int) 0 := ⟨TB_at (i := 422) (by decide +kernel) (by decide +kernel), TB_at (i := 423) (by decide +kernel) (by decide +kernel), TB_at (i := 88) (by decide +kernel) (by decide +kernel), TB_at (i := 424) (by decide +kernel) (by decide +kernel), ⟨by decide +kernel, by decide +kernel⟩, by decide +kernel⟩
theorem yv_J6_bitCount_0f7a4 : jYS yJ6_bitCount_0f7a4 cJ6_bitCount_0f7a4 1 (some .int) 1 := ⟨TB_at (i := 427) (by decide +kernel) (by decide +kernel), TB_at (i := 104) (by decide +kernel) (by decide +kernel), TB_at (i := 428) (by decide +kernel) (by decide +kernel), ⟨by decide +kernel, by decide +kernel⟩, by decide +kernel⟩
