theorem dX0_init_0 : decode cX0_init 0 = .ok (.aload_n 0, 1) := by decide +kernel
theorem dX0_init_1 : decode cX0_init 1 = .ok (.invokespecial 3, 3) := by decide +kernel
theorem dX0_init_4 : decode cX0_init 4 = .ok (.aload_n 0, 1) := by decide +kernel
theorem dX0_init_5 : decode cX0_init 5 = .ok (.iconst 0, 1) := by decide +kernel
theorem dX0_init_6 : decode cX0_init 6 = .ok (.putfield 9, 3) := by decide +kernel
theorem dX0_init_9 : decode cX0_init 9 = .ok (.aload_n 0, 1) := by decide +kernel
theorem dX0_init_10 : decode cX0_init 10 = .ok (.bipush 16, 2) := by decide +kernel
theorem dX0_init_12 : decode cX0_init 12 = .ok (.newarray .int, 2) := by decide +kernel
theorem dX0_init_14 : decode cX0_init 14 = .ok (.putfield 15, 3) := by decide +kernel
theorem dX0_init_17 : decode cX0_init 17 = .ok (.return_, 1) := by decide +kernel
theorem dX0_takeOver_0 : decode cX0_takeOver 0 = .ok (.aload_n 0, 1) := by decide +kernel
theorem dX0_takeOver_1 : decode cX0_takeOver 1 = .ok (.aload_n 1, 1) := by decide +kernel
theorem dX0_takeOver_2 : decode cX0_takeOver 2 = .ok (.getfield 9, 3) := by decide +kernel
theorem dX0_takeOver_5 : decode cX0_takeOver 5 = .ok (.putfield 9, 3) := by decide +kernel
theorem dX0_takeOver_8 : decode cX0_takeOver 8 = .ok (.aload_n 1, 1) := by decide +kernel
theorem dX0_takeOver_9 : decode cX0_takeOver 9 = .ok (.getfield 15, 3) := by decide +kernel
theorem dX0_takeOver_12 : decode cX0_takeOver 12 = .ok (.iconst 0, 1) := by decide +kernel
theorem dX0_takeOver_13 : decode cX0_takeOver 13 = .ok (.aload_n 0, 1) := by decide +kernel
theorem dX0_takeOver_14 : decode cX0_takeOver 14 = .ok (.getfield 15, 3) := by decide +kernel
theorem dX0_takeOver_17 : decode cX0_takeOver 17 = .ok (.iconst 0, 1) := by decide +kernel
theorem dX0_takeOver_18 : decode cX0_takeOver 18 = .ok (.bipush 16, 2) := by decide +kernel
theorem dX0_takeOver_20 : decode cX0_takeOver 20 = .ok (.invokestatic 19, 3) := by decide +kernel
theorem dX0_takeOver_23 : decode cX0_takeOver 23 = .ok (.return_, 1) := by decide +kernel
theorem dX0_begin_0 : decode cX0_begin 0 = .ok (.aload_n 0, 1) := by decide +kernel
theorem dX0_begin_1 : decode cX0_begin 1 = .ok (.iconst 2, 1) := by decide +kernel
theorem dX0_begin_2 : decode cX0_begin 2 = .ok (.iload_n 1, 1) := by decide +kernel
theorem dX0_begin_3 : decode cX0_begin 3 = .ok (.imul, 1) := by decide +kernel
theorem dX0_begin_4 : decode cX0_begin 4 = .ok (.putfield 9, 3) := by decide +kernel
theorem dX0_begin_7 : decode cX0_begin 7 = .ok (.iconst 0, 1) := by decide +kernel
theorem dX0_begin_8 : decode cX0_begin 8 = .ok (.istore_n 3, 1) := by decide +kernel
theorem dX0_begin_9 : decode cX0_begin 9 = .ok (.iload_n 3, 1) := by decide +kernel
theorem dX0_begin_10 : decode cX0_begin 10 = .ok (.aload_n 0, 1) := by decide +kernel
theorem dX0_begin_11 : decode cX0_begin 11 = .ok (.getfield 9, 3) := by decide +kernel
theorem dX0_begin_14 : decode cX0_begin 14 = .ok (.if_icmp .ge 16, 3) := by decide +kernel
theorem dX0_begin_17 : decode cX0_begin 17 = .ok (.aload_n 0, 1) := by decide +kernel
theorem dX0_begin_18 : decode cX0_begin 18 = .ok (.getfield 15, 3) := by decide +kernel
theorem dX0_begin_21 : decode cX0_begin 21 = .ok (.iload_n 3, 1) := by decide +kernel
theorem dX0_begin_22 : decode cX0_begin 22 = .ok (.iload_n 2, 1) := by decide +kernel
theorem dX0_begin_23 : decode cX0_begin 23 = .ok (.iastore, 1) := by decide +kernel
theorem dX0_begin_24 : decode cX0_begin 24 = .ok (.iinc 3 1, 3) := by decide +kernel
theorem dX0_begin_27 : decode cX0_begin 27 = .ok (.goto (-18), 3) := by decide +kernel
theorem dX0_begin_30 : decode cX0_begin 30 = .ok (.return_, 1) := by decide +kernel
theorem dX0_hasLeg_0 : decode cX0_hasLeg 0 = .ok (.iload_n 1, 1) := by decide +kernel
theorem dX0_hasLeg_1 : decode cX0_hasLeg 1 = .ok (.ifCond .lt 15, 3) := by decide +kernel
theorem dX0_hasLeg_4 : decode cX0_hasLeg 4 = .ok (.iload_n 1, 1) := by decide +kernel
theorem dX0_hasLeg_5 : decode cX0_hasLeg 5 = .ok (.aload_n 0, 1) := by decide +kernel
theorem dX0_hasLeg_6 : decode cX0_hasLeg 6 = .ok (.getfield 9, 3) := by decide +kernel
theorem dX0_hasLeg_9 : decode cX0_hasLeg 9 = .ok (.if_icmp .ge 7, 3) := by decide +kernel
theorem dX0_hasLeg_12 : decode cX0_hasLeg 12 = .ok (.iconst 1, 1) := by decide +kernel
theorem dX0_hasLeg_13 : decode cX0_hasLeg 13 = .ok (.goto 4, 3) := by decide +kernel
theorem dX0_hasLeg_16 : decode cX0_hasLeg 16 = .ok (.iconst 0, 1) := by decide +kernel
theorem dX0_hasLeg_17 : decode cX0_hasLeg 17 = .ok (.ireturn, 1) := by decide +kernel
theorem dX0_legSum_0 : decode cX0_legSum 0 = .ok (.iconst 0, 1) := by decide +kernel
theorem dX0_legSum_1 : decode cX0_legSum 1 = .ok (.istore_n 1, 1) := by decide +kernel
theorem dX0_legSum_2 : decode cX0_legSum 2 = .ok (.iconst 0, 1) := by decide +kernel
theorem dX0_legSum_3 : decode cX0_legSum 3 = .ok (.istore_n 2, 1) := by decide +kernel
theorem dX0_legSum_4 : decode cX0_legSum 4 = .ok (.iload_n 2, 1) := by decide +kernel
theorem dX0_legSum_5 : decode cX0_legSum 5 = .ok (.aload_n 0, 1) := by decide +kernel
theorem dX0_legSum_6 : decode cX0_legSum 6 = .ok (.getfield 9, 3) := by decide +kernel
theorem dX0_legSum_9 : decode cX0_legSum 9 = .ok (.if_icmp .ge 18, 3) := by decide +kernel
theorem dX0_legSum_12 : decode cX0_legSum 12 = .ok (.iload_n 1, 1) := by decide +kernel
theorem dX0_legSum_13 : decode cX0_legSum 13 = .ok (.aload_n 0, 1) := by decide +kernel
theorem dX0_legSum_14 : decode cX0_legSum 14 = .ok (.getfield 15, 3) := by decide +kernel
theorem dX0_legSum_17 : decode cX0_legSum 17 = .ok (.iload_n 2, 1) := by decide +kernel
theorem dX0_legSum_18 : decode cX0_legSum 18 = .ok (.iaload, 1) := by decide +kernel
theorem dX0_legSum_19 : decode cX0_legSum 19 = .ok (.iadd, 1) := by decide +kernel
theorem dX0_legSum_20 : decode cX0_legSum 20 = .ok (.istore_n 1, 1) := by decide +kernel
theorem dX0_legSum_21 : decode cX0_legSum 21 = .ok (.iinc 2 1, 3) := by decide +kernel
theorem dX0_legSum_24 : decode cX0_legSum 24 = .ok (.goto (-20), 3) := by decide +kernel
theorem dX0_legSum_27 : decode cX0_legSum 27 = .ok (.iload_n 1, 1) := by decide +kernel
theorem dX0_legSum_28 : decode cX0_legSum 28 = .ok (.ireturn, 1) := by decide +kernel
theorem dX0_hasEvenPairs_0 : decode cX0_hasEvenPairs 0 = .ok (.iconst 0, 1) := by decide +kernel
theorem dX0_hasEvenPairs_1 : decode cX0_hasEvenPairs 1 = .ok (.istore_n 1, 1) := by decide +kernel
theorem dX0_hasEvenPairs_2 : decode cX0_hasEvenPairs 2 = .ok (.iload_n 1, 1) := by decide +kernel
theorem dX0_hasEvenPairs_3 : decode cX0_hasEvenPairs 3 = .ok (.iconst 1, 1) := by decide +kernel
theorem dX0_hasEvenPairs_4 : decode cX0_hasEvenPairs 4 = .ok (.iadd, 1) := by decide +kernel
theorem dX0_hasEvenPairs_5 : decode cX0_hasEvenPairs 5 = .ok (.aload_n 0, 1) := by decide +kernel
theorem dX0_hasEvenPairs_6 : decode cX0_hasEvenPairs 6 = .ok (.getfield 9, 3) := by decide +kernel
theorem dX0_hasEvenPairs_9 : decode cX0_hasEvenPairs 9 = .ok (.if_icmp .ge 33, 3) := by decide +kernel
theorem dX0_hasEvenPairs_12 : decode cX0_hasEvenPairs 12 = .ok (.aload_n 0, 1) := by decide +kernel
theorem dX0_hasEvenPairs_13 : decode cX0_hasEvenPairs 13 = .ok (.getfield 15, 3) := by decide +kernel
theorem dX0_hasEvenPairs_16 : decode cX0_hasEvenPairs 16 = .ok (.iload_n 1, 1) := by decide +kernel
theorem dX0_hasEvenPairs_17 : decode cX0_hasEvenPairs 17 = .ok (.iaload, 1) := by decide +kernel
theorem dX0_hasEvenPairs_18 : decode cX0_hasEvenPairs 18 = .ok (.aload_n 0, 1) := by decide +kernel
theorem dX0_hasEvenPairs_19 : decode cX0_hasEvenPairs 19 = .ok (.getfield 15, 3) := by decide +kernel
theorem dX0_hasEvenPairs_22 : decode cX0_hasEvenPairs 22 = .ok (.iload_n 1, 1) := by decide +kernel
theorem dX0_hasEvenPairs_23 : decode cX0_hasEvenPairs 23 = .ok (.iconst 1, 1) := by decide +kernel
theorem dX0_hasEvenPairs_24 : decode cX0_hasEvenPairs 24 = .ok (.iadd, 1) := by decide +kernel
theorem dX0_hasEvenPairs_25 : decode cX0_hasEvenPairs 25 = .ok (.iaload, 1) := by decide +kernel
theorem dX0_hasEvenPairs_26 : decode cX0_hasEvenPairs 26 = .ok (.isub, 1) := by decide +kernel
theorem dX0_hasEvenPairs_27 : decode cX0_hasEvenPairs 27 = .ok (.invokestatic 25, 3) := by decide +kernel
theorem dX0_hasEvenPairs_30 : decode cX0_hasEvenPairs 30 = .ok (.iconst 1, 1) := by decide +kernel
theorem dX0_hasEvenPairs_31 : decode cX0_hasEvenPairs 31 = .ok (.if_icmp .le 5, 3) := by decide +kernel
theorem dX0_hasEvenPairs_34 : decode cX0_hasEvenPairs 34 = .ok (.iconst 0, 1) := by decide +kernel
theorem dX0_hasEvenPairs_35 : decode cX0_hasEvenPairs 35 = .ok (.ireturn, 1) := by decide +kernel
theorem dX0_hasEvenPairs_36 : decode cX0_hasEvenPairs 36 = .ok (.iinc 1 2, 3) := by decide +kernel
theorem dX0_hasEvenPairs_39 : decode cX0_hasEvenPairs 39 = .ok (.goto (-37), 3) := by decide +kernel
theorem dX0_hasEvenPairs_42 : decode cX0_hasEvenPairs 42 = .ok (.iconst 1, 1) := by decide +kernel
theorem dX0_hasEvenPairs_43 : decode cX0_hasEvenPairs 43 = .ok (.ireturn, 1) := by decide +kernel
theorem dX1_init_0 : decode cX1_init 0 = .ok (.aload_n 0, 1) := by decide +kernel
theorem dX1_init_1 : decode cX1_init 1 = .ok (.invokespecial 3, 3) := by decide +kernel
theorem dX1_init_4 : decode cX1_init 4 = .ok (.aload_n 0, 1) := by decide +kernel
theorem dX1_init_5 : decode cX1_init 5 = .ok (.bipush 16, 2) := by decide +kernel
theorem dX1_init_7 : decode cX1_init 7 = .ok (.newarray .int, 2) := by decide +kernel
theorem dX1_init_9 : decode cX1_init 9 = .ok (.putfield 9, 3) := by decide +kernel
theorem dX1_init_12 : decode cX1_init 12 = .ok (.aload_n 0, 1) := by decide +kernel
theorem dX1_init_13 : decode cX1_init 13 = .ok (.bipush 16, 2) := by decide +kernel
theorem dX1_init_15 : decode cX1_init 15 = .ok (.newarray .int, 2) := by decide +kernel
theorem dX1_init_17 : decode cX1_init 17 = .ok (.putfield 15, 3) := by decide +kernel
theorem dX1_init_20 : decode cX1_init 20 = .ok (.aload_n 0, 1) := by decide +kernel
theorem dX1_init_21 : decode cX1_init 21 = .ok (.bipush 16, 2) := by decide +kernel
theorem dX1_init_23 : decode cX1_init 23 = .ok (.newarray .int, 2) := by decide +kernel
theorem dX1_init_25 : decode cX1_init 25 = .ok (.putfield 18, 3) := by decide +kernel
theorem dX1_init_28 : decode cX1_init 28 = .ok (.aload_n 0, 1) := by decide +kernel
theorem dX1_init_29 : decode cX1_init 29 = .ok (.new 21, 3) := by decide +kernel
theorem dX1_init_32 : decode cX1_init 32 = .ok (.dup, 1) := by decide +kernel
theorem dX1_init_33 : decode cX1_init 33 = .ok (.invokespecial 23, 3) := by decide +kernel
theorem dX1_init_36 : decode cX1_init 36 = .ok (.putfield 24, 3) := by decide +kernel
theorem dX1_init_39 : decode cX1_init 39 = .ok (.return_, 1) := by decide +kernel
theorem dX1_findByScan_0 : decode cX1_findByScan 0 = .ok (.aload_n 1, 1) := by decide +kernel
theorem dX1_findByScan_1 : decode cX1_findByScan 1 = .ok (.invokevirtual 28, 3) := by decide +kernel
theorem dX1_findByScan_4 : decode cX1_findByScan 4 = .ok (.istore_n 2, 1) := by decide +kernel
theorem dX1_findByScan_5 : decode cX1_findByScan 5 = .ok (.aload_n 1, 1) := by decide +kernel
theorem dX1_findByScan_6 : decode cX1_findByScan 6 = .ok (.invokevirtual 34, 3) := by decide +kernel
theorem dX1_findByScan_9 : decode cX1_findByScan 9 = .ok (.istore_n 3, 1) := by decide +kernel
theorem dX1_findByScan_10 : decode cX1_findByScan 10 = .ok (.iconst 0, 1) := by decide +kernel
theorem dX1_findByScan_11 : decode cX1_findByScan 11 = .ok (.istore 4, 2) := by decide +kernel
theorem dX1_findByScan_13 : decode cX1_findByScan 13 = .ok (.iconst 0, 1) := by decide +kernel
theorem dX1_findByScan_14 : decode cX1_findByScan 14 = .ok (.istore 5, 2) := by decide +kernel
theorem dX1_findByScan_16 : decode cX1_findByScan 16 = .ok (.iload 5, 2) := by decide +kernel
theorem dX1_findByScan_18 : decode cX1_findByScan 18 = .ok (.iload_n 3, 1) := by decide +kernel
theorem dX1_findByScan_19 : decode cX1_findByScan 19 = .ok (.if_icmp .ge 45, 3) := by decide +kernel
theorem dX1_findByScan_22 : decode cX1_findByScan 22 = .ok (.aload_n 0, 1) := by decide +kernel
theorem dX1_findByScan_23 : decode cX1_findByScan 23 = .ok (.aload_n 1, 1) := by decide +kernel
theorem dX1_findByScan_24 : decode cX1_findByScan 24 = .ok (.iload_n 2, 1) := by decide +kernel
theorem dX1_findByScan_25 : decode cX1_findByScan 25 = .ok (.invokevirtual 37, 3) := by decide +kernel
theorem dX1_findByScan_28 : decode cX1_findByScan 28 = .ok (.istore 6, 2) := by decide +kernel
theorem dX1_findByScan_30 : decode cX1_findByScan 30 = .ok (.iload 6, 2) := by decide +kernel
theorem dX1_findByScan_32 : decode cX1_findByScan 32 = .ok (.iconst (-1), 1) := by decide +kernel
theorem dX1_findByScan_33 : decode cX1_findByScan 33 = .ok (.if_icmp .ne 6, 3) := by decide +kernel
theorem dX1_findByScan_36 : decode cX1_findByScan 36 = .ok (.iload 4, 2) := by decide +kernel
theorem dX1_findByScan_38 : decode cX1_findByScan 38 = .ok (.ireturn, 1) := by decide +kernel
theorem dX1_findByScan_39 : decode cX1_findByScan 39 = .ok (.aload_n 0, 1) := by decide +kernel
theorem dX1_findByScan_40 : decode cX1_findByScan 40 = .ok (.getfield 9, 3) := by decide +kernel
theorem dX1_findByScan_43 : decode cX1_findByScan 43 = .ok (.iload 4, 2) := by decide +kernel
theorem dX1_findByScan_45 : decode cX1_findByScan 45 = .ok (.iload 6, 2) := by decide +kernel
theorem dX1_findByScan_47 : decode cX1_findByScan 47 = .ok (.iastore, 1) := by decide +kernel
theorem dX1_findByScan_48 : decode cX1_findByScan 48 = .ok (.iinc 4 1, 3) := by decide +kernel
theorem dX1_findByScan_51 : decode cX1_findByScan 51 = .ok (.iload_n 2, 1) := by decide +kernel
theorem dX1_findByScan_52 : decode cX1_findByScan 52 = .ok (.iconst 1, 1) := by decide +kernel
theorem dX1_findByScan_53 : decode cX1_findByScan 53 = .ok (.iload 6, 2) := by decide +kernel
theorem dX1_findByScan_55 : decode cX1_findByScan 55 = .ok (.ishl, 1) := by decide +kernel
theorem dX1_findByScan_56 : decode cX1_findByScan 56 = .ok (.ior, 1) := by decide +kernel
theorem dX1_findByScan_57 : decode cX1_findByScan 57 = .ok (.istore_n 2, 1) := by decide +kernel
theorem dX1_findByScan_58 : decode cX1_findByScan 58 = .ok (.iinc 5 1, 3) := by decide +kernel
theorem dX1_findByScan_61 : decode cX1_findByScan 61 = .ok (.goto (-45), 3) := by decide +kernel
theorem dX1_findByScan_64 : decode cX1_findByScan 64 = .ok (.iload 4, 2) := by decide +kernel
theorem dX1_findByScan_66 : decode cX1_findByScan 66 = .ok (.ireturn, 1) := by decide +kernel
theorem dX1_lowestFree_0 : decode cX1_lowestFree 0 = .ok (.iconst 0, 1) := by decide +kernel
theorem dX1_lowestFree_1 : decode cX1_lowestFree 1 = .ok (.istore_n 3, 1) := by decide +kernel
theorem dX1_lowestFree_2 : decode cX1_lowestFree 2 = .ok (.iload_n 3, 1) := by decide +kernel
theorem dX1_lowestFree_3 : decode cX1_lowestFree 3 = .ok (.aload_n 1, 1) := by decide +kernel
theorem dX1_lowestFree_4 : decode cX1_lowestFree 4 = .ok (.getfield 41, 3) := by decide +kernel
theorem dX1_lowestFree_7 : decode cX1_lowestFree 7 = .ok (.if_icmp .ge 28, 3) := by decide +kernel
theorem dX1_lowestFree_10 : decode cX1_lowestFree 10 = .ok (.iload_n 2, 1) := by decide +kernel
theorem dX1_lowestFree_11 : decode cX1_lowestFree 11 = .ok (.iload_n 3, 1) := by decide +kernel
theorem dX1_lowestFree_12 : decode cX1_lowestFree 12 = .ok (.invokestatic 45, 3) := by decide +kernel
theorem dX1_lowestFree_15 : decode cX1_lowestFree 15 = .ok (.ifCond .ne 14, 3) := by decide +kernel
theorem dX1_lowestFree_18 : decode cX1_lowestFree 18 = .ok (.aload_n 1, 1) := by decide +kernel
theorem dX1_lowestFree_19 : decode cX1_lowestFree 19 = .ok (.iload_n 3, 1) := by decide +kernel
theorem dX1_lowestFree_20 : decode cX1_lowestFree 20 = .ok (.iload_n 2, 1) := by decide +kernel
theorem dX1_lowestFree_21 : decode cX1_lowestFree 21 = .ok (.invokevirtual 49, 3) := by decide +kernel
theorem dX1_lowestFree_24 : decode cX1_lowestFree 24 = .ok (.ifCond .ne 5, 3) := by decide +kernel
theorem dX1_lowestFree_27 : decode cX1_lowestFree 27 = .ok (.iload_n 3, 1) := by decide +kernel
theorem dX1_lowestFree_28 : decode cX1_lowestFree 28 = .ok (.ireturn, 1) := by decide +kernel
theorem dX1_lowestFree_29 : decode cX1_lowestFree 29 = .ok (.iinc 3 1, 3) := by decide +kernel
theorem dX1_lowestFree_32 : decode cX1_lowestFree 32 = .ok (.goto (-30), 3) := by decide +kernel
theorem dX1_lowestFree_35 : decode cX1_lowestFree 35 = .ok (.iconst (-1), 1) := by decide +kernel
theorem dX1_lowestFree_36 : decode cX1_lowestFree 36 = .ok (.ireturn, 1) := by decide +kernel
theorem dX1_findByQueue_0 : decode cX1_findByQueue 0 = .ok (.aload_n 0, 1) := by decide +kernel
theorem dX1_findByQueue_1 : decode cX1_findByQueue 1 = .ok (.aload_n 1, 1) := by decide +kernel
theorem dX1_findByQueue_2 : decode cX1_findByQueue 2 = .ok (.invokevirtual 52, 3) := by decide +kernel
theorem dX1_findByQueue_5 : decode cX1_findByQueue 5 = .ok (.aload_n 1, 1) := by decide +kernel
theorem dX1_findByQueue_6 : decode cX1_findByQueue 6 = .ok (.invokevirtual 34, 3) := by decide +kernel
theorem dX1_findByQueue_9 : decode cX1_findByQueue 9 = .ok (.istore_n 2, 1) := by decide +kernel
theorem dX1_findByQueue_10 : decode cX1_findByQueue 10 = .ok (.iconst 0, 1) := by decide +kernel
theorem dX1_findByQueue_11 : decode cX1_findByQueue 11 = .ok (.istore_n 3, 1) := by decide +kernel
theorem dX1_findByQueue_12 : decode cX1_findByQueue 12 = .ok (.iconst 0, 1) := by decide +kernel
theorem dX1_findByQueue_13 : decode cX1_findByQueue 13 = .ok (.istore 4, 2) := by decide +kernel
theorem dX1_findByQueue_15 : decode cX1_findByQueue 15 = .ok (.iload 4, 2) := by decide +kernel
theorem dX1_findByQueue_17 : decode cX1_findByQueue 17 = .ok (.iload_n 2, 1) := by decide +kernel
theorem dX1_findByQueue_18 : decode cX1_findByQueue 18 = .ok (.if_icmp .ge 44, 3) := by decide +kernel
theorem dX1_findByQueue_21 : decode cX1_findByQueue 21 = .ok (.aload_n 0, 1) := by decide +kernel
theorem dX1_findByQueue_22 : decode cX1_findByQueue 22 = .ok (.getfield 24, 3) := by decide +kernel
theorem dX1_findByQueue_25 : decode cX1_findByQueue 25 = .ok (.invokevirtual 56, 3) := by decide +kernel
theorem dX1_findByQueue_28 : decode cX1_findByQueue 28 = .ok (.istore 5, 2) := by decide +kernel
theorem dX1_findByQueue_30 : decode cX1_findByQueue 30 = .ok (.iload 5, 2) := by decide +kernel
theorem dX1_findByQueue_32 : decode cX1_findByQueue 32 = .ok (.iconst (-1), 1) := by decide +kernel
theorem dX1_findByQueue_33 : decode cX1_findByQueue 33 = .ok (.if_icmp .ne 5, 3) := by decide +kernel
theorem dX1_findByQueue_36 : decode cX1_findByQueue 36 = .ok (.iload_n 3, 1) := by decide +kernel
theorem dX1_findByQueue_37 : decode cX1_findByQueue 37 = .ok (.ireturn, 1) := by decide +kernel
theorem dX1_findByQueue_38 : decode cX1_findByQueue 38 = .ok (.aload_n 0, 1) := by decide +kernel
theorem dX1_findByQueue_39 : decode cX1_findByQueue 39 = .ok (.getfield 15, 3) := by decide +kernel
theorem dX1_findByQueue_42 : decode cX1_findByQueue 42 = .ok (.iload_n 3, 1) := by decide +kernel
theorem dX1_findByQueue_43 : decode cX1_findByQueue 43 = .ok (.iload 5, 2) := by decide +kernel
theorem dX1_findByQueue_45 : decode cX1_findByQueue 45 = .ok (.iastore, 1) := by decide +kernel
theorem dX1_findByQueue_46 : decode cX1_findByQueue 46 = .ok (.iinc 3 1, 3) := by decide +kernel
theorem dX1_findByQueue_49 : decode cX1_findByQueue 49 = .ok (.aload_n 0, 1) := by decide +kernel
theorem dX1_findByQueue_50 : decode cX1_findByQueue 50 = .ok (.aload_n 1, 1) := by decide +kernel
theorem dX1_findByQueue_51 : decode cX1_findByQueue 51 = .ok (.iload 5, 2) := by decide +kernel
theorem dX1_findByQueue_53 : decode cX1_findByQueue 53 = .ok (.invokevirtual 59, 3) := by decide +kernel
theorem dX1_findByQueue_56 : decode cX1_findByQueue 56 = .ok (.iinc 4 1, 3) := by decide +kernel
theorem dX1_findByQueue_59 : decode cX1_findByQueue 59 = .ok (.goto (-44), 3) := by decide +kernel
theorem dX1_findByQueue_62 : decode cX1_findByQueue 62 = .ok (.iload_n 3, 1) := by decide +kernel
theorem dX1_findByQueue_63 : decode cX1_findByQueue 63 = .ok (.ireturn, 1) := by decide +kernel
theorem dX1_queueFreeSleeves_0 : decode cX1_queueFreeSleeves 0 = .ok (.aload_n 1, 1) := by decide +kernel
theorem dX1_queueFreeSleeves_1 : decode cX1_queueFreeSleeves 1 = .ok (.invokevirtual 28, 3) := by decide +kernel
theorem dX1_queueFreeSleeves_4 : decode cX1_queueFreeSleeves 4 = .ok (.istore_n 2, 1) := by decide +kernel
theorem dX1_queueFreeSleeves_5 : decode cX1_queueFreeSleeves 5 = .ok (.aload_n 0, 1) := by decide +kernel
theorem dX1_queueFreeSleeves_6 : decode cX1_queueFreeSleeves 6 = .ok (.getfield 24, 3) := by decide +kernel
theorem dX1_queueFreeSleeves_9 : decode cX1_queueFreeSleeves 9 = .ok (.iconst 0, 1) := by decide +kernel
theorem dX1_queueFreeSleeves_10 : decode cX1_queueFreeSleeves 10 = .ok (.putfield 63, 3) := by decide +kernel
theorem dX1_queueFreeSleeves_13 : decode cX1_queueFreeSleeves 13 = .ok (.iconst 0, 1) := by decide +kernel
theorem dX1_queueFreeSleeves_14 : decode cX1_queueFreeSleeves 14 = .ok (.istore_n 3, 1) := by decide +kernel
theorem dX1_queueFreeSleeves_15 : decode cX1_queueFreeSleeves 15 = .ok (.iload_n 3, 1) := by decide +kernel
theorem dX1_queueFreeSleeves_16 : decode cX1_queueFreeSleeves 16 = .ok (.aload_n 1, 1) := by decide +kernel
theorem dX1_queueFreeSleeves_17 : decode cX1_queueFreeSleeves 17 = .ok (.getfield 41, 3) := by decide +kernel
theorem dX1_queueFreeSleeves_20 : decode cX1_queueFreeSleeves 20 = .ok (.if_icmp .ge 53, 3) := by decide +kernel
theorem dX1_queueFreeSleeves_23 : decode cX1_queueFreeSleeves 23 = .ok (.aload_n 0, 1) := by decide +kernel
theorem dX1_queueFreeSleeves_24 : decode cX1_queueFreeSleeves 24 = .ok (.getfield 18, 3) := by decide +kernel
theorem dX1_queueFreeSleeves_27 : decode cX1_queueFreeSleeves 27 = .ok (.iload_n 3, 1) := by decide +kernel
theorem dX1_queueFreeSleeves_28 : decode cX1_queueFreeSleeves 28 = .ok (.aload_n 1, 1) := by decide +kernel
theorem dX1_queueFreeSleeves_29 : decode cX1_queueFreeSleeves 29 = .ok (.getfield 66, 3) := by decide +kernel
theorem dX1_queueFreeSleeves_32 : decode cX1_queueFreeSleeves 32 = .ok (.iload_n 3, 1) := by decide +kernel
theorem dX1_queueFreeSleeves_33 : decode cX1_queueFreeSleeves 33 = .ok (.iaload, 1) := by decide +kernel
theorem dX1_queueFreeSleeves_34 : decode cX1_queueFreeSleeves 34 = .ok (.iload_n 2, 1) := by decide +kernel
theorem dX1_queueFreeSleeves_35 : decode cX1_queueFreeSleeves 35 = .ok (.iconst (-1), 1) := by decide +kernel
theorem dX1_queueFreeSleeves_36 : decode cX1_queueFreeSleeves 36 = .ok (.ixor, 1) := by decide +kernel
theorem dX1_queueFreeSleeves_37 : decode cX1_queueFreeSleeves 37 = .ok (.iand, 1) := by decide +kernel
theorem dX1_queueFreeSleeves_38 : decode cX1_queueFreeSleeves 38 = .ok (.invokestatic 69, 3) := by decide +kernel
theorem dX1_queueFreeSleeves_41 : decode cX1_queueFreeSleeves 41 = .ok (.iastore, 1) := by decide +kernel
theorem dX1_queueFreeSleeves_42 : decode cX1_queueFreeSleeves 42 = .ok (.aload_n 0, 1) := by decide +kernel
theorem dX1_queueFreeSleeves_43 : decode cX1_queueFreeSleeves 43 = .ok (.getfield 18, 3) := by decide +kernel
theorem dX1_queueFreeSleeves_46 : decode cX1_queueFreeSleeves 46 = .ok (.iload_n 3, 1) := by decide +kernel
theorem dX1_queueFreeSleeves_47 : decode cX1_queueFreeSleeves 47 = .ok (.iaload, 1) := by decide +kernel
theorem dX1_queueFreeSleeves_48 : decode cX1_queueFreeSleeves 48 = .ok (.ifCond .ne 19, 3) := by decide +kernel
theorem dX1_queueFreeSleeves_51 : decode cX1_queueFreeSleeves 51 = .ok (.aload_n 1, 1) := by decide +kernel
theorem dX1_queueFreeSleeves_52 : decode cX1_queueFreeSleeves 52 = .ok (.iload_n 3, 1) := by decide +kernel
theorem dX1_queueFreeSleeves_53 : decode cX1_queueFreeSleeves 53 = .ok (.invokevirtual 75, 3) := by decide +kernel
theorem dX1_queueFreeSleeves_56 : decode cX1_queueFreeSleeves 56 = .ok (.ifCond .ne 11, 3) := by decide +kernel
theorem dX1_queueFreeSleeves_59 : decode cX1_queueFreeSleeves 59 = .ok (.aload_n 0, 1) := by decide +kernel
theorem dX1_queueFreeSleeves_60 : decode cX1_queueFreeSleeves 60 = .ok (.getfield 24, 3) := by decide +kernel
theorem dX1_queueFreeSleeves_63 : decode cX1_queueFreeSleeves 63 = .ok (.iload_n 3, 1) := by decide +kernel
theorem dX1_queueFreeSleeves_64 : decode cX1_queueFreeSleeves 64 = .ok (.invokevirtual 79, 3) := by decide +kernel
theorem dX1_queueFreeSleeves_67 : decode cX1_queueFreeSleeves 67 = .ok (.iinc 3 1, 3) := by decide +kernel
theorem dX1_queueFreeSleeves_70 : decode cX1_queueFreeSleeves 70 = .ok (.goto (-55), 3) := by decide +kernel
theorem dX1_queueFreeSleeves_73 : decode cX1_queueFreeSleeves 73 = .ok (.return_, 1) := by decide +kernel
theorem dX1_releaseFrom_0 : decode cX1_releaseFrom 0 = .ok (.iconst 0, 1) := by decide +kernel
theorem dX1_releaseFrom_1 : decode cX1_releaseFrom 1 = .ok (.istore_n 3, 1) := by decide +kernel
theorem dX1_releaseFrom_2 : decode cX1_releaseFrom 2 = .ok (.iload_n 3, 1) := by decide +kernel
theorem dX1_releaseFrom_3 : decode cX1_releaseFrom 3 = .ok (.aload_n 1, 1) := by decide +kernel
theorem dX1_releaseFrom_4 : decode cX1_releaseFrom 4 = .ok (.getfield 41, 3) := by decide +kernel
theorem dX1_releaseFrom_7 : decode cX1_releaseFrom 7 = .ok (.if_icmp .ge 53, 3) := by decide +kernel
theorem dX1_releaseFrom_10 : decode cX1_releaseFrom 10 = .ok (.aload_n 1, 1) := by decide +kernel
theorem dX1_releaseFrom_11 : decode cX1_releaseFrom 11 = .ok (.iload_n 2, 1) := by decide +kernel
theorem dX1_releaseFrom_12 : decode cX1_releaseFrom 12 = .ok (.iload_n 3, 1) := by decide +kernel
theorem dX1_releaseFrom_13 : decode cX1_releaseFrom 13 = .ok (.invokevirtual 83, 3) := by decide +kernel
theorem dX1_releaseFrom_16 : decode cX1_releaseFrom 16 = .ok (.ifCond .eq 38, 3) := by decide +kernel
theorem dX1_releaseFrom_19 : decode cX1_releaseFrom 19 = .ok (.aload_n 0, 1) := by decide +kernel
theorem dX1_releaseFrom_20 : decode cX1_releaseFrom 20 = .ok (.getfield 18, 3) := by decide +kernel
theorem dX1_releaseFrom_23 : decode cX1_releaseFrom 23 = .ok (.iload_n 3, 1) := by decide +kernel
theorem dX1_releaseFrom_24 : decode cX1_releaseFrom 24 = .ok (.dup2, 1) := by decide +kernel
theorem dX1_releaseFrom_25 : decode cX1_releaseFrom 25 = .ok (.iaload, 1) := by decide +kernel
theorem dX1_releaseFrom_26 : decode cX1_releaseFrom 26 = .ok (.iconst 1, 1) := by decide +kernel
theorem dX1_releaseFrom_27 : decode cX1_releaseFrom 27 = .ok (.isub, 1) := by decide +kernel
theorem dX1_releaseFrom_28 : decode cX1_releaseFrom 28 = .ok (.iastore, 1) := by decide +kernel
theorem dX1_releaseFrom_29 : decode cX1_releaseFrom 29 = .ok (.aload_n 0, 1) := by decide +kernel
theorem dX1_releaseFrom_30 : decode cX1_releaseFrom 30 = .ok (.getfield 18, 3) := by decide +kernel
theorem dX1_releaseFrom_33 : decode cX1_releaseFrom 33 = .ok (.iload_n 3, 1) := by decide +kernel
theorem dX1_releaseFrom_34 : decode cX1_releaseFrom 34 = .ok (.iaload, 1) := by decide +kernel
theorem dX1_releaseFrom_35 : decode cX1_releaseFrom 35 = .ok (.ifCond .ne 19, 3) := by decide +kernel
theorem dX1_releaseFrom_38 : decode cX1_releaseFrom 38 = .ok (.aload_n 1, 1) := by decide +kernel
theorem dX1_releaseFrom_39 : decode cX1_releaseFrom 39 = .ok (.iload_n 3, 1) := by decide +kernel
theorem dX1_releaseFrom_40 : decode cX1_releaseFrom 40 = .ok (.invokevirtual 75, 3) := by decide +kernel
theorem dX1_releaseFrom_43 : decode cX1_releaseFrom 43 = .ok (.ifCond .ne 11, 3) := by decide +kernel
theorem dX1_releaseFrom_46 : decode cX1_releaseFrom 46 = .ok (.aload_n 0, 1) := by decide +kernel
theorem dX1_releaseFrom_47 : decode cX1_releaseFrom 47 = .ok (.getfield 24, 3) := by decide +kernel
theorem dX1_releaseFrom_50 : decode cX1_releaseFrom 50 = .ok (.iload_n 3, 1) := by decide +kernel
theorem dX1_releaseFrom_51 : decode cX1_releaseFrom 51 = .ok (.invokevirtual 79, 3) := by decide +kernel
theorem dX1_releaseFrom_54 : decode cX1_releaseFrom 54 = .ok (.iinc 3 1, 3) := by decide +kernel
theorem dX1_releaseFrom_57 : decode cX1_releaseFrom 57 = .ok (.goto (-55), 3) := by decide +kernel
theorem dX1_releaseFrom_60 : decode cX1_releaseFrom 60 = .ok (.return_, 1) := by decide +kernel
theorem dX1_bothWaysAgree_0 : decode cX1_bothWaysAgree 0 = .ok (.aload_n 0, 1) := by decide +kernel
theorem dX1_bothWaysAgree_1 : decode cX1_bothWaysAgree 1 = .ok (.aload_n 1, 1) := by decide +kernel
theorem dX1_bothWaysAgree_2 : decode cX1_bothWaysAgree 2 = .ok (.invokevirtual 86, 3) := by decide +kernel
theorem dX1_bothWaysAgree_5 : decode cX1_bothWaysAgree 5 = .ok (.istore_n 2, 1) := by decide +kernel
theorem dX1_bothWaysAgree_6 : decode cX1_bothWaysAgree 6 = .ok (.aload_n 0, 1) := by decide +kernel
theorem dX1_bothWaysAgree_7 : decode cX1_bothWaysAgree 7 = .ok (.aload_n 1, 1) := by decide +kernel
theorem dX1_bothWaysAgree_8 : decode cX1_bothWaysAgree 8 = .ok (.invokevirtual 90, 3) := by decide +kernel
theorem dX1_bothWaysAgree_11 : decode cX1_bothWaysAgree 11 = .ok (.iload_n 2, 1) := by decide +kernel
theorem dX1_bothWaysAgree_12 : decode cX1_bothWaysAgree 12 = .ok (.if_icmp .eq 5, 3) := by decide +kernel
theorem dX1_bothWaysAgree_15 : decode cX1_bothWaysAgree 15 = .ok (.iconst 0, 1) := by decide +kernel
theorem dX1_bothWaysAgree_16 : decode cX1_bothWaysAgree 16 = .ok (.ireturn, 1) := by decide +kernel
theorem dX1_bothWaysAgree_17 : decode cX1_bothWaysAgree 17 = .ok (.iconst 0, 1) := by decide +kernel
theorem dX1_bothWaysAgree_18 : decode cX1_bothWaysAgree 18 = .ok (.istore_n 3, 1) := by decide +kernel
theorem dX1_bothWaysAgree_19 : decode cX1_bothWaysAgree 19 = .ok (.iload_n 3, 1) := by decide +kernel
theorem dX1_bothWaysAgree_20 : decode cX1_bothWaysAgree 20 = .ok (.iload_n 2, 1) := by decide +kernel
theorem dX1_bothWaysAgree_21 : decode cX1_bothWaysAgree 21 = .ok (.if_icmp .ge 26, 3) := by decide +kernel
theorem dX1_bothWaysAgree_24 : decode cX1_bothWaysAgree 24 = .ok (.aload_n 0, 1) := by decide +kernel
theorem dX1_bothWaysAgree_25 : decode cX1_bothWaysAgree 25 = .ok (.getfield 9, 3) := by decide +kernel
theorem dX1_bothWaysAgree_28 : decode cX1_bothWaysAgree 28 = .ok (.iload_n 3, 1) := by decide +kernel
theorem dX1_bothWaysAgree_29 : decode cX1_bothWaysAgree 29 = .ok (.iaload, 1) := by decide +kernel
theorem dX1_bothWaysAgree_30 : decode cX1_bothWaysAgree 30 = .ok (.aload_n 0, 1) := by decide +kernel
theorem dX1_bothWaysAgree_31 : decode cX1_bothWaysAgree 31 = .ok (.getfield 15, 3) := by decide +kernel
theorem dX1_bothWaysAgree_34 : decode cX1_bothWaysAgree 34 = .ok (.iload_n 3, 1) := by decide +kernel
theorem dX1_bothWaysAgree_35 : decode cX1_bothWaysAgree 35 = .ok (.iaload, 1) := by decide +kernel
theorem dX1_bothWaysAgree_36 : decode cX1_bothWaysAgree 36 = .ok (.if_icmp .eq 5, 3) := by decide +kernel
theorem dX1_bothWaysAgree_39 : decode cX1_bothWaysAgree 39 = .ok (.iconst 0, 1) := by decide +kernel
theorem dX1_bothWaysAgree_40 : decode cX1_bothWaysAgree 40 = .ok (.ireturn, 1) := by decide +kernel
theorem dX1_bothWaysAgree_41 : decode cX1_bothWaysAgree 41 = .ok (.iinc 3 1, 3) := by decide +kernel
theorem dX1_bothWaysAgree_44 : decode cX1_bothWaysAgree 44 = .ok (.goto (-25), 3) := by decide +kernel
theorem dX1_bothWaysAgree_47 : decode cX1_bothWaysAgree 47 = .ok (.iconst 1, 1) := by decide +kernel
theorem dX1_bothWaysAgree_48 : decode cX1_bothWaysAgree 48 = .ok (.ireturn, 1) := by decide +kernel
theorem dX2_init_0 : decode cX2_init 0 = .ok (.aload_n 0, 1) := by decide +kernel
theorem dX2_init_1 : decode cX2_init 1 = .ok (.invokespecial 3, 3) := by decide +kernel
theorem dX2_init_4 : decode cX2_init 4 = .ok (.aload_n 0, 1) := by decide +kernel
theorem dX2_init_5 : decode cX2_init 5 = .ok (.bipush 60, 2) := by decide +kernel
theorem dX2_init_7 : decode cX2_init 7 = .ok (.newarray .char, 2) := by decide +kernel
theorem dX2_init_9 : decode cX2_init 9 = .ok (.putfield 9, 3) := by decide +kernel
theorem dX2_init_12 : decode cX2_init 12 = .ok (.aload_n 0, 1) := by decide +kernel
theorem dX2_init_13 : decode cX2_init 13 = .ok (.iconst 0, 1) := by decide +kernel
theorem dX2_init_14 : decode cX2_init 14 = .ok (.putfield 15, 3) := by decide +kernel
theorem dX2_init_17 : decode cX2_init 17 = .ok (.aload_n 0, 1) := by decide +kernel
theorem dX2_init_18 : decode cX2_init 18 = .ok (.bipush 60, 2) := by decide +kernel
theorem dX2_init_20 : decode cX2_init 20 = .ok (.newarray .int, 2) := by decide +kernel
theorem dX2_init_22 : decode cX2_init 22 = .ok (.putfield 19, 3) := by decide +kernel
theorem dX2_init_25 : decode cX2_init 25 = .ok (.aload_n 0, 1) := by decide +kernel
theorem dX2_init_26 : decode cX2_init 26 = .ok (.sipush 180, 3) := by decide +kernel
theorem dX2_init_29 : decode cX2_init 29 = .ok (.newarray .int, 2) := by decide +kernel
theorem dX2_init_31 : decode cX2_init 31 = .ok (.putfield 23, 3) := by decide +kernel
theorem dX2_init_34 : decode cX2_init 34 = .ok (.aload_n 0, 1) := by decide +kernel
theorem dX2_init_35 : decode cX2_init 35 = .ok (.iconst 0, 1) := by decide +kernel
theorem dX2_init_36 : decode cX2_init 36 = .ok (.putfield 26, 3) := by decide +kernel
theorem dX2_init_39 : decode cX2_init 39 = .ok (.return_, 1) := by decide +kernel
theorem dX2_append_0 : decode cX2_append 0 = .ok (.aload_n 0, 1) := by decide +kernel
theorem dX2_append_1 : decode cX2_append 1 = .ok (.getfield 15, 3) := by decide +kernel
theorem dX2_append_4 : decode cX2_append 4 = .ok (.bipush 60, 2) := by decide +kernel
theorem dX2_append_6 : decode cX2_append 6 = .ok (.if_icmp .ge 23, 3) := by decide +kernel
theorem dX2_append_9 : decode cX2_append 9 = .ok (.aload_n 0, 1) := by decide +kernel
theorem dX2_append_10 : decode cX2_append 10 = .ok (.getfield 9, 3) := by decide +kernel
theorem dX2_append_13 : decode cX2_append 13 = .ok (.aload_n 0, 1) := by decide +kernel
theorem dX2_append_14 : decode cX2_append 14 = .ok (.getfield 15, 3) := by decide +kernel
theorem dX2_append_17 : decode cX2_append 17 = .ok (.iload_n 1, 1) := by decide +kernel
theorem dX2_append_18 : decode cX2_append 18 = .ok (.castore, 1) := by decide +kernel
theorem dX2_append_19 : decode cX2_append 19 = .ok (.aload_n 0, 1) := by decide +kernel
theorem dX2_append_20 : decode cX2_append 20 = .ok (.dup, 1) := by decide +kernel
theorem dX2_append_21 : decode cX2_append 21 = .ok (.getfield 15, 3) := by decide +kernel
theorem dX2_append_24 : decode cX2_append 24 = .ok (.iconst 1, 1) := by decide +kernel
theorem dX2_append_25 : decode cX2_append 25 = .ok (.iadd, 1) := by decide +kernel
theorem dX2_append_26 : decode cX2_append 26 = .ok (.putfield 15, 3) := by decide +kernel
theorem dX2_append_29 : decode cX2_append 29 = .ok (.aload_n 0, 1) := by decide +kernel
theorem dX2_append_30 : decode cX2_append 30 = .ok (.getfield 15, 3) := by decide +kernel
theorem dX2_append_33 : decode cX2_append 33 = .ok (.ireturn, 1) := by decide +kernel
theorem dX2_read_0 : decode cX2_read 0 = .ok (.aload_n 0, 1) := by decide +kernel
theorem dX2_read_1 : decode cX2_read 1 = .ok (.iconst 0, 1) := by decide +kernel
theorem dX2_read_2 : decode cX2_read 2 = .ok (.putfield 26, 3) := by decide +kernel
theorem dX2_read_5 : decode cX2_read 5 = .ok (.iconst 0, 1) := by decide +kernel
theorem dX2_read_6 : decode cX2_read 6 = .ok (.istore_n 1, 1) := by decide +kernel
theorem dX2_read_7 : decode cX2_read 7 = .ok (.iconst 0, 1) := by decide +kernel
theorem dX2_read_8 : decode cX2_read 8 = .ok (.istore_n 2, 1) := by decide +kernel
theorem dX2_read_9 : decode cX2_read 9 = .ok (.iload_n 2, 1) := by decide +kernel
theorem dX2_read_10 : decode cX2_read 10 = .ok (.bipush 60, 2) := by decide +kernel
theorem dX2_read_12 : decode cX2_read 12 = .ok (.if_icmp .ge 60, 3) := by decide +kernel
theorem dX2_read_15 : decode cX2_read 15 = .ok (.aload_n 0, 1) := by decide +kernel
theorem dX2_read_16 : decode cX2_read 16 = .ok (.iload_n 1, 1) := by decide +kernel
theorem dX2_read_17 : decode cX2_read 17 = .ok (.invokevirtual 29, 3) := by decide +kernel
theorem dX2_read_20 : decode cX2_read 20 = .ok (.istore_n 3, 1) := by decide +kernel
theorem dX2_read_21 : decode cX2_read 21 = .ok (.iload_n 3, 1) := by decide +kernel
theorem dX2_read_22 : decode cX2_read 22 = .ok (.ifCond .ge 7, 3) := by decide +kernel
theorem dX2_read_25 : decode cX2_read 25 = .ok (.iload_n 3, 1) := by decide +kernel
theorem dX2_read_26 : decode cX2_read 26 = .ok (.iconst (-1), 1) := by decide +kernel
theorem dX2_read_27 : decode cX2_read 27 = .ok (.ixor, 1) := by decide +kernel
theorem dX2_read_28 : decode cX2_read 28 = .ok (.ireturn, 1) := by decide +kernel
theorem dX2_read_29 : decode cX2_read 29 = .ok (.aload_n 0, 1) := by decide +kernel
theorem dX2_read_30 : decode cX2_read 30 = .ok (.dup, 1) := by decide +kernel
theorem dX2_read_31 : decode cX2_read 31 = .ok (.getfield 26, 3) := by decide +kernel
theorem dX2_read_34 : decode cX2_read 34 = .ok (.iconst 1, 1) := by decide +kernel
theorem dX2_read_35 : decode cX2_read 35 = .ok (.iadd, 1) := by decide +kernel
theorem dX2_read_36 : decode cX2_read 36 = .ok (.putfield 26, 3) := by decide +kernel
theorem dX2_read_39 : decode cX2_read 39 = .ok (.iload_n 3, 1) := by decide +kernel
theorem dX2_read_40 : decode cX2_read 40 = .ok (.aload_n 0, 1) := by decide +kernel
theorem dX2_read_41 : decode cX2_read 41 = .ok (.getfield 15, 3) := by decide +kernel
theorem dX2_read_44 : decode cX2_read 44 = .ok (.if_icmp .lt 5, 3) := by decide +kernel
theorem dX2_read_47 : decode cX2_read 47 = .ok (.iconst (-1), 1) := by decide +kernel
theorem dX2_read_48 : decode cX2_read 48 = .ok (.ireturn, 1) := by decide +kernel
theorem dX2_read_49 : decode cX2_read 49 = .ok (.aload_n 0, 1) := by decide +kernel
theorem dX2_read_50 : decode cX2_read 50 = .ok (.getfield 9, 3) := by decide +kernel
theorem dX2_read_53 : decode cX2_read 53 = .ok (.iload_n 3, 1) := by decide +kernel
theorem dX2_read_54 : decode cX2_read 54 = .ok (.caload, 1) := by decide +kernel
theorem dX2_read_55 : decode cX2_read 55 = .ok (.bipush 59, 2) := by decide +kernel
theorem dX2_read_57 : decode cX2_read 57 = .ok (.if_icmp .eq 5, 3) := by decide +kernel
theorem dX2_read_60 : decode cX2_read 60 = .ok (.iload_n 3, 1) := by decide +kernel
theorem dX2_read_61 : decode cX2_read 61 = .ok (.ireturn, 1) := by decide +kernel
theorem dX2_read_62 : decode cX2_read 62 = .ok (.iload_n 3, 1) := by decide +kernel
theorem dX2_read_63 : decode cX2_read 63 = .ok (.iconst 1, 1) := by decide +kernel
theorem dX2_read_64 : decode cX2_read 64 = .ok (.iadd, 1) := by decide +kernel
theorem dX2_read_65 : decode cX2_read 65 = .ok (.istore_n 1, 1) := by decide +kernel
theorem dX2_read_66 : decode cX2_read 66 = .ok (.iinc 2 1, 3) := by decide +kernel
theorem dX2_read_69 : decode cX2_read 69 = .ok (.goto (-60), 3) := by decide +kernel
theorem dX2_read_72 : decode cX2_read 72 = .ok (.iload_n 1, 1) := by decide +kernel
theorem dX2_read_73 : decode cX2_read 73 = .ok (.ireturn, 1) := by decide +kernel
theorem dX2_readCommand_0 : decode cX2_readCommand 0 = .ok (.iload_n 1, 1) := by decide +kernel
theorem dX2_readCommand_1 : decode cX2_readCommand 1 = .ok (.istore_n 2, 1) := by decide +kernel
theorem dX2_readCommand_2 : decode cX2_readCommand 2 = .ok (.iconst 0, 1) := by decide +kernel
theorem dX2_readCommand_3 : decode cX2_readCommand 3 = .ok (.istore_n 3, 1) := by decide +kernel
theorem dX2_readCommand_4 : decode cX2_readCommand 4 = .ok (.iload_n 3, 1) := by decide +kernel
theorem dX2_readCommand_5 : decode cX2_readCommand 5 = .ok (.bipush 10, 2) := by decide +kernel
theorem dX2_readCommand_7 : decode cX2_readCommand 7 = .ok (.if_icmp .ge 44, 3) := by decide +kernel
theorem dX2_readCommand_10 : decode cX2_readCommand 10 = .ok (.aload_n 0, 1) := by decide +kernel
theorem dX2_readCommand_11 : decode cX2_readCommand 11 = .ok (.iload_n 3, 1) := by decide +kernel
theorem dX2_readCommand_12 : decode cX2_readCommand 12 = .ok (.iload_n 1, 1) := by decide +kernel
theorem dX2_readCommand_13 : decode cX2_readCommand 13 = .ok (.invokevirtual 33, 3) := by decide +kernel
theorem dX2_readCommand_16 : decode cX2_readCommand 16 = .ok (.istore 4, 2) := by decide +kernel
theorem dX2_readCommand_18 : decode cX2_readCommand 18 = .ok (.iload 4, 2) := by decide +kernel
theorem dX2_readCommand_20 : decode cX2_readCommand 20 = .ok (.ifCond .lt 16, 3) := by decide +kernel
theorem dX2_readCommand_23 : decode cX2_readCommand 23 = .ok (.aload_n 0, 1) := by decide +kernel
theorem dX2_readCommand_24 : decode cX2_readCommand 24 = .ok (.getfield 19, 3) := by decide +kernel
theorem dX2_readCommand_27 : decode cX2_readCommand 27 = .ok (.aload_n 0, 1) := by decide +kernel
theorem dX2_readCommand_28 : decode cX2_readCommand 28 = .ok (.getfield 26, 3) := by decide +kernel
theorem dX2_readCommand_31 : decode cX2_readCommand 31 = .ok (.iload_n 3, 1) := by decide +kernel
theorem dX2_readCommand_32 : decode cX2_readCommand 32 = .ok (.iastore, 1) := by decide +kernel
theorem dX2_readCommand_33 : decode cX2_readCommand 33 = .ok (.iload 4, 2) := by decide +kernel
theorem dX2_readCommand_35 : decode cX2_readCommand 35 = .ok (.ireturn, 1) := by decide +kernel
theorem dX2_readCommand_36 : decode cX2_readCommand 36 = .ok (.iload_n 2, 1) := by decide +kernel
theorem dX2_readCommand_37 : decode cX2_readCommand 37 = .ok (.iload 4, 2) := by decide +kernel
theorem dX2_readCommand_39 : decode cX2_readCommand 39 = .ok (.iconst (-1), 1) := by decide +kernel
theorem dX2_readCommand_40 : decode cX2_readCommand 40 = .ok (.ixor, 1) := by decide +kernel
theorem dX2_readCommand_41 : decode cX2_readCommand 41 = .ok (.invokestatic 37, 3) := by decide +kernel
theorem dX2_readCommand_44 : decode cX2_readCommand 44 = .ok (.istore_n 2, 1) := by decide +kernel
theorem dX2_readCommand_45 : decode cX2_readCommand 45 = .ok (.iinc 3 1, 3) := by decide +kernel
theorem dX2_readCommand_48 : decode cX2_readCommand 48 = .ok (.goto (-44), 3) := by decide +kernel
theorem dX2_readCommand_51 : decode cX2_readCommand 51 = .ok (.iload_n 2, 1) := by decide +kernel
theorem dX2_readCommand_52 : decode cX2_readCommand 52 = .ok (.iconst (-1), 1) := by decide +kernel
theorem dX2_readCommand_53 : decode cX2_readCommand 53 = .ok (.ixor, 1) := by decide +kernel
theorem dX2_readCommand_54 : decode cX2_readCommand 54 = .ok (.ireturn, 1) := by decide +kernel
theorem dX2_readForm_0 : decode cX2_readForm 0 = .ok (.iload_n 1, 1) := by decide +kernel
theorem dX2_readForm_1 : decode cX2_readForm 1 = .ok (.invokestatic 42, 3) := by decide +kernel
theorem dX2_readForm_4 : decode cX2_readForm 4 = .ok (.astore_n 3, 1) := by decide +kernel
theorem dX2_readForm_5 : decode cX2_readForm 5 = .ok (.iload_n 2, 1) := by decide +kernel
theorem dX2_readForm_6 : decode cX2_readForm 6 = .ok (.istore 4, 2) := by decide +kernel
theorem dX2_readForm_8 : decode cX2_readForm 8 = .ok (.iconst 3, 1) := by decide +kernel
theorem dX2_readForm_9 : decode cX2_readForm 9 = .ok (.aload_n 0, 1) := by decide +kernel
theorem dX2_readForm_10 : decode cX2_readForm 10 = .ok (.getfield 26, 3) := by decide +kernel
theorem dX2_readForm_13 : decode cX2_readForm 13 = .ok (.imul, 1) := by decide +kernel
theorem dX2_readForm_14 : decode cX2_readForm 14 = .ok (.istore 5, 2) := by decide +kernel
theorem dX2_readForm_16 : decode cX2_readForm 16 = .ok (.iconst 0, 1) := by decide +kernel
theorem dX2_readForm_17 : decode cX2_readForm 17 = .ok (.istore 6, 2) := by decide +kernel
theorem dX2_readForm_19 : decode cX2_readForm 19 = .ok (.iload 6, 2) := by decide +kernel
theorem dX2_readForm_21 : decode cX2_readForm 21 = .ok (.aload_n 3, 1) := by decide +kernel
theorem dX2_readForm_22 : decode cX2_readForm 22 = .ok (.invokevirtual 46, 3) := by decide +kernel
theorem dX2_readForm_25 : decode cX2_readForm 25 = .ok (.if_icmp .ge 75, 3) := by decide +kernel
theorem dX2_readForm_28 : decode cX2_readForm 28 = .ok (.aload_n 3, 1) := by decide +kernel
theorem dX2_readForm_29 : decode cX2_readForm 29 = .ok (.iload 6, 2) := by decide +kernel
theorem dX2_readForm_31 : decode cX2_readForm 31 = .ok (.invokevirtual 51, 3) := by decide +kernel
theorem dX2_readForm_34 : decode cX2_readForm 34 = .ok (.istore 7, 2) := by decide +kernel
theorem dX2_readForm_36 : decode cX2_readForm 36 = .ok (.aload_n 0, 1) := by decide +kernel
theorem dX2_readForm_37 : decode cX2_readForm 37 = .ok (.iload 7, 2) := by decide +kernel
theorem dX2_readForm_39 : decode cX2_readForm 39 = .ok (.iload 4, 2) := by decide +kernel
theorem dX2_readForm_41 : decode cX2_readForm 41 = .ok (.invokevirtual 55, 3) := by decide +kernel
theorem dX2_readForm_44 : decode cX2_readForm 44 = .ok (.istore 8, 2) := by decide +kernel
theorem dX2_readForm_46 : decode cX2_readForm 46 = .ok (.iload 8, 2) := by decide +kernel
theorem dX2_readForm_48 : decode cX2_readForm 48 = .ok (.iload 4, 2) := by decide +kernel
theorem dX2_readForm_50 : decode cX2_readForm 50 = .ok (.if_icmp .ne 8, 3) := by decide +kernel
theorem dX2_readForm_53 : decode cX2_readForm 53 = .ok (.iload 4, 2) := by decide +kernel
theorem dX2_readForm_55 : decode cX2_readForm 55 = .ok (.iconst (-1), 1) := by decide +kernel
theorem dX2_readForm_56 : decode cX2_readForm 56 = .ok (.ixor, 1) := by decide +kernel
theorem dX2_readForm_57 : decode cX2_readForm 57 = .ok (.ireturn, 1) := by decide +kernel
theorem dX2_readForm_58 : decode cX2_readForm 58 = .ok (.iload 7, 2) := by decide +kernel
theorem dX2_readForm_60 : decode cX2_readForm 60 = .ok (.bipush 35, 2) := by decide +kernel
theorem dX2_readForm_62 : decode cX2_readForm 62 = .ok (.if_icmp .eq 10, 3) := by decide +kernel
theorem dX2_readForm_65 : decode cX2_readForm 65 = .ok (.iload 7, 2) := by decide +kernel
theorem dX2_readForm_67 : decode cX2_readForm 67 = .ok (.bipush 64, 2) := by decide +kernel
theorem dX2_readForm_69 : decode cX2_readForm 69 = .ok (.if_icmp .ne 21, 3) := by decide +kernel
theorem dX2_readForm_72 : decode cX2_readForm 72 = .ok (.aload_n 0, 1) := by decide +kernel
theorem dX2_readForm_73 : decode cX2_readForm 73 = .ok (.getfield 23, 3) := by decide +kernel
theorem dX2_readForm_76 : decode cX2_readForm 76 = .ok (.iload 5, 2) := by decide +kernel
theorem dX2_readForm_78 : decode cX2_readForm 78 = .ok (.aload_n 0, 1) := by decide +kernel
theorem dX2_readForm_79 : decode cX2_readForm 79 = .ok (.iload 4, 2) := by decide +kernel
theorem dX2_readForm_81 : decode cX2_readForm 81 = .ok (.iload 8, 2) := by decide +kernel
theorem dX2_readForm_83 : decode cX2_readForm 83 = .ok (.invokevirtual 59, 3) := by decide +kernel
theorem dX2_readForm_86 : decode cX2_readForm 86 = .ok (.iastore, 1) := by decide +kernel
theorem dX2_readForm_87 : decode cX2_readForm 87 = .ok (.iinc 5 1, 3) := by decide +kernel
theorem dX2_readForm_90 : decode cX2_readForm 90 = .ok (.iload 8, 2) := by decide +kernel
theorem dX2_readForm_92 : decode cX2_readForm 92 = .ok (.istore 4, 2) := by decide +kernel
theorem dX2_readForm_94 : decode cX2_readForm 94 = .ok (.iinc 6 1, 3) := by decide +kernel
theorem dX2_readForm_97 : decode cX2_readForm 97 = .ok (.goto (-78), 3) := by decide +kernel
theorem dX2_readForm_100 : decode cX2_readForm 100 = .ok (.iload 4, 2) := by decide +kernel
theorem dX2_readForm_102 : decode cX2_readForm 102 = .ok (.ireturn, 1) := by decide +kernel
theorem dX2_endOfSign_0 : decode cX2_endOfSign 0 = .ok (.iload_n 1, 1) := by decide +kernel
theorem dX2_endOfSign_1 : decode cX2_endOfSign 1 = .ok (.bipush 35, 2) := by decide +kernel
theorem dX2_endOfSign_3 : decode cX2_endOfSign 3 = .ok (.if_icmp .ne 10, 3) := by decide +kernel
theorem dX2_endOfSign_6 : decode cX2_endOfSign 6 = .ok (.aload_n 0, 1) := by decide +kernel
theorem dX2_endOfSign_7 : decode cX2_endOfSign 7 = .ok (.iload_n 2, 1) := by decide +kernel
theorem dX2_endOfSign_8 : decode cX2_endOfSign 8 = .ok (.iconst 1, 1) := by decide +kernel
theorem dX2_endOfSign_9 : decode cX2_endOfSign 9 = .ok (.invokevirtual 62, 3) := by decide +kernel
theorem dX2_endOfSign_12 : decode cX2_endOfSign 12 = .ok (.ireturn, 1) := by decide +kernel
theorem dX2_endOfSign_13 : decode cX2_endOfSign 13 = .ok (.iload_n 1, 1) := by decide +kernel
theorem dX2_endOfSign_14 : decode cX2_endOfSign 14 = .ok (.bipush 64, 2) := by decide +kernel
theorem dX2_endOfSign_16 : decode cX2_endOfSign 16 = .ok (.if_icmp .ne 10, 3) := by decide +kernel
theorem dX2_endOfSign_19 : decode cX2_endOfSign 19 = .ok (.aload_n 0, 1) := by decide +kernel
theorem dX2_endOfSign_20 : decode cX2_endOfSign 20 = .ok (.iload_n 2, 1) := by decide +kernel
theorem dX2_endOfSign_21 : decode cX2_endOfSign 21 = .ok (.iconst 3, 1) := by decide +kernel
theorem dX2_endOfSign_22 : decode cX2_endOfSign 22 = .ok (.invokevirtual 62, 3) := by decide +kernel
theorem dX2_endOfSign_25 : decode cX2_endOfSign 25 = .ok (.ireturn, 1) := by decide +kernel
theorem dX2_endOfSign_26 : decode cX2_endOfSign 26 = .ok (.iload_n 2, 1) := by decide +kernel
theorem dX2_endOfSign_27 : decode cX2_endOfSign 27 = .ok (.aload_n 0, 1) := by decide +kernel
theorem dX2_endOfSign_28 : decode cX2_endOfSign 28 = .ok (.getfield 15, 3) := by decide +kernel
theorem dX2_endOfSign_31 : decode cX2_endOfSign 31 = .ok (.if_icmp .ge 19, 3) := by decide +kernel
theorem dX2_endOfSign_34 : decode cX2_endOfSign 34 = .ok (.aload_n 0, 1) := by decide +kernel
theorem dX2_endOfSign_35 : decode cX2_endOfSign 35 = .ok (.getfield 9, 3) := by decide +kernel
theorem dX2_endOfSign_38 : decode cX2_endOfSign 38 = .ok (.iload_n 2, 1) := by decide +kernel
theorem dX2_endOfSign_39 : decode cX2_endOfSign 39 = .ok (.caload, 1) := by decide +kernel
theorem dX2_endOfSign_40 : decode cX2_endOfSign 40 = .ok (.iload_n 1, 1) := by decide +kernel
theorem dX2_endOfSign_41 : decode cX2_endOfSign 41 = .ok (.if_icmp .ne 9, 3) := by decide +kernel
theorem dX2_endOfSign_44 : decode cX2_endOfSign 44 = .ok (.iload_n 2, 1) := by decide +kernel
theorem dX2_endOfSign_45 : decode cX2_endOfSign 45 = .ok (.iconst 1, 1) := by decide +kernel
theorem dX2_endOfSign_46 : decode cX2_endOfSign 46 = .ok (.iadd, 1) := by decide +kernel
theorem dX2_endOfSign_47 : decode cX2_endOfSign 47 = .ok (.goto 4, 3) := by decide +kernel
theorem dX2_endOfSign_50 : decode cX2_endOfSign 50 = .ok (.iload_n 2, 1) := by decide +kernel
theorem dX2_endOfSign_51 : decode cX2_endOfSign 51 = .ok (.ireturn, 1) := by decide +kernel
theorem dX2_endOfDigits_0 : decode cX2_endOfDigits 0 = .ok (.iload_n 1, 1) := by decide +kernel
theorem dX2_endOfDigits_1 : decode cX2_endOfDigits 1 = .ok (.istore_n 3, 1) := by decide +kernel
theorem dX2_endOfDigits_2 : decode cX2_endOfDigits 2 = .ok (.iconst 0, 1) := by decide +kernel
theorem dX2_endOfDigits_3 : decode cX2_endOfDigits 3 = .ok (.istore 4, 2) := by decide +kernel
theorem dX2_endOfDigits_5 : decode cX2_endOfDigits 5 = .ok (.iload 4, 2) := by decide +kernel
theorem dX2_endOfDigits_7 : decode cX2_endOfDigits 7 = .ok (.iload_n 2, 1) := by decide +kernel
theorem dX2_endOfDigits_8 : decode cX2_endOfDigits 8 = .ok (.if_icmp .ge 44, 3) := by decide +kernel
theorem dX2_endOfDigits_11 : decode cX2_endOfDigits 11 = .ok (.iload_n 3, 1) := by decide +kernel
theorem dX2_endOfDigits_12 : decode cX2_endOfDigits 12 = .ok (.aload_n 0, 1) := by decide +kernel
theorem dX2_endOfDigits_13 : decode cX2_endOfDigits 13 = .ok (.getfield 15, 3) := by decide +kernel
theorem dX2_endOfDigits_16 : decode cX2_endOfDigits 16 = .ok (.if_icmp .ge 36, 3) := by decide +kernel
theorem dX2_endOfDigits_19 : decode cX2_endOfDigits 19 = .ok (.aload_n 0, 1) := by decide +kernel
theorem dX2_endOfDigits_20 : decode cX2_endOfDigits 20 = .ok (.getfield 9, 3) := by decide +kernel
theorem dX2_endOfDigits_23 : decode cX2_endOfDigits 23 = .ok (.iload_n 3, 1) := by decide +kernel
theorem dX2_endOfDigits_24 : decode cX2_endOfDigits 24 = .ok (.caload, 1) := by decide +kernel
theorem dX2_endOfDigits_25 : decode cX2_endOfDigits 25 = .ok (.bipush 48, 2) := by decide +kernel
theorem dX2_endOfDigits_27 : decode cX2_endOfDigits 27 = .ok (.if_icmp .lt 14, 3) := by decide +kernel
theorem dX2_endOfDigits_30 : decode cX2_endOfDigits 30 = .ok (.aload_n 0, 1) := by decide +kernel
theorem dX2_endOfDigits_31 : decode cX2_endOfDigits 31 = .ok (.getfield 9, 3) := by decide +kernel
theorem dX2_endOfDigits_34 : decode cX2_endOfDigits 34 = .ok (.iload_n 3, 1) := by decide +kernel
theorem dX2_endOfDigits_35 : decode cX2_endOfDigits 35 = .ok (.caload, 1) := by decide +kernel
theorem dX2_endOfDigits_36 : decode cX2_endOfDigits 36 = .ok (.bipush 57, 2) := by decide +kernel
theorem dX2_endOfDigits_38 : decode cX2_endOfDigits 38 = .ok (.if_icmp .le 5, 3) := by decide +kernel
theorem dX2_endOfDigits_41 : decode cX2_endOfDigits 41 = .ok (.iload_n 3, 1) := by decide +kernel
theorem dX2_endOfDigits_42 : decode cX2_endOfDigits 42 = .ok (.ireturn, 1) := by decide +kernel
theorem dX2_endOfDigits_43 : decode cX2_endOfDigits 43 = .ok (.iinc 3 1, 3) := by decide +kernel
theorem dX2_endOfDigits_46 : decode cX2_endOfDigits 46 = .ok (.iinc 4 1, 3) := by decide +kernel
theorem dX2_endOfDigits_49 : decode cX2_endOfDigits 49 = .ok (.goto (-44), 3) := by decide +kernel
theorem dX2_endOfDigits_52 : decode cX2_endOfDigits 52 = .ok (.iload_n 3, 1) := by decide +kernel
theorem dX2_endOfDigits_53 : decode cX2_endOfDigits 53 = .ok (.ireturn, 1) := by decide +kernel
theorem dX2_valueOf_0 : decode cX2_valueOf 0 = .ok (.iconst 0, 1) := by decide +kernel
theorem dX2_valueOf_1 : decode cX2_valueOf 1 = .ok (.istore_n 3, 1) := by decide +kernel
theorem dX2_valueOf_2 : decode cX2_valueOf 2 = .ok (.iload_n 1, 1) := by decide +kernel
theorem dX2_valueOf_3 : decode cX2_valueOf 3 = .ok (.istore 4, 2) := by decide +kernel
theorem dX2_valueOf_5 : decode cX2_valueOf 5 = .ok (.iload 4, 2) := by decide +kernel
theorem dX2_valueOf_7 : decode cX2_valueOf 7 = .ok (.iload_n 2, 1) := by decide +kernel
theorem dX2_valueOf_8 : decode cX2_valueOf 8 = .ok (.if_icmp .ge 25, 3) := by decide +kernel
theorem dX2_valueOf_11 : decode cX2_valueOf 11 = .ok (.bipush 10, 2) := by decide +kernel
theorem dX2_valueOf_13 : decode cX2_valueOf 13 = .ok (.iload_n 3, 1) := by decide +kernel
theorem dX2_valueOf_14 : decode cX2_valueOf 14 = .ok (.imul, 1) := by decide +kernel
theorem dX2_valueOf_15 : decode cX2_valueOf 15 = .ok (.aload_n 0, 1) := by decide +kernel
theorem dX2_valueOf_16 : decode cX2_valueOf 16 = .ok (.getfield 9, 3) := by decide +kernel
theorem dX2_valueOf_19 : decode cX2_valueOf 19 = .ok (.iload 4, 2) := by decide +kernel
theorem dX2_valueOf_21 : decode cX2_valueOf 21 = .ok (.caload, 1) := by decide +kernel
theorem dX2_valueOf_22 : decode cX2_valueOf 22 = .ok (.bipush 48, 2) := by decide +kernel
theorem dX2_valueOf_24 : decode cX2_valueOf 24 = .ok (.isub, 1) := by decide +kernel
theorem dX2_valueOf_25 : decode cX2_valueOf 25 = .ok (.iadd, 1) := by decide +kernel
theorem dX2_valueOf_26 : decode cX2_valueOf 26 = .ok (.istore_n 3, 1) := by decide +kernel
theorem dX2_valueOf_27 : decode cX2_valueOf 27 = .ok (.iinc 4 1, 3) := by decide +kernel
theorem dX2_valueOf_30 : decode cX2_valueOf 30 = .ok (.goto (-25), 3) := by decide +kernel
theorem dX2_valueOf_33 : decode cX2_valueOf 33 = .ok (.iload_n 3, 1) := by decide +kernel
theorem dX2_valueOf_34 : decode cX2_valueOf 34 = .ok (.ireturn, 1) := by decide +kernel
theorem dX2_formOf_0 : decode cX2_formOf 0 = .ok (.iload_n 0, 1) := by decide +kernel
theorem dX2_formOf_1 : decode cX2_formOf 1 = .ok (.tableswitch 78 0 8 #[51, 54, 57, 60, 63, 66, 69, 72, 75], 51) := by decide +kernel
theorem dX2_formOf_52 : decode cX2_formOf 52 = .ok (.ldc 65, 2) := by decide +kernel
theorem dX2_formOf_54 : decode cX2_formOf 54 = .ok (.areturn, 1) := by decide +kernel
theorem dX2_formOf_55 : decode cX2_formOf 55 = .ok (.ldc 67, 2) := by decide +kernel
theorem dX2_formOf_57 : decode cX2_formOf 57 = .ok (.areturn, 1) := by decide +kernel
theorem dX2_formOf_58 : decode cX2_formOf 58 = .ok (.ldc 69, 2) := by decide +kernel
theorem dX2_formOf_60 : decode cX2_formOf 60 = .ok (.areturn, 1) := by decide +kernel
theorem dX2_formOf_61 : decode cX2_formOf 61 = .ok (.ldc 71, 2) := by decide +kernel
theorem dX2_formOf_63 : decode cX2_formOf 63 = .ok (.areturn, 1) := by decide +kernel
theorem dX2_formOf_64 : decode cX2_formOf 64 = .ok (.ldc 73, 2) := by decide +kernel
theorem dX2_formOf_66 : decode cX2_formOf 66 = .ok (.areturn, 1) := by decide +kernel
theorem dX2_formOf_67 : decode cX2_formOf 67 = .ok (.ldc 75, 2) := by decide +kernel
theorem dX2_formOf_69 : decode cX2_formOf 69 = .ok (.areturn, 1) := by decide +kernel
theorem dX2_formOf_70 : decode cX2_formOf 70 = .ok (.ldc 77, 2) := by decide +kernel
theorem dX2_formOf_72 : decode cX2_formOf 72 = .ok (.areturn, 1) := by decide +kernel
theorem dX2_formOf_73 : decode cX2_formOf 73 = .ok (.ldc 79, 2) := by decide +kernel
theorem dX2_formOf_75 : decode cX2_formOf 75 = .ok (.areturn, 1) := by decide +kernel
theorem dX2_formOf_76 : decode cX2_formOf 76 = .ok (.ldc 81, 2) := by decide +kernel
theorem dX2_formOf_78 : decode cX2_formOf 78 = .ok (.areturn, 1) := by decide +kernel
theorem dX2_formOf_79 : decode cX2_formOf 79 = .ok (.ldc 83, 2) := by decide +kernel
theorem dX2_formOf_81 : decode cX2_formOf 81 = .ok (.areturn, 1) := by decide +kernel
theorem dX2_performIn_0 : decode cX2_performIn 0 = .ok (.iconst 0, 1) := by decide +kernel
theorem dX2_performIn_1 : decode cX2_performIn 1 = .ok (.istore_n 2, 1) := by decide +kernel
theorem dX2_performIn_2 : decode cX2_performIn 2 = .ok (.iload_n 2, 1) := by decide +kernel
theorem dX2_performIn_3 : decode cX2_performIn 3 = .ok (.aload_n 0, 1) := by decide +kernel
theorem dX2_performIn_4 : decode cX2_performIn 4 = .ok (.getfield 26, 3) := by decide +kernel
theorem dX2_performIn_7 : decode cX2_performIn 7 = .ok (.if_icmp .ge 54, 3) := by decide +kernel
theorem dX2_performIn_10 : decode cX2_performIn 10 = .ok (.iconst 3, 1) := by decide +kernel
theorem dX2_performIn_11 : decode cX2_performIn 11 = .ok (.iload_n 2, 1) := by decide +kernel
theorem dX2_performIn_12 : decode cX2_performIn 12 = .ok (.imul, 1) := by decide +kernel
theorem dX2_performIn_13 : decode cX2_performIn 13 = .ok (.istore_n 3, 1) := by decide +kernel
theorem dX2_performIn_14 : decode cX2_performIn 14 = .ok (.aload_n 1, 1) := by decide +kernel
theorem dX2_performIn_15 : decode cX2_performIn 15 = .ok (.aload_n 0, 1) := by decide +kernel
theorem dX2_performIn_16 : decode cX2_performIn 16 = .ok (.getfield 19, 3) := by decide +kernel
theorem dX2_performIn_19 : decode cX2_performIn 19 = .ok (.iload_n 2, 1) := by decide +kernel
theorem dX2_performIn_20 : decode cX2_performIn 20 = .ok (.iaload, 1) := by decide +kernel
theorem dX2_performIn_21 : decode cX2_performIn 21 = .ok (.aload_n 0, 1) := by decide +kernel
theorem dX2_performIn_22 : decode cX2_performIn 22 = .ok (.getfield 23, 3) := by decide +kernel
theorem dX2_performIn_25 : decode cX2_performIn 25 = .ok (.iload_n 3, 1) := by decide +kernel
theorem dX2_performIn_26 : decode cX2_performIn 26 = .ok (.iaload, 1) := by decide +kernel
theorem dX2_performIn_27 : decode cX2_performIn 27 = .ok (.aload_n 0, 1) := by decide +kernel
theorem dX2_performIn_28 : decode cX2_performIn 28 = .ok (.getfield 23, 3) := by decide +kernel
theorem dX2_performIn_31 : decode cX2_performIn 31 = .ok (.iload_n 3, 1) := by decide +kernel
theorem dX2_performIn_32 : decode cX2_performIn 32 = .ok (.iconst 1, 1) := by decide +kernel
theorem dX2_performIn_33 : decode cX2_performIn 33 = .ok (.iadd, 1) := by decide +kernel
theorem dX2_performIn_34 : decode cX2_performIn 34 = .ok (.iaload, 1) := by decide +kernel
theorem dX2_performIn_35 : decode cX2_performIn 35 = .ok (.aload_n 0, 1) := by decide +kernel
theorem dX2_performIn_36 : decode cX2_performIn 36 = .ok (.getfield 23, 3) := by decide +kernel
theorem dX2_performIn_39 : decode cX2_performIn 39 = .ok (.iload_n 3, 1) := by decide +kernel
theorem dX2_performIn_40 : decode cX2_performIn 40 = .ok (.iconst 2, 1) := by decide +kernel
theorem dX2_performIn_41 : decode cX2_performIn 41 = .ok (.iadd, 1) := by decide +kernel
theorem dX2_performIn_42 : decode cX2_performIn 42 = .ok (.iaload, 1) := by decide +kernel
theorem dX2_performIn_43 : decode cX2_performIn 43 = .ok (.invokevirtual 85, 3) := by decide +kernel
theorem dX2_performIn_46 : decode cX2_performIn 46 = .ok (.istore 4, 2) := by decide +kernel
theorem dX2_performIn_48 : decode cX2_performIn 48 = .ok (.iload 4, 2) := by decide +kernel
theorem dX2_performIn_50 : decode cX2_performIn 50 = .ok (.ifCond .ge 5, 3) := by decide +kernel
theorem dX2_performIn_53 : decode cX2_performIn 53 = .ok (.iload_n 2, 1) := by decide +kernel
theorem dX2_performIn_54 : decode cX2_performIn 54 = .ok (.ireturn, 1) := by decide +kernel
theorem dX2_performIn_55 : decode cX2_performIn 55 = .ok (.iinc 2 1, 3) := by decide +kernel
theorem dX2_performIn_58 : decode cX2_performIn 58 = .ok (.goto (-56), 3) := by decide +kernel
theorem dX2_performIn_61 : decode cX2_performIn 61 = .ok (.iconst (-1), 1) := by decide +kernel
theorem dX2_performIn_62 : decode cX2_performIn 62 = .ok (.ireturn, 1) := by decide +kernel
theorem dX3_init_0 : decode cX3_init 0 = .ok (.aload_n 0, 1) := by decide +kernel
theorem dX3_init_1 : decode cX3_init 1 = .ok (.invokespecial 3, 3) := by decide +kernel
theorem dX3_init_4 : decode cX3_init 4 = .ok (.aload_n 0, 1) := by decide +kernel
theorem dX3_init_5 : decode cX3_init 5 = .ok (.bipush 16, 2) := by decide +kernel
theorem dX3_init_7 : decode cX3_init 7 = .ok (.newarray .int, 2) := by decide +kernel
theorem dX3_init_9 : decode cX3_init 9 = .ok (.putfield 9, 3) := by decide +kernel
theorem dX3_init_12 : decode cX3_init 12 = .ok (.aload_n 0, 1) := by decide +kernel
theorem dX3_init_13 : decode cX3_init 13 = .ok (.iconst 0, 1) := by decide +kernel
theorem dX3_init_14 : decode cX3_init 14 = .ok (.putfield 15, 3) := by decide +kernel
theorem dX3_init_17 : decode cX3_init 17 = .ok (.return_, 1) := by decide +kernel
theorem dX3_add_0 : decode cX3_add 0 = .ok (.aload_n 0, 1) := by decide +kernel
theorem dX3_add_1 : decode cX3_add 1 = .ok (.getfield 15, 3) := by decide +kernel
theorem dX3_add_4 : decode cX3_add 4 = .ok (.bipush 16, 2) := by decide +kernel
theorem dX3_add_6 : decode cX3_add 6 = .ok (.if_icmp .ne 4, 3) := by decide +kernel
theorem dX3_add_9 : decode cX3_add 9 = .ok (.return_, 1) := by decide +kernel
theorem dX3_add_10 : decode cX3_add 10 = .ok (.aload_n 0, 1) := by decide +kernel
theorem dX3_add_11 : decode cX3_add 11 = .ok (.getfield 9, 3) := by decide +kernel
theorem dX3_add_14 : decode cX3_add 14 = .ok (.aload_n 0, 1) := by decide +kernel
theorem dX3_add_15 : decode cX3_add 15 = .ok (.getfield 15, 3) := by decide +kernel
theorem dX3_add_18 : decode cX3_add 18 = .ok (.iload_n 1, 1) := by decide +kernel
theorem dX3_add_19 : decode cX3_add 19 = .ok (.iastore, 1) := by decide +kernel
theorem dX3_add_20 : decode cX3_add 20 = .ok (.aload_n 0, 1) := by decide +kernel
theorem dX3_add_21 : decode cX3_add 21 = .ok (.dup, 1) := by decide +kernel
theorem dX3_add_22 : decode cX3_add 22 = .ok (.getfield 15, 3) := by decide +kernel
theorem dX3_add_25 : decode cX3_add 25 = .ok (.iconst 1, 1) := by decide +kernel
theorem dX3_add_26 : decode cX3_add 26 = .ok (.iadd, 1) := by decide +kernel
theorem dX3_add_27 : decode cX3_add 27 = .ok (.putfield 15, 3) := by decide +kernel
theorem dX3_add_30 : decode cX3_add 30 = .ok (.aload_n 0, 1) := by decide +kernel
theorem dX3_add_31 : decode cX3_add 31 = .ok (.getfield 15, 3) := by decide +kernel
theorem dX3_add_34 : decode cX3_add 34 = .ok (.iconst 1, 1) := by decide +kernel
theorem dX3_add_35 : decode cX3_add 35 = .ok (.isub, 1) := by decide +kernel
theorem dX3_add_36 : decode cX3_add 36 = .ok (.istore_n 2, 1) := by decide +kernel
theorem dX3_add_37 : decode cX3_add 37 = .ok (.iload_n 2, 1) := by decide +kernel
theorem dX3_add_38 : decode cX3_add 38 = .ok (.ifCond .le 22, 3) := by decide +kernel
theorem dX3_add_41 : decode cX3_add 41 = .ok (.aload_n 0, 1) := by decide +kernel
theorem dX3_add_42 : decode cX3_add 42 = .ok (.iload_n 2, 1) := by decide +kernel
theorem dX3_add_43 : decode cX3_add 43 = .ok (.iload_n 2, 1) := by decide +kernel
theorem dX3_add_44 : decode cX3_add 44 = .ok (.iconst 1, 1) := by decide +kernel
theorem dX3_add_45 : decode cX3_add 45 = .ok (.isub, 1) := by decide +kernel
theorem dX3_add_46 : decode cX3_add 46 = .ok (.iconst 2, 1) := by decide +kernel
theorem dX3_add_47 : decode cX3_add 47 = .ok (.idiv, 1) := by decide +kernel
theorem dX3_add_48 : decode cX3_add 48 = .ok (.invokevirtual 19, 3) := by decide +kernel
theorem dX3_add_51 : decode cX3_add 51 = .ok (.iload_n 2, 1) := by decide +kernel
theorem dX3_add_52 : decode cX3_add 52 = .ok (.iconst 1, 1) := by decide +kernel
theorem dX3_add_53 : decode cX3_add 53 = .ok (.isub, 1) := by decide +kernel
theorem dX3_add_54 : decode cX3_add 54 = .ok (.iconst 2, 1) := by decide +kernel
theorem dX3_add_55 : decode cX3_add 55 = .ok (.idiv, 1) := by decide +kernel
theorem dX3_add_56 : decode cX3_add 56 = .ok (.istore_n 2, 1) := by decide +kernel
theorem dX3_add_57 : decode cX3_add 57 = .ok (.goto (-20), 3) := by decide +kernel
theorem dX3_add_60 : decode cX3_add 60 = .ok (.return_, 1) := by decide +kernel
theorem dX3_takeLowest_0 : decode cX3_takeLowest 0 = .ok (.aload_n 0, 1) := by decide +kernel
theorem dX3_takeLowest_1 : decode cX3_takeLowest 1 = .ok (.getfield 15, 3) := by decide +kernel
theorem dX3_takeLowest_4 : decode cX3_takeLowest 4 = .ok (.ifCond .ne 5, 3) := by decide +kernel
theorem dX3_takeLowest_7 : decode cX3_takeLowest 7 = .ok (.iconst (-1), 1) := by decide +kernel
theorem dX3_takeLowest_8 : decode cX3_takeLowest 8 = .ok (.ireturn, 1) := by decide +kernel
theorem dX3_takeLowest_9 : decode cX3_takeLowest 9 = .ok (.aload_n 0, 1) := by decide +kernel
theorem dX3_takeLowest_10 : decode cX3_takeLowest 10 = .ok (.getfield 9, 3) := by decide +kernel
theorem dX3_takeLowest_13 : decode cX3_takeLowest 13 = .ok (.iconst 0, 1) := by decide +kernel
theorem dX3_takeLowest_14 : decode cX3_takeLowest 14 = .ok (.iaload, 1) := by decide +kernel
theorem dX3_takeLowest_15 : decode cX3_takeLowest 15 = .ok (.istore_n 1, 1) := by decide +kernel
theorem dX3_takeLowest_16 : decode cX3_takeLowest 16 = .ok (.aload_n 0, 1) := by decide +kernel
theorem dX3_takeLowest_17 : decode cX3_takeLowest 17 = .ok (.dup, 1) := by decide +kernel
theorem dX3_takeLowest_18 : decode cX3_takeLowest 18 = .ok (.getfield 15, 3) := by decide +kernel
theorem dX3_takeLowest_21 : decode cX3_takeLowest 21 = .ok (.iconst 1, 1) := by decide +kernel
theorem dX3_takeLowest_22 : decode cX3_takeLowest 22 = .ok (.isub, 1) := by decide +kernel
theorem dX3_takeLowest_23 : decode cX3_takeLowest 23 = .ok (.putfield 15, 3) := by decide +kernel
theorem dX3_takeLowest_26 : decode cX3_takeLowest 26 = .ok (.aload_n 0, 1) := by decide +kernel
theorem dX3_takeLowest_27 : decode cX3_takeLowest 27 = .ok (.getfield 9, 3) := by decide +kernel
theorem dX3_takeLowest_30 : decode cX3_takeLowest 30 = .ok (.iconst 0, 1) := by decide +kernel
theorem dX3_takeLowest_31 : decode cX3_takeLowest 31 = .ok (.aload_n 0, 1) := by decide +kernel
theorem dX3_takeLowest_32 : decode cX3_takeLowest 32 = .ok (.getfield 9, 3) := by decide +kernel
theorem dX3_takeLowest_35 : decode cX3_takeLowest 35 = .ok (.aload_n 0, 1) := by decide +kernel
theorem dX3_takeLowest_36 : decode cX3_takeLowest 36 = .ok (.getfield 15, 3) := by decide +kernel
theorem dX3_takeLowest_39 : decode cX3_takeLowest 39 = .ok (.iaload, 1) := by decide +kernel
theorem dX3_takeLowest_40 : decode cX3_takeLowest 40 = .ok (.iastore, 1) := by decide +kernel
theorem dX3_takeLowest_41 : decode cX3_takeLowest 41 = .ok (.aload_n 0, 1) := by decide +kernel
theorem dX3_takeLowest_42 : decode cX3_takeLowest 42 = .ok (.invokevirtual 23, 3) := by decide +kernel
theorem dX3_takeLowest_45 : decode cX3_takeLowest 45 = .ok (.iload_n 1, 1) := by decide +kernel
theorem dX3_takeLowest_46 : decode cX3_takeLowest 46 = .ok (.ireturn, 1) := by decide +kernel
theorem dX3_sinkTop_0 : decode cX3_sinkTop 0 = .ok (.iconst 0, 1) := by decide +kernel
theorem dX3_sinkTop_1 : decode cX3_sinkTop 1 = .ok (.istore_n 1, 1) := by decide +kernel
theorem dX3_sinkTop_2 : decode cX3_sinkTop 2 = .ok (.iconst 0, 1) := by decide +kernel
theorem dX3_sinkTop_3 : decode cX3_sinkTop 3 = .ok (.istore_n 2, 1) := by decide +kernel
theorem dX3_sinkTop_4 : decode cX3_sinkTop 4 = .ok (.iload_n 2, 1) := by decide +kernel
theorem dX3_sinkTop_5 : decode cX3_sinkTop 5 = .ok (.aload_n 0, 1) := by decide +kernel
theorem dX3_sinkTop_6 : decode cX3_sinkTop 6 = .ok (.getfield 15, 3) := by decide +kernel
theorem dX3_sinkTop_9 : decode cX3_sinkTop 9 = .ok (.if_icmp .ge 35, 3) := by decide +kernel
theorem dX3_sinkTop_12 : decode cX3_sinkTop 12 = .ok (.iconst 2, 1) := by decide +kernel
theorem dX3_sinkTop_13 : decode cX3_sinkTop 13 = .ok (.iload_n 1, 1) := by decide +kernel
theorem dX3_sinkTop_14 : decode cX3_sinkTop 14 = .ok (.imul, 1) := by decide +kernel
theorem dX3_sinkTop_15 : decode cX3_sinkTop 15 = .ok (.iconst 1, 1) := by decide +kernel
theorem dX3_sinkTop_16 : decode cX3_sinkTop 16 = .ok (.iadd, 1) := by decide +kernel
theorem dX3_sinkTop_17 : decode cX3_sinkTop 17 = .ok (.aload_n 0, 1) := by decide +kernel
theorem dX3_sinkTop_18 : decode cX3_sinkTop 18 = .ok (.getfield 15, 3) := by decide +kernel
theorem dX3_sinkTop_21 : decode cX3_sinkTop 21 = .ok (.if_icmp .ge 23, 3) := by decide +kernel
theorem dX3_sinkTop_24 : decode cX3_sinkTop 24 = .ok (.aload_n 0, 1) := by decide +kernel
theorem dX3_sinkTop_25 : decode cX3_sinkTop 25 = .ok (.iload_n 1, 1) := by decide +kernel
theorem dX3_sinkTop_26 : decode cX3_sinkTop 26 = .ok (.invokevirtual 26, 3) := by decide +kernel
theorem dX3_sinkTop_29 : decode cX3_sinkTop 29 = .ok (.istore_n 3, 1) := by decide +kernel
theorem dX3_sinkTop_30 : decode cX3_sinkTop 30 = .ok (.aload_n 0, 1) := by decide +kernel
theorem dX3_sinkTop_31 : decode cX3_sinkTop 31 = .ok (.iload_n 3, 1) := by decide +kernel
theorem dX3_sinkTop_32 : decode cX3_sinkTop 32 = .ok (.iload_n 1, 1) := by decide +kernel
theorem dX3_sinkTop_33 : decode cX3_sinkTop 33 = .ok (.invokevirtual 19, 3) := by decide +kernel
theorem dX3_sinkTop_36 : decode cX3_sinkTop 36 = .ok (.iload_n 3, 1) := by decide +kernel
theorem dX3_sinkTop_37 : decode cX3_sinkTop 37 = .ok (.istore_n 1, 1) := by decide +kernel
theorem dX3_sinkTop_38 : decode cX3_sinkTop 38 = .ok (.iinc 2 1, 3) := by decide +kernel
theorem dX3_sinkTop_41 : decode cX3_sinkTop 41 = .ok (.goto (-37), 3) := by decide +kernel
theorem dX3_sinkTop_44 : decode cX3_sinkTop 44 = .ok (.return_, 1) := by decide +kernel
theorem dX3_lowerChildOf_0 : decode cX3_lowerChildOf 0 = .ok (.iconst 2, 1) := by decide +kernel
theorem dX3_lowerChildOf_1 : decode cX3_lowerChildOf 1 = .ok (.iload_n 1, 1) := by decide +kernel
theorem dX3_lowerChildOf_2 : decode cX3_lowerChildOf 2 = .ok (.imul, 1) := by decide +kernel
theorem dX3_lowerChildOf_3 : decode cX3_lowerChildOf 3 = .ok (.iconst 1, 1) := by decide +kernel
theorem dX3_lowerChildOf_4 : decode cX3_lowerChildOf 4 = .ok (.iadd, 1) := by decide +kernel
theorem dX3_lowerChildOf_5 : decode cX3_lowerChildOf 5 = .ok (.istore_n 2, 1) := by decide +kernel
theorem dX3_lowerChildOf_6 : decode cX3_lowerChildOf 6 = .ok (.iload_n 2, 1) := by decide +kernel
theorem dX3_lowerChildOf_7 : decode cX3_lowerChildOf 7 = .ok (.iconst 1, 1) := by decide +kernel
theorem dX3_lowerChildOf_8 : decode cX3_lowerChildOf 8 = .ok (.iadd, 1) := by decide +kernel
theorem dX3_lowerChildOf_9 : decode cX3_lowerChildOf 9 = .ok (.aload_n 0, 1) := by decide +kernel
theorem dX3_lowerChildOf_10 : decode cX3_lowerChildOf 10 = .ok (.getfield 15, 3) := by decide +kernel
theorem dX3_lowerChildOf_13 : decode cX3_lowerChildOf 13 = .ok (.if_icmp .ge 26, 3) := by decide +kernel
theorem dX3_lowerChildOf_16 : decode cX3_lowerChildOf 16 = .ok (.aload_n 0, 1) := by decide +kernel
theorem dX3_lowerChildOf_17 : decode cX3_lowerChildOf 17 = .ok (.getfield 9, 3) := by decide +kernel
theorem dX3_lowerChildOf_20 : decode cX3_lowerChildOf 20 = .ok (.iload_n 2, 1) := by decide +kernel
theorem dX3_lowerChildOf_21 : decode cX3_lowerChildOf 21 = .ok (.iconst 1, 1) := by decide +kernel
theorem dX3_lowerChildOf_22 : decode cX3_lowerChildOf 22 = .ok (.iadd, 1) := by decide +kernel
theorem dX3_lowerChildOf_23 : decode cX3_lowerChildOf 23 = .ok (.iaload, 1) := by decide +kernel
theorem dX3_lowerChildOf_24 : decode cX3_lowerChildOf 24 = .ok (.aload_n 0, 1) := by decide +kernel
theorem dX3_lowerChildOf_25 : decode cX3_lowerChildOf 25 = .ok (.getfield 9, 3) := by decide +kernel
theorem dX3_lowerChildOf_28 : decode cX3_lowerChildOf 28 = .ok (.iload_n 2, 1) := by decide +kernel
theorem dX3_lowerChildOf_29 : decode cX3_lowerChildOf 29 = .ok (.iaload, 1) := by decide +kernel
theorem dX3_lowerChildOf_30 : decode cX3_lowerChildOf 30 = .ok (.if_icmp .ge 9, 3) := by decide +kernel
theorem dX3_lowerChildOf_33 : decode cX3_lowerChildOf 33 = .ok (.iload_n 2, 1) := by decide +kernel
theorem dX3_lowerChildOf_34 : decode cX3_lowerChildOf 34 = .ok (.iconst 1, 1) := by decide +kernel
theorem dX3_lowerChildOf_35 : decode cX3_lowerChildOf 35 = .ok (.iadd, 1) := by decide +kernel
theorem dX3_lowerChildOf_36 : decode cX3_lowerChildOf 36 = .ok (.goto 4, 3) := by decide +kernel
theorem dX3_lowerChildOf_39 : decode cX3_lowerChildOf 39 = .ok (.iload_n 2, 1) := by decide +kernel
theorem dX3_lowerChildOf_40 : decode cX3_lowerChildOf 40 = .ok (.ireturn, 1) := by decide +kernel
theorem dX3_swapIfLower_0 : decode cX3_swapIfLower 0 = .ok (.aload_n 0, 1) := by decide +kernel
theorem dX3_swapIfLower_1 : decode cX3_swapIfLower 1 = .ok (.getfield 9, 3) := by decide +kernel
theorem dX3_swapIfLower_4 : decode cX3_swapIfLower 4 = .ok (.iload_n 1, 1) := by decide +kernel
theorem dX3_swapIfLower_5 : decode cX3_swapIfLower 5 = .ok (.iaload, 1) := by decide +kernel
theorem dX3_swapIfLower_6 : decode cX3_swapIfLower 6 = .ok (.aload_n 0, 1) := by decide +kernel
theorem dX3_swapIfLower_7 : decode cX3_swapIfLower 7 = .ok (.getfield 9, 3) := by decide +kernel
theorem dX3_swapIfLower_10 : decode cX3_swapIfLower 10 = .ok (.iload_n 2, 1) := by decide +kernel
theorem dX3_swapIfLower_11 : decode cX3_swapIfLower 11 = .ok (.iaload, 1) := by decide +kernel
theorem dX3_swapIfLower_12 : decode cX3_swapIfLower 12 = .ok (.if_icmp .ge 29, 3) := by decide +kernel
theorem dX3_swapIfLower_15 : decode cX3_swapIfLower 15 = .ok (.aload_n 0, 1) := by decide +kernel
theorem dX3_swapIfLower_16 : decode cX3_swapIfLower 16 = .ok (.getfield 9, 3) := by decide +kernel
theorem dX3_swapIfLower_19 : decode cX3_swapIfLower 19 = .ok (.iload_n 1, 1) := by decide +kernel
theorem dX3_swapIfLower_20 : decode cX3_swapIfLower 20 = .ok (.iaload, 1) := by decide +kernel
theorem dX3_swapIfLower_21 : decode cX3_swapIfLower 21 = .ok (.istore_n 3, 1) := by decide +kernel
theorem dX3_swapIfLower_22 : decode cX3_swapIfLower 22 = .ok (.aload_n 0, 1) := by decide +kernel
theorem dX3_swapIfLower_23 : decode cX3_swapIfLower 23 = .ok (.getfield 9, 3) := by decide +kernel
theorem dX3_swapIfLower_26 : decode cX3_swapIfLower 26 = .ok (.iload_n 1, 1) := by decide +kernel
theorem dX3_swapIfLower_27 : decode cX3_swapIfLower 27 = .ok (.aload_n 0, 1) := by decide +kernel
theorem dX3_swapIfLower_28 : decode cX3_swapIfLower 28 = .ok (.getfield 9, 3) := by decide +kernel
theorem dX3_swapIfLower_31 : decode cX3_swapIfLower 31 = .ok (.iload_n 2, 1) := by decide +kernel
theorem dX3_swapIfLower_32 : decode cX3_swapIfLower 32 = .ok (.iaload, 1) := by decide +kernel
theorem dX3_swapIfLower_33 : decode cX3_swapIfLower 33 = .ok (.iastore, 1) := by decide +kernel
theorem dX3_swapIfLower_34 : decode cX3_swapIfLower 34 = .ok (.aload_n 0, 1) := by decide +kernel
theorem dX3_swapIfLower_35 : decode cX3_swapIfLower 35 = .ok (.getfield 9, 3) := by decide +kernel
theorem dX3_swapIfLower_38 : decode cX3_swapIfLower 38 = .ok (.iload_n 2, 1) := by decide +kernel
theorem dX3_swapIfLower_39 : decode cX3_swapIfLower 39 = .ok (.iload_n 3, 1) := by decide +kernel
theorem dX3_swapIfLower_40 : decode cX3_swapIfLower 40 = .ok (.iastore, 1) := by decide +kernel
theorem dX3_swapIfLower_41 : decode cX3_swapIfLower 41 = .ok (.return_, 1) := by decide +kernel
theorem dX4_init_0 : decode cX4_init 0 = .ok (.aload_n 0, 1) := by decide +kernel
theorem dX4_init_1 : decode cX4_init 1 = .ok (.invokespecial 3, 3) := by decide +kernel
theorem dX4_init_4 : decode cX4_init 4 = .ok (.aload_n 0, 1) := by decide +kernel
theorem dX4_init_5 : decode cX4_init 5 = .ok (.iconst 0, 1) := by decide +kernel
theorem dX4_init_6 : decode cX4_init 6 = .ok (.putfield 9, 3) := by decide +kernel
theorem dX4_init_9 : decode cX4_init 9 = .ok (.aload_n 0, 1) := by decide +kernel
theorem dX4_init_10 : decode cX4_init 10 = .ok (.iconst 0, 1) := by decide +kernel
theorem dX4_init_11 : decode cX4_init 11 = .ok (.putfield 15, 3) := by decide +kernel
theorem dX4_init_14 : decode cX4_init 14 = .ok (.aload_n 0, 1) := by decide +kernel
theorem dX4_init_15 : decode cX4_init 15 = .ok (.iconst 0, 1) := by decide +kernel
theorem dX4_init_16 : decode cX4_init 16 = .ok (.putfield 18, 3) := by decide +kernel
theorem dX4_init_19 : decode cX4_init 19 = .ok (.aload_n 0, 1) := by decide +kernel
theorem dX4_init_20 : decode cX4_init 20 = .ok (.iconst 0, 1) := by decide +kernel
theorem dX4_init_21 : decode cX4_init 21 = .ok (.putfield 21, 3) := by decide +kernel
theorem dX4_init_24 : decode cX4_init 24 = .ok (.aload_n 0, 1) := by decide +kernel
theorem dX4_init_25 : decode cX4_init 25 = .ok (.iconst 0, 1) := by decide +kernel
theorem dX4_init_26 : decode cX4_init 26 = .ok (.putfield 24, 3) := by decide +kernel
theorem dX4_init_29 : decode cX4_init 29 = .ok (.aload_n 0, 1) := by decide +kernel
theorem dX4_init_30 : decode cX4_init 30 = .ok (.bipush 16, 2) := by decide +kernel
theorem dX4_init_32 : decode cX4_init 32 = .ok (.newarray .char, 2) := by decide +kernel
theorem dX4_init_34 : decode cX4_init 34 = .ok (.putfield 27, 3) := by decide +kernel
theorem dX4_init_37 : decode cX4_init 37 = .ok (.aload_n 0, 1) := by decide +kernel
theorem dX4_init_38 : decode cX4_init 38 = .ok (.bipush 16, 2) := by decide +kernel
theorem dX4_init_40 : decode cX4_init 40 = .ok (.newarray .int, 2) := by decide +kernel
theorem dX4_init_42 : decode cX4_init 42 = .ok (.putfield 31, 3) := by decide +kernel
theorem dX4_init_45 : decode cX4_init 45 = .ok (.aload_n 0, 1) := by decide +kernel
theorem dX4_init_46 : decode cX4_init 46 = .ok (.bipush 16, 2) := by decide +kernel
theorem dX4_init_48 : decode cX4_init 48 = .ok (.newarray .int, 2) := by decide +kernel
theorem dX4_init_50 : decode cX4_init 50 = .ok (.putfield 35, 3) := by decide +kernel
theorem dX4_init_53 : decode cX4_init 53 = .ok (.return_, 1) := by decide +kernel
theorem dX4_takeOver_0 : decode cX4_takeOver 0 = .ok (.aload_n 0, 1) := by decide +kernel
theorem dX4_takeOver_1 : decode cX4_takeOver 1 = .ok (.aload_n 1, 1) := by decide +kernel
theorem dX4_takeOver_2 : decode cX4_takeOver 2 = .ok (.getfield 9, 3) := by decide +kernel
theorem dX4_takeOver_5 : decode cX4_takeOver 5 = .ok (.putfield 9, 3) := by decide +kernel
theorem dX4_takeOver_8 : decode cX4_takeOver 8 = .ok (.aload_n 0, 1) := by decide +kernel
theorem dX4_takeOver_9 : decode cX4_takeOver 9 = .ok (.aload_n 1, 1) := by decide +kernel
theorem dX4_takeOver_10 : decode cX4_takeOver 10 = .ok (.getfield 15, 3) := by decide +kernel
theorem dX4_takeOver_13 : decode cX4_takeOver 13 = .ok (.putfield 15, 3) := by decide +kernel
theorem dX4_takeOver_16 : decode cX4_takeOver 16 = .ok (.aload_n 0, 1) := by decide +kernel
theorem dX4_takeOver_17 : decode cX4_takeOver 17 = .ok (.aload_n 1, 1) := by decide +kernel
theorem dX4_takeOver_18 : decode cX4_takeOver 18 = .ok (.getfield 18, 3) := by decide +kernel
theorem dX4_takeOver_21 : decode cX4_takeOver 21 = .ok (.putfield 18, 3) := by decide +kernel
theorem dX4_takeOver_24 : decode cX4_takeOver 24 = .ok (.aload_n 0, 1) := by decide +kernel
theorem dX4_takeOver_25 : decode cX4_takeOver 25 = .ok (.aload_n 1, 1) := by decide +kernel
theorem dX4_takeOver_26 : decode cX4_takeOver 26 = .ok (.getfield 21, 3) := by decide +kernel
theorem dX4_takeOver_29 : decode cX4_takeOver 29 = .ok (.putfield 21, 3) := by decide +kernel
theorem dX4_takeOver_32 : decode cX4_takeOver 32 = .ok (.aload_n 0, 1) := by decide +kernel
theorem dX4_takeOver_33 : decode cX4_takeOver 33 = .ok (.aload_n 1, 1) := by decide +kernel
theorem dX4_takeOver_34 : decode cX4_takeOver 34 = .ok (.getfield 24, 3) := by decide +kernel
theorem dX4_takeOver_37 : decode cX4_takeOver 37 = .ok (.putfield 24, 3) := by decide +kernel
theorem dX4_takeOver_40 : decode cX4_takeOver 40 = .ok (.aload_n 1, 1) := by decide +kernel
theorem dX4_takeOver_41 : decode cX4_takeOver 41 = .ok (.getfield 27, 3) := by decide +kernel
theorem dX4_takeOver_44 : decode cX4_takeOver 44 = .ok (.iconst 0, 1) := by decide +kernel
theorem dX4_takeOver_45 : decode cX4_takeOver 45 = .ok (.aload_n 0, 1) := by decide +kernel
theorem dX4_takeOver_46 : decode cX4_takeOver 46 = .ok (.getfield 27, 3) := by decide +kernel
theorem dX4_takeOver_49 : decode cX4_takeOver 49 = .ok (.iconst 0, 1) := by decide +kernel
theorem dX4_takeOver_50 : decode cX4_takeOver 50 = .ok (.bipush 16, 2) := by decide +kernel
theorem dX4_takeOver_52 : decode cX4_takeOver 52 = .ok (.invokestatic 38, 3) := by decide +kernel
theorem dX4_takeOver_55 : decode cX4_takeOver 55 = .ok (.aload_n 1, 1) := by decide +kernel
theorem dX4_takeOver_56 : decode cX4_takeOver 56 = .ok (.getfield 31, 3) := by decide +kernel
theorem dX4_takeOver_59 : decode cX4_takeOver 59 = .ok (.iconst 0, 1) := by decide +kernel
theorem dX4_takeOver_60 : decode cX4_takeOver 60 = .ok (.aload_n 0, 1) := by decide +kernel
theorem dX4_takeOver_61 : decode cX4_takeOver 61 = .ok (.getfield 31, 3) := by decide +kernel
theorem dX4_takeOver_64 : decode cX4_takeOver 64 = .ok (.iconst 0, 1) := by decide +kernel
theorem dX4_takeOver_65 : decode cX4_takeOver 65 = .ok (.bipush 16, 2) := by decide +kernel
theorem dX4_takeOver_67 : decode cX4_takeOver 67 = .ok (.invokestatic 38, 3) := by decide +kernel
theorem dX4_takeOver_70 : decode cX4_takeOver 70 = .ok (.aload_n 1, 1) := by decide +kernel
theorem dX4_takeOver_71 : decode cX4_takeOver 71 = .ok (.getfield 35, 3) := by decide +kernel
theorem dX4_takeOver_74 : decode cX4_takeOver 74 = .ok (.iconst 0, 1) := by decide +kernel
theorem dX4_takeOver_75 : decode cX4_takeOver 75 = .ok (.aload_n 0, 1) := by decide +kernel
theorem dX4_takeOver_76 : decode cX4_takeOver 76 = .ok (.getfield 35, 3) := by decide +kernel
theorem dX4_takeOver_79 : decode cX4_takeOver 79 = .ok (.iconst 0, 1) := by decide +kernel
theorem dX4_takeOver_80 : decode cX4_takeOver 80 = .ok (.bipush 16, 2) := by decide +kernel
theorem dX4_takeOver_82 : decode cX4_takeOver 82 = .ok (.invokestatic 38, 3) := by decide +kernel
theorem dX4_takeOver_85 : decode cX4_takeOver 85 = .ok (.return_, 1) := by decide +kernel
theorem dX4_begin_0 : decode cX4_begin 0 = .ok (.aload_n 0, 1) := by decide +kernel
theorem dX4_begin_1 : decode cX4_begin 1 = .ok (.iload_n 1, 1) := by decide +kernel
theorem dX4_begin_2 : decode cX4_begin 2 = .ok (.putfield 9, 3) := by decide +kernel
theorem dX4_begin_5 : decode cX4_begin 5 = .ok (.aload_n 0, 1) := by decide +kernel
theorem dX4_begin_6 : decode cX4_begin 6 = .ok (.iload_n 2, 1) := by decide +kernel
theorem dX4_begin_7 : decode cX4_begin 7 = .ok (.putfield 15, 3) := by decide +kernel
theorem dX4_begin_10 : decode cX4_begin 10 = .ok (.aload_n 0, 1) := by decide +kernel
theorem dX4_begin_11 : decode cX4_begin 11 = .ok (.iload_n 3, 1) := by decide +kernel
theorem dX4_begin_12 : decode cX4_begin 12 = .ok (.putfield 18, 3) := by decide +kernel
theorem dX4_begin_15 : decode cX4_begin 15 = .ok (.aload_n 0, 1) := by decide +kernel
theorem dX4_begin_16 : decode cX4_begin 16 = .ok (.iload 4, 2) := by decide +kernel
theorem dX4_begin_18 : decode cX4_begin 18 = .ok (.putfield 21, 3) := by decide +kernel
theorem dX4_begin_21 : decode cX4_begin 21 = .ok (.aload_n 0, 1) := by decide +kernel
theorem dX4_begin_22 : decode cX4_begin 22 = .ok (.iconst 0, 1) := by decide +kernel
theorem dX4_begin_23 : decode cX4_begin 23 = .ok (.putfield 24, 3) := by decide +kernel
theorem dX4_begin_26 : decode cX4_begin 26 = .ok (.iconst 0, 1) := by decide +kernel
theorem dX4_begin_27 : decode cX4_begin 27 = .ok (.istore 5, 2) := by decide +kernel
theorem dX4_begin_29 : decode cX4_begin 29 = .ok (.iload 5, 2) := by decide +kernel
theorem dX4_begin_31 : decode cX4_begin 31 = .ok (.aload_n 0, 1) := by decide +kernel
theorem dX4_begin_32 : decode cX4_begin 32 = .ok (.getfield 21, 3) := by decide +kernel
theorem dX4_begin_35 : decode cX4_begin 35 = .ok (.if_icmp .ge 34, 3) := by decide +kernel
theorem dX4_begin_38 : decode cX4_begin 38 = .ok (.aload_n 0, 1) := by decide +kernel
theorem dX4_begin_39 : decode cX4_begin 39 = .ok (.getfield 27, 3) := by decide +kernel
theorem dX4_begin_42 : decode cX4_begin 42 = .ok (.iload 5, 2) := by decide +kernel
theorem dX4_begin_44 : decode cX4_begin 44 = .ok (.bipush 112, 2) := by decide +kernel
theorem dX4_begin_46 : decode cX4_begin 46 = .ok (.castore, 1) := by decide +kernel
theorem dX4_begin_47 : decode cX4_begin 47 = .ok (.aload_n 0, 1) := by decide +kernel
theorem dX4_begin_48 : decode cX4_begin 48 = .ok (.getfield 31, 3) := by decide +kernel
theorem dX4_begin_51 : decode cX4_begin 51 = .ok (.iload 5, 2) := by decide +kernel
theorem dX4_begin_53 : decode cX4_begin 53 = .ok (.iconst 0, 1) := by decide +kernel
theorem dX4_begin_54 : decode cX4_begin 54 = .ok (.iastore, 1) := by decide +kernel
theorem dX4_begin_55 : decode cX4_begin 55 = .ok (.aload_n 0, 1) := by decide +kernel
theorem dX4_begin_56 : decode cX4_begin 56 = .ok (.getfield 35, 3) := by decide +kernel
theorem dX4_begin_59 : decode cX4_begin 59 = .ok (.iload 5, 2) := by decide +kernel
theorem dX4_begin_61 : decode cX4_begin 61 = .ok (.iconst 0, 1) := by decide +kernel
theorem dX4_begin_62 : decode cX4_begin 62 = .ok (.iastore, 1) := by decide +kernel
theorem dX4_begin_63 : decode cX4_begin 63 = .ok (.iinc 5 1, 3) := by decide +kernel
theorem dX4_begin_66 : decode cX4_begin 66 = .ok (.goto (-37), 3) := by decide +kernel
theorem dX4_begin_69 : decode cX4_begin 69 = .ok (.return_, 1) := by decide +kernel
theorem dX4_hasSleeve_0 : decode cX4_hasSleeve 0 = .ok (.iload_n 1, 1) := by decide +kernel
theorem dX4_hasSleeve_1 : decode cX4_hasSleeve 1 = .ok (.ifCond .lt 15, 3) := by decide +kernel
theorem dX4_hasSleeve_4 : decode cX4_hasSleeve 4 = .ok (.iload_n 1, 1) := by decide +kernel
theorem dX4_hasSleeve_5 : decode cX4_hasSleeve 5 = .ok (.aload_n 0, 1) := by decide +kernel
theorem dX4_hasSleeve_6 : decode cX4_hasSleeve 6 = .ok (.getfield 21, 3) := by decide +kernel
theorem dX4_hasSleeve_9 : decode cX4_hasSleeve 9 = .ok (.if_icmp .ge 7, 3) := by decide +kernel
theorem dX4_hasSleeve_12 : decode cX4_hasSleeve 12 = .ok (.iconst 1, 1) := by decide +kernel
theorem dX4_hasSleeve_13 : decode cX4_hasSleeve 13 = .ok (.goto 4, 3) := by decide +kernel
theorem dX4_hasSleeve_16 : decode cX4_hasSleeve 16 = .ok (.iconst 0, 1) := by decide +kernel
theorem dX4_hasSleeve_17 : decode cX4_hasSleeve 17 = .ok (.ireturn, 1) := by decide +kernel
theorem dX4_isPlanned_0 : decode cX4_isPlanned 0 = .ok (.aload_n 0, 1) := by decide +kernel
theorem dX4_isPlanned_1 : decode cX4_isPlanned 1 = .ok (.getfield 27, 3) := by decide +kernel
theorem dX4_isPlanned_4 : decode cX4_isPlanned 4 = .ok (.iload_n 1, 1) := by decide +kernel
theorem dX4_isPlanned_5 : decode cX4_isPlanned 5 = .ok (.caload, 1) := by decide +kernel
theorem dX4_isPlanned_6 : decode cX4_isPlanned 6 = .ok (.bipush 112, 2) := by decide +kernel
theorem dX4_isPlanned_8 : decode cX4_isPlanned 8 = .ok (.if_icmp .ne 7, 3) := by decide +kernel
theorem dX4_isPlanned_11 : decode cX4_isPlanned 11 = .ok (.iconst 1, 1) := by decide +kernel
theorem dX4_isPlanned_12 : decode cX4_isPlanned 12 = .ok (.goto 4, 3) := by decide +kernel
theorem dX4_isPlanned_15 : decode cX4_isPlanned 15 = .ok (.iconst 0, 1) := by decide +kernel
theorem dX4_isPlanned_16 : decode cX4_isPlanned 16 = .ok (.ireturn, 1) := by decide +kernel
theorem dX4_isSewn_0 : decode cX4_isSewn 0 = .ok (.aload_n 0, 1) := by decide +kernel
theorem dX4_isSewn_1 : decode cX4_isSewn 1 = .ok (.getfield 27, 3) := by decide +kernel
theorem dX4_isSewn_4 : decode cX4_isSewn 4 = .ok (.iload_n 1, 1) := by decide +kernel
theorem dX4_isSewn_5 : decode cX4_isSewn 5 = .ok (.caload, 1) := by decide +kernel
theorem dX4_isSewn_6 : decode cX4_isSewn 6 = .ok (.bipush 115, 2) := by decide +kernel
theorem dX4_isSewn_8 : decode cX4_isSewn 8 = .ok (.if_icmp .ne 7, 3) := by decide +kernel
theorem dX4_isSewn_11 : decode cX4_isSewn 11 = .ok (.iconst 1, 1) := by decide +kernel
theorem dX4_isSewn_12 : decode cX4_isSewn 12 = .ok (.goto 4, 3) := by decide +kernel
theorem dX4_isSewn_15 : decode cX4_isSewn 15 = .ok (.iconst 0, 1) := by decide +kernel
theorem dX4_isSewn_16 : decode cX4_isSewn 16 = .ok (.ireturn, 1) := by decide +kernel
theorem dX4_allSleeves_0 : decode cX4_allSleeves 0 = .ok (.iconst 1, 1) := by decide +kernel
theorem dX4_allSleeves_1 : decode cX4_allSleeves 1 = .ok (.aload_n 0, 1) := by decide +kernel
theorem dX4_allSleeves_2 : decode cX4_allSleeves 2 = .ok (.getfield 21, 3) := by decide +kernel
theorem dX4_allSleeves_5 : decode cX4_allSleeves 5 = .ok (.ishl, 1) := by decide +kernel
theorem dX4_allSleeves_6 : decode cX4_allSleeves 6 = .ok (.iconst 1, 1) := by decide +kernel
theorem dX4_allSleeves_7 : decode cX4_allSleeves 7 = .ok (.isub, 1) := by decide +kernel
theorem dX4_allSleeves_8 : decode cX4_allSleeves 8 = .ok (.ireturn, 1) := by decide +kernel
theorem dX4_sewnSet_0 : decode cX4_sewnSet 0 = .ok (.iconst 0, 1) := by decide +kernel
theorem dX4_sewnSet_1 : decode cX4_sewnSet 1 = .ok (.istore_n 1, 1) := by decide +kernel
theorem dX4_sewnSet_2 : decode cX4_sewnSet 2 = .ok (.iconst 0, 1) := by decide +kernel
theorem dX4_sewnSet_3 : decode cX4_sewnSet 3 = .ok (.istore_n 2, 1) := by decide +kernel
theorem dX4_sewnSet_4 : decode cX4_sewnSet 4 = .ok (.iload_n 2, 1) := by decide +kernel
theorem dX4_sewnSet_5 : decode cX4_sewnSet 5 = .ok (.aload_n 0, 1) := by decide +kernel
theorem dX4_sewnSet_6 : decode cX4_sewnSet 6 = .ok (.getfield 21, 3) := by decide +kernel
theorem dX4_sewnSet_9 : decode cX4_sewnSet 9 = .ok (.if_icmp .ge 26, 3) := by decide +kernel
theorem dX4_sewnSet_12 : decode cX4_sewnSet 12 = .ok (.aload_n 0, 1) := by decide +kernel
theorem dX4_sewnSet_13 : decode cX4_sewnSet 13 = .ok (.getfield 27, 3) := by decide +kernel
theorem dX4_sewnSet_16 : decode cX4_sewnSet 16 = .ok (.iload_n 2, 1) := by decide +kernel
theorem dX4_sewnSet_17 : decode cX4_sewnSet 17 = .ok (.caload, 1) := by decide +kernel
theorem dX4_sewnSet_18 : decode cX4_sewnSet 18 = .ok (.bipush 115, 2) := by decide +kernel
theorem dX4_sewnSet_20 : decode cX4_sewnSet 20 = .ok (.if_icmp .ne 9, 3) := by decide +kernel
theorem dX4_sewnSet_23 : decode cX4_sewnSet 23 = .ok (.iload_n 1, 1) := by decide +kernel
theorem dX4_sewnSet_24 : decode cX4_sewnSet 24 = .ok (.iconst 1, 1) := by decide +kernel
theorem dX4_sewnSet_25 : decode cX4_sewnSet 25 = .ok (.iload_n 2, 1) := by decide +kernel
theorem dX4_sewnSet_26 : decode cX4_sewnSet 26 = .ok (.ishl, 1) := by decide +kernel
theorem dX4_sewnSet_27 : decode cX4_sewnSet 27 = .ok (.ior, 1) := by decide +kernel
theorem dX4_sewnSet_28 : decode cX4_sewnSet 28 = .ok (.istore_n 1, 1) := by decide +kernel
theorem dX4_sewnSet_29 : decode cX4_sewnSet 29 = .ok (.iinc 2 1, 3) := by decide +kernel
theorem dX4_sewnSet_32 : decode cX4_sewnSet 32 = .ok (.goto (-28), 3) := by decide +kernel
theorem dX4_sewnSet_35 : decode cX4_sewnSet 35 = .ok (.iload_n 1, 1) := by decide +kernel
theorem dX4_sewnSet_36 : decode cX4_sewnSet 36 = .ok (.ireturn, 1) := by decide +kernel
theorem dX4_sewnCount_0 : decode cX4_sewnCount 0 = .ok (.aload_n 0, 1) := by decide +kernel
theorem dX4_sewnCount_1 : decode cX4_sewnCount 1 = .ok (.invokevirtual 44, 3) := by decide +kernel
theorem dX4_sewnCount_4 : decode cX4_sewnCount 4 = .ok (.invokestatic 48, 3) := by decide +kernel
theorem dX4_sewnCount_7 : decode cX4_sewnCount 7 = .ok (.ireturn, 1) := by decide +kernel
theorem dX4_unsewnCount_0 : decode cX4_unsewnCount 0 = .ok (.aload_n 0, 1) := by decide +kernel
theorem dX4_unsewnCount_1 : decode cX4_unsewnCount 1 = .ok (.getfield 21, 3) := by decide +kernel
theorem dX4_unsewnCount_4 : decode cX4_unsewnCount 4 = .ok (.aload_n 0, 1) := by decide +kernel
theorem dX4_unsewnCount_5 : decode cX4_unsewnCount 5 = .ok (.invokevirtual 44, 3) := by decide +kernel
theorem dX4_unsewnCount_8 : decode cX4_unsewnCount 8 = .ok (.invokestatic 48, 3) := by decide +kernel
theorem dX4_unsewnCount_11 : decode cX4_unsewnCount 11 = .ok (.isub, 1) := by decide +kernel
theorem dX4_unsewnCount_12 : decode cX4_unsewnCount 12 = .ok (.ireturn, 1) := by decide +kernel
theorem dX4_fitsAt_0 : decode cX4_fitsAt 0 = .ok (.aload_n 0, 1) := by decide +kernel
theorem dX4_fitsAt_1 : decode cX4_fitsAt 1 = .ok (.getfield 31, 3) := by decide +kernel
theorem dX4_fitsAt_4 : decode cX4_fitsAt 4 = .ok (.iload_n 1, 1) := by decide +kernel
theorem dX4_fitsAt_5 : decode cX4_fitsAt 5 = .ok (.iaload, 1) := by decide +kernel
theorem dX4_fitsAt_6 : decode cX4_fitsAt 6 = .ok (.aload_n 2, 1) := by decide +kernel
theorem dX4_fitsAt_7 : decode cX4_fitsAt 7 = .ok (.getfield 54, 3) := by decide +kernel
theorem dX4_fitsAt_10 : decode cX4_fitsAt 10 = .ok (.iload_n 1, 1) := by decide +kernel
theorem dX4_fitsAt_11 : decode cX4_fitsAt 11 = .ok (.iaload, 1) := by decide +kernel
theorem dX4_fitsAt_12 : decode cX4_fitsAt 12 = .ok (.if_icmp .ne 7, 3) := by decide +kernel
theorem dX4_fitsAt_15 : decode cX4_fitsAt 15 = .ok (.iconst 1, 1) := by decide +kernel
theorem dX4_fitsAt_16 : decode cX4_fitsAt 16 = .ok (.goto 4, 3) := by decide +kernel
theorem dX4_fitsAt_19 : decode cX4_fitsAt 19 = .ok (.iconst 0, 1) := by decide +kernel
theorem dX4_fitsAt_20 : decode cX4_fitsAt 20 = .ok (.ireturn, 1) := by decide +kernel
theorem dX4_isFitting_0 : decode cX4_isFitting 0 = .ok (.iconst 0, 1) := by decide +kernel
theorem dX4_isFitting_1 : decode cX4_isFitting 1 = .ok (.istore_n 2, 1) := by decide +kernel
theorem dX4_isFitting_2 : decode cX4_isFitting 2 = .ok (.iload_n 2, 1) := by decide +kernel
theorem dX4_isFitting_3 : decode cX4_isFitting 3 = .ok (.aload_n 0, 1) := by decide +kernel
theorem dX4_isFitting_4 : decode cX4_isFitting 4 = .ok (.getfield 21, 3) := by decide +kernel
theorem dX4_isFitting_7 : decode cX4_isFitting 7 = .ok (.if_icmp .ge 28, 3) := by decide +kernel
theorem dX4_isFitting_10 : decode cX4_isFitting 10 = .ok (.aload_n 0, 1) := by decide +kernel
theorem dX4_isFitting_11 : decode cX4_isFitting 11 = .ok (.iload_n 2, 1) := by decide +kernel
theorem dX4_isFitting_12 : decode cX4_isFitting 12 = .ok (.invokevirtual 59, 3) := by decide +kernel
theorem dX4_isFitting_15 : decode cX4_isFitting 15 = .ok (.ifCond .ne 14, 3) := by decide +kernel
theorem dX4_isFitting_18 : decode cX4_isFitting 18 = .ok (.aload_n 0, 1) := by decide +kernel
theorem dX4_isFitting_19 : decode cX4_isFitting 19 = .ok (.iload_n 2, 1) := by decide +kernel
theorem dX4_isFitting_20 : decode cX4_isFitting 20 = .ok (.aload_n 1, 1) := by decide +kernel
theorem dX4_isFitting_21 : decode cX4_isFitting 21 = .ok (.invokevirtual 63, 3) := by decide +kernel
theorem dX4_isFitting_24 : decode cX4_isFitting 24 = .ok (.ifCond .ne 5, 3) := by decide +kernel
theorem dX4_isFitting_27 : decode cX4_isFitting 27 = .ok (.iconst 0, 1) := by decide +kernel
theorem dX4_isFitting_28 : decode cX4_isFitting 28 = .ok (.ireturn, 1) := by decide +kernel
theorem dX4_isFitting_29 : decode cX4_isFitting 29 = .ok (.iinc 2 1, 3) := by decide +kernel
theorem dX4_isFitting_32 : decode cX4_isFitting 32 = .ok (.goto (-30), 3) := by decide +kernel
theorem dX4_isFitting_35 : decode cX4_isFitting 35 = .ok (.iconst 1, 1) := by decide +kernel
theorem dX4_isFitting_36 : decode cX4_isFitting 36 = .ok (.ireturn, 1) := by decide +kernel
theorem dX4_hasEvenSleeves_0 : decode cX4_hasEvenSleeves 0 = .ok (.iconst 0, 1) := by decide +kernel
theorem dX4_hasEvenSleeves_1 : decode cX4_hasEvenSleeves 1 = .ok (.istore_n 1, 1) := by decide +kernel
theorem dX4_hasEvenSleeves_2 : decode cX4_hasEvenSleeves 2 = .ok (.iload_n 1, 1) := by decide +kernel
theorem dX4_hasEvenSleeves_3 : decode cX4_hasEvenSleeves 3 = .ok (.iconst 1, 1) := by decide +kernel
theorem dX4_hasEvenSleeves_4 : decode cX4_hasEvenSleeves 4 = .ok (.iadd, 1) := by decide +kernel
theorem dX4_hasEvenSleeves_5 : decode cX4_hasEvenSleeves 5 = .ok (.aload_n 0, 1) := by decide +kernel
theorem dX4_hasEvenSleeves_6 : decode cX4_hasEvenSleeves 6 = .ok (.getfield 21, 3) := by decide +kernel
theorem dX4_hasEvenSleeves_9 : decode cX4_hasEvenSleeves 9 = .ok (.if_icmp .ge 58, 3) := by decide +kernel
theorem dX4_hasEvenSleeves_12 : decode cX4_hasEvenSleeves 12 = .ok (.aload_n 0, 1) := by decide +kernel
theorem dX4_hasEvenSleeves_13 : decode cX4_hasEvenSleeves 13 = .ok (.iload_n 1, 1) := by decide +kernel
theorem dX4_hasEvenSleeves_14 : decode cX4_hasEvenSleeves 14 = .ok (.invokevirtual 59, 3) := by decide +kernel
theorem dX4_hasEvenSleeves_17 : decode cX4_hasEvenSleeves 17 = .ok (.aload_n 0, 1) := by decide +kernel
theorem dX4_hasEvenSleeves_18 : decode cX4_hasEvenSleeves 18 = .ok (.iload_n 1, 1) := by decide +kernel
theorem dX4_hasEvenSleeves_19 : decode cX4_hasEvenSleeves 19 = .ok (.iconst 1, 1) := by decide +kernel
theorem dX4_hasEvenSleeves_20 : decode cX4_hasEvenSleeves 20 = .ok (.iadd, 1) := by decide +kernel
theorem dX4_hasEvenSleeves_21 : decode cX4_hasEvenSleeves 21 = .ok (.invokevirtual 59, 3) := by decide +kernel
theorem dX4_hasEvenSleeves_24 : decode cX4_hasEvenSleeves 24 = .ok (.if_icmp .eq 5, 3) := by decide +kernel
theorem dX4_hasEvenSleeves_27 : decode cX4_hasEvenSleeves 27 = .ok (.iconst 0, 1) := by decide +kernel
theorem dX4_hasEvenSleeves_28 : decode cX4_hasEvenSleeves 28 = .ok (.ireturn, 1) := by decide +kernel
theorem dX4_hasEvenSleeves_29 : decode cX4_hasEvenSleeves 29 = .ok (.aload_n 0, 1) := by decide +kernel
theorem dX4_hasEvenSleeves_30 : decode cX4_hasEvenSleeves 30 = .ok (.iload_n 1, 1) := by decide +kernel
theorem dX4_hasEvenSleeves_31 : decode cX4_hasEvenSleeves 31 = .ok (.invokevirtual 59, 3) := by decide +kernel
theorem dX4_hasEvenSleeves_34 : decode cX4_hasEvenSleeves 34 = .ok (.ifCond .ne 27, 3) := by decide +kernel
theorem dX4_hasEvenSleeves_37 : decode cX4_hasEvenSleeves 37 = .ok (.aload_n 0, 1) := by decide +kernel
theorem dX4_hasEvenSleeves_38 : decode cX4_hasEvenSleeves 38 = .ok (.getfield 31, 3) := by decide +kernel
theorem dX4_hasEvenSleeves_41 : decode cX4_hasEvenSleeves 41 = .ok (.iload_n 1, 1) := by decide +kernel
theorem dX4_hasEvenSleeves_42 : decode cX4_hasEvenSleeves 42 = .ok (.iaload, 1) := by decide +kernel
theorem dX4_hasEvenSleeves_43 : decode cX4_hasEvenSleeves 43 = .ok (.aload_n 0, 1) := by decide +kernel
theorem dX4_hasEvenSleeves_44 : decode cX4_hasEvenSleeves 44 = .ok (.getfield 31, 3) := by decide +kernel
theorem dX4_hasEvenSleeves_47 : decode cX4_hasEvenSleeves 47 = .ok (.iload_n 1, 1) := by decide +kernel
theorem dX4_hasEvenSleeves_48 : decode cX4_hasEvenSleeves 48 = .ok (.iconst 1, 1) := by decide +kernel
theorem dX4_hasEvenSleeves_49 : decode cX4_hasEvenSleeves 49 = .ok (.iadd, 1) := by decide +kernel
theorem dX4_hasEvenSleeves_50 : decode cX4_hasEvenSleeves 50 = .ok (.iaload, 1) := by decide +kernel
theorem dX4_hasEvenSleeves_51 : decode cX4_hasEvenSleeves 51 = .ok (.isub, 1) := by decide +kernel
theorem dX4_hasEvenSleeves_52 : decode cX4_hasEvenSleeves 52 = .ok (.invokestatic 67, 3) := by decide +kernel
theorem dX4_hasEvenSleeves_55 : decode cX4_hasEvenSleeves 55 = .ok (.iconst 1, 1) := by decide +kernel
theorem dX4_hasEvenSleeves_56 : decode cX4_hasEvenSleeves 56 = .ok (.if_icmp .le 5, 3) := by decide +kernel
theorem dX4_hasEvenSleeves_59 : decode cX4_hasEvenSleeves 59 = .ok (.iconst 0, 1) := by decide +kernel
theorem dX4_hasEvenSleeves_60 : decode cX4_hasEvenSleeves 60 = .ok (.ireturn, 1) := by decide +kernel
theorem dX4_hasEvenSleeves_61 : decode cX4_hasEvenSleeves 61 = .ok (.iinc 1 2, 3) := by decide +kernel
theorem dX4_hasEvenSleeves_64 : decode cX4_hasEvenSleeves 64 = .ok (.goto (-62), 3) := by decide +kernel
theorem dX4_hasEvenSleeves_67 : decode cX4_hasEvenSleeves 67 = .ok (.iconst 1, 1) := by decide +kernel
theorem dX4_hasEvenSleeves_68 : decode cX4_hasEvenSleeves 68 = .ok (.ireturn, 1) := by decide +kernel
theorem dX4_isReadyFor_0 : decode cX4_isReadyFor 0 = .ok (.aload_n 0, 1) := by decide +kernel
theorem dX4_isReadyFor_1 : decode cX4_isReadyFor 1 = .ok (.invokevirtual 44, 3) := by decide +kernel
theorem dX4_isReadyFor_4 : decode cX4_isReadyFor 4 = .ok (.aload_n 0, 1) := by decide +kernel
theorem dX4_isReadyFor_5 : decode cX4_isReadyFor 5 = .ok (.invokevirtual 72, 3) := by decide +kernel
theorem dX4_isReadyFor_8 : decode cX4_isReadyFor 8 = .ok (.if_icmp .ne 22, 3) := by decide +kernel
theorem dX4_isReadyFor_11 : decode cX4_isReadyFor 11 = .ok (.aload_n 0, 1) := by decide +kernel
theorem dX4_isReadyFor_12 : decode cX4_isReadyFor 12 = .ok (.aload_n 1, 1) := by decide +kernel
theorem dX4_isReadyFor_13 : decode cX4_isReadyFor 13 = .ok (.invokevirtual 75, 3) := by decide +kernel
theorem dX4_isReadyFor_16 : decode cX4_isReadyFor 16 = .ok (.ifCond .eq 14, 3) := by decide +kernel
theorem dX4_isReadyFor_19 : decode cX4_isReadyFor 19 = .ok (.aload_n 0, 1) := by decide +kernel
theorem dX4_isReadyFor_20 : decode cX4_isReadyFor 20 = .ok (.invokevirtual 79, 3) := by decide +kernel
theorem dX4_isReadyFor_23 : decode cX4_isReadyFor 23 = .ok (.ifCond .eq 7, 3) := by decide +kernel
theorem dX4_isReadyFor_26 : decode cX4_isReadyFor 26 = .ok (.iconst 1, 1) := by decide +kernel
theorem dX4_isReadyFor_27 : decode cX4_isReadyFor 27 = .ok (.goto 4, 3) := by decide +kernel
theorem dX4_isReadyFor_30 : decode cX4_isReadyFor 30 = .ok (.iconst 0, 1) := by decide +kernel
theorem dX4_isReadyFor_31 : decode cX4_isReadyFor 31 = .ok (.ireturn, 1) := by decide +kernel
theorem dX4_priceFor_0 : decode cX4_priceFor 0 = .ok (.iconst 3, 1) := by decide +kernel
theorem dX4_priceFor_1 : decode cX4_priceFor 1 = .ok (.aload_n 0, 1) := by decide +kernel
theorem dX4_priceFor_2 : decode cX4_priceFor 2 = .ok (.getfield 24, 3) := by decide +kernel
theorem dX4_priceFor_5 : decode cX4_priceFor 5 = .ok (.imul, 1) := by decide +kernel
theorem dX4_priceFor_6 : decode cX4_priceFor 6 = .ok (.istore_n 2, 1) := by decide +kernel
theorem dX4_priceFor_7 : decode cX4_priceFor 7 = .ok (.iconst 0, 1) := by decide +kernel
theorem dX4_priceFor_8 : decode cX4_priceFor 8 = .ok (.istore_n 3, 1) := by decide +kernel
theorem dX4_priceFor_9 : decode cX4_priceFor 9 = .ok (.iload_n 3, 1) := by decide +kernel
theorem dX4_priceFor_10 : decode cX4_priceFor 10 = .ok (.aload_n 0, 1) := by decide +kernel
theorem dX4_priceFor_11 : decode cX4_priceFor 11 = .ok (.getfield 21, 3) := by decide +kernel
theorem dX4_priceFor_14 : decode cX4_priceFor 14 = .ok (.if_icmp .ge 35, 3) := by decide +kernel
theorem dX4_priceFor_17 : decode cX4_priceFor 17 = .ok (.iload_n 2, 1) := by decide +kernel
theorem dX4_priceFor_18 : decode cX4_priceFor 18 = .ok (.aload_n 0, 1) := by decide +kernel
theorem dX4_priceFor_19 : decode cX4_priceFor 19 = .ok (.iload_n 3, 1) := by decide +kernel
theorem dX4_priceFor_20 : decode cX4_priceFor 20 = .ok (.invokevirtual 59, 3) := by decide +kernel
theorem dX4_priceFor_23 : decode cX4_priceFor 23 = .ok (.ifCond .eq 12, 3) := by decide +kernel
theorem dX4_priceFor_26 : decode cX4_priceFor 26 = .ok (.aload_n 1, 1) := by decide +kernel
theorem dX4_priceFor_27 : decode cX4_priceFor 27 = .ok (.getfield 54, 3) := by decide +kernel
theorem dX4_priceFor_30 : decode cX4_priceFor 30 = .ok (.iload_n 3, 1) := by decide +kernel
theorem dX4_priceFor_31 : decode cX4_priceFor 31 = .ok (.iaload, 1) := by decide +kernel
theorem dX4_priceFor_32 : decode cX4_priceFor 32 = .ok (.goto 9, 3) := by decide +kernel
theorem dX4_priceFor_35 : decode cX4_priceFor 35 = .ok (.aload_n 0, 1) := by decide +kernel
theorem dX4_priceFor_36 : decode cX4_priceFor 36 = .ok (.getfield 31, 3) := by decide +kernel
theorem dX4_priceFor_39 : decode cX4_priceFor 39 = .ok (.iload_n 3, 1) := by decide +kernel
theorem dX4_priceFor_40 : decode cX4_priceFor 40 = .ok (.iaload, 1) := by decide +kernel
theorem dX4_priceFor_41 : decode cX4_priceFor 41 = .ok (.iadd, 1) := by decide +kernel
theorem dX4_priceFor_42 : decode cX4_priceFor 42 = .ok (.istore_n 2, 1) := by decide +kernel
theorem dX4_priceFor_43 : decode cX4_priceFor 43 = .ok (.iinc 3 1, 3) := by decide +kernel
theorem dX4_priceFor_46 : decode cX4_priceFor 46 = .ok (.goto (-37), 3) := by decide +kernel
theorem dX4_priceFor_49 : decode cX4_priceFor 49 = .ok (.iload_n 2, 1) := by decide +kernel
theorem dX4_priceFor_50 : decode cX4_priceFor 50 = .ok (.ireturn, 1) := by decide +kernel
theorem dX4_clothInside_0 : decode cX4_clothInside 0 = .ok (.iconst 0, 1) := by decide +kernel
theorem dX4_clothInside_1 : decode cX4_clothInside 1 = .ok (.istore_n 1, 1) := by decide +kernel
theorem dX4_clothInside_2 : decode cX4_clothInside 2 = .ok (.iconst 0, 1) := by decide +kernel
theorem dX4_clothInside_3 : decode cX4_clothInside 3 = .ok (.istore_n 2, 1) := by decide +kernel
theorem dX4_clothInside_4 : decode cX4_clothInside 4 = .ok (.iload_n 2, 1) := by decide +kernel
theorem dX4_clothInside_5 : decode cX4_clothInside 5 = .ok (.aload_n 0, 1) := by decide +kernel
theorem dX4_clothInside_6 : decode cX4_clothInside 6 = .ok (.getfield 21, 3) := by decide +kernel
theorem dX4_clothInside_9 : decode cX4_clothInside 9 = .ok (.if_icmp .ge 28, 3) := by decide +kernel
theorem dX4_clothInside_12 : decode cX4_clothInside 12 = .ok (.aload_n 0, 1) := by decide +kernel
theorem dX4_clothInside_13 : decode cX4_clothInside 13 = .ok (.iload_n 2, 1) := by decide +kernel
theorem dX4_clothInside_14 : decode cX4_clothInside 14 = .ok (.invokevirtual 59, 3) := by decide +kernel
theorem dX4_clothInside_17 : decode cX4_clothInside 17 = .ok (.ifCond .ne 14, 3) := by decide +kernel
theorem dX4_clothInside_20 : decode cX4_clothInside 20 = .ok (.iload_n 1, 1) := by decide +kernel
theorem dX4_clothInside_21 : decode cX4_clothInside 21 = .ok (.aload_n 0, 1) := by decide +kernel
theorem dX4_clothInside_22 : decode cX4_clothInside 22 = .ok (.getfield 31, 3) := by decide +kernel
theorem dX4_clothInside_25 : decode cX4_clothInside 25 = .ok (.iload_n 2, 1) := by decide +kernel
theorem dX4_clothInside_26 : decode cX4_clothInside 26 = .ok (.iaload, 1) := by decide +kernel
theorem dX4_clothInside_27 : decode cX4_clothInside 27 = .ok (.iconst 2, 1) := by decide +kernel
theorem dX4_clothInside_28 : decode cX4_clothInside 28 = .ok (.iadd, 1) := by decide +kernel
theorem dX4_clothInside_29 : decode cX4_clothInside 29 = .ok (.iadd, 1) := by decide +kernel
theorem dX4_clothInside_30 : decode cX4_clothInside 30 = .ok (.istore_n 1, 1) := by decide +kernel
theorem dX4_clothInside_31 : decode cX4_clothInside 31 = .ok (.iinc 2 1, 3) := by decide +kernel
theorem dX4_clothInside_34 : decode cX4_clothInside 34 = .ok (.goto (-30), 3) := by decide +kernel
theorem dX4_clothInside_37 : decode cX4_clothInside 37 = .ok (.iload_n 1, 1) := by decide +kernel
theorem dX4_clothInside_38 : decode cX4_clothInside 38 = .ok (.ireturn, 1) := by decide +kernel
theorem dX4_neededBySleeve_0 : decode cX4_neededBySleeve 0 = .ok (.iconst 0, 1) := by decide +kernel
theorem dX4_neededBySleeve_1 : decode cX4_neededBySleeve 1 = .ok (.istore_n 2, 1) := by decide +kernel
theorem dX4_neededBySleeve_2 : decode cX4_neededBySleeve 2 = .ok (.iconst 0, 1) := by decide +kernel
theorem dX4_neededBySleeve_3 : decode cX4_neededBySleeve 3 = .ok (.istore_n 3, 1) := by decide +kernel
theorem dX4_neededBySleeve_4 : decode cX4_neededBySleeve 4 = .ok (.iload_n 3, 1) := by decide +kernel
theorem dX4_neededBySleeve_5 : decode cX4_neededBySleeve 5 = .ok (.aload_n 0, 1) := by decide +kernel
theorem dX4_neededBySleeve_6 : decode cX4_neededBySleeve 6 = .ok (.getfield 21, 3) := by decide +kernel
theorem dX4_neededBySleeve_9 : decode cX4_neededBySleeve 9 = .ok (.if_icmp .ge 28, 3) := by decide +kernel
theorem dX4_neededBySleeve_12 : decode cX4_neededBySleeve 12 = .ok (.aload_n 0, 1) := by decide +kernel
theorem dX4_neededBySleeve_13 : decode cX4_neededBySleeve 13 = .ok (.iload_n 3, 1) := by decide +kernel
theorem dX4_neededBySleeve_14 : decode cX4_neededBySleeve 14 = .ok (.invokevirtual 59, 3) := by decide +kernel
theorem dX4_neededBySleeve_17 : decode cX4_neededBySleeve 17 = .ok (.ifCond .eq 14, 3) := by decide +kernel
theorem dX4_neededBySleeve_20 : decode cX4_neededBySleeve 20 = .ok (.iload_n 2, 1) := by decide +kernel
theorem dX4_neededBySleeve_21 : decode cX4_neededBySleeve 21 = .ok (.aload_n 1, 1) := by decide +kernel
theorem dX4_neededBySleeve_22 : decode cX4_neededBySleeve 22 = .ok (.getfield 54, 3) := by decide +kernel
theorem dX4_neededBySleeve_25 : decode cX4_neededBySleeve 25 = .ok (.iload_n 3, 1) := by decide +kernel
theorem dX4_neededBySleeve_26 : decode cX4_neededBySleeve 26 = .ok (.iaload, 1) := by decide +kernel
theorem dX4_neededBySleeve_27 : decode cX4_neededBySleeve 27 = .ok (.iconst 2, 1) := by decide +kernel
theorem dX4_neededBySleeve_28 : decode cX4_neededBySleeve 28 = .ok (.iadd, 1) := by decide +kernel
theorem dX4_neededBySleeve_29 : decode cX4_neededBySleeve 29 = .ok (.iadd, 1) := by decide +kernel
theorem dX4_neededBySleeve_30 : decode cX4_neededBySleeve 30 = .ok (.istore_n 2, 1) := by decide +kernel
theorem dX4_neededBySleeve_31 : decode cX4_neededBySleeve 31 = .ok (.iinc 3 1, 3) := by decide +kernel
theorem dX4_neededBySleeve_34 : decode cX4_neededBySleeve 34 = .ok (.goto (-30), 3) := by decide +kernel
theorem dX4_neededBySleeve_37 : decode cX4_neededBySleeve 37 = .ok (.iload_n 2, 1) := by decide +kernel
theorem dX4_neededBySleeve_38 : decode cX4_neededBySleeve 38 = .ok (.ireturn, 1) := by decide +kernel
theorem dX4_neededByDifference_0 : decode cX4_neededByDifference 0 = .ok (.aload_n 1, 1) := by decide +kernel
theorem dX4_neededByDifference_1 : decode cX4_neededByDifference 1 = .ok (.invokevirtual 83, 3) := by decide +kernel
theorem dX4_neededByDifference_4 : decode cX4_neededByDifference 4 = .ok (.iconst 2, 1) := by decide +kernel
theorem dX4_neededByDifference_5 : decode cX4_neededByDifference 5 = .ok (.aload_n 0, 1) := by decide +kernel
theorem dX4_neededByDifference_6 : decode cX4_neededByDifference 6 = .ok (.getfield 21, 3) := by decide +kernel
theorem dX4_neededByDifference_9 : decode cX4_neededByDifference 9 = .ok (.imul, 1) := by decide +kernel
theorem dX4_neededByDifference_10 : decode cX4_neededByDifference 10 = .ok (.iadd, 1) := by decide +kernel
theorem dX4_neededByDifference_11 : decode cX4_neededByDifference 11 = .ok (.istore_n 2, 1) := by decide +kernel
theorem dX4_neededByDifference_12 : decode cX4_neededByDifference 12 = .ok (.iconst 0, 1) := by decide +kernel
theorem dX4_neededByDifference_13 : decode cX4_neededByDifference 13 = .ok (.istore_n 3, 1) := by decide +kernel
theorem dX4_neededByDifference_14 : decode cX4_neededByDifference 14 = .ok (.iload_n 3, 1) := by decide +kernel
theorem dX4_neededByDifference_15 : decode cX4_neededByDifference 15 = .ok (.aload_n 0, 1) := by decide +kernel
theorem dX4_neededByDifference_16 : decode cX4_neededByDifference 16 = .ok (.getfield 21, 3) := by decide +kernel
theorem dX4_neededByDifference_19 : decode cX4_neededByDifference 19 = .ok (.if_icmp .ge 28, 3) := by decide +kernel
theorem dX4_neededByDifference_22 : decode cX4_neededByDifference 22 = .ok (.aload_n 0, 1) := by decide +kernel
theorem dX4_neededByDifference_23 : decode cX4_neededByDifference 23 = .ok (.iload_n 3, 1) := by decide +kernel
theorem dX4_neededByDifference_24 : decode cX4_neededByDifference 24 = .ok (.invokevirtual 59, 3) := by decide +kernel
theorem dX4_neededByDifference_27 : decode cX4_neededByDifference 27 = .ok (.ifCond .ne 14, 3) := by decide +kernel
theorem dX4_neededByDifference_30 : decode cX4_neededByDifference 30 = .ok (.iload_n 2, 1) := by decide +kernel
theorem dX4_neededByDifference_31 : decode cX4_neededByDifference 31 = .ok (.aload_n 1, 1) := by decide +kernel
theorem dX4_neededByDifference_32 : decode cX4_neededByDifference 32 = .ok (.getfield 54, 3) := by decide +kernel
theorem dX4_neededByDifference_35 : decode cX4_neededByDifference 35 = .ok (.iload_n 3, 1) := by decide +kernel
theorem dX4_neededByDifference_36 : decode cX4_neededByDifference 36 = .ok (.iaload, 1) := by decide +kernel
theorem dX4_neededByDifference_37 : decode cX4_neededByDifference 37 = .ok (.iconst 2, 1) := by decide +kernel
theorem dX4_neededByDifference_38 : decode cX4_neededByDifference 38 = .ok (.iadd, 1) := by decide +kernel
theorem dX4_neededByDifference_39 : decode cX4_neededByDifference 39 = .ok (.isub, 1) := by decide +kernel
theorem dX4_neededByDifference_40 : decode cX4_neededByDifference 40 = .ok (.istore_n 2, 1) := by decide +kernel
theorem dX4_neededByDifference_41 : decode cX4_neededByDifference 41 = .ok (.iinc 3 1, 3) := by decide +kernel
theorem dX4_neededByDifference_44 : decode cX4_neededByDifference 44 = .ok (.goto (-30), 3) := by decide +kernel
theorem dX4_neededByDifference_47 : decode cX4_neededByDifference 47 = .ok (.iload_n 2, 1) := by decide +kernel
theorem dX4_neededByDifference_48 : decode cX4_neededByDifference 48 = .ok (.ireturn, 1) := by decide +kernel
theorem dX4_hasDemand_0 : decode cX4_hasDemand 0 = .ok (.aload_n 0, 1) := by decide +kernel
theorem dX4_hasDemand_1 : decode cX4_hasDemand 1 = .ok (.getfield 35, 3) := by decide +kernel
theorem dX4_hasDemand_4 : decode cX4_hasDemand 4 = .ok (.iload_n 2, 1) := by decide +kernel
theorem dX4_hasDemand_5 : decode cX4_hasDemand 5 = .ok (.iaload, 1) := by decide +kernel
theorem dX4_hasDemand_6 : decode cX4_hasDemand 6 = .ok (.iload_n 1, 1) := by decide +kernel
theorem dX4_hasDemand_7 : decode cX4_hasDemand 7 = .ok (.invokestatic 86, 3) := by decide +kernel
theorem dX4_hasDemand_10 : decode cX4_hasDemand 10 = .ok (.ireturn, 1) := by decide +kernel
theorem dX4_addPair_0 : decode cX4_addPair 0 = .ok (.aload_n 0, 1) := by decide +kernel
theorem dX4_addPair_1 : decode cX4_addPair 1 = .ok (.getfield 35, 3) := by decide +kernel
theorem dX4_addPair_4 : decode cX4_addPair 4 = .ok (.iload_n 2, 1) := by decide +kernel
theorem dX4_addPair_5 : decode cX4_addPair 5 = .ok (.dup2, 1) := by decide +kernel
theorem dX4_addPair_6 : decode cX4_addPair 6 = .ok (.iaload, 1) := by decide +kernel
theorem dX4_addPair_7 : decode cX4_addPair 7 = .ok (.iconst 1, 1) := by decide +kernel
theorem dX4_addPair_8 : decode cX4_addPair 8 = .ok (.iload_n 1, 1) := by decide +kernel
theorem dX4_addPair_9 : decode cX4_addPair 9 = .ok (.ishl, 1) := by decide +kernel
theorem dX4_addPair_10 : decode cX4_addPair 10 = .ok (.ior, 1) := by decide +kernel
theorem dX4_addPair_11 : decode cX4_addPair 11 = .ok (.iastore, 1) := by decide +kernel
theorem dX4_addPair_12 : decode cX4_addPair 12 = .ok (.aload_n 0, 1) := by decide +kernel
theorem dX4_addPair_13 : decode cX4_addPair 13 = .ok (.dup, 1) := by decide +kernel
theorem dX4_addPair_14 : decode cX4_addPair 14 = .ok (.getfield 24, 3) := by decide +kernel
theorem dX4_addPair_17 : decode cX4_addPair 17 = .ok (.iconst 1, 1) := by decide +kernel
theorem dX4_addPair_18 : decode cX4_addPair 18 = .ok (.iadd, 1) := by decide +kernel
theorem dX4_addPair_19 : decode cX4_addPair 19 = .ok (.putfield 24, 3) := by decide +kernel
theorem dX4_addPair_22 : decode cX4_addPair 22 = .ok (.aload_n 0, 1) := by decide +kernel
theorem dX4_addPair_23 : decode cX4_addPair 23 = .ok (.getfield 24, 3) := by decide +kernel
theorem dX4_addPair_26 : decode cX4_addPair 26 = .ok (.ireturn, 1) := by decide +kernel
theorem dX4_allBefore_0 : decode cX4_allBefore 0 = .ok (.aload_n 0, 1) := by decide +kernel
theorem dX4_allBefore_1 : decode cX4_allBefore 1 = .ok (.getfield 35, 3) := by decide +kernel
theorem dX4_allBefore_4 : decode cX4_allBefore 4 = .ok (.iload_n 1, 1) := by decide +kernel
theorem dX4_allBefore_5 : decode cX4_allBefore 5 = .ok (.iaload, 1) := by decide +kernel
theorem dX4_allBefore_6 : decode cX4_allBefore 6 = .ok (.istore_n 2, 1) := by decide +kernel
theorem dX4_allBefore_7 : decode cX4_allBefore 7 = .ok (.iconst 0, 1) := by decide +kernel
theorem dX4_allBefore_8 : decode cX4_allBefore 8 = .ok (.istore_n 3, 1) := by decide +kernel
theorem dX4_allBefore_9 : decode cX4_allBefore 9 = .ok (.iload_n 3, 1) := by decide +kernel
theorem dX4_allBefore_10 : decode cX4_allBefore 10 = .ok (.aload_n 0, 1) := by decide +kernel
theorem dX4_allBefore_11 : decode cX4_allBefore 11 = .ok (.getfield 21, 3) := by decide +kernel
theorem dX4_allBefore_14 : decode cX4_allBefore 14 = .ok (.if_icmp .ge 54, 3) := by decide +kernel
theorem dX4_allBefore_17 : decode cX4_allBefore 17 = .ok (.iload_n 2, 1) := by decide +kernel
theorem dX4_allBefore_18 : decode cX4_allBefore 18 = .ok (.istore 4, 2) := by decide +kernel
theorem dX4_allBefore_20 : decode cX4_allBefore 20 = .ok (.iconst 0, 1) := by decide +kernel
theorem dX4_allBefore_21 : decode cX4_allBefore 21 = .ok (.istore 5, 2) := by decide +kernel
theorem dX4_allBefore_23 : decode cX4_allBefore 23 = .ok (.iload 5, 2) := by decide +kernel
theorem dX4_allBefore_25 : decode cX4_allBefore 25 = .ok (.aload_n 0, 1) := by decide +kernel
theorem dX4_allBefore_26 : decode cX4_allBefore 26 = .ok (.getfield 21, 3) := by decide +kernel
theorem dX4_allBefore_29 : decode cX4_allBefore 29 = .ok (.if_icmp .ge 30, 3) := by decide +kernel
theorem dX4_allBefore_32 : decode cX4_allBefore 32 = .ok (.iload_n 2, 1) := by decide +kernel
theorem dX4_allBefore_33 : decode cX4_allBefore 33 = .ok (.iload 5, 2) := by decide +kernel
theorem dX4_allBefore_35 : decode cX4_allBefore 35 = .ok (.invokestatic 86, 3) := by decide +kernel
theorem dX4_allBefore_38 : decode cX4_allBefore 38 = .ok (.ifCond .eq 15, 3) := by decide +kernel
theorem dX4_allBefore_41 : decode cX4_allBefore 41 = .ok (.iload 4, 2) := by decide +kernel
theorem dX4_allBefore_43 : decode cX4_allBefore 43 = .ok (.aload_n 0, 1) := by decide +kernel
theorem dX4_allBefore_44 : decode cX4_allBefore 44 = .ok (.getfield 35, 3) := by decide +kernel
theorem dX4_allBefore_47 : decode cX4_allBefore 47 = .ok (.iload 5, 2) := by decide +kernel
theorem dX4_allBefore_49 : decode cX4_allBefore 49 = .ok (.iaload, 1) := by decide +kernel
theorem dX4_allBefore_50 : decode cX4_allBefore 50 = .ok (.ior, 1) := by decide +kernel
theorem dX4_allBefore_51 : decode cX4_allBefore 51 = .ok (.istore 4, 2) := by decide +kernel
theorem dX4_allBefore_53 : decode cX4_allBefore 53 = .ok (.iinc 5 1, 3) := by decide +kernel
theorem dX4_allBefore_56 : decode cX4_allBefore 56 = .ok (.goto (-33), 3) := by decide +kernel
theorem dX4_allBefore_59 : decode cX4_allBefore 59 = .ok (.iload 4, 2) := by decide +kernel
theorem dX4_allBefore_61 : decode cX4_allBefore 61 = .ok (.istore_n 2, 1) := by decide +kernel
theorem dX4_allBefore_62 : decode cX4_allBefore 62 = .ok (.iinc 3 1, 3) := by decide +kernel
theorem dX4_allBefore_65 : decode cX4_allBefore 65 = .ok (.goto (-56), 3) := by decide +kernel
theorem dX4_allBefore_68 : decode cX4_allBefore 68 = .ok (.iload_n 2, 1) := by decide +kernel
theorem dX4_allBefore_69 : decode cX4_allBefore 69 = .ok (.ireturn, 1) := by decide +kernel
theorem dX4_comesBefore_0 : decode cX4_comesBefore 0 = .ok (.aload_n 0, 1) := by decide +kernel
theorem dX4_comesBefore_1 : decode cX4_comesBefore 1 = .ok (.iload_n 2, 1) := by decide +kernel
theorem dX4_comesBefore_2 : decode cX4_comesBefore 2 = .ok (.invokevirtual 90, 3) := by decide +kernel
theorem dX4_comesBefore_5 : decode cX4_comesBefore 5 = .ok (.iload_n 1, 1) := by decide +kernel
theorem dX4_comesBefore_6 : decode cX4_comesBefore 6 = .ok (.invokestatic 86, 3) := by decide +kernel
theorem dX4_comesBefore_9 : decode cX4_comesBefore 9 = .ok (.ireturn, 1) := by decide +kernel
theorem dX4_hasCycle_0 : decode cX4_hasCycle 0 = .ok (.iconst 0, 1) := by decide +kernel
theorem dX4_hasCycle_1 : decode cX4_hasCycle 1 = .ok (.istore_n 1, 1) := by decide +kernel
theorem dX4_hasCycle_2 : decode cX4_hasCycle 2 = .ok (.iload_n 1, 1) := by decide +kernel
theorem dX4_hasCycle_3 : decode cX4_hasCycle 3 = .ok (.aload_n 0, 1) := by decide +kernel
theorem dX4_hasCycle_4 : decode cX4_hasCycle 4 = .ok (.getfield 21, 3) := by decide +kernel
theorem dX4_hasCycle_7 : decode cX4_hasCycle 7 = .ok (.if_icmp .ge 20, 3) := by decide +kernel
theorem dX4_hasCycle_10 : decode cX4_hasCycle 10 = .ok (.aload_n 0, 1) := by decide +kernel
theorem dX4_hasCycle_11 : decode cX4_hasCycle 11 = .ok (.iload_n 1, 1) := by decide +kernel
theorem dX4_hasCycle_12 : decode cX4_hasCycle 12 = .ok (.iload_n 1, 1) := by decide +kernel
theorem dX4_hasCycle_13 : decode cX4_hasCycle 13 = .ok (.invokevirtual 93, 3) := by decide +kernel
theorem dX4_hasCycle_16 : decode cX4_hasCycle 16 = .ok (.ifCond .eq 5, 3) := by decide +kernel
theorem dX4_hasCycle_19 : decode cX4_hasCycle 19 = .ok (.iconst 1, 1) := by decide +kernel
theorem dX4_hasCycle_20 : decode cX4_hasCycle 20 = .ok (.ireturn, 1) := by decide +kernel
theorem dX4_hasCycle_21 : decode cX4_hasCycle 21 = .ok (.iinc 1 1, 3) := by decide +kernel
theorem dX4_hasCycle_24 : decode cX4_hasCycle 24 = .ok (.goto (-22), 3) := by decide +kernel
theorem dX4_hasCycle_27 : decode cX4_hasCycle 27 = .ok (.iconst 0, 1) := by decide +kernel
theorem dX4_hasCycle_28 : decode cX4_hasCycle 28 = .ok (.ireturn, 1) := by decide +kernel
theorem dX4_isHeldBack_0 : decode cX4_isHeldBack 0 = .ok (.aload_n 0, 1) := by decide +kernel
theorem dX4_isHeldBack_1 : decode cX4_isHeldBack 1 = .ok (.getfield 35, 3) := by decide +kernel
theorem dX4_isHeldBack_4 : decode cX4_isHeldBack 4 = .ok (.iload_n 1, 1) := by decide +kernel
theorem dX4_isHeldBack_5 : decode cX4_isHeldBack 5 = .ok (.iaload, 1) := by decide +kernel
theorem dX4_isHeldBack_6 : decode cX4_isHeldBack 6 = .ok (.iload_n 2, 1) := by decide +kernel
theorem dX4_isHeldBack_7 : decode cX4_isHeldBack 7 = .ok (.iconst (-1), 1) := by decide +kernel
theorem dX4_isHeldBack_8 : decode cX4_isHeldBack 8 = .ok (.ixor, 1) := by decide +kernel
theorem dX4_isHeldBack_9 : decode cX4_isHeldBack 9 = .ok (.iand, 1) := by decide +kernel
theorem dX4_isHeldBack_10 : decode cX4_isHeldBack 10 = .ok (.ifCond .eq 7, 3) := by decide +kernel
theorem dX4_isHeldBack_13 : decode cX4_isHeldBack 13 = .ok (.iconst 1, 1) := by decide +kernel
theorem dX4_isHeldBack_14 : decode cX4_isHeldBack 14 = .ok (.goto 4, 3) := by decide +kernel
theorem dX4_isHeldBack_17 : decode cX4_isHeldBack 17 = .ok (.iconst 0, 1) := by decide +kernel
theorem dX4_isHeldBack_18 : decode cX4_isHeldBack 18 = .ok (.ireturn, 1) := by decide +kernel
theorem dX4_isSewnInOrder_0 : decode cX4_isSewnInOrder 0 = .ok (.aload_n 0, 1) := by decide +kernel
theorem dX4_isSewnInOrder_1 : decode cX4_isSewnInOrder 1 = .ok (.invokevirtual 44, 3) := by decide +kernel
theorem dX4_isSewnInOrder_4 : decode cX4_isSewnInOrder 4 = .ok (.istore_n 1, 1) := by decide +kernel
theorem dX4_isSewnInOrder_5 : decode cX4_isSewnInOrder 5 = .ok (.iconst 0, 1) := by decide +kernel
theorem dX4_isSewnInOrder_6 : decode cX4_isSewnInOrder 6 = .ok (.istore_n 2, 1) := by decide +kernel
theorem dX4_isSewnInOrder_7 : decode cX4_isSewnInOrder 7 = .ok (.iload_n 2, 1) := by decide +kernel
theorem dX4_isSewnInOrder_8 : decode cX4_isSewnInOrder 8 = .ok (.aload_n 0, 1) := by decide +kernel
theorem dX4_isSewnInOrder_9 : decode cX4_isSewnInOrder 9 = .ok (.getfield 21, 3) := by decide +kernel
theorem dX4_isSewnInOrder_12 : decode cX4_isSewnInOrder 12 = .ok (.if_icmp .ge 28, 3) := by decide +kernel
theorem dX4_isSewnInOrder_15 : decode cX4_isSewnInOrder 15 = .ok (.aload_n 0, 1) := by decide +kernel
theorem dX4_isSewnInOrder_16 : decode cX4_isSewnInOrder 16 = .ok (.iload_n 2, 1) := by decide +kernel
theorem dX4_isSewnInOrder_17 : decode cX4_isSewnInOrder 17 = .ok (.invokevirtual 96, 3) := by decide +kernel
theorem dX4_isSewnInOrder_20 : decode cX4_isSewnInOrder 20 = .ok (.ifCond .eq 14, 3) := by decide +kernel
theorem dX4_isSewnInOrder_23 : decode cX4_isSewnInOrder 23 = .ok (.aload_n 0, 1) := by decide +kernel
theorem dX4_isSewnInOrder_24 : decode cX4_isSewnInOrder 24 = .ok (.iload_n 2, 1) := by decide +kernel
theorem dX4_isSewnInOrder_25 : decode cX4_isSewnInOrder 25 = .ok (.iload_n 1, 1) := by decide +kernel
theorem dX4_isSewnInOrder_26 : decode cX4_isSewnInOrder 26 = .ok (.invokevirtual 99, 3) := by decide +kernel
theorem dX4_isSewnInOrder_29 : decode cX4_isSewnInOrder 29 = .ok (.ifCond .eq 5, 3) := by decide +kernel
theorem dX4_isSewnInOrder_32 : decode cX4_isSewnInOrder 32 = .ok (.iconst 0, 1) := by decide +kernel
theorem dX4_isSewnInOrder_33 : decode cX4_isSewnInOrder 33 = .ok (.ireturn, 1) := by decide +kernel
theorem dX4_isSewnInOrder_34 : decode cX4_isSewnInOrder 34 = .ok (.iinc 2 1, 3) := by decide +kernel
theorem dX4_isSewnInOrder_37 : decode cX4_isSewnInOrder 37 = .ok (.goto (-30), 3) := by decide +kernel
theorem dX4_isSewnInOrder_40 : decode cX4_isSewnInOrder 40 = .ok (.iconst 1, 1) := by decide +kernel
theorem dX4_isSewnInOrder_41 : decode cX4_isSewnInOrder 41 = .ok (.ireturn, 1) := by decide +kernel
theorem dX4_isNeededBySewn_0 : decode cX4_isNeededBySewn 0 = .ok (.iconst 0, 1) := by decide +kernel
theorem dX4_isNeededBySewn_1 : decode cX4_isNeededBySewn 1 = .ok (.istore_n 2, 1) := by decide +kernel
theorem dX4_isNeededBySewn_2 : decode cX4_isNeededBySewn 2 = .ok (.iload_n 2, 1) := by decide +kernel
theorem dX4_isNeededBySewn_3 : decode cX4_isNeededBySewn 3 = .ok (.aload_n 0, 1) := by decide +kernel
theorem dX4_isNeededBySewn_4 : decode cX4_isNeededBySewn 4 = .ok (.getfield 21, 3) := by decide +kernel
theorem dX4_isNeededBySewn_7 : decode cX4_isNeededBySewn 7 = .ok (.if_icmp .ge 28, 3) := by decide +kernel
theorem dX4_isNeededBySewn_10 : decode cX4_isNeededBySewn 10 = .ok (.aload_n 0, 1) := by decide +kernel
theorem dX4_isNeededBySewn_11 : decode cX4_isNeededBySewn 11 = .ok (.iload_n 2, 1) := by decide +kernel
theorem dX4_isNeededBySewn_12 : decode cX4_isNeededBySewn 12 = .ok (.invokevirtual 96, 3) := by decide +kernel
theorem dX4_isNeededBySewn_15 : decode cX4_isNeededBySewn 15 = .ok (.ifCond .eq 14, 3) := by decide +kernel
theorem dX4_isNeededBySewn_18 : decode cX4_isNeededBySewn 18 = .ok (.aload_n 0, 1) := by decide +kernel
theorem dX4_isNeededBySewn_19 : decode cX4_isNeededBySewn 19 = .ok (.iload_n 1, 1) := by decide +kernel
theorem dX4_isNeededBySewn_20 : decode cX4_isNeededBySewn 20 = .ok (.iload_n 2, 1) := by decide +kernel
theorem dX4_isNeededBySewn_21 : decode cX4_isNeededBySewn 21 = .ok (.invokevirtual 102, 3) := by decide +kernel
theorem dX4_isNeededBySewn_24 : decode cX4_isNeededBySewn 24 = .ok (.ifCond .eq 5, 3) := by decide +kernel
theorem dX4_isNeededBySewn_27 : decode cX4_isNeededBySewn 27 = .ok (.iconst 1, 1) := by decide +kernel
theorem dX4_isNeededBySewn_28 : decode cX4_isNeededBySewn 28 = .ok (.ireturn, 1) := by decide +kernel
theorem dX4_isNeededBySewn_29 : decode cX4_isNeededBySewn 29 = .ok (.iinc 2 1, 3) := by decide +kernel
theorem dX4_isNeededBySewn_32 : decode cX4_isNeededBySewn 32 = .ok (.goto (-30), 3) := by decide +kernel
theorem dX4_isNeededBySewn_35 : decode cX4_isNeededBySewn 35 = .ok (.iconst 0, 1) := by decide +kernel
theorem dX4_isNeededBySewn_36 : decode cX4_isNeededBySewn 36 = .ok (.ireturn, 1) := by decide +kernel
theorem dX4_roundsLeft_0 : decode cX4_roundsLeft 0 = .ok (.aload_n 0, 1) := by decide +kernel
theorem dX4_roundsLeft_1 : decode cX4_roundsLeft 1 = .ok (.invokevirtual 44, 3) := by decide +kernel
theorem dX4_roundsLeft_4 : decode cX4_roundsLeft 4 = .ok (.istore_n 1, 1) := by decide +kernel
theorem dX4_roundsLeft_5 : decode cX4_roundsLeft 5 = .ok (.iconst 0, 1) := by decide +kernel
theorem dX4_roundsLeft_6 : decode cX4_roundsLeft 6 = .ok (.istore_n 2, 1) := by decide +kernel
theorem dX4_roundsLeft_7 : decode cX4_roundsLeft 7 = .ok (.iconst 0, 1) := by decide +kernel
theorem dX4_roundsLeft_8 : decode cX4_roundsLeft 8 = .ok (.istore_n 3, 1) := by decide +kernel
theorem dX4_roundsLeft_9 : decode cX4_roundsLeft 9 = .ok (.iload_n 3, 1) := by decide +kernel
theorem dX4_roundsLeft_10 : decode cX4_roundsLeft 10 = .ok (.aload_n 0, 1) := by decide +kernel
theorem dX4_roundsLeft_11 : decode cX4_roundsLeft 11 = .ok (.getfield 21, 3) := by decide +kernel
theorem dX4_roundsLeft_14 : decode cX4_roundsLeft 14 = .ok (.if_icmp .ge 28, 3) := by decide +kernel
theorem dX4_roundsLeft_17 : decode cX4_roundsLeft 17 = .ok (.iload_n 1, 1) := by decide +kernel
theorem dX4_roundsLeft_18 : decode cX4_roundsLeft 18 = .ok (.aload_n 0, 1) := by decide +kernel
theorem dX4_roundsLeft_19 : decode cX4_roundsLeft 19 = .ok (.invokevirtual 72, 3) := by decide +kernel
theorem dX4_roundsLeft_22 : decode cX4_roundsLeft 22 = .ok (.if_icmp .eq 20, 3) := by decide +kernel
theorem dX4_roundsLeft_25 : decode cX4_roundsLeft 25 = .ok (.iload_n 1, 1) := by decide +kernel
theorem dX4_roundsLeft_26 : decode cX4_roundsLeft 26 = .ok (.aload_n 0, 1) := by decide +kernel
theorem dX4_roundsLeft_27 : decode cX4_roundsLeft 27 = .ok (.iload_n 1, 1) := by decide +kernel
theorem dX4_roundsLeft_28 : decode cX4_roundsLeft 28 = .ok (.invokevirtual 105, 3) := by decide +kernel
theorem dX4_roundsLeft_31 : decode cX4_roundsLeft 31 = .ok (.ior, 1) := by decide +kernel
theorem dX4_roundsLeft_32 : decode cX4_roundsLeft 32 = .ok (.istore_n 1, 1) := by decide +kernel
theorem dX4_roundsLeft_33 : decode cX4_roundsLeft 33 = .ok (.iinc 2 1, 3) := by decide +kernel
theorem dX4_roundsLeft_36 : decode cX4_roundsLeft 36 = .ok (.iinc 3 1, 3) := by decide +kernel
theorem dX4_roundsLeft_39 : decode cX4_roundsLeft 39 = .ok (.goto (-30), 3) := by decide +kernel
theorem dX4_roundsLeft_42 : decode cX4_roundsLeft 42 = .ok (.iload_n 2, 1) := by decide +kernel
theorem dX4_roundsLeft_43 : decode cX4_roundsLeft 43 = .ok (.ireturn, 1) := by decide +kernel
theorem dX4_freeSleeves_0 : decode cX4_freeSleeves 0 = .ok (.iconst 0, 1) := by decide +kernel
theorem dX4_freeSleeves_1 : decode cX4_freeSleeves 1 = .ok (.istore_n 2, 1) := by decide +kernel
theorem dX4_freeSleeves_2 : decode cX4_freeSleeves 2 = .ok (.iconst 0, 1) := by decide +kernel
theorem dX4_freeSleeves_3 : decode cX4_freeSleeves 3 = .ok (.istore_n 3, 1) := by decide +kernel
theorem dX4_freeSleeves_4 : decode cX4_freeSleeves 4 = .ok (.iload_n 3, 1) := by decide +kernel
theorem dX4_freeSleeves_5 : decode cX4_freeSleeves 5 = .ok (.aload_n 0, 1) := by decide +kernel
theorem dX4_freeSleeves_6 : decode cX4_freeSleeves 6 = .ok (.getfield 21, 3) := by decide +kernel
theorem dX4_freeSleeves_9 : decode cX4_freeSleeves 9 = .ok (.if_icmp .ge 32, 3) := by decide +kernel
theorem dX4_freeSleeves_12 : decode cX4_freeSleeves 12 = .ok (.iload_n 1, 1) := by decide +kernel
theorem dX4_freeSleeves_13 : decode cX4_freeSleeves 13 = .ok (.iload_n 3, 1) := by decide +kernel
theorem dX4_freeSleeves_14 : decode cX4_freeSleeves 14 = .ok (.invokestatic 86, 3) := by decide +kernel
theorem dX4_freeSleeves_17 : decode cX4_freeSleeves 17 = .ok (.ifCond .ne 18, 3) := by decide +kernel
theorem dX4_freeSleeves_20 : decode cX4_freeSleeves 20 = .ok (.aload_n 0, 1) := by decide +kernel
theorem dX4_freeSleeves_21 : decode cX4_freeSleeves 21 = .ok (.iload_n 3, 1) := by decide +kernel
theorem dX4_freeSleeves_22 : decode cX4_freeSleeves 22 = .ok (.iload_n 1, 1) := by decide +kernel
theorem dX4_freeSleeves_23 : decode cX4_freeSleeves 23 = .ok (.invokevirtual 99, 3) := by decide +kernel
theorem dX4_freeSleeves_26 : decode cX4_freeSleeves 26 = .ok (.ifCond .ne 9, 3) := by decide +kernel
theorem dX4_freeSleeves_29 : decode cX4_freeSleeves 29 = .ok (.iload_n 2, 1) := by decide +kernel
theorem dX4_freeSleeves_30 : decode cX4_freeSleeves 30 = .ok (.iconst 1, 1) := by decide +kernel
theorem dX4_freeSleeves_31 : decode cX4_freeSleeves 31 = .ok (.iload_n 3, 1) := by decide +kernel
theorem dX4_freeSleeves_32 : decode cX4_freeSleeves 32 = .ok (.ishl, 1) := by decide +kernel
theorem dX4_freeSleeves_33 : decode cX4_freeSleeves 33 = .ok (.ior, 1) := by decide +kernel
theorem dX4_freeSleeves_34 : decode cX4_freeSleeves 34 = .ok (.istore_n 2, 1) := by decide +kernel
theorem dX4_freeSleeves_35 : decode cX4_freeSleeves 35 = .ok (.iinc 3 1, 3) := by decide +kernel
theorem dX4_freeSleeves_38 : decode cX4_freeSleeves 38 = .ok (.goto (-34), 3) := by decide +kernel
theorem dX4_freeSleeves_41 : decode cX4_freeSleeves 41 = .ok (.iload_n 2, 1) := by decide +kernel
theorem dX4_freeSleeves_42 : decode cX4_freeSleeves 42 = .ok (.ireturn, 1) := by decide +kernel
theorem dX4_contains_0 : decode cX4_contains 0 = .ok (.iload_n 0, 1) := by decide +kernel
theorem dX4_contains_1 : decode cX4_contains 1 = .ok (.iload_n 1, 1) := by decide +kernel
theorem dX4_contains_2 : decode cX4_contains 2 = .ok (.ishr, 1) := by decide +kernel
theorem dX4_contains_3 : decode cX4_contains 3 = .ok (.iconst 1, 1) := by decide +kernel
theorem dX4_contains_4 : decode cX4_contains 4 = .ok (.iand, 1) := by decide +kernel
theorem dX4_contains_5 : decode cX4_contains 5 = .ok (.iconst 1, 1) := by decide +kernel
theorem dX4_contains_6 : decode cX4_contains 6 = .ok (.if_icmp .ne 7, 3) := by decide +kernel
theorem dX4_contains_9 : decode cX4_contains 9 = .ok (.iconst 1, 1) := by decide +kernel
theorem dX4_contains_10 : decode cX4_contains 10 = .ok (.goto 4, 3) := by decide +kernel
theorem dX4_contains_13 : decode cX4_contains 13 = .ok (.iconst 0, 1) := by decide +kernel
theorem dX4_contains_14 : decode cX4_contains 14 = .ok (.ireturn, 1) := by decide +kernel
theorem dX5_init_0 : decode cX5_init 0 = .ok (.aload_n 0, 1) := by decide +kernel
theorem dX5_init_1 : decode cX5_init 1 = .ok (.invokespecial 3, 3) := by decide +kernel
theorem dX5_init_4 : decode cX5_init 4 = .ok (.aload_n 0, 1) := by decide +kernel
theorem dX5_init_5 : decode cX5_init 5 = .ok (.iconst 4, 1) := by decide +kernel
theorem dX5_init_6 : decode cX5_init 6 = .ok (.newarray .int, 2) := by decide +kernel
theorem dX5_init_8 : decode cX5_init 8 = .ok (.putfield 9, 3) := by decide +kernel
theorem dX5_init_11 : decode cX5_init 11 = .ok (.aload_n 0, 1) := by decide +kernel
theorem dX5_init_12 : decode cX5_init 12 = .ok (.iconst 5, 1) := by decide +kernel
theorem dX5_init_13 : decode cX5_init 13 = .ok (.anewarray 15, 3) := by decide +kernel
theorem dX5_init_16 : decode cX5_init 16 = .ok (.putfield 17, 3) := by decide +kernel
theorem dX5_init_19 : decode cX5_init 19 = .ok (.aload_n 0, 1) := by decide +kernel
theorem dX5_init_20 : decode cX5_init 20 = .ok (.iconst 0, 1) := by decide +kernel
theorem dX5_init_21 : decode cX5_init 21 = .ok (.putfield 21, 3) := by decide +kernel
theorem dX5_init_24 : decode cX5_init 24 = .ok (.aload_n 0, 1) := by decide +kernel
theorem dX5_init_25 : decode cX5_init 25 = .ok (.bipush 6, 2) := by decide +kernel
theorem dX5_init_27 : decode cX5_init 27 = .ok (.anewarray 25, 3) := by decide +kernel
theorem dX5_init_30 : decode cX5_init 30 = .ok (.putfield 27, 3) := by decide +kernel
theorem dX5_init_33 : decode cX5_init 33 = .ok (.aload_n 0, 1) := by decide +kernel
theorem dX5_init_34 : decode cX5_init 34 = .ok (.iconst 0, 1) := by decide +kernel
theorem dX5_init_35 : decode cX5_init 35 = .ok (.putfield 31, 3) := by decide +kernel
theorem dX5_init_38 : decode cX5_init 38 = .ok (.aload_n 0, 1) := by decide +kernel
theorem dX5_init_39 : decode cX5_init 39 = .ok (.iconst 0, 1) := by decide +kernel
theorem dX5_init_40 : decode cX5_init 40 = .ok (.putfield 34, 3) := by decide +kernel
theorem dX5_init_43 : decode cX5_init 43 = .ok (.aload_n 0, 1) := by decide +kernel
theorem dX5_init_44 : decode cX5_init 44 = .ok (.iconst 0, 1) := by decide +kernel
theorem dX5_init_45 : decode cX5_init 45 = .ok (.putfield 37, 3) := by decide +kernel
theorem dX5_init_48 : decode cX5_init 48 = .ok (.aload_n 0, 1) := by decide +kernel
theorem dX5_init_49 : decode cX5_init 49 = .ok (.iconst 0, 1) := by decide +kernel
theorem dX5_init_50 : decode cX5_init 50 = .ok (.putfield 40, 3) := by decide +kernel
theorem dX5_init_53 : decode cX5_init 53 = .ok (.aload_n 0, 1) := by decide +kernel
theorem dX5_init_54 : decode cX5_init 54 = .ok (.iconst 0, 1) := by decide +kernel
theorem dX5_init_55 : decode cX5_init 55 = .ok (.putfield 43, 3) := by decide +kernel
theorem dX5_init_58 : decode cX5_init 58 = .ok (.aload_n 0, 1) := by decide +kernel
theorem dX5_init_59 : decode cX5_init 59 = .ok (.iconst 0, 1) := by decide +kernel
theorem dX5_init_60 : decode cX5_init 60 = .ok (.putfield 46, 3) := by decide +kernel
theorem dX5_init_63 : decode cX5_init 63 = .ok (.aload_n 0, 1) := by decide +kernel
theorem dX5_init_64 : decode cX5_init 64 = .ok (.iconst 0, 1) := by decide +kernel
theorem dX5_init_65 : decode cX5_init 65 = .ok (.putfield 49, 3) := by decide +kernel
theorem dX5_init_68 : decode cX5_init 68 = .ok (.iconst 0, 1) := by decide +kernel
theorem dX5_init_69 : decode cX5_init 69 = .ok (.istore_n 1, 1) := by decide +kernel
theorem dX5_init_70 : decode cX5_init 70 = .ok (.iload_n 1, 1) := by decide +kernel
theorem dX5_init_71 : decode cX5_init 71 = .ok (.iconst 5, 1) := by decide +kernel
theorem dX5_init_72 : decode cX5_init 72 = .ok (.if_icmp .ge 22, 3) := by decide +kernel
theorem dX5_init_75 : decode cX5_init 75 = .ok (.aload_n 0, 1) := by decide +kernel
theorem dX5_init_76 : decode cX5_init 76 = .ok (.getfield 17, 3) := by decide +kernel
theorem dX5_init_79 : decode cX5_init 79 = .ok (.iload_n 1, 1) := by decide +kernel
theorem dX5_init_80 : decode cX5_init 80 = .ok (.new 15, 3) := by decide +kernel
theorem dX5_init_83 : decode cX5_init 83 = .ok (.dup, 1) := by decide +kernel
theorem dX5_init_84 : decode cX5_init 84 = .ok (.invokespecial 52, 3) := by decide +kernel
theorem dX5_init_87 : decode cX5_init 87 = .ok (.aastore, 1) := by decide +kernel
theorem dX5_init_88 : decode cX5_init 88 = .ok (.iinc 1 1, 3) := by decide +kernel
theorem dX5_init_91 : decode cX5_init 91 = .ok (.goto (-21), 3) := by decide +kernel
theorem dX5_init_94 : decode cX5_init 94 = .ok (.iconst 0, 1) := by decide +kernel
theorem dX5_init_95 : decode cX5_init 95 = .ok (.istore_n 1, 1) := by decide +kernel
theorem dX5_init_96 : decode cX5_init 96 = .ok (.iload_n 1, 1) := by decide +kernel
theorem dX5_init_97 : decode cX5_init 97 = .ok (.bipush 6, 2) := by decide +kernel
theorem dX5_init_99 : decode cX5_init 99 = .ok (.if_icmp .ge 22, 3) := by decide +kernel
theorem dX5_init_102 : decode cX5_init 102 = .ok (.aload_n 0, 1) := by decide +kernel
theorem dX5_init_103 : decode cX5_init 103 = .ok (.getfield 27, 3) := by decide +kernel
theorem dX5_init_106 : decode cX5_init 106 = .ok (.iload_n 1, 1) := by decide +kernel
theorem dX5_init_107 : decode cX5_init 107 = .ok (.new 25, 3) := by decide +kernel
theorem dX5_init_110 : decode cX5_init 110 = .ok (.dup, 1) := by decide +kernel
theorem dX5_init_111 : decode cX5_init 111 = .ok (.invokespecial 53, 3) := by decide +kernel
theorem dX5_init_114 : decode cX5_init 114 = .ok (.aastore, 1) := by decide +kernel
theorem dX5_init_115 : decode cX5_init 115 = .ok (.iinc 1 1, 3) := by decide +kernel
theorem dX5_init_118 : decode cX5_init 118 = .ok (.goto (-22), 3) := by decide +kernel
theorem dX5_init_121 : decode cX5_init 121 = .ok (.return_, 1) := by decide +kernel
theorem dX5_takeOver_0 : decode cX5_takeOver 0 = .ok (.aload_n 1, 1) := by decide +kernel
theorem dX5_takeOver_1 : decode cX5_takeOver 1 = .ok (.getfield 9, 3) := by decide +kernel
theorem dX5_takeOver_4 : decode cX5_takeOver 4 = .ok (.iconst 0, 1) := by decide +kernel
theorem dX5_takeOver_5 : decode cX5_takeOver 5 = .ok (.aload_n 0, 1) := by decide +kernel
theorem dX5_takeOver_6 : decode cX5_takeOver 6 = .ok (.getfield 9, 3) := by decide +kernel
theorem dX5_takeOver_9 : decode cX5_takeOver 9 = .ok (.iconst 0, 1) := by decide +kernel
theorem dX5_takeOver_10 : decode cX5_takeOver 10 = .ok (.iconst 4, 1) := by decide +kernel
theorem dX5_takeOver_11 : decode cX5_takeOver 11 = .ok (.invokestatic 54, 3) := by decide +kernel
theorem dX5_takeOver_14 : decode cX5_takeOver 14 = .ok (.aload_n 0, 1) := by decide +kernel
theorem dX5_takeOver_15 : decode cX5_takeOver 15 = .ok (.aload_n 1, 1) := by decide +kernel
theorem dX5_takeOver_16 : decode cX5_takeOver 16 = .ok (.getfield 21, 3) := by decide +kernel
theorem dX5_takeOver_19 : decode cX5_takeOver 19 = .ok (.putfield 21, 3) := by decide +kernel
theorem dX5_takeOver_22 : decode cX5_takeOver 22 = .ok (.iconst 0, 1) := by decide +kernel
theorem dX5_takeOver_23 : decode cX5_takeOver 23 = .ok (.istore_n 2, 1) := by decide +kernel
theorem dX5_takeOver_24 : decode cX5_takeOver 24 = .ok (.iload_n 2, 1) := by decide +kernel
theorem dX5_takeOver_25 : decode cX5_takeOver 25 = .ok (.aload_n 0, 1) := by decide +kernel
theorem dX5_takeOver_26 : decode cX5_takeOver 26 = .ok (.getfield 21, 3) := by decide +kernel
theorem dX5_takeOver_29 : decode cX5_takeOver 29 = .ok (.if_icmp .ge 24, 3) := by decide +kernel
theorem dX5_takeOver_32 : decode cX5_takeOver 32 = .ok (.aload_n 0, 1) := by decide +kernel
theorem dX5_takeOver_33 : decode cX5_takeOver 33 = .ok (.getfield 17, 3) := by decide +kernel
theorem dX5_takeOver_36 : decode cX5_takeOver 36 = .ok (.iload_n 2, 1) := by decide +kernel
theorem dX5_takeOver_37 : decode cX5_takeOver 37 = .ok (.aaload, 1) := by decide +kernel
theorem dX5_takeOver_38 : decode cX5_takeOver 38 = .ok (.aload_n 1, 1) := by decide +kernel
theorem dX5_takeOver_39 : decode cX5_takeOver 39 = .ok (.getfield 17, 3) := by decide +kernel
theorem dX5_takeOver_42 : decode cX5_takeOver 42 = .ok (.iload_n 2, 1) := by decide +kernel
theorem dX5_takeOver_43 : decode cX5_takeOver 43 = .ok (.aaload, 1) := by decide +kernel
theorem dX5_takeOver_44 : decode cX5_takeOver 44 = .ok (.invokevirtual 60, 3) := by decide +kernel
theorem dX5_takeOver_47 : decode cX5_takeOver 47 = .ok (.iinc 2 1, 3) := by decide +kernel
theorem dX5_takeOver_50 : decode cX5_takeOver 50 = .ok (.goto (-26), 3) := by decide +kernel
theorem dX5_takeOver_53 : decode cX5_takeOver 53 = .ok (.aload_n 0, 1) := by decide +kernel
theorem dX5_takeOver_54 : decode cX5_takeOver 54 = .ok (.aload_n 1, 1) := by decide +kernel
theorem dX5_takeOver_55 : decode cX5_takeOver 55 = .ok (.getfield 31, 3) := by decide +kernel
theorem dX5_takeOver_58 : decode cX5_takeOver 58 = .ok (.putfield 31, 3) := by decide +kernel
theorem dX5_takeOver_61 : decode cX5_takeOver 61 = .ok (.iconst 0, 1) := by decide +kernel
theorem dX5_takeOver_62 : decode cX5_takeOver 62 = .ok (.istore_n 2, 1) := by decide +kernel
theorem dX5_takeOver_63 : decode cX5_takeOver 63 = .ok (.iload_n 2, 1) := by decide +kernel
theorem dX5_takeOver_64 : decode cX5_takeOver 64 = .ok (.aload_n 0, 1) := by decide +kernel
theorem dX5_takeOver_65 : decode cX5_takeOver 65 = .ok (.getfield 31, 3) := by decide +kernel
theorem dX5_takeOver_68 : decode cX5_takeOver 68 = .ok (.if_icmp .ge 24, 3) := by decide +kernel
theorem dX5_takeOver_71 : decode cX5_takeOver 71 = .ok (.aload_n 0, 1) := by decide +kernel
theorem dX5_takeOver_72 : decode cX5_takeOver 72 = .ok (.getfield 27, 3) := by decide +kernel
theorem dX5_takeOver_75 : decode cX5_takeOver 75 = .ok (.iload_n 2, 1) := by decide +kernel
theorem dX5_takeOver_76 : decode cX5_takeOver 76 = .ok (.aaload, 1) := by decide +kernel
theorem dX5_takeOver_77 : decode cX5_takeOver 77 = .ok (.aload_n 1, 1) := by decide +kernel
theorem dX5_takeOver_78 : decode cX5_takeOver 78 = .ok (.getfield 27, 3) := by decide +kernel
theorem dX5_takeOver_81 : decode cX5_takeOver 81 = .ok (.iload_n 2, 1) := by decide +kernel
theorem dX5_takeOver_82 : decode cX5_takeOver 82 = .ok (.aaload, 1) := by decide +kernel
theorem dX5_takeOver_83 : decode cX5_takeOver 83 = .ok (.invokevirtual 64, 3) := by decide +kernel
theorem dX5_takeOver_86 : decode cX5_takeOver 86 = .ok (.iinc 2 1, 3) := by decide +kernel
theorem dX5_takeOver_89 : decode cX5_takeOver 89 = .ok (.goto (-26), 3) := by decide +kernel
theorem dX5_takeOver_92 : decode cX5_takeOver 92 = .ok (.aload_n 0, 1) := by decide +kernel
theorem dX5_takeOver_93 : decode cX5_takeOver 93 = .ok (.aload_n 1, 1) := by decide +kernel
theorem dX5_takeOver_94 : decode cX5_takeOver 94 = .ok (.getfield 34, 3) := by decide +kernel
theorem dX5_takeOver_97 : decode cX5_takeOver 97 = .ok (.putfield 34, 3) := by decide +kernel
theorem dX5_takeOver_100 : decode cX5_takeOver 100 = .ok (.aload_n 0, 1) := by decide +kernel
theorem dX5_takeOver_101 : decode cX5_takeOver 101 = .ok (.aload_n 1, 1) := by decide +kernel
theorem dX5_takeOver_102 : decode cX5_takeOver 102 = .ok (.getfield 37, 3) := by decide +kernel
theorem dX5_takeOver_105 : decode cX5_takeOver 105 = .ok (.putfield 37, 3) := by decide +kernel
theorem dX5_takeOver_108 : decode cX5_takeOver 108 = .ok (.aload_n 0, 1) := by decide +kernel
theorem dX5_takeOver_109 : decode cX5_takeOver 109 = .ok (.aload_n 1, 1) := by decide +kernel
theorem dX5_takeOver_110 : decode cX5_takeOver 110 = .ok (.getfield 40, 3) := by decide +kernel
theorem dX5_takeOver_113 : decode cX5_takeOver 113 = .ok (.putfield 40, 3) := by decide +kernel
theorem dX5_takeOver_116 : decode cX5_takeOver 116 = .ok (.aload_n 0, 1) := by decide +kernel
theorem dX5_takeOver_117 : decode cX5_takeOver 117 = .ok (.aload_n 1, 1) := by decide +kernel
theorem dX5_takeOver_118 : decode cX5_takeOver 118 = .ok (.getfield 43, 3) := by decide +kernel
theorem dX5_takeOver_121 : decode cX5_takeOver 121 = .ok (.putfield 43, 3) := by decide +kernel
theorem dX5_takeOver_124 : decode cX5_takeOver 124 = .ok (.aload_n 0, 1) := by decide +kernel
theorem dX5_takeOver_125 : decode cX5_takeOver 125 = .ok (.aload_n 1, 1) := by decide +kernel
theorem dX5_takeOver_126 : decode cX5_takeOver 126 = .ok (.getfield 46, 3) := by decide +kernel
theorem dX5_takeOver_129 : decode cX5_takeOver 129 = .ok (.putfield 46, 3) := by decide +kernel
theorem dX5_takeOver_132 : decode cX5_takeOver 132 = .ok (.aload_n 0, 1) := by decide +kernel
theorem dX5_takeOver_133 : decode cX5_takeOver 133 = .ok (.aload_n 1, 1) := by decide +kernel
theorem dX5_takeOver_134 : decode cX5_takeOver 134 = .ok (.getfield 49, 3) := by decide +kernel
theorem dX5_takeOver_137 : decode cX5_takeOver 137 = .ok (.putfield 49, 3) := by decide +kernel
theorem dX5_takeOver_140 : decode cX5_takeOver 140 = .ok (.return_, 1) := by decide +kernel
theorem dX5_hasCloth_0 : decode cX5_hasCloth 0 = .ok (.iload_n 1, 1) := by decide +kernel
theorem dX5_hasCloth_1 : decode cX5_hasCloth 1 = .ok (.ifCond .lt 12, 3) := by decide +kernel
theorem dX5_hasCloth_4 : decode cX5_hasCloth 4 = .ok (.iload_n 1, 1) := by decide +kernel
theorem dX5_hasCloth_5 : decode cX5_hasCloth 5 = .ok (.iconst 4, 1) := by decide +kernel
theorem dX5_hasCloth_6 : decode cX5_hasCloth 6 = .ok (.if_icmp .ge 7, 3) := by decide +kernel
theorem dX5_hasCloth_9 : decode cX5_hasCloth 9 = .ok (.iconst 1, 1) := by decide +kernel
theorem dX5_hasCloth_10 : decode cX5_hasCloth 10 = .ok (.goto 4, 3) := by decide +kernel
theorem dX5_hasCloth_13 : decode cX5_hasCloth 13 = .ok (.iconst 0, 1) := by decide +kernel
theorem dX5_hasCloth_14 : decode cX5_hasCloth 14 = .ok (.ireturn, 1) := by decide +kernel
theorem dX5_hasCustomer_0 : decode cX5_hasCustomer 0 = .ok (.iload_n 1, 1) := by decide +kernel
theorem dX5_hasCustomer_1 : decode cX5_hasCustomer 1 = .ok (.ifCond .lt 15, 3) := by decide +kernel
theorem dX5_hasCustomer_4 : decode cX5_hasCustomer 4 = .ok (.iload_n 1, 1) := by decide +kernel
theorem dX5_hasCustomer_5 : decode cX5_hasCustomer 5 = .ok (.aload_n 0, 1) := by decide +kernel
theorem dX5_hasCustomer_6 : decode cX5_hasCustomer 6 = .ok (.getfield 21, 3) := by decide +kernel
theorem dX5_hasCustomer_9 : decode cX5_hasCustomer 9 = .ok (.if_icmp .ge 7, 3) := by decide +kernel
theorem dX5_hasCustomer_12 : decode cX5_hasCustomer 12 = .ok (.iconst 1, 1) := by decide +kernel
theorem dX5_hasCustomer_13 : decode cX5_hasCustomer 13 = .ok (.goto 4, 3) := by decide +kernel
theorem dX5_hasCustomer_16 : decode cX5_hasCustomer 16 = .ok (.iconst 0, 1) := by decide +kernel
theorem dX5_hasCustomer_17 : decode cX5_hasCustomer 17 = .ok (.ireturn, 1) := by decide +kernel
theorem dX5_suitWithId_0 : decode cX5_suitWithId 0 = .ok (.iconst 0, 1) := by decide +kernel
theorem dX5_suitWithId_1 : decode cX5_suitWithId 1 = .ok (.istore_n 2, 1) := by decide +kernel
theorem dX5_suitWithId_2 : decode cX5_suitWithId 2 = .ok (.iload_n 2, 1) := by decide +kernel
theorem dX5_suitWithId_3 : decode cX5_suitWithId 3 = .ok (.aload_n 0, 1) := by decide +kernel
theorem dX5_suitWithId_4 : decode cX5_suitWithId 4 = .ok (.getfield 31, 3) := by decide +kernel
theorem dX5_suitWithId_7 : decode cX5_suitWithId 7 = .ok (.if_icmp .ge 29, 3) := by decide +kernel
theorem dX5_suitWithId_10 : decode cX5_suitWithId 10 = .ok (.aload_n 0, 1) := by decide +kernel
theorem dX5_suitWithId_11 : decode cX5_suitWithId 11 = .ok (.getfield 27, 3) := by decide +kernel
theorem dX5_suitWithId_14 : decode cX5_suitWithId 14 = .ok (.iload_n 2, 1) := by decide +kernel
theorem dX5_suitWithId_15 : decode cX5_suitWithId 15 = .ok (.aaload, 1) := by decide +kernel
theorem dX5_suitWithId_16 : decode cX5_suitWithId 16 = .ok (.getfield 67, 3) := by decide +kernel
theorem dX5_suitWithId_19 : decode cX5_suitWithId 19 = .ok (.iload_n 1, 1) := by decide +kernel
theorem dX5_suitWithId_20 : decode cX5_suitWithId 20 = .ok (.if_icmp .ne 10, 3) := by decide +kernel
theorem dX5_suitWithId_23 : decode cX5_suitWithId 23 = .ok (.aload_n 0, 1) := by decide +kernel
theorem dX5_suitWithId_24 : decode cX5_suitWithId 24 = .ok (.getfield 27, 3) := by decide +kernel
theorem dX5_suitWithId_27 : decode cX5_suitWithId 27 = .ok (.iload_n 2, 1) := by decide +kernel
theorem dX5_suitWithId_28 : decode cX5_suitWithId 28 = .ok (.aaload, 1) := by decide +kernel
theorem dX5_suitWithId_29 : decode cX5_suitWithId 29 = .ok (.areturn, 1) := by decide +kernel
theorem dX5_suitWithId_30 : decode cX5_suitWithId 30 = .ok (.iinc 2 1, 3) := by decide +kernel
theorem dX5_suitWithId_33 : decode cX5_suitWithId 33 = .ok (.goto (-31), 3) := by decide +kernel
theorem dX5_suitWithId_36 : decode cX5_suitWithId 36 = .ok (.aconst_null, 1) := by decide +kernel
theorem dX5_suitWithId_37 : decode cX5_suitWithId 37 = .ok (.areturn, 1) := by decide +kernel
theorem dX5_wearerOf_0 : decode cX5_wearerOf 0 = .ok (.aload_n 0, 1) := by decide +kernel
theorem dX5_wearerOf_1 : decode cX5_wearerOf 1 = .ok (.getfield 17, 3) := by decide +kernel
theorem dX5_wearerOf_4 : decode cX5_wearerOf 4 = .ok (.aload_n 1, 1) := by decide +kernel
theorem dX5_wearerOf_5 : decode cX5_wearerOf 5 = .ok (.getfield 70, 3) := by decide +kernel
theorem dX5_wearerOf_8 : decode cX5_wearerOf 8 = .ok (.aaload, 1) := by decide +kernel
theorem dX5_wearerOf_9 : decode cX5_wearerOf 9 = .ok (.areturn, 1) := by decide +kernel
theorem dX5_customerAtRank_0 : decode cX5_customerAtRank 0 = .ok (.iconst 0, 1) := by decide +kernel
theorem dX5_customerAtRank_1 : decode cX5_customerAtRank 1 = .ok (.istore_n 2, 1) := by decide +kernel
theorem dX5_customerAtRank_2 : decode cX5_customerAtRank 2 = .ok (.iload_n 2, 1) := by decide +kernel
theorem dX5_customerAtRank_3 : decode cX5_customerAtRank 3 = .ok (.aload_n 0, 1) := by decide +kernel
theorem dX5_customerAtRank_4 : decode cX5_customerAtRank 4 = .ok (.getfield 21, 3) := by decide +kernel
theorem dX5_customerAtRank_7 : decode cX5_customerAtRank 7 = .ok (.if_icmp .ge 20, 3) := by decide +kernel
theorem dX5_customerAtRank_10 : decode cX5_customerAtRank 10 = .ok (.aload_n 0, 1) := by decide +kernel
theorem dX5_customerAtRank_11 : decode cX5_customerAtRank 11 = .ok (.iload_n 2, 1) := by decide +kernel
theorem dX5_customerAtRank_12 : decode cX5_customerAtRank 12 = .ok (.invokevirtual 73, 3) := by decide +kernel
theorem dX5_customerAtRank_15 : decode cX5_customerAtRank 15 = .ok (.iload_n 1, 1) := by decide +kernel
theorem dX5_customerAtRank_16 : decode cX5_customerAtRank 16 = .ok (.if_icmp .ne 5, 3) := by decide +kernel
theorem dX5_customerAtRank_19 : decode cX5_customerAtRank 19 = .ok (.iload_n 2, 1) := by decide +kernel
theorem dX5_customerAtRank_20 : decode cX5_customerAtRank 20 = .ok (.ireturn, 1) := by decide +kernel
theorem dX5_customerAtRank_21 : decode cX5_customerAtRank 21 = .ok (.iinc 2 1, 3) := by decide +kernel
theorem dX5_customerAtRank_24 : decode cX5_customerAtRank 24 = .ok (.goto (-22), 3) := by decide +kernel
theorem dX5_customerAtRank_27 : decode cX5_customerAtRank 27 = .ok (.iconst (-1), 1) := by decide +kernel
theorem dX5_customerAtRank_28 : decode cX5_customerAtRank 28 = .ok (.ireturn, 1) := by decide +kernel
theorem dX5_rankOf_0 : decode cX5_rankOf 0 = .ok (.aload_n 0, 1) := by decide +kernel
theorem dX5_rankOf_1 : decode cX5_rankOf 1 = .ok (.getfield 17, 3) := by decide +kernel
theorem dX5_rankOf_4 : decode cX5_rankOf 4 = .ok (.iload_n 1, 1) := by decide +kernel
theorem dX5_rankOf_5 : decode cX5_rankOf 5 = .ok (.aaload, 1) := by decide +kernel
theorem dX5_rankOf_6 : decode cX5_rankOf 6 = .ok (.invokevirtual 77, 3) := by decide +kernel
theorem dX5_rankOf_9 : decode cX5_rankOf 9 = .ok (.istore_n 2, 1) := by decide +kernel
theorem dX5_rankOf_10 : decode cX5_rankOf 10 = .ok (.iconst 0, 1) := by decide +kernel
theorem dX5_rankOf_11 : decode cX5_rankOf 11 = .ok (.istore_n 3, 1) := by decide +kernel
theorem dX5_rankOf_12 : decode cX5_rankOf 12 = .ok (.iconst 0, 1) := by decide +kernel
theorem dX5_rankOf_13 : decode cX5_rankOf 13 = .ok (.istore 4, 2) := by decide +kernel
theorem dX5_rankOf_15 : decode cX5_rankOf 15 = .ok (.iload 4, 2) := by decide +kernel
theorem dX5_rankOf_17 : decode cX5_rankOf 17 = .ok (.aload_n 0, 1) := by decide +kernel
theorem dX5_rankOf_18 : decode cX5_rankOf 18 = .ok (.getfield 21, 3) := by decide +kernel
theorem dX5_rankOf_21 : decode cX5_rankOf 21 = .ok (.if_icmp .ge 42, 3) := by decide +kernel
theorem dX5_rankOf_24 : decode cX5_rankOf 24 = .ok (.aload_n 0, 1) := by decide +kernel
theorem dX5_rankOf_25 : decode cX5_rankOf 25 = .ok (.getfield 17, 3) := by decide +kernel
theorem dX5_rankOf_28 : decode cX5_rankOf 28 = .ok (.iload 4, 2) := by decide +kernel
theorem dX5_rankOf_30 : decode cX5_rankOf 30 = .ok (.aaload, 1) := by decide +kernel
theorem dX5_rankOf_31 : decode cX5_rankOf 31 = .ok (.invokevirtual 77, 3) := by decide +kernel
theorem dX5_rankOf_34 : decode cX5_rankOf 34 = .ok (.istore 5, 2) := by decide +kernel
theorem dX5_rankOf_36 : decode cX5_rankOf 36 = .ok (.iload 5, 2) := by decide +kernel
theorem dX5_rankOf_38 : decode cX5_rankOf 38 = .ok (.iload_n 2, 1) := by decide +kernel
theorem dX5_rankOf_39 : decode cX5_rankOf 39 = .ok (.if_icmp .gt 15, 3) := by decide +kernel
theorem dX5_rankOf_42 : decode cX5_rankOf 42 = .ok (.iload 5, 2) := by decide +kernel
theorem dX5_rankOf_44 : decode cX5_rankOf 44 = .ok (.iload_n 2, 1) := by decide +kernel
theorem dX5_rankOf_45 : decode cX5_rankOf 45 = .ok (.if_icmp .ne 12, 3) := by decide +kernel
theorem dX5_rankOf_48 : decode cX5_rankOf 48 = .ok (.iload 4, 2) := by decide +kernel
theorem dX5_rankOf_50 : decode cX5_rankOf 50 = .ok (.iload_n 1, 1) := by decide +kernel
theorem dX5_rankOf_51 : decode cX5_rankOf 51 = .ok (.if_icmp .ge 6, 3) := by decide +kernel
theorem dX5_rankOf_54 : decode cX5_rankOf 54 = .ok (.iinc 3 1, 3) := by decide +kernel
theorem dX5_rankOf_57 : decode cX5_rankOf 57 = .ok (.iinc 4 1, 3) := by decide +kernel
theorem dX5_rankOf_60 : decode cX5_rankOf 60 = .ok (.goto (-45), 3) := by decide +kernel
theorem dX5_rankOf_63 : decode cX5_rankOf 63 = .ok (.iload_n 3, 1) := by decide +kernel
theorem dX5_rankOf_64 : decode cX5_rankOf 64 = .ok (.ireturn, 1) := by decide +kernel
theorem dX5_accountsForCloth_0 : decode cX5_accountsForCloth 0 = .ok (.aload_n 0, 1) := by decide +kernel
theorem dX5_accountsForCloth_1 : decode cX5_accountsForCloth 1 = .ok (.getfield 43, 3) := by decide +kernel
theorem dX5_accountsForCloth_4 : decode cX5_accountsForCloth 4 = .ok (.aload_n 0, 1) := by decide +kernel
theorem dX5_accountsForCloth_5 : decode cX5_accountsForCloth 5 = .ok (.getfield 40, 3) := by decide +kernel
theorem dX5_accountsForCloth_8 : decode cX5_accountsForCloth 8 = .ok (.iadd, 1) := by decide +kernel
theorem dX5_accountsForCloth_9 : decode cX5_accountsForCloth 9 = .ok (.istore_n 1, 1) := by decide +kernel
theorem dX5_accountsForCloth_10 : decode cX5_accountsForCloth 10 = .ok (.iconst 0, 1) := by decide +kernel
theorem dX5_accountsForCloth_11 : decode cX5_accountsForCloth 11 = .ok (.istore_n 2, 1) := by decide +kernel
theorem dX5_accountsForCloth_12 : decode cX5_accountsForCloth 12 = .ok (.iload_n 2, 1) := by decide +kernel
theorem dX5_accountsForCloth_13 : decode cX5_accountsForCloth 13 = .ok (.iconst 4, 1) := by decide +kernel
theorem dX5_accountsForCloth_14 : decode cX5_accountsForCloth 14 = .ok (.if_icmp .ge 18, 3) := by decide +kernel
theorem dX5_accountsForCloth_17 : decode cX5_accountsForCloth 17 = .ok (.iload_n 1, 1) := by decide +kernel
theorem dX5_accountsForCloth_18 : decode cX5_accountsForCloth 18 = .ok (.aload_n 0, 1) := by decide +kernel
theorem dX5_accountsForCloth_19 : decode cX5_accountsForCloth 19 = .ok (.getfield 9, 3) := by decide +kernel
theorem dX5_accountsForCloth_22 : decode cX5_accountsForCloth 22 = .ok (.iload_n 2, 1) := by decide +kernel
theorem dX5_accountsForCloth_23 : decode cX5_accountsForCloth 23 = .ok (.iaload, 1) := by decide +kernel
theorem dX5_accountsForCloth_24 : decode cX5_accountsForCloth 24 = .ok (.iadd, 1) := by decide +kernel
theorem dX5_accountsForCloth_25 : decode cX5_accountsForCloth 25 = .ok (.istore_n 1, 1) := by decide +kernel
theorem dX5_accountsForCloth_26 : decode cX5_accountsForCloth 26 = .ok (.iinc 2 1, 3) := by decide +kernel
theorem dX5_accountsForCloth_29 : decode cX5_accountsForCloth 29 = .ok (.goto (-17), 3) := by decide +kernel
theorem dX5_accountsForCloth_32 : decode cX5_accountsForCloth 32 = .ok (.iconst 0, 1) := by decide +kernel
theorem dX5_accountsForCloth_33 : decode cX5_accountsForCloth 33 = .ok (.istore_n 2, 1) := by decide +kernel
theorem dX5_accountsForCloth_34 : decode cX5_accountsForCloth 34 = .ok (.iload_n 2, 1) := by decide +kernel
theorem dX5_accountsForCloth_35 : decode cX5_accountsForCloth 35 = .ok (.aload_n 0, 1) := by decide +kernel
theorem dX5_accountsForCloth_36 : decode cX5_accountsForCloth 36 = .ok (.getfield 31, 3) := by decide +kernel
theorem dX5_accountsForCloth_39 : decode cX5_accountsForCloth 39 = .ok (.if_icmp .ge 21, 3) := by decide +kernel
theorem dX5_accountsForCloth_42 : decode cX5_accountsForCloth 42 = .ok (.iload_n 1, 1) := by decide +kernel
theorem dX5_accountsForCloth_43 : decode cX5_accountsForCloth 43 = .ok (.aload_n 0, 1) := by decide +kernel
theorem dX5_accountsForCloth_44 : decode cX5_accountsForCloth 44 = .ok (.getfield 27, 3) := by decide +kernel
theorem dX5_accountsForCloth_47 : decode cX5_accountsForCloth 47 = .ok (.iload_n 2, 1) := by decide +kernel
theorem dX5_accountsForCloth_48 : decode cX5_accountsForCloth 48 = .ok (.aaload, 1) := by decide +kernel
theorem dX5_accountsForCloth_49 : decode cX5_accountsForCloth 49 = .ok (.invokevirtual 81, 3) := by decide +kernel
theorem dX5_accountsForCloth_52 : decode cX5_accountsForCloth 52 = .ok (.iadd, 1) := by decide +kernel
theorem dX5_accountsForCloth_53 : decode cX5_accountsForCloth 53 = .ok (.istore_n 1, 1) := by decide +kernel
theorem dX5_accountsForCloth_54 : decode cX5_accountsForCloth 54 = .ok (.iinc 2 1, 3) := by decide +kernel
theorem dX5_accountsForCloth_57 : decode cX5_accountsForCloth 57 = .ok (.goto (-23), 3) := by decide +kernel
theorem dX5_accountsForCloth_60 : decode cX5_accountsForCloth 60 = .ok (.iload_n 1, 1) := by decide +kernel
theorem dX5_accountsForCloth_61 : decode cX5_accountsForCloth 61 = .ok (.aload_n 0, 1) := by decide +kernel
theorem dX5_accountsForCloth_62 : decode cX5_accountsForCloth 62 = .ok (.getfield 37, 3) := by decide +kernel
theorem dX5_accountsForCloth_65 : decode cX5_accountsForCloth 65 = .ok (.if_icmp .ne 7, 3) := by decide +kernel
theorem dX5_accountsForCloth_68 : decode cX5_accountsForCloth 68 = .ok (.iconst 1, 1) := by decide +kernel
theorem dX5_accountsForCloth_69 : decode cX5_accountsForCloth 69 = .ok (.goto 4, 3) := by decide +kernel
theorem dX5_accountsForCloth_72 : decode cX5_accountsForCloth 72 = .ok (.iconst 0, 1) := by decide +kernel
theorem dX5_accountsForCloth_73 : decode cX5_accountsForCloth 73 = .ok (.ireturn, 1) := by decide +kernel
theorem dX5_perform_0 : decode cX5_perform 0 = .ok (.iload_n 1, 1) := by decide +kernel
theorem dX5_perform_1 : decode cX5_perform 1 = .ok (.tableswitch 117 0 8 #[51, 58, 65, 74, 81, 88, 95, 102, 111], 51) := by decide +kernel
theorem dX5_perform_52 : decode cX5_perform 52 = .ok (.aload_n 0, 1) := by decide +kernel
theorem dX5_perform_53 : decode cX5_perform 53 = .ok (.iload_n 2, 1) := by decide +kernel
theorem dX5_perform_54 : decode cX5_perform 54 = .ok (.iload_n 3, 1) := by decide +kernel
theorem dX5_perform_55 : decode cX5_perform 55 = .ok (.invokevirtual 84, 3) := by decide +kernel
theorem dX5_perform_58 : decode cX5_perform 58 = .ok (.ireturn, 1) := by decide +kernel
theorem dX5_perform_59 : decode cX5_perform 59 = .ok (.aload_n 0, 1) := by decide +kernel
theorem dX5_perform_60 : decode cX5_perform 60 = .ok (.iload_n 2, 1) := by decide +kernel
theorem dX5_perform_61 : decode cX5_perform 61 = .ok (.iload_n 3, 1) := by decide +kernel
theorem dX5_perform_62 : decode cX5_perform 62 = .ok (.invokevirtual 88, 3) := by decide +kernel
theorem dX5_perform_65 : decode cX5_perform 65 = .ok (.ireturn, 1) := by decide +kernel
theorem dX5_perform_66 : decode cX5_perform 66 = .ok (.aload_n 0, 1) := by decide +kernel
theorem dX5_perform_67 : decode cX5_perform 67 = .ok (.iload_n 2, 1) := by decide +kernel
theorem dX5_perform_68 : decode cX5_perform 68 = .ok (.iload_n 3, 1) := by decide +kernel
theorem dX5_perform_69 : decode cX5_perform 69 = .ok (.iload 4, 2) := by decide +kernel
theorem dX5_perform_71 : decode cX5_perform 71 = .ok (.invokevirtual 91, 3) := by decide +kernel
theorem dX5_perform_74 : decode cX5_perform 74 = .ok (.ireturn, 1) := by decide +kernel
theorem dX5_perform_75 : decode cX5_perform 75 = .ok (.aload_n 0, 1) := by decide +kernel
theorem dX5_perform_76 : decode cX5_perform 76 = .ok (.iload_n 2, 1) := by decide +kernel
theorem dX5_perform_77 : decode cX5_perform 77 = .ok (.iload_n 3, 1) := by decide +kernel
theorem dX5_perform_78 : decode cX5_perform 78 = .ok (.invokevirtual 95, 3) := by decide +kernel
theorem dX5_perform_81 : decode cX5_perform 81 = .ok (.ireturn, 1) := by decide +kernel
theorem dX5_perform_82 : decode cX5_perform 82 = .ok (.aload_n 0, 1) := by decide +kernel
theorem dX5_perform_83 : decode cX5_perform 83 = .ok (.iload_n 2, 1) := by decide +kernel
theorem dX5_perform_84 : decode cX5_perform 84 = .ok (.iload_n 3, 1) := by decide +kernel
theorem dX5_perform_85 : decode cX5_perform 85 = .ok (.invokevirtual 98, 3) := by decide +kernel
theorem dX5_perform_88 : decode cX5_perform 88 = .ok (.ireturn, 1) := by decide +kernel
theorem dX5_perform_89 : decode cX5_perform 89 = .ok (.aload_n 0, 1) := by decide +kernel
theorem dX5_perform_90 : decode cX5_perform 90 = .ok (.iload_n 2, 1) := by decide +kernel
theorem dX5_perform_91 : decode cX5_perform 91 = .ok (.iload_n 3, 1) := by decide +kernel
theorem dX5_perform_92 : decode cX5_perform 92 = .ok (.invokevirtual 101, 3) := by decide +kernel
theorem dX5_perform_95 : decode cX5_perform 95 = .ok (.ireturn, 1) := by decide +kernel
theorem dX5_perform_96 : decode cX5_perform 96 = .ok (.aload_n 0, 1) := by decide +kernel
theorem dX5_perform_97 : decode cX5_perform 97 = .ok (.iload_n 2, 1) := by decide +kernel
theorem dX5_perform_98 : decode cX5_perform 98 = .ok (.iload_n 3, 1) := by decide +kernel
theorem dX5_perform_99 : decode cX5_perform 99 = .ok (.invokevirtual 104, 3) := by decide +kernel
theorem dX5_perform_102 : decode cX5_perform 102 = .ok (.ireturn, 1) := by decide +kernel
theorem dX5_perform_103 : decode cX5_perform 103 = .ok (.aload_n 0, 1) := by decide +kernel
theorem dX5_perform_104 : decode cX5_perform 104 = .ok (.iload_n 2, 1) := by decide +kernel
theorem dX5_perform_105 : decode cX5_perform 105 = .ok (.iload_n 3, 1) := by decide +kernel
theorem dX5_perform_106 : decode cX5_perform 106 = .ok (.iload 4, 2) := by decide +kernel
theorem dX5_perform_108 : decode cX5_perform 108 = .ok (.invokevirtual 107, 3) := by decide +kernel
theorem dX5_perform_111 : decode cX5_perform 111 = .ok (.ireturn, 1) := by decide +kernel
theorem dX5_perform_112 : decode cX5_perform 112 = .ok (.aload_n 0, 1) := by decide +kernel
theorem dX5_perform_113 : decode cX5_perform 113 = .ok (.iload_n 2, 1) := by decide +kernel
theorem dX5_perform_114 : decode cX5_perform 114 = .ok (.invokevirtual 110, 3) := by decide +kernel
theorem dX5_perform_117 : decode cX5_perform 117 = .ok (.ireturn, 1) := by decide +kernel
theorem dX5_perform_118 : decode cX5_perform 118 = .ok (.aload_n 0, 1) := by decide +kernel
theorem dX5_perform_119 : decode cX5_perform 119 = .ok (.iload_n 2, 1) := by decide +kernel
theorem dX5_perform_120 : decode cX5_perform 120 = .ok (.invokevirtual 113, 3) := by decide +kernel
theorem dX5_perform_123 : decode cX5_perform 123 = .ok (.ireturn, 1) := by decide +kernel
theorem dX5_storeCloth_0 : decode cX5_storeCloth 0 = .ok (.aload_n 0, 1) := by decide +kernel
theorem dX5_storeCloth_1 : decode cX5_storeCloth 1 = .ok (.iload_n 1, 1) := by decide +kernel
theorem dX5_storeCloth_2 : decode cX5_storeCloth 2 = .ok (.invokevirtual 116, 3) := by decide +kernel
theorem dX5_storeCloth_5 : decode cX5_storeCloth 5 = .ok (.ifCond .ne 6, 3) := by decide +kernel
theorem dX5_storeCloth_8 : decode cX5_storeCloth 8 = .ok (.bipush (-2), 2) := by decide +kernel
theorem dX5_storeCloth_10 : decode cX5_storeCloth 10 = .ok (.ireturn, 1) := by decide +kernel
theorem dX5_storeCloth_11 : decode cX5_storeCloth 11 = .ok (.iload_n 2, 1) := by decide +kernel
theorem dX5_storeCloth_12 : decode cX5_storeCloth 12 = .ok (.iconst 1, 1) := by decide +kernel
theorem dX5_storeCloth_13 : decode cX5_storeCloth 13 = .ok (.if_icmp .lt 10, 3) := by decide +kernel
theorem dX5_storeCloth_16 : decode cX5_storeCloth 16 = .ok (.iload_n 2, 1) := by decide +kernel
theorem dX5_storeCloth_17 : decode cX5_storeCloth 17 = .ok (.sipush 999, 3) := by decide +kernel
theorem dX5_storeCloth_20 : decode cX5_storeCloth 20 = .ok (.if_icmp .le 6, 3) := by decide +kernel
theorem dX5_storeCloth_23 : decode cX5_storeCloth 23 = .ok (.bipush (-3), 2) := by decide +kernel
theorem dX5_storeCloth_25 : decode cX5_storeCloth 25 = .ok (.ireturn, 1) := by decide +kernel
theorem dX5_storeCloth_26 : decode cX5_storeCloth 26 = .ok (.aload_n 0, 1) := by decide +kernel
theorem dX5_storeCloth_27 : decode cX5_storeCloth 27 = .ok (.getfield 9, 3) := by decide +kernel
theorem dX5_storeCloth_30 : decode cX5_storeCloth 30 = .ok (.iload_n 1, 1) := by decide +kernel
theorem dX5_storeCloth_31 : decode cX5_storeCloth 31 = .ok (.iaload, 1) := by decide +kernel
theorem dX5_storeCloth_32 : decode cX5_storeCloth 32 = .ok (.iload_n 2, 1) := by decide +kernel
theorem dX5_storeCloth_33 : decode cX5_storeCloth 33 = .ok (.iadd, 1) := by decide +kernel
theorem dX5_storeCloth_34 : decode cX5_storeCloth 34 = .ok (.sipush 2000, 3) := by decide +kernel
theorem dX5_storeCloth_37 : decode cX5_storeCloth 37 = .ok (.if_icmp .le 6, 3) := by decide +kernel
theorem dX5_storeCloth_40 : decode cX5_storeCloth 40 = .ok (.bipush (-5), 2) := by decide +kernel
theorem dX5_storeCloth_42 : decode cX5_storeCloth 42 = .ok (.ireturn, 1) := by decide +kernel
theorem dX5_storeCloth_43 : decode cX5_storeCloth 43 = .ok (.aload_n 0, 1) := by decide +kernel
theorem dX5_storeCloth_44 : decode cX5_storeCloth 44 = .ok (.getfield 9, 3) := by decide +kernel
theorem dX5_storeCloth_47 : decode cX5_storeCloth 47 = .ok (.iload_n 1, 1) := by decide +kernel
theorem dX5_storeCloth_48 : decode cX5_storeCloth 48 = .ok (.dup2, 1) := by decide +kernel
theorem dX5_storeCloth_49 : decode cX5_storeCloth 49 = .ok (.iaload, 1) := by decide +kernel
theorem dX5_storeCloth_50 : decode cX5_storeCloth 50 = .ok (.iload_n 2, 1) := by decide +kernel
theorem dX5_storeCloth_51 : decode cX5_storeCloth 51 = .ok (.iadd, 1) := by decide +kernel
theorem dX5_storeCloth_52 : decode cX5_storeCloth 52 = .ok (.iastore, 1) := by decide +kernel
theorem dX5_storeCloth_53 : decode cX5_storeCloth 53 = .ok (.aload_n 0, 1) := by decide +kernel
theorem dX5_storeCloth_54 : decode cX5_storeCloth 54 = .ok (.dup, 1) := by decide +kernel
theorem dX5_storeCloth_55 : decode cX5_storeCloth 55 = .ok (.getfield 37, 3) := by decide +kernel
theorem dX5_storeCloth_58 : decode cX5_storeCloth 58 = .ok (.iload_n 2, 1) := by decide +kernel
theorem dX5_storeCloth_59 : decode cX5_storeCloth 59 = .ok (.iadd, 1) := by decide +kernel
theorem dX5_storeCloth_60 : decode cX5_storeCloth 60 = .ok (.putfield 37, 3) := by decide +kernel
theorem dX5_storeCloth_63 : decode cX5_storeCloth 63 = .ok (.aload_n 0, 1) := by decide +kernel
theorem dX5_storeCloth_64 : decode cX5_storeCloth 64 = .ok (.getfield 9, 3) := by decide +kernel
theorem dX5_storeCloth_67 : decode cX5_storeCloth 67 = .ok (.iload_n 1, 1) := by decide +kernel
theorem dX5_storeCloth_68 : decode cX5_storeCloth 68 = .ok (.iaload, 1) := by decide +kernel
theorem dX5_storeCloth_69 : decode cX5_storeCloth 69 = .ok (.ireturn, 1) := by decide +kernel
theorem dX5_welcome_0 : decode cX5_welcome 0 = .ok (.iload_n 1, 1) := by decide +kernel
theorem dX5_welcome_1 : decode cX5_welcome 1 = .ok (.iconst 1, 1) := by decide +kernel
theorem dX5_welcome_2 : decode cX5_welcome 2 = .ok (.if_icmp .lt 16, 3) := by decide +kernel
theorem dX5_welcome_5 : decode cX5_welcome 5 = .ok (.iload_n 1, 1) := by decide +kernel
theorem dX5_welcome_6 : decode cX5_welcome 6 = .ok (.bipush 8, 2) := by decide +kernel
theorem dX5_welcome_8 : decode cX5_welcome 8 = .ok (.if_icmp .gt 10, 3) := by decide +kernel
theorem dX5_welcome_11 : decode cX5_welcome 11 = .ok (.iload_n 2, 1) := by decide +kernel
theorem dX5_welcome_12 : decode cX5_welcome 12 = .ok (.invokestatic 120, 3) := by decide +kernel
theorem dX5_welcome_15 : decode cX5_welcome 15 = .ok (.ifCond .ne 6, 3) := by decide +kernel
theorem dX5_welcome_18 : decode cX5_welcome 18 = .ok (.bipush (-3), 2) := by decide +kernel
theorem dX5_welcome_20 : decode cX5_welcome 20 = .ok (.ireturn, 1) := by decide +kernel
theorem dX5_welcome_21 : decode cX5_welcome 21 = .ok (.aload_n 0, 1) := by decide +kernel
theorem dX5_welcome_22 : decode cX5_welcome 22 = .ok (.getfield 21, 3) := by decide +kernel
theorem dX5_welcome_25 : decode cX5_welcome 25 = .ok (.iconst 5, 1) := by decide +kernel
theorem dX5_welcome_26 : decode cX5_welcome 26 = .ok (.if_icmp .ne 6, 3) := by decide +kernel
theorem dX5_welcome_29 : decode cX5_welcome 29 = .ok (.bipush (-4), 2) := by decide +kernel
theorem dX5_welcome_31 : decode cX5_welcome 31 = .ok (.ireturn, 1) := by decide +kernel
theorem dX5_welcome_32 : decode cX5_welcome 32 = .ok (.aload_n 0, 1) := by decide +kernel
theorem dX5_welcome_33 : decode cX5_welcome 33 = .ok (.getfield 17, 3) := by decide +kernel
theorem dX5_welcome_36 : decode cX5_welcome 36 = .ok (.aload_n 0, 1) := by decide +kernel
theorem dX5_welcome_37 : decode cX5_welcome 37 = .ok (.getfield 21, 3) := by decide +kernel
theorem dX5_welcome_40 : decode cX5_welcome 40 = .ok (.aaload, 1) := by decide +kernel
theorem dX5_welcome_41 : decode cX5_welcome 41 = .ok (.iload_n 1, 1) := by decide +kernel
theorem dX5_welcome_42 : decode cX5_welcome 42 = .ok (.iload_n 2, 1) := by decide +kernel
theorem dX5_welcome_43 : decode cX5_welcome 43 = .ok (.invokevirtual 123, 3) := by decide +kernel
theorem dX5_welcome_46 : decode cX5_welcome 46 = .ok (.aload_n 0, 1) := by decide +kernel
theorem dX5_welcome_47 : decode cX5_welcome 47 = .ok (.dup, 1) := by decide +kernel
theorem dX5_welcome_48 : decode cX5_welcome 48 = .ok (.getfield 21, 3) := by decide +kernel
theorem dX5_welcome_51 : decode cX5_welcome 51 = .ok (.iconst 1, 1) := by decide +kernel
theorem dX5_welcome_52 : decode cX5_welcome 52 = .ok (.iadd, 1) := by decide +kernel
theorem dX5_welcome_53 : decode cX5_welcome 53 = .ok (.putfield 21, 3) := by decide +kernel
theorem dX5_welcome_56 : decode cX5_welcome 56 = .ok (.aload_n 0, 1) := by decide +kernel
theorem dX5_welcome_57 : decode cX5_welcome 57 = .ok (.getfield 21, 3) := by decide +kernel
theorem dX5_welcome_60 : decode cX5_welcome 60 = .ok (.iconst 1, 1) := by decide +kernel
theorem dX5_welcome_61 : decode cX5_welcome 61 = .ok (.isub, 1) := by decide +kernel
theorem dX5_welcome_62 : decode cX5_welcome 62 = .ok (.ireturn, 1) := by decide +kernel
theorem dX5_isLegLength_0 : decode cX5_isLegLength 0 = .ok (.iload_n 0, 1) := by decide +kernel
theorem dX5_isLegLength_1 : decode cX5_isLegLength 1 = .ok (.bipush 10, 2) := by decide +kernel
theorem dX5_isLegLength_3 : decode cX5_isLegLength 3 = .ok (.if_icmp .lt 13, 3) := by decide +kernel
theorem dX5_isLegLength_6 : decode cX5_isLegLength 6 = .ok (.iload_n 0, 1) := by decide +kernel
theorem dX5_isLegLength_7 : decode cX5_isLegLength 7 = .ok (.bipush 60, 2) := by decide +kernel
theorem dX5_isLegLength_9 : decode cX5_isLegLength 9 = .ok (.if_icmp .gt 7, 3) := by decide +kernel
theorem dX5_isLegLength_12 : decode cX5_isLegLength 12 = .ok (.iconst 1, 1) := by decide +kernel
theorem dX5_isLegLength_13 : decode cX5_isLegLength 13 = .ok (.goto 4, 3) := by decide +kernel
theorem dX5_isLegLength_16 : decode cX5_isLegLength 16 = .ok (.iconst 0, 1) := by decide +kernel
theorem dX5_isLegLength_17 : decode cX5_isLegLength 17 = .ok (.ireturn, 1) := by decide +kernel
theorem dX5_measure_0 : decode cX5_measure 0 = .ok (.aload_n 0, 1) := by decide +kernel
theorem dX5_measure_1 : decode cX5_measure 1 = .ok (.iload_n 1, 1) := by decide +kernel
theorem dX5_measure_2 : decode cX5_measure 2 = .ok (.invokevirtual 127, 3) := by decide +kernel
theorem dX5_measure_5 : decode cX5_measure 5 = .ok (.ifCond .eq 16, 3) := by decide +kernel
theorem dX5_measure_8 : decode cX5_measure 8 = .ok (.aload_n 0, 1) := by decide +kernel
theorem dX5_measure_9 : decode cX5_measure 9 = .ok (.getfield 17, 3) := by decide +kernel
theorem dX5_measure_12 : decode cX5_measure 12 = .ok (.iload_n 1, 1) := by decide +kernel
theorem dX5_measure_13 : decode cX5_measure 13 = .ok (.aaload, 1) := by decide +kernel
theorem dX5_measure_14 : decode cX5_measure 14 = .ok (.iload_n 2, 1) := by decide +kernel
theorem dX5_measure_15 : decode cX5_measure 15 = .ok (.invokevirtual 130, 3) := by decide +kernel
theorem dX5_measure_18 : decode cX5_measure 18 = .ok (.ifCond .ne 6, 3) := by decide +kernel
theorem dX5_measure_21 : decode cX5_measure 21 = .ok (.bipush (-2), 2) := by decide +kernel
theorem dX5_measure_23 : decode cX5_measure 23 = .ok (.ireturn, 1) := by decide +kernel
theorem dX5_measure_24 : decode cX5_measure 24 = .ok (.iload_n 3, 1) := by decide +kernel
theorem dX5_measure_25 : decode cX5_measure 25 = .ok (.invokestatic 120, 3) := by decide +kernel
theorem dX5_measure_28 : decode cX5_measure 28 = .ok (.ifCond .ne 6, 3) := by decide +kernel
theorem dX5_measure_31 : decode cX5_measure 31 = .ok (.bipush (-3), 2) := by decide +kernel
theorem dX5_measure_33 : decode cX5_measure 33 = .ok (.ireturn, 1) := by decide +kernel
theorem dX5_measure_34 : decode cX5_measure 34 = .ok (.aload_n 0, 1) := by decide +kernel
theorem dX5_measure_35 : decode cX5_measure 35 = .ok (.getfield 17, 3) := by decide +kernel
theorem dX5_measure_38 : decode cX5_measure 38 = .ok (.iload_n 1, 1) := by decide +kernel
theorem dX5_measure_39 : decode cX5_measure 39 = .ok (.aaload, 1) := by decide +kernel
theorem dX5_measure_40 : decode cX5_measure 40 = .ok (.getfield 133, 3) := by decide +kernel
theorem dX5_measure_43 : decode cX5_measure 43 = .ok (.iload_n 2, 1) := by decide +kernel
theorem dX5_measure_44 : decode cX5_measure 44 = .ok (.iaload, 1) := by decide +kernel
theorem dX5_measure_45 : decode cX5_measure 45 = .ok (.istore 4, 2) := by decide +kernel
theorem dX5_measure_47 : decode cX5_measure 47 = .ok (.aload_n 0, 1) := by decide +kernel
theorem dX5_measure_48 : decode cX5_measure 48 = .ok (.getfield 17, 3) := by decide +kernel
theorem dX5_measure_51 : decode cX5_measure 51 = .ok (.iload_n 1, 1) := by decide +kernel
theorem dX5_measure_52 : decode cX5_measure 52 = .ok (.aaload, 1) := by decide +kernel
theorem dX5_measure_53 : decode cX5_measure 53 = .ok (.getfield 133, 3) := by decide +kernel
theorem dX5_measure_56 : decode cX5_measure 56 = .ok (.iload_n 2, 1) := by decide +kernel
theorem dX5_measure_57 : decode cX5_measure 57 = .ok (.iload_n 3, 1) := by decide +kernel
theorem dX5_measure_58 : decode cX5_measure 58 = .ok (.iastore, 1) := by decide +kernel
theorem dX5_measure_59 : decode cX5_measure 59 = .ok (.iload 4, 2) := by decide +kernel
theorem dX5_measure_61 : decode cX5_measure 61 = .ok (.ireturn, 1) := by decide +kernel
theorem dX5_beginSuit_0 : decode cX5_beginSuit 0 = .ok (.aload_n 0, 1) := by decide +kernel
theorem dX5_beginSuit_1 : decode cX5_beginSuit 1 = .ok (.iload_n 1, 1) := by decide +kernel
theorem dX5_beginSuit_2 : decode cX5_beginSuit 2 = .ok (.invokevirtual 127, 3) := by decide +kernel
theorem dX5_beginSuit_5 : decode cX5_beginSuit 5 = .ok (.ifCond .eq 11, 3) := by decide +kernel
theorem dX5_beginSuit_8 : decode cX5_beginSuit 8 = .ok (.aload_n 0, 1) := by decide +kernel
theorem dX5_beginSuit_9 : decode cX5_beginSuit 9 = .ok (.iload_n 2, 1) := by decide +kernel
theorem dX5_beginSuit_10 : decode cX5_beginSuit 10 = .ok (.invokevirtual 116, 3) := by decide +kernel
theorem dX5_beginSuit_13 : decode cX5_beginSuit 13 = .ok (.ifCond .ne 6, 3) := by decide +kernel
theorem dX5_beginSuit_16 : decode cX5_beginSuit 16 = .ok (.bipush (-2), 2) := by decide +kernel
theorem dX5_beginSuit_18 : decode cX5_beginSuit 18 = .ok (.ireturn, 1) := by decide +kernel
theorem dX5_beginSuit_19 : decode cX5_beginSuit 19 = .ok (.aload_n 0, 1) := by decide +kernel
theorem dX5_beginSuit_20 : decode cX5_beginSuit 20 = .ok (.getfield 31, 3) := by decide +kernel
theorem dX5_beginSuit_23 : decode cX5_beginSuit 23 = .ok (.bipush 6, 2) := by decide +kernel
theorem dX5_beginSuit_25 : decode cX5_beginSuit 25 = .ok (.if_icmp .ne 6, 3) := by decide +kernel
theorem dX5_beginSuit_28 : decode cX5_beginSuit 28 = .ok (.bipush (-4), 2) := by decide +kernel
theorem dX5_beginSuit_30 : decode cX5_beginSuit 30 = .ok (.ireturn, 1) := by decide +kernel
theorem dX5_beginSuit_31 : decode cX5_beginSuit 31 = .ok (.aload_n 0, 1) := by decide +kernel
theorem dX5_beginSuit_32 : decode cX5_beginSuit 32 = .ok (.getfield 27, 3) := by decide +kernel
theorem dX5_beginSuit_35 : decode cX5_beginSuit 35 = .ok (.aload_n 0, 1) := by decide +kernel
theorem dX5_beginSuit_36 : decode cX5_beginSuit 36 = .ok (.getfield 31, 3) := by decide +kernel
theorem dX5_beginSuit_39 : decode cX5_beginSuit 39 = .ok (.aaload, 1) := by decide +kernel
theorem dX5_beginSuit_40 : decode cX5_beginSuit 40 = .ok (.aload_n 0, 1) := by decide +kernel
theorem dX5_beginSuit_41 : decode cX5_beginSuit 41 = .ok (.getfield 34, 3) := by decide +kernel
theorem dX5_beginSuit_44 : decode cX5_beginSuit 44 = .ok (.iload_n 1, 1) := by decide +kernel
theorem dX5_beginSuit_45 : decode cX5_beginSuit 45 = .ok (.iload_n 2, 1) := by decide +kernel
theorem dX5_beginSuit_46 : decode cX5_beginSuit 46 = .ok (.aload_n 0, 1) := by decide +kernel
theorem dX5_beginSuit_47 : decode cX5_beginSuit 47 = .ok (.getfield 17, 3) := by decide +kernel
theorem dX5_beginSuit_50 : decode cX5_beginSuit 50 = .ok (.iload_n 1, 1) := by decide +kernel
theorem dX5_beginSuit_51 : decode cX5_beginSuit 51 = .ok (.aaload, 1) := by decide +kernel
theorem dX5_beginSuit_52 : decode cX5_beginSuit 52 = .ok (.getfield 136, 3) := by decide +kernel
theorem dX5_beginSuit_55 : decode cX5_beginSuit 55 = .ok (.invokevirtual 139, 3) := by decide +kernel
theorem dX5_beginSuit_58 : decode cX5_beginSuit 58 = .ok (.aload_n 0, 1) := by decide +kernel
theorem dX5_beginSuit_59 : decode cX5_beginSuit 59 = .ok (.dup, 1) := by decide +kernel
theorem dX5_beginSuit_60 : decode cX5_beginSuit 60 = .ok (.getfield 31, 3) := by decide +kernel
theorem dX5_beginSuit_63 : decode cX5_beginSuit 63 = .ok (.iconst 1, 1) := by decide +kernel
theorem dX5_beginSuit_64 : decode cX5_beginSuit 64 = .ok (.iadd, 1) := by decide +kernel
theorem dX5_beginSuit_65 : decode cX5_beginSuit 65 = .ok (.putfield 31, 3) := by decide +kernel
theorem dX5_beginSuit_68 : decode cX5_beginSuit 68 = .ok (.aload_n 0, 1) := by decide +kernel
theorem dX5_beginSuit_69 : decode cX5_beginSuit 69 = .ok (.dup, 1) := by decide +kernel
theorem dX5_beginSuit_70 : decode cX5_beginSuit 70 = .ok (.getfield 34, 3) := by decide +kernel
theorem dX5_beginSuit_73 : decode cX5_beginSuit 73 = .ok (.iconst 1, 1) := by decide +kernel
theorem dX5_beginSuit_74 : decode cX5_beginSuit 74 = .ok (.iadd, 1) := by decide +kernel
theorem dX5_beginSuit_75 : decode cX5_beginSuit 75 = .ok (.putfield 34, 3) := by decide +kernel
theorem dX5_beginSuit_78 : decode cX5_beginSuit 78 = .ok (.aload_n 0, 1) := by decide +kernel
theorem dX5_beginSuit_79 : decode cX5_beginSuit 79 = .ok (.getfield 34, 3) := by decide +kernel
theorem dX5_beginSuit_82 : decode cX5_beginSuit 82 = .ok (.iconst 1, 1) := by decide +kernel
theorem dX5_beginSuit_83 : decode cX5_beginSuit 83 = .ok (.isub, 1) := by decide +kernel
theorem dX5_beginSuit_84 : decode cX5_beginSuit 84 = .ok (.ireturn, 1) := by decide +kernel
theorem dX5_cutSleeve_0 : decode cX5_cutSleeve 0 = .ok (.aload_n 0, 1) := by decide +kernel
theorem dX5_cutSleeve_1 : decode cX5_cutSleeve 1 = .ok (.iload_n 1, 1) := by decide +kernel
theorem dX5_cutSleeve_2 : decode cX5_cutSleeve 2 = .ok (.invokevirtual 142, 3) := by decide +kernel
theorem dX5_cutSleeve_5 : decode cX5_cutSleeve 5 = .ok (.astore_n 3, 1) := by decide +kernel
theorem dX5_cutSleeve_6 : decode cX5_cutSleeve 6 = .ok (.aload_n 3, 1) := by decide +kernel
theorem dX5_cutSleeve_7 : decode cX5_cutSleeve 7 = .ok (.ifnonnull 5, 3) := by decide +kernel
theorem dX5_cutSleeve_10 : decode cX5_cutSleeve 10 = .ok (.iconst (-1), 1) := by decide +kernel
theorem dX5_cutSleeve_11 : decode cX5_cutSleeve 11 = .ok (.ireturn, 1) := by decide +kernel
theorem dX5_cutSleeve_12 : decode cX5_cutSleeve 12 = .ok (.aload_n 3, 1) := by decide +kernel
theorem dX5_cutSleeve_13 : decode cX5_cutSleeve 13 = .ok (.iload_n 2, 1) := by decide +kernel
theorem dX5_cutSleeve_14 : decode cX5_cutSleeve 14 = .ok (.invokevirtual 146, 3) := by decide +kernel
theorem dX5_cutSleeve_17 : decode cX5_cutSleeve 17 = .ok (.ifCond .ne 6, 3) := by decide +kernel
theorem dX5_cutSleeve_20 : decode cX5_cutSleeve 20 = .ok (.bipush (-2), 2) := by decide +kernel
theorem dX5_cutSleeve_22 : decode cX5_cutSleeve 22 = .ok (.ireturn, 1) := by decide +kernel
theorem dX5_cutSleeve_23 : decode cX5_cutSleeve 23 = .ok (.aload_n 3, 1) := by decide +kernel
theorem dX5_cutSleeve_24 : decode cX5_cutSleeve 24 = .ok (.iload_n 2, 1) := by decide +kernel
theorem dX5_cutSleeve_25 : decode cX5_cutSleeve 25 = .ok (.invokevirtual 149, 3) := by decide +kernel
theorem dX5_cutSleeve_28 : decode cX5_cutSleeve 28 = .ok (.ifCond .ne 6, 3) := by decide +kernel
theorem dX5_cutSleeve_31 : decode cX5_cutSleeve 31 = .ok (.bipush (-4), 2) := by decide +kernel
theorem dX5_cutSleeve_33 : decode cX5_cutSleeve 33 = .ok (.ireturn, 1) := by decide +kernel
theorem dX5_cutSleeve_34 : decode cX5_cutSleeve 34 = .ok (.aload_n 0, 1) := by decide +kernel
theorem dX5_cutSleeve_35 : decode cX5_cutSleeve 35 = .ok (.aload_n 3, 1) := by decide +kernel
theorem dX5_cutSleeve_36 : decode cX5_cutSleeve 36 = .ok (.invokevirtual 152, 3) := by decide +kernel
theorem dX5_cutSleeve_39 : decode cX5_cutSleeve 39 = .ok (.getfield 133, 3) := by decide +kernel
theorem dX5_cutSleeve_42 : decode cX5_cutSleeve 42 = .ok (.iload_n 2, 1) := by decide +kernel
theorem dX5_cutSleeve_43 : decode cX5_cutSleeve 43 = .ok (.iaload, 1) := by decide +kernel
theorem dX5_cutSleeve_44 : decode cX5_cutSleeve 44 = .ok (.istore 4, 2) := by decide +kernel
theorem dX5_cutSleeve_46 : decode cX5_cutSleeve 46 = .ok (.aload_n 0, 1) := by decide +kernel
theorem dX5_cutSleeve_47 : decode cX5_cutSleeve 47 = .ok (.getfield 9, 3) := by decide +kernel
theorem dX5_cutSleeve_50 : decode cX5_cutSleeve 50 = .ok (.aload_n 3, 1) := by decide +kernel
theorem dX5_cutSleeve_51 : decode cX5_cutSleeve 51 = .ok (.getfield 156, 3) := by decide +kernel
theorem dX5_cutSleeve_54 : decode cX5_cutSleeve 54 = .ok (.iaload, 1) := by decide +kernel
theorem dX5_cutSleeve_55 : decode cX5_cutSleeve 55 = .ok (.iload 4, 2) := by decide +kernel
theorem dX5_cutSleeve_57 : decode cX5_cutSleeve 57 = .ok (.iconst 2, 1) := by decide +kernel
theorem dX5_cutSleeve_58 : decode cX5_cutSleeve 58 = .ok (.iadd, 1) := by decide +kernel
theorem dX5_cutSleeve_59 : decode cX5_cutSleeve 59 = .ok (.if_icmp .ge 6, 3) := by decide +kernel
theorem dX5_cutSleeve_62 : decode cX5_cutSleeve 62 = .ok (.bipush (-5), 2) := by decide +kernel
theorem dX5_cutSleeve_64 : decode cX5_cutSleeve 64 = .ok (.ireturn, 1) := by decide +kernel
theorem dX5_cutSleeve_65 : decode cX5_cutSleeve 65 = .ok (.aload_n 3, 1) := by decide +kernel
theorem dX5_cutSleeve_66 : decode cX5_cutSleeve 66 = .ok (.getfield 159, 3) := by decide +kernel
theorem dX5_cutSleeve_69 : decode cX5_cutSleeve 69 = .ok (.iload_n 2, 1) := by decide +kernel
theorem dX5_cutSleeve_70 : decode cX5_cutSleeve 70 = .ok (.bipush 99, 2) := by decide +kernel
theorem dX5_cutSleeve_72 : decode cX5_cutSleeve 72 = .ok (.castore, 1) := by decide +kernel
theorem dX5_cutSleeve_73 : decode cX5_cutSleeve 73 = .ok (.aload_n 3, 1) := by decide +kernel
theorem dX5_cutSleeve_74 : decode cX5_cutSleeve 74 = .ok (.getfield 163, 3) := by decide +kernel
theorem dX5_cutSleeve_77 : decode cX5_cutSleeve 77 = .ok (.iload_n 2, 1) := by decide +kernel
theorem dX5_cutSleeve_78 : decode cX5_cutSleeve 78 = .ok (.iload 4, 2) := by decide +kernel
theorem dX5_cutSleeve_80 : decode cX5_cutSleeve 80 = .ok (.iastore, 1) := by decide +kernel
theorem dX5_cutSleeve_81 : decode cX5_cutSleeve 81 = .ok (.aload_n 0, 1) := by decide +kernel
theorem dX5_cutSleeve_82 : decode cX5_cutSleeve 82 = .ok (.getfield 9, 3) := by decide +kernel
theorem dX5_cutSleeve_85 : decode cX5_cutSleeve 85 = .ok (.aload_n 3, 1) := by decide +kernel
theorem dX5_cutSleeve_86 : decode cX5_cutSleeve 86 = .ok (.getfield 156, 3) := by decide +kernel
theorem dX5_cutSleeve_89 : decode cX5_cutSleeve 89 = .ok (.dup2, 1) := by decide +kernel
theorem dX5_cutSleeve_90 : decode cX5_cutSleeve 90 = .ok (.iaload, 1) := by decide +kernel
theorem dX5_cutSleeve_91 : decode cX5_cutSleeve 91 = .ok (.iload 4, 2) := by decide +kernel
theorem dX5_cutSleeve_93 : decode cX5_cutSleeve 93 = .ok (.iconst 2, 1) := by decide +kernel
theorem dX5_cutSleeve_94 : decode cX5_cutSleeve 94 = .ok (.iadd, 1) := by decide +kernel
theorem dX5_cutSleeve_95 : decode cX5_cutSleeve 95 = .ok (.isub, 1) := by decide +kernel
theorem dX5_cutSleeve_96 : decode cX5_cutSleeve 96 = .ok (.iastore, 1) := by decide +kernel
theorem dX5_cutSleeve_97 : decode cX5_cutSleeve 97 = .ok (.aload_n 0, 1) := by decide +kernel
theorem dX5_cutSleeve_98 : decode cX5_cutSleeve 98 = .ok (.getfield 9, 3) := by decide +kernel
theorem dX5_cutSleeve_101 : decode cX5_cutSleeve 101 = .ok (.aload_n 3, 1) := by decide +kernel
theorem dX5_cutSleeve_102 : decode cX5_cutSleeve 102 = .ok (.getfield 156, 3) := by decide +kernel
theorem dX5_cutSleeve_105 : decode cX5_cutSleeve 105 = .ok (.iaload, 1) := by decide +kernel
theorem dX5_cutSleeve_106 : decode cX5_cutSleeve 106 = .ok (.ireturn, 1) := by decide +kernel
theorem dX5_sewSleeve_0 : decode cX5_sewSleeve 0 = .ok (.aload_n 0, 1) := by decide +kernel
theorem dX5_sewSleeve_1 : decode cX5_sewSleeve 1 = .ok (.iload_n 1, 1) := by decide +kernel
theorem dX5_sewSleeve_2 : decode cX5_sewSleeve 2 = .ok (.invokevirtual 142, 3) := by decide +kernel
theorem dX5_sewSleeve_5 : decode cX5_sewSleeve 5 = .ok (.astore_n 3, 1) := by decide +kernel
theorem dX5_sewSleeve_6 : decode cX5_sewSleeve 6 = .ok (.aload_n 3, 1) := by decide +kernel
theorem dX5_sewSleeve_7 : decode cX5_sewSleeve 7 = .ok (.ifnonnull 5, 3) := by decide +kernel
theorem dX5_sewSleeve_10 : decode cX5_sewSleeve 10 = .ok (.iconst (-1), 1) := by decide +kernel
theorem dX5_sewSleeve_11 : decode cX5_sewSleeve 11 = .ok (.ireturn, 1) := by decide +kernel
theorem dX5_sewSleeve_12 : decode cX5_sewSleeve 12 = .ok (.aload_n 3, 1) := by decide +kernel
theorem dX5_sewSleeve_13 : decode cX5_sewSleeve 13 = .ok (.iload_n 2, 1) := by decide +kernel
theorem dX5_sewSleeve_14 : decode cX5_sewSleeve 14 = .ok (.invokevirtual 146, 3) := by decide +kernel
theorem dX5_sewSleeve_17 : decode cX5_sewSleeve 17 = .ok (.ifCond .ne 6, 3) := by decide +kernel
theorem dX5_sewSleeve_20 : decode cX5_sewSleeve 20 = .ok (.bipush (-2), 2) := by decide +kernel
theorem dX5_sewSleeve_22 : decode cX5_sewSleeve 22 = .ok (.ireturn, 1) := by decide +kernel
theorem dX5_sewSleeve_23 : decode cX5_sewSleeve 23 = .ok (.aload_n 3, 1) := by decide +kernel
theorem dX5_sewSleeve_24 : decode cX5_sewSleeve 24 = .ok (.getfield 159, 3) := by decide +kernel
theorem dX5_sewSleeve_27 : decode cX5_sewSleeve 27 = .ok (.iload_n 2, 1) := by decide +kernel
theorem dX5_sewSleeve_28 : decode cX5_sewSleeve 28 = .ok (.caload, 1) := by decide +kernel
theorem dX5_sewSleeve_29 : decode cX5_sewSleeve 29 = .ok (.bipush 99, 2) := by decide +kernel
theorem dX5_sewSleeve_31 : decode cX5_sewSleeve 31 = .ok (.if_icmp .eq 6, 3) := by decide +kernel
theorem dX5_sewSleeve_34 : decode cX5_sewSleeve 34 = .ok (.bipush (-4), 2) := by decide +kernel
theorem dX5_sewSleeve_36 : decode cX5_sewSleeve 36 = .ok (.ireturn, 1) := by decide +kernel
theorem dX5_sewSleeve_37 : decode cX5_sewSleeve 37 = .ok (.aload_n 3, 1) := by decide +kernel
theorem dX5_sewSleeve_38 : decode cX5_sewSleeve 38 = .ok (.iload_n 2, 1) := by decide +kernel
theorem dX5_sewSleeve_39 : decode cX5_sewSleeve 39 = .ok (.aload_n 3, 1) := by decide +kernel
theorem dX5_sewSleeve_40 : decode cX5_sewSleeve 40 = .ok (.invokevirtual 166, 3) := by decide +kernel
theorem dX5_sewSleeve_43 : decode cX5_sewSleeve 43 = .ok (.invokevirtual 169, 3) := by decide +kernel
theorem dX5_sewSleeve_46 : decode cX5_sewSleeve 46 = .ok (.ifCond .eq 6, 3) := by decide +kernel
theorem dX5_sewSleeve_49 : decode cX5_sewSleeve 49 = .ok (.bipush (-5), 2) := by decide +kernel
theorem dX5_sewSleeve_51 : decode cX5_sewSleeve 51 = .ok (.ireturn, 1) := by decide +kernel
theorem dX5_sewSleeve_52 : decode cX5_sewSleeve 52 = .ok (.aload_n 3, 1) := by decide +kernel
theorem dX5_sewSleeve_53 : decode cX5_sewSleeve 53 = .ok (.getfield 159, 3) := by decide +kernel
theorem dX5_sewSleeve_56 : decode cX5_sewSleeve 56 = .ok (.iload_n 2, 1) := by decide +kernel
theorem dX5_sewSleeve_57 : decode cX5_sewSleeve 57 = .ok (.bipush 115, 2) := by decide +kernel
theorem dX5_sewSleeve_59 : decode cX5_sewSleeve 59 = .ok (.castore, 1) := by decide +kernel
theorem dX5_sewSleeve_60 : decode cX5_sewSleeve 60 = .ok (.aload_n 3, 1) := by decide +kernel
theorem dX5_sewSleeve_61 : decode cX5_sewSleeve 61 = .ok (.invokevirtual 173, 3) := by decide +kernel
theorem dX5_sewSleeve_64 : decode cX5_sewSleeve 64 = .ok (.ireturn, 1) := by decide +kernel
theorem dX5_unpickSleeve_0 : decode cX5_unpickSleeve 0 = .ok (.aload_n 0, 1) := by decide +kernel
theorem dX5_unpickSleeve_1 : decode cX5_unpickSleeve 1 = .ok (.iload_n 1, 1) := by decide +kernel
theorem dX5_unpickSleeve_2 : decode cX5_unpickSleeve 2 = .ok (.invokevirtual 142, 3) := by decide +kernel
theorem dX5_unpickSleeve_5 : decode cX5_unpickSleeve 5 = .ok (.astore_n 3, 1) := by decide +kernel
theorem dX5_unpickSleeve_6 : decode cX5_unpickSleeve 6 = .ok (.aload_n 3, 1) := by decide +kernel
theorem dX5_unpickSleeve_7 : decode cX5_unpickSleeve 7 = .ok (.ifnonnull 5, 3) := by decide +kernel
theorem dX5_unpickSleeve_10 : decode cX5_unpickSleeve 10 = .ok (.iconst (-1), 1) := by decide +kernel
theorem dX5_unpickSleeve_11 : decode cX5_unpickSleeve 11 = .ok (.ireturn, 1) := by decide +kernel
theorem dX5_unpickSleeve_12 : decode cX5_unpickSleeve 12 = .ok (.aload_n 3, 1) := by decide +kernel
theorem dX5_unpickSleeve_13 : decode cX5_unpickSleeve 13 = .ok (.iload_n 2, 1) := by decide +kernel
theorem dX5_unpickSleeve_14 : decode cX5_unpickSleeve 14 = .ok (.invokevirtual 146, 3) := by decide +kernel
theorem dX5_unpickSleeve_17 : decode cX5_unpickSleeve 17 = .ok (.ifCond .ne 6, 3) := by decide +kernel
theorem dX5_unpickSleeve_20 : decode cX5_unpickSleeve 20 = .ok (.bipush (-2), 2) := by decide +kernel
theorem dX5_unpickSleeve_22 : decode cX5_unpickSleeve 22 = .ok (.ireturn, 1) := by decide +kernel
theorem dX5_unpickSleeve_23 : decode cX5_unpickSleeve 23 = .ok (.aload_n 3, 1) := by decide +kernel
theorem dX5_unpickSleeve_24 : decode cX5_unpickSleeve 24 = .ok (.iload_n 2, 1) := by decide +kernel
theorem dX5_unpickSleeve_25 : decode cX5_unpickSleeve 25 = .ok (.invokevirtual 149, 3) := by decide +kernel
theorem dX5_unpickSleeve_28 : decode cX5_unpickSleeve 28 = .ok (.ifCond .eq 6, 3) := by decide +kernel
theorem dX5_unpickSleeve_31 : decode cX5_unpickSleeve 31 = .ok (.bipush (-4), 2) := by decide +kernel
theorem dX5_unpickSleeve_33 : decode cX5_unpickSleeve 33 = .ok (.ireturn, 1) := by decide +kernel
theorem dX5_unpickSleeve_34 : decode cX5_unpickSleeve 34 = .ok (.aload_n 3, 1) := by decide +kernel
theorem dX5_unpickSleeve_35 : decode cX5_unpickSleeve 35 = .ok (.iload_n 2, 1) := by decide +kernel
theorem dX5_unpickSleeve_36 : decode cX5_unpickSleeve 36 = .ok (.invokevirtual 176, 3) := by decide +kernel
theorem dX5_unpickSleeve_39 : decode cX5_unpickSleeve 39 = .ok (.ifCond .eq 6, 3) := by decide +kernel
theorem dX5_unpickSleeve_42 : decode cX5_unpickSleeve 42 = .ok (.bipush (-5), 2) := by decide +kernel
theorem dX5_unpickSleeve_44 : decode cX5_unpickSleeve 44 = .ok (.ireturn, 1) := by decide +kernel
theorem dX5_unpickSleeve_45 : decode cX5_unpickSleeve 45 = .ok (.aload_n 3, 1) := by decide +kernel
theorem dX5_unpickSleeve_46 : decode cX5_unpickSleeve 46 = .ok (.getfield 163, 3) := by decide +kernel
theorem dX5_unpickSleeve_49 : decode cX5_unpickSleeve 49 = .ok (.iload_n 2, 1) := by decide +kernel
theorem dX5_unpickSleeve_50 : decode cX5_unpickSleeve 50 = .ok (.iaload, 1) := by decide +kernel
theorem dX5_unpickSleeve_51 : decode cX5_unpickSleeve 51 = .ok (.iconst 2, 1) := by decide +kernel
theorem dX5_unpickSleeve_52 : decode cX5_unpickSleeve 52 = .ok (.iadd, 1) := by decide +kernel
theorem dX5_unpickSleeve_53 : decode cX5_unpickSleeve 53 = .ok (.istore 4, 2) := by decide +kernel
theorem dX5_unpickSleeve_55 : decode cX5_unpickSleeve 55 = .ok (.aload_n 3, 1) := by decide +kernel
theorem dX5_unpickSleeve_56 : decode cX5_unpickSleeve 56 = .ok (.getfield 159, 3) := by decide +kernel
theorem dX5_unpickSleeve_59 : decode cX5_unpickSleeve 59 = .ok (.iload_n 2, 1) := by decide +kernel
theorem dX5_unpickSleeve_60 : decode cX5_unpickSleeve 60 = .ok (.bipush 112, 2) := by decide +kernel
theorem dX5_unpickSleeve_62 : decode cX5_unpickSleeve 62 = .ok (.castore, 1) := by decide +kernel
theorem dX5_unpickSleeve_63 : decode cX5_unpickSleeve 63 = .ok (.aload_n 0, 1) := by decide +kernel
theorem dX5_unpickSleeve_64 : decode cX5_unpickSleeve 64 = .ok (.dup, 1) := by decide +kernel
theorem dX5_unpickSleeve_65 : decode cX5_unpickSleeve 65 = .ok (.getfield 40, 3) := by decide +kernel
theorem dX5_unpickSleeve_68 : decode cX5_unpickSleeve 68 = .ok (.iload 4, 2) := by decide +kernel
theorem dX5_unpickSleeve_70 : decode cX5_unpickSleeve 70 = .ok (.iadd, 1) := by decide +kernel
theorem dX5_unpickSleeve_71 : decode cX5_unpickSleeve 71 = .ok (.putfield 40, 3) := by decide +kernel
theorem dX5_unpickSleeve_74 : decode cX5_unpickSleeve 74 = .ok (.iload 4, 2) := by decide +kernel
theorem dX5_unpickSleeve_76 : decode cX5_unpickSleeve 76 = .ok (.ireturn, 1) := by decide +kernel
theorem dX5_addDemand_0 : decode cX5_addDemand 0 = .ok (.aload_n 0, 1) := by decide +kernel
theorem dX5_addDemand_1 : decode cX5_addDemand 1 = .ok (.iload_n 1, 1) := by decide +kernel
theorem dX5_addDemand_2 : decode cX5_addDemand 2 = .ok (.invokevirtual 142, 3) := by decide +kernel
theorem dX5_addDemand_5 : decode cX5_addDemand 5 = .ok (.astore 4, 2) := by decide +kernel
theorem dX5_addDemand_7 : decode cX5_addDemand 7 = .ok (.aload 4, 2) := by decide +kernel
theorem dX5_addDemand_9 : decode cX5_addDemand 9 = .ok (.ifnonnull 5, 3) := by decide +kernel
theorem dX5_addDemand_12 : decode cX5_addDemand 12 = .ok (.iconst (-1), 1) := by decide +kernel
theorem dX5_addDemand_13 : decode cX5_addDemand 13 = .ok (.ireturn, 1) := by decide +kernel
theorem dX5_addDemand_14 : decode cX5_addDemand 14 = .ok (.aload 4, 2) := by decide +kernel
theorem dX5_addDemand_16 : decode cX5_addDemand 16 = .ok (.iload_n 2, 1) := by decide +kernel
theorem dX5_addDemand_17 : decode cX5_addDemand 17 = .ok (.invokevirtual 146, 3) := by decide +kernel
theorem dX5_addDemand_20 : decode cX5_addDemand 20 = .ok (.ifCond .eq 12, 3) := by decide +kernel
theorem dX5_addDemand_23 : decode cX5_addDemand 23 = .ok (.aload 4, 2) := by decide +kernel
theorem dX5_addDemand_25 : decode cX5_addDemand 25 = .ok (.iload_n 3, 1) := by decide +kernel
theorem dX5_addDemand_26 : decode cX5_addDemand 26 = .ok (.invokevirtual 146, 3) := by decide +kernel
theorem dX5_addDemand_29 : decode cX5_addDemand 29 = .ok (.ifCond .ne 6, 3) := by decide +kernel
theorem dX5_addDemand_32 : decode cX5_addDemand 32 = .ok (.bipush (-2), 2) := by decide +kernel
theorem dX5_addDemand_34 : decode cX5_addDemand 34 = .ok (.ireturn, 1) := by decide +kernel
theorem dX5_addDemand_35 : decode cX5_addDemand 35 = .ok (.iload_n 2, 1) := by decide +kernel
theorem dX5_addDemand_36 : decode cX5_addDemand 36 = .ok (.iload_n 3, 1) := by decide +kernel
theorem dX5_addDemand_37 : decode cX5_addDemand 37 = .ok (.if_icmp .ne 6, 3) := by decide +kernel
theorem dX5_addDemand_40 : decode cX5_addDemand 40 = .ok (.bipush (-3), 2) := by decide +kernel
theorem dX5_addDemand_42 : decode cX5_addDemand 42 = .ok (.ireturn, 1) := by decide +kernel
theorem dX5_addDemand_43 : decode cX5_addDemand 43 = .ok (.aload 4, 2) := by decide +kernel
theorem dX5_addDemand_45 : decode cX5_addDemand 45 = .ok (.iload_n 2, 1) := by decide +kernel
theorem dX5_addDemand_46 : decode cX5_addDemand 46 = .ok (.iload_n 3, 1) := by decide +kernel
theorem dX5_addDemand_47 : decode cX5_addDemand 47 = .ok (.invokevirtual 179, 3) := by decide +kernel
theorem dX5_addDemand_50 : decode cX5_addDemand 50 = .ok (.ifCond .ne 31, 3) := by decide +kernel
theorem dX5_addDemand_53 : decode cX5_addDemand 53 = .ok (.aload 4, 2) := by decide +kernel
theorem dX5_addDemand_55 : decode cX5_addDemand 55 = .ok (.getfield 182, 3) := by decide +kernel
theorem dX5_addDemand_58 : decode cX5_addDemand 58 = .ok (.bipush 12, 2) := by decide +kernel
theorem dX5_addDemand_60 : decode cX5_addDemand 60 = .ok (.if_icmp .eq 21, 3) := by decide +kernel
theorem dX5_addDemand_63 : decode cX5_addDemand 63 = .ok (.aload 4, 2) := by decide +kernel
theorem dX5_addDemand_65 : decode cX5_addDemand 65 = .ok (.iload_n 3, 1) := by decide +kernel
theorem dX5_addDemand_66 : decode cX5_addDemand 66 = .ok (.invokevirtual 185, 3) := by decide +kernel
theorem dX5_addDemand_69 : decode cX5_addDemand 69 = .ok (.ifCond .eq 15, 3) := by decide +kernel
theorem dX5_addDemand_72 : decode cX5_addDemand 72 = .ok (.aload 4, 2) := by decide +kernel
theorem dX5_addDemand_74 : decode cX5_addDemand 74 = .ok (.iload_n 2, 1) := by decide +kernel
theorem dX5_addDemand_75 : decode cX5_addDemand 75 = .ok (.invokevirtual 185, 3) := by decide +kernel
theorem dX5_addDemand_78 : decode cX5_addDemand 78 = .ok (.ifCond .ne 6, 3) := by decide +kernel
theorem dX5_addDemand_81 : decode cX5_addDemand 81 = .ok (.bipush (-4), 2) := by decide +kernel
theorem dX5_addDemand_83 : decode cX5_addDemand 83 = .ok (.ireturn, 1) := by decide +kernel
theorem dX5_addDemand_84 : decode cX5_addDemand 84 = .ok (.aload 4, 2) := by decide +kernel
theorem dX5_addDemand_86 : decode cX5_addDemand 86 = .ok (.iload_n 3, 1) := by decide +kernel
theorem dX5_addDemand_87 : decode cX5_addDemand 87 = .ok (.iload_n 2, 1) := by decide +kernel
theorem dX5_addDemand_88 : decode cX5_addDemand 88 = .ok (.invokevirtual 188, 3) := by decide +kernel
theorem dX5_addDemand_91 : decode cX5_addDemand 91 = .ok (.ifCond .eq 6, 3) := by decide +kernel
theorem dX5_addDemand_94 : decode cX5_addDemand 94 = .ok (.bipush (-5), 2) := by decide +kernel
theorem dX5_addDemand_96 : decode cX5_addDemand 96 = .ok (.ireturn, 1) := by decide +kernel
theorem dX5_addDemand_97 : decode cX5_addDemand 97 = .ok (.aload 4, 2) := by decide +kernel
theorem dX5_addDemand_99 : decode cX5_addDemand 99 = .ok (.iload_n 2, 1) := by decide +kernel
theorem dX5_addDemand_100 : decode cX5_addDemand 100 = .ok (.iload_n 3, 1) := by decide +kernel
theorem dX5_addDemand_101 : decode cX5_addDemand 101 = .ok (.invokevirtual 191, 3) := by decide +kernel
theorem dX5_addDemand_104 : decode cX5_addDemand 104 = .ok (.ireturn, 1) := by decide +kernel
theorem dX5_handOver_0 : decode cX5_handOver 0 = .ok (.aload_n 0, 1) := by decide +kernel
theorem dX5_handOver_1 : decode cX5_handOver 1 = .ok (.iload_n 1, 1) := by decide +kernel
theorem dX5_handOver_2 : decode cX5_handOver 2 = .ok (.invokevirtual 142, 3) := by decide +kernel
theorem dX5_handOver_5 : decode cX5_handOver 5 = .ok (.astore_n 2, 1) := by decide +kernel
theorem dX5_handOver_6 : decode cX5_handOver 6 = .ok (.aload_n 2, 1) := by decide +kernel
theorem dX5_handOver_7 : decode cX5_handOver 7 = .ok (.ifnonnull 5, 3) := by decide +kernel
theorem dX5_handOver_10 : decode cX5_handOver 10 = .ok (.iconst (-1), 1) := by decide +kernel
theorem dX5_handOver_11 : decode cX5_handOver 11 = .ok (.ireturn, 1) := by decide +kernel
theorem dX5_handOver_12 : decode cX5_handOver 12 = .ok (.aload_n 2, 1) := by decide +kernel
theorem dX5_handOver_13 : decode cX5_handOver 13 = .ok (.aload_n 0, 1) := by decide +kernel
theorem dX5_handOver_14 : decode cX5_handOver 14 = .ok (.aload_n 2, 1) := by decide +kernel
theorem dX5_handOver_15 : decode cX5_handOver 15 = .ok (.invokevirtual 152, 3) := by decide +kernel
theorem dX5_handOver_18 : decode cX5_handOver 18 = .ok (.invokevirtual 194, 3) := by decide +kernel
theorem dX5_handOver_21 : decode cX5_handOver 21 = .ok (.ifCond .ne 6, 3) := by decide +kernel
theorem dX5_handOver_24 : decode cX5_handOver 24 = .ok (.bipush (-4), 2) := by decide +kernel
theorem dX5_handOver_26 : decode cX5_handOver 26 = .ok (.ireturn, 1) := by decide +kernel
theorem dX5_handOver_27 : decode cX5_handOver 27 = .ok (.aload_n 2, 1) := by decide +kernel
theorem dX5_handOver_28 : decode cX5_handOver 28 = .ok (.aload_n 0, 1) := by decide +kernel
theorem dX5_handOver_29 : decode cX5_handOver 29 = .ok (.aload_n 2, 1) := by decide +kernel
theorem dX5_handOver_30 : decode cX5_handOver 30 = .ok (.invokevirtual 152, 3) := by decide +kernel
theorem dX5_handOver_33 : decode cX5_handOver 33 = .ok (.invokevirtual 198, 3) := by decide +kernel
theorem dX5_handOver_36 : decode cX5_handOver 36 = .ok (.istore_n 3, 1) := by decide +kernel
theorem dX5_handOver_37 : decode cX5_handOver 37 = .ok (.aload_n 0, 1) := by decide +kernel
theorem dX5_handOver_38 : decode cX5_handOver 38 = .ok (.dup, 1) := by decide +kernel
theorem dX5_handOver_39 : decode cX5_handOver 39 = .ok (.getfield 43, 3) := by decide +kernel
theorem dX5_handOver_42 : decode cX5_handOver 42 = .ok (.aload_n 2, 1) := by decide +kernel
theorem dX5_handOver_43 : decode cX5_handOver 43 = .ok (.invokevirtual 81, 3) := by decide +kernel
theorem dX5_handOver_46 : decode cX5_handOver 46 = .ok (.iadd, 1) := by decide +kernel
theorem dX5_handOver_47 : decode cX5_handOver 47 = .ok (.putfield 43, 3) := by decide +kernel
theorem dX5_handOver_50 : decode cX5_handOver 50 = .ok (.aload_n 0, 1) := by decide +kernel
theorem dX5_handOver_51 : decode cX5_handOver 51 = .ok (.dup, 1) := by decide +kernel
theorem dX5_handOver_52 : decode cX5_handOver 52 = .ok (.getfield 46, 3) := by decide +kernel
theorem dX5_handOver_55 : decode cX5_handOver 55 = .ok (.iload_n 3, 1) := by decide +kernel
theorem dX5_handOver_56 : decode cX5_handOver 56 = .ok (.iadd, 1) := by decide +kernel
theorem dX5_handOver_57 : decode cX5_handOver 57 = .ok (.putfield 46, 3) := by decide +kernel
theorem dX5_handOver_60 : decode cX5_handOver 60 = .ok (.aload_n 0, 1) := by decide +kernel
theorem dX5_handOver_61 : decode cX5_handOver 61 = .ok (.dup, 1) := by decide +kernel
theorem dX5_handOver_62 : decode cX5_handOver 62 = .ok (.getfield 49, 3) := by decide +kernel
theorem dX5_handOver_65 : decode cX5_handOver 65 = .ok (.iconst 1, 1) := by decide +kernel
theorem dX5_handOver_66 : decode cX5_handOver 66 = .ok (.iadd, 1) := by decide +kernel
theorem dX5_handOver_67 : decode cX5_handOver 67 = .ok (.putfield 49, 3) := by decide +kernel
theorem dX5_handOver_70 : decode cX5_handOver 70 = .ok (.aload_n 0, 1) := by decide +kernel
theorem dX5_handOver_71 : decode cX5_handOver 71 = .ok (.iload_n 1, 1) := by decide +kernel
theorem dX5_handOver_72 : decode cX5_handOver 72 = .ok (.invokevirtual 202, 3) := by decide +kernel
theorem dX5_handOver_75 : decode cX5_handOver 75 = .ok (.iload_n 3, 1) := by decide +kernel
theorem dX5_handOver_76 : decode cX5_handOver 76 = .ok (.ireturn, 1) := by decide +kernel
theorem dX5_throwAway_0 : decode cX5_throwAway 0 = .ok (.aload_n 0, 1) := by decide +kernel
theorem dX5_throwAway_1 : decode cX5_throwAway 1 = .ok (.iload_n 1, 1) := by decide +kernel
theorem dX5_throwAway_2 : decode cX5_throwAway 2 = .ok (.invokevirtual 142, 3) := by decide +kernel
theorem dX5_throwAway_5 : decode cX5_throwAway 5 = .ok (.astore_n 2, 1) := by decide +kernel
theorem dX5_throwAway_6 : decode cX5_throwAway 6 = .ok (.aload_n 2, 1) := by decide +kernel
theorem dX5_throwAway_7 : decode cX5_throwAway 7 = .ok (.ifnonnull 5, 3) := by decide +kernel
theorem dX5_throwAway_10 : decode cX5_throwAway 10 = .ok (.iconst (-1), 1) := by decide +kernel
theorem dX5_throwAway_11 : decode cX5_throwAway 11 = .ok (.ireturn, 1) := by decide +kernel
theorem dX5_throwAway_12 : decode cX5_throwAway 12 = .ok (.aload_n 2, 1) := by decide +kernel
theorem dX5_throwAway_13 : decode cX5_throwAway 13 = .ok (.invokevirtual 81, 3) := by decide +kernel
theorem dX5_throwAway_16 : decode cX5_throwAway 16 = .ok (.istore_n 3, 1) := by decide +kernel
theorem dX5_throwAway_17 : decode cX5_throwAway 17 = .ok (.aload_n 0, 1) := by decide +kernel
theorem dX5_throwAway_18 : decode cX5_throwAway 18 = .ok (.dup, 1) := by decide +kernel
theorem dX5_throwAway_19 : decode cX5_throwAway 19 = .ok (.getfield 40, 3) := by decide +kernel
theorem dX5_throwAway_22 : decode cX5_throwAway 22 = .ok (.iload_n 3, 1) := by decide +kernel
theorem dX5_throwAway_23 : decode cX5_throwAway 23 = .ok (.iadd, 1) := by decide +kernel
theorem dX5_throwAway_24 : decode cX5_throwAway 24 = .ok (.putfield 40, 3) := by decide +kernel
theorem dX5_throwAway_27 : decode cX5_throwAway 27 = .ok (.aload_n 0, 1) := by decide +kernel
theorem dX5_throwAway_28 : decode cX5_throwAway 28 = .ok (.iload_n 1, 1) := by decide +kernel
theorem dX5_throwAway_29 : decode cX5_throwAway 29 = .ok (.invokevirtual 202, 3) := by decide +kernel
theorem dX5_throwAway_32 : decode cX5_throwAway 32 = .ok (.iload_n 3, 1) := by decide +kernel
theorem dX5_throwAway_33 : decode cX5_throwAway 33 = .ok (.ireturn, 1) := by decide +kernel
theorem dX5_removeSuit_0 : decode cX5_removeSuit 0 = .ok (.iconst 0, 1) := by decide +kernel
theorem dX5_removeSuit_1 : decode cX5_removeSuit 1 = .ok (.istore_n 2, 1) := by decide +kernel
theorem dX5_removeSuit_2 : decode cX5_removeSuit 2 = .ok (.iload_n 2, 1) := by decide +kernel
theorem dX5_removeSuit_3 : decode cX5_removeSuit 3 = .ok (.iconst 1, 1) := by decide +kernel
theorem dX5_removeSuit_4 : decode cX5_removeSuit 4 = .ok (.iadd, 1) := by decide +kernel
theorem dX5_removeSuit_5 : decode cX5_removeSuit 5 = .ok (.aload_n 0, 1) := by decide +kernel
theorem dX5_removeSuit_6 : decode cX5_removeSuit 6 = .ok (.getfield 31, 3) := by decide +kernel
theorem dX5_removeSuit_9 : decode cX5_removeSuit 9 = .ok (.if_icmp .ge 52, 3) := by decide +kernel
theorem dX5_removeSuit_12 : decode cX5_removeSuit 12 = .ok (.aload_n 0, 1) := by decide +kernel
theorem dX5_removeSuit_13 : decode cX5_removeSuit 13 = .ok (.getfield 27, 3) := by decide +kernel
theorem dX5_removeSuit_16 : decode cX5_removeSuit 16 = .ok (.iload_n 2, 1) := by decide +kernel
theorem dX5_removeSuit_17 : decode cX5_removeSuit 17 = .ok (.aaload, 1) := by decide +kernel
theorem dX5_removeSuit_18 : decode cX5_removeSuit 18 = .ok (.getfield 67, 3) := by decide +kernel
theorem dX5_removeSuit_21 : decode cX5_removeSuit 21 = .ok (.iload_n 1, 1) := by decide +kernel
theorem dX5_removeSuit_22 : decode cX5_removeSuit 22 = .ok (.if_icmp .ne 33, 3) := by decide +kernel
theorem dX5_removeSuit_25 : decode cX5_removeSuit 25 = .ok (.aload_n 0, 1) := by decide +kernel
theorem dX5_removeSuit_26 : decode cX5_removeSuit 26 = .ok (.getfield 27, 3) := by decide +kernel
theorem dX5_removeSuit_29 : decode cX5_removeSuit 29 = .ok (.iload_n 2, 1) := by decide +kernel
theorem dX5_removeSuit_30 : decode cX5_removeSuit 30 = .ok (.aaload, 1) := by decide +kernel
theorem dX5_removeSuit_31 : decode cX5_removeSuit 31 = .ok (.astore_n 3, 1) := by decide +kernel
theorem dX5_removeSuit_32 : decode cX5_removeSuit 32 = .ok (.aload_n 0, 1) := by decide +kernel
theorem dX5_removeSuit_33 : decode cX5_removeSuit 33 = .ok (.getfield 27, 3) := by decide +kernel
theorem dX5_removeSuit_36 : decode cX5_removeSuit 36 = .ok (.iload_n 2, 1) := by decide +kernel
theorem dX5_removeSuit_37 : decode cX5_removeSuit 37 = .ok (.aload_n 0, 1) := by decide +kernel
theorem dX5_removeSuit_38 : decode cX5_removeSuit 38 = .ok (.getfield 27, 3) := by decide +kernel
theorem dX5_removeSuit_41 : decode cX5_removeSuit 41 = .ok (.iload_n 2, 1) := by decide +kernel
theorem dX5_removeSuit_42 : decode cX5_removeSuit 42 = .ok (.iconst 1, 1) := by decide +kernel
theorem dX5_removeSuit_43 : decode cX5_removeSuit 43 = .ok (.iadd, 1) := by decide +kernel
theorem dX5_removeSuit_44 : decode cX5_removeSuit 44 = .ok (.aaload, 1) := by decide +kernel
theorem dX5_removeSuit_45 : decode cX5_removeSuit 45 = .ok (.aastore, 1) := by decide +kernel
theorem dX5_removeSuit_46 : decode cX5_removeSuit 46 = .ok (.aload_n 0, 1) := by decide +kernel
theorem dX5_removeSuit_47 : decode cX5_removeSuit 47 = .ok (.getfield 27, 3) := by decide +kernel
theorem dX5_removeSuit_50 : decode cX5_removeSuit 50 = .ok (.iload_n 2, 1) := by decide +kernel
theorem dX5_removeSuit_51 : decode cX5_removeSuit 51 = .ok (.iconst 1, 1) := by decide +kernel
theorem dX5_removeSuit_52 : decode cX5_removeSuit 52 = .ok (.iadd, 1) := by decide +kernel
theorem dX5_removeSuit_53 : decode cX5_removeSuit 53 = .ok (.aload_n 3, 1) := by decide +kernel
theorem dX5_removeSuit_54 : decode cX5_removeSuit 54 = .ok (.aastore, 1) := by decide +kernel
theorem dX5_removeSuit_55 : decode cX5_removeSuit 55 = .ok (.iinc 2 1, 3) := by decide +kernel
theorem dX5_removeSuit_58 : decode cX5_removeSuit 58 = .ok (.goto (-56), 3) := by decide +kernel
theorem dX5_removeSuit_61 : decode cX5_removeSuit 61 = .ok (.aload_n 0, 1) := by decide +kernel
theorem dX5_removeSuit_62 : decode cX5_removeSuit 62 = .ok (.dup, 1) := by decide +kernel
theorem dX5_removeSuit_63 : decode cX5_removeSuit 63 = .ok (.getfield 31, 3) := by decide +kernel
theorem dX5_removeSuit_66 : decode cX5_removeSuit 66 = .ok (.iconst 1, 1) := by decide +kernel
theorem dX5_removeSuit_67 : decode cX5_removeSuit 67 = .ok (.isub, 1) := by decide +kernel
theorem dX5_removeSuit_68 : decode cX5_removeSuit 68 = .ok (.putfield 31, 3) := by decide +kernel
theorem dX5_removeSuit_71 : decode cX5_removeSuit 71 = .ok (.return_, 1) := by decide +kernel
theorem dX6_init_0 : decode cX6_init 0 = .ok (.aload_n 0, 1) := by decide +kernel
theorem dX6_init_1 : decode cX6_init 1 = .ok (.invokespecial 3, 3) := by decide +kernel
theorem dX6_init_4 : decode cX6_init 4 = .ok (.aload_n 0, 1) := by decide +kernel
theorem dX6_init_5 : decode cX6_init 5 = .ok (.new 9, 3) := by decide +kernel
theorem dX6_init_8 : decode cX6_init 8 = .ok (.dup, 1) := by decide +kernel
theorem dX6_init_9 : decode cX6_init 9 = .ok (.invokespecial 11, 3) := by decide +kernel
theorem dX6_init_12 : decode cX6_init 12 = .ok (.putfield 12, 3) := by decide +kernel
theorem dX6_init_15 : decode cX6_init 15 = .ok (.aload_n 0, 1) := by decide +kernel
theorem dX6_init_16 : decode cX6_init 16 = .ok (.new 9, 3) := by decide +kernel
theorem dX6_init_19 : decode cX6_init 19 = .ok (.dup, 1) := by decide +kernel
theorem dX6_init_20 : decode cX6_init 20 = .ok (.invokespecial 11, 3) := by decide +kernel
theorem dX6_init_23 : decode cX6_init 23 = .ok (.putfield 16, 3) := by decide +kernel
theorem dX6_init_26 : decode cX6_init 26 = .ok (.aload_n 0, 1) := by decide +kernel
theorem dX6_init_27 : decode cX6_init 27 = .ok (.new 9, 3) := by decide +kernel
theorem dX6_init_30 : decode cX6_init 30 = .ok (.dup, 1) := by decide +kernel
theorem dX6_init_31 : decode cX6_init 31 = .ok (.invokespecial 11, 3) := by decide +kernel
theorem dX6_init_34 : decode cX6_init 34 = .ok (.putfield 19, 3) := by decide +kernel
theorem dX6_init_37 : decode cX6_init 37 = .ok (.aload_n 0, 1) := by decide +kernel
theorem dX6_init_38 : decode cX6_init 38 = .ok (.iconst 0, 1) := by decide +kernel
theorem dX6_init_39 : decode cX6_init 39 = .ok (.putfield 22, 3) := by decide +kernel
theorem dX6_init_42 : decode cX6_init 42 = .ok (.aload_n 0, 1) := by decide +kernel
theorem dX6_init_43 : decode cX6_init 43 = .ok (.bipush 8, 2) := by decide +kernel
theorem dX6_init_45 : decode cX6_init 45 = .ok (.anewarray 9, 3) := by decide +kernel
theorem dX6_init_48 : decode cX6_init 48 = .ok (.putfield 26, 3) := by decide +kernel
theorem dX6_init_51 : decode cX6_init 51 = .ok (.aload_n 0, 1) := by decide +kernel
theorem dX6_init_52 : decode cX6_init 52 = .ok (.iconst 0, 1) := by decide +kernel
theorem dX6_init_53 : decode cX6_init 53 = .ok (.putfield 30, 3) := by decide +kernel
theorem dX6_init_56 : decode cX6_init 56 = .ok (.aload_n 0, 1) := by decide +kernel
theorem dX6_init_57 : decode cX6_init 57 = .ok (.new 34, 3) := by decide +kernel
theorem dX6_init_60 : decode cX6_init 60 = .ok (.dup, 1) := by decide +kernel
theorem dX6_init_61 : decode cX6_init 61 = .ok (.invokespecial 36, 3) := by decide +kernel
theorem dX6_init_64 : decode cX6_init 64 = .ok (.putfield 37, 3) := by decide +kernel
theorem dX6_init_67 : decode cX6_init 67 = .ok (.aload_n 0, 1) := by decide +kernel
theorem dX6_init_68 : decode cX6_init 68 = .ok (.new 41, 3) := by decide +kernel
theorem dX6_init_71 : decode cX6_init 71 = .ok (.dup, 1) := by decide +kernel
theorem dX6_init_72 : decode cX6_init 72 = .ok (.invokespecial 43, 3) := by decide +kernel
theorem dX6_init_75 : decode cX6_init 75 = .ok (.putfield 44, 3) := by decide +kernel
theorem dX6_init_78 : decode cX6_init 78 = .ok (.aload_n 0, 1) := by decide +kernel
theorem dX6_init_79 : decode cX6_init 79 = .ok (.iconst (-1), 1) := by decide +kernel
theorem dX6_init_80 : decode cX6_init 80 = .ok (.putfield 48, 3) := by decide +kernel
theorem dX6_init_83 : decode cX6_init 83 = .ok (.aload_n 0, 1) := by decide +kernel
theorem dX6_init_84 : decode cX6_init 84 = .ok (.iconst (-1), 1) := by decide +kernel
theorem dX6_init_85 : decode cX6_init 85 = .ok (.putfield 51, 3) := by decide +kernel
theorem dX6_init_88 : decode cX6_init 88 = .ok (.aload_n 0, 1) := by decide +kernel
theorem dX6_init_89 : decode cX6_init 89 = .ok (.new 54, 3) := by decide +kernel
theorem dX6_init_92 : decode cX6_init 92 = .ok (.dup, 1) := by decide +kernel
theorem dX6_init_93 : decode cX6_init 93 = .ok (.invokespecial 56, 3) := by decide +kernel
theorem dX6_init_96 : decode cX6_init 96 = .ok (.putfield 57, 3) := by decide +kernel
theorem dX6_init_99 : decode cX6_init 99 = .ok (.iconst 0, 1) := by decide +kernel
theorem dX6_init_100 : decode cX6_init 100 = .ok (.istore_n 1, 1) := by decide +kernel
theorem dX6_init_101 : decode cX6_init 101 = .ok (.iload_n 1, 1) := by decide +kernel
theorem dX6_init_102 : decode cX6_init 102 = .ok (.bipush 8, 2) := by decide +kernel
theorem dX6_init_104 : decode cX6_init 104 = .ok (.if_icmp .ge 22, 3) := by decide +kernel
theorem dX6_init_107 : decode cX6_init 107 = .ok (.aload_n 0, 1) := by decide +kernel
theorem dX6_init_108 : decode cX6_init 108 = .ok (.getfield 26, 3) := by decide +kernel
theorem dX6_init_111 : decode cX6_init 111 = .ok (.iload_n 1, 1) := by decide +kernel
theorem dX6_init_112 : decode cX6_init 112 = .ok (.new 9, 3) := by decide +kernel
theorem dX6_init_115 : decode cX6_init 115 = .ok (.dup, 1) := by decide +kernel
theorem dX6_init_116 : decode cX6_init 116 = .ok (.invokespecial 11, 3) := by decide +kernel
theorem dX6_init_119 : decode cX6_init 119 = .ok (.aastore, 1) := by decide +kernel
theorem dX6_init_120 : decode cX6_init 120 = .ok (.iinc 1 1, 3) := by decide +kernel
theorem dX6_init_123 : decode cX6_init 123 = .ok (.goto (-22), 3) := by decide +kernel
theorem dX6_init_126 : decode cX6_init 126 = .ok (.return_, 1) := by decide +kernel
theorem dX6_buyCloth_0 : decode cX6_buyCloth 0 = .ok (.aload_n 0, 1) := by decide +kernel
theorem dX6_buyCloth_1 : decode cX6_buyCloth 1 = .ok (.iconst 0, 1) := by decide +kernel
theorem dX6_buyCloth_2 : decode cX6_buyCloth 2 = .ok (.iload_n 1, 1) := by decide +kernel
theorem dX6_buyCloth_3 : decode cX6_buyCloth 3 = .ok (.iload_n 2, 1) := by decide +kernel
theorem dX6_buyCloth_4 : decode cX6_buyCloth 4 = .ok (.iconst 0, 1) := by decide +kernel
theorem dX6_buyCloth_5 : decode cX6_buyCloth 5 = .ok (.invokevirtual 61, 3) := by decide +kernel
theorem dX6_buyCloth_8 : decode cX6_buyCloth 8 = .ok (.ireturn, 1) := by decide +kernel
theorem dX6_addCustomer_0 : decode cX6_addCustomer 0 = .ok (.aload_n 0, 1) := by decide +kernel
theorem dX6_addCustomer_1 : decode cX6_addCustomer 1 = .ok (.iconst 1, 1) := by decide +kernel
theorem dX6_addCustomer_2 : decode cX6_addCustomer 2 = .ok (.iload_n 1, 1) := by decide +kernel
theorem dX6_addCustomer_3 : decode cX6_addCustomer 3 = .ok (.iload_n 2, 1) := by decide +kernel
theorem dX6_addCustomer_4 : decode cX6_addCustomer 4 = .ok (.iconst 0, 1) := by decide +kernel
theorem dX6_addCustomer_5 : decode cX6_addCustomer 5 = .ok (.invokevirtual 61, 3) := by decide +kernel
theorem dX6_addCustomer_8 : decode cX6_addCustomer 8 = .ok (.ireturn, 1) := by decide +kernel
theorem dX6_fit_0 : decode cX6_fit 0 = .ok (.aload_n 0, 1) := by decide +kernel
theorem dX6_fit_1 : decode cX6_fit 1 = .ok (.iconst 2, 1) := by decide +kernel
theorem dX6_fit_2 : decode cX6_fit 2 = .ok (.iload_n 1, 1) := by decide +kernel
theorem dX6_fit_3 : decode cX6_fit 3 = .ok (.iload_n 2, 1) := by decide +kernel
theorem dX6_fit_4 : decode cX6_fit 4 = .ok (.iload_n 3, 1) := by decide +kernel
theorem dX6_fit_5 : decode cX6_fit 5 = .ok (.invokevirtual 61, 3) := by decide +kernel
theorem dX6_fit_8 : decode cX6_fit 8 = .ok (.ireturn, 1) := by decide +kernel
theorem dX6_orderSuit_0 : decode cX6_orderSuit 0 = .ok (.aload_n 0, 1) := by decide +kernel
theorem dX6_orderSuit_1 : decode cX6_orderSuit 1 = .ok (.iconst 3, 1) := by decide +kernel
theorem dX6_orderSuit_2 : decode cX6_orderSuit 2 = .ok (.iload_n 1, 1) := by decide +kernel
theorem dX6_orderSuit_3 : decode cX6_orderSuit 3 = .ok (.iload_n 2, 1) := by decide +kernel
theorem dX6_orderSuit_4 : decode cX6_orderSuit 4 = .ok (.iconst 0, 1) := by decide +kernel
theorem dX6_orderSuit_5 : decode cX6_orderSuit 5 = .ok (.invokevirtual 61, 3) := by decide +kernel
theorem dX6_orderSuit_8 : decode cX6_orderSuit 8 = .ok (.ireturn, 1) := by decide +kernel
theorem dX6_cut_0 : decode cX6_cut 0 = .ok (.aload_n 0, 1) := by decide +kernel
theorem dX6_cut_1 : decode cX6_cut 1 = .ok (.iconst 4, 1) := by decide +kernel
theorem dX6_cut_2 : decode cX6_cut 2 = .ok (.iload_n 1, 1) := by decide +kernel
theorem dX6_cut_3 : decode cX6_cut 3 = .ok (.iload_n 2, 1) := by decide +kernel
theorem dX6_cut_4 : decode cX6_cut 4 = .ok (.iconst 0, 1) := by decide +kernel
theorem dX6_cut_5 : decode cX6_cut 5 = .ok (.invokevirtual 61, 3) := by decide +kernel
theorem dX6_cut_8 : decode cX6_cut 8 = .ok (.ireturn, 1) := by decide +kernel
theorem dX6_sew_0 : decode cX6_sew 0 = .ok (.aload_n 0, 1) := by decide +kernel
theorem dX6_sew_1 : decode cX6_sew 1 = .ok (.iconst 5, 1) := by decide +kernel
theorem dX6_sew_2 : decode cX6_sew 2 = .ok (.iload_n 1, 1) := by decide +kernel
theorem dX6_sew_3 : decode cX6_sew 3 = .ok (.iload_n 2, 1) := by decide +kernel
theorem dX6_sew_4 : decode cX6_sew 4 = .ok (.iconst 0, 1) := by decide +kernel
theorem dX6_sew_5 : decode cX6_sew 5 = .ok (.invokevirtual 61, 3) := by decide +kernel
theorem dX6_sew_8 : decode cX6_sew 8 = .ok (.ireturn, 1) := by decide +kernel
theorem dX6_unpick_0 : decode cX6_unpick 0 = .ok (.aload_n 0, 1) := by decide +kernel
theorem dX6_unpick_1 : decode cX6_unpick 1 = .ok (.bipush 6, 2) := by decide +kernel
theorem dX6_unpick_3 : decode cX6_unpick 3 = .ok (.iload_n 1, 1) := by decide +kernel
theorem dX6_unpick_4 : decode cX6_unpick 4 = .ok (.iload_n 2, 1) := by decide +kernel
theorem dX6_unpick_5 : decode cX6_unpick 5 = .ok (.iconst 0, 1) := by decide +kernel
theorem dX6_unpick_6 : decode cX6_unpick 6 = .ok (.invokevirtual 61, 3) := by decide +kernel
theorem dX6_unpick_9 : decode cX6_unpick 9 = .ok (.ireturn, 1) := by decide +kernel
theorem dX6_demand_0 : decode cX6_demand 0 = .ok (.aload_n 0, 1) := by decide +kernel
theorem dX6_demand_1 : decode cX6_demand 1 = .ok (.bipush 7, 2) := by decide +kernel
theorem dX6_demand_3 : decode cX6_demand 3 = .ok (.iload_n 1, 1) := by decide +kernel
theorem dX6_demand_4 : decode cX6_demand 4 = .ok (.iload_n 2, 1) := by decide +kernel
theorem dX6_demand_5 : decode cX6_demand 5 = .ok (.iload_n 3, 1) := by decide +kernel
theorem dX6_demand_6 : decode cX6_demand 6 = .ok (.invokevirtual 61, 3) := by decide +kernel
theorem dX6_demand_9 : decode cX6_demand 9 = .ok (.ireturn, 1) := by decide +kernel
theorem dX6_deliver_0 : decode cX6_deliver 0 = .ok (.aload_n 0, 1) := by decide +kernel
theorem dX6_deliver_1 : decode cX6_deliver 1 = .ok (.bipush 8, 2) := by decide +kernel
theorem dX6_deliver_3 : decode cX6_deliver 3 = .ok (.iload_n 1, 1) := by decide +kernel
theorem dX6_deliver_4 : decode cX6_deliver 4 = .ok (.iconst 0, 1) := by decide +kernel
theorem dX6_deliver_5 : decode cX6_deliver 5 = .ok (.iconst 0, 1) := by decide +kernel
theorem dX6_deliver_6 : decode cX6_deliver 6 = .ok (.invokevirtual 61, 3) := by decide +kernel
theorem dX6_deliver_9 : decode cX6_deliver 9 = .ok (.ireturn, 1) := by decide +kernel
theorem dX6_scrap_0 : decode cX6_scrap 0 = .ok (.aload_n 0, 1) := by decide +kernel
theorem dX6_scrap_1 : decode cX6_scrap 1 = .ok (.bipush 9, 2) := by decide +kernel
theorem dX6_scrap_3 : decode cX6_scrap 3 = .ok (.iload_n 1, 1) := by decide +kernel
theorem dX6_scrap_4 : decode cX6_scrap 4 = .ok (.iconst 0, 1) := by decide +kernel
theorem dX6_scrap_5 : decode cX6_scrap 5 = .ok (.iconst 0, 1) := by decide +kernel
theorem dX6_scrap_6 : decode cX6_scrap 6 = .ok (.invokevirtual 61, 3) := by decide +kernel
theorem dX6_scrap_9 : decode cX6_scrap 9 = .ok (.ireturn, 1) := by decide +kernel
theorem dX6_change_0 : decode cX6_change 0 = .ok (.aload_n 0, 1) := by decide +kernel
theorem dX6_change_1 : decode cX6_change 1 = .ok (.getfield 16, 3) := by decide +kernel
theorem dX6_change_4 : decode cX6_change 4 = .ok (.aload_n 0, 1) := by decide +kernel
theorem dX6_change_5 : decode cX6_change 5 = .ok (.getfield 12, 3) := by decide +kernel
theorem dX6_change_8 : decode cX6_change 8 = .ok (.invokevirtual 65, 3) := by decide +kernel
theorem dX6_change_11 : decode cX6_change 11 = .ok (.aload_n 0, 1) := by decide +kernel
theorem dX6_change_12 : decode cX6_change 12 = .ok (.getfield 16, 3) := by decide +kernel
theorem dX6_change_15 : decode cX6_change 15 = .ok (.iload_n 1, 1) := by decide +kernel
theorem dX6_change_16 : decode cX6_change 16 = .ok (.iload_n 2, 1) := by decide +kernel
theorem dX6_change_17 : decode cX6_change 17 = .ok (.iload_n 3, 1) := by decide +kernel
theorem dX6_change_18 : decode cX6_change 18 = .ok (.iload 4, 2) := by decide +kernel
theorem dX6_change_20 : decode cX6_change 20 = .ok (.invokevirtual 69, 3) := by decide +kernel
theorem dX6_change_23 : decode cX6_change 23 = .ok (.istore 5, 2) := by decide +kernel
theorem dX6_change_25 : decode cX6_change 25 = .ok (.iload 5, 2) := by decide +kernel
theorem dX6_change_27 : decode cX6_change 27 = .ok (.ifCond .ge 8, 3) := by decide +kernel
theorem dX6_change_30 : decode cX6_change 30 = .ok (.iload 5, 2) := by decide +kernel
theorem dX6_change_32 : decode cX6_change 32 = .ok (.invokestatic 72, 3) := by decide +kernel
theorem dX6_change_35 : decode cX6_change 35 = .ok (.aload_n 0, 1) := by decide +kernel
theorem dX6_change_36 : decode cX6_change 36 = .ok (.invokevirtual 76, 3) := by decide +kernel
theorem dX6_change_39 : decode cX6_change 39 = .ok (.iload 5, 2) := by decide +kernel
theorem dX6_change_41 : decode cX6_change 41 = .ok (.ireturn, 1) := by decide +kernel
theorem dX6_refuse_0 : decode cX6_refuse 0 = .ok (.iload_n 0, 1) := by decide +kernel
theorem dX6_refuse_1 : decode cX6_refuse 1 = .ok (.tableswitch 71 (-4) (-1) #[61, 51, 41, 31], 31) := by decide +kernel
theorem dX6_refuse_32 : decode cX6_refuse 32 = .ok (.new 79, 3) := by decide +kernel
theorem dX6_refuse_35 : decode cX6_refuse 35 = .ok (.dup, 1) := by decide +kernel
theorem dX6_refuse_36 : decode cX6_refuse 36 = .ok (.ldc 81, 2) := by decide +kernel
theorem dX6_refuse_38 : decode cX6_refuse 38 = .ok (.invokespecial 83, 3) := by decide +kernel
theorem dX6_refuse_41 : decode cX6_refuse 41 = .ok (.athrow, 1) := by decide +kernel
theorem dX6_refuse_42 : decode cX6_refuse 42 = .ok (.new 86, 3) := by decide +kernel
theorem dX6_refuse_45 : decode cX6_refuse 45 = .ok (.dup, 1) := by decide +kernel
theorem dX6_refuse_46 : decode cX6_refuse 46 = .ok (.ldc 88, 2) := by decide +kernel
theorem dX6_refuse_48 : decode cX6_refuse 48 = .ok (.invokespecial 90, 3) := by decide +kernel
theorem dX6_refuse_51 : decode cX6_refuse 51 = .ok (.athrow, 1) := by decide +kernel
theorem dX6_refuse_52 : decode cX6_refuse 52 = .ok (.new 91, 3) := by decide +kernel
theorem dX6_refuse_55 : decode cX6_refuse 55 = .ok (.dup, 1) := by decide +kernel
theorem dX6_refuse_56 : decode cX6_refuse 56 = .ok (.ldc 93, 2) := by decide +kernel
theorem dX6_refuse_58 : decode cX6_refuse 58 = .ok (.invokespecial 95, 3) := by decide +kernel
theorem dX6_refuse_61 : decode cX6_refuse 61 = .ok (.athrow, 1) := by decide +kernel
theorem dX6_refuse_62 : decode cX6_refuse 62 = .ok (.new 96, 3) := by decide +kernel
theorem dX6_refuse_65 : decode cX6_refuse 65 = .ok (.dup, 1) := by decide +kernel
theorem dX6_refuse_66 : decode cX6_refuse 66 = .ok (.ldc 98, 2) := by decide +kernel
theorem dX6_refuse_68 : decode cX6_refuse 68 = .ok (.invokespecial 100, 3) := by decide +kernel
theorem dX6_refuse_71 : decode cX6_refuse 71 = .ok (.athrow, 1) := by decide +kernel
theorem dX6_refuse_72 : decode cX6_refuse 72 = .ok (.new 101, 3) := by decide +kernel
theorem dX6_refuse_75 : decode cX6_refuse 75 = .ok (.dup, 1) := by decide +kernel
theorem dX6_refuse_76 : decode cX6_refuse 76 = .ok (.ldc 103, 2) := by decide +kernel
theorem dX6_refuse_78 : decode cX6_refuse 78 = .ok (.invokespecial 105, 3) := by decide +kernel
theorem dX6_refuse_81 : decode cX6_refuse 81 = .ok (.athrow, 1) := by decide +kernel
theorem dX6_adoptTrial_0 : decode cX6_adoptTrial 0 = .ok (.aload_n 0, 1) := by decide +kernel
theorem dX6_adoptTrial_1 : decode cX6_adoptTrial 1 = .ok (.getfield 30, 3) := by decide +kernel
theorem dX6_adoptTrial_4 : decode cX6_adoptTrial 4 = .ok (.bipush 8, 2) := by decide +kernel
theorem dX6_adoptTrial_6 : decode cX6_adoptTrial 6 = .ok (.if_icmp .ne 7, 3) := by decide +kernel
theorem dX6_adoptTrial_9 : decode cX6_adoptTrial 9 = .ok (.aload_n 0, 1) := by decide +kernel
theorem dX6_adoptTrial_10 : decode cX6_adoptTrial 10 = .ok (.invokevirtual 106, 3) := by decide +kernel
theorem dX6_adoptTrial_13 : decode cX6_adoptTrial 13 = .ok (.aload_n 0, 1) := by decide +kernel
theorem dX6_adoptTrial_14 : decode cX6_adoptTrial 14 = .ok (.getfield 26, 3) := by decide +kernel
theorem dX6_adoptTrial_17 : decode cX6_adoptTrial 17 = .ok (.aload_n 0, 1) := by decide +kernel
theorem dX6_adoptTrial_18 : decode cX6_adoptTrial 18 = .ok (.getfield 30, 3) := by decide +kernel
theorem dX6_adoptTrial_21 : decode cX6_adoptTrial 21 = .ok (.aaload, 1) := by decide +kernel
theorem dX6_adoptTrial_22 : decode cX6_adoptTrial 22 = .ok (.astore_n 1, 1) := by decide +kernel
theorem dX6_adoptTrial_23 : decode cX6_adoptTrial 23 = .ok (.aload_n 0, 1) := by decide +kernel
theorem dX6_adoptTrial_24 : decode cX6_adoptTrial 24 = .ok (.getfield 26, 3) := by decide +kernel
theorem dX6_adoptTrial_27 : decode cX6_adoptTrial 27 = .ok (.aload_n 0, 1) := by decide +kernel
theorem dX6_adoptTrial_28 : decode cX6_adoptTrial 28 = .ok (.getfield 30, 3) := by decide +kernel
theorem dX6_adoptTrial_31 : decode cX6_adoptTrial 31 = .ok (.aload_n 0, 1) := by decide +kernel
theorem dX6_adoptTrial_32 : decode cX6_adoptTrial 32 = .ok (.getfield 12, 3) := by decide +kernel
theorem dX6_adoptTrial_35 : decode cX6_adoptTrial 35 = .ok (.aastore, 1) := by decide +kernel
theorem dX6_adoptTrial_36 : decode cX6_adoptTrial 36 = .ok (.aload_n 0, 1) := by decide +kernel
theorem dX6_adoptTrial_37 : decode cX6_adoptTrial 37 = .ok (.dup, 1) := by decide +kernel
theorem dX6_adoptTrial_38 : decode cX6_adoptTrial 38 = .ok (.getfield 30, 3) := by decide +kernel
theorem dX6_adoptTrial_41 : decode cX6_adoptTrial 41 = .ok (.iconst 1, 1) := by decide +kernel
theorem dX6_adoptTrial_42 : decode cX6_adoptTrial 42 = .ok (.iadd, 1) := by decide +kernel
theorem dX6_adoptTrial_43 : decode cX6_adoptTrial 43 = .ok (.putfield 30, 3) := by decide +kernel
theorem dX6_adoptTrial_46 : decode cX6_adoptTrial 46 = .ok (.aload_n 0, 1) := by decide +kernel
theorem dX6_adoptTrial_47 : decode cX6_adoptTrial 47 = .ok (.aload_n 0, 1) := by decide +kernel
theorem dX6_adoptTrial_48 : decode cX6_adoptTrial 48 = .ok (.getfield 16, 3) := by decide +kernel
theorem dX6_adoptTrial_51 : decode cX6_adoptTrial 51 = .ok (.putfield 12, 3) := by decide +kernel
theorem dX6_adoptTrial_54 : decode cX6_adoptTrial 54 = .ok (.aload_n 0, 1) := by decide +kernel
theorem dX6_adoptTrial_55 : decode cX6_adoptTrial 55 = .ok (.aload_n 1, 1) := by decide +kernel
theorem dX6_adoptTrial_56 : decode cX6_adoptTrial 56 = .ok (.putfield 16, 3) := by decide +kernel
theorem dX6_adoptTrial_59 : decode cX6_adoptTrial 59 = .ok (.return_, 1) := by decide +kernel
theorem dX6_forgetOldest_0 : decode cX6_forgetOldest 0 = .ok (.aload_n 0, 1) := by decide +kernel
theorem dX6_forgetOldest_1 : decode cX6_forgetOldest 1 = .ok (.getfield 26, 3) := by decide +kernel
theorem dX6_forgetOldest_4 : decode cX6_forgetOldest 4 = .ok (.iconst 0, 1) := by decide +kernel
theorem dX6_forgetOldest_5 : decode cX6_forgetOldest 5 = .ok (.aaload, 1) := by decide +kernel
theorem dX6_forgetOldest_6 : decode cX6_forgetOldest 6 = .ok (.astore_n 1, 1) := by decide +kernel
theorem dX6_forgetOldest_7 : decode cX6_forgetOldest 7 = .ok (.iconst 1, 1) := by decide +kernel
theorem dX6_forgetOldest_8 : decode cX6_forgetOldest 8 = .ok (.istore_n 2, 1) := by decide +kernel
theorem dX6_forgetOldest_9 : decode cX6_forgetOldest 9 = .ok (.iload_n 2, 1) := by decide +kernel
theorem dX6_forgetOldest_10 : decode cX6_forgetOldest 10 = .ok (.bipush 8, 2) := by decide +kernel
theorem dX6_forgetOldest_12 : decode cX6_forgetOldest 12 = .ok (.if_icmp .ge 23, 3) := by decide +kernel
theorem dX6_forgetOldest_15 : decode cX6_forgetOldest 15 = .ok (.aload_n 0, 1) := by decide +kernel
theorem dX6_forgetOldest_16 : decode cX6_forgetOldest 16 = .ok (.getfield 26, 3) := by decide +kernel
theorem dX6_forgetOldest_19 : decode cX6_forgetOldest 19 = .ok (.iload_n 2, 1) := by decide +kernel
theorem dX6_forgetOldest_20 : decode cX6_forgetOldest 20 = .ok (.iconst 1, 1) := by decide +kernel
theorem dX6_forgetOldest_21 : decode cX6_forgetOldest 21 = .ok (.isub, 1) := by decide +kernel
theorem dX6_forgetOldest_22 : decode cX6_forgetOldest 22 = .ok (.aload_n 0, 1) := by decide +kernel
theorem dX6_forgetOldest_23 : decode cX6_forgetOldest 23 = .ok (.getfield 26, 3) := by decide +kernel
theorem dX6_forgetOldest_26 : decode cX6_forgetOldest 26 = .ok (.iload_n 2, 1) := by decide +kernel
theorem dX6_forgetOldest_27 : decode cX6_forgetOldest 27 = .ok (.aaload, 1) := by decide +kernel
theorem dX6_forgetOldest_28 : decode cX6_forgetOldest 28 = .ok (.aastore, 1) := by decide +kernel
theorem dX6_forgetOldest_29 : decode cX6_forgetOldest 29 = .ok (.iinc 2 1, 3) := by decide +kernel
theorem dX6_forgetOldest_32 : decode cX6_forgetOldest 32 = .ok (.goto (-23), 3) := by decide +kernel
theorem dX6_forgetOldest_35 : decode cX6_forgetOldest 35 = .ok (.aload_n 0, 1) := by decide +kernel
theorem dX6_forgetOldest_36 : decode cX6_forgetOldest 36 = .ok (.getfield 26, 3) := by decide +kernel
theorem dX6_forgetOldest_39 : decode cX6_forgetOldest 39 = .ok (.bipush 7, 2) := by decide +kernel
theorem dX6_forgetOldest_41 : decode cX6_forgetOldest 41 = .ok (.aload_n 1, 1) := by decide +kernel
theorem dX6_forgetOldest_42 : decode cX6_forgetOldest 42 = .ok (.aastore, 1) := by decide +kernel
theorem dX6_forgetOldest_43 : decode cX6_forgetOldest 43 = .ok (.aload_n 0, 1) := by decide +kernel
theorem dX6_forgetOldest_44 : decode cX6_forgetOldest 44 = .ok (.bipush 7, 2) := by decide +kernel
theorem dX6_forgetOldest_46 : decode cX6_forgetOldest 46 = .ok (.putfield 30, 3) := by decide +kernel
theorem dX6_forgetOldest_49 : decode cX6_forgetOldest 49 = .ok (.return_, 1) := by decide +kernel
theorem dX6_stock_0 : decode cX6_stock 0 = .ok (.iload_n 1, 1) := by decide +kernel
theorem dX6_stock_1 : decode cX6_stock 1 = .ok (.ifCond .lt 8, 3) := by decide +kernel
theorem dX6_stock_4 : decode cX6_stock 4 = .ok (.iload_n 1, 1) := by decide +kernel
theorem dX6_stock_5 : decode cX6_stock 5 = .ok (.iconst 4, 1) := by decide +kernel
theorem dX6_stock_6 : decode cX6_stock 6 = .ok (.if_icmp .lt 13, 3) := by decide +kernel
theorem dX6_stock_9 : decode cX6_stock 9 = .ok (.new 86, 3) := by decide +kernel
theorem dX6_stock_12 : decode cX6_stock 12 = .ok (.dup, 1) := by decide +kernel
theorem dX6_stock_13 : decode cX6_stock 13 = .ok (.ldc 109, 2) := by decide +kernel
theorem dX6_stock_15 : decode cX6_stock 15 = .ok (.invokespecial 90, 3) := by decide +kernel
theorem dX6_stock_18 : decode cX6_stock 18 = .ok (.athrow, 1) := by decide +kernel
theorem dX6_stock_19 : decode cX6_stock 19 = .ok (.aload_n 0, 1) := by decide +kernel
theorem dX6_stock_20 : decode cX6_stock 20 = .ok (.getfield 12, 3) := by decide +kernel
theorem dX6_stock_23 : decode cX6_stock 23 = .ok (.getfield 111, 3) := by decide +kernel
theorem dX6_stock_26 : decode cX6_stock 26 = .ok (.iload_n 1, 1) := by decide +kernel
theorem dX6_stock_27 : decode cX6_stock 27 = .ok (.iaload, 1) := by decide +kernel
theorem dX6_stock_28 : decode cX6_stock 28 = .ok (.ireturn, 1) := by decide +kernel
theorem dX6_customerCount_0 : decode cX6_customerCount 0 = .ok (.aload_n 0, 1) := by decide +kernel
theorem dX6_customerCount_1 : decode cX6_customerCount 1 = .ok (.getfield 12, 3) := by decide +kernel
theorem dX6_customerCount_4 : decode cX6_customerCount 4 = .ok (.getfield 115, 3) := by decide +kernel
theorem dX6_customerCount_7 : decode cX6_customerCount 7 = .ok (.ireturn, 1) := by decide +kernel
theorem dX6_pairs_0 : decode cX6_pairs 0 = .ok (.aload_n 0, 1) := by decide +kernel
theorem dX6_pairs_1 : decode cX6_pairs 1 = .ok (.iload_n 1, 1) := by decide +kernel
theorem dX6_pairs_2 : decode cX6_pairs 2 = .ok (.invokevirtual 118, 3) := by decide +kernel
theorem dX6_pairs_5 : decode cX6_pairs 5 = .ok (.getfield 122, 3) := by decide +kernel
theorem dX6_pairs_8 : decode cX6_pairs 8 = .ok (.iconst 2, 1) := by decide +kernel
theorem dX6_pairs_9 : decode cX6_pairs 9 = .ok (.idiv, 1) := by decide +kernel
theorem dX6_pairs_10 : decode cX6_pairs 10 = .ok (.ireturn, 1) := by decide +kernel
theorem dX6_legLength_0 : decode cX6_legLength 0 = .ok (.aload_n 0, 1) := by decide +kernel
theorem dX6_legLength_1 : decode cX6_legLength 1 = .ok (.iload_n 1, 1) := by decide +kernel
theorem dX6_legLength_2 : decode cX6_legLength 2 = .ok (.iload_n 2, 1) := by decide +kernel
theorem dX6_legLength_3 : decode cX6_legLength 3 = .ok (.invokevirtual 127, 3) := by decide +kernel
theorem dX6_legLength_6 : decode cX6_legLength 6 = .ok (.getfield 131, 3) := by decide +kernel
theorem dX6_legLength_9 : decode cX6_legLength 9 = .ok (.iload_n 2, 1) := by decide +kernel
theorem dX6_legLength_10 : decode cX6_legLength 10 = .ok (.iaload, 1) := by decide +kernel
theorem dX6_legLength_11 : decode cX6_legLength 11 = .ok (.ireturn, 1) := by decide +kernel
theorem dX6_mirrorLeg_0 : decode cX6_mirrorLeg 0 = .ok (.aload_n 0, 1) := by decide +kernel
theorem dX6_mirrorLeg_1 : decode cX6_mirrorLeg 1 = .ok (.iload_n 1, 1) := by decide +kernel
theorem dX6_mirrorLeg_2 : decode cX6_mirrorLeg 2 = .ok (.iload_n 2, 1) := by decide +kernel
theorem dX6_mirrorLeg_3 : decode cX6_mirrorLeg 3 = .ok (.invokevirtual 127, 3) := by decide +kernel
theorem dX6_mirrorLeg_6 : decode cX6_mirrorLeg 6 = .ok (.pop, 1) := by decide +kernel
theorem dX6_mirrorLeg_7 : decode cX6_mirrorLeg 7 = .ok (.iload_n 2, 1) := by decide +kernel
theorem dX6_mirrorLeg_8 : decode cX6_mirrorLeg 8 = .ok (.iconst 2, 1) := by decide +kernel
theorem dX6_mirrorLeg_9 : decode cX6_mirrorLeg 9 = .ok (.irem, 1) := by decide +kernel
theorem dX6_mirrorLeg_10 : decode cX6_mirrorLeg 10 = .ok (.ifCond .ne 9, 3) := by decide +kernel
theorem dX6_mirrorLeg_13 : decode cX6_mirrorLeg 13 = .ok (.iload_n 2, 1) := by decide +kernel
theorem dX6_mirrorLeg_14 : decode cX6_mirrorLeg 14 = .ok (.iconst 1, 1) := by decide +kernel
theorem dX6_mirrorLeg_15 : decode cX6_mirrorLeg 15 = .ok (.iadd, 1) := by decide +kernel
theorem dX6_mirrorLeg_16 : decode cX6_mirrorLeg 16 = .ok (.goto 6, 3) := by decide +kernel
theorem dX6_mirrorLeg_19 : decode cX6_mirrorLeg 19 = .ok (.iload_n 2, 1) := by decide +kernel
theorem dX6_mirrorLeg_20 : decode cX6_mirrorLeg 20 = .ok (.iconst 1, 1) := by decide +kernel
theorem dX6_mirrorLeg_21 : decode cX6_mirrorLeg 21 = .ok (.isub, 1) := by decide +kernel
theorem dX6_mirrorLeg_22 : decode cX6_mirrorLeg 22 = .ok (.ireturn, 1) := by decide +kernel
theorem dX6_isMirrored_0 : decode cX6_isMirrored 0 = .ok (.aload_n 0, 1) := by decide +kernel
theorem dX6_isMirrored_1 : decode cX6_isMirrored 1 = .ok (.iload_n 1, 1) := by decide +kernel
theorem dX6_isMirrored_2 : decode cX6_isMirrored 2 = .ok (.invokevirtual 118, 3) := by decide +kernel
theorem dX6_isMirrored_5 : decode cX6_isMirrored 5 = .ok (.invokevirtual 134, 3) := by decide +kernel
theorem dX6_isMirrored_8 : decode cX6_isMirrored 8 = .ok (.ireturn, 1) := by decide +kernel
theorem dX6_customerByLegs_0 : decode cX6_customerByLegs 0 = .ok (.aload_n 0, 1) := by decide +kernel
theorem dX6_customerByLegs_1 : decode cX6_customerByLegs 1 = .ok (.getfield 12, 3) := by decide +kernel
theorem dX6_customerByLegs_4 : decode cX6_customerByLegs 4 = .ok (.iload_n 1, 1) := by decide +kernel
theorem dX6_customerByLegs_5 : decode cX6_customerByLegs 5 = .ok (.invokevirtual 138, 3) := by decide +kernel
theorem dX6_customerByLegs_8 : decode cX6_customerByLegs 8 = .ok (.istore_n 2, 1) := by decide +kernel
theorem dX6_customerByLegs_9 : decode cX6_customerByLegs 9 = .ok (.iload_n 2, 1) := by decide +kernel
theorem dX6_customerByLegs_10 : decode cX6_customerByLegs 10 = .ok (.ifCond .ge 13, 3) := by decide +kernel
theorem dX6_customerByLegs_13 : decode cX6_customerByLegs 13 = .ok (.new 79, 3) := by decide +kernel
theorem dX6_customerByLegs_16 : decode cX6_customerByLegs 16 = .ok (.dup, 1) := by decide +kernel
theorem dX6_customerByLegs_17 : decode cX6_customerByLegs 17 = .ok (.ldc 142, 2) := by decide +kernel
theorem dX6_customerByLegs_19 : decode cX6_customerByLegs 19 = .ok (.invokespecial 83, 3) := by decide +kernel
theorem dX6_customerByLegs_22 : decode cX6_customerByLegs 22 = .ok (.athrow, 1) := by decide +kernel
theorem dX6_customerByLegs_23 : decode cX6_customerByLegs 23 = .ok (.iload_n 2, 1) := by decide +kernel
theorem dX6_customerByLegs_24 : decode cX6_customerByLegs 24 = .ok (.ireturn, 1) := by decide +kernel
theorem dX6_known_0 : decode cX6_known 0 = .ok (.aload_n 0, 1) := by decide +kernel
theorem dX6_known_1 : decode cX6_known 1 = .ok (.getfield 12, 3) := by decide +kernel
theorem dX6_known_4 : decode cX6_known 4 = .ok (.iload_n 1, 1) := by decide +kernel
theorem dX6_known_5 : decode cX6_known 5 = .ok (.invokevirtual 144, 3) := by decide +kernel
theorem dX6_known_8 : decode cX6_known 8 = .ok (.ifCond .ne 13, 3) := by decide +kernel
theorem dX6_known_11 : decode cX6_known 11 = .ok (.new 86, 3) := by decide +kernel
theorem dX6_known_14 : decode cX6_known 14 = .ok (.dup, 1) := by decide +kernel
theorem dX6_known_15 : decode cX6_known 15 = .ok (.ldc 148, 2) := by decide +kernel
theorem dX6_known_17 : decode cX6_known 17 = .ok (.invokespecial 90, 3) := by decide +kernel
theorem dX6_known_20 : decode cX6_known 20 = .ok (.athrow, 1) := by decide +kernel
theorem dX6_known_21 : decode cX6_known 21 = .ok (.aload_n 0, 1) := by decide +kernel
theorem dX6_known_22 : decode cX6_known 22 = .ok (.getfield 12, 3) := by decide +kernel
theorem dX6_known_25 : decode cX6_known 25 = .ok (.getfield 150, 3) := by decide +kernel
theorem dX6_known_28 : decode cX6_known 28 = .ok (.iload_n 1, 1) := by decide +kernel
theorem dX6_known_29 : decode cX6_known 29 = .ok (.aaload, 1) := by decide +kernel
theorem dX6_known_30 : decode cX6_known 30 = .ok (.areturn, 1) := by decide +kernel
theorem dX6_knownWithLeg_0 : decode cX6_knownWithLeg 0 = .ok (.aload_n 0, 1) := by decide +kernel
theorem dX6_knownWithLeg_1 : decode cX6_knownWithLeg 1 = .ok (.iload_n 1, 1) := by decide +kernel
theorem dX6_knownWithLeg_2 : decode cX6_knownWithLeg 2 = .ok (.invokevirtual 118, 3) := by decide +kernel
theorem dX6_knownWithLeg_5 : decode cX6_knownWithLeg 5 = .ok (.astore_n 3, 1) := by decide +kernel
theorem dX6_knownWithLeg_6 : decode cX6_knownWithLeg 6 = .ok (.aload_n 3, 1) := by decide +kernel
theorem dX6_knownWithLeg_7 : decode cX6_knownWithLeg 7 = .ok (.iload_n 2, 1) := by decide +kernel
theorem dX6_knownWithLeg_8 : decode cX6_knownWithLeg 8 = .ok (.invokevirtual 154, 3) := by decide +kernel
theorem dX6_knownWithLeg_11 : decode cX6_knownWithLeg 11 = .ok (.ifCond .ne 13, 3) := by decide +kernel
theorem dX6_knownWithLeg_14 : decode cX6_knownWithLeg 14 = .ok (.new 86, 3) := by decide +kernel
theorem dX6_knownWithLeg_17 : decode cX6_knownWithLeg 17 = .ok (.dup, 1) := by decide +kernel
theorem dX6_knownWithLeg_18 : decode cX6_knownWithLeg 18 = .ok (.ldc 157, 2) := by decide +kernel
theorem dX6_knownWithLeg_20 : decode cX6_knownWithLeg 20 = .ok (.invokespecial 90, 3) := by decide +kernel
theorem dX6_knownWithLeg_23 : decode cX6_knownWithLeg 23 = .ok (.athrow, 1) := by decide +kernel
theorem dX6_knownWithLeg_24 : decode cX6_knownWithLeg 24 = .ok (.aload_n 3, 1) := by decide +kernel
theorem dX6_knownWithLeg_25 : decode cX6_knownWithLeg 25 = .ok (.areturn, 1) := by decide +kernel
theorem dX6_suitCount_0 : decode cX6_suitCount 0 = .ok (.aload_n 0, 1) := by decide +kernel
theorem dX6_suitCount_1 : decode cX6_suitCount 1 = .ok (.getfield 12, 3) := by decide +kernel
theorem dX6_suitCount_4 : decode cX6_suitCount 4 = .ok (.getfield 159, 3) := by decide +kernel
theorem dX6_suitCount_7 : decode cX6_suitCount 7 = .ok (.ireturn, 1) := by decide +kernel
theorem dX6_suitAt_0 : decode cX6_suitAt 0 = .ok (.iload_n 1, 1) := by decide +kernel
theorem dX6_suitAt_1 : decode cX6_suitAt 1 = .ok (.ifCond .lt 14, 3) := by decide +kernel
theorem dX6_suitAt_4 : decode cX6_suitAt 4 = .ok (.iload_n 1, 1) := by decide +kernel
theorem dX6_suitAt_5 : decode cX6_suitAt 5 = .ok (.aload_n 0, 1) := by decide +kernel
theorem dX6_suitAt_6 : decode cX6_suitAt 6 = .ok (.getfield 12, 3) := by decide +kernel
theorem dX6_suitAt_9 : decode cX6_suitAt 9 = .ok (.getfield 159, 3) := by decide +kernel
theorem dX6_suitAt_12 : decode cX6_suitAt 12 = .ok (.if_icmp .lt 13, 3) := by decide +kernel
theorem dX6_suitAt_15 : decode cX6_suitAt 15 = .ok (.new 79, 3) := by decide +kernel
theorem dX6_suitAt_18 : decode cX6_suitAt 18 = .ok (.dup, 1) := by decide +kernel
theorem dX6_suitAt_19 : decode cX6_suitAt 19 = .ok (.ldc 162, 2) := by decide +kernel
theorem dX6_suitAt_21 : decode cX6_suitAt 21 = .ok (.invokespecial 83, 3) := by decide +kernel
theorem dX6_suitAt_24 : decode cX6_suitAt 24 = .ok (.athrow, 1) := by decide +kernel
theorem dX6_suitAt_25 : decode cX6_suitAt 25 = .ok (.aload_n 0, 1) := by decide +kernel
theorem dX6_suitAt_26 : decode cX6_suitAt 26 = .ok (.getfield 12, 3) := by decide +kernel
theorem dX6_suitAt_29 : decode cX6_suitAt 29 = .ok (.getfield 164, 3) := by decide +kernel
theorem dX6_suitAt_32 : decode cX6_suitAt 32 = .ok (.iload_n 1, 1) := by decide +kernel
theorem dX6_suitAt_33 : decode cX6_suitAt 33 = .ok (.aaload, 1) := by decide +kernel
theorem dX6_suitAt_34 : decode cX6_suitAt 34 = .ok (.getfield 168, 3) := by decide +kernel
theorem dX6_suitAt_37 : decode cX6_suitAt 37 = .ok (.ireturn, 1) := by decide +kernel
theorem dX6_customerOf_0 : decode cX6_customerOf 0 = .ok (.aload_n 0, 1) := by decide +kernel
theorem dX6_customerOf_1 : decode cX6_customerOf 1 = .ok (.iload_n 1, 1) := by decide +kernel
theorem dX6_customerOf_2 : decode cX6_customerOf 2 = .ok (.invokevirtual 173, 3) := by decide +kernel
theorem dX6_customerOf_5 : decode cX6_customerOf 5 = .ok (.getfield 177, 3) := by decide +kernel
theorem dX6_customerOf_8 : decode cX6_customerOf 8 = .ok (.ireturn, 1) := by decide +kernel
theorem dX6_clothOf_0 : decode cX6_clothOf 0 = .ok (.aload_n 0, 1) := by decide +kernel
theorem dX6_clothOf_1 : decode cX6_clothOf 1 = .ok (.iload_n 1, 1) := by decide +kernel
theorem dX6_clothOf_2 : decode cX6_clothOf 2 = .ok (.invokevirtual 173, 3) := by decide +kernel
theorem dX6_clothOf_5 : decode cX6_clothOf 5 = .ok (.getfield 180, 3) := by decide +kernel
theorem dX6_clothOf_8 : decode cX6_clothOf 8 = .ok (.ireturn, 1) := by decide +kernel
theorem dX6_sleeveState_0 : decode cX6_sleeveState 0 = .ok (.aload_n 0, 1) := by decide +kernel
theorem dX6_sleeveState_1 : decode cX6_sleeveState 1 = .ok (.iload_n 1, 1) := by decide +kernel
theorem dX6_sleeveState_2 : decode cX6_sleeveState 2 = .ok (.iload_n 2, 1) := by decide +kernel
theorem dX6_sleeveState_3 : decode cX6_sleeveState 3 = .ok (.invokevirtual 183, 3) := by decide +kernel
theorem dX6_sleeveState_6 : decode cX6_sleeveState 6 = .ok (.getfield 187, 3) := by decide +kernel
theorem dX6_sleeveState_9 : decode cX6_sleeveState 9 = .ok (.iload_n 2, 1) := by decide +kernel
theorem dX6_sleeveState_10 : decode cX6_sleeveState 10 = .ok (.caload, 1) := by decide +kernel
theorem dX6_sleeveState_11 : decode cX6_sleeveState 11 = .ok (.ireturn, 1) := by decide +kernel
theorem dX6_sleeveLength_0 : decode cX6_sleeveLength 0 = .ok (.aload_n 0, 1) := by decide +kernel
theorem dX6_sleeveLength_1 : decode cX6_sleeveLength 1 = .ok (.iload_n 1, 1) := by decide +kernel
theorem dX6_sleeveLength_2 : decode cX6_sleeveLength 2 = .ok (.iload_n 2, 1) := by decide +kernel
theorem dX6_sleeveLength_3 : decode cX6_sleeveLength 3 = .ok (.invokevirtual 191, 3) := by decide +kernel
theorem dX6_sleeveLength_6 : decode cX6_sleeveLength 6 = .ok (.getfield 194, 3) := by decide +kernel
theorem dX6_sleeveLength_9 : decode cX6_sleeveLength 9 = .ok (.iload_n 2, 1) := by decide +kernel
theorem dX6_sleeveLength_10 : decode cX6_sleeveLength 10 = .ok (.iaload, 1) := by decide +kernel
theorem dX6_sleeveLength_11 : decode cX6_sleeveLength 11 = .ok (.ireturn, 1) := by decide +kernel
theorem dX6_doesFit_0 : decode cX6_doesFit 0 = .ok (.aload_n 0, 1) := by decide +kernel
theorem dX6_doesFit_1 : decode cX6_doesFit 1 = .ok (.iload_n 1, 1) := by decide +kernel
theorem dX6_doesFit_2 : decode cX6_doesFit 2 = .ok (.iload_n 2, 1) := by decide +kernel
theorem dX6_doesFit_3 : decode cX6_doesFit 3 = .ok (.invokevirtual 191, 3) := by decide +kernel
theorem dX6_doesFit_6 : decode cX6_doesFit 6 = .ok (.astore_n 3, 1) := by decide +kernel
theorem dX6_doesFit_7 : decode cX6_doesFit 7 = .ok (.aload_n 3, 1) := by decide +kernel
theorem dX6_doesFit_8 : decode cX6_doesFit 8 = .ok (.iload_n 2, 1) := by decide +kernel
theorem dX6_doesFit_9 : decode cX6_doesFit 9 = .ok (.aload_n 0, 1) := by decide +kernel
theorem dX6_doesFit_10 : decode cX6_doesFit 10 = .ok (.getfield 12, 3) := by decide +kernel
theorem dX6_doesFit_13 : decode cX6_doesFit 13 = .ok (.aload_n 3, 1) := by decide +kernel
theorem dX6_doesFit_14 : decode cX6_doesFit 14 = .ok (.invokevirtual 197, 3) := by decide +kernel
theorem dX6_doesFit_17 : decode cX6_doesFit 17 = .ok (.invokevirtual 201, 3) := by decide +kernel
theorem dX6_doesFit_20 : decode cX6_doesFit 20 = .ok (.ireturn, 1) := by decide +kernel
theorem dX6_sewnSleeves_0 : decode cX6_sewnSleeves 0 = .ok (.aload_n 0, 1) := by decide +kernel
theorem dX6_sewnSleeves_1 : decode cX6_sewnSleeves 1 = .ok (.iload_n 1, 1) := by decide +kernel
theorem dX6_sewnSleeves_2 : decode cX6_sewnSleeves 2 = .ok (.invokevirtual 173, 3) := by decide +kernel
theorem dX6_sewnSleeves_5 : decode cX6_sewnSleeves 5 = .ok (.invokevirtual 205, 3) := by decide +kernel
theorem dX6_sewnSleeves_8 : decode cX6_sewnSleeves 8 = .ok (.ireturn, 1) := by decide +kernel
theorem dX6_demandCount_0 : decode cX6_demandCount 0 = .ok (.aload_n 0, 1) := by decide +kernel
theorem dX6_demandCount_1 : decode cX6_demandCount 1 = .ok (.iload_n 1, 1) := by decide +kernel
theorem dX6_demandCount_2 : decode cX6_demandCount 2 = .ok (.invokevirtual 173, 3) := by decide +kernel
theorem dX6_demandCount_5 : decode cX6_demandCount 5 = .ok (.getfield 209, 3) := by decide +kernel
theorem dX6_demandCount_8 : decode cX6_demandCount 8 = .ok (.ireturn, 1) := by decide +kernel
theorem dX6_isBefore_0 : decode cX6_isBefore 0 = .ok (.aload_n 0, 1) := by decide +kernel
theorem dX6_isBefore_1 : decode cX6_isBefore 1 = .ok (.iload_n 1, 1) := by decide +kernel
theorem dX6_isBefore_2 : decode cX6_isBefore 2 = .ok (.iload_n 2, 1) := by decide +kernel
theorem dX6_isBefore_3 : decode cX6_isBefore 3 = .ok (.invokevirtual 183, 3) := by decide +kernel
theorem dX6_isBefore_6 : decode cX6_isBefore 6 = .ok (.pop, 1) := by decide +kernel
theorem dX6_isBefore_7 : decode cX6_isBefore 7 = .ok (.aload_n 0, 1) := by decide +kernel
theorem dX6_isBefore_8 : decode cX6_isBefore 8 = .ok (.iload_n 1, 1) := by decide +kernel
theorem dX6_isBefore_9 : decode cX6_isBefore 9 = .ok (.iload_n 3, 1) := by decide +kernel
theorem dX6_isBefore_10 : decode cX6_isBefore 10 = .ok (.invokevirtual 183, 3) := by decide +kernel
theorem dX6_isBefore_13 : decode cX6_isBefore 13 = .ok (.iload_n 2, 1) := by decide +kernel
theorem dX6_isBefore_14 : decode cX6_isBefore 14 = .ok (.iload_n 3, 1) := by decide +kernel
theorem dX6_isBefore_15 : decode cX6_isBefore 15 = .ok (.invokevirtual 212, 3) := by decide +kernel
theorem dX6_isBefore_18 : decode cX6_isBefore 18 = .ok (.ireturn, 1) := by decide +kernel
theorem dX6_canDeliver_0 : decode cX6_canDeliver 0 = .ok (.aload_n 0, 1) := by decide +kernel
theorem dX6_canDeliver_1 : decode cX6_canDeliver 1 = .ok (.iload_n 1, 1) := by decide +kernel
theorem dX6_canDeliver_2 : decode cX6_canDeliver 2 = .ok (.invokevirtual 173, 3) := by decide +kernel
theorem dX6_canDeliver_5 : decode cX6_canDeliver 5 = .ok (.astore_n 2, 1) := by decide +kernel
theorem dX6_canDeliver_6 : decode cX6_canDeliver 6 = .ok (.aload_n 2, 1) := by decide +kernel
theorem dX6_canDeliver_7 : decode cX6_canDeliver 7 = .ok (.aload_n 0, 1) := by decide +kernel
theorem dX6_canDeliver_8 : decode cX6_canDeliver 8 = .ok (.getfield 12, 3) := by decide +kernel
theorem dX6_canDeliver_11 : decode cX6_canDeliver 11 = .ok (.aload_n 2, 1) := by decide +kernel
theorem dX6_canDeliver_12 : decode cX6_canDeliver 12 = .ok (.invokevirtual 197, 3) := by decide +kernel
theorem dX6_canDeliver_15 : decode cX6_canDeliver 15 = .ok (.invokevirtual 216, 3) := by decide +kernel
theorem dX6_canDeliver_18 : decode cX6_canDeliver 18 = .ok (.ireturn, 1) := by decide +kernel
theorem dX6_price_0 : decode cX6_price 0 = .ok (.aload_n 0, 1) := by decide +kernel
theorem dX6_price_1 : decode cX6_price 1 = .ok (.iload_n 1, 1) := by decide +kernel
theorem dX6_price_2 : decode cX6_price 2 = .ok (.invokevirtual 173, 3) := by decide +kernel
theorem dX6_price_5 : decode cX6_price 5 = .ok (.astore_n 2, 1) := by decide +kernel
theorem dX6_price_6 : decode cX6_price 6 = .ok (.aload_n 2, 1) := by decide +kernel
theorem dX6_price_7 : decode cX6_price 7 = .ok (.aload_n 0, 1) := by decide +kernel
theorem dX6_price_8 : decode cX6_price 8 = .ok (.getfield 12, 3) := by decide +kernel
theorem dX6_price_11 : decode cX6_price 11 = .ok (.aload_n 2, 1) := by decide +kernel
theorem dX6_price_12 : decode cX6_price 12 = .ok (.invokevirtual 197, 3) := by decide +kernel
theorem dX6_price_15 : decode cX6_price 15 = .ok (.invokevirtual 220, 3) := by decide +kernel
theorem dX6_price_18 : decode cX6_price 18 = .ok (.ireturn, 1) := by decide +kernel
theorem dX6_sleevesLeft_0 : decode cX6_sleevesLeft 0 = .ok (.aload_n 0, 1) := by decide +kernel
theorem dX6_sleevesLeft_1 : decode cX6_sleevesLeft 1 = .ok (.iload_n 1, 1) := by decide +kernel
theorem dX6_sleevesLeft_2 : decode cX6_sleevesLeft 2 = .ok (.invokevirtual 173, 3) := by decide +kernel
theorem dX6_sleevesLeft_5 : decode cX6_sleevesLeft 5 = .ok (.invokevirtual 224, 3) := by decide +kernel
theorem dX6_sleevesLeft_8 : decode cX6_sleevesLeft 8 = .ok (.ireturn, 1) := by decide +kernel
theorem dX6_sewingOrder_0 : decode cX6_sewingOrder 0 = .ok (.aload_n 0, 1) := by decide +kernel
theorem dX6_sewingOrder_1 : decode cX6_sewingOrder 1 = .ok (.getfield 37, 3) := by decide +kernel
theorem dX6_sewingOrder_4 : decode cX6_sewingOrder 4 = .ok (.aload_n 0, 1) := by decide +kernel
theorem dX6_sewingOrder_5 : decode cX6_sewingOrder 5 = .ok (.iload_n 1, 1) := by decide +kernel
theorem dX6_sewingOrder_6 : decode cX6_sewingOrder 6 = .ok (.invokevirtual 173, 3) := by decide +kernel
theorem dX6_sewingOrder_9 : decode cX6_sewingOrder 9 = .ok (.invokevirtual 227, 3) := by decide +kernel
theorem dX6_sewingOrder_12 : decode cX6_sewingOrder 12 = .ok (.istore_n 3, 1) := by decide +kernel
theorem dX6_sewingOrder_13 : decode cX6_sewingOrder 13 = .ok (.aload_n 0, 1) := by decide +kernel
theorem dX6_sewingOrder_14 : decode cX6_sewingOrder 14 = .ok (.getfield 37, 3) := by decide +kernel
theorem dX6_sewingOrder_17 : decode cX6_sewingOrder 17 = .ok (.getfield 231, 3) := by decide +kernel
theorem dX6_sewingOrder_20 : decode cX6_sewingOrder 20 = .ok (.iload_n 3, 1) := by decide +kernel
theorem dX6_sewingOrder_21 : decode cX6_sewingOrder 21 = .ok (.iload_n 2, 1) := by decide +kernel
theorem dX6_sewingOrder_22 : decode cX6_sewingOrder 22 = .ok (.invokestatic 234, 3) := by decide +kernel
theorem dX6_sewingOrder_25 : decode cX6_sewingOrder 25 = .ok (.ireturn, 1) := by decide +kernel
theorem dX6_sewingOrderByQueue_0 : decode cX6_sewingOrderByQueue 0 = .ok (.aload_n 0, 1) := by decide +kernel
theorem dX6_sewingOrderByQueue_1 : decode cX6_sewingOrderByQueue 1 = .ok (.getfield 37, 3) := by decide +kernel
theorem dX6_sewingOrderByQueue_4 : decode cX6_sewingOrderByQueue 4 = .ok (.aload_n 0, 1) := by decide +kernel
theorem dX6_sewingOrderByQueue_5 : decode cX6_sewingOrderByQueue 5 = .ok (.iload_n 1, 1) := by decide +kernel
theorem dX6_sewingOrderByQueue_6 : decode cX6_sewingOrderByQueue 6 = .ok (.invokevirtual 173, 3) := by decide +kernel
theorem dX6_sewingOrderByQueue_9 : decode cX6_sewingOrderByQueue 9 = .ok (.invokevirtual 238, 3) := by decide +kernel
theorem dX6_sewingOrderByQueue_12 : decode cX6_sewingOrderByQueue 12 = .ok (.istore_n 3, 1) := by decide +kernel
theorem dX6_sewingOrderByQueue_13 : decode cX6_sewingOrderByQueue 13 = .ok (.aload_n 0, 1) := by decide +kernel
theorem dX6_sewingOrderByQueue_14 : decode cX6_sewingOrderByQueue 14 = .ok (.getfield 37, 3) := by decide +kernel
theorem dX6_sewingOrderByQueue_17 : decode cX6_sewingOrderByQueue 17 = .ok (.getfield 241, 3) := by decide +kernel
theorem dX6_sewingOrderByQueue_20 : decode cX6_sewingOrderByQueue 20 = .ok (.iload_n 3, 1) := by decide +kernel
theorem dX6_sewingOrderByQueue_21 : decode cX6_sewingOrderByQueue 21 = .ok (.iload_n 2, 1) := by decide +kernel
theorem dX6_sewingOrderByQueue_22 : decode cX6_sewingOrderByQueue 22 = .ok (.invokestatic 234, 3) := by decide +kernel
theorem dX6_sewingOrderByQueue_25 : decode cX6_sewingOrderByQueue 25 = .ok (.ireturn, 1) := by decide +kernel
theorem dX6_rounds_0 : decode cX6_rounds 0 = .ok (.aload_n 0, 1) := by decide +kernel
theorem dX6_rounds_1 : decode cX6_rounds 1 = .ok (.iload_n 1, 1) := by decide +kernel
theorem dX6_rounds_2 : decode cX6_rounds 2 = .ok (.invokevirtual 173, 3) := by decide +kernel
theorem dX6_rounds_5 : decode cX6_rounds 5 = .ok (.invokevirtual 244, 3) := by decide +kernel
theorem dX6_rounds_8 : decode cX6_rounds 8 = .ok (.ireturn, 1) := by decide +kernel
theorem dX6_clothNeeded_0 : decode cX6_clothNeeded 0 = .ok (.aload_n 0, 1) := by decide +kernel
theorem dX6_clothNeeded_1 : decode cX6_clothNeeded 1 = .ok (.iload_n 1, 1) := by decide +kernel
theorem dX6_clothNeeded_2 : decode cX6_clothNeeded 2 = .ok (.invokevirtual 173, 3) := by decide +kernel
theorem dX6_clothNeeded_5 : decode cX6_clothNeeded 5 = .ok (.astore_n 2, 1) := by decide +kernel
theorem dX6_clothNeeded_6 : decode cX6_clothNeeded 6 = .ok (.aload_n 2, 1) := by decide +kernel
theorem dX6_clothNeeded_7 : decode cX6_clothNeeded 7 = .ok (.aload_n 0, 1) := by decide +kernel
theorem dX6_clothNeeded_8 : decode cX6_clothNeeded 8 = .ok (.getfield 12, 3) := by decide +kernel
theorem dX6_clothNeeded_11 : decode cX6_clothNeeded 11 = .ok (.aload_n 2, 1) := by decide +kernel
theorem dX6_clothNeeded_12 : decode cX6_clothNeeded 12 = .ok (.invokevirtual 197, 3) := by decide +kernel
theorem dX6_clothNeeded_15 : decode cX6_clothNeeded 15 = .ok (.invokevirtual 247, 3) := by decide +kernel
theorem dX6_clothNeeded_18 : decode cX6_clothNeeded 18 = .ok (.ireturn, 1) := by decide +kernel
theorem dX6_clothNeededByDifference_0 : decode cX6_clothNeededByDifference 0 = .ok (.aload_n 0, 1) := by decide +kernel
theorem dX6_clothNeededByDifference_1 : decode cX6_clothNeededByDifference 1 = .ok (.iload_n 1, 1) := by decide +kernel
theorem dX6_clothNeededByDifference_2 : decode cX6_clothNeededByDifference 2 = .ok (.invokevirtual 173, 3) := by decide +kernel
theorem dX6_clothNeededByDifference_5 : decode cX6_clothNeededByDifference 5 = .ok (.astore_n 2, 1) := by decide +kernel
theorem dX6_clothNeededByDifference_6 : decode cX6_clothNeededByDifference 6 = .ok (.aload_n 2, 1) := by decide +kernel
theorem dX6_clothNeededByDifference_7 : decode cX6_clothNeededByDifference 7 = .ok (.aload_n 0, 1) := by decide +kernel
theorem dX6_clothNeededByDifference_8 : decode cX6_clothNeededByDifference 8 = .ok (.getfield 12, 3) := by decide +kernel
theorem dX6_clothNeededByDifference_11 : decode cX6_clothNeededByDifference 11 = .ok (.aload_n 2, 1) := by decide +kernel
theorem dX6_clothNeededByDifference_12 : decode cX6_clothNeededByDifference 12 = .ok (.invokevirtual 197, 3) := by decide +kernel
theorem dX6_clothNeededByDifference_15 : decode cX6_clothNeededByDifference 15 = .ok (.invokevirtual 250, 3) := by decide +kernel
theorem dX6_clothNeededByDifference_18 : decode cX6_clothNeededByDifference 18 = .ok (.ireturn, 1) := by decide +kernel
theorem dX6_existing_0 : decode cX6_existing 0 = .ok (.aload_n 0, 1) := by decide +kernel
theorem dX6_existing_1 : decode cX6_existing 1 = .ok (.getfield 12, 3) := by decide +kernel
theorem dX6_existing_4 : decode cX6_existing 4 = .ok (.iload_n 1, 1) := by decide +kernel
theorem dX6_existing_5 : decode cX6_existing 5 = .ok (.invokevirtual 253, 3) := by decide +kernel
theorem dX6_existing_8 : decode cX6_existing 8 = .ok (.astore_n 2, 1) := by decide +kernel
theorem dX6_existing_9 : decode cX6_existing 9 = .ok (.aload_n 2, 1) := by decide +kernel
theorem dX6_existing_10 : decode cX6_existing 10 = .ok (.ifnonnull 13, 3) := by decide +kernel
theorem dX6_existing_13 : decode cX6_existing 13 = .ok (.new 79, 3) := by decide +kernel
theorem dX6_existing_16 : decode cX6_existing 16 = .ok (.dup, 1) := by decide +kernel
theorem dX6_existing_17 : decode cX6_existing 17 = .ok (.ldc 81, 2) := by decide +kernel
theorem dX6_existing_19 : decode cX6_existing 19 = .ok (.invokespecial 83, 3) := by decide +kernel
theorem dX6_existing_22 : decode cX6_existing 22 = .ok (.athrow, 1) := by decide +kernel
theorem dX6_existing_23 : decode cX6_existing 23 = .ok (.aload_n 2, 1) := by decide +kernel
theorem dX6_existing_24 : decode cX6_existing 24 = .ok (.areturn, 1) := by decide +kernel
theorem dX6_existingWithSleeve_0 : decode cX6_existingWithSleeve 0 = .ok (.aload_n 0, 1) := by decide +kernel
theorem dX6_existingWithSleeve_1 : decode cX6_existingWithSleeve 1 = .ok (.iload_n 1, 1) := by decide +kernel
theorem dX6_existingWithSleeve_2 : decode cX6_existingWithSleeve 2 = .ok (.invokevirtual 173, 3) := by decide +kernel
theorem dX6_existingWithSleeve_5 : decode cX6_existingWithSleeve 5 = .ok (.astore_n 3, 1) := by decide +kernel
theorem dX6_existingWithSleeve_6 : decode cX6_existingWithSleeve 6 = .ok (.aload_n 3, 1) := by decide +kernel
theorem dX6_existingWithSleeve_7 : decode cX6_existingWithSleeve 7 = .ok (.iload_n 2, 1) := by decide +kernel
theorem dX6_existingWithSleeve_8 : decode cX6_existingWithSleeve 8 = .ok (.invokevirtual 256, 3) := by decide +kernel
theorem dX6_existingWithSleeve_11 : decode cX6_existingWithSleeve 11 = .ok (.ifCond .ne 14, 3) := by decide +kernel
theorem dX6_existingWithSleeve_14 : decode cX6_existingWithSleeve 14 = .ok (.new 86, 3) := by decide +kernel
theorem dX6_existingWithSleeve_17 : decode cX6_existingWithSleeve 17 = .ok (.dup, 1) := by decide +kernel
theorem dX6_existingWithSleeve_18 : decode cX6_existingWithSleeve 18 = .ok (.ldc_w 259, 3) := by decide +kernel
theorem dX6_existingWithSleeve_21 : decode cX6_existingWithSleeve 21 = .ok (.invokespecial 90, 3) := by decide +kernel
theorem dX6_existingWithSleeve_24 : decode cX6_existingWithSleeve 24 = .ok (.athrow, 1) := by decide +kernel
theorem dX6_existingWithSleeve_25 : decode cX6_existingWithSleeve 25 = .ok (.aload_n 3, 1) := by decide +kernel
theorem dX6_existingWithSleeve_26 : decode cX6_existingWithSleeve 26 = .ok (.areturn, 1) := by decide +kernel
theorem dX6_existingWithPiece_0 : decode cX6_existingWithPiece 0 = .ok (.aload_n 0, 1) := by decide +kernel
theorem dX6_existingWithPiece_1 : decode cX6_existingWithPiece 1 = .ok (.iload_n 1, 1) := by decide +kernel
theorem dX6_existingWithPiece_2 : decode cX6_existingWithPiece 2 = .ok (.iload_n 2, 1) := by decide +kernel
theorem dX6_existingWithPiece_3 : decode cX6_existingWithPiece 3 = .ok (.invokevirtual 183, 3) := by decide +kernel
theorem dX6_existingWithPiece_6 : decode cX6_existingWithPiece 6 = .ok (.astore_n 3, 1) := by decide +kernel
theorem dX6_existingWithPiece_7 : decode cX6_existingWithPiece 7 = .ok (.aload_n 3, 1) := by decide +kernel
theorem dX6_existingWithPiece_8 : decode cX6_existingWithPiece 8 = .ok (.iload_n 2, 1) := by decide +kernel
theorem dX6_existingWithPiece_9 : decode cX6_existingWithPiece 9 = .ok (.invokevirtual 261, 3) := by decide +kernel
theorem dX6_existingWithPiece_12 : decode cX6_existingWithPiece 12 = .ok (.ifCond .eq 14, 3) := by decide +kernel
theorem dX6_existingWithPiece_15 : decode cX6_existingWithPiece 15 = .ok (.new 96, 3) := by decide +kernel
theorem dX6_existingWithPiece_18 : decode cX6_existingWithPiece 18 = .ok (.dup, 1) := by decide +kernel
theorem dX6_existingWithPiece_19 : decode cX6_existingWithPiece 19 = .ok (.ldc_w 264, 3) := by decide +kernel
theorem dX6_existingWithPiece_22 : decode cX6_existingWithPiece 22 = .ok (.invokespecial 100, 3) := by decide +kernel
theorem dX6_existingWithPiece_25 : decode cX6_existingWithPiece 25 = .ok (.athrow, 1) := by decide +kernel
theorem dX6_existingWithPiece_26 : decode cX6_existingWithPiece 26 = .ok (.aload_n 3, 1) := by decide +kernel
theorem dX6_existingWithPiece_27 : decode cX6_existingWithPiece 27 = .ok (.areturn, 1) := by decide +kernel
theorem dX6_placeInOrder_0 : decode cX6_placeInOrder 0 = .ok (.iload_n 2, 1) := by decide +kernel
theorem dX6_placeInOrder_1 : decode cX6_placeInOrder 1 = .ok (.ifCond .lt 8, 3) := by decide +kernel
theorem dX6_placeInOrder_4 : decode cX6_placeInOrder 4 = .ok (.iload_n 2, 1) := by decide +kernel
theorem dX6_placeInOrder_5 : decode cX6_placeInOrder 5 = .ok (.iload_n 1, 1) := by decide +kernel
theorem dX6_placeInOrder_6 : decode cX6_placeInOrder 6 = .ok (.if_icmp .lt 13, 3) := by decide +kernel
theorem dX6_placeInOrder_9 : decode cX6_placeInOrder 9 = .ok (.new 86, 3) := by decide +kernel
theorem dX6_placeInOrder_12 : decode cX6_placeInOrder 12 = .ok (.dup, 1) := by decide +kernel
theorem dX6_placeInOrder_13 : decode cX6_placeInOrder 13 = .ok (.ldc 162, 2) := by decide +kernel
theorem dX6_placeInOrder_15 : decode cX6_placeInOrder 15 = .ok (.invokespecial 90, 3) := by decide +kernel
theorem dX6_placeInOrder_18 : decode cX6_placeInOrder 18 = .ok (.athrow, 1) := by decide +kernel
theorem dX6_placeInOrder_19 : decode cX6_placeInOrder 19 = .ok (.aload_n 0, 1) := by decide +kernel
theorem dX6_placeInOrder_20 : decode cX6_placeInOrder 20 = .ok (.iload_n 2, 1) := by decide +kernel
theorem dX6_placeInOrder_21 : decode cX6_placeInOrder 21 = .ok (.iaload, 1) := by decide +kernel
theorem dX6_placeInOrder_22 : decode cX6_placeInOrder 22 = .ok (.ireturn, 1) := by decide +kernel
theorem dX6_boughtTotal_0 : decode cX6_boughtTotal 0 = .ok (.aload_n 0, 1) := by decide +kernel
theorem dX6_boughtTotal_1 : decode cX6_boughtTotal 1 = .ok (.getfield 12, 3) := by decide +kernel
theorem dX6_boughtTotal_4 : decode cX6_boughtTotal 4 = .ok (.getfield 266, 3) := by decide +kernel
theorem dX6_boughtTotal_7 : decode cX6_boughtTotal 7 = .ok (.ireturn, 1) := by decide +kernel
theorem dX6_wasteTotal_0 : decode cX6_wasteTotal 0 = .ok (.aload_n 0, 1) := by decide +kernel
theorem dX6_wasteTotal_1 : decode cX6_wasteTotal 1 = .ok (.getfield 12, 3) := by decide +kernel
theorem dX6_wasteTotal_4 : decode cX6_wasteTotal 4 = .ok (.getfield 269, 3) := by decide +kernel
theorem dX6_wasteTotal_7 : decode cX6_wasteTotal 7 = .ok (.ireturn, 1) := by decide +kernel
theorem dX6_deliveredTotal_0 : decode cX6_deliveredTotal 0 = .ok (.aload_n 0, 1) := by decide +kernel
theorem dX6_deliveredTotal_1 : decode cX6_deliveredTotal 1 = .ok (.getfield 12, 3) := by decide +kernel
theorem dX6_deliveredTotal_4 : decode cX6_deliveredTotal 4 = .ok (.getfield 272, 3) := by decide +kernel
theorem dX6_deliveredTotal_7 : decode cX6_deliveredTotal 7 = .ok (.ireturn, 1) := by decide +kernel
theorem dX6_income_0 : decode cX6_income 0 = .ok (.aload_n 0, 1) := by decide +kernel
theorem dX6_income_1 : decode cX6_income 1 = .ok (.getfield 12, 3) := by decide +kernel
theorem dX6_income_4 : decode cX6_income 4 = .ok (.getfield 275, 3) := by decide +kernel
theorem dX6_income_7 : decode cX6_income 7 = .ok (.ireturn, 1) := by decide +kernel
theorem dX6_deliveredSuits_0 : decode cX6_deliveredSuits 0 = .ok (.aload_n 0, 1) := by decide +kernel
theorem dX6_deliveredSuits_1 : decode cX6_deliveredSuits 1 = .ok (.getfield 12, 3) := by decide +kernel
theorem dX6_deliveredSuits_4 : decode cX6_deliveredSuits 4 = .ok (.getfield 278, 3) := by decide +kernel
theorem dX6_deliveredSuits_7 : decode cX6_deliveredSuits 7 = .ok (.ireturn, 1) := by decide +kernel
theorem dX6_meanLeg_0 : decode cX6_meanLeg 0 = .ok (.aload_n 0, 1) := by decide +kernel
theorem dX6_meanLeg_1 : decode cX6_meanLeg 1 = .ok (.iload_n 1, 1) := by decide +kernel
theorem dX6_meanLeg_2 : decode cX6_meanLeg 2 = .ok (.invokevirtual 118, 3) := by decide +kernel
theorem dX6_meanLeg_5 : decode cX6_meanLeg 5 = .ok (.astore_n 2, 1) := by decide +kernel
theorem dX6_meanLeg_6 : decode cX6_meanLeg 6 = .ok (.aload_n 2, 1) := by decide +kernel
theorem dX6_meanLeg_7 : decode cX6_meanLeg 7 = .ok (.getfield 122, 3) := by decide +kernel
theorem dX6_meanLeg_10 : decode cX6_meanLeg 10 = .ok (.ifCond .ne 7, 3) := by decide +kernel
theorem dX6_meanLeg_13 : decode cX6_meanLeg 13 = .ok (.dconst 0, 1) := by decide +kernel
theorem dX6_meanLeg_14 : decode cX6_meanLeg 14 = .ok (.goto 14, 3) := by decide +kernel
theorem dX6_meanLeg_17 : decode cX6_meanLeg 17 = .ok (.aload_n 2, 1) := by decide +kernel
theorem dX6_meanLeg_18 : decode cX6_meanLeg 18 = .ok (.invokevirtual 281, 3) := by decide +kernel
theorem dX6_meanLeg_21 : decode cX6_meanLeg 21 = .ok (.i2d, 1) := by decide +kernel
theorem dX6_meanLeg_22 : decode cX6_meanLeg 22 = .ok (.aload_n 2, 1) := by decide +kernel
theorem dX6_meanLeg_23 : decode cX6_meanLeg 23 = .ok (.getfield 122, 3) := by decide +kernel
theorem dX6_meanLeg_26 : decode cX6_meanLeg 26 = .ok (.i2d, 1) := by decide +kernel
theorem dX6_meanLeg_27 : decode cX6_meanLeg 27 = .ok (.ddiv, 1) := by decide +kernel
theorem dX6_meanLeg_28 : decode cX6_meanLeg 28 = .ok (.dreturn, 1) := by decide +kernel
theorem dX6_wasteShare_0 : decode cX6_wasteShare 0 = .ok (.aload_n 0, 1) := by decide +kernel
theorem dX6_wasteShare_1 : decode cX6_wasteShare 1 = .ok (.getfield 12, 3) := by decide +kernel
theorem dX6_wasteShare_4 : decode cX6_wasteShare 4 = .ok (.getfield 266, 3) := by decide +kernel
theorem dX6_wasteShare_7 : decode cX6_wasteShare 7 = .ok (.ifCond .ne 14, 3) := by decide +kernel
theorem dX6_wasteShare_10 : decode cX6_wasteShare 10 = .ok (.new 284, 3) := by decide +kernel
theorem dX6_wasteShare_13 : decode cX6_wasteShare 13 = .ok (.dup, 1) := by decide +kernel
theorem dX6_wasteShare_14 : decode cX6_wasteShare 14 = .ok (.ldc_w 286, 3) := by decide +kernel
theorem dX6_wasteShare_17 : decode cX6_wasteShare 17 = .ok (.invokespecial 288, 3) := by decide +kernel
theorem dX6_wasteShare_20 : decode cX6_wasteShare 20 = .ok (.athrow, 1) := by decide +kernel
theorem dX6_wasteShare_21 : decode cX6_wasteShare 21 = .ok (.aload_n 0, 1) := by decide +kernel
theorem dX6_wasteShare_22 : decode cX6_wasteShare 22 = .ok (.getfield 12, 3) := by decide +kernel
theorem dX6_wasteShare_25 : decode cX6_wasteShare 25 = .ok (.getfield 269, 3) := by decide +kernel
theorem dX6_wasteShare_28 : decode cX6_wasteShare 28 = .ok (.i2f, 1) := by decide +kernel
theorem dX6_wasteShare_29 : decode cX6_wasteShare 29 = .ok (.aload_n 0, 1) := by decide +kernel
theorem dX6_wasteShare_30 : decode cX6_wasteShare 30 = .ok (.getfield 12, 3) := by decide +kernel
theorem dX6_wasteShare_33 : decode cX6_wasteShare 33 = .ok (.getfield 266, 3) := by decide +kernel
theorem dX6_wasteShare_36 : decode cX6_wasteShare 36 = .ok (.i2f, 1) := by decide +kernel
theorem dX6_wasteShare_37 : decode cX6_wasteShare 37 = .ok (.fdiv, 1) := by decide +kernel
theorem dX6_wasteShare_38 : decode cX6_wasteShare 38 = .ok (.freturn, 1) := by decide +kernel
theorem dX6_isConsistent_0 : decode cX6_isConsistent 0 = .ok (.iconst 0, 1) := by decide +kernel
theorem dX6_isConsistent_1 : decode cX6_isConsistent 1 = .ok (.istore_n 1, 1) := by decide +kernel
theorem dX6_isConsistent_2 : decode cX6_isConsistent 2 = .ok (.iload_n 1, 1) := by decide +kernel
theorem dX6_isConsistent_3 : decode cX6_isConsistent 3 = .ok (.aload_n 0, 1) := by decide +kernel
theorem dX6_isConsistent_4 : decode cX6_isConsistent 4 = .ok (.getfield 12, 3) := by decide +kernel
theorem dX6_isConsistent_7 : decode cX6_isConsistent 7 = .ok (.getfield 159, 3) := by decide +kernel
theorem dX6_isConsistent_10 : decode cX6_isConsistent 10 = .ok (.if_icmp .ge 27, 3) := by decide +kernel
theorem dX6_isConsistent_13 : decode cX6_isConsistent 13 = .ok (.aload_n 0, 1) := by decide +kernel
theorem dX6_isConsistent_14 : decode cX6_isConsistent 14 = .ok (.aload_n 0, 1) := by decide +kernel
theorem dX6_isConsistent_15 : decode cX6_isConsistent 15 = .ok (.getfield 12, 3) := by decide +kernel
theorem dX6_isConsistent_18 : decode cX6_isConsistent 18 = .ok (.getfield 164, 3) := by decide +kernel
theorem dX6_isConsistent_21 : decode cX6_isConsistent 21 = .ok (.iload_n 1, 1) := by decide +kernel
theorem dX6_isConsistent_22 : decode cX6_isConsistent 22 = .ok (.aaload, 1) := by decide +kernel
theorem dX6_isConsistent_23 : decode cX6_isConsistent 23 = .ok (.invokevirtual 289, 3) := by decide +kernel
theorem dX6_isConsistent_26 : decode cX6_isConsistent 26 = .ok (.ifCond .ne 5, 3) := by decide +kernel
theorem dX6_isConsistent_29 : decode cX6_isConsistent 29 = .ok (.iconst 0, 1) := by decide +kernel
theorem dX6_isConsistent_30 : decode cX6_isConsistent 30 = .ok (.ireturn, 1) := by decide +kernel
theorem dX6_isConsistent_31 : decode cX6_isConsistent 31 = .ok (.iinc 1 1, 3) := by decide +kernel
theorem dX6_isConsistent_34 : decode cX6_isConsistent 34 = .ok (.goto (-32), 3) := by decide +kernel
theorem dX6_isConsistent_37 : decode cX6_isConsistent 37 = .ok (.aload_n 0, 1) := by decide +kernel
theorem dX6_isConsistent_38 : decode cX6_isConsistent 38 = .ok (.getfield 12, 3) := by decide +kernel
theorem dX6_isConsistent_41 : decode cX6_isConsistent 41 = .ok (.invokevirtual 293, 3) := by decide +kernel
theorem dX6_isConsistent_44 : decode cX6_isConsistent 44 = .ok (.ireturn, 1) := by decide +kernel
theorem dX6_isSuitConsistent_0 : decode cX6_isSuitConsistent 0 = .ok (.aload_n 0, 1) := by decide +kernel
theorem dX6_isSuitConsistent_1 : decode cX6_isSuitConsistent 1 = .ok (.getfield 12, 3) := by decide +kernel
theorem dX6_isSuitConsistent_4 : decode cX6_isSuitConsistent 4 = .ok (.aload_n 1, 1) := by decide +kernel
theorem dX6_isSuitConsistent_5 : decode cX6_isSuitConsistent 5 = .ok (.invokevirtual 197, 3) := by decide +kernel
theorem dX6_isSuitConsistent_8 : decode cX6_isSuitConsistent 8 = .ok (.astore_n 2, 1) := by decide +kernel
theorem dX6_isSuitConsistent_9 : decode cX6_isSuitConsistent 9 = .ok (.aload_n 0, 1) := by decide +kernel
theorem dX6_isSuitConsistent_10 : decode cX6_isSuitConsistent 10 = .ok (.getfield 37, 3) := by decide +kernel
theorem dX6_isSuitConsistent_13 : decode cX6_isSuitConsistent 13 = .ok (.aload_n 1, 1) := by decide +kernel
theorem dX6_isSuitConsistent_14 : decode cX6_isSuitConsistent 14 = .ok (.invokevirtual 296, 3) := by decide +kernel
theorem dX6_isSuitConsistent_17 : decode cX6_isSuitConsistent 17 = .ok (.ifCond .eq 34, 3) := by decide +kernel
theorem dX6_isSuitConsistent_20 : decode cX6_isSuitConsistent 20 = .ok (.aload_n 1, 1) := by decide +kernel
theorem dX6_isSuitConsistent_21 : decode cX6_isSuitConsistent 21 = .ok (.aload_n 2, 1) := by decide +kernel
theorem dX6_isSuitConsistent_22 : decode cX6_isSuitConsistent 22 = .ok (.invokevirtual 247, 3) := by decide +kernel
theorem dX6_isSuitConsistent_25 : decode cX6_isSuitConsistent 25 = .ok (.aload_n 1, 1) := by decide +kernel
theorem dX6_isSuitConsistent_26 : decode cX6_isSuitConsistent 26 = .ok (.aload_n 2, 1) := by decide +kernel
theorem dX6_isSuitConsistent_27 : decode cX6_isSuitConsistent 27 = .ok (.invokevirtual 250, 3) := by decide +kernel
theorem dX6_isSuitConsistent_30 : decode cX6_isSuitConsistent 30 = .ok (.if_icmp .ne 21, 3) := by decide +kernel
theorem dX6_isSuitConsistent_33 : decode cX6_isSuitConsistent 33 = .ok (.aload_n 1, 1) := by decide +kernel
theorem dX6_isSuitConsistent_34 : decode cX6_isSuitConsistent 34 = .ok (.invokevirtual 299, 3) := by decide +kernel
theorem dX6_isSuitConsistent_37 : decode cX6_isSuitConsistent 37 = .ok (.ifCond .ne 14, 3) := by decide +kernel
theorem dX6_isSuitConsistent_40 : decode cX6_isSuitConsistent 40 = .ok (.aload_n 1, 1) := by decide +kernel
theorem dX6_isSuitConsistent_41 : decode cX6_isSuitConsistent 41 = .ok (.invokevirtual 302, 3) := by decide +kernel
theorem dX6_isSuitConsistent_44 : decode cX6_isSuitConsistent 44 = .ok (.ifCond .eq 7, 3) := by decide +kernel
theorem dX6_isSuitConsistent_47 : decode cX6_isSuitConsistent 47 = .ok (.iconst 1, 1) := by decide +kernel
theorem dX6_isSuitConsistent_48 : decode cX6_isSuitConsistent 48 = .ok (.goto 4, 3) := by decide +kernel
theorem dX6_isSuitConsistent_51 : decode cX6_isSuitConsistent 51 = .ok (.iconst 0, 1) := by decide +kernel
theorem dX6_isSuitConsistent_52 : decode cX6_isSuitConsistent 52 = .ok (.ireturn, 1) := by decide +kernel
theorem dX6_renderSuit_0 : decode cX6_renderSuit 0 = .ok (.aload_n 0, 1) := by decide +kernel
theorem dX6_renderSuit_1 : decode cX6_renderSuit 1 = .ok (.iload_n 1, 1) := by decide +kernel
theorem dX6_renderSuit_2 : decode cX6_renderSuit 2 = .ok (.invokevirtual 173, 3) := by decide +kernel
theorem dX6_renderSuit_5 : decode cX6_renderSuit 5 = .ok (.astore_n 2, 1) := by decide +kernel
theorem dX6_renderSuit_6 : decode cX6_renderSuit 6 = .ok (.aload_n 0, 1) := by decide +kernel
theorem dX6_renderSuit_7 : decode cX6_renderSuit 7 = .ok (.getfield 57, 3) := by decide +kernel
theorem dX6_renderSuit_10 : decode cX6_renderSuit 10 = .ok (.iconst 0, 1) := by decide +kernel
theorem dX6_renderSuit_11 : decode cX6_renderSuit 11 = .ok (.invokevirtual 305, 3) := by decide +kernel
theorem dX6_renderSuit_14 : decode cX6_renderSuit 14 = .ok (.iconst 0, 1) := by decide +kernel
theorem dX6_renderSuit_15 : decode cX6_renderSuit 15 = .ok (.istore_n 3, 1) := by decide +kernel
theorem dX6_renderSuit_16 : decode cX6_renderSuit 16 = .ok (.iload_n 3, 1) := by decide +kernel
theorem dX6_renderSuit_17 : decode cX6_renderSuit 17 = .ok (.aload_n 2, 1) := by decide +kernel
theorem dX6_renderSuit_18 : decode cX6_renderSuit 18 = .ok (.getfield 308, 3) := by decide +kernel
theorem dX6_renderSuit_21 : decode cX6_renderSuit 21 = .ok (.if_icmp .ge 40, 3) := by decide +kernel
theorem dX6_renderSuit_24 : decode cX6_renderSuit 24 = .ok (.iload_n 3, 1) := by decide +kernel
theorem dX6_renderSuit_25 : decode cX6_renderSuit 25 = .ok (.ifCond .le 24, 3) := by decide +kernel
theorem dX6_renderSuit_28 : decode cX6_renderSuit 28 = .ok (.aload_n 0, 1) := by decide +kernel
theorem dX6_renderSuit_29 : decode cX6_renderSuit 29 = .ok (.getfield 57, 3) := by decide +kernel
theorem dX6_renderSuit_32 : decode cX6_renderSuit 32 = .ok (.iload_n 3, 1) := by decide +kernel
theorem dX6_renderSuit_33 : decode cX6_renderSuit 33 = .ok (.iconst 2, 1) := by decide +kernel
theorem dX6_renderSuit_34 : decode cX6_renderSuit 34 = .ok (.irem, 1) := by decide +kernel
theorem dX6_renderSuit_35 : decode cX6_renderSuit 35 = .ok (.ifCond .ne 8, 3) := by decide +kernel
theorem dX6_renderSuit_38 : decode cX6_renderSuit 38 = .ok (.bipush 124, 2) := by decide +kernel
theorem dX6_renderSuit_40 : decode cX6_renderSuit 40 = .ok (.goto 5, 3) := by decide +kernel
theorem dX6_renderSuit_43 : decode cX6_renderSuit 43 = .ok (.bipush 32, 2) := by decide +kernel
theorem dX6_renderSuit_45 : decode cX6_renderSuit 45 = .ok (.invokevirtual 311, 3) := by decide +kernel
theorem dX6_renderSuit_48 : decode cX6_renderSuit 48 = .ok (.pop, 1) := by decide +kernel
theorem dX6_renderSuit_49 : decode cX6_renderSuit 49 = .ok (.aload_n 0, 1) := by decide +kernel
theorem dX6_renderSuit_50 : decode cX6_renderSuit 50 = .ok (.aload_n 2, 1) := by decide +kernel
theorem dX6_renderSuit_51 : decode cX6_renderSuit 51 = .ok (.iload_n 3, 1) := by decide +kernel
theorem dX6_renderSuit_52 : decode cX6_renderSuit 52 = .ok (.invokevirtual 315, 3) := by decide +kernel
theorem dX6_renderSuit_55 : decode cX6_renderSuit 55 = .ok (.iinc 3 1, 3) := by decide +kernel
theorem dX6_renderSuit_58 : decode cX6_renderSuit 58 = .ok (.goto (-42), 3) := by decide +kernel
theorem dX6_renderSuit_61 : decode cX6_renderSuit 61 = .ok (.aload_n 0, 1) := by decide +kernel
theorem dX6_renderSuit_62 : decode cX6_renderSuit 62 = .ok (.getfield 57, 3) := by decide +kernel
theorem dX6_renderSuit_65 : decode cX6_renderSuit 65 = .ok (.invokevirtual 319, 3) := by decide +kernel
theorem dX6_renderSuit_68 : decode cX6_renderSuit 68 = .ok (.ireturn, 1) := by decide +kernel
theorem dX6_renderSleeve_0 : decode cX6_renderSleeve 0 = .ok (.aload_n 1, 1) := by decide +kernel
theorem dX6_renderSleeve_1 : decode cX6_renderSleeve 1 = .ok (.iload_n 2, 1) := by decide +kernel
theorem dX6_renderSleeve_2 : decode cX6_renderSleeve 2 = .ok (.invokevirtual 261, 3) := by decide +kernel
theorem dX6_renderSleeve_5 : decode cX6_renderSleeve 5 = .ok (.ifCond .eq 16, 3) := by decide +kernel
theorem dX6_renderSleeve_8 : decode cX6_renderSleeve 8 = .ok (.aload_n 0, 1) := by decide +kernel
theorem dX6_renderSleeve_9 : decode cX6_renderSleeve 9 = .ok (.getfield 57, 3) := by decide +kernel
theorem dX6_renderSleeve_12 : decode cX6_renderSleeve 12 = .ok (.bipush 46, 2) := by decide +kernel
theorem dX6_renderSleeve_14 : decode cX6_renderSleeve 14 = .ok (.invokevirtual 311, 3) := by decide +kernel
theorem dX6_renderSleeve_17 : decode cX6_renderSleeve 17 = .ok (.pop, 1) := by decide +kernel
theorem dX6_renderSleeve_18 : decode cX6_renderSleeve 18 = .ok (.goto 31, 3) := by decide +kernel
theorem dX6_renderSleeve_21 : decode cX6_renderSleeve 21 = .ok (.aload_n 0, 1) := by decide +kernel
theorem dX6_renderSleeve_22 : decode cX6_renderSleeve 22 = .ok (.getfield 57, 3) := by decide +kernel
theorem dX6_renderSleeve_25 : decode cX6_renderSleeve 25 = .ok (.aload_n 1, 1) := by decide +kernel
theorem dX6_renderSleeve_26 : decode cX6_renderSleeve 26 = .ok (.getfield 194, 3) := by decide +kernel
theorem dX6_renderSleeve_29 : decode cX6_renderSleeve 29 = .ok (.iload_n 2, 1) := by decide +kernel
theorem dX6_renderSleeve_30 : decode cX6_renderSleeve 30 = .ok (.iaload, 1) := by decide +kernel
theorem dX6_renderSleeve_31 : decode cX6_renderSleeve 31 = .ok (.invokevirtual 322, 3) := by decide +kernel
theorem dX6_renderSleeve_34 : decode cX6_renderSleeve 34 = .ok (.pop, 1) := by decide +kernel
theorem dX6_renderSleeve_35 : decode cX6_renderSleeve 35 = .ok (.aload_n 0, 1) := by decide +kernel
theorem dX6_renderSleeve_36 : decode cX6_renderSleeve 36 = .ok (.getfield 57, 3) := by decide +kernel
theorem dX6_renderSleeve_39 : decode cX6_renderSleeve 39 = .ok (.aload_n 1, 1) := by decide +kernel
theorem dX6_renderSleeve_40 : decode cX6_renderSleeve 40 = .ok (.getfield 187, 3) := by decide +kernel
theorem dX6_renderSleeve_43 : decode cX6_renderSleeve 43 = .ok (.iload_n 2, 1) := by decide +kernel
theorem dX6_renderSleeve_44 : decode cX6_renderSleeve 44 = .ok (.caload, 1) := by decide +kernel
theorem dX6_renderSleeve_45 : decode cX6_renderSleeve 45 = .ok (.invokevirtual 311, 3) := by decide +kernel
theorem dX6_renderSleeve_48 : decode cX6_renderSleeve 48 = .ok (.pop, 1) := by decide +kernel
theorem dX6_renderSleeve_49 : decode cX6_renderSleeve 49 = .ok (.return_, 1) := by decide +kernel
theorem dX6_renderOrder_0 : decode cX6_renderOrder 0 = .ok (.aload_n 0, 1) := by decide +kernel
theorem dX6_renderOrder_1 : decode cX6_renderOrder 1 = .ok (.getfield 37, 3) := by decide +kernel
theorem dX6_renderOrder_4 : decode cX6_renderOrder 4 = .ok (.aload_n 0, 1) := by decide +kernel
theorem dX6_renderOrder_5 : decode cX6_renderOrder 5 = .ok (.iload_n 1, 1) := by decide +kernel
theorem dX6_renderOrder_6 : decode cX6_renderOrder 6 = .ok (.invokevirtual 173, 3) := by decide +kernel
theorem dX6_renderOrder_9 : decode cX6_renderOrder 9 = .ok (.invokevirtual 227, 3) := by decide +kernel
theorem dX6_renderOrder_12 : decode cX6_renderOrder 12 = .ok (.istore_n 2, 1) := by decide +kernel
theorem dX6_renderOrder_13 : decode cX6_renderOrder 13 = .ok (.aload_n 0, 1) := by decide +kernel
theorem dX6_renderOrder_14 : decode cX6_renderOrder 14 = .ok (.getfield 57, 3) := by decide +kernel
theorem dX6_renderOrder_17 : decode cX6_renderOrder 17 = .ok (.iconst 0, 1) := by decide +kernel
theorem dX6_renderOrder_18 : decode cX6_renderOrder 18 = .ok (.invokevirtual 305, 3) := by decide +kernel
theorem dX6_renderOrder_21 : decode cX6_renderOrder 21 = .ok (.iconst 0, 1) := by decide +kernel
theorem dX6_renderOrder_22 : decode cX6_renderOrder 22 = .ok (.istore_n 3, 1) := by decide +kernel
theorem dX6_renderOrder_23 : decode cX6_renderOrder 23 = .ok (.iload_n 3, 1) := by decide +kernel
theorem dX6_renderOrder_24 : decode cX6_renderOrder 24 = .ok (.iload_n 2, 1) := by decide +kernel
theorem dX6_renderOrder_25 : decode cX6_renderOrder 25 = .ok (.if_icmp .ge 40, 3) := by decide +kernel
theorem dX6_renderOrder_28 : decode cX6_renderOrder 28 = .ok (.iload_n 3, 1) := by decide +kernel
theorem dX6_renderOrder_29 : decode cX6_renderOrder 29 = .ok (.ifCond .le 13, 3) := by decide +kernel
theorem dX6_renderOrder_32 : decode cX6_renderOrder 32 = .ok (.aload_n 0, 1) := by decide +kernel
theorem dX6_renderOrder_33 : decode cX6_renderOrder 33 = .ok (.getfield 57, 3) := by decide +kernel
theorem dX6_renderOrder_36 : decode cX6_renderOrder 36 = .ok (.bipush 44, 2) := by decide +kernel
theorem dX6_renderOrder_38 : decode cX6_renderOrder 38 = .ok (.invokevirtual 311, 3) := by decide +kernel
theorem dX6_renderOrder_41 : decode cX6_renderOrder 41 = .ok (.pop, 1) := by decide +kernel
theorem dX6_renderOrder_42 : decode cX6_renderOrder 42 = .ok (.aload_n 0, 1) := by decide +kernel
theorem dX6_renderOrder_43 : decode cX6_renderOrder 43 = .ok (.getfield 57, 3) := by decide +kernel
theorem dX6_renderOrder_46 : decode cX6_renderOrder 46 = .ok (.aload_n 0, 1) := by decide +kernel
theorem dX6_renderOrder_47 : decode cX6_renderOrder 47 = .ok (.getfield 37, 3) := by decide +kernel
theorem dX6_renderOrder_50 : decode cX6_renderOrder 50 = .ok (.getfield 231, 3) := by decide +kernel
theorem dX6_renderOrder_53 : decode cX6_renderOrder 53 = .ok (.iload_n 3, 1) := by decide +kernel
theorem dX6_renderOrder_54 : decode cX6_renderOrder 54 = .ok (.iaload, 1) := by decide +kernel
theorem dX6_renderOrder_55 : decode cX6_renderOrder 55 = .ok (.invokevirtual 322, 3) := by decide +kernel
theorem dX6_renderOrder_58 : decode cX6_renderOrder 58 = .ok (.pop, 1) := by decide +kernel
theorem dX6_renderOrder_59 : decode cX6_renderOrder 59 = .ok (.iinc 3 1, 3) := by decide +kernel
theorem dX6_renderOrder_62 : decode cX6_renderOrder 62 = .ok (.goto (-39), 3) := by decide +kernel
theorem dX6_renderOrder_65 : decode cX6_renderOrder 65 = .ok (.aload_n 0, 1) := by decide +kernel
theorem dX6_renderOrder_66 : decode cX6_renderOrder 66 = .ok (.getfield 57, 3) := by decide +kernel
theorem dX6_renderOrder_69 : decode cX6_renderOrder 69 = .ok (.invokevirtual 319, 3) := by decide +kernel
theorem dX6_renderOrder_72 : decode cX6_renderOrder 72 = .ok (.ireturn, 1) := by decide +kernel
theorem dX6_outputAt_0 : decode cX6_outputAt 0 = .ok (.iload_n 1, 1) := by decide +kernel
theorem dX6_outputAt_1 : decode cX6_outputAt 1 = .ok (.ifCond .lt 14, 3) := by decide +kernel
theorem dX6_outputAt_4 : decode cX6_outputAt 4 = .ok (.iload_n 1, 1) := by decide +kernel
theorem dX6_outputAt_5 : decode cX6_outputAt 5 = .ok (.aload_n 0, 1) := by decide +kernel
theorem dX6_outputAt_6 : decode cX6_outputAt 6 = .ok (.getfield 57, 3) := by decide +kernel
theorem dX6_outputAt_9 : decode cX6_outputAt 9 = .ok (.invokevirtual 319, 3) := by decide +kernel
theorem dX6_outputAt_12 : decode cX6_outputAt 12 = .ok (.if_icmp .lt 14, 3) := by decide +kernel
theorem dX6_outputAt_15 : decode cX6_outputAt 15 = .ok (.new 86, 3) := by decide +kernel
theorem dX6_outputAt_18 : decode cX6_outputAt 18 = .ok (.dup, 1) := by decide +kernel
theorem dX6_outputAt_19 : decode cX6_outputAt 19 = .ok (.ldc_w 325, 3) := by decide +kernel
theorem dX6_outputAt_22 : decode cX6_outputAt 22 = .ok (.invokespecial 90, 3) := by decide +kernel
theorem dX6_outputAt_25 : decode cX6_outputAt 25 = .ok (.athrow, 1) := by decide +kernel
theorem dX6_outputAt_26 : decode cX6_outputAt 26 = .ok (.aload_n 0, 1) := by decide +kernel
theorem dX6_outputAt_27 : decode cX6_outputAt 27 = .ok (.getfield 57, 3) := by decide +kernel
theorem dX6_outputAt_30 : decode cX6_outputAt 30 = .ok (.iload_n 1, 1) := by decide +kernel
theorem dX6_outputAt_31 : decode cX6_outputAt 31 = .ok (.invokevirtual 327, 3) := by decide +kernel
theorem dX6_outputAt_34 : decode cX6_outputAt 34 = .ok (.ireturn, 1) := by decide +kernel
theorem dX6_type_0 : decode cX6_type 0 = .ok (.iload_n 1, 1) := by decide +kernel
theorem dX6_type_1 : decode cX6_type 1 = .ok (.bipush 32, 2) := by decide +kernel
theorem dX6_type_3 : decode cX6_type 3 = .ok (.if_icmp .lt 9, 3) := by decide +kernel
theorem dX6_type_6 : decode cX6_type 6 = .ok (.iload_n 1, 1) := by decide +kernel
theorem dX6_type_7 : decode cX6_type 7 = .ok (.bipush 126, 2) := by decide +kernel
theorem dX6_type_9 : decode cX6_type 9 = .ok (.if_icmp .le 14, 3) := by decide +kernel
theorem dX6_type_12 : decode cX6_type 12 = .ok (.new 91, 3) := by decide +kernel
theorem dX6_type_15 : decode cX6_type 15 = .ok (.dup, 1) := by decide +kernel
theorem dX6_type_16 : decode cX6_type 16 = .ok (.ldc_w 331, 3) := by decide +kernel
theorem dX6_type_19 : decode cX6_type 19 = .ok (.invokespecial 95, 3) := by decide +kernel
theorem dX6_type_22 : decode cX6_type 22 = .ok (.athrow, 1) := by decide +kernel
theorem dX6_type_23 : decode cX6_type 23 = .ok (.aload_n 0, 1) := by decide +kernel
theorem dX6_type_24 : decode cX6_type 24 = .ok (.getfield 44, 3) := by decide +kernel
theorem dX6_type_27 : decode cX6_type 27 = .ok (.getfield 333, 3) := by decide +kernel
theorem dX6_type_30 : decode cX6_type 30 = .ok (.bipush 60, 2) := by decide +kernel
theorem dX6_type_32 : decode cX6_type 32 = .ok (.if_icmp .ne 14, 3) := by decide +kernel
theorem dX6_type_35 : decode cX6_type 35 = .ok (.new 96, 3) := by decide +kernel
theorem dX6_type_38 : decode cX6_type 38 = .ok (.dup, 1) := by decide +kernel
theorem dX6_type_39 : decode cX6_type 39 = .ok (.ldc_w 335, 3) := by decide +kernel
theorem dX6_type_42 : decode cX6_type 42 = .ok (.invokespecial 100, 3) := by decide +kernel
theorem dX6_type_45 : decode cX6_type 45 = .ok (.athrow, 1) := by decide +kernel
theorem dX6_type_46 : decode cX6_type 46 = .ok (.aload_n 0, 1) := by decide +kernel
theorem dX6_type_47 : decode cX6_type 47 = .ok (.getfield 44, 3) := by decide +kernel
theorem dX6_type_50 : decode cX6_type 50 = .ok (.iload_n 1, 1) := by decide +kernel
theorem dX6_type_51 : decode cX6_type 51 = .ok (.invokevirtual 337, 3) := by decide +kernel
theorem dX6_type_54 : decode cX6_type 54 = .ok (.ireturn, 1) := by decide +kernel
theorem dX6_runScript_0 : decode cX6_runScript 0 = .ok (.aload_n 0, 1) := by decide +kernel
theorem dX6_runScript_1 : decode cX6_runScript 1 = .ok (.getfield 44, 3) := by decide +kernel
theorem dX6_runScript_4 : decode cX6_runScript 4 = .ok (.invokevirtual 340, 3) := by decide +kernel
theorem dX6_runScript_7 : decode cX6_runScript 7 = .ok (.istore_n 1, 1) := by decide +kernel
theorem dX6_runScript_8 : decode cX6_runScript 8 = .ok (.aload_n 0, 1) := by decide +kernel
theorem dX6_runScript_9 : decode cX6_runScript 9 = .ok (.getfield 44, 3) := by decide +kernel
theorem dX6_runScript_12 : decode cX6_runScript 12 = .ok (.iconst 0, 1) := by decide +kernel
theorem dX6_runScript_13 : decode cX6_runScript 13 = .ok (.putfield 333, 3) := by decide +kernel
theorem dX6_runScript_16 : decode cX6_runScript 16 = .ok (.iload_n 1, 1) := by decide +kernel
theorem dX6_runScript_17 : decode cX6_runScript 17 = .ok (.iconst (-1), 1) := by decide +kernel
theorem dX6_runScript_18 : decode cX6_runScript 18 = .ok (.if_icmp .eq 19, 3) := by decide +kernel
theorem dX6_runScript_21 : decode cX6_runScript 21 = .ok (.aload_n 0, 1) := by decide +kernel
theorem dX6_runScript_22 : decode cX6_runScript 22 = .ok (.iload_n 1, 1) := by decide +kernel
theorem dX6_runScript_23 : decode cX6_runScript 23 = .ok (.putfield 48, 3) := by decide +kernel
theorem dX6_runScript_26 : decode cX6_runScript 26 = .ok (.new 91, 3) := by decide +kernel
theorem dX6_runScript_29 : decode cX6_runScript 29 = .ok (.dup, 1) := by decide +kernel
theorem dX6_runScript_30 : decode cX6_runScript 30 = .ok (.ldc_w 343, 3) := by decide +kernel
theorem dX6_runScript_33 : decode cX6_runScript 33 = .ok (.invokespecial 95, 3) := by decide +kernel
theorem dX6_runScript_36 : decode cX6_runScript 36 = .ok (.athrow, 1) := by decide +kernel
theorem dX6_runScript_37 : decode cX6_runScript 37 = .ok (.aload_n 0, 1) := by decide +kernel
theorem dX6_runScript_38 : decode cX6_runScript 38 = .ok (.getfield 16, 3) := by decide +kernel
theorem dX6_runScript_41 : decode cX6_runScript 41 = .ok (.aload_n 0, 1) := by decide +kernel
theorem dX6_runScript_42 : decode cX6_runScript 42 = .ok (.getfield 12, 3) := by decide +kernel
theorem dX6_runScript_45 : decode cX6_runScript 45 = .ok (.invokevirtual 65, 3) := by decide +kernel
theorem dX6_runScript_48 : decode cX6_runScript 48 = .ok (.aload_n 0, 1) := by decide +kernel
theorem dX6_runScript_49 : decode cX6_runScript 49 = .ok (.getfield 44, 3) := by decide +kernel
theorem dX6_runScript_52 : decode cX6_runScript 52 = .ok (.aload_n 0, 1) := by decide +kernel
theorem dX6_runScript_53 : decode cX6_runScript 53 = .ok (.getfield 16, 3) := by decide +kernel
theorem dX6_runScript_56 : decode cX6_runScript 56 = .ok (.invokevirtual 345, 3) := by decide +kernel
theorem dX6_runScript_59 : decode cX6_runScript 59 = .ok (.istore_n 2, 1) := by decide +kernel
theorem dX6_runScript_60 : decode cX6_runScript 60 = .ok (.iload_n 2, 1) := by decide +kernel
theorem dX6_runScript_61 : decode cX6_runScript 61 = .ok (.iconst (-1), 1) := by decide +kernel
theorem dX6_runScript_62 : decode cX6_runScript 62 = .ok (.if_icmp .eq 19, 3) := by decide +kernel
theorem dX6_runScript_65 : decode cX6_runScript 65 = .ok (.aload_n 0, 1) := by decide +kernel
theorem dX6_runScript_66 : decode cX6_runScript 66 = .ok (.iload_n 2, 1) := by decide +kernel
theorem dX6_runScript_67 : decode cX6_runScript 67 = .ok (.putfield 51, 3) := by decide +kernel
theorem dX6_runScript_70 : decode cX6_runScript 70 = .ok (.new 96, 3) := by decide +kernel
theorem dX6_runScript_73 : decode cX6_runScript 73 = .ok (.dup, 1) := by decide +kernel
theorem dX6_runScript_74 : decode cX6_runScript 74 = .ok (.ldc_w 349, 3) := by decide +kernel
theorem dX6_runScript_77 : decode cX6_runScript 77 = .ok (.invokespecial 100, 3) := by decide +kernel
theorem dX6_runScript_80 : decode cX6_runScript 80 = .ok (.athrow, 1) := by decide +kernel
theorem dX6_runScript_81 : decode cX6_runScript 81 = .ok (.aload_n 0, 1) := by decide +kernel
theorem dX6_runScript_82 : decode cX6_runScript 82 = .ok (.invokevirtual 76, 3) := by decide +kernel
theorem dX6_runScript_85 : decode cX6_runScript 85 = .ok (.aload_n 0, 1) := by decide +kernel
theorem dX6_runScript_86 : decode cX6_runScript 86 = .ok (.getfield 44, 3) := by decide +kernel
theorem dX6_runScript_89 : decode cX6_runScript 89 = .ok (.getfield 351, 3) := by decide +kernel
theorem dX6_runScript_92 : decode cX6_runScript 92 = .ok (.ireturn, 1) := by decide +kernel
theorem dX6_errorPosition_0 : decode cX6_errorPosition 0 = .ok (.aload_n 0, 1) := by decide +kernel
theorem dX6_errorPosition_1 : decode cX6_errorPosition 1 = .ok (.getfield 48, 3) := by decide +kernel
theorem dX6_errorPosition_4 : decode cX6_errorPosition 4 = .ok (.iconst (-1), 1) := by decide +kernel
theorem dX6_errorPosition_5 : decode cX6_errorPosition 5 = .ok (.if_icmp .ne 14, 3) := by decide +kernel
theorem dX6_errorPosition_8 : decode cX6_errorPosition 8 = .ok (.new 79, 3) := by decide +kernel
theorem dX6_errorPosition_11 : decode cX6_errorPosition 11 = .ok (.dup, 1) := by decide +kernel
theorem dX6_errorPosition_12 : decode cX6_errorPosition 12 = .ok (.ldc_w 354, 3) := by decide +kernel
theorem dX6_errorPosition_15 : decode cX6_errorPosition 15 = .ok (.invokespecial 83, 3) := by decide +kernel
theorem dX6_errorPosition_18 : decode cX6_errorPosition 18 = .ok (.athrow, 1) := by decide +kernel
theorem dX6_errorPosition_19 : decode cX6_errorPosition 19 = .ok (.aload_n 0, 1) := by decide +kernel
theorem dX6_errorPosition_20 : decode cX6_errorPosition 20 = .ok (.getfield 48, 3) := by decide +kernel
theorem dX6_errorPosition_23 : decode cX6_errorPosition 23 = .ok (.ireturn, 1) := by decide +kernel
theorem dX6_failedCommand_0 : decode cX6_failedCommand 0 = .ok (.aload_n 0, 1) := by decide +kernel
theorem dX6_failedCommand_1 : decode cX6_failedCommand 1 = .ok (.getfield 51, 3) := by decide +kernel
theorem dX6_failedCommand_4 : decode cX6_failedCommand 4 = .ok (.iconst (-1), 1) := by decide +kernel
theorem dX6_failedCommand_5 : decode cX6_failedCommand 5 = .ok (.if_icmp .ne 14, 3) := by decide +kernel
theorem dX6_failedCommand_8 : decode cX6_failedCommand 8 = .ok (.new 79, 3) := by decide +kernel
theorem dX6_failedCommand_11 : decode cX6_failedCommand 11 = .ok (.dup, 1) := by decide +kernel
theorem dX6_failedCommand_12 : decode cX6_failedCommand 12 = .ok (.ldc_w 356, 3) := by decide +kernel
theorem dX6_failedCommand_15 : decode cX6_failedCommand 15 = .ok (.invokespecial 83, 3) := by decide +kernel
theorem dX6_failedCommand_18 : decode cX6_failedCommand 18 = .ok (.athrow, 1) := by decide +kernel
theorem dX6_failedCommand_19 : decode cX6_failedCommand 19 = .ok (.aload_n 0, 1) := by decide +kernel
theorem dX6_failedCommand_20 : decode cX6_failedCommand 20 = .ok (.getfield 51, 3) := by decide +kernel
theorem dX6_failedCommand_23 : decode cX6_failedCommand 23 = .ok (.ireturn, 1) := by decide +kernel
theorem dX6_undo_0 : decode cX6_undo 0 = .ok (.aload_n 0, 1) := by decide +kernel
theorem dX6_undo_1 : decode cX6_undo 1 = .ok (.getfield 30, 3) := by decide +kernel
theorem dX6_undo_4 : decode cX6_undo 4 = .ok (.ifCond .ne 14, 3) := by decide +kernel
theorem dX6_undo_7 : decode cX6_undo 7 = .ok (.new 79, 3) := by decide +kernel
theorem dX6_undo_10 : decode cX6_undo 10 = .ok (.dup, 1) := by decide +kernel
theorem dX6_undo_11 : decode cX6_undo 11 = .ok (.ldc_w 358, 3) := by decide +kernel
theorem dX6_undo_14 : decode cX6_undo 14 = .ok (.invokespecial 83, 3) := by decide +kernel
theorem dX6_undo_17 : decode cX6_undo 17 = .ok (.athrow, 1) := by decide +kernel
theorem dX6_undo_18 : decode cX6_undo 18 = .ok (.aload_n 0, 1) := by decide +kernel
theorem dX6_undo_19 : decode cX6_undo 19 = .ok (.dup, 1) := by decide +kernel
theorem dX6_undo_20 : decode cX6_undo 20 = .ok (.getfield 30, 3) := by decide +kernel
theorem dX6_undo_23 : decode cX6_undo 23 = .ok (.iconst 1, 1) := by decide +kernel
theorem dX6_undo_24 : decode cX6_undo 24 = .ok (.isub, 1) := by decide +kernel
theorem dX6_undo_25 : decode cX6_undo 25 = .ok (.putfield 30, 3) := by decide +kernel
theorem dX6_undo_28 : decode cX6_undo 28 = .ok (.aload_n 0, 1) := by decide +kernel
theorem dX6_undo_29 : decode cX6_undo 29 = .ok (.getfield 12, 3) := by decide +kernel
theorem dX6_undo_32 : decode cX6_undo 32 = .ok (.astore_n 1, 1) := by decide +kernel
theorem dX6_undo_33 : decode cX6_undo 33 = .ok (.aload_n 0, 1) := by decide +kernel
theorem dX6_undo_34 : decode cX6_undo 34 = .ok (.aload_n 0, 1) := by decide +kernel
theorem dX6_undo_35 : decode cX6_undo 35 = .ok (.getfield 26, 3) := by decide +kernel
theorem dX6_undo_38 : decode cX6_undo 38 = .ok (.aload_n 0, 1) := by decide +kernel
theorem dX6_undo_39 : decode cX6_undo 39 = .ok (.getfield 30, 3) := by decide +kernel
theorem dX6_undo_42 : decode cX6_undo 42 = .ok (.aaload, 1) := by decide +kernel
theorem dX6_undo_43 : decode cX6_undo 43 = .ok (.putfield 12, 3) := by decide +kernel
theorem dX6_undo_46 : decode cX6_undo 46 = .ok (.aload_n 0, 1) := by decide +kernel
theorem dX6_undo_47 : decode cX6_undo 47 = .ok (.getfield 26, 3) := by decide +kernel
theorem dX6_undo_50 : decode cX6_undo 50 = .ok (.aload_n 0, 1) := by decide +kernel
theorem dX6_undo_51 : decode cX6_undo 51 = .ok (.getfield 30, 3) := by decide +kernel
theorem dX6_undo_54 : decode cX6_undo 54 = .ok (.aload_n 1, 1) := by decide +kernel
theorem dX6_undo_55 : decode cX6_undo 55 = .ok (.aastore, 1) := by decide +kernel
theorem dX6_undo_56 : decode cX6_undo 56 = .ok (.aload_n 0, 1) := by decide +kernel
theorem dX6_undo_57 : decode cX6_undo 57 = .ok (.getfield 30, 3) := by decide +kernel
theorem dX6_undo_60 : decode cX6_undo 60 = .ok (.ireturn, 1) := by decide +kernel
theorem dX6_save_0 : decode cX6_save 0 = .ok (.aload_n 0, 1) := by decide +kernel
theorem dX6_save_1 : decode cX6_save 1 = .ok (.getfield 19, 3) := by decide +kernel
theorem dX6_save_4 : decode cX6_save 4 = .ok (.aload_n 0, 1) := by decide +kernel
theorem dX6_save_5 : decode cX6_save 5 = .ok (.getfield 12, 3) := by decide +kernel
theorem dX6_save_8 : decode cX6_save 8 = .ok (.invokevirtual 65, 3) := by decide +kernel
theorem dX6_save_11 : decode cX6_save 11 = .ok (.aload_n 0, 1) := by decide +kernel
theorem dX6_save_12 : decode cX6_save 12 = .ok (.iconst 1, 1) := by decide +kernel
theorem dX6_save_13 : decode cX6_save 13 = .ok (.putfield 22, 3) := by decide +kernel
theorem dX6_save_16 : decode cX6_save 16 = .ok (.aload_n 0, 1) := by decide +kernel
theorem dX6_save_17 : decode cX6_save 17 = .ok (.getfield 12, 3) := by decide +kernel
theorem dX6_save_20 : decode cX6_save 20 = .ok (.getfield 159, 3) := by decide +kernel
theorem dX6_save_23 : decode cX6_save 23 = .ok (.ireturn, 1) := by decide +kernel
theorem dX6_restore_0 : decode cX6_restore 0 = .ok (.aload_n 0, 1) := by decide +kernel
theorem dX6_restore_1 : decode cX6_restore 1 = .ok (.getfield 22, 3) := by decide +kernel
theorem dX6_restore_4 : decode cX6_restore 4 = .ok (.ifCond .ne 14, 3) := by decide +kernel
theorem dX6_restore_7 : decode cX6_restore 7 = .ok (.new 96, 3) := by decide +kernel
theorem dX6_restore_10 : decode cX6_restore 10 = .ok (.dup, 1) := by decide +kernel
theorem dX6_restore_11 : decode cX6_restore 11 = .ok (.ldc_w 360, 3) := by decide +kernel
theorem dX6_restore_14 : decode cX6_restore 14 = .ok (.invokespecial 100, 3) := by decide +kernel
theorem dX6_restore_17 : decode cX6_restore 17 = .ok (.athrow, 1) := by decide +kernel
theorem dX6_restore_18 : decode cX6_restore 18 = .ok (.aload_n 0, 1) := by decide +kernel
theorem dX6_restore_19 : decode cX6_restore 19 = .ok (.getfield 12, 3) := by decide +kernel
theorem dX6_restore_22 : decode cX6_restore 22 = .ok (.aload_n 0, 1) := by decide +kernel
theorem dX6_restore_23 : decode cX6_restore 23 = .ok (.getfield 19, 3) := by decide +kernel
theorem dX6_restore_26 : decode cX6_restore 26 = .ok (.invokevirtual 65, 3) := by decide +kernel
theorem dX6_restore_29 : decode cX6_restore 29 = .ok (.aload_n 0, 1) := by decide +kernel
theorem dX6_restore_30 : decode cX6_restore 30 = .ok (.iconst 0, 1) := by decide +kernel
theorem dX6_restore_31 : decode cX6_restore 31 = .ok (.putfield 30, 3) := by decide +kernel
theorem dX6_restore_34 : decode cX6_restore 34 = .ok (.aload_n 0, 1) := by decide +kernel
theorem dX6_restore_35 : decode cX6_restore 35 = .ok (.getfield 12, 3) := by decide +kernel
theorem dX6_restore_38 : decode cX6_restore 38 = .ok (.getfield 159, 3) := by decide +kernel
theorem dX6_restore_41 : decode cX6_restore 41 = .ok (.ireturn, 1) := by decide +kernel
