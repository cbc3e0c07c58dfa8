theorem dX0_init_0 : decode cX0_init 0 = .ok (.aload_n 0, 1) := by decide +kernel
theorem dX0_init_1 : decode cX0_init 1 = .ok (.invokespecial 3, 3) := by decide +kernel
theorem dX0_init_4 : decode cX0_init 4 = .ok (.aload_n 0, 1) := by decide +kernel
theorem dX0_init_5 : decode cX0_init 5 = .ok (.iload_n 1, 1) := by decide +kernel
theorem dX0_init_6 : decode cX0_init 6 = .ok (.putfield 9, 3) := by decide +kernel
theorem dX0_init_9 : decode cX0_init 9 = .ok (.aload_n 0, 1) := by decide +kernel
theorem dX0_init_10 : decode cX0_init 10 = .ok (.iload_n 2, 1) := by decide +kernel
theorem dX0_init_11 : decode cX0_init 11 = .ok (.putfield 15, 3) := by decide +kernel
theorem dX0_init_14 : decode cX0_init 14 = .ok (.aload_n 0, 1) := by decide +kernel
theorem dX0_init_15 : decode cX0_init 15 = .ok (.iload_n 3, 1) := by decide +kernel
theorem dX0_init_16 : decode cX0_init 16 = .ok (.putfield 18, 3) := by decide +kernel
theorem dX0_init_19 : decode cX0_init 19 = .ok (.aload_n 0, 1) := by decide +kernel
theorem dX0_init_20 : decode cX0_init 20 = .ok (.iload 4, 2) := by decide +kernel
theorem dX0_init_22 : decode cX0_init 22 = .ok (.putfield 21, 3) := by decide +kernel
theorem dX0_init_25 : decode cX0_init 25 = .ok (.return_, 1) := by decide +kernel
theorem dX0_isViolatedBy_0 : decode cX0_isViolatedBy 0 = .ok (.aload_n 0, 1) := by decide +kernel
theorem dX0_isViolatedBy_1 : decode cX0_isViolatedBy 1 = .ok (.getfield 9, 3) := by decide +kernel
theorem dX0_isViolatedBy_4 : decode cX0_isViolatedBy 4 = .ok (.iconst 2, 1) := by decide +kernel
theorem dX0_isViolatedBy_5 : decode cX0_isViolatedBy 5 = .ok (.if_icmp .ne 31, 3) := by decide +kernel
theorem dX0_isViolatedBy_8 : decode cX0_isViolatedBy 8 = .ok (.aload_n 1, 1) := by decide +kernel
theorem dX0_isViolatedBy_9 : decode cX0_isViolatedBy 9 = .ok (.aload_n 0, 1) := by decide +kernel
theorem dX0_isViolatedBy_10 : decode cX0_isViolatedBy 10 = .ok (.getfield 15, 3) := by decide +kernel
theorem dX0_isViolatedBy_13 : decode cX0_isViolatedBy 13 = .ok (.aload_n 0, 1) := by decide +kernel
theorem dX0_isViolatedBy_14 : decode cX0_isViolatedBy 14 = .ok (.getfield 18, 3) := by decide +kernel
theorem dX0_isViolatedBy_17 : decode cX0_isViolatedBy 17 = .ok (.sipush (-999), 3) := by decide +kernel
theorem dX0_isViolatedBy_20 : decode cX0_isViolatedBy 20 = .ok (.invokestatic 24, 3) := by decide +kernel
theorem dX0_isViolatedBy_23 : decode cX0_isViolatedBy 23 = .ok (.aload_n 0, 1) := by decide +kernel
theorem dX0_isViolatedBy_24 : decode cX0_isViolatedBy 24 = .ok (.getfield 21, 3) := by decide +kernel
theorem dX0_isViolatedBy_27 : decode cX0_isViolatedBy 27 = .ok (.if_icmp .le 7, 3) := by decide +kernel
theorem dX0_isViolatedBy_30 : decode cX0_isViolatedBy 30 = .ok (.iconst 1, 1) := by decide +kernel
theorem dX0_isViolatedBy_31 : decode cX0_isViolatedBy 31 = .ok (.goto 4, 3) := by decide +kernel
theorem dX0_isViolatedBy_34 : decode cX0_isViolatedBy 34 = .ok (.iconst 0, 1) := by decide +kernel
theorem dX0_isViolatedBy_35 : decode cX0_isViolatedBy 35 = .ok (.ireturn, 1) := by decide +kernel
theorem dX0_isViolatedBy_36 : decode cX0_isViolatedBy 36 = .ok (.aload_n 1, 1) := by decide +kernel
theorem dX0_isViolatedBy_37 : decode cX0_isViolatedBy 37 = .ok (.aload_n 0, 1) := by decide +kernel
theorem dX0_isViolatedBy_38 : decode cX0_isViolatedBy 38 = .ok (.getfield 15, 3) := by decide +kernel
theorem dX0_isViolatedBy_41 : decode cX0_isViolatedBy 41 = .ok (.aload_n 0, 1) := by decide +kernel
theorem dX0_isViolatedBy_42 : decode cX0_isViolatedBy 42 = .ok (.getfield 18, 3) := by decide +kernel
theorem dX0_isViolatedBy_45 : decode cX0_isViolatedBy 45 = .ok (.invokestatic 28, 3) := by decide +kernel
theorem dX0_isViolatedBy_48 : decode cX0_isViolatedBy 48 = .ok (.istore_n 2, 1) := by decide +kernel
theorem dX0_isViolatedBy_49 : decode cX0_isViolatedBy 49 = .ok (.aload_n 0, 1) := by decide +kernel
theorem dX0_isViolatedBy_50 : decode cX0_isViolatedBy 50 = .ok (.getfield 9, 3) := by decide +kernel
theorem dX0_isViolatedBy_53 : decode cX0_isViolatedBy 53 = .ok (.iconst 1, 1) := by decide +kernel
theorem dX0_isViolatedBy_54 : decode cX0_isViolatedBy 54 = .ok (.if_icmp .ne 19, 3) := by decide +kernel
theorem dX0_isViolatedBy_57 : decode cX0_isViolatedBy 57 = .ok (.iload_n 2, 1) := by decide +kernel
theorem dX0_isViolatedBy_58 : decode cX0_isViolatedBy 58 = .ok (.aload_n 0, 1) := by decide +kernel
theorem dX0_isViolatedBy_59 : decode cX0_isViolatedBy 59 = .ok (.getfield 21, 3) := by decide +kernel
theorem dX0_isViolatedBy_62 : decode cX0_isViolatedBy 62 = .ok (.if_icmp .le 7, 3) := by decide +kernel
theorem dX0_isViolatedBy_65 : decode cX0_isViolatedBy 65 = .ok (.iconst 1, 1) := by decide +kernel
theorem dX0_isViolatedBy_66 : decode cX0_isViolatedBy 66 = .ok (.goto 20, 3) := by decide +kernel
theorem dX0_isViolatedBy_69 : decode cX0_isViolatedBy 69 = .ok (.iconst 0, 1) := by decide +kernel
theorem dX0_isViolatedBy_70 : decode cX0_isViolatedBy 70 = .ok (.goto 16, 3) := by decide +kernel
theorem dX0_isViolatedBy_73 : decode cX0_isViolatedBy 73 = .ok (.iload_n 2, 1) := by decide +kernel
theorem dX0_isViolatedBy_74 : decode cX0_isViolatedBy 74 = .ok (.aload_n 0, 1) := by decide +kernel
theorem dX0_isViolatedBy_75 : decode cX0_isViolatedBy 75 = .ok (.getfield 21, 3) := by decide +kernel
theorem dX0_isViolatedBy_78 : decode cX0_isViolatedBy 78 = .ok (.if_icmp .ge 7, 3) := by decide +kernel
theorem dX0_isViolatedBy_81 : decode cX0_isViolatedBy 81 = .ok (.iconst 1, 1) := by decide +kernel
theorem dX0_isViolatedBy_82 : decode cX0_isViolatedBy 82 = .ok (.goto 4, 3) := by decide +kernel
theorem dX0_isViolatedBy_85 : decode cX0_isViolatedBy 85 = .ok (.iconst 0, 1) := by decide +kernel
theorem dX0_isViolatedBy_86 : decode cX0_isViolatedBy 86 = .ok (.ireturn, 1) := by decide +kernel
theorem dX1_init_0 : decode cX1_init 0 = .ok (.aload_n 0, 1) := by decide +kernel
theorem dX1_init_1 : decode cX1_init 1 = .ok (.invokespecial 3, 3) := by decide +kernel
theorem dX1_init_4 : decode cX1_init 4 = .ok (.aload_n 0, 1) := by decide +kernel
theorem dX1_init_5 : decode cX1_init 5 = .ok (.bipush 61, 2) := by decide +kernel
theorem dX1_init_7 : decode cX1_init 7 = .ok (.bipush 32, 2) := by decide +kernel
theorem dX1_init_9 : decode cX1_init 9 = .ok (.multianewarray 9 2, 4) := by decide +kernel
theorem dX1_init_13 : decode cX1_init 13 = .ok (.putfield 11, 3) := by decide +kernel
theorem dX1_init_16 : decode cX1_init 16 = .ok (.aload_n 0, 1) := by decide +kernel
theorem dX1_init_17 : decode cX1_init 17 = .ok (.bipush 61, 2) := by decide +kernel
theorem dX1_init_19 : decode cX1_init 19 = .ok (.anewarray 16, 3) := by decide +kernel
theorem dX1_init_22 : decode cX1_init 22 = .ok (.putfield 18, 3) := by decide +kernel
theorem dX1_init_25 : decode cX1_init 25 = .ok (.aload_n 0, 1) := by decide +kernel
theorem dX1_init_26 : decode cX1_init 26 = .ok (.getfield 11, 3) := by decide +kernel
theorem dX1_init_29 : decode cX1_init 29 = .ok (.iconst 0, 1) := by decide +kernel
theorem dX1_init_30 : decode cX1_init 30 = .ok (.aaload, 1) := by decide +kernel
theorem dX1_init_31 : decode cX1_init 31 = .ok (.sipush (-1000), 3) := by decide +kernel
theorem dX1_init_34 : decode cX1_init 34 = .ok (.invokestatic 22, 3) := by decide +kernel
theorem dX1_init_37 : decode cX1_init 37 = .ok (.return_, 1) := by decide +kernel
theorem dX1_isFull_0 : decode cX1_isFull 0 = .ok (.aload_n 0, 1) := by decide +kernel
theorem dX1_isFull_1 : decode cX1_isFull 1 = .ok (.getfield 28, 3) := by decide +kernel
theorem dX1_isFull_4 : decode cX1_isFull 4 = .ok (.bipush 60, 2) := by decide +kernel
theorem dX1_isFull_6 : decode cX1_isFull 6 = .ok (.if_icmp .lt 7, 3) := by decide +kernel
theorem dX1_isFull_9 : decode cX1_isFull 9 = .ok (.iconst 1, 1) := by decide +kernel
theorem dX1_isFull_10 : decode cX1_isFull 10 = .ok (.goto 4, 3) := by decide +kernel
theorem dX1_isFull_13 : decode cX1_isFull 13 = .ok (.iconst 0, 1) := by decide +kernel
theorem dX1_isFull_14 : decode cX1_isFull 14 = .ok (.ireturn, 1) := by decide +kernel
theorem dX1_storeAfter_0 : decode cX1_storeAfter 0 = .ok (.aload_n 0, 1) := by decide +kernel
theorem dX1_storeAfter_1 : decode cX1_storeAfter 1 = .ok (.getfield 11, 3) := by decide +kernel
theorem dX1_storeAfter_4 : decode cX1_storeAfter 4 = .ok (.iload_n 1, 1) := by decide +kernel
theorem dX1_storeAfter_5 : decode cX1_storeAfter 5 = .ok (.aaload, 1) := by decide +kernel
theorem dX1_storeAfter_6 : decode cX1_storeAfter 6 = .ok (.areturn, 1) := by decide +kernel
theorem dX1_newest_0 : decode cX1_newest 0 = .ok (.aload_n 0, 1) := by decide +kernel
theorem dX1_newest_1 : decode cX1_newest 1 = .ok (.getfield 11, 3) := by decide +kernel
theorem dX1_newest_4 : decode cX1_newest 4 = .ok (.aload_n 0, 1) := by decide +kernel
theorem dX1_newest_5 : decode cX1_newest 5 = .ok (.getfield 28, 3) := by decide +kernel
theorem dX1_newest_8 : decode cX1_newest 8 = .ok (.aaload, 1) := by decide +kernel
theorem dX1_newest_9 : decode cX1_newest 9 = .ok (.areturn, 1) := by decide +kernel
theorem dX1_authorOf_0 : decode cX1_authorOf 0 = .ok (.aload_n 0, 1) := by decide +kernel
theorem dX1_authorOf_1 : decode cX1_authorOf 1 = .ok (.getfield 18, 3) := by decide +kernel
theorem dX1_authorOf_4 : decode cX1_authorOf 4 = .ok (.iload_n 1, 1) := by decide +kernel
theorem dX1_authorOf_5 : decode cX1_authorOf 5 = .ok (.aaload, 1) := by decide +kernel
theorem dX1_authorOf_6 : decode cX1_authorOf 6 = .ok (.areturn, 1) := by decide +kernel
theorem dX1_append_0 : decode cX1_append 0 = .ok (.aload_n 0, 1) := by decide +kernel
theorem dX1_append_1 : decode cX1_append 1 = .ok (.invokevirtual 32, 3) := by decide +kernel
theorem dX1_append_4 : decode cX1_append 4 = .ok (.ifCond .eq 4, 3) := by decide +kernel
theorem dX1_append_7 : decode cX1_append 7 = .ok (.return_, 1) := by decide +kernel
theorem dX1_append_8 : decode cX1_append 8 = .ok (.aload_n 0, 1) := by decide +kernel
theorem dX1_append_9 : decode cX1_append 9 = .ok (.getfield 11, 3) := by decide +kernel
theorem dX1_append_12 : decode cX1_append 12 = .ok (.aload_n 0, 1) := by decide +kernel
theorem dX1_append_13 : decode cX1_append 13 = .ok (.getfield 28, 3) := by decide +kernel
theorem dX1_append_16 : decode cX1_append 16 = .ok (.aaload, 1) := by decide +kernel
theorem dX1_append_17 : decode cX1_append 17 = .ok (.iconst 0, 1) := by decide +kernel
theorem dX1_append_18 : decode cX1_append 18 = .ok (.aload_n 0, 1) := by decide +kernel
theorem dX1_append_19 : decode cX1_append 19 = .ok (.getfield 11, 3) := by decide +kernel
theorem dX1_append_22 : decode cX1_append 22 = .ok (.aload_n 0, 1) := by decide +kernel
theorem dX1_append_23 : decode cX1_append 23 = .ok (.getfield 28, 3) := by decide +kernel
theorem dX1_append_26 : decode cX1_append 26 = .ok (.iconst 1, 1) := by decide +kernel
theorem dX1_append_27 : decode cX1_append 27 = .ok (.iadd, 1) := by decide +kernel
theorem dX1_append_28 : decode cX1_append 28 = .ok (.aaload, 1) := by decide +kernel
theorem dX1_append_29 : decode cX1_append 29 = .ok (.iconst 0, 1) := by decide +kernel
theorem dX1_append_30 : decode cX1_append 30 = .ok (.bipush 32, 2) := by decide +kernel
theorem dX1_append_32 : decode cX1_append 32 = .ok (.invokestatic 36, 3) := by decide +kernel
theorem dX1_append_35 : decode cX1_append 35 = .ok (.aload_n 0, 1) := by decide +kernel
theorem dX1_append_36 : decode cX1_append 36 = .ok (.dup, 1) := by decide +kernel
theorem dX1_append_37 : decode cX1_append 37 = .ok (.getfield 28, 3) := by decide +kernel
theorem dX1_append_40 : decode cX1_append 40 = .ok (.iconst 1, 1) := by decide +kernel
theorem dX1_append_41 : decode cX1_append 41 = .ok (.iadd, 1) := by decide +kernel
theorem dX1_append_42 : decode cX1_append 42 = .ok (.putfield 28, 3) := by decide +kernel
theorem dX1_append_45 : decode cX1_append 45 = .ok (.aload_n 1, 1) := by decide +kernel
theorem dX1_append_46 : decode cX1_append 46 = .ok (.aload_n 0, 1) := by decide +kernel
theorem dX1_append_47 : decode cX1_append 47 = .ok (.getfield 11, 3) := by decide +kernel
theorem dX1_append_50 : decode cX1_append 50 = .ok (.aload_n 0, 1) := by decide +kernel
theorem dX1_append_51 : decode cX1_append 51 = .ok (.getfield 28, 3) := by decide +kernel
theorem dX1_append_54 : decode cX1_append 54 = .ok (.aaload, 1) := by decide +kernel
theorem dX1_append_55 : decode cX1_append 55 = .ok (.invokevirtual 42, 3) := by decide +kernel
theorem dX1_append_58 : decode cX1_append 58 = .ok (.aload_n 0, 1) := by decide +kernel
theorem dX1_append_59 : decode cX1_append 59 = .ok (.getfield 18, 3) := by decide +kernel
theorem dX1_append_62 : decode cX1_append 62 = .ok (.aload_n 0, 1) := by decide +kernel
theorem dX1_append_63 : decode cX1_append 63 = .ok (.getfield 28, 3) := by decide +kernel
theorem dX1_append_66 : decode cX1_append 66 = .ok (.aload_n 1, 1) := by decide +kernel
theorem dX1_append_67 : decode cX1_append 67 = .ok (.aastore, 1) := by decide +kernel
theorem dX1_append_68 : decode cX1_append 68 = .ok (.aload_n 1, 1) := by decide +kernel
theorem dX1_append_69 : decode cX1_append 69 = .ok (.iconst 1, 1) := by decide +kernel
theorem dX1_append_70 : decode cX1_append 70 = .ok (.putfield 46, 3) := by decide +kernel
theorem dX1_append_73 : decode cX1_append 73 = .ok (.aload_n 1, 1) := by decide +kernel
theorem dX1_append_74 : decode cX1_append 74 = .ok (.aload_n 0, 1) := by decide +kernel
theorem dX1_append_75 : decode cX1_append 75 = .ok (.getfield 28, 3) := by decide +kernel
theorem dX1_append_78 : decode cX1_append 78 = .ok (.putfield 49, 3) := by decide +kernel
theorem dX1_append_81 : decode cX1_append 81 = .ok (.return_, 1) := by decide +kernel
theorem dX1_takeBackAfter_0 : decode cX1_takeBackAfter 0 = .ok (.aload_n 0, 1) := by decide +kernel
theorem dX1_takeBackAfter_1 : decode cX1_takeBackAfter 1 = .ok (.getfield 28, 3) := by decide +kernel
theorem dX1_takeBackAfter_4 : decode cX1_takeBackAfter 4 = .ok (.iload_n 1, 1) := by decide +kernel
theorem dX1_takeBackAfter_5 : decode cX1_takeBackAfter 5 = .ok (.isub, 1) := by decide +kernel
theorem dX1_takeBackAfter_6 : decode cX1_takeBackAfter 6 = .ok (.istore_n 2, 1) := by decide +kernel
theorem dX1_takeBackAfter_7 : decode cX1_takeBackAfter 7 = .ok (.iload_n 1, 1) := by decide +kernel
theorem dX1_takeBackAfter_8 : decode cX1_takeBackAfter 8 = .ok (.iconst 1, 1) := by decide +kernel
theorem dX1_takeBackAfter_9 : decode cX1_takeBackAfter 9 = .ok (.iadd, 1) := by decide +kernel
theorem dX1_takeBackAfter_10 : decode cX1_takeBackAfter 10 = .ok (.istore_n 3, 1) := by decide +kernel
theorem dX1_takeBackAfter_11 : decode cX1_takeBackAfter 11 = .ok (.iload_n 3, 1) := by decide +kernel
theorem dX1_takeBackAfter_12 : decode cX1_takeBackAfter 12 = .ok (.aload_n 0, 1) := by decide +kernel
theorem dX1_takeBackAfter_13 : decode cX1_takeBackAfter 13 = .ok (.getfield 28, 3) := by decide +kernel
theorem dX1_takeBackAfter_16 : decode cX1_takeBackAfter 16 = .ok (.if_icmp .gt 29, 3) := by decide +kernel
theorem dX1_takeBackAfter_19 : decode cX1_takeBackAfter 19 = .ok (.aload_n 0, 1) := by decide +kernel
theorem dX1_takeBackAfter_20 : decode cX1_takeBackAfter 20 = .ok (.getfield 18, 3) := by decide +kernel
theorem dX1_takeBackAfter_23 : decode cX1_takeBackAfter 23 = .ok (.iload_n 3, 1) := by decide +kernel
theorem dX1_takeBackAfter_24 : decode cX1_takeBackAfter 24 = .ok (.aaload, 1) := by decide +kernel
theorem dX1_takeBackAfter_25 : decode cX1_takeBackAfter 25 = .ok (.astore 4, 2) := by decide +kernel
theorem dX1_takeBackAfter_27 : decode cX1_takeBackAfter 27 = .ok (.aload 4, 2) := by decide +kernel
theorem dX1_takeBackAfter_29 : decode cX1_takeBackAfter 29 = .ok (.ifnull 10, 3) := by decide +kernel
theorem dX1_takeBackAfter_32 : decode cX1_takeBackAfter 32 = .ok (.aload 4, 2) := by decide +kernel
theorem dX1_takeBackAfter_34 : decode cX1_takeBackAfter 34 = .ok (.bipush 6, 2) := by decide +kernel
theorem dX1_takeBackAfter_36 : decode cX1_takeBackAfter 36 = .ok (.invokevirtual 52, 3) := by decide +kernel
theorem dX1_takeBackAfter_39 : decode cX1_takeBackAfter 39 = .ok (.iinc 3 1, 3) := by decide +kernel
theorem dX1_takeBackAfter_42 : decode cX1_takeBackAfter 42 = .ok (.goto (-31), 3) := by decide +kernel
theorem dX1_takeBackAfter_45 : decode cX1_takeBackAfter 45 = .ok (.aload_n 0, 1) := by decide +kernel
theorem dX1_takeBackAfter_46 : decode cX1_takeBackAfter 46 = .ok (.iload_n 1, 1) := by decide +kernel
theorem dX1_takeBackAfter_47 : decode cX1_takeBackAfter 47 = .ok (.putfield 28, 3) := by decide +kernel
theorem dX1_takeBackAfter_50 : decode cX1_takeBackAfter 50 = .ok (.iload_n 2, 1) := by decide +kernel
theorem dX1_takeBackAfter_51 : decode cX1_takeBackAfter 51 = .ok (.ireturn, 1) := by decide +kernel
theorem dX1_latestWriter_0 : decode cX1_latestWriter 0 = .ok (.aload_n 0, 1) := by decide +kernel
theorem dX1_latestWriter_1 : decode cX1_latestWriter 1 = .ok (.getfield 28, 3) := by decide +kernel
theorem dX1_latestWriter_4 : decode cX1_latestWriter 4 = .ok (.istore_n 2, 1) := by decide +kernel
theorem dX1_latestWriter_5 : decode cX1_latestWriter 5 = .ok (.iload_n 2, 1) := by decide +kernel
theorem dX1_latestWriter_6 : decode cX1_latestWriter 6 = .ok (.ifCond .le 23, 3) := by decide +kernel
theorem dX1_latestWriter_9 : decode cX1_latestWriter 9 = .ok (.aload_n 0, 1) := by decide +kernel
theorem dX1_latestWriter_10 : decode cX1_latestWriter 10 = .ok (.iload_n 2, 1) := by decide +kernel
theorem dX1_latestWriter_11 : decode cX1_latestWriter 11 = .ok (.invokevirtual 56, 3) := by decide +kernel
theorem dX1_latestWriter_14 : decode cX1_latestWriter 14 = .ok (.iconst 1, 1) := by decide +kernel
theorem dX1_latestWriter_15 : decode cX1_latestWriter 15 = .ok (.iload_n 1, 1) := by decide +kernel
theorem dX1_latestWriter_16 : decode cX1_latestWriter 16 = .ok (.ishl, 1) := by decide +kernel
theorem dX1_latestWriter_17 : decode cX1_latestWriter 17 = .ok (.iand, 1) := by decide +kernel
theorem dX1_latestWriter_18 : decode cX1_latestWriter 18 = .ok (.ifCond .eq 5, 3) := by decide +kernel
theorem dX1_latestWriter_21 : decode cX1_latestWriter 21 = .ok (.iload_n 2, 1) := by decide +kernel
theorem dX1_latestWriter_22 : decode cX1_latestWriter 22 = .ok (.ireturn, 1) := by decide +kernel
theorem dX1_latestWriter_23 : decode cX1_latestWriter 23 = .ok (.iinc 2 (-1), 3) := by decide +kernel
theorem dX1_latestWriter_26 : decode cX1_latestWriter 26 = .ok (.goto (-21), 3) := by decide +kernel
theorem dX1_latestWriter_29 : decode cX1_latestWriter 29 = .ok (.iconst 0, 1) := by decide +kernel
theorem dX1_latestWriter_30 : decode cX1_latestWriter 30 = .ok (.ireturn, 1) := by decide +kernel
theorem dX1_stalenessOf_0 : decode cX1_stalenessOf 0 = .ok (.iconst 0, 1) := by decide +kernel
theorem dX1_stalenessOf_1 : decode cX1_stalenessOf 1 = .ok (.istore_n 2, 1) := by decide +kernel
theorem dX1_stalenessOf_2 : decode cX1_stalenessOf 2 = .ok (.iload_n 2, 1) := by decide +kernel
theorem dX1_stalenessOf_3 : decode cX1_stalenessOf 3 = .ok (.bipush 32, 2) := by decide +kernel
theorem dX1_stalenessOf_5 : decode cX1_stalenessOf 5 = .ok (.if_icmp .ge 33, 3) := by decide +kernel
theorem dX1_stalenessOf_8 : decode cX1_stalenessOf 8 = .ok (.aload_n 1, 1) := by decide +kernel
theorem dX1_stalenessOf_9 : decode cX1_stalenessOf 9 = .ok (.iload_n 2, 1) := by decide +kernel
theorem dX1_stalenessOf_10 : decode cX1_stalenessOf 10 = .ok (.invokevirtual 60, 3) := by decide +kernel
theorem dX1_stalenessOf_13 : decode cX1_stalenessOf 13 = .ok (.ifCond .eq 19, 3) := by decide +kernel
theorem dX1_stalenessOf_16 : decode cX1_stalenessOf 16 = .ok (.aload_n 0, 1) := by decide +kernel
theorem dX1_stalenessOf_17 : decode cX1_stalenessOf 17 = .ok (.iload_n 2, 1) := by decide +kernel
theorem dX1_stalenessOf_18 : decode cX1_stalenessOf 18 = .ok (.invokevirtual 64, 3) := by decide +kernel
theorem dX1_stalenessOf_21 : decode cX1_stalenessOf 21 = .ok (.aload_n 1, 1) := by decide +kernel
theorem dX1_stalenessOf_22 : decode cX1_stalenessOf 22 = .ok (.getfield 67, 3) := by decide +kernel
theorem dX1_stalenessOf_25 : decode cX1_stalenessOf 25 = .ok (.iload_n 2, 1) := by decide +kernel
theorem dX1_stalenessOf_26 : decode cX1_stalenessOf 26 = .ok (.iaload, 1) := by decide +kernel
theorem dX1_stalenessOf_27 : decode cX1_stalenessOf 27 = .ok (.if_icmp .le 5, 3) := by decide +kernel
theorem dX1_stalenessOf_30 : decode cX1_stalenessOf 30 = .ok (.iconst 1, 1) := by decide +kernel
theorem dX1_stalenessOf_31 : decode cX1_stalenessOf 31 = .ok (.ireturn, 1) := by decide +kernel
theorem dX1_stalenessOf_32 : decode cX1_stalenessOf 32 = .ok (.iinc 2 1, 3) := by decide +kernel
theorem dX1_stalenessOf_35 : decode cX1_stalenessOf 35 = .ok (.goto (-33), 3) := by decide +kernel
theorem dX1_stalenessOf_38 : decode cX1_stalenessOf 38 = .ok (.iconst 0, 1) := by decide +kernel
theorem dX1_stalenessOf_39 : decode cX1_stalenessOf 39 = .ok (.istore_n 2, 1) := by decide +kernel
theorem dX1_stalenessOf_40 : decode cX1_stalenessOf 40 = .ok (.iload_n 2, 1) := by decide +kernel
theorem dX1_stalenessOf_41 : decode cX1_stalenessOf 41 = .ok (.aload_n 1, 1) := by decide +kernel
theorem dX1_stalenessOf_42 : decode cX1_stalenessOf 42 = .ok (.getfield 71, 3) := by decide +kernel
theorem dX1_stalenessOf_45 : decode cX1_stalenessOf 45 = .ok (.if_icmp .ge 24, 3) := by decide +kernel
theorem dX1_stalenessOf_48 : decode cX1_stalenessOf 48 = .ok (.aload_n 0, 1) := by decide +kernel
theorem dX1_stalenessOf_49 : decode cX1_stalenessOf 49 = .ok (.aload_n 1, 1) := by decide +kernel
theorem dX1_stalenessOf_50 : decode cX1_stalenessOf 50 = .ok (.getfield 74, 3) := by decide +kernel
theorem dX1_stalenessOf_53 : decode cX1_stalenessOf 53 = .ok (.iload_n 2, 1) := by decide +kernel
theorem dX1_stalenessOf_54 : decode cX1_stalenessOf 54 = .ok (.aaload, 1) := by decide +kernel
theorem dX1_stalenessOf_55 : decode cX1_stalenessOf 55 = .ok (.invokevirtual 78, 3) := by decide +kernel
theorem dX1_stalenessOf_58 : decode cX1_stalenessOf 58 = .ok (.ifCond .eq 5, 3) := by decide +kernel
theorem dX1_stalenessOf_61 : decode cX1_stalenessOf 61 = .ok (.iconst 2, 1) := by decide +kernel
theorem dX1_stalenessOf_62 : decode cX1_stalenessOf 62 = .ok (.ireturn, 1) := by decide +kernel
theorem dX1_stalenessOf_63 : decode cX1_stalenessOf 63 = .ok (.iinc 2 1, 3) := by decide +kernel
theorem dX1_stalenessOf_66 : decode cX1_stalenessOf 66 = .ok (.goto (-26), 3) := by decide +kernel
theorem dX1_stalenessOf_69 : decode cX1_stalenessOf 69 = .ok (.iconst 0, 1) := by decide +kernel
theorem dX1_stalenessOf_70 : decode cX1_stalenessOf 70 = .ok (.ireturn, 1) := by decide +kernel
theorem dX1_link_0 : decode cX1_link 0 = .ok (.aload_n 0, 1) := by decide +kernel
theorem dX1_link_1 : decode cX1_link 1 = .ok (.getfield 18, 3) := by decide +kernel
theorem dX1_link_4 : decode cX1_link 4 = .ok (.iload_n 1, 1) := by decide +kernel
theorem dX1_link_5 : decode cX1_link 5 = .ok (.aaload, 1) := by decide +kernel
theorem dX1_link_6 : decode cX1_link 6 = .ok (.astore_n 3, 1) := by decide +kernel
theorem dX1_link_7 : decode cX1_link 7 = .ok (.aload_n 0, 1) := by decide +kernel
theorem dX1_link_8 : decode cX1_link 8 = .ok (.getfield 18, 3) := by decide +kernel
theorem dX1_link_11 : decode cX1_link 11 = .ok (.iload_n 2, 1) := by decide +kernel
theorem dX1_link_12 : decode cX1_link 12 = .ok (.aaload, 1) := by decide +kernel
theorem dX1_link_13 : decode cX1_link 13 = .ok (.astore 4, 2) := by decide +kernel
theorem dX1_link_15 : decode cX1_link 15 = .ok (.aload_n 3, 1) := by decide +kernel
theorem dX1_link_16 : decode cX1_link 16 = .ok (.ifnull 8, 3) := by decide +kernel
theorem dX1_link_19 : decode cX1_link 19 = .ok (.aload 4, 2) := by decide +kernel
theorem dX1_link_21 : decode cX1_link 21 = .ok (.ifnonnull 5, 3) := by decide +kernel
theorem dX1_link_24 : decode cX1_link 24 = .ok (.iconst 0, 1) := by decide +kernel
theorem dX1_link_25 : decode cX1_link 25 = .ok (.ireturn, 1) := by decide +kernel
theorem dX1_link_26 : decode cX1_link 26 = .ok (.iconst 0, 1) := by decide +kernel
theorem dX1_link_27 : decode cX1_link 27 = .ok (.istore 5, 2) := by decide +kernel
theorem dX1_link_29 : decode cX1_link 29 = .ok (.aload_n 0, 1) := by decide +kernel
theorem dX1_link_30 : decode cX1_link 30 = .ok (.iload_n 1, 1) := by decide +kernel
theorem dX1_link_31 : decode cX1_link 31 = .ok (.iload_n 2, 1) := by decide +kernel
theorem dX1_link_32 : decode cX1_link 32 = .ok (.aload 4, 2) := by decide +kernel
theorem dX1_link_34 : decode cX1_link 34 = .ok (.getfield 82, 3) := by decide +kernel
theorem dX1_link_37 : decode cX1_link 37 = .ok (.invokevirtual 85, 3) := by decide +kernel
theorem dX1_link_40 : decode cX1_link 40 = .ok (.ifCond .eq 6, 3) := by decide +kernel
theorem dX1_link_43 : decode cX1_link 43 = .ok (.iinc 5 1, 3) := by decide +kernel
theorem dX1_link_46 : decode cX1_link 46 = .ok (.aload_n 3, 1) := by decide +kernel
theorem dX1_link_47 : decode cX1_link 47 = .ok (.getfield 89, 3) := by decide +kernel
theorem dX1_link_50 : decode cX1_link 50 = .ok (.aload 4, 2) := by decide +kernel
theorem dX1_link_52 : decode cX1_link 52 = .ok (.getfield 89, 3) := by decide +kernel
theorem dX1_link_55 : decode cX1_link 55 = .ok (.iand, 1) := by decide +kernel
theorem dX1_link_56 : decode cX1_link 56 = .ok (.ifCond .eq 6, 3) := by decide +kernel
theorem dX1_link_59 : decode cX1_link 59 = .ok (.iinc 5 2, 3) := by decide +kernel
theorem dX1_link_62 : decode cX1_link 62 = .ok (.aload_n 3, 1) := by decide +kernel
theorem dX1_link_63 : decode cX1_link 63 = .ok (.aload 4, 2) := by decide +kernel
theorem dX1_link_65 : decode cX1_link 65 = .ok (.aload_n 0, 1) := by decide +kernel
theorem dX1_link_66 : decode cX1_link 66 = .ok (.getfield 11, 3) := by decide +kernel
theorem dX1_link_69 : decode cX1_link 69 = .ok (.iload_n 2, 1) := by decide +kernel
theorem dX1_link_70 : decode cX1_link 70 = .ok (.iconst 1, 1) := by decide +kernel
theorem dX1_link_71 : decode cX1_link 71 = .ok (.isub, 1) := by decide +kernel
theorem dX1_link_72 : decode cX1_link 72 = .ok (.aaload, 1) := by decide +kernel
theorem dX1_link_73 : decode cX1_link 73 = .ok (.invokevirtual 92, 3) := by decide +kernel
theorem dX1_link_76 : decode cX1_link 76 = .ok (.ifCond .eq 6, 3) := by decide +kernel
theorem dX1_link_79 : decode cX1_link 79 = .ok (.iinc 5 4, 3) := by decide +kernel
theorem dX1_link_82 : decode cX1_link 82 = .ok (.iload 5, 2) := by decide +kernel
theorem dX1_link_84 : decode cX1_link 84 = .ok (.ireturn, 1) := by decide +kernel
theorem dX1_writtenBy_0 : decode cX1_writtenBy 0 = .ok (.aload_n 0, 1) := by decide +kernel
theorem dX1_writtenBy_1 : decode cX1_writtenBy 1 = .ok (.getfield 18, 3) := by decide +kernel
theorem dX1_writtenBy_4 : decode cX1_writtenBy 4 = .ok (.iload_n 1, 1) := by decide +kernel
theorem dX1_writtenBy_5 : decode cX1_writtenBy 5 = .ok (.aaload, 1) := by decide +kernel
theorem dX1_writtenBy_6 : decode cX1_writtenBy 6 = .ok (.astore_n 2, 1) := by decide +kernel
theorem dX1_writtenBy_7 : decode cX1_writtenBy 7 = .ok (.aload_n 2, 1) := by decide +kernel
theorem dX1_writtenBy_8 : decode cX1_writtenBy 8 = .ok (.ifnonnull 7, 3) := by decide +kernel
theorem dX1_writtenBy_11 : decode cX1_writtenBy 11 = .ok (.iconst 0, 1) := by decide +kernel
theorem dX1_writtenBy_12 : decode cX1_writtenBy 12 = .ok (.goto 7, 3) := by decide +kernel
theorem dX1_writtenBy_15 : decode cX1_writtenBy 15 = .ok (.aload_n 2, 1) := by decide +kernel
theorem dX1_writtenBy_16 : decode cX1_writtenBy 16 = .ok (.getfield 89, 3) := by decide +kernel
theorem dX1_writtenBy_19 : decode cX1_writtenBy 19 = .ok (.ireturn, 1) := by decide +kernel
theorem dX1_isTouchedSince_0 : decode cX1_isTouchedSince 0 = .ok (.aload_n 1, 1) := by decide +kernel
theorem dX1_isTouchedSince_1 : decode cX1_isTouchedSince 1 = .ok (.ifnonnull 5, 3) := by decide +kernel
theorem dX1_isTouchedSince_4 : decode cX1_isTouchedSince 4 = .ok (.iconst 0, 1) := by decide +kernel
theorem dX1_isTouchedSince_5 : decode cX1_isTouchedSince 5 = .ok (.ireturn, 1) := by decide +kernel
theorem dX1_isTouchedSince_6 : decode cX1_isTouchedSince 6 = .ok (.aload_n 1, 1) := by decide +kernel
theorem dX1_isTouchedSince_7 : decode cX1_isTouchedSince 7 = .ok (.getfield 96, 3) := by decide +kernel
theorem dX1_isTouchedSince_10 : decode cX1_isTouchedSince 10 = .ok (.iconst 1, 1) := by decide +kernel
theorem dX1_isTouchedSince_11 : decode cX1_isTouchedSince 11 = .ok (.iadd, 1) := by decide +kernel
theorem dX1_isTouchedSince_12 : decode cX1_isTouchedSince 12 = .ok (.istore_n 2, 1) := by decide +kernel
theorem dX1_isTouchedSince_13 : decode cX1_isTouchedSince 13 = .ok (.iload_n 2, 1) := by decide +kernel
theorem dX1_isTouchedSince_14 : decode cX1_isTouchedSince 14 = .ok (.aload_n 0, 1) := by decide +kernel
theorem dX1_isTouchedSince_15 : decode cX1_isTouchedSince 15 = .ok (.getfield 28, 3) := by decide +kernel
theorem dX1_isTouchedSince_18 : decode cX1_isTouchedSince 18 = .ok (.if_icmp .gt 38, 3) := by decide +kernel
theorem dX1_isTouchedSince_21 : decode cX1_isTouchedSince 21 = .ok (.aload_n 0, 1) := by decide +kernel
theorem dX1_isTouchedSince_22 : decode cX1_isTouchedSince 22 = .ok (.getfield 18, 3) := by decide +kernel
theorem dX1_isTouchedSince_25 : decode cX1_isTouchedSince 25 = .ok (.iload_n 2, 1) := by decide +kernel
theorem dX1_isTouchedSince_26 : decode cX1_isTouchedSince 26 = .ok (.aaload, 1) := by decide +kernel
theorem dX1_isTouchedSince_27 : decode cX1_isTouchedSince 27 = .ok (.astore_n 3, 1) := by decide +kernel
theorem dX1_isTouchedSince_28 : decode cX1_isTouchedSince 28 = .ok (.aload_n 3, 1) := by decide +kernel
theorem dX1_isTouchedSince_29 : decode cX1_isTouchedSince 29 = .ok (.ifnull 21, 3) := by decide +kernel
theorem dX1_isTouchedSince_32 : decode cX1_isTouchedSince 32 = .ok (.aload_n 1, 1) := by decide +kernel
theorem dX1_isTouchedSince_33 : decode cX1_isTouchedSince 33 = .ok (.aload_n 3, 1) := by decide +kernel
theorem dX1_isTouchedSince_34 : decode cX1_isTouchedSince 34 = .ok (.aload_n 0, 1) := by decide +kernel
theorem dX1_isTouchedSince_35 : decode cX1_isTouchedSince 35 = .ok (.getfield 11, 3) := by decide +kernel
theorem dX1_isTouchedSince_38 : decode cX1_isTouchedSince 38 = .ok (.iload_n 2, 1) := by decide +kernel
theorem dX1_isTouchedSince_39 : decode cX1_isTouchedSince 39 = .ok (.iconst 1, 1) := by decide +kernel
theorem dX1_isTouchedSince_40 : decode cX1_isTouchedSince 40 = .ok (.isub, 1) := by decide +kernel
theorem dX1_isTouchedSince_41 : decode cX1_isTouchedSince 41 = .ok (.aaload, 1) := by decide +kernel
theorem dX1_isTouchedSince_42 : decode cX1_isTouchedSince 42 = .ok (.invokevirtual 101, 3) := by decide +kernel
theorem dX1_isTouchedSince_45 : decode cX1_isTouchedSince 45 = .ok (.ifCond .eq 5, 3) := by decide +kernel
theorem dX1_isTouchedSince_48 : decode cX1_isTouchedSince 48 = .ok (.iconst 1, 1) := by decide +kernel
theorem dX1_isTouchedSince_49 : decode cX1_isTouchedSince 49 = .ok (.ireturn, 1) := by decide +kernel
theorem dX1_isTouchedSince_50 : decode cX1_isTouchedSince 50 = .ok (.iinc 2 1, 3) := by decide +kernel
theorem dX1_isTouchedSince_53 : decode cX1_isTouchedSince 53 = .ok (.goto (-40), 3) := by decide +kernel
theorem dX1_isTouchedSince_56 : decode cX1_isTouchedSince 56 = .ok (.iconst 0, 1) := by decide +kernel
theorem dX1_isTouchedSince_57 : decode cX1_isTouchedSince 57 = .ok (.ireturn, 1) := by decide +kernel
theorem dX1_readsFrom_0 : decode cX1_readsFrom 0 = .ok (.iload_n 3, 1) := by decide +kernel
theorem dX1_readsFrom_1 : decode cX1_readsFrom 1 = .ok (.aload_n 0, 1) := by decide +kernel
theorem dX1_readsFrom_2 : decode cX1_readsFrom 2 = .ok (.iload_n 1, 1) := by decide +kernel
theorem dX1_readsFrom_3 : decode cX1_readsFrom 3 = .ok (.invokevirtual 56, 3) := by decide +kernel
theorem dX1_readsFrom_6 : decode cX1_readsFrom 6 = .ok (.iand, 1) := by decide +kernel
theorem dX1_readsFrom_7 : decode cX1_readsFrom 7 = .ok (.istore 4, 2) := by decide +kernel
theorem dX1_readsFrom_9 : decode cX1_readsFrom 9 = .ok (.iload_n 1, 1) := by decide +kernel
theorem dX1_readsFrom_10 : decode cX1_readsFrom 10 = .ok (.iconst 1, 1) := by decide +kernel
theorem dX1_readsFrom_11 : decode cX1_readsFrom 11 = .ok (.iadd, 1) := by decide +kernel
theorem dX1_readsFrom_12 : decode cX1_readsFrom 12 = .ok (.istore 5, 2) := by decide +kernel
theorem dX1_readsFrom_14 : decode cX1_readsFrom 14 = .ok (.iload 5, 2) := by decide +kernel
theorem dX1_readsFrom_16 : decode cX1_readsFrom 16 = .ok (.iload_n 2, 1) := by decide +kernel
theorem dX1_readsFrom_17 : decode cX1_readsFrom 17 = .ok (.if_icmp .ge 22, 3) := by decide +kernel
theorem dX1_readsFrom_20 : decode cX1_readsFrom 20 = .ok (.iload 4, 2) := by decide +kernel
theorem dX1_readsFrom_22 : decode cX1_readsFrom 22 = .ok (.aload_n 0, 1) := by decide +kernel
theorem dX1_readsFrom_23 : decode cX1_readsFrom 23 = .ok (.iload 5, 2) := by decide +kernel
theorem dX1_readsFrom_25 : decode cX1_readsFrom 25 = .ok (.invokevirtual 56, 3) := by decide +kernel
theorem dX1_readsFrom_28 : decode cX1_readsFrom 28 = .ok (.iconst (-1), 1) := by decide +kernel
theorem dX1_readsFrom_29 : decode cX1_readsFrom 29 = .ok (.ixor, 1) := by decide +kernel
theorem dX1_readsFrom_30 : decode cX1_readsFrom 30 = .ok (.iand, 1) := by decide +kernel
theorem dX1_readsFrom_31 : decode cX1_readsFrom 31 = .ok (.istore 4, 2) := by decide +kernel
theorem dX1_readsFrom_33 : decode cX1_readsFrom 33 = .ok (.iinc 5 1, 3) := by decide +kernel
theorem dX1_readsFrom_36 : decode cX1_readsFrom 36 = .ok (.goto (-22), 3) := by decide +kernel
theorem dX1_readsFrom_39 : decode cX1_readsFrom 39 = .ok (.iload 4, 2) := by decide +kernel
theorem dX1_readsFrom_41 : decode cX1_readsFrom 41 = .ok (.ifCond .eq 7, 3) := by decide +kernel
theorem dX1_readsFrom_44 : decode cX1_readsFrom 44 = .ok (.iconst 1, 1) := by decide +kernel
theorem dX1_readsFrom_45 : decode cX1_readsFrom 45 = .ok (.goto 4, 3) := by decide +kernel
theorem dX1_readsFrom_48 : decode cX1_readsFrom 48 = .ok (.iconst 0, 1) := by decide +kernel
theorem dX1_readsFrom_49 : decode cX1_readsFrom 49 = .ok (.ireturn, 1) := by decide +kernel
theorem dX2_init_0 : decode cX2_init 0 = .ok (.aload_n 0, 1) := by decide +kernel
theorem dX2_init_1 : decode cX2_init 1 = .ok (.invokespecial 3, 3) := by decide +kernel
theorem dX2_init_4 : decode cX2_init 4 = .ok (.aload_n 0, 1) := by decide +kernel
theorem dX2_init_5 : decode cX2_init 5 = .ok (.iload_n 1, 1) := by decide +kernel
theorem dX2_init_6 : decode cX2_init 6 = .ok (.putfield 9, 3) := by decide +kernel
theorem dX2_init_9 : decode cX2_init 9 = .ok (.aload_n 0, 1) := by decide +kernel
theorem dX2_init_10 : decode cX2_init 10 = .ok (.iload_n 2, 1) := by decide +kernel
theorem dX2_init_11 : decode cX2_init 11 = .ok (.putfield 15, 3) := by decide +kernel
theorem dX2_init_14 : decode cX2_init 14 = .ok (.aload_n 0, 1) := by decide +kernel
theorem dX2_init_15 : decode cX2_init 15 = .ok (.iload_n 3, 1) := by decide +kernel
theorem dX2_init_16 : decode cX2_init 16 = .ok (.putfield 18, 3) := by decide +kernel
theorem dX2_init_19 : decode cX2_init 19 = .ok (.aload_n 0, 1) := by decide +kernel
theorem dX2_init_20 : decode cX2_init 20 = .ok (.iload 4, 2) := by decide +kernel
theorem dX2_init_22 : decode cX2_init 22 = .ok (.putfield 21, 3) := by decide +kernel
theorem dX2_init_25 : decode cX2_init 25 = .ok (.return_, 1) := by decide +kernel
theorem dX2_isWellFormed_0 : decode cX2_isWellFormed 0 = .ok (.aload_n 0, 1) := by decide +kernel
theorem dX2_isWellFormed_1 : decode cX2_isWellFormed 1 = .ok (.getfield 15, 3) := by decide +kernel
theorem dX2_isWellFormed_4 : decode cX2_isWellFormed 4 = .ok (.aload_n 0, 1) := by decide +kernel
theorem dX2_isWellFormed_5 : decode cX2_isWellFormed 5 = .ok (.getfield 18, 3) := by decide +kernel
theorem dX2_isWellFormed_8 : decode cX2_isWellFormed 8 = .ok (.invokestatic 24, 3) := by decide +kernel
theorem dX2_isWellFormed_11 : decode cX2_isWellFormed 11 = .ok (.ifCond .eq 23, 3) := by decide +kernel
theorem dX2_isWellFormed_14 : decode cX2_isWellFormed 14 = .ok (.aload_n 0, 1) := by decide +kernel
theorem dX2_isWellFormed_15 : decode cX2_isWellFormed 15 = .ok (.getfield 21, 3) := by decide +kernel
theorem dX2_isWellFormed_18 : decode cX2_isWellFormed 18 = .ok (.sipush (-999), 3) := by decide +kernel
theorem dX2_isWellFormed_21 : decode cX2_isWellFormed 21 = .ok (.sipush 999, 3) := by decide +kernel
theorem dX2_isWellFormed_24 : decode cX2_isWellFormed 24 = .ok (.invokestatic 28, 3) := by decide +kernel
theorem dX2_isWellFormed_27 : decode cX2_isWellFormed 27 = .ok (.ifCond .eq 7, 3) := by decide +kernel
theorem dX2_isWellFormed_30 : decode cX2_isWellFormed 30 = .ok (.iconst 1, 1) := by decide +kernel
theorem dX2_isWellFormed_31 : decode cX2_isWellFormed 31 = .ok (.goto 4, 3) := by decide +kernel
theorem dX2_isWellFormed_34 : decode cX2_isWellFormed 34 = .ok (.iconst 0, 1) := by decide +kernel
theorem dX2_isWellFormed_35 : decode cX2_isWellFormed 35 = .ok (.ireturn, 1) := by decide +kernel
theorem dX2_isPredicate_0 : decode cX2_isPredicate 0 = .ok (.aload_n 0, 1) := by decide +kernel
theorem dX2_isPredicate_1 : decode cX2_isPredicate 1 = .ok (.getfield 9, 3) := by decide +kernel
theorem dX2_isPredicate_4 : decode cX2_isPredicate 4 = .ok (.iconst 1, 1) := by decide +kernel
theorem dX2_isPredicate_5 : decode cX2_isPredicate 5 = .ok (.if_icmp .eq 11, 3) := by decide +kernel
theorem dX2_isPredicate_8 : decode cX2_isPredicate 8 = .ok (.aload_n 0, 1) := by decide +kernel
theorem dX2_isPredicate_9 : decode cX2_isPredicate 9 = .ok (.getfield 9, 3) := by decide +kernel
theorem dX2_isPredicate_12 : decode cX2_isPredicate 12 = .ok (.iconst 2, 1) := by decide +kernel
theorem dX2_isPredicate_13 : decode cX2_isPredicate 13 = .ok (.if_icmp .ne 7, 3) := by decide +kernel
theorem dX2_isPredicate_16 : decode cX2_isPredicate 16 = .ok (.iconst 1, 1) := by decide +kernel
theorem dX2_isPredicate_17 : decode cX2_isPredicate 17 = .ok (.goto 4, 3) := by decide +kernel
theorem dX2_isPredicate_20 : decode cX2_isPredicate 20 = .ok (.iconst 0, 1) := by decide +kernel
theorem dX2_isPredicate_21 : decode cX2_isPredicate 21 = .ok (.ireturn, 1) := by decide +kernel
theorem dX2_makesRead_0 : decode cX2_makesRead 0 = .ok (.aload_n 0, 1) := by decide +kernel
theorem dX2_makesRead_1 : decode cX2_makesRead 1 = .ok (.getfield 9, 3) := by decide +kernel
theorem dX2_makesRead_4 : decode cX2_makesRead 4 = .ok (.ifCond .eq 11, 3) := by decide +kernel
theorem dX2_makesRead_7 : decode cX2_makesRead 7 = .ok (.aload_n 0, 1) := by decide +kernel
theorem dX2_makesRead_8 : decode cX2_makesRead 8 = .ok (.getfield 9, 3) := by decide +kernel
theorem dX2_makesRead_11 : decode cX2_makesRead 11 = .ok (.iconst 5, 1) := by decide +kernel
theorem dX2_makesRead_12 : decode cX2_makesRead 12 = .ok (.if_icmp .ne 7, 3) := by decide +kernel
theorem dX2_makesRead_15 : decode cX2_makesRead 15 = .ok (.iconst 1, 1) := by decide +kernel
theorem dX2_makesRead_16 : decode cX2_makesRead 16 = .ok (.goto 4, 3) := by decide +kernel
theorem dX2_makesRead_19 : decode cX2_makesRead 19 = .ok (.iconst 0, 1) := by decide +kernel
theorem dX2_makesRead_20 : decode cX2_makesRead 20 = .ok (.ireturn, 1) := by decide +kernel
theorem dX2_makesWrite_0 : decode cX2_makesWrite 0 = .ok (.aload_n 0, 1) := by decide +kernel
theorem dX2_makesWrite_1 : decode cX2_makesWrite 1 = .ok (.getfield 9, 3) := by decide +kernel
theorem dX2_makesWrite_4 : decode cX2_makesWrite 4 = .ok (.iconst 3, 1) := by decide +kernel
theorem dX2_makesWrite_5 : decode cX2_makesWrite 5 = .ok (.if_icmp .eq 19, 3) := by decide +kernel
theorem dX2_makesWrite_8 : decode cX2_makesWrite 8 = .ok (.aload_n 0, 1) := by decide +kernel
theorem dX2_makesWrite_9 : decode cX2_makesWrite 9 = .ok (.getfield 9, 3) := by decide +kernel
theorem dX2_makesWrite_12 : decode cX2_makesWrite 12 = .ok (.iconst 4, 1) := by decide +kernel
theorem dX2_makesWrite_13 : decode cX2_makesWrite 13 = .ok (.if_icmp .eq 11, 3) := by decide +kernel
theorem dX2_makesWrite_16 : decode cX2_makesWrite 16 = .ok (.aload_n 0, 1) := by decide +kernel
theorem dX2_makesWrite_17 : decode cX2_makesWrite 17 = .ok (.getfield 9, 3) := by decide +kernel
theorem dX2_makesWrite_20 : decode cX2_makesWrite 20 = .ok (.iconst 5, 1) := by decide +kernel
theorem dX2_makesWrite_21 : decode cX2_makesWrite 21 = .ok (.if_icmp .ne 7, 3) := by decide +kernel
theorem dX2_makesWrite_24 : decode cX2_makesWrite 24 = .ok (.iconst 1, 1) := by decide +kernel
theorem dX2_makesWrite_25 : decode cX2_makesWrite 25 = .ok (.goto 4, 3) := by decide +kernel
theorem dX2_makesWrite_28 : decode cX2_makesWrite 28 = .ok (.iconst 0, 1) := by decide +kernel
theorem dX2_makesWrite_29 : decode cX2_makesWrite 29 = .ok (.ireturn, 1) := by decide +kernel
theorem dX2_staysInRange_0 : decode cX2_staysInRange 0 = .ok (.aload_n 0, 1) := by decide +kernel
theorem dX2_staysInRange_1 : decode cX2_staysInRange 1 = .ok (.getfield 9, 3) := by decide +kernel
theorem dX2_staysInRange_4 : decode cX2_staysInRange 4 = .ok (.iconst 5, 1) := by decide +kernel
theorem dX2_staysInRange_5 : decode cX2_staysInRange 5 = .ok (.if_icmp .ne 25, 3) := by decide +kernel
theorem dX2_staysInRange_8 : decode cX2_staysInRange 8 = .ok (.aload_n 0, 1) := by decide +kernel
theorem dX2_staysInRange_9 : decode cX2_staysInRange 9 = .ok (.aload_n 1, 1) := by decide +kernel
theorem dX2_staysInRange_10 : decode cX2_staysInRange 10 = .ok (.aload_n 0, 1) := by decide +kernel
theorem dX2_staysInRange_11 : decode cX2_staysInRange 11 = .ok (.getfield 15, 3) := by decide +kernel
theorem dX2_staysInRange_14 : decode cX2_staysInRange 14 = .ok (.iaload, 1) := by decide +kernel
theorem dX2_staysInRange_15 : decode cX2_staysInRange 15 = .ok (.invokevirtual 32, 3) := by decide +kernel
theorem dX2_staysInRange_18 : decode cX2_staysInRange 18 = .ok (.sipush (-999), 3) := by decide +kernel
theorem dX2_staysInRange_21 : decode cX2_staysInRange 21 = .ok (.sipush 999, 3) := by decide +kernel
theorem dX2_staysInRange_24 : decode cX2_staysInRange 24 = .ok (.invokestatic 28, 3) := by decide +kernel
theorem dX2_staysInRange_27 : decode cX2_staysInRange 27 = .ok (.ifCond .eq 7, 3) := by decide +kernel
theorem dX2_staysInRange_30 : decode cX2_staysInRange 30 = .ok (.iconst 1, 1) := by decide +kernel
theorem dX2_staysInRange_31 : decode cX2_staysInRange 31 = .ok (.goto 4, 3) := by decide +kernel
theorem dX2_staysInRange_34 : decode cX2_staysInRange 34 = .ok (.iconst 0, 1) := by decide +kernel
theorem dX2_staysInRange_35 : decode cX2_staysInRange 35 = .ok (.ireturn, 1) := by decide +kernel
theorem dX2_carryOut_0 : decode cX2_carryOut 0 = .ok (.aload_n 0, 1) := by decide +kernel
theorem dX2_carryOut_1 : decode cX2_carryOut 1 = .ok (.getfield 9, 3) := by decide +kernel
theorem dX2_carryOut_4 : decode cX2_carryOut 4 = .ok (.tableswitch 113 0 5 #[40, 47, 64, 113, 77, 90], 40) := by decide +kernel
theorem dX2_carryOut_44 : decode cX2_carryOut 44 = .ok (.aload_n 1, 1) := by decide +kernel
theorem dX2_carryOut_45 : decode cX2_carryOut 45 = .ok (.aload_n 0, 1) := by decide +kernel
theorem dX2_carryOut_46 : decode cX2_carryOut 46 = .ok (.getfield 15, 3) := by decide +kernel
theorem dX2_carryOut_49 : decode cX2_carryOut 49 = .ok (.iaload, 1) := by decide +kernel
theorem dX2_carryOut_50 : decode cX2_carryOut 50 = .ok (.ireturn, 1) := by decide +kernel
theorem dX2_carryOut_51 : decode cX2_carryOut 51 = .ok (.aload_n 1, 1) := by decide +kernel
theorem dX2_carryOut_52 : decode cX2_carryOut 52 = .ok (.aload_n 0, 1) := by decide +kernel
theorem dX2_carryOut_53 : decode cX2_carryOut 53 = .ok (.getfield 15, 3) := by decide +kernel
theorem dX2_carryOut_56 : decode cX2_carryOut 56 = .ok (.aload_n 0, 1) := by decide +kernel
theorem dX2_carryOut_57 : decode cX2_carryOut 57 = .ok (.getfield 18, 3) := by decide +kernel
theorem dX2_carryOut_60 : decode cX2_carryOut 60 = .ok (.aload_n 0, 1) := by decide +kernel
theorem dX2_carryOut_61 : decode cX2_carryOut 61 = .ok (.getfield 21, 3) := by decide +kernel
theorem dX2_carryOut_64 : decode cX2_carryOut 64 = .ok (.invokestatic 36, 3) := by decide +kernel
theorem dX2_carryOut_67 : decode cX2_carryOut 67 = .ok (.ireturn, 1) := by decide +kernel
theorem dX2_carryOut_68 : decode cX2_carryOut 68 = .ok (.aload_n 1, 1) := by decide +kernel
theorem dX2_carryOut_69 : decode cX2_carryOut 69 = .ok (.aload_n 0, 1) := by decide +kernel
theorem dX2_carryOut_70 : decode cX2_carryOut 70 = .ok (.getfield 15, 3) := by decide +kernel
theorem dX2_carryOut_73 : decode cX2_carryOut 73 = .ok (.aload_n 0, 1) := by decide +kernel
theorem dX2_carryOut_74 : decode cX2_carryOut 74 = .ok (.getfield 18, 3) := by decide +kernel
theorem dX2_carryOut_77 : decode cX2_carryOut 77 = .ok (.invokestatic 40, 3) := by decide +kernel
theorem dX2_carryOut_80 : decode cX2_carryOut 80 = .ok (.ireturn, 1) := by decide +kernel
theorem dX2_carryOut_81 : decode cX2_carryOut 81 = .ok (.aload_n 1, 1) := by decide +kernel
theorem dX2_carryOut_82 : decode cX2_carryOut 82 = .ok (.aload_n 0, 1) := by decide +kernel
theorem dX2_carryOut_83 : decode cX2_carryOut 83 = .ok (.getfield 15, 3) := by decide +kernel
theorem dX2_carryOut_86 : decode cX2_carryOut 86 = .ok (.sipush (-1000), 3) := by decide +kernel
theorem dX2_carryOut_89 : decode cX2_carryOut 89 = .ok (.iastore, 1) := by decide +kernel
theorem dX2_carryOut_90 : decode cX2_carryOut 90 = .ok (.sipush (-1000), 3) := by decide +kernel
theorem dX2_carryOut_93 : decode cX2_carryOut 93 = .ok (.ireturn, 1) := by decide +kernel
theorem dX2_carryOut_94 : decode cX2_carryOut 94 = .ok (.aload_n 1, 1) := by decide +kernel
theorem dX2_carryOut_95 : decode cX2_carryOut 95 = .ok (.aload_n 0, 1) := by decide +kernel
theorem dX2_carryOut_96 : decode cX2_carryOut 96 = .ok (.getfield 15, 3) := by decide +kernel
theorem dX2_carryOut_99 : decode cX2_carryOut 99 = .ok (.aload_n 0, 1) := by decide +kernel
theorem dX2_carryOut_100 : decode cX2_carryOut 100 = .ok (.aload_n 1, 1) := by decide +kernel
theorem dX2_carryOut_101 : decode cX2_carryOut 101 = .ok (.aload_n 0, 1) := by decide +kernel
theorem dX2_carryOut_102 : decode cX2_carryOut 102 = .ok (.getfield 15, 3) := by decide +kernel
theorem dX2_carryOut_105 : decode cX2_carryOut 105 = .ok (.iaload, 1) := by decide +kernel
theorem dX2_carryOut_106 : decode cX2_carryOut 106 = .ok (.invokevirtual 32, 3) := by decide +kernel
theorem dX2_carryOut_109 : decode cX2_carryOut 109 = .ok (.iastore, 1) := by decide +kernel
theorem dX2_carryOut_110 : decode cX2_carryOut 110 = .ok (.aload_n 1, 1) := by decide +kernel
theorem dX2_carryOut_111 : decode cX2_carryOut 111 = .ok (.aload_n 0, 1) := by decide +kernel
theorem dX2_carryOut_112 : decode cX2_carryOut 112 = .ok (.getfield 15, 3) := by decide +kernel
theorem dX2_carryOut_115 : decode cX2_carryOut 115 = .ok (.iaload, 1) := by decide +kernel
theorem dX2_carryOut_116 : decode cX2_carryOut 116 = .ok (.ireturn, 1) := by decide +kernel
theorem dX2_carryOut_117 : decode cX2_carryOut 117 = .ok (.aload_n 1, 1) := by decide +kernel
theorem dX2_carryOut_118 : decode cX2_carryOut 118 = .ok (.aload_n 0, 1) := by decide +kernel
theorem dX2_carryOut_119 : decode cX2_carryOut 119 = .ok (.getfield 15, 3) := by decide +kernel
theorem dX2_carryOut_122 : decode cX2_carryOut 122 = .ok (.aload_n 0, 1) := by decide +kernel
theorem dX2_carryOut_123 : decode cX2_carryOut 123 = .ok (.getfield 21, 3) := by decide +kernel
theorem dX2_carryOut_126 : decode cX2_carryOut 126 = .ok (.iastore, 1) := by decide +kernel
theorem dX2_carryOut_127 : decode cX2_carryOut 127 = .ok (.aload_n 0, 1) := by decide +kernel
theorem dX2_carryOut_128 : decode cX2_carryOut 128 = .ok (.getfield 21, 3) := by decide +kernel
theorem dX2_carryOut_131 : decode cX2_carryOut 131 = .ok (.ireturn, 1) := by decide +kernel
theorem dX2_isTouchedBy_0 : decode cX2_isTouchedBy 0 = .ok (.aload_n 0, 1) := by decide +kernel
theorem dX2_isTouchedBy_1 : decode cX2_isTouchedBy 1 = .ok (.invokevirtual 44, 3) := by decide +kernel
theorem dX2_isTouchedBy_4 : decode cX2_isTouchedBy 4 = .ok (.ifCond .ne 5, 3) := by decide +kernel
theorem dX2_isTouchedBy_7 : decode cX2_isTouchedBy 7 = .ok (.iconst 0, 1) := by decide +kernel
theorem dX2_isTouchedBy_8 : decode cX2_isTouchedBy 8 = .ok (.ireturn, 1) := by decide +kernel
theorem dX2_isTouchedBy_9 : decode cX2_isTouchedBy 9 = .ok (.aload_n 0, 1) := by decide +kernel
theorem dX2_isTouchedBy_10 : decode cX2_isTouchedBy 10 = .ok (.getfield 15, 3) := by decide +kernel
theorem dX2_isTouchedBy_13 : decode cX2_isTouchedBy 13 = .ok (.istore_n 3, 1) := by decide +kernel
theorem dX2_isTouchedBy_14 : decode cX2_isTouchedBy 14 = .ok (.iload_n 3, 1) := by decide +kernel
theorem dX2_isTouchedBy_15 : decode cX2_isTouchedBy 15 = .ok (.aload_n 0, 1) := by decide +kernel
theorem dX2_isTouchedBy_16 : decode cX2_isTouchedBy 16 = .ok (.getfield 18, 3) := by decide +kernel
theorem dX2_isTouchedBy_19 : decode cX2_isTouchedBy 19 = .ok (.if_icmp .gt 42, 3) := by decide +kernel
theorem dX2_isTouchedBy_22 : decode cX2_isTouchedBy 22 = .ok (.aload_n 1, 1) := by decide +kernel
theorem dX2_isTouchedBy_23 : decode cX2_isTouchedBy 23 = .ok (.iload_n 3, 1) := by decide +kernel
theorem dX2_isTouchedBy_24 : decode cX2_isTouchedBy 24 = .ok (.invokevirtual 48, 3) := by decide +kernel
theorem dX2_isTouchedBy_27 : decode cX2_isTouchedBy 27 = .ok (.ifCond .eq 28, 3) := by decide +kernel
theorem dX2_isTouchedBy_30 : decode cX2_isTouchedBy 30 = .ok (.aload_n 0, 1) := by decide +kernel
theorem dX2_isTouchedBy_31 : decode cX2_isTouchedBy 31 = .ok (.aload_n 2, 1) := by decide +kernel
theorem dX2_isTouchedBy_32 : decode cX2_isTouchedBy 32 = .ok (.iload_n 3, 1) := by decide +kernel
theorem dX2_isTouchedBy_33 : decode cX2_isTouchedBy 33 = .ok (.iaload, 1) := by decide +kernel
theorem dX2_isTouchedBy_34 : decode cX2_isTouchedBy 34 = .ok (.invokevirtual 54, 3) := by decide +kernel
theorem dX2_isTouchedBy_37 : decode cX2_isTouchedBy 37 = .ok (.ifCond .ne 16, 3) := by decide +kernel
theorem dX2_isTouchedBy_40 : decode cX2_isTouchedBy 40 = .ok (.aload_n 0, 1) := by decide +kernel
theorem dX2_isTouchedBy_41 : decode cX2_isTouchedBy 41 = .ok (.aload_n 1, 1) := by decide +kernel
theorem dX2_isTouchedBy_42 : decode cX2_isTouchedBy 42 = .ok (.getfield 57, 3) := by decide +kernel
theorem dX2_isTouchedBy_45 : decode cX2_isTouchedBy 45 = .ok (.iload_n 3, 1) := by decide +kernel
theorem dX2_isTouchedBy_46 : decode cX2_isTouchedBy 46 = .ok (.iaload, 1) := by decide +kernel
theorem dX2_isTouchedBy_47 : decode cX2_isTouchedBy 47 = .ok (.invokevirtual 54, 3) := by decide +kernel
theorem dX2_isTouchedBy_50 : decode cX2_isTouchedBy 50 = .ok (.ifCond .eq 5, 3) := by decide +kernel
theorem dX2_isTouchedBy_53 : decode cX2_isTouchedBy 53 = .ok (.iconst 1, 1) := by decide +kernel
theorem dX2_isTouchedBy_54 : decode cX2_isTouchedBy 54 = .ok (.ireturn, 1) := by decide +kernel
theorem dX2_isTouchedBy_55 : decode cX2_isTouchedBy 55 = .ok (.iinc 3 1, 3) := by decide +kernel
theorem dX2_isTouchedBy_58 : decode cX2_isTouchedBy 58 = .ok (.goto (-44), 3) := by decide +kernel
theorem dX2_isTouchedBy_61 : decode cX2_isTouchedBy 61 = .ok (.iconst 0, 1) := by decide +kernel
theorem dX2_isTouchedBy_62 : decode cX2_isTouchedBy 62 = .ok (.ireturn, 1) := by decide +kernel
theorem dX2_sumWith_0 : decode cX2_sumWith 0 = .ok (.iload_n 1, 1) := by decide +kernel
theorem dX2_sumWith_1 : decode cX2_sumWith 1 = .ok (.sipush (-1000), 3) := by decide +kernel
theorem dX2_sumWith_4 : decode cX2_sumWith 4 = .ok (.if_icmp .ne 7, 3) := by decide +kernel
theorem dX2_sumWith_7 : decode cX2_sumWith 7 = .ok (.iconst 0, 1) := by decide +kernel
theorem dX2_sumWith_8 : decode cX2_sumWith 8 = .ok (.goto 4, 3) := by decide +kernel
theorem dX2_sumWith_11 : decode cX2_sumWith 11 = .ok (.iload_n 1, 1) := by decide +kernel
theorem dX2_sumWith_12 : decode cX2_sumWith 12 = .ok (.aload_n 0, 1) := by decide +kernel
theorem dX2_sumWith_13 : decode cX2_sumWith 13 = .ok (.getfield 21, 3) := by decide +kernel
theorem dX2_sumWith_16 : decode cX2_sumWith 16 = .ok (.iadd, 1) := by decide +kernel
theorem dX2_sumWith_17 : decode cX2_sumWith 17 = .ok (.ireturn, 1) := by decide +kernel
theorem dX2_admits_0 : decode cX2_admits 0 = .ok (.iload_n 1, 1) := by decide +kernel
theorem dX2_admits_1 : decode cX2_admits 1 = .ok (.sipush (-1000), 3) := by decide +kernel
theorem dX2_admits_4 : decode cX2_admits 4 = .ok (.if_icmp .eq 15, 3) := by decide +kernel
theorem dX2_admits_7 : decode cX2_admits 7 = .ok (.iload_n 1, 1) := by decide +kernel
theorem dX2_admits_8 : decode cX2_admits 8 = .ok (.aload_n 0, 1) := by decide +kernel
theorem dX2_admits_9 : decode cX2_admits 9 = .ok (.getfield 21, 3) := by decide +kernel
theorem dX2_admits_12 : decode cX2_admits 12 = .ok (.if_icmp .lt 7, 3) := by decide +kernel
theorem dX2_admits_15 : decode cX2_admits 15 = .ok (.iconst 1, 1) := by decide +kernel
theorem dX2_admits_16 : decode cX2_admits 16 = .ok (.goto 4, 3) := by decide +kernel
theorem dX2_admits_19 : decode cX2_admits 19 = .ok (.iconst 0, 1) := by decide +kernel
theorem dX2_admits_20 : decode cX2_admits 20 = .ok (.ireturn, 1) := by decide +kernel
theorem dX3_init_0 : decode cX3_init 0 = .ok (.aload_n 0, 1) := by decide +kernel
theorem dX3_init_1 : decode cX3_init 1 = .ok (.invokespecial 3, 3) := by decide +kernel
theorem dX3_init_4 : decode cX3_init 4 = .ok (.aload_n 0, 1) := by decide +kernel
theorem dX3_init_5 : decode cX3_init 5 = .ok (.bipush 60, 2) := by decide +kernel
theorem dX3_init_7 : decode cX3_init 7 = .ok (.newarray .char, 2) := by decide +kernel
theorem dX3_init_9 : decode cX3_init 9 = .ok (.putfield 9, 3) := by decide +kernel
theorem dX3_init_12 : decode cX3_init 12 = .ok (.aload_n 0, 1) := by decide +kernel
theorem dX3_init_13 : decode cX3_init 13 = .ok (.bipush 30, 2) := by decide +kernel
theorem dX3_init_15 : decode cX3_init 15 = .ok (.anewarray 15, 3) := by decide +kernel
theorem dX3_init_18 : decode cX3_init 18 = .ok (.putfield 17, 3) := by decide +kernel
theorem dX3_init_21 : decode cX3_init 21 = .ok (.aload_n 0, 1) := by decide +kernel
theorem dX3_init_22 : decode cX3_init 22 = .ok (.iconst (-1), 1) := by decide +kernel
theorem dX3_init_23 : decode cX3_init 23 = .ok (.putfield 21, 3) := by decide +kernel
theorem dX3_init_26 : decode cX3_init 26 = .ok (.return_, 1) := by decide +kernel
theorem dX3_extend_0 : decode cX3_extend 0 = .ok (.aload_n 0, 1) := by decide +kernel
theorem dX3_extend_1 : decode cX3_extend 1 = .ok (.getfield 25, 3) := by decide +kernel
theorem dX3_extend_4 : decode cX3_extend 4 = .ok (.bipush 60, 2) := by decide +kernel
theorem dX3_extend_6 : decode cX3_extend 6 = .ok (.if_icmp .ge 23, 3) := by decide +kernel
theorem dX3_extend_9 : decode cX3_extend 9 = .ok (.aload_n 0, 1) := by decide +kernel
theorem dX3_extend_10 : decode cX3_extend 10 = .ok (.getfield 9, 3) := by decide +kernel
theorem dX3_extend_13 : decode cX3_extend 13 = .ok (.aload_n 0, 1) := by decide +kernel
theorem dX3_extend_14 : decode cX3_extend 14 = .ok (.getfield 25, 3) := by decide +kernel
theorem dX3_extend_17 : decode cX3_extend 17 = .ok (.iload_n 1, 1) := by decide +kernel
theorem dX3_extend_18 : decode cX3_extend 18 = .ok (.castore, 1) := by decide +kernel
theorem dX3_extend_19 : decode cX3_extend 19 = .ok (.aload_n 0, 1) := by decide +kernel
theorem dX3_extend_20 : decode cX3_extend 20 = .ok (.dup, 1) := by decide +kernel
theorem dX3_extend_21 : decode cX3_extend 21 = .ok (.getfield 25, 3) := by decide +kernel
theorem dX3_extend_24 : decode cX3_extend 24 = .ok (.iconst 1, 1) := by decide +kernel
theorem dX3_extend_25 : decode cX3_extend 25 = .ok (.iadd, 1) := by decide +kernel
theorem dX3_extend_26 : decode cX3_extend 26 = .ok (.putfield 25, 3) := by decide +kernel
theorem dX3_extend_29 : decode cX3_extend 29 = .ok (.aload_n 0, 1) := by decide +kernel
theorem dX3_extend_30 : decode cX3_extend 30 = .ok (.getfield 25, 3) := by decide +kernel
theorem dX3_extend_33 : decode cX3_extend 33 = .ok (.ireturn, 1) := by decide +kernel
theorem dX3_stepAt_0 : decode cX3_stepAt 0 = .ok (.iload_n 1, 1) := by decide +kernel
theorem dX3_stepAt_1 : decode cX3_stepAt 1 = .ok (.ifCond .lt 20, 3) := by decide +kernel
theorem dX3_stepAt_4 : decode cX3_stepAt 4 = .ok (.iload_n 1, 1) := by decide +kernel
theorem dX3_stepAt_5 : decode cX3_stepAt 5 = .ok (.aload_n 0, 1) := by decide +kernel
theorem dX3_stepAt_6 : decode cX3_stepAt 6 = .ok (.getfield 28, 3) := by decide +kernel
theorem dX3_stepAt_9 : decode cX3_stepAt 9 = .ok (.if_icmp .ge 12, 3) := by decide +kernel
theorem dX3_stepAt_12 : decode cX3_stepAt 12 = .ok (.aload_n 0, 1) := by decide +kernel
theorem dX3_stepAt_13 : decode cX3_stepAt 13 = .ok (.getfield 17, 3) := by decide +kernel
theorem dX3_stepAt_16 : decode cX3_stepAt 16 = .ok (.iload_n 1, 1) := by decide +kernel
theorem dX3_stepAt_17 : decode cX3_stepAt 17 = .ok (.aaload, 1) := by decide +kernel
theorem dX3_stepAt_18 : decode cX3_stepAt 18 = .ok (.goto 4, 3) := by decide +kernel
theorem dX3_stepAt_21 : decode cX3_stepAt 21 = .ok (.aconst_null, 1) := by decide +kernel
theorem dX3_stepAt_22 : decode cX3_stepAt 22 = .ok (.areturn, 1) := by decide +kernel
theorem dX3_parseAndEmpty_0 : decode cX3_parseAndEmpty 0 = .ok (.aload_n 0, 1) := by decide +kernel
theorem dX3_parseAndEmpty_1 : decode cX3_parseAndEmpty 1 = .ok (.iconst 0, 1) := by decide +kernel
theorem dX3_parseAndEmpty_2 : decode cX3_parseAndEmpty 2 = .ok (.putfield 31, 3) := by decide +kernel
theorem dX3_parseAndEmpty_5 : decode cX3_parseAndEmpty 5 = .ok (.aload_n 0, 1) := by decide +kernel
theorem dX3_parseAndEmpty_6 : decode cX3_parseAndEmpty 6 = .ok (.iconst 0, 1) := by decide +kernel
theorem dX3_parseAndEmpty_7 : decode cX3_parseAndEmpty 7 = .ok (.putfield 28, 3) := by decide +kernel
theorem dX3_parseAndEmpty_10 : decode cX3_parseAndEmpty 10 = .ok (.aload_n 0, 1) := by decide +kernel
theorem dX3_parseAndEmpty_11 : decode cX3_parseAndEmpty 11 = .ok (.invokevirtual 34, 3) := by decide +kernel
theorem dX3_parseAndEmpty_14 : decode cX3_parseAndEmpty 14 = .ok (.istore_n 1, 1) := by decide +kernel
theorem dX3_parseAndEmpty_15 : decode cX3_parseAndEmpty 15 = .ok (.aload_n 0, 1) := by decide +kernel
theorem dX3_parseAndEmpty_16 : decode cX3_parseAndEmpty 16 = .ok (.iload_n 1, 1) := by decide +kernel
theorem dX3_parseAndEmpty_17 : decode cX3_parseAndEmpty 17 = .ok (.ifCond .eq 7, 3) := by decide +kernel
theorem dX3_parseAndEmpty_20 : decode cX3_parseAndEmpty 20 = .ok (.iconst (-1), 1) := by decide +kernel
theorem dX3_parseAndEmpty_21 : decode cX3_parseAndEmpty 21 = .ok (.goto 7, 3) := by decide +kernel
theorem dX3_parseAndEmpty_24 : decode cX3_parseAndEmpty 24 = .ok (.aload_n 0, 1) := by decide +kernel
theorem dX3_parseAndEmpty_25 : decode cX3_parseAndEmpty 25 = .ok (.getfield 31, 3) := by decide +kernel
theorem dX3_parseAndEmpty_28 : decode cX3_parseAndEmpty 28 = .ok (.putfield 21, 3) := by decide +kernel
theorem dX3_parseAndEmpty_31 : decode cX3_parseAndEmpty 31 = .ok (.aload_n 0, 1) := by decide +kernel
theorem dX3_parseAndEmpty_32 : decode cX3_parseAndEmpty 32 = .ok (.iconst 0, 1) := by decide +kernel
theorem dX3_parseAndEmpty_33 : decode cX3_parseAndEmpty 33 = .ok (.putfield 25, 3) := by decide +kernel
theorem dX3_parseAndEmpty_36 : decode cX3_parseAndEmpty 36 = .ok (.iload_n 1, 1) := by decide +kernel
theorem dX3_parseAndEmpty_37 : decode cX3_parseAndEmpty 37 = .ok (.ireturn, 1) := by decide +kernel
theorem dX3_parseSteps_0 : decode cX3_parseSteps 0 = .ok (.iconst 0, 1) := by decide +kernel
theorem dX3_parseSteps_1 : decode cX3_parseSteps 1 = .ok (.istore_n 1, 1) := by decide +kernel
theorem dX3_parseSteps_2 : decode cX3_parseSteps 2 = .ok (.iload_n 1, 1) := by decide +kernel
theorem dX3_parseSteps_3 : decode cX3_parseSteps 3 = .ok (.bipush 30, 2) := by decide +kernel
theorem dX3_parseSteps_5 : decode cX3_parseSteps 5 = .ok (.if_icmp .ge 58, 3) := by decide +kernel
theorem dX3_parseSteps_8 : decode cX3_parseSteps 8 = .ok (.aload_n 0, 1) := by decide +kernel
theorem dX3_parseSteps_9 : decode cX3_parseSteps 9 = .ok (.invokevirtual 38, 3) := by decide +kernel
theorem dX3_parseSteps_12 : decode cX3_parseSteps 12 = .ok (.astore_n 2, 1) := by decide +kernel
theorem dX3_parseSteps_13 : decode cX3_parseSteps 13 = .ok (.aload_n 2, 1) := by decide +kernel
theorem dX3_parseSteps_14 : decode cX3_parseSteps 14 = .ok (.ifnonnull 5, 3) := by decide +kernel
theorem dX3_parseSteps_17 : decode cX3_parseSteps 17 = .ok (.iconst 0, 1) := by decide +kernel
theorem dX3_parseSteps_18 : decode cX3_parseSteps 18 = .ok (.ireturn, 1) := by decide +kernel
theorem dX3_parseSteps_19 : decode cX3_parseSteps 19 = .ok (.aload_n 0, 1) := by decide +kernel
theorem dX3_parseSteps_20 : decode cX3_parseSteps 20 = .ok (.getfield 17, 3) := by decide +kernel
theorem dX3_parseSteps_23 : decode cX3_parseSteps 23 = .ok (.iload_n 1, 1) := by decide +kernel
theorem dX3_parseSteps_24 : decode cX3_parseSteps 24 = .ok (.aload_n 2, 1) := by decide +kernel
theorem dX3_parseSteps_25 : decode cX3_parseSteps 25 = .ok (.aastore, 1) := by decide +kernel
theorem dX3_parseSteps_26 : decode cX3_parseSteps 26 = .ok (.aload_n 0, 1) := by decide +kernel
theorem dX3_parseSteps_27 : decode cX3_parseSteps 27 = .ok (.iload_n 1, 1) := by decide +kernel
theorem dX3_parseSteps_28 : decode cX3_parseSteps 28 = .ok (.iconst 1, 1) := by decide +kernel
theorem dX3_parseSteps_29 : decode cX3_parseSteps 29 = .ok (.iadd, 1) := by decide +kernel
theorem dX3_parseSteps_30 : decode cX3_parseSteps 30 = .ok (.putfield 28, 3) := by decide +kernel
theorem dX3_parseSteps_33 : decode cX3_parseSteps 33 = .ok (.aload_n 0, 1) := by decide +kernel
theorem dX3_parseSteps_34 : decode cX3_parseSteps 34 = .ok (.getfield 31, 3) := by decide +kernel
theorem dX3_parseSteps_37 : decode cX3_parseSteps 37 = .ok (.aload_n 0, 1) := by decide +kernel
theorem dX3_parseSteps_38 : decode cX3_parseSteps 38 = .ok (.getfield 25, 3) := by decide +kernel
theorem dX3_parseSteps_41 : decode cX3_parseSteps 41 = .ok (.if_icmp .ne 5, 3) := by decide +kernel
theorem dX3_parseSteps_44 : decode cX3_parseSteps 44 = .ok (.iconst 1, 1) := by decide +kernel
theorem dX3_parseSteps_45 : decode cX3_parseSteps 45 = .ok (.ireturn, 1) := by decide +kernel
theorem dX3_parseSteps_46 : decode cX3_parseSteps 46 = .ok (.aload_n 0, 1) := by decide +kernel
theorem dX3_parseSteps_47 : decode cX3_parseSteps 47 = .ok (.bipush 59, 2) := by decide +kernel
theorem dX3_parseSteps_49 : decode cX3_parseSteps 49 = .ok (.invokevirtual 42, 3) := by decide +kernel
theorem dX3_parseSteps_52 : decode cX3_parseSteps 52 = .ok (.ifCond .ne 5, 3) := by decide +kernel
theorem dX3_parseSteps_55 : decode cX3_parseSteps 55 = .ok (.iconst 0, 1) := by decide +kernel
theorem dX3_parseSteps_56 : decode cX3_parseSteps 56 = .ok (.ireturn, 1) := by decide +kernel
theorem dX3_parseSteps_57 : decode cX3_parseSteps 57 = .ok (.iinc 1 1, 3) := by decide +kernel
theorem dX3_parseSteps_60 : decode cX3_parseSteps 60 = .ok (.goto (-58), 3) := by decide +kernel
theorem dX3_parseSteps_63 : decode cX3_parseSteps 63 = .ok (.iconst 0, 1) := by decide +kernel
theorem dX3_parseSteps_64 : decode cX3_parseSteps 64 = .ok (.ireturn, 1) := by decide +kernel
theorem dX3_parseStep_0 : decode cX3_parseStep 0 = .ok (.aload_n 0, 1) := by decide +kernel
theorem dX3_parseStep_1 : decode cX3_parseStep 1 = .ok (.invokevirtual 46, 3) := by decide +kernel
theorem dX3_parseStep_4 : decode cX3_parseStep 4 = .ok (.invokestatic 50, 3) := by decide +kernel
theorem dX3_parseStep_7 : decode cX3_parseStep 7 = .ok (.istore_n 1, 1) := by decide +kernel
theorem dX3_parseStep_8 : decode cX3_parseStep 8 = .ok (.iload_n 1, 1) := by decide +kernel
theorem dX3_parseStep_9 : decode cX3_parseStep 9 = .ok (.iconst (-1), 1) := by decide +kernel
theorem dX3_parseStep_10 : decode cX3_parseStep 10 = .ok (.if_icmp .ne 5, 3) := by decide +kernel
theorem dX3_parseStep_13 : decode cX3_parseStep 13 = .ok (.aconst_null, 1) := by decide +kernel
theorem dX3_parseStep_14 : decode cX3_parseStep 14 = .ok (.areturn, 1) := by decide +kernel
theorem dX3_parseStep_15 : decode cX3_parseStep 15 = .ok (.aload_n 0, 1) := by decide +kernel
theorem dX3_parseStep_16 : decode cX3_parseStep 16 = .ok (.dup, 1) := by decide +kernel
theorem dX3_parseStep_17 : decode cX3_parseStep 17 = .ok (.getfield 31, 3) := by decide +kernel
theorem dX3_parseStep_20 : decode cX3_parseStep 20 = .ok (.iconst 1, 1) := by decide +kernel
theorem dX3_parseStep_21 : decode cX3_parseStep 21 = .ok (.iadd, 1) := by decide +kernel
theorem dX3_parseStep_22 : decode cX3_parseStep 22 = .ok (.putfield 31, 3) := by decide +kernel
theorem dX3_parseStep_25 : decode cX3_parseStep 25 = .ok (.aload_n 0, 1) := by decide +kernel
theorem dX3_parseStep_26 : decode cX3_parseStep 26 = .ok (.invokevirtual 54, 3) := by decide +kernel
theorem dX3_parseStep_29 : decode cX3_parseStep 29 = .ok (.istore_n 2, 1) := by decide +kernel
theorem dX3_parseStep_30 : decode cX3_parseStep 30 = .ok (.iload_n 2, 1) := by decide +kernel
theorem dX3_parseStep_31 : decode cX3_parseStep 31 = .ok (.iconst (-1), 1) := by decide +kernel
theorem dX3_parseStep_32 : decode cX3_parseStep 32 = .ok (.if_icmp .ne 5, 3) := by decide +kernel
theorem dX3_parseStep_35 : decode cX3_parseStep 35 = .ok (.aconst_null, 1) := by decide +kernel
theorem dX3_parseStep_36 : decode cX3_parseStep 36 = .ok (.areturn, 1) := by decide +kernel
theorem dX3_parseStep_37 : decode cX3_parseStep 37 = .ok (.iload_n 1, 1) := by decide +kernel
theorem dX3_parseStep_38 : decode cX3_parseStep 38 = .ok (.tableswitch 48 2 5 #[42, 30, 48, 36], 30) := by decide +kernel
theorem dX3_parseStep_68 : decode cX3_parseStep 68 = .ok (.aload_n 0, 1) := by decide +kernel
theorem dX3_parseStep_69 : decode cX3_parseStep 69 = .ok (.iload_n 2, 1) := by decide +kernel
theorem dX3_parseStep_70 : decode cX3_parseStep 70 = .ok (.invokevirtual 58, 3) := by decide +kernel
theorem dX3_parseStep_73 : decode cX3_parseStep 73 = .ok (.areturn, 1) := by decide +kernel
theorem dX3_parseStep_74 : decode cX3_parseStep 74 = .ok (.aload_n 0, 1) := by decide +kernel
theorem dX3_parseStep_75 : decode cX3_parseStep 75 = .ok (.iload_n 2, 1) := by decide +kernel
theorem dX3_parseStep_76 : decode cX3_parseStep 76 = .ok (.invokevirtual 62, 3) := by decide +kernel
theorem dX3_parseStep_79 : decode cX3_parseStep 79 = .ok (.areturn, 1) := by decide +kernel
theorem dX3_parseStep_80 : decode cX3_parseStep 80 = .ok (.aload_n 0, 1) := by decide +kernel
theorem dX3_parseStep_81 : decode cX3_parseStep 81 = .ok (.iload_n 2, 1) := by decide +kernel
theorem dX3_parseStep_82 : decode cX3_parseStep 82 = .ok (.invokevirtual 65, 3) := by decide +kernel
theorem dX3_parseStep_85 : decode cX3_parseStep 85 = .ok (.areturn, 1) := by decide +kernel
theorem dX3_parseStep_86 : decode cX3_parseStep 86 = .ok (.new 15, 3) := by decide +kernel
theorem dX3_parseStep_89 : decode cX3_parseStep 89 = .ok (.dup, 1) := by decide +kernel
theorem dX3_parseStep_90 : decode cX3_parseStep 90 = .ok (.iload_n 1, 1) := by decide +kernel
theorem dX3_parseStep_91 : decode cX3_parseStep 91 = .ok (.iload_n 2, 1) := by decide +kernel
theorem dX3_parseStep_92 : decode cX3_parseStep 92 = .ok (.iload_n 2, 1) := by decide +kernel
theorem dX3_parseStep_93 : decode cX3_parseStep 93 = .ok (.iconst 0, 1) := by decide +kernel
theorem dX3_parseStep_94 : decode cX3_parseStep 94 = .ok (.invokespecial 68, 3) := by decide +kernel
theorem dX3_parseStep_97 : decode cX3_parseStep 97 = .ok (.areturn, 1) := by decide +kernel
theorem dX3_kindOf_0 : decode cX3_kindOf 0 = .ok (.iload_n 0, 1) := by decide +kernel
theorem dX3_kindOf_1 : decode cX3_kindOf 1 = .ok (.bipush 114, 2) := by decide +kernel
theorem dX3_kindOf_3 : decode cX3_kindOf 3 = .ok (.if_icmp .ne 5, 3) := by decide +kernel
theorem dX3_kindOf_6 : decode cX3_kindOf 6 = .ok (.iconst 0, 1) := by decide +kernel
theorem dX3_kindOf_7 : decode cX3_kindOf 7 = .ok (.ireturn, 1) := by decide +kernel
theorem dX3_kindOf_8 : decode cX3_kindOf 8 = .ok (.iload_n 0, 1) := by decide +kernel
theorem dX3_kindOf_9 : decode cX3_kindOf 9 = .ok (.bipush 119, 2) := by decide +kernel
theorem dX3_kindOf_11 : decode cX3_kindOf 11 = .ok (.if_icmp .ne 5, 3) := by decide +kernel
theorem dX3_kindOf_14 : decode cX3_kindOf 14 = .ok (.iconst 3, 1) := by decide +kernel
theorem dX3_kindOf_15 : decode cX3_kindOf 15 = .ok (.ireturn, 1) := by decide +kernel
theorem dX3_kindOf_16 : decode cX3_kindOf 16 = .ok (.iload_n 0, 1) := by decide +kernel
theorem dX3_kindOf_17 : decode cX3_kindOf 17 = .ok (.bipush 100, 2) := by decide +kernel
theorem dX3_kindOf_19 : decode cX3_kindOf 19 = .ok (.if_icmp .ne 5, 3) := by decide +kernel
theorem dX3_kindOf_22 : decode cX3_kindOf 22 = .ok (.iconst 4, 1) := by decide +kernel
theorem dX3_kindOf_23 : decode cX3_kindOf 23 = .ok (.ireturn, 1) := by decide +kernel
theorem dX3_kindOf_24 : decode cX3_kindOf 24 = .ok (.iload_n 0, 1) := by decide +kernel
theorem dX3_kindOf_25 : decode cX3_kindOf 25 = .ok (.bipush 97, 2) := by decide +kernel
theorem dX3_kindOf_27 : decode cX3_kindOf 27 = .ok (.if_icmp .ne 5, 3) := by decide +kernel
theorem dX3_kindOf_30 : decode cX3_kindOf 30 = .ok (.iconst 5, 1) := by decide +kernel
theorem dX3_kindOf_31 : decode cX3_kindOf 31 = .ok (.ireturn, 1) := by decide +kernel
theorem dX3_kindOf_32 : decode cX3_kindOf 32 = .ok (.iload_n 0, 1) := by decide +kernel
theorem dX3_kindOf_33 : decode cX3_kindOf 33 = .ok (.bipush 115, 2) := by decide +kernel
theorem dX3_kindOf_35 : decode cX3_kindOf 35 = .ok (.if_icmp .ne 7, 3) := by decide +kernel
theorem dX3_kindOf_38 : decode cX3_kindOf 38 = .ok (.iconst 2, 1) := by decide +kernel
theorem dX3_kindOf_39 : decode cX3_kindOf 39 = .ok (.goto 4, 3) := by decide +kernel
theorem dX3_kindOf_42 : decode cX3_kindOf 42 = .ok (.iconst (-1), 1) := by decide +kernel
theorem dX3_kindOf_43 : decode cX3_kindOf 43 = .ok (.ireturn, 1) := by decide +kernel
theorem dX3_parseWrite_0 : decode cX3_parseWrite 0 = .ok (.aload_n 0, 1) := by decide +kernel
theorem dX3_parseWrite_1 : decode cX3_parseWrite 1 = .ok (.bipush 61, 2) := by decide +kernel
theorem dX3_parseWrite_3 : decode cX3_parseWrite 3 = .ok (.invokevirtual 42, 3) := by decide +kernel
theorem dX3_parseWrite_6 : decode cX3_parseWrite 6 = .ok (.ifCond .ne 5, 3) := by decide +kernel
theorem dX3_parseWrite_9 : decode cX3_parseWrite 9 = .ok (.aconst_null, 1) := by decide +kernel
theorem dX3_parseWrite_10 : decode cX3_parseWrite 10 = .ok (.areturn, 1) := by decide +kernel
theorem dX3_parseWrite_11 : decode cX3_parseWrite 11 = .ok (.aload_n 0, 1) := by decide +kernel
theorem dX3_parseWrite_12 : decode cX3_parseWrite 12 = .ok (.bipush 45, 2) := by decide +kernel
theorem dX3_parseWrite_14 : decode cX3_parseWrite 14 = .ok (.invokevirtual 42, 3) := by decide +kernel
theorem dX3_parseWrite_17 : decode cX3_parseWrite 17 = .ok (.istore_n 2, 1) := by decide +kernel
theorem dX3_parseWrite_18 : decode cX3_parseWrite 18 = .ok (.aload_n 0, 1) := by decide +kernel
theorem dX3_parseWrite_19 : decode cX3_parseWrite 19 = .ok (.iconst 3, 1) := by decide +kernel
theorem dX3_parseWrite_20 : decode cX3_parseWrite 20 = .ok (.iload_n 1, 1) := by decide +kernel
theorem dX3_parseWrite_21 : decode cX3_parseWrite 21 = .ok (.iload_n 2, 1) := by decide +kernel
theorem dX3_parseWrite_22 : decode cX3_parseWrite 22 = .ok (.invokevirtual 71, 3) := by decide +kernel
theorem dX3_parseWrite_25 : decode cX3_parseWrite 25 = .ok (.areturn, 1) := by decide +kernel
theorem dX3_parseAdd_0 : decode cX3_parseAdd 0 = .ok (.aload_n 0, 1) := by decide +kernel
theorem dX3_parseAdd_1 : decode cX3_parseAdd 1 = .ok (.bipush 45, 2) := by decide +kernel
theorem dX3_parseAdd_3 : decode cX3_parseAdd 3 = .ok (.invokevirtual 42, 3) := by decide +kernel
theorem dX3_parseAdd_6 : decode cX3_parseAdd 6 = .ok (.istore_n 2, 1) := by decide +kernel
theorem dX3_parseAdd_7 : decode cX3_parseAdd 7 = .ok (.iload_n 2, 1) := by decide +kernel
theorem dX3_parseAdd_8 : decode cX3_parseAdd 8 = .ok (.ifCond .ne 14, 3) := by decide +kernel
theorem dX3_parseAdd_11 : decode cX3_parseAdd 11 = .ok (.aload_n 0, 1) := by decide +kernel
theorem dX3_parseAdd_12 : decode cX3_parseAdd 12 = .ok (.bipush 43, 2) := by decide +kernel
theorem dX3_parseAdd_14 : decode cX3_parseAdd 14 = .ok (.invokevirtual 42, 3) := by decide +kernel
theorem dX3_parseAdd_17 : decode cX3_parseAdd 17 = .ok (.ifCond .ne 5, 3) := by decide +kernel
theorem dX3_parseAdd_20 : decode cX3_parseAdd 20 = .ok (.aconst_null, 1) := by decide +kernel
theorem dX3_parseAdd_21 : decode cX3_parseAdd 21 = .ok (.areturn, 1) := by decide +kernel
theorem dX3_parseAdd_22 : decode cX3_parseAdd 22 = .ok (.aload_n 0, 1) := by decide +kernel
theorem dX3_parseAdd_23 : decode cX3_parseAdd 23 = .ok (.iconst 5, 1) := by decide +kernel
theorem dX3_parseAdd_24 : decode cX3_parseAdd 24 = .ok (.iload_n 1, 1) := by decide +kernel
theorem dX3_parseAdd_25 : decode cX3_parseAdd 25 = .ok (.iload_n 2, 1) := by decide +kernel
theorem dX3_parseAdd_26 : decode cX3_parseAdd 26 = .ok (.invokevirtual 71, 3) := by decide +kernel
theorem dX3_parseAdd_29 : decode cX3_parseAdd 29 = .ok (.areturn, 1) := by decide +kernel
theorem dX3_parseSum_0 : decode cX3_parseSum 0 = .ok (.aload_n 0, 1) := by decide +kernel
theorem dX3_parseSum_1 : decode cX3_parseSum 1 = .ok (.bipush 45, 2) := by decide +kernel
theorem dX3_parseSum_3 : decode cX3_parseSum 3 = .ok (.invokevirtual 42, 3) := by decide +kernel
theorem dX3_parseSum_6 : decode cX3_parseSum 6 = .ok (.ifCond .ne 5, 3) := by decide +kernel
theorem dX3_parseSum_9 : decode cX3_parseSum 9 = .ok (.aconst_null, 1) := by decide +kernel
theorem dX3_parseSum_10 : decode cX3_parseSum 10 = .ok (.areturn, 1) := by decide +kernel
theorem dX3_parseSum_11 : decode cX3_parseSum 11 = .ok (.aload_n 0, 1) := by decide +kernel
theorem dX3_parseSum_12 : decode cX3_parseSum 12 = .ok (.invokevirtual 54, 3) := by decide +kernel
theorem dX3_parseSum_15 : decode cX3_parseSum 15 = .ok (.istore_n 2, 1) := by decide +kernel
theorem dX3_parseSum_16 : decode cX3_parseSum 16 = .ok (.iload_n 2, 1) := by decide +kernel
theorem dX3_parseSum_17 : decode cX3_parseSum 17 = .ok (.iconst (-1), 1) := by decide +kernel
theorem dX3_parseSum_18 : decode cX3_parseSum 18 = .ok (.if_icmp .ne 7, 3) := by decide +kernel
theorem dX3_parseSum_21 : decode cX3_parseSum 21 = .ok (.aconst_null, 1) := by decide +kernel
theorem dX3_parseSum_22 : decode cX3_parseSum 22 = .ok (.goto 16, 3) := by decide +kernel
theorem dX3_parseSum_25 : decode cX3_parseSum 25 = .ok (.new 15, 3) := by decide +kernel
theorem dX3_parseSum_28 : decode cX3_parseSum 28 = .ok (.dup, 1) := by decide +kernel
theorem dX3_parseSum_29 : decode cX3_parseSum 29 = .ok (.iconst 2, 1) := by decide +kernel
theorem dX3_parseSum_30 : decode cX3_parseSum 30 = .ok (.iload_n 1, 1) := by decide +kernel
theorem dX3_parseSum_31 : decode cX3_parseSum 31 = .ok (.iload_n 2, 1) := by decide +kernel
theorem dX3_parseSum_32 : decode cX3_parseSum 32 = .ok (.sipush (-999), 3) := by decide +kernel
theorem dX3_parseSum_35 : decode cX3_parseSum 35 = .ok (.invokespecial 68, 3) := by decide +kernel
theorem dX3_parseSum_38 : decode cX3_parseSum 38 = .ok (.areturn, 1) := by decide +kernel
theorem dX3_parseDigits_0 : decode cX3_parseDigits 0 = .ok (.iconst 0, 1) := by decide +kernel
theorem dX3_parseDigits_1 : decode cX3_parseDigits 1 = .ok (.istore 4, 2) := by decide +kernel
theorem dX3_parseDigits_3 : decode cX3_parseDigits 3 = .ok (.iconst 0, 1) := by decide +kernel
theorem dX3_parseDigits_4 : decode cX3_parseDigits 4 = .ok (.istore 5, 2) := by decide +kernel
theorem dX3_parseDigits_6 : decode cX3_parseDigits 6 = .ok (.iload 5, 2) := by decide +kernel
theorem dX3_parseDigits_8 : decode cX3_parseDigits 8 = .ok (.iconst 3, 1) := by decide +kernel
theorem dX3_parseDigits_9 : decode cX3_parseDigits 9 = .ok (.if_icmp .ge 44, 3) := by decide +kernel
theorem dX3_parseDigits_12 : decode cX3_parseDigits 12 = .ok (.aload_n 0, 1) := by decide +kernel
theorem dX3_parseDigits_13 : decode cX3_parseDigits 13 = .ok (.invokevirtual 46, 3) := by decide +kernel
theorem dX3_parseDigits_16 : decode cX3_parseDigits 16 = .ok (.invokestatic 75, 3) := by decide +kernel
theorem dX3_parseDigits_19 : decode cX3_parseDigits 19 = .ok (.ifCond .eq 34, 3) := by decide +kernel
theorem dX3_parseDigits_22 : decode cX3_parseDigits 22 = .ok (.iload 4, 2) := by decide +kernel
theorem dX3_parseDigits_24 : decode cX3_parseDigits 24 = .ok (.bipush 10, 2) := by decide +kernel
theorem dX3_parseDigits_26 : decode cX3_parseDigits 26 = .ok (.imul, 1) := by decide +kernel
theorem dX3_parseDigits_27 : decode cX3_parseDigits 27 = .ok (.aload_n 0, 1) := by decide +kernel
theorem dX3_parseDigits_28 : decode cX3_parseDigits 28 = .ok (.invokevirtual 46, 3) := by decide +kernel
theorem dX3_parseDigits_31 : decode cX3_parseDigits 31 = .ok (.bipush 48, 2) := by decide +kernel
theorem dX3_parseDigits_33 : decode cX3_parseDigits 33 = .ok (.isub, 1) := by decide +kernel
theorem dX3_parseDigits_34 : decode cX3_parseDigits 34 = .ok (.iadd, 1) := by decide +kernel
theorem dX3_parseDigits_35 : decode cX3_parseDigits 35 = .ok (.istore 4, 2) := by decide +kernel
theorem dX3_parseDigits_37 : decode cX3_parseDigits 37 = .ok (.aload_n 0, 1) := by decide +kernel
theorem dX3_parseDigits_38 : decode cX3_parseDigits 38 = .ok (.dup, 1) := by decide +kernel
theorem dX3_parseDigits_39 : decode cX3_parseDigits 39 = .ok (.getfield 31, 3) := by decide +kernel
theorem dX3_parseDigits_42 : decode cX3_parseDigits 42 = .ok (.iconst 1, 1) := by decide +kernel
theorem dX3_parseDigits_43 : decode cX3_parseDigits 43 = .ok (.iadd, 1) := by decide +kernel
theorem dX3_parseDigits_44 : decode cX3_parseDigits 44 = .ok (.putfield 31, 3) := by decide +kernel
theorem dX3_parseDigits_47 : decode cX3_parseDigits 47 = .ok (.iinc 5 1, 3) := by decide +kernel
theorem dX3_parseDigits_50 : decode cX3_parseDigits 50 = .ok (.goto (-44), 3) := by decide +kernel
theorem dX3_parseDigits_53 : decode cX3_parseDigits 53 = .ok (.iload 5, 2) := by decide +kernel
theorem dX3_parseDigits_55 : decode cX3_parseDigits 55 = .ok (.ifCond .ne 7, 3) := by decide +kernel
theorem dX3_parseDigits_58 : decode cX3_parseDigits 58 = .ok (.aconst_null, 1) := by decide +kernel
theorem dX3_parseDigits_59 : decode cX3_parseDigits 59 = .ok (.goto 25, 3) := by decide +kernel
theorem dX3_parseDigits_62 : decode cX3_parseDigits 62 = .ok (.new 15, 3) := by decide +kernel
theorem dX3_parseDigits_65 : decode cX3_parseDigits 65 = .ok (.dup, 1) := by decide +kernel
theorem dX3_parseDigits_66 : decode cX3_parseDigits 66 = .ok (.iload_n 1, 1) := by decide +kernel
theorem dX3_parseDigits_67 : decode cX3_parseDigits 67 = .ok (.iload_n 2, 1) := by decide +kernel
theorem dX3_parseDigits_68 : decode cX3_parseDigits 68 = .ok (.iload_n 2, 1) := by decide +kernel
theorem dX3_parseDigits_69 : decode cX3_parseDigits 69 = .ok (.iload_n 3, 1) := by decide +kernel
theorem dX3_parseDigits_70 : decode cX3_parseDigits 70 = .ok (.ifCond .eq 9, 3) := by decide +kernel
theorem dX3_parseDigits_73 : decode cX3_parseDigits 73 = .ok (.iload 4, 2) := by decide +kernel
theorem dX3_parseDigits_75 : decode cX3_parseDigits 75 = .ok (.ineg, 1) := by decide +kernel
theorem dX3_parseDigits_76 : decode cX3_parseDigits 76 = .ok (.goto 5, 3) := by decide +kernel
theorem dX3_parseDigits_79 : decode cX3_parseDigits 79 = .ok (.iload 4, 2) := by decide +kernel
theorem dX3_parseDigits_81 : decode cX3_parseDigits 81 = .ok (.invokespecial 68, 3) := by decide +kernel
theorem dX3_parseDigits_84 : decode cX3_parseDigits 84 = .ok (.areturn, 1) := by decide +kernel
theorem dX3_parseKey_0 : decode cX3_parseKey 0 = .ok (.aload_n 0, 1) := by decide +kernel
theorem dX3_parseKey_1 : decode cX3_parseKey 1 = .ok (.invokevirtual 46, 3) := by decide +kernel
theorem dX3_parseKey_4 : decode cX3_parseKey 4 = .ok (.invokestatic 75, 3) := by decide +kernel
theorem dX3_parseKey_7 : decode cX3_parseKey 7 = .ok (.ifCond .ne 5, 3) := by decide +kernel
theorem dX3_parseKey_10 : decode cX3_parseKey 10 = .ok (.iconst (-1), 1) := by decide +kernel
theorem dX3_parseKey_11 : decode cX3_parseKey 11 = .ok (.ireturn, 1) := by decide +kernel
theorem dX3_parseKey_12 : decode cX3_parseKey 12 = .ok (.aload_n 0, 1) := by decide +kernel
theorem dX3_parseKey_13 : decode cX3_parseKey 13 = .ok (.invokevirtual 46, 3) := by decide +kernel
theorem dX3_parseKey_16 : decode cX3_parseKey 16 = .ok (.bipush 48, 2) := by decide +kernel
theorem dX3_parseKey_18 : decode cX3_parseKey 18 = .ok (.isub, 1) := by decide +kernel
theorem dX3_parseKey_19 : decode cX3_parseKey 19 = .ok (.istore_n 1, 1) := by decide +kernel
theorem dX3_parseKey_20 : decode cX3_parseKey 20 = .ok (.aload_n 0, 1) := by decide +kernel
theorem dX3_parseKey_21 : decode cX3_parseKey 21 = .ok (.dup, 1) := by decide +kernel
theorem dX3_parseKey_22 : decode cX3_parseKey 22 = .ok (.getfield 31, 3) := by decide +kernel
theorem dX3_parseKey_25 : decode cX3_parseKey 25 = .ok (.iconst 1, 1) := by decide +kernel
theorem dX3_parseKey_26 : decode cX3_parseKey 26 = .ok (.iadd, 1) := by decide +kernel
theorem dX3_parseKey_27 : decode cX3_parseKey 27 = .ok (.putfield 31, 3) := by decide +kernel
theorem dX3_parseKey_30 : decode cX3_parseKey 30 = .ok (.aload_n 0, 1) := by decide +kernel
theorem dX3_parseKey_31 : decode cX3_parseKey 31 = .ok (.invokevirtual 46, 3) := by decide +kernel
theorem dX3_parseKey_34 : decode cX3_parseKey 34 = .ok (.invokestatic 75, 3) := by decide +kernel
theorem dX3_parseKey_37 : decode cX3_parseKey 37 = .ok (.ifCond .ne 5, 3) := by decide +kernel
theorem dX3_parseKey_40 : decode cX3_parseKey 40 = .ok (.iload_n 1, 1) := by decide +kernel
theorem dX3_parseKey_41 : decode cX3_parseKey 41 = .ok (.ireturn, 1) := by decide +kernel
theorem dX3_parseKey_42 : decode cX3_parseKey 42 = .ok (.iload_n 1, 1) := by decide +kernel
theorem dX3_parseKey_43 : decode cX3_parseKey 43 = .ok (.bipush 10, 2) := by decide +kernel
theorem dX3_parseKey_45 : decode cX3_parseKey 45 = .ok (.imul, 1) := by decide +kernel
theorem dX3_parseKey_46 : decode cX3_parseKey 46 = .ok (.aload_n 0, 1) := by decide +kernel
theorem dX3_parseKey_47 : decode cX3_parseKey 47 = .ok (.invokevirtual 46, 3) := by decide +kernel
theorem dX3_parseKey_50 : decode cX3_parseKey 50 = .ok (.bipush 48, 2) := by decide +kernel
theorem dX3_parseKey_52 : decode cX3_parseKey 52 = .ok (.isub, 1) := by decide +kernel
theorem dX3_parseKey_53 : decode cX3_parseKey 53 = .ok (.iadd, 1) := by decide +kernel
theorem dX3_parseKey_54 : decode cX3_parseKey 54 = .ok (.istore_n 1, 1) := by decide +kernel
theorem dX3_parseKey_55 : decode cX3_parseKey 55 = .ok (.iload_n 1, 1) := by decide +kernel
theorem dX3_parseKey_56 : decode cX3_parseKey 56 = .ok (.bipush 32, 2) := by decide +kernel
theorem dX3_parseKey_58 : decode cX3_parseKey 58 = .ok (.if_icmp .lt 5, 3) := by decide +kernel
theorem dX3_parseKey_61 : decode cX3_parseKey 61 = .ok (.iconst (-1), 1) := by decide +kernel
theorem dX3_parseKey_62 : decode cX3_parseKey 62 = .ok (.ireturn, 1) := by decide +kernel
theorem dX3_parseKey_63 : decode cX3_parseKey 63 = .ok (.aload_n 0, 1) := by decide +kernel
theorem dX3_parseKey_64 : decode cX3_parseKey 64 = .ok (.dup, 1) := by decide +kernel
theorem dX3_parseKey_65 : decode cX3_parseKey 65 = .ok (.getfield 31, 3) := by decide +kernel
theorem dX3_parseKey_68 : decode cX3_parseKey 68 = .ok (.iconst 1, 1) := by decide +kernel
theorem dX3_parseKey_69 : decode cX3_parseKey 69 = .ok (.iadd, 1) := by decide +kernel
theorem dX3_parseKey_70 : decode cX3_parseKey 70 = .ok (.putfield 31, 3) := by decide +kernel
theorem dX3_parseKey_73 : decode cX3_parseKey 73 = .ok (.iload_n 1, 1) := by decide +kernel
theorem dX3_parseKey_74 : decode cX3_parseKey 74 = .ok (.ireturn, 1) := by decide +kernel
theorem dX3_pass_0 : decode cX3_pass 0 = .ok (.aload_n 0, 1) := by decide +kernel
theorem dX3_pass_1 : decode cX3_pass 1 = .ok (.invokevirtual 46, 3) := by decide +kernel
theorem dX3_pass_4 : decode cX3_pass 4 = .ok (.iload_n 1, 1) := by decide +kernel
theorem dX3_pass_5 : decode cX3_pass 5 = .ok (.if_icmp .eq 5, 3) := by decide +kernel
theorem dX3_pass_8 : decode cX3_pass 8 = .ok (.iconst 0, 1) := by decide +kernel
theorem dX3_pass_9 : decode cX3_pass 9 = .ok (.ireturn, 1) := by decide +kernel
theorem dX3_pass_10 : decode cX3_pass 10 = .ok (.aload_n 0, 1) := by decide +kernel
theorem dX3_pass_11 : decode cX3_pass 11 = .ok (.dup, 1) := by decide +kernel
theorem dX3_pass_12 : decode cX3_pass 12 = .ok (.getfield 31, 3) := by decide +kernel
theorem dX3_pass_15 : decode cX3_pass 15 = .ok (.iconst 1, 1) := by decide +kernel
theorem dX3_pass_16 : decode cX3_pass 16 = .ok (.iadd, 1) := by decide +kernel
theorem dX3_pass_17 : decode cX3_pass 17 = .ok (.putfield 31, 3) := by decide +kernel
theorem dX3_pass_20 : decode cX3_pass 20 = .ok (.iconst 1, 1) := by decide +kernel
theorem dX3_pass_21 : decode cX3_pass 21 = .ok (.ireturn, 1) := by decide +kernel
theorem dX3_current_0 : decode cX3_current 0 = .ok (.aload_n 0, 1) := by decide +kernel
theorem dX3_current_1 : decode cX3_current 1 = .ok (.getfield 31, 3) := by decide +kernel
theorem dX3_current_4 : decode cX3_current 4 = .ok (.aload_n 0, 1) := by decide +kernel
theorem dX3_current_5 : decode cX3_current 5 = .ok (.getfield 25, 3) := by decide +kernel
theorem dX3_current_8 : decode cX3_current 8 = .ok (.if_icmp .ge 15, 3) := by decide +kernel
theorem dX3_current_11 : decode cX3_current 11 = .ok (.aload_n 0, 1) := by decide +kernel
theorem dX3_current_12 : decode cX3_current 12 = .ok (.getfield 9, 3) := by decide +kernel
theorem dX3_current_15 : decode cX3_current 15 = .ok (.aload_n 0, 1) := by decide +kernel
theorem dX3_current_16 : decode cX3_current 16 = .ok (.getfield 31, 3) := by decide +kernel
theorem dX3_current_19 : decode cX3_current 19 = .ok (.caload, 1) := by decide +kernel
theorem dX3_current_20 : decode cX3_current 20 = .ok (.goto 4, 3) := by decide +kernel
theorem dX3_current_23 : decode cX3_current 23 = .ok (.iconst 0, 1) := by decide +kernel
theorem dX3_current_24 : decode cX3_current 24 = .ok (.ireturn, 1) := by decide +kernel
theorem dX3_isDigit_0 : decode cX3_isDigit 0 = .ok (.iload_n 0, 1) := by decide +kernel
theorem dX3_isDigit_1 : decode cX3_isDigit 1 = .ok (.bipush 48, 2) := by decide +kernel
theorem dX3_isDigit_3 : decode cX3_isDigit 3 = .ok (.if_icmp .lt 13, 3) := by decide +kernel
theorem dX3_isDigit_6 : decode cX3_isDigit 6 = .ok (.iload_n 0, 1) := by decide +kernel
theorem dX3_isDigit_7 : decode cX3_isDigit 7 = .ok (.bipush 57, 2) := by decide +kernel
theorem dX3_isDigit_9 : decode cX3_isDigit 9 = .ok (.if_icmp .gt 7, 3) := by decide +kernel
theorem dX3_isDigit_12 : decode cX3_isDigit 12 = .ok (.iconst 1, 1) := by decide +kernel
theorem dX3_isDigit_13 : decode cX3_isDigit 13 = .ok (.goto 4, 3) := by decide +kernel
theorem dX3_isDigit_16 : decode cX3_isDigit 16 = .ok (.iconst 0, 1) := by decide +kernel
theorem dX3_isDigit_17 : decode cX3_isDigit 17 = .ok (.ireturn, 1) := by decide +kernel
theorem dX4_init_0 : decode cX4_init 0 = .ok (.aload_n 0, 1) := by decide +kernel
theorem dX4_init_1 : decode cX4_init 1 = .ok (.invokespecial 3, 3) := by decide +kernel
theorem dX4_init_4 : decode cX4_init 4 = .ok (.aload_n 0, 1) := by decide +kernel
theorem dX4_init_5 : decode cX4_init 5 = .ok (.iload_n 1, 1) := by decide +kernel
theorem dX4_init_6 : decode cX4_init 6 = .ok (.putfield 9, 3) := by decide +kernel
theorem dX4_init_9 : decode cX4_init 9 = .ok (.aload_n 0, 1) := by decide +kernel
theorem dX4_init_10 : decode cX4_init 10 = .ok (.iload_n 2, 1) := by decide +kernel
theorem dX4_init_11 : decode cX4_init 11 = .ok (.putfield 15, 3) := by decide +kernel
theorem dX4_init_14 : decode cX4_init 14 = .ok (.aload_n 0, 1) := by decide +kernel
theorem dX4_init_15 : decode cX4_init 15 = .ok (.bipush 24, 2) := by decide +kernel
theorem dX4_init_17 : decode cX4_init 17 = .ok (.anewarray 18, 3) := by decide +kernel
theorem dX4_init_20 : decode cX4_init 20 = .ok (.putfield 20, 3) := by decide +kernel
theorem dX4_init_23 : decode cX4_init 23 = .ok (.aload_n 0, 1) := by decide +kernel
theorem dX4_init_24 : decode cX4_init 24 = .ok (.bipush 32, 2) := by decide +kernel
theorem dX4_init_26 : decode cX4_init 26 = .ok (.newarray .int, 2) := by decide +kernel
theorem dX4_init_28 : decode cX4_init 28 = .ok (.putfield 24, 3) := by decide +kernel
theorem dX4_init_31 : decode cX4_init 31 = .ok (.aload_n 0, 1) := by decide +kernel
theorem dX4_init_32 : decode cX4_init 32 = .ok (.bipush 32, 2) := by decide +kernel
theorem dX4_init_34 : decode cX4_init 34 = .ok (.newarray .int, 2) := by decide +kernel
theorem dX4_init_36 : decode cX4_init 36 = .ok (.putfield 28, 3) := by decide +kernel
theorem dX4_init_39 : decode cX4_init 39 = .ok (.aload_n 0, 1) := by decide +kernel
theorem dX4_init_40 : decode cX4_init 40 = .ok (.iconst 0, 1) := by decide +kernel
theorem dX4_init_41 : decode cX4_init 41 = .ok (.putfield 31, 3) := by decide +kernel
theorem dX4_init_44 : decode cX4_init 44 = .ok (.return_, 1) := by decide +kernel
theorem dX4_canOperate_0 : decode cX4_canOperate 0 = .ok (.aload_n 0, 1) := by decide +kernel
theorem dX4_canOperate_1 : decode cX4_canOperate 1 = .ok (.getfield 31, 3) := by decide +kernel
theorem dX4_canOperate_4 : decode cX4_canOperate 4 = .ok (.ifCond .ne 16, 3) := by decide +kernel
theorem dX4_canOperate_7 : decode cX4_canOperate 7 = .ok (.aload_n 0, 1) := by decide +kernel
theorem dX4_canOperate_8 : decode cX4_canOperate 8 = .ok (.getfield 34, 3) := by decide +kernel
theorem dX4_canOperate_11 : decode cX4_canOperate 11 = .ok (.bipush 24, 2) := by decide +kernel
theorem dX4_canOperate_13 : decode cX4_canOperate 13 = .ok (.if_icmp .ge 7, 3) := by decide +kernel
theorem dX4_canOperate_16 : decode cX4_canOperate 16 = .ok (.iconst 1, 1) := by decide +kernel
theorem dX4_canOperate_17 : decode cX4_canOperate 17 = .ok (.goto 4, 3) := by decide +kernel
theorem dX4_canOperate_20 : decode cX4_canOperate 20 = .ok (.iconst 0, 1) := by decide +kernel
theorem dX4_canOperate_21 : decode cX4_canOperate 21 = .ok (.ireturn, 1) := by decide +kernel
theorem dX4_hasRecorded_0 : decode cX4_hasRecorded 0 = .ok (.aload_n 0, 1) := by decide +kernel
theorem dX4_hasRecorded_1 : decode cX4_hasRecorded 1 = .ok (.getfield 37, 3) := by decide +kernel
theorem dX4_hasRecorded_4 : decode cX4_hasRecorded 4 = .ok (.iconst 1, 1) := by decide +kernel
theorem dX4_hasRecorded_5 : decode cX4_hasRecorded 5 = .ok (.iload_n 1, 1) := by decide +kernel
theorem dX4_hasRecorded_6 : decode cX4_hasRecorded 6 = .ok (.ishl, 1) := by decide +kernel
theorem dX4_hasRecorded_7 : decode cX4_hasRecorded 7 = .ok (.iand, 1) := by decide +kernel
theorem dX4_hasRecorded_8 : decode cX4_hasRecorded 8 = .ok (.ifCond .eq 7, 3) := by decide +kernel
theorem dX4_hasRecorded_11 : decode cX4_hasRecorded 11 = .ok (.iconst 1, 1) := by decide +kernel
theorem dX4_hasRecorded_12 : decode cX4_hasRecorded 12 = .ok (.goto 4, 3) := by decide +kernel
theorem dX4_hasRecorded_15 : decode cX4_hasRecorded 15 = .ok (.iconst 0, 1) := by decide +kernel
theorem dX4_hasRecorded_16 : decode cX4_hasRecorded 16 = .ok (.ireturn, 1) := by decide +kernel
theorem dX4_hasWritten_0 : decode cX4_hasWritten 0 = .ok (.aload_n 0, 1) := by decide +kernel
theorem dX4_hasWritten_1 : decode cX4_hasWritten 1 = .ok (.getfield 40, 3) := by decide +kernel
theorem dX4_hasWritten_4 : decode cX4_hasWritten 4 = .ok (.iconst 1, 1) := by decide +kernel
theorem dX4_hasWritten_5 : decode cX4_hasWritten 5 = .ok (.iload_n 1, 1) := by decide +kernel
theorem dX4_hasWritten_6 : decode cX4_hasWritten 6 = .ok (.ishl, 1) := by decide +kernel
theorem dX4_hasWritten_7 : decode cX4_hasWritten 7 = .ok (.iand, 1) := by decide +kernel
theorem dX4_hasWritten_8 : decode cX4_hasWritten 8 = .ok (.ifCond .eq 7, 3) := by decide +kernel
theorem dX4_hasWritten_11 : decode cX4_hasWritten 11 = .ok (.iconst 1, 1) := by decide +kernel
theorem dX4_hasWritten_12 : decode cX4_hasWritten 12 = .ok (.goto 4, 3) := by decide +kernel
theorem dX4_hasWritten_15 : decode cX4_hasWritten 15 = .ok (.iconst 0, 1) := by decide +kernel
theorem dX4_hasWritten_16 : decode cX4_hasWritten 16 = .ok (.ireturn, 1) := by decide +kernel
theorem dX4_keep_0 : decode cX4_keep 0 = .ok (.aload_n 1, 1) := by decide +kernel
theorem dX4_keep_1 : decode cX4_keep 1 = .ok (.iload_n 2, 1) := by decide +kernel
theorem dX4_keep_2 : decode cX4_keep 2 = .ok (.putfield 43, 3) := by decide +kernel
theorem dX4_keep_5 : decode cX4_keep 5 = .ok (.aload_n 1, 1) := by decide +kernel
theorem dX4_keep_6 : decode cX4_keep 6 = .ok (.iload_n 3, 1) := by decide +kernel
theorem dX4_keep_7 : decode cX4_keep 7 = .ok (.putfield 46, 3) := by decide +kernel
theorem dX4_keep_10 : decode cX4_keep 10 = .ok (.aload_n 0, 1) := by decide +kernel
theorem dX4_keep_11 : decode cX4_keep 11 = .ok (.getfield 34, 3) := by decide +kernel
theorem dX4_keep_14 : decode cX4_keep 14 = .ok (.bipush 24, 2) := by decide +kernel
theorem dX4_keep_16 : decode cX4_keep 16 = .ok (.if_icmp .ge 23, 3) := by decide +kernel
theorem dX4_keep_19 : decode cX4_keep 19 = .ok (.aload_n 0, 1) := by decide +kernel
theorem dX4_keep_20 : decode cX4_keep 20 = .ok (.getfield 20, 3) := by decide +kernel
theorem dX4_keep_23 : decode cX4_keep 23 = .ok (.aload_n 0, 1) := by decide +kernel
theorem dX4_keep_24 : decode cX4_keep 24 = .ok (.getfield 34, 3) := by decide +kernel
theorem dX4_keep_27 : decode cX4_keep 27 = .ok (.aload_n 1, 1) := by decide +kernel
theorem dX4_keep_28 : decode cX4_keep 28 = .ok (.aastore, 1) := by decide +kernel
theorem dX4_keep_29 : decode cX4_keep 29 = .ok (.aload_n 0, 1) := by decide +kernel
theorem dX4_keep_30 : decode cX4_keep 30 = .ok (.dup, 1) := by decide +kernel
theorem dX4_keep_31 : decode cX4_keep 31 = .ok (.getfield 34, 3) := by decide +kernel
theorem dX4_keep_34 : decode cX4_keep 34 = .ok (.iconst 1, 1) := by decide +kernel
theorem dX4_keep_35 : decode cX4_keep 35 = .ok (.iadd, 1) := by decide +kernel
theorem dX4_keep_36 : decode cX4_keep 36 = .ok (.putfield 34, 3) := by decide +kernel
theorem dX4_keep_39 : decode cX4_keep 39 = .ok (.aload_n 1, 1) := by decide +kernel
theorem dX4_keep_40 : decode cX4_keep 40 = .ok (.getfield 49, 3) := by decide +kernel
theorem dX4_keep_43 : decode cX4_keep 43 = .ok (.istore 4, 2) := by decide +kernel
theorem dX4_keep_45 : decode cX4_keep 45 = .ok (.aload_n 1, 1) := by decide +kernel
theorem dX4_keep_46 : decode cX4_keep 46 = .ok (.invokevirtual 52, 3) := by decide +kernel
theorem dX4_keep_49 : decode cX4_keep 49 = .ok (.ifCond .eq 42, 3) := by decide +kernel
theorem dX4_keep_52 : decode cX4_keep 52 = .ok (.aload_n 0, 1) := by decide +kernel
theorem dX4_keep_53 : decode cX4_keep 53 = .ok (.iload 4, 2) := by decide +kernel
theorem dX4_keep_55 : decode cX4_keep 55 = .ok (.invokevirtual 56, 3) := by decide +kernel
theorem dX4_keep_58 : decode cX4_keep 58 = .ok (.ifCond .ne 33, 3) := by decide +kernel
theorem dX4_keep_61 : decode cX4_keep 61 = .ok (.aload_n 0, 1) := by decide +kernel
theorem dX4_keep_62 : decode cX4_keep 62 = .ok (.iload 4, 2) := by decide +kernel
theorem dX4_keep_64 : decode cX4_keep 64 = .ok (.invokevirtual 60, 3) := by decide +kernel
theorem dX4_keep_67 : decode cX4_keep 67 = .ok (.ifCond .ne 24, 3) := by decide +kernel
theorem dX4_keep_70 : decode cX4_keep 70 = .ok (.aload_n 0, 1) := by decide +kernel
theorem dX4_keep_71 : decode cX4_keep 71 = .ok (.dup, 1) := by decide +kernel
theorem dX4_keep_72 : decode cX4_keep 72 = .ok (.getfield 37, 3) := by decide +kernel
theorem dX4_keep_75 : decode cX4_keep 75 = .ok (.iconst 1, 1) := by decide +kernel
theorem dX4_keep_76 : decode cX4_keep 76 = .ok (.iload 4, 2) := by decide +kernel
theorem dX4_keep_78 : decode cX4_keep 78 = .ok (.ishl, 1) := by decide +kernel
theorem dX4_keep_79 : decode cX4_keep 79 = .ok (.ior, 1) := by decide +kernel
theorem dX4_keep_80 : decode cX4_keep 80 = .ok (.putfield 37, 3) := by decide +kernel
theorem dX4_keep_83 : decode cX4_keep 83 = .ok (.aload_n 0, 1) := by decide +kernel
theorem dX4_keep_84 : decode cX4_keep 84 = .ok (.getfield 24, 3) := by decide +kernel
theorem dX4_keep_87 : decode cX4_keep 87 = .ok (.iload 4, 2) := by decide +kernel
theorem dX4_keep_89 : decode cX4_keep 89 = .ok (.iload_n 2, 1) := by decide +kernel
theorem dX4_keep_90 : decode cX4_keep 90 = .ok (.iastore, 1) := by decide +kernel
theorem dX4_keep_91 : decode cX4_keep 91 = .ok (.aload_n 1, 1) := by decide +kernel
theorem dX4_keep_92 : decode cX4_keep 92 = .ok (.invokevirtual 63, 3) := by decide +kernel
theorem dX4_keep_95 : decode cX4_keep 95 = .ok (.ifCond .eq 24, 3) := by decide +kernel
theorem dX4_keep_98 : decode cX4_keep 98 = .ok (.aload_n 0, 1) := by decide +kernel
theorem dX4_keep_99 : decode cX4_keep 99 = .ok (.dup, 1) := by decide +kernel
theorem dX4_keep_100 : decode cX4_keep 100 = .ok (.getfield 40, 3) := by decide +kernel
theorem dX4_keep_103 : decode cX4_keep 103 = .ok (.iconst 1, 1) := by decide +kernel
theorem dX4_keep_104 : decode cX4_keep 104 = .ok (.iload 4, 2) := by decide +kernel
theorem dX4_keep_106 : decode cX4_keep 106 = .ok (.ishl, 1) := by decide +kernel
theorem dX4_keep_107 : decode cX4_keep 107 = .ok (.ior, 1) := by decide +kernel
theorem dX4_keep_108 : decode cX4_keep 108 = .ok (.putfield 40, 3) := by decide +kernel
theorem dX4_keep_111 : decode cX4_keep 111 = .ok (.aload_n 0, 1) := by decide +kernel
theorem dX4_keep_112 : decode cX4_keep 112 = .ok (.getfield 28, 3) := by decide +kernel
theorem dX4_keep_115 : decode cX4_keep 115 = .ok (.iload 4, 2) := by decide +kernel
theorem dX4_keep_117 : decode cX4_keep 117 = .ok (.iload_n 3, 1) := by decide +kernel
theorem dX4_keep_118 : decode cX4_keep 118 = .ok (.iastore, 1) := by decide +kernel
theorem dX4_keep_119 : decode cX4_keep 119 = .ok (.return_, 1) := by decide +kernel
theorem dX4_countPredicates_0 : decode cX4_countPredicates 0 = .ok (.iconst 0, 1) := by decide +kernel
theorem dX4_countPredicates_1 : decode cX4_countPredicates 1 = .ok (.istore_n 1, 1) := by decide +kernel
theorem dX4_countPredicates_2 : decode cX4_countPredicates 2 = .ok (.iconst 0, 1) := by decide +kernel
theorem dX4_countPredicates_3 : decode cX4_countPredicates 3 = .ok (.istore_n 2, 1) := by decide +kernel
theorem dX4_countPredicates_4 : decode cX4_countPredicates 4 = .ok (.iload_n 2, 1) := by decide +kernel
theorem dX4_countPredicates_5 : decode cX4_countPredicates 5 = .ok (.aload_n 0, 1) := by decide +kernel
theorem dX4_countPredicates_6 : decode cX4_countPredicates 6 = .ok (.getfield 34, 3) := by decide +kernel
theorem dX4_countPredicates_9 : decode cX4_countPredicates 9 = .ok (.if_icmp .ge 30, 3) := by decide +kernel
theorem dX4_countPredicates_12 : decode cX4_countPredicates 12 = .ok (.aload_n 0, 1) := by decide +kernel
theorem dX4_countPredicates_13 : decode cX4_countPredicates 13 = .ok (.getfield 20, 3) := by decide +kernel
theorem dX4_countPredicates_16 : decode cX4_countPredicates 16 = .ok (.iload_n 2, 1) := by decide +kernel
theorem dX4_countPredicates_17 : decode cX4_countPredicates 17 = .ok (.aaload, 1) := by decide +kernel
theorem dX4_countPredicates_18 : decode cX4_countPredicates 18 = .ok (.astore_n 3, 1) := by decide +kernel
theorem dX4_countPredicates_19 : decode cX4_countPredicates 19 = .ok (.aload_n 3, 1) := by decide +kernel
theorem dX4_countPredicates_20 : decode cX4_countPredicates 20 = .ok (.ifnull 13, 3) := by decide +kernel
theorem dX4_countPredicates_23 : decode cX4_countPredicates 23 = .ok (.aload_n 3, 1) := by decide +kernel
theorem dX4_countPredicates_24 : decode cX4_countPredicates 24 = .ok (.invokevirtual 66, 3) := by decide +kernel
theorem dX4_countPredicates_27 : decode cX4_countPredicates 27 = .ok (.ifCond .eq 6, 3) := by decide +kernel
theorem dX4_countPredicates_30 : decode cX4_countPredicates 30 = .ok (.iinc 1 1, 3) := by decide +kernel
theorem dX4_countPredicates_33 : decode cX4_countPredicates 33 = .ok (.iinc 2 1, 3) := by decide +kernel
theorem dX4_countPredicates_36 : decode cX4_countPredicates 36 = .ok (.goto (-32), 3) := by decide +kernel
theorem dX4_countPredicates_39 : decode cX4_countPredicates 39 = .ok (.iload_n 1, 1) := by decide +kernel
theorem dX4_countPredicates_40 : decode cX4_countPredicates 40 = .ok (.ireturn, 1) := by decide +kernel
theorem dX4_applyWrites_0 : decode cX4_applyWrites 0 = .ok (.iconst 0, 1) := by decide +kernel
theorem dX4_applyWrites_1 : decode cX4_applyWrites 1 = .ok (.istore_n 2, 1) := by decide +kernel
theorem dX4_applyWrites_2 : decode cX4_applyWrites 2 = .ok (.iload_n 2, 1) := by decide +kernel
theorem dX4_applyWrites_3 : decode cX4_applyWrites 3 = .ok (.bipush 32, 2) := by decide +kernel
theorem dX4_applyWrites_5 : decode cX4_applyWrites 5 = .ok (.if_icmp .ge 26, 3) := by decide +kernel
theorem dX4_applyWrites_8 : decode cX4_applyWrites 8 = .ok (.aload_n 0, 1) := by decide +kernel
theorem dX4_applyWrites_9 : decode cX4_applyWrites 9 = .ok (.iload_n 2, 1) := by decide +kernel
theorem dX4_applyWrites_10 : decode cX4_applyWrites 10 = .ok (.invokevirtual 60, 3) := by decide +kernel
theorem dX4_applyWrites_13 : decode cX4_applyWrites 13 = .ok (.ifCond .eq 12, 3) := by decide +kernel
theorem dX4_applyWrites_16 : decode cX4_applyWrites 16 = .ok (.aload_n 1, 1) := by decide +kernel
theorem dX4_applyWrites_17 : decode cX4_applyWrites 17 = .ok (.iload_n 2, 1) := by decide +kernel
theorem dX4_applyWrites_18 : decode cX4_applyWrites 18 = .ok (.aload_n 0, 1) := by decide +kernel
theorem dX4_applyWrites_19 : decode cX4_applyWrites 19 = .ok (.getfield 28, 3) := by decide +kernel
theorem dX4_applyWrites_22 : decode cX4_applyWrites 22 = .ok (.iload_n 2, 1) := by decide +kernel
theorem dX4_applyWrites_23 : decode cX4_applyWrites 23 = .ok (.iaload, 1) := by decide +kernel
theorem dX4_applyWrites_24 : decode cX4_applyWrites 24 = .ok (.iastore, 1) := by decide +kernel
theorem dX4_applyWrites_25 : decode cX4_applyWrites 25 = .ok (.iinc 2 1, 3) := by decide +kernel
theorem dX4_applyWrites_28 : decode cX4_applyWrites 28 = .ok (.goto (-26), 3) := by decide +kernel
theorem dX4_applyWrites_31 : decode cX4_applyWrites 31 = .ok (.return_, 1) := by decide +kernel
theorem dX4_isHitBy_0 : decode cX4_isHitBy 0 = .ok (.aload_n 0, 1) := by decide +kernel
theorem dX4_isHitBy_1 : decode cX4_isHitBy 1 = .ok (.getfield 37, 3) := by decide +kernel
theorem dX4_isHitBy_4 : decode cX4_isHitBy 4 = .ok (.aload_n 1, 1) := by decide +kernel
theorem dX4_isHitBy_5 : decode cX4_isHitBy 5 = .ok (.getfield 40, 3) := by decide +kernel
theorem dX4_isHitBy_8 : decode cX4_isHitBy 8 = .ok (.iand, 1) := by decide +kernel
theorem dX4_isHitBy_9 : decode cX4_isHitBy 9 = .ok (.ifCond .eq 5, 3) := by decide +kernel
theorem dX4_isHitBy_12 : decode cX4_isHitBy 12 = .ok (.iconst 1, 1) := by decide +kernel
theorem dX4_isHitBy_13 : decode cX4_isHitBy 13 = .ok (.ireturn, 1) := by decide +kernel
theorem dX4_isHitBy_14 : decode cX4_isHitBy 14 = .ok (.iconst 0, 1) := by decide +kernel
theorem dX4_isHitBy_15 : decode cX4_isHitBy 15 = .ok (.istore_n 3, 1) := by decide +kernel
theorem dX4_isHitBy_16 : decode cX4_isHitBy 16 = .ok (.iload_n 3, 1) := by decide +kernel
theorem dX4_isHitBy_17 : decode cX4_isHitBy 17 = .ok (.aload_n 0, 1) := by decide +kernel
theorem dX4_isHitBy_18 : decode cX4_isHitBy 18 = .ok (.getfield 34, 3) := by decide +kernel
theorem dX4_isHitBy_21 : decode cX4_isHitBy 21 = .ok (.if_icmp .ge 34, 3) := by decide +kernel
theorem dX4_isHitBy_24 : decode cX4_isHitBy 24 = .ok (.aload_n 0, 1) := by decide +kernel
theorem dX4_isHitBy_25 : decode cX4_isHitBy 25 = .ok (.getfield 20, 3) := by decide +kernel
theorem dX4_isHitBy_28 : decode cX4_isHitBy 28 = .ok (.iload_n 3, 1) := by decide +kernel
theorem dX4_isHitBy_29 : decode cX4_isHitBy 29 = .ok (.aaload, 1) := by decide +kernel
theorem dX4_isHitBy_30 : decode cX4_isHitBy 30 = .ok (.astore 4, 2) := by decide +kernel
theorem dX4_isHitBy_32 : decode cX4_isHitBy 32 = .ok (.aload 4, 2) := by decide +kernel
theorem dX4_isHitBy_34 : decode cX4_isHitBy 34 = .ok (.ifnull 15, 3) := by decide +kernel
theorem dX4_isHitBy_37 : decode cX4_isHitBy 37 = .ok (.aload 4, 2) := by decide +kernel
theorem dX4_isHitBy_39 : decode cX4_isHitBy 39 = .ok (.aload_n 1, 1) := by decide +kernel
theorem dX4_isHitBy_40 : decode cX4_isHitBy 40 = .ok (.aload_n 2, 1) := by decide +kernel
theorem dX4_isHitBy_41 : decode cX4_isHitBy 41 = .ok (.invokevirtual 69, 3) := by decide +kernel
theorem dX4_isHitBy_44 : decode cX4_isHitBy 44 = .ok (.ifCond .eq 5, 3) := by decide +kernel
theorem dX4_isHitBy_47 : decode cX4_isHitBy 47 = .ok (.iconst 1, 1) := by decide +kernel
theorem dX4_isHitBy_48 : decode cX4_isHitBy 48 = .ok (.ireturn, 1) := by decide +kernel
theorem dX4_isHitBy_49 : decode cX4_isHitBy 49 = .ok (.iinc 3 1, 3) := by decide +kernel
theorem dX4_isHitBy_52 : decode cX4_isHitBy 52 = .ok (.goto (-36), 3) := by decide +kernel
theorem dX4_isHitBy_55 : decode cX4_isHitBy 55 = .ok (.iconst 0, 1) := by decide +kernel
theorem dX4_isHitBy_56 : decode cX4_isHitBy 56 = .ok (.ireturn, 1) := by decide +kernel
theorem dX4_repeatsAlikeOn_0 : decode cX4_repeatsAlikeOn 0 = .ok (.iconst 0, 1) := by decide +kernel
theorem dX4_repeatsAlikeOn_1 : decode cX4_repeatsAlikeOn 1 = .ok (.istore_n 2, 1) := by decide +kernel
theorem dX4_repeatsAlikeOn_2 : decode cX4_repeatsAlikeOn 2 = .ok (.iload_n 2, 1) := by decide +kernel
theorem dX4_repeatsAlikeOn_3 : decode cX4_repeatsAlikeOn 3 = .ok (.aload_n 0, 1) := by decide +kernel
theorem dX4_repeatsAlikeOn_4 : decode cX4_repeatsAlikeOn 4 = .ok (.getfield 34, 3) := by decide +kernel
theorem dX4_repeatsAlikeOn_7 : decode cX4_repeatsAlikeOn 7 = .ok (.if_icmp .ge 34, 3) := by decide +kernel
theorem dX4_repeatsAlikeOn_10 : decode cX4_repeatsAlikeOn 10 = .ok (.aload_n 0, 1) := by decide +kernel
theorem dX4_repeatsAlikeOn_11 : decode cX4_repeatsAlikeOn 11 = .ok (.getfield 20, 3) := by decide +kernel
theorem dX4_repeatsAlikeOn_14 : decode cX4_repeatsAlikeOn 14 = .ok (.iload_n 2, 1) := by decide +kernel
theorem dX4_repeatsAlikeOn_15 : decode cX4_repeatsAlikeOn 15 = .ok (.aaload, 1) := by decide +kernel
theorem dX4_repeatsAlikeOn_16 : decode cX4_repeatsAlikeOn 16 = .ok (.astore_n 3, 1) := by decide +kernel
theorem dX4_repeatsAlikeOn_17 : decode cX4_repeatsAlikeOn 17 = .ok (.aload_n 3, 1) := by decide +kernel
theorem dX4_repeatsAlikeOn_18 : decode cX4_repeatsAlikeOn 18 = .ok (.ifnull 17, 3) := by decide +kernel
theorem dX4_repeatsAlikeOn_21 : decode cX4_repeatsAlikeOn 21 = .ok (.aload_n 3, 1) := by decide +kernel
theorem dX4_repeatsAlikeOn_22 : decode cX4_repeatsAlikeOn 22 = .ok (.aload_n 1, 1) := by decide +kernel
theorem dX4_repeatsAlikeOn_23 : decode cX4_repeatsAlikeOn 23 = .ok (.invokevirtual 73, 3) := by decide +kernel
theorem dX4_repeatsAlikeOn_26 : decode cX4_repeatsAlikeOn 26 = .ok (.aload_n 3, 1) := by decide +kernel
theorem dX4_repeatsAlikeOn_27 : decode cX4_repeatsAlikeOn 27 = .ok (.getfield 46, 3) := by decide +kernel
theorem dX4_repeatsAlikeOn_30 : decode cX4_repeatsAlikeOn 30 = .ok (.if_icmp .eq 5, 3) := by decide +kernel
theorem dX4_repeatsAlikeOn_33 : decode cX4_repeatsAlikeOn 33 = .ok (.iconst 0, 1) := by decide +kernel
theorem dX4_repeatsAlikeOn_34 : decode cX4_repeatsAlikeOn 34 = .ok (.ireturn, 1) := by decide +kernel
theorem dX4_repeatsAlikeOn_35 : decode cX4_repeatsAlikeOn 35 = .ok (.iinc 2 1, 3) := by decide +kernel
theorem dX4_repeatsAlikeOn_38 : decode cX4_repeatsAlikeOn 38 = .ok (.goto (-36), 3) := by decide +kernel
theorem dX4_repeatsAlikeOn_41 : decode cX4_repeatsAlikeOn 41 = .ok (.iconst 1, 1) := by decide +kernel
theorem dX4_repeatsAlikeOn_42 : decode cX4_repeatsAlikeOn 42 = .ok (.ireturn, 1) := by decide +kernel
theorem dX4_becomeAborted_0 : decode cX4_becomeAborted 0 = .ok (.aload_n 0, 1) := by decide +kernel
theorem dX4_becomeAborted_1 : decode cX4_becomeAborted 1 = .ok (.iconst 2, 1) := by decide +kernel
theorem dX4_becomeAborted_2 : decode cX4_becomeAborted 2 = .ok (.putfield 31, 3) := by decide +kernel
theorem dX4_becomeAborted_5 : decode cX4_becomeAborted 5 = .ok (.aload_n 0, 1) := by decide +kernel
theorem dX4_becomeAborted_6 : decode cX4_becomeAborted 6 = .ok (.iload_n 1, 1) := by decide +kernel
theorem dX4_becomeAborted_7 : decode cX4_becomeAborted 7 = .ok (.putfield 77, 3) := by decide +kernel
theorem dX4_becomeAborted_10 : decode cX4_becomeAborted 10 = .ok (.return_, 1) := by decide +kernel
theorem dX5_init_0 : decode cX5_init 0 = .ok (.aload_n 0, 1) := by decide +kernel
theorem dX5_init_1 : decode cX5_init 1 = .ok (.invokespecial 1, 3) := by decide +kernel
theorem dX5_init_4 : decode cX5_init 4 = .ok (.aload_n 0, 1) := by decide +kernel
theorem dX5_init_5 : decode cX5_init 5 = .ok (.new 7, 3) := by decide +kernel
theorem dX5_init_8 : decode cX5_init 8 = .ok (.dup, 1) := by decide +kernel
theorem dX5_init_9 : decode cX5_init 9 = .ok (.invokespecial 9, 3) := by decide +kernel
theorem dX5_init_12 : decode cX5_init 12 = .ok (.putfield 10, 3) := by decide +kernel
theorem dX5_init_15 : decode cX5_init 15 = .ok (.aload_n 0, 1) := by decide +kernel
theorem dX5_init_16 : decode cX5_init 16 = .ok (.bipush 80, 2) := by decide +kernel
theorem dX5_init_18 : decode cX5_init 18 = .ok (.anewarray 16, 3) := by decide +kernel
theorem dX5_init_21 : decode cX5_init 21 = .ok (.putfield 18, 3) := by decide +kernel
theorem dX5_init_24 : decode cX5_init 24 = .ok (.aload_n 0, 1) := by decide +kernel
theorem dX5_init_25 : decode cX5_init 25 = .ok (.iconst 3, 1) := by decide +kernel
theorem dX5_init_26 : decode cX5_init 26 = .ok (.anewarray 22, 3) := by decide +kernel
theorem dX5_init_29 : decode cX5_init 29 = .ok (.putfield 24, 3) := by decide +kernel
theorem dX5_init_32 : decode cX5_init 32 = .ok (.aload_n 0, 1) := by decide +kernel
theorem dX5_init_33 : decode cX5_init 33 = .ok (.new 28, 3) := by decide +kernel
theorem dX5_init_36 : decode cX5_init 36 = .ok (.dup, 1) := by decide +kernel
theorem dX5_init_37 : decode cX5_init 37 = .ok (.invokespecial 30, 3) := by decide +kernel
theorem dX5_init_40 : decode cX5_init 40 = .ok (.putfield 31, 3) := by decide +kernel
theorem dX5_init_43 : decode cX5_init 43 = .ok (.aload_n 0, 1) := by decide +kernel
theorem dX5_init_44 : decode cX5_init 44 = .ok (.bipush 32, 2) := by decide +kernel
theorem dX5_init_46 : decode cX5_init 46 = .ok (.newarray .int, 2) := by decide +kernel
theorem dX5_init_48 : decode cX5_init 48 = .ok (.putfield 35, 3) := by decide +kernel
theorem dX5_init_51 : decode cX5_init 51 = .ok (.aload_n 0, 1) := by decide +kernel
theorem dX5_init_52 : decode cX5_init 52 = .ok (.bipush 61, 2) := by decide +kernel
theorem dX5_init_54 : decode cX5_init 54 = .ok (.newarray .int, 2) := by decide +kernel
theorem dX5_init_56 : decode cX5_init 56 = .ok (.putfield 39, 3) := by decide +kernel
theorem dX5_init_59 : decode cX5_init 59 = .ok (.aload_n 0, 1) := by decide +kernel
theorem dX5_init_60 : decode cX5_init 60 = .ok (.iconst 0, 1) := by decide +kernel
theorem dX5_init_61 : decode cX5_init 61 = .ok (.putfield 42, 3) := by decide +kernel
theorem dX5_init_64 : decode cX5_init 64 = .ok (.aload_n 0, 1) := by decide +kernel
theorem dX5_init_65 : decode cX5_init 65 = .ok (.iconst 0, 1) := by decide +kernel
theorem dX5_init_66 : decode cX5_init 66 = .ok (.putfield 46, 3) := by decide +kernel
theorem dX5_init_69 : decode cX5_init 69 = .ok (.aload_n 0, 1) := by decide +kernel
theorem dX5_init_70 : decode cX5_init 70 = .ok (.iconst 3, 1) := by decide +kernel
theorem dX5_init_71 : decode cX5_init 71 = .ok (.putfield 49, 3) := by decide +kernel
theorem dX5_init_74 : decode cX5_init 74 = .ok (.aload_n 0, 1) := by decide +kernel
theorem dX5_init_75 : decode cX5_init 75 = .ok (.iconst (-1), 1) := by decide +kernel
theorem dX5_init_76 : decode cX5_init 76 = .ok (.putfield 52, 3) := by decide +kernel
theorem dX5_init_79 : decode cX5_init 79 = .ok (.return_, 1) := by decide +kernel
theorem dX5_configure_0 : decode cX5_configure 0 = .ok (.iload_n 1, 1) := by decide +kernel
theorem dX5_configure_1 : decode cX5_configure 1 = .ok (.iconst 0, 1) := by decide +kernel
theorem dX5_configure_2 : decode cX5_configure 2 = .ok (.iconst 1, 1) := by decide +kernel
theorem dX5_configure_3 : decode cX5_configure 3 = .ok (.invokestatic 55, 3) := by decide +kernel
theorem dX5_configure_6 : decode cX5_configure 6 = .ok (.ifCond .eq 21, 3) := by decide +kernel
theorem dX5_configure_9 : decode cX5_configure 9 = .ok (.iload_n 2, 1) := by decide +kernel
theorem dX5_configure_10 : decode cX5_configure 10 = .ok (.iconst 0, 1) := by decide +kernel
theorem dX5_configure_11 : decode cX5_configure 11 = .ok (.iconst 2, 1) := by decide +kernel
theorem dX5_configure_12 : decode cX5_configure 12 = .ok (.invokestatic 55, 3) := by decide +kernel
theorem dX5_configure_15 : decode cX5_configure 15 = .ok (.ifCond .eq 12, 3) := by decide +kernel
theorem dX5_configure_18 : decode cX5_configure 18 = .ok (.iload_n 3, 1) := by decide +kernel
theorem dX5_configure_19 : decode cX5_configure 19 = .ok (.iconst 1, 1) := by decide +kernel
theorem dX5_configure_20 : decode cX5_configure 20 = .ok (.iconst 5, 1) := by decide +kernel
theorem dX5_configure_21 : decode cX5_configure 21 = .ok (.invokestatic 55, 3) := by decide +kernel
theorem dX5_configure_24 : decode cX5_configure 24 = .ok (.ifCond .ne 13, 3) := by decide +kernel
theorem dX5_configure_27 : decode cX5_configure 27 = .ok (.new 59, 3) := by decide +kernel
theorem dX5_configure_30 : decode cX5_configure 30 = .ok (.dup, 1) := by decide +kernel
theorem dX5_configure_31 : decode cX5_configure 31 = .ok (.ldc 61, 2) := by decide +kernel
theorem dX5_configure_33 : decode cX5_configure 33 = .ok (.invokespecial 63, 3) := by decide +kernel
theorem dX5_configure_36 : decode cX5_configure 36 = .ok (.athrow, 1) := by decide +kernel
theorem dX5_configure_37 : decode cX5_configure 37 = .ok (.aload_n 0, 1) := by decide +kernel
theorem dX5_configure_38 : decode cX5_configure 38 = .ok (.iconst 0, 1) := by decide +kernel
theorem dX5_configure_39 : decode cX5_configure 39 = .ok (.invokevirtual 66, 3) := by decide +kernel
theorem dX5_configure_42 : decode cX5_configure 42 = .ok (.ifCond .le 13, 3) := by decide +kernel
theorem dX5_configure_45 : decode cX5_configure 45 = .ok (.new 70, 3) := by decide +kernel
theorem dX5_configure_48 : decode cX5_configure 48 = .ok (.dup, 1) := by decide +kernel
theorem dX5_configure_49 : decode cX5_configure 49 = .ok (.ldc 72, 2) := by decide +kernel
theorem dX5_configure_51 : decode cX5_configure 51 = .ok (.invokespecial 74, 3) := by decide +kernel
theorem dX5_configure_54 : decode cX5_configure 54 = .ok (.athrow, 1) := by decide +kernel
theorem dX5_configure_55 : decode cX5_configure 55 = .ok (.aload_n 0, 1) := by decide +kernel
theorem dX5_configure_56 : decode cX5_configure 56 = .ok (.iload_n 1, 1) := by decide +kernel
theorem dX5_configure_57 : decode cX5_configure 57 = .ok (.putfield 42, 3) := by decide +kernel
theorem dX5_configure_60 : decode cX5_configure 60 = .ok (.aload_n 0, 1) := by decide +kernel
theorem dX5_configure_61 : decode cX5_configure 61 = .ok (.iload_n 2, 1) := by decide +kernel
theorem dX5_configure_62 : decode cX5_configure 62 = .ok (.putfield 46, 3) := by decide +kernel
theorem dX5_configure_65 : decode cX5_configure 65 = .ok (.aload_n 0, 1) := by decide +kernel
theorem dX5_configure_66 : decode cX5_configure 66 = .ok (.iload_n 3, 1) := by decide +kernel
theorem dX5_configure_67 : decode cX5_configure 67 = .ok (.putfield 49, 3) := by decide +kernel
theorem dX5_configure_70 : decode cX5_configure 70 = .ok (.return_, 1) := by decide +kernel
theorem dX5_begin_0 : decode cX5_begin 0 = .ok (.aload_n 0, 1) := by decide +kernel
theorem dX5_begin_1 : decode cX5_begin 1 = .ok (.invokevirtual 75, 3) := by decide +kernel
theorem dX5_begin_4 : decode cX5_begin 4 = .ok (.ifCond .ne 13, 3) := by decide +kernel
theorem dX5_begin_7 : decode cX5_begin 7 = .ok (.new 70, 3) := by decide +kernel
theorem dX5_begin_10 : decode cX5_begin 10 = .ok (.dup, 1) := by decide +kernel
theorem dX5_begin_11 : decode cX5_begin 11 = .ok (.ldc 79, 2) := by decide +kernel
theorem dX5_begin_13 : decode cX5_begin 13 = .ok (.invokespecial 74, 3) := by decide +kernel
theorem dX5_begin_16 : decode cX5_begin 16 = .ok (.athrow, 1) := by decide +kernel
theorem dX5_begin_17 : decode cX5_begin 17 = .ok (.aload_n 0, 1) := by decide +kernel
theorem dX5_begin_18 : decode cX5_begin 18 = .ok (.iconst 1, 1) := by decide +kernel
theorem dX5_begin_19 : decode cX5_begin 19 = .ok (.invokevirtual 81, 3) := by decide +kernel
theorem dX5_begin_22 : decode cX5_begin 22 = .ok (.getfield 85, 3) := by decide +kernel
theorem dX5_begin_25 : decode cX5_begin 25 = .ok (.ireturn, 1) := by decide +kernel
theorem dX5_retry_0 : decode cX5_retry 0 = .ok (.aload_n 0, 1) := by decide +kernel
theorem dX5_retry_1 : decode cX5_retry 1 = .ok (.iload_n 1, 1) := by decide +kernel
theorem dX5_retry_2 : decode cX5_retry 2 = .ok (.invokevirtual 88, 3) := by decide +kernel
theorem dX5_retry_5 : decode cX5_retry 5 = .ok (.astore_n 2, 1) := by decide +kernel
theorem dX5_retry_6 : decode cX5_retry 6 = .ok (.aload_n 2, 1) := by decide +kernel
theorem dX5_retry_7 : decode cX5_retry 7 = .ok (.getfield 91, 3) := by decide +kernel
theorem dX5_retry_10 : decode cX5_retry 10 = .ok (.iconst 2, 1) := by decide +kernel
theorem dX5_retry_11 : decode cX5_retry 11 = .ok (.if_icmp .ne 17, 3) := by decide +kernel
theorem dX5_retry_14 : decode cX5_retry 14 = .ok (.aload_n 2, 1) := by decide +kernel
theorem dX5_retry_15 : decode cX5_retry 15 = .ok (.getfield 94, 3) := by decide +kernel
theorem dX5_retry_18 : decode cX5_retry 18 = .ok (.ifCond .ne 10, 3) := by decide +kernel
theorem dX5_retry_21 : decode cX5_retry 21 = .ok (.aload_n 0, 1) := by decide +kernel
theorem dX5_retry_22 : decode cX5_retry 22 = .ok (.invokevirtual 75, 3) := by decide +kernel
theorem dX5_retry_25 : decode cX5_retry 25 = .ok (.ifCond .ne 13, 3) := by decide +kernel
theorem dX5_retry_28 : decode cX5_retry 28 = .ok (.new 70, 3) := by decide +kernel
theorem dX5_retry_31 : decode cX5_retry 31 = .ok (.dup, 1) := by decide +kernel
theorem dX5_retry_32 : decode cX5_retry 32 = .ok (.ldc 98, 2) := by decide +kernel
theorem dX5_retry_34 : decode cX5_retry 34 = .ok (.invokespecial 74, 3) := by decide +kernel
theorem dX5_retry_37 : decode cX5_retry 37 = .ok (.athrow, 1) := by decide +kernel
theorem dX5_retry_38 : decode cX5_retry 38 = .ok (.aload_n 2, 1) := by decide +kernel
theorem dX5_retry_39 : decode cX5_retry 39 = .ok (.iconst 1, 1) := by decide +kernel
theorem dX5_retry_40 : decode cX5_retry 40 = .ok (.putfield 94, 3) := by decide +kernel
theorem dX5_retry_43 : decode cX5_retry 43 = .ok (.aload_n 0, 1) := by decide +kernel
theorem dX5_retry_44 : decode cX5_retry 44 = .ok (.aload_n 2, 1) := by decide +kernel
theorem dX5_retry_45 : decode cX5_retry 45 = .ok (.getfield 100, 3) := by decide +kernel
theorem dX5_retry_48 : decode cX5_retry 48 = .ok (.iconst 1, 1) := by decide +kernel
theorem dX5_retry_49 : decode cX5_retry 49 = .ok (.iadd, 1) := by decide +kernel
theorem dX5_retry_50 : decode cX5_retry 50 = .ok (.invokevirtual 81, 3) := by decide +kernel
theorem dX5_retry_53 : decode cX5_retry 53 = .ok (.getfield 85, 3) := by decide +kernel
theorem dX5_retry_56 : decode cX5_retry 56 = .ok (.ireturn, 1) := by decide +kernel
theorem dX5_read_0 : decode cX5_read 0 = .ok (.aload_n 0, 1) := by decide +kernel
theorem dX5_read_1 : decode cX5_read 1 = .ok (.iload_n 1, 1) := by decide +kernel
theorem dX5_read_2 : decode cX5_read 2 = .ok (.new 103, 3) := by decide +kernel
theorem dX5_read_5 : decode cX5_read 5 = .ok (.dup, 1) := by decide +kernel
theorem dX5_read_6 : decode cX5_read 6 = .ok (.iconst 0, 1) := by decide +kernel
theorem dX5_read_7 : decode cX5_read 7 = .ok (.iload_n 2, 1) := by decide +kernel
theorem dX5_read_8 : decode cX5_read 8 = .ok (.iload_n 2, 1) := by decide +kernel
theorem dX5_read_9 : decode cX5_read 9 = .ok (.iconst 0, 1) := by decide +kernel
theorem dX5_read_10 : decode cX5_read 10 = .ok (.invokespecial 105, 3) := by decide +kernel
theorem dX5_read_13 : decode cX5_read 13 = .ok (.invokevirtual 108, 3) := by decide +kernel
theorem dX5_read_16 : decode cX5_read 16 = .ok (.ireturn, 1) := by decide +kernel
theorem dX5_scan_0 : decode cX5_scan 0 = .ok (.aload_n 0, 1) := by decide +kernel
theorem dX5_scan_1 : decode cX5_scan 1 = .ok (.iload_n 1, 1) := by decide +kernel
theorem dX5_scan_2 : decode cX5_scan 2 = .ok (.new 103, 3) := by decide +kernel
theorem dX5_scan_5 : decode cX5_scan 5 = .ok (.dup, 1) := by decide +kernel
theorem dX5_scan_6 : decode cX5_scan 6 = .ok (.iconst 1, 1) := by decide +kernel
theorem dX5_scan_7 : decode cX5_scan 7 = .ok (.iload_n 2, 1) := by decide +kernel
theorem dX5_scan_8 : decode cX5_scan 8 = .ok (.iload_n 3, 1) := by decide +kernel
theorem dX5_scan_9 : decode cX5_scan 9 = .ok (.iload 4, 2) := by decide +kernel
theorem dX5_scan_11 : decode cX5_scan 11 = .ok (.invokespecial 105, 3) := by decide +kernel
theorem dX5_scan_14 : decode cX5_scan 14 = .ok (.invokevirtual 108, 3) := by decide +kernel
theorem dX5_scan_17 : decode cX5_scan 17 = .ok (.ireturn, 1) := by decide +kernel
theorem dX5_sum_0 : decode cX5_sum 0 = .ok (.aload_n 0, 1) := by decide +kernel
theorem dX5_sum_1 : decode cX5_sum 1 = .ok (.iload_n 1, 1) := by decide +kernel
theorem dX5_sum_2 : decode cX5_sum 2 = .ok (.new 103, 3) := by decide +kernel
theorem dX5_sum_5 : decode cX5_sum 5 = .ok (.dup, 1) := by decide +kernel
theorem dX5_sum_6 : decode cX5_sum 6 = .ok (.iconst 2, 1) := by decide +kernel
theorem dX5_sum_7 : decode cX5_sum 7 = .ok (.iload_n 2, 1) := by decide +kernel
theorem dX5_sum_8 : decode cX5_sum 8 = .ok (.iload_n 3, 1) := by decide +kernel
theorem dX5_sum_9 : decode cX5_sum 9 = .ok (.sipush (-999), 3) := by decide +kernel
theorem dX5_sum_12 : decode cX5_sum 12 = .ok (.invokespecial 105, 3) := by decide +kernel
theorem dX5_sum_15 : decode cX5_sum 15 = .ok (.invokevirtual 108, 3) := by decide +kernel
theorem dX5_sum_18 : decode cX5_sum 18 = .ok (.ireturn, 1) := by decide +kernel
theorem dX5_write_0 : decode cX5_write 0 = .ok (.aload_n 0, 1) := by decide +kernel
theorem dX5_write_1 : decode cX5_write 1 = .ok (.iload_n 1, 1) := by decide +kernel
theorem dX5_write_2 : decode cX5_write 2 = .ok (.new 103, 3) := by decide +kernel
theorem dX5_write_5 : decode cX5_write 5 = .ok (.dup, 1) := by decide +kernel
theorem dX5_write_6 : decode cX5_write 6 = .ok (.iconst 3, 1) := by decide +kernel
theorem dX5_write_7 : decode cX5_write 7 = .ok (.iload_n 2, 1) := by decide +kernel
theorem dX5_write_8 : decode cX5_write 8 = .ok (.iload_n 2, 1) := by decide +kernel
theorem dX5_write_9 : decode cX5_write 9 = .ok (.iload_n 3, 1) := by decide +kernel
theorem dX5_write_10 : decode cX5_write 10 = .ok (.invokespecial 105, 3) := by decide +kernel
theorem dX5_write_13 : decode cX5_write 13 = .ok (.invokevirtual 108, 3) := by decide +kernel
theorem dX5_write_16 : decode cX5_write 16 = .ok (.pop, 1) := by decide +kernel
theorem dX5_write_17 : decode cX5_write 17 = .ok (.return_, 1) := by decide +kernel
theorem dX5_remove_0 : decode cX5_remove 0 = .ok (.aload_n 0, 1) := by decide +kernel
theorem dX5_remove_1 : decode cX5_remove 1 = .ok (.iload_n 1, 1) := by decide +kernel
theorem dX5_remove_2 : decode cX5_remove 2 = .ok (.new 103, 3) := by decide +kernel
theorem dX5_remove_5 : decode cX5_remove 5 = .ok (.dup, 1) := by decide +kernel
theorem dX5_remove_6 : decode cX5_remove 6 = .ok (.iconst 4, 1) := by decide +kernel
theorem dX5_remove_7 : decode cX5_remove 7 = .ok (.iload_n 2, 1) := by decide +kernel
theorem dX5_remove_8 : decode cX5_remove 8 = .ok (.iload_n 2, 1) := by decide +kernel
theorem dX5_remove_9 : decode cX5_remove 9 = .ok (.iconst 0, 1) := by decide +kernel
theorem dX5_remove_10 : decode cX5_remove 10 = .ok (.invokespecial 105, 3) := by decide +kernel
theorem dX5_remove_13 : decode cX5_remove 13 = .ok (.invokevirtual 108, 3) := by decide +kernel
theorem dX5_remove_16 : decode cX5_remove 16 = .ok (.pop, 1) := by decide +kernel
theorem dX5_remove_17 : decode cX5_remove 17 = .ok (.return_, 1) := by decide +kernel
theorem dX5_add_0 : decode cX5_add 0 = .ok (.aload_n 0, 1) := by decide +kernel
theorem dX5_add_1 : decode cX5_add 1 = .ok (.iload_n 1, 1) := by decide +kernel
theorem dX5_add_2 : decode cX5_add 2 = .ok (.new 103, 3) := by decide +kernel
theorem dX5_add_5 : decode cX5_add 5 = .ok (.dup, 1) := by decide +kernel
theorem dX5_add_6 : decode cX5_add 6 = .ok (.iconst 5, 1) := by decide +kernel
theorem dX5_add_7 : decode cX5_add 7 = .ok (.iload_n 2, 1) := by decide +kernel
theorem dX5_add_8 : decode cX5_add 8 = .ok (.iload_n 2, 1) := by decide +kernel
theorem dX5_add_9 : decode cX5_add 9 = .ok (.iload_n 3, 1) := by decide +kernel
theorem dX5_add_10 : decode cX5_add 10 = .ok (.invokespecial 105, 3) := by decide +kernel
theorem dX5_add_13 : decode cX5_add 13 = .ok (.invokevirtual 108, 3) := by decide +kernel
theorem dX5_add_16 : decode cX5_add 16 = .ok (.ireturn, 1) := by decide +kernel
theorem dX5_commit_0 : decode cX5_commit 0 = .ok (.aload_n 0, 1) := by decide +kernel
theorem dX5_commit_1 : decode cX5_commit 1 = .ok (.iload_n 1, 1) := by decide +kernel
theorem dX5_commit_2 : decode cX5_commit 2 = .ok (.invokevirtual 88, 3) := by decide +kernel
theorem dX5_commit_5 : decode cX5_commit 5 = .ok (.astore_n 2, 1) := by decide +kernel
theorem dX5_commit_6 : decode cX5_commit 6 = .ok (.aload_n 2, 1) := by decide +kernel
theorem dX5_commit_7 : decode cX5_commit 7 = .ok (.getfield 91, 3) := by decide +kernel
theorem dX5_commit_10 : decode cX5_commit 10 = .ok (.ifCond .ne 13, 3) := by decide +kernel
theorem dX5_commit_13 : decode cX5_commit 13 = .ok (.aload_n 0, 1) := by decide +kernel
theorem dX5_commit_14 : decode cX5_commit 14 = .ok (.getfield 10, 3) := by decide +kernel
theorem dX5_commit_17 : decode cX5_commit 17 = .ok (.invokevirtual 112, 3) := by decide +kernel
theorem dX5_commit_20 : decode cX5_commit 20 = .ok (.ifCond .eq 13, 3) := by decide +kernel
theorem dX5_commit_23 : decode cX5_commit 23 = .ok (.new 70, 3) := by decide +kernel
theorem dX5_commit_26 : decode cX5_commit 26 = .ok (.dup, 1) := by decide +kernel
theorem dX5_commit_27 : decode cX5_commit 27 = .ok (.ldc 115, 2) := by decide +kernel
theorem dX5_commit_29 : decode cX5_commit 29 = .ok (.invokespecial 74, 3) := by decide +kernel
theorem dX5_commit_32 : decode cX5_commit 32 = .ok (.athrow, 1) := by decide +kernel
theorem dX5_commit_33 : decode cX5_commit 33 = .ok (.aload_n 0, 1) := by decide +kernel
theorem dX5_commit_34 : decode cX5_commit 34 = .ok (.aload_n 2, 1) := by decide +kernel
theorem dX5_commit_35 : decode cX5_commit 35 = .ok (.invokevirtual 117, 3) := by decide +kernel
theorem dX5_commit_38 : decode cX5_commit 38 = .ok (.ireturn, 1) := by decide +kernel
theorem dX5_abort_0 : decode cX5_abort 0 = .ok (.aload_n 0, 1) := by decide +kernel
theorem dX5_abort_1 : decode cX5_abort 1 = .ok (.aload_n 0, 1) := by decide +kernel
theorem dX5_abort_2 : decode cX5_abort 2 = .ok (.iload_n 1, 1) := by decide +kernel
theorem dX5_abort_3 : decode cX5_abort 3 = .ok (.invokevirtual 121, 3) := by decide +kernel
theorem dX5_abort_6 : decode cX5_abort 6 = .ok (.iconst 5, 1) := by decide +kernel
theorem dX5_abort_7 : decode cX5_abort 7 = .ok (.invokevirtual 124, 3) := by decide +kernel
theorem dX5_abort_10 : decode cX5_abort 10 = .ok (.return_, 1) := by decide +kernel
theorem dX5_clock_0 : decode cX5_clock 0 = .ok (.aload_n 0, 1) := by decide +kernel
theorem dX5_clock_1 : decode cX5_clock 1 = .ok (.getfield 10, 3) := by decide +kernel
theorem dX5_clock_4 : decode cX5_clock 4 = .ok (.getfield 128, 3) := by decide +kernel
theorem dX5_clock_7 : decode cX5_clock 7 = .ok (.ireturn, 1) := by decide +kernel
theorem dX5_transactionCount_0 : decode cX5_transactionCount 0 = .ok (.aload_n 0, 1) := by decide +kernel
theorem dX5_transactionCount_1 : decode cX5_transactionCount 1 = .ok (.getfield 131, 3) := by decide +kernel
theorem dX5_transactionCount_4 : decode cX5_transactionCount 4 = .ok (.ireturn, 1) := by decide +kernel
theorem dX5_activeCount_0 : decode cX5_activeCount 0 = .ok (.aload_n 0, 1) := by decide +kernel
theorem dX5_activeCount_1 : decode cX5_activeCount 1 = .ok (.iconst 0, 1) := by decide +kernel
theorem dX5_activeCount_2 : decode cX5_activeCount 2 = .ok (.invokevirtual 66, 3) := by decide +kernel
theorem dX5_activeCount_5 : decode cX5_activeCount 5 = .ok (.ireturn, 1) := by decide +kernel
theorem dX5_ticketHolder_0 : decode cX5_ticketHolder 0 = .ok (.aload_n 0, 1) := by decide +kernel
theorem dX5_ticketHolder_1 : decode cX5_ticketHolder 1 = .ok (.getfield 52, 3) := by decide +kernel
theorem dX5_ticketHolder_4 : decode cX5_ticketHolder 4 = .ok (.iconst (-1), 1) := by decide +kernel
theorem dX5_ticketHolder_5 : decode cX5_ticketHolder 5 = .ok (.if_icmp .ne 13, 3) := by decide +kernel
theorem dX5_ticketHolder_8 : decode cX5_ticketHolder 8 = .ok (.new 134, 3) := by decide +kernel
theorem dX5_ticketHolder_11 : decode cX5_ticketHolder 11 = .ok (.dup, 1) := by decide +kernel
theorem dX5_ticketHolder_12 : decode cX5_ticketHolder 12 = .ok (.ldc 136, 2) := by decide +kernel
theorem dX5_ticketHolder_14 : decode cX5_ticketHolder 14 = .ok (.invokespecial 138, 3) := by decide +kernel
theorem dX5_ticketHolder_17 : decode cX5_ticketHolder 17 = .ok (.athrow, 1) := by decide +kernel
theorem dX5_ticketHolder_18 : decode cX5_ticketHolder 18 = .ok (.aload_n 0, 1) := by decide +kernel
theorem dX5_ticketHolder_19 : decode cX5_ticketHolder 19 = .ok (.getfield 52, 3) := by decide +kernel
theorem dX5_ticketHolder_22 : decode cX5_ticketHolder 22 = .ok (.ireturn, 1) := by decide +kernel
theorem dX5_state_0 : decode cX5_state 0 = .ok (.aload_n 0, 1) := by decide +kernel
theorem dX5_state_1 : decode cX5_state 1 = .ok (.iload_n 1, 1) := by decide +kernel
theorem dX5_state_2 : decode cX5_state 2 = .ok (.invokevirtual 88, 3) := by decide +kernel
theorem dX5_state_5 : decode cX5_state 5 = .ok (.getfield 91, 3) := by decide +kernel
theorem dX5_state_8 : decode cX5_state 8 = .ok (.ireturn, 1) := by decide +kernel
theorem dX5_attempt_0 : decode cX5_attempt 0 = .ok (.aload_n 0, 1) := by decide +kernel
theorem dX5_attempt_1 : decode cX5_attempt 1 = .ok (.iload_n 1, 1) := by decide +kernel
theorem dX5_attempt_2 : decode cX5_attempt 2 = .ok (.invokevirtual 88, 3) := by decide +kernel
theorem dX5_attempt_5 : decode cX5_attempt 5 = .ok (.getfield 100, 3) := by decide +kernel
theorem dX5_attempt_8 : decode cX5_attempt 8 = .ok (.ireturn, 1) := by decide +kernel
theorem dX5_reason_0 : decode cX5_reason 0 = .ok (.aload_n 0, 1) := by decide +kernel
theorem dX5_reason_1 : decode cX5_reason 1 = .ok (.iload_n 1, 1) := by decide +kernel
theorem dX5_reason_2 : decode cX5_reason 2 = .ok (.invokevirtual 88, 3) := by decide +kernel
theorem dX5_reason_5 : decode cX5_reason 5 = .ok (.astore_n 2, 1) := by decide +kernel
theorem dX5_reason_6 : decode cX5_reason 6 = .ok (.aload_n 2, 1) := by decide +kernel
theorem dX5_reason_7 : decode cX5_reason 7 = .ok (.getfield 91, 3) := by decide +kernel
theorem dX5_reason_10 : decode cX5_reason 10 = .ok (.iconst 2, 1) := by decide +kernel
theorem dX5_reason_11 : decode cX5_reason 11 = .ok (.if_icmp .eq 13, 3) := by decide +kernel
theorem dX5_reason_14 : decode cX5_reason 14 = .ok (.new 70, 3) := by decide +kernel
theorem dX5_reason_17 : decode cX5_reason 17 = .ok (.dup, 1) := by decide +kernel
theorem dX5_reason_18 : decode cX5_reason 18 = .ok (.ldc 139, 2) := by decide +kernel
theorem dX5_reason_20 : decode cX5_reason 20 = .ok (.invokespecial 74, 3) := by decide +kernel
theorem dX5_reason_23 : decode cX5_reason 23 = .ok (.athrow, 1) := by decide +kernel
theorem dX5_reason_24 : decode cX5_reason 24 = .ok (.aload_n 2, 1) := by decide +kernel
theorem dX5_reason_25 : decode cX5_reason 25 = .ok (.getfield 141, 3) := by decide +kernel
theorem dX5_reason_28 : decode cX5_reason 28 = .ok (.ireturn, 1) := by decide +kernel
theorem dX5_commitOf_0 : decode cX5_commitOf 0 = .ok (.aload_n 0, 1) := by decide +kernel
theorem dX5_commitOf_1 : decode cX5_commitOf 1 = .ok (.iload_n 1, 1) := by decide +kernel
theorem dX5_commitOf_2 : decode cX5_commitOf 2 = .ok (.invokevirtual 88, 3) := by decide +kernel
theorem dX5_commitOf_5 : decode cX5_commitOf 5 = .ok (.astore_n 2, 1) := by decide +kernel
theorem dX5_commitOf_6 : decode cX5_commitOf 6 = .ok (.aload_n 2, 1) := by decide +kernel
theorem dX5_commitOf_7 : decode cX5_commitOf 7 = .ok (.getfield 91, 3) := by decide +kernel
theorem dX5_commitOf_10 : decode cX5_commitOf 10 = .ok (.iconst 1, 1) := by decide +kernel
theorem dX5_commitOf_11 : decode cX5_commitOf 11 = .ok (.if_icmp .eq 13, 3) := by decide +kernel
theorem dX5_commitOf_14 : decode cX5_commitOf 14 = .ok (.new 70, 3) := by decide +kernel
theorem dX5_commitOf_17 : decode cX5_commitOf 17 = .ok (.dup, 1) := by decide +kernel
theorem dX5_commitOf_18 : decode cX5_commitOf 18 = .ok (.ldc 144, 2) := by decide +kernel
theorem dX5_commitOf_20 : decode cX5_commitOf 20 = .ok (.invokespecial 74, 3) := by decide +kernel
theorem dX5_commitOf_23 : decode cX5_commitOf 23 = .ok (.athrow, 1) := by decide +kernel
theorem dX5_commitOf_24 : decode cX5_commitOf 24 = .ok (.aload_n 2, 1) := by decide +kernel
theorem dX5_commitOf_25 : decode cX5_commitOf 25 = .ok (.getfield 146, 3) := by decide +kernel
theorem dX5_commitOf_28 : decode cX5_commitOf 28 = .ok (.ireturn, 1) := by decide +kernel
theorem dX5_operationCount_0 : decode cX5_operationCount 0 = .ok (.aload_n 0, 1) := by decide +kernel
theorem dX5_operationCount_1 : decode cX5_operationCount 1 = .ok (.iload_n 1, 1) := by decide +kernel
theorem dX5_operationCount_2 : decode cX5_operationCount 2 = .ok (.invokevirtual 88, 3) := by decide +kernel
theorem dX5_operationCount_5 : decode cX5_operationCount 5 = .ok (.getfield 149, 3) := by decide +kernel
theorem dX5_operationCount_8 : decode cX5_operationCount 8 = .ok (.ireturn, 1) := by decide +kernel
theorem dX5_recordedKeys_0 : decode cX5_recordedKeys 0 = .ok (.aload_n 0, 1) := by decide +kernel
theorem dX5_recordedKeys_1 : decode cX5_recordedKeys 1 = .ok (.iload_n 1, 1) := by decide +kernel
theorem dX5_recordedKeys_2 : decode cX5_recordedKeys 2 = .ok (.invokevirtual 88, 3) := by decide +kernel
theorem dX5_recordedKeys_5 : decode cX5_recordedKeys 5 = .ok (.getfield 152, 3) := by decide +kernel
theorem dX5_recordedKeys_8 : decode cX5_recordedKeys 8 = .ok (.ireturn, 1) := by decide +kernel
theorem dX5_predicateCount_0 : decode cX5_predicateCount 0 = .ok (.aload_n 0, 1) := by decide +kernel
theorem dX5_predicateCount_1 : decode cX5_predicateCount 1 = .ok (.iload_n 1, 1) := by decide +kernel
theorem dX5_predicateCount_2 : decode cX5_predicateCount 2 = .ok (.invokevirtual 88, 3) := by decide +kernel
theorem dX5_predicateCount_5 : decode cX5_predicateCount 5 = .ok (.invokevirtual 155, 3) := by decide +kernel
theorem dX5_predicateCount_8 : decode cX5_predicateCount 8 = .ok (.ireturn, 1) := by decide +kernel
theorem dX5_writtenKeys_0 : decode cX5_writtenKeys 0 = .ok (.aload_n 0, 1) := by decide +kernel
theorem dX5_writtenKeys_1 : decode cX5_writtenKeys 1 = .ok (.iload_n 1, 1) := by decide +kernel
theorem dX5_writtenKeys_2 : decode cX5_writtenKeys 2 = .ok (.invokevirtual 88, 3) := by decide +kernel
theorem dX5_writtenKeys_5 : decode cX5_writtenKeys 5 = .ok (.getfield 159, 3) := by decide +kernel
theorem dX5_writtenKeys_8 : decode cX5_writtenKeys 8 = .ok (.ireturn, 1) := by decide +kernel
theorem dX5_isStale_0 : decode cX5_isStale 0 = .ok (.aload_n 0, 1) := by decide +kernel
theorem dX5_isStale_1 : decode cX5_isStale 1 = .ok (.getfield 10, 3) := by decide +kernel
theorem dX5_isStale_4 : decode cX5_isStale 4 = .ok (.aload_n 0, 1) := by decide +kernel
theorem dX5_isStale_5 : decode cX5_isStale 5 = .ok (.iload_n 1, 1) := by decide +kernel
theorem dX5_isStale_6 : decode cX5_isStale 6 = .ok (.invokevirtual 121, 3) := by decide +kernel
theorem dX5_isStale_9 : decode cX5_isStale 9 = .ok (.invokevirtual 162, 3) := by decide +kernel
theorem dX5_isStale_12 : decode cX5_isStale 12 = .ok (.ifCond .eq 7, 3) := by decide +kernel
theorem dX5_isStale_15 : decode cX5_isStale 15 = .ok (.iconst 1, 1) := by decide +kernel
theorem dX5_isStale_16 : decode cX5_isStale 16 = .ok (.goto 4, 3) := by decide +kernel
theorem dX5_isStale_19 : decode cX5_isStale 19 = .ok (.iconst 0, 1) := by decide +kernel
theorem dX5_isStale_20 : decode cX5_isStale 20 = .ok (.ireturn, 1) := by decide +kernel
theorem dX5_rivals_0 : decode cX5_rivals 0 = .ok (.aload_n 0, 1) := by decide +kernel
theorem dX5_rivals_1 : decode cX5_rivals 1 = .ok (.aload_n 0, 1) := by decide +kernel
theorem dX5_rivals_2 : decode cX5_rivals 2 = .ok (.iload_n 1, 1) := by decide +kernel
theorem dX5_rivals_3 : decode cX5_rivals 3 = .ok (.invokevirtual 121, 3) := by decide +kernel
theorem dX5_rivals_6 : decode cX5_rivals 6 = .ok (.invokevirtual 165, 3) := by decide +kernel
theorem dX5_rivals_9 : decode cX5_rivals 9 = .ok (.ireturn, 1) := by decide +kernel
theorem dX5_value_0 : decode cX5_value 0 = .ok (.iload_n 1, 1) := by decide +kernel
theorem dX5_value_1 : decode cX5_value 1 = .ok (.invokestatic 168, 3) := by decide +kernel
theorem dX5_value_4 : decode cX5_value 4 = .ok (.aload_n 0, 1) := by decide +kernel
theorem dX5_value_5 : decode cX5_value 5 = .ok (.getfield 10, 3) := by decide +kernel
theorem dX5_value_8 : decode cX5_value 8 = .ok (.invokevirtual 172, 3) := by decide +kernel
theorem dX5_value_11 : decode cX5_value 11 = .ok (.iload_n 1, 1) := by decide +kernel
theorem dX5_value_12 : decode cX5_value 12 = .ok (.iaload, 1) := by decide +kernel
theorem dX5_value_13 : decode cX5_value 13 = .ok (.ireturn, 1) := by decide +kernel
theorem dX5_valueAt_0 : decode cX5_valueAt 0 = .ok (.iload_n 1, 1) := by decide +kernel
theorem dX5_valueAt_1 : decode cX5_valueAt 1 = .ok (.invokestatic 168, 3) := by decide +kernel
theorem dX5_valueAt_4 : decode cX5_valueAt 4 = .ok (.aload_n 0, 1) := by decide +kernel
theorem dX5_valueAt_5 : decode cX5_valueAt 5 = .ok (.iload_n 2, 1) := by decide +kernel
theorem dX5_valueAt_6 : decode cX5_valueAt 6 = .ok (.iconst 0, 1) := by decide +kernel
theorem dX5_valueAt_7 : decode cX5_valueAt 7 = .ok (.invokevirtual 176, 3) := by decide +kernel
theorem dX5_valueAt_10 : decode cX5_valueAt 10 = .ok (.aload_n 0, 1) := by decide +kernel
theorem dX5_valueAt_11 : decode cX5_valueAt 11 = .ok (.getfield 10, 3) := by decide +kernel
theorem dX5_valueAt_14 : decode cX5_valueAt 14 = .ok (.iload_n 2, 1) := by decide +kernel
theorem dX5_valueAt_15 : decode cX5_valueAt 15 = .ok (.invokevirtual 180, 3) := by decide +kernel
theorem dX5_valueAt_18 : decode cX5_valueAt 18 = .ok (.iload_n 1, 1) := by decide +kernel
theorem dX5_valueAt_19 : decode cX5_valueAt 19 = .ok (.iaload, 1) := by decide +kernel
theorem dX5_valueAt_20 : decode cX5_valueAt 20 = .ok (.ireturn, 1) := by decide +kernel
theorem dX5_writerOf_0 : decode cX5_writerOf 0 = .ok (.iload_n 1, 1) := by decide +kernel
theorem dX5_writerOf_1 : decode cX5_writerOf 1 = .ok (.invokestatic 168, 3) := by decide +kernel
theorem dX5_writerOf_4 : decode cX5_writerOf 4 = .ok (.aload_n 0, 1) := by decide +kernel
theorem dX5_writerOf_5 : decode cX5_writerOf 5 = .ok (.getfield 10, 3) := by decide +kernel
theorem dX5_writerOf_8 : decode cX5_writerOf 8 = .ok (.iload_n 1, 1) := by decide +kernel
theorem dX5_writerOf_9 : decode cX5_writerOf 9 = .ok (.invokevirtual 184, 3) := by decide +kernel
theorem dX5_writerOf_12 : decode cX5_writerOf 12 = .ok (.ireturn, 1) := by decide +kernel
theorem dX5_transactionOf_0 : decode cX5_transactionOf 0 = .ok (.aload_n 0, 1) := by decide +kernel
theorem dX5_transactionOf_1 : decode cX5_transactionOf 1 = .ok (.iload_n 1, 1) := by decide +kernel
theorem dX5_transactionOf_2 : decode cX5_transactionOf 2 = .ok (.iconst 1, 1) := by decide +kernel
theorem dX5_transactionOf_3 : decode cX5_transactionOf 3 = .ok (.invokevirtual 176, 3) := by decide +kernel
theorem dX5_transactionOf_6 : decode cX5_transactionOf 6 = .ok (.aload_n 0, 1) := by decide +kernel
theorem dX5_transactionOf_7 : decode cX5_transactionOf 7 = .ok (.getfield 10, 3) := by decide +kernel
theorem dX5_transactionOf_10 : decode cX5_transactionOf 10 = .ok (.iload_n 1, 1) := by decide +kernel
theorem dX5_transactionOf_11 : decode cX5_transactionOf 11 = .ok (.invokevirtual 187, 3) := by decide +kernel
theorem dX5_transactionOf_14 : decode cX5_transactionOf 14 = .ok (.astore_n 2, 1) := by decide +kernel
theorem dX5_transactionOf_15 : decode cX5_transactionOf 15 = .ok (.aload_n 2, 1) := by decide +kernel
theorem dX5_transactionOf_16 : decode cX5_transactionOf 16 = .ok (.ifnonnull 7, 3) := by decide +kernel
theorem dX5_transactionOf_19 : decode cX5_transactionOf 19 = .ok (.iconst (-1), 1) := by decide +kernel
theorem dX5_transactionOf_20 : decode cX5_transactionOf 20 = .ok (.goto 7, 3) := by decide +kernel
theorem dX5_transactionOf_23 : decode cX5_transactionOf 23 = .ok (.aload_n 2, 1) := by decide +kernel
theorem dX5_transactionOf_24 : decode cX5_transactionOf 24 = .ok (.getfield 85, 3) := by decide +kernel
theorem dX5_transactionOf_27 : decode cX5_transactionOf 27 = .ok (.ireturn, 1) := by decide +kernel
theorem dX5_dependency_0 : decode cX5_dependency 0 = .ok (.aload_n 0, 1) := by decide +kernel
theorem dX5_dependency_1 : decode cX5_dependency 1 = .ok (.iload_n 1, 1) := by decide +kernel
theorem dX5_dependency_2 : decode cX5_dependency 2 = .ok (.iconst 1, 1) := by decide +kernel
theorem dX5_dependency_3 : decode cX5_dependency 3 = .ok (.invokevirtual 176, 3) := by decide +kernel
theorem dX5_dependency_6 : decode cX5_dependency 6 = .ok (.aload_n 0, 1) := by decide +kernel
theorem dX5_dependency_7 : decode cX5_dependency 7 = .ok (.iload_n 2, 1) := by decide +kernel
theorem dX5_dependency_8 : decode cX5_dependency 8 = .ok (.iconst 1, 1) := by decide +kernel
theorem dX5_dependency_9 : decode cX5_dependency 9 = .ok (.invokevirtual 176, 3) := by decide +kernel
theorem dX5_dependency_12 : decode cX5_dependency 12 = .ok (.iload_n 1, 1) := by decide +kernel
theorem dX5_dependency_13 : decode cX5_dependency 13 = .ok (.iload_n 2, 1) := by decide +kernel
theorem dX5_dependency_14 : decode cX5_dependency 14 = .ok (.if_icmp .lt 13, 3) := by decide +kernel
theorem dX5_dependency_17 : decode cX5_dependency 17 = .ok (.new 59, 3) := by decide +kernel
theorem dX5_dependency_20 : decode cX5_dependency 20 = .ok (.dup, 1) := by decide +kernel
theorem dX5_dependency_21 : decode cX5_dependency 21 = .ok (.ldc 190, 2) := by decide +kernel
theorem dX5_dependency_23 : decode cX5_dependency 23 = .ok (.invokespecial 63, 3) := by decide +kernel
theorem dX5_dependency_26 : decode cX5_dependency 26 = .ok (.athrow, 1) := by decide +kernel
theorem dX5_dependency_27 : decode cX5_dependency 27 = .ok (.aload_n 0, 1) := by decide +kernel
theorem dX5_dependency_28 : decode cX5_dependency 28 = .ok (.getfield 10, 3) := by decide +kernel
theorem dX5_dependency_31 : decode cX5_dependency 31 = .ok (.iload_n 1, 1) := by decide +kernel
theorem dX5_dependency_32 : decode cX5_dependency 32 = .ok (.iload_n 2, 1) := by decide +kernel
theorem dX5_dependency_33 : decode cX5_dependency 33 = .ok (.invokevirtual 192, 3) := by decide +kernel
theorem dX5_dependency_36 : decode cX5_dependency 36 = .ok (.ireturn, 1) := by decide +kernel
theorem dX5_longestChain_0 : decode cX5_longestChain 0 = .ok (.iconst 0, 1) := by decide +kernel
theorem dX5_longestChain_1 : decode cX5_longestChain 1 = .ok (.istore_n 1, 1) := by decide +kernel
theorem dX5_longestChain_2 : decode cX5_longestChain 2 = .ok (.iconst 1, 1) := by decide +kernel
theorem dX5_longestChain_3 : decode cX5_longestChain 3 = .ok (.istore_n 2, 1) := by decide +kernel
theorem dX5_longestChain_4 : decode cX5_longestChain 4 = .ok (.iload_n 2, 1) := by decide +kernel
theorem dX5_longestChain_5 : decode cX5_longestChain 5 = .ok (.aload_n 0, 1) := by decide +kernel
theorem dX5_longestChain_6 : decode cX5_longestChain 6 = .ok (.getfield 10, 3) := by decide +kernel
theorem dX5_longestChain_9 : decode cX5_longestChain 9 = .ok (.getfield 128, 3) := by decide +kernel
theorem dX5_longestChain_12 : decode cX5_longestChain 12 = .ok (.if_icmp .gt 81, 3) := by decide +kernel
theorem dX5_longestChain_15 : decode cX5_longestChain 15 = .ok (.aload_n 0, 1) := by decide +kernel
theorem dX5_longestChain_16 : decode cX5_longestChain 16 = .ok (.getfield 39, 3) := by decide +kernel
theorem dX5_longestChain_19 : decode cX5_longestChain 19 = .ok (.iload_n 2, 1) := by decide +kernel
theorem dX5_longestChain_20 : decode cX5_longestChain 20 = .ok (.iconst 1, 1) := by decide +kernel
theorem dX5_longestChain_21 : decode cX5_longestChain 21 = .ok (.iastore, 1) := by decide +kernel
theorem dX5_longestChain_22 : decode cX5_longestChain 22 = .ok (.iconst 1, 1) := by decide +kernel
theorem dX5_longestChain_23 : decode cX5_longestChain 23 = .ok (.istore_n 3, 1) := by decide +kernel
theorem dX5_longestChain_24 : decode cX5_longestChain 24 = .ok (.iload_n 3, 1) := by decide +kernel
theorem dX5_longestChain_25 : decode cX5_longestChain 25 = .ok (.iload_n 2, 1) := by decide +kernel
theorem dX5_longestChain_26 : decode cX5_longestChain 26 = .ok (.if_icmp .ge 50, 3) := by decide +kernel
theorem dX5_longestChain_29 : decode cX5_longestChain 29 = .ok (.aload_n 0, 1) := by decide +kernel
theorem dX5_longestChain_30 : decode cX5_longestChain 30 = .ok (.getfield 39, 3) := by decide +kernel
theorem dX5_longestChain_33 : decode cX5_longestChain 33 = .ok (.iload_n 3, 1) := by decide +kernel
theorem dX5_longestChain_34 : decode cX5_longestChain 34 = .ok (.iaload, 1) := by decide +kernel
theorem dX5_longestChain_35 : decode cX5_longestChain 35 = .ok (.aload_n 0, 1) := by decide +kernel
theorem dX5_longestChain_36 : decode cX5_longestChain 36 = .ok (.getfield 39, 3) := by decide +kernel
theorem dX5_longestChain_39 : decode cX5_longestChain 39 = .ok (.iload_n 2, 1) := by decide +kernel
theorem dX5_longestChain_40 : decode cX5_longestChain 40 = .ok (.iaload, 1) := by decide +kernel
theorem dX5_longestChain_41 : decode cX5_longestChain 41 = .ok (.if_icmp .lt 29, 3) := by decide +kernel
theorem dX5_longestChain_44 : decode cX5_longestChain 44 = .ok (.aload_n 0, 1) := by decide +kernel
theorem dX5_longestChain_45 : decode cX5_longestChain 45 = .ok (.getfield 10, 3) := by decide +kernel
theorem dX5_longestChain_48 : decode cX5_longestChain 48 = .ok (.iload_n 3, 1) := by decide +kernel
theorem dX5_longestChain_49 : decode cX5_longestChain 49 = .ok (.iload_n 2, 1) := by decide +kernel
theorem dX5_longestChain_50 : decode cX5_longestChain 50 = .ok (.invokevirtual 192, 3) := by decide +kernel
theorem dX5_longestChain_53 : decode cX5_longestChain 53 = .ok (.ifCond .eq 17, 3) := by decide +kernel
theorem dX5_longestChain_56 : decode cX5_longestChain 56 = .ok (.aload_n 0, 1) := by decide +kernel
theorem dX5_longestChain_57 : decode cX5_longestChain 57 = .ok (.getfield 39, 3) := by decide +kernel
theorem dX5_longestChain_60 : decode cX5_longestChain 60 = .ok (.iload_n 2, 1) := by decide +kernel
theorem dX5_longestChain_61 : decode cX5_longestChain 61 = .ok (.aload_n 0, 1) := by decide +kernel
theorem dX5_longestChain_62 : decode cX5_longestChain 62 = .ok (.getfield 39, 3) := by decide +kernel
theorem dX5_longestChain_65 : decode cX5_longestChain 65 = .ok (.iload_n 3, 1) := by decide +kernel
theorem dX5_longestChain_66 : decode cX5_longestChain 66 = .ok (.iaload, 1) := by decide +kernel
theorem dX5_longestChain_67 : decode cX5_longestChain 67 = .ok (.iconst 1, 1) := by decide +kernel
theorem dX5_longestChain_68 : decode cX5_longestChain 68 = .ok (.iadd, 1) := by decide +kernel
theorem dX5_longestChain_69 : decode cX5_longestChain 69 = .ok (.iastore, 1) := by decide +kernel
theorem dX5_longestChain_70 : decode cX5_longestChain 70 = .ok (.iinc 3 1, 3) := by decide +kernel
theorem dX5_longestChain_73 : decode cX5_longestChain 73 = .ok (.goto (-49), 3) := by decide +kernel
theorem dX5_longestChain_76 : decode cX5_longestChain 76 = .ok (.iload_n 1, 1) := by decide +kernel
theorem dX5_longestChain_77 : decode cX5_longestChain 77 = .ok (.aload_n 0, 1) := by decide +kernel
theorem dX5_longestChain_78 : decode cX5_longestChain 78 = .ok (.getfield 39, 3) := by decide +kernel
theorem dX5_longestChain_81 : decode cX5_longestChain 81 = .ok (.iload_n 2, 1) := by decide +kernel
theorem dX5_longestChain_82 : decode cX5_longestChain 82 = .ok (.iaload, 1) := by decide +kernel
theorem dX5_longestChain_83 : decode cX5_longestChain 83 = .ok (.invokestatic 196, 3) := by decide +kernel
theorem dX5_longestChain_86 : decode cX5_longestChain 86 = .ok (.istore_n 1, 1) := by decide +kernel
theorem dX5_longestChain_87 : decode cX5_longestChain 87 = .ok (.iinc 2 1, 3) := by decide +kernel
theorem dX5_longestChain_90 : decode cX5_longestChain 90 = .ok (.goto (-86), 3) := by decide +kernel
theorem dX5_longestChain_93 : decode cX5_longestChain 93 = .ok (.iload_n 1, 1) := by decide +kernel
theorem dX5_longestChain_94 : decode cX5_longestChain 94 = .ok (.ireturn, 1) := by decide +kernel
theorem dX5_serialFaults_0 : decode cX5_serialFaults 0 = .ok (.iconst 0, 1) := by decide +kernel
theorem dX5_serialFaults_1 : decode cX5_serialFaults 1 = .ok (.istore_n 1, 1) := by decide +kernel
theorem dX5_serialFaults_2 : decode cX5_serialFaults 2 = .ok (.iconst 1, 1) := by decide +kernel
theorem dX5_serialFaults_3 : decode cX5_serialFaults 3 = .ok (.istore_n 2, 1) := by decide +kernel
theorem dX5_serialFaults_4 : decode cX5_serialFaults 4 = .ok (.iload_n 2, 1) := by decide +kernel
theorem dX5_serialFaults_5 : decode cX5_serialFaults 5 = .ok (.aload_n 0, 1) := by decide +kernel
theorem dX5_serialFaults_6 : decode cX5_serialFaults 6 = .ok (.getfield 10, 3) := by decide +kernel
theorem dX5_serialFaults_9 : decode cX5_serialFaults 9 = .ok (.getfield 128, 3) := by decide +kernel
theorem dX5_serialFaults_12 : decode cX5_serialFaults 12 = .ok (.if_icmp .gt 57, 3) := by decide +kernel
theorem dX5_serialFaults_15 : decode cX5_serialFaults 15 = .ok (.aload_n 0, 1) := by decide +kernel
theorem dX5_serialFaults_16 : decode cX5_serialFaults 16 = .ok (.getfield 10, 3) := by decide +kernel
theorem dX5_serialFaults_19 : decode cX5_serialFaults 19 = .ok (.iload_n 2, 1) := by decide +kernel
theorem dX5_serialFaults_20 : decode cX5_serialFaults 20 = .ok (.invokevirtual 187, 3) := by decide +kernel
theorem dX5_serialFaults_23 : decode cX5_serialFaults 23 = .ok (.astore_n 3, 1) := by decide +kernel
theorem dX5_serialFaults_24 : decode cX5_serialFaults 24 = .ok (.aload_n 0, 1) := by decide +kernel
theorem dX5_serialFaults_25 : decode cX5_serialFaults 25 = .ok (.getfield 10, 3) := by decide +kernel
theorem dX5_serialFaults_28 : decode cX5_serialFaults 28 = .ok (.iload_n 2, 1) := by decide +kernel
theorem dX5_serialFaults_29 : decode cX5_serialFaults 29 = .ok (.iconst 1, 1) := by decide +kernel
theorem dX5_serialFaults_30 : decode cX5_serialFaults 30 = .ok (.isub, 1) := by decide +kernel
theorem dX5_serialFaults_31 : decode cX5_serialFaults 31 = .ok (.invokevirtual 180, 3) := by decide +kernel
theorem dX5_serialFaults_34 : decode cX5_serialFaults 34 = .ok (.iconst 0, 1) := by decide +kernel
theorem dX5_serialFaults_35 : decode cX5_serialFaults 35 = .ok (.aload_n 0, 1) := by decide +kernel
theorem dX5_serialFaults_36 : decode cX5_serialFaults 36 = .ok (.getfield 35, 3) := by decide +kernel
theorem dX5_serialFaults_39 : decode cX5_serialFaults 39 = .ok (.iconst 0, 1) := by decide +kernel
theorem dX5_serialFaults_40 : decode cX5_serialFaults 40 = .ok (.bipush 32, 2) := by decide +kernel
theorem dX5_serialFaults_42 : decode cX5_serialFaults 42 = .ok (.invokestatic 201, 3) := by decide +kernel
theorem dX5_serialFaults_45 : decode cX5_serialFaults 45 = .ok (.aload_n 3, 1) := by decide +kernel
theorem dX5_serialFaults_46 : decode cX5_serialFaults 46 = .ok (.ifnull 17, 3) := by decide +kernel
theorem dX5_serialFaults_49 : decode cX5_serialFaults 49 = .ok (.aload_n 3, 1) := by decide +kernel
theorem dX5_serialFaults_50 : decode cX5_serialFaults 50 = .ok (.aload_n 0, 1) := by decide +kernel
theorem dX5_serialFaults_51 : decode cX5_serialFaults 51 = .ok (.getfield 35, 3) := by decide +kernel
theorem dX5_serialFaults_54 : decode cX5_serialFaults 54 = .ok (.invokevirtual 207, 3) := by decide +kernel
theorem dX5_serialFaults_57 : decode cX5_serialFaults 57 = .ok (.ifCond .ne 6, 3) := by decide +kernel
theorem dX5_serialFaults_60 : decode cX5_serialFaults 60 = .ok (.iinc 1 1, 3) := by decide +kernel
theorem dX5_serialFaults_63 : decode cX5_serialFaults 63 = .ok (.iinc 2 1, 3) := by decide +kernel
theorem dX5_serialFaults_66 : decode cX5_serialFaults 66 = .ok (.goto (-62), 3) := by decide +kernel
theorem dX5_serialFaults_69 : decode cX5_serialFaults 69 = .ok (.iload_n 1, 1) := by decide +kernel
theorem dX5_serialFaults_70 : decode cX5_serialFaults 70 = .ok (.ireturn, 1) := by decide +kernel
theorem dX5_rewind_0 : decode cX5_rewind 0 = .ok (.aload_n 0, 1) := by decide +kernel
theorem dX5_rewind_1 : decode cX5_rewind 1 = .ok (.iload_n 1, 1) := by decide +kernel
theorem dX5_rewind_2 : decode cX5_rewind 2 = .ok (.iconst 0, 1) := by decide +kernel
theorem dX5_rewind_3 : decode cX5_rewind 3 = .ok (.invokevirtual 176, 3) := by decide +kernel
theorem dX5_rewind_6 : decode cX5_rewind 6 = .ok (.aload_n 0, 1) := by decide +kernel
theorem dX5_rewind_7 : decode cX5_rewind 7 = .ok (.iconst 0, 1) := by decide +kernel
theorem dX5_rewind_8 : decode cX5_rewind 8 = .ok (.invokevirtual 66, 3) := by decide +kernel
theorem dX5_rewind_11 : decode cX5_rewind 11 = .ok (.ifCond .le 13, 3) := by decide +kernel
theorem dX5_rewind_14 : decode cX5_rewind 14 = .ok (.new 70, 3) := by decide +kernel
theorem dX5_rewind_17 : decode cX5_rewind 17 = .ok (.dup, 1) := by decide +kernel
theorem dX5_rewind_18 : decode cX5_rewind 18 = .ok (.ldc 72, 2) := by decide +kernel
theorem dX5_rewind_20 : decode cX5_rewind 20 = .ok (.invokespecial 74, 3) := by decide +kernel
theorem dX5_rewind_23 : decode cX5_rewind 23 = .ok (.athrow, 1) := by decide +kernel
theorem dX5_rewind_24 : decode cX5_rewind 24 = .ok (.aload_n 0, 1) := by decide +kernel
theorem dX5_rewind_25 : decode cX5_rewind 25 = .ok (.getfield 10, 3) := by decide +kernel
theorem dX5_rewind_28 : decode cX5_rewind 28 = .ok (.iload_n 1, 1) := by decide +kernel
theorem dX5_rewind_29 : decode cX5_rewind 29 = .ok (.invokevirtual 211, 3) := by decide +kernel
theorem dX5_rewind_32 : decode cX5_rewind 32 = .ok (.ireturn, 1) := by decide +kernel
theorem dX5_addConstraint_0 : decode cX5_addConstraint 0 = .ok (.iload_n 1, 1) := by decide +kernel
theorem dX5_addConstraint_1 : decode cX5_addConstraint 1 = .ok (.iconst 0, 1) := by decide +kernel
theorem dX5_addConstraint_2 : decode cX5_addConstraint 2 = .ok (.iconst 2, 1) := by decide +kernel
theorem dX5_addConstraint_3 : decode cX5_addConstraint 3 = .ok (.invokestatic 55, 3) := by decide +kernel
theorem dX5_addConstraint_6 : decode cX5_addConstraint 6 = .ok (.ifCond .eq 11, 3) := by decide +kernel
theorem dX5_addConstraint_9 : decode cX5_addConstraint 9 = .ok (.iload_n 2, 1) := by decide +kernel
theorem dX5_addConstraint_10 : decode cX5_addConstraint 10 = .ok (.iload_n 3, 1) := by decide +kernel
theorem dX5_addConstraint_11 : decode cX5_addConstraint 11 = .ok (.invokestatic 214, 3) := by decide +kernel
theorem dX5_addConstraint_14 : decode cX5_addConstraint 14 = .ok (.ifCond .ne 13, 3) := by decide +kernel
theorem dX5_addConstraint_17 : decode cX5_addConstraint 17 = .ok (.new 59, 3) := by decide +kernel
theorem dX5_addConstraint_20 : decode cX5_addConstraint 20 = .ok (.dup, 1) := by decide +kernel
theorem dX5_addConstraint_21 : decode cX5_addConstraint 21 = .ok (.ldc 218, 2) := by decide +kernel
theorem dX5_addConstraint_23 : decode cX5_addConstraint 23 = .ok (.invokespecial 63, 3) := by decide +kernel
theorem dX5_addConstraint_26 : decode cX5_addConstraint 26 = .ok (.athrow, 1) := by decide +kernel
theorem dX5_addConstraint_27 : decode cX5_addConstraint 27 = .ok (.new 22, 3) := by decide +kernel
theorem dX5_addConstraint_30 : decode cX5_addConstraint 30 = .ok (.dup, 1) := by decide +kernel
theorem dX5_addConstraint_31 : decode cX5_addConstraint 31 = .ok (.iload_n 1, 1) := by decide +kernel
theorem dX5_addConstraint_32 : decode cX5_addConstraint 32 = .ok (.iload_n 2, 1) := by decide +kernel
theorem dX5_addConstraint_33 : decode cX5_addConstraint 33 = .ok (.iload_n 3, 1) := by decide +kernel
theorem dX5_addConstraint_34 : decode cX5_addConstraint 34 = .ok (.iload 4, 2) := by decide +kernel
theorem dX5_addConstraint_36 : decode cX5_addConstraint 36 = .ok (.invokespecial 220, 3) := by decide +kernel
theorem dX5_addConstraint_39 : decode cX5_addConstraint 39 = .ok (.astore 5, 2) := by decide +kernel
theorem dX5_addConstraint_41 : decode cX5_addConstraint 41 = .ok (.aload_n 0, 1) := by decide +kernel
theorem dX5_addConstraint_42 : decode cX5_addConstraint 42 = .ok (.getfield 221, 3) := by decide +kernel
theorem dX5_addConstraint_45 : decode cX5_addConstraint 45 = .ok (.iconst 3, 1) := by decide +kernel
theorem dX5_addConstraint_46 : decode cX5_addConstraint 46 = .ok (.if_icmp .ge 18, 3) := by decide +kernel
theorem dX5_addConstraint_49 : decode cX5_addConstraint 49 = .ok (.aload 5, 2) := by decide +kernel
theorem dX5_addConstraint_51 : decode cX5_addConstraint 51 = .ok (.aload_n 0, 1) := by decide +kernel
theorem dX5_addConstraint_52 : decode cX5_addConstraint 52 = .ok (.getfield 10, 3) := by decide +kernel
theorem dX5_addConstraint_55 : decode cX5_addConstraint 55 = .ok (.invokevirtual 172, 3) := by decide +kernel
theorem dX5_addConstraint_58 : decode cX5_addConstraint 58 = .ok (.invokevirtual 224, 3) := by decide +kernel
theorem dX5_addConstraint_61 : decode cX5_addConstraint 61 = .ok (.ifCond .eq 13, 3) := by decide +kernel
theorem dX5_addConstraint_64 : decode cX5_addConstraint 64 = .ok (.new 70, 3) := by decide +kernel
theorem dX5_addConstraint_67 : decode cX5_addConstraint 67 = .ok (.dup, 1) := by decide +kernel
theorem dX5_addConstraint_68 : decode cX5_addConstraint 68 = .ok (.ldc 227, 2) := by decide +kernel
theorem dX5_addConstraint_70 : decode cX5_addConstraint 70 = .ok (.invokespecial 74, 3) := by decide +kernel
theorem dX5_addConstraint_73 : decode cX5_addConstraint 73 = .ok (.athrow, 1) := by decide +kernel
theorem dX5_addConstraint_74 : decode cX5_addConstraint 74 = .ok (.aload_n 0, 1) := by decide +kernel
theorem dX5_addConstraint_75 : decode cX5_addConstraint 75 = .ok (.getfield 24, 3) := by decide +kernel
theorem dX5_addConstraint_78 : decode cX5_addConstraint 78 = .ok (.aload_n 0, 1) := by decide +kernel
theorem dX5_addConstraint_79 : decode cX5_addConstraint 79 = .ok (.getfield 221, 3) := by decide +kernel
theorem dX5_addConstraint_82 : decode cX5_addConstraint 82 = .ok (.aload 5, 2) := by decide +kernel
theorem dX5_addConstraint_84 : decode cX5_addConstraint 84 = .ok (.aastore, 1) := by decide +kernel
theorem dX5_addConstraint_85 : decode cX5_addConstraint 85 = .ok (.aload_n 0, 1) := by decide +kernel
theorem dX5_addConstraint_86 : decode cX5_addConstraint 86 = .ok (.dup, 1) := by decide +kernel
theorem dX5_addConstraint_87 : decode cX5_addConstraint 87 = .ok (.getfield 221, 3) := by decide +kernel
theorem dX5_addConstraint_90 : decode cX5_addConstraint 90 = .ok (.iconst 1, 1) := by decide +kernel
theorem dX5_addConstraint_91 : decode cX5_addConstraint 91 = .ok (.iadd, 1) := by decide +kernel
theorem dX5_addConstraint_92 : decode cX5_addConstraint 92 = .ok (.putfield 221, 3) := by decide +kernel
theorem dX5_addConstraint_95 : decode cX5_addConstraint 95 = .ok (.aload_n 0, 1) := by decide +kernel
theorem dX5_addConstraint_96 : decode cX5_addConstraint 96 = .ok (.getfield 221, 3) := by decide +kernel
theorem dX5_addConstraint_99 : decode cX5_addConstraint 99 = .ok (.iconst 1, 1) := by decide +kernel
theorem dX5_addConstraint_100 : decode cX5_addConstraint 100 = .ok (.isub, 1) := by decide +kernel
theorem dX5_addConstraint_101 : decode cX5_addConstraint 101 = .ok (.ireturn, 1) := by decide +kernel
theorem dX5_clearConstraints_0 : decode cX5_clearConstraints 0 = .ok (.aload_n 0, 1) := by decide +kernel
theorem dX5_clearConstraints_1 : decode cX5_clearConstraints 1 = .ok (.getfield 221, 3) := by decide +kernel
theorem dX5_clearConstraints_4 : decode cX5_clearConstraints 4 = .ok (.istore_n 1, 1) := by decide +kernel
theorem dX5_clearConstraints_5 : decode cX5_clearConstraints 5 = .ok (.aload_n 0, 1) := by decide +kernel
theorem dX5_clearConstraints_6 : decode cX5_clearConstraints 6 = .ok (.iconst 0, 1) := by decide +kernel
theorem dX5_clearConstraints_7 : decode cX5_clearConstraints 7 = .ok (.putfield 221, 3) := by decide +kernel
theorem dX5_clearConstraints_10 : decode cX5_clearConstraints 10 = .ok (.iload_n 1, 1) := by decide +kernel
theorem dX5_clearConstraints_11 : decode cX5_clearConstraints 11 = .ok (.ireturn, 1) := by decide +kernel
theorem dX5_aborts_0 : decode cX5_aborts 0 = .ok (.iload_n 1, 1) := by decide +kernel
theorem dX5_aborts_1 : decode cX5_aborts 1 = .ok (.iconst 1, 1) := by decide +kernel
theorem dX5_aborts_2 : decode cX5_aborts 2 = .ok (.bipush 6, 2) := by decide +kernel
theorem dX5_aborts_4 : decode cX5_aborts 4 = .ok (.invokestatic 55, 3) := by decide +kernel
theorem dX5_aborts_7 : decode cX5_aborts 7 = .ok (.ifCond .ne 13, 3) := by decide +kernel
theorem dX5_aborts_10 : decode cX5_aborts 10 = .ok (.new 59, 3) := by decide +kernel
theorem dX5_aborts_13 : decode cX5_aborts 13 = .ok (.dup, 1) := by decide +kernel
theorem dX5_aborts_14 : decode cX5_aborts 14 = .ok (.ldc 229, 2) := by decide +kernel
theorem dX5_aborts_16 : decode cX5_aborts 16 = .ok (.invokespecial 63, 3) := by decide +kernel
theorem dX5_aborts_19 : decode cX5_aborts 19 = .ok (.athrow, 1) := by decide +kernel
theorem dX5_aborts_20 : decode cX5_aborts 20 = .ok (.iconst 0, 1) := by decide +kernel
theorem dX5_aborts_21 : decode cX5_aborts 21 = .ok (.istore_n 2, 1) := by decide +kernel
theorem dX5_aborts_22 : decode cX5_aborts 22 = .ok (.iconst 0, 1) := by decide +kernel
theorem dX5_aborts_23 : decode cX5_aborts 23 = .ok (.istore_n 3, 1) := by decide +kernel
theorem dX5_aborts_24 : decode cX5_aborts 24 = .ok (.iload_n 3, 1) := by decide +kernel
theorem dX5_aborts_25 : decode cX5_aborts 25 = .ok (.aload_n 0, 1) := by decide +kernel
theorem dX5_aborts_26 : decode cX5_aborts 26 = .ok (.getfield 131, 3) := by decide +kernel
theorem dX5_aborts_29 : decode cX5_aborts 29 = .ok (.if_icmp .ge 43, 3) := by decide +kernel
theorem dX5_aborts_32 : decode cX5_aborts 32 = .ok (.aload_n 0, 1) := by decide +kernel
theorem dX5_aborts_33 : decode cX5_aborts 33 = .ok (.getfield 18, 3) := by decide +kernel
theorem dX5_aborts_36 : decode cX5_aborts 36 = .ok (.iload_n 3, 1) := by decide +kernel
theorem dX5_aborts_37 : decode cX5_aborts 37 = .ok (.aaload, 1) := by decide +kernel
theorem dX5_aborts_38 : decode cX5_aborts 38 = .ok (.astore 4, 2) := by decide +kernel
theorem dX5_aborts_40 : decode cX5_aborts 40 = .ok (.aload 4, 2) := by decide +kernel
theorem dX5_aborts_42 : decode cX5_aborts 42 = .ok (.ifnull 24, 3) := by decide +kernel
theorem dX5_aborts_45 : decode cX5_aborts 45 = .ok (.aload 4, 2) := by decide +kernel
theorem dX5_aborts_47 : decode cX5_aborts 47 = .ok (.getfield 91, 3) := by decide +kernel
theorem dX5_aborts_50 : decode cX5_aborts 50 = .ok (.iconst 2, 1) := by decide +kernel
theorem dX5_aborts_51 : decode cX5_aborts 51 = .ok (.if_icmp .ne 15, 3) := by decide +kernel
theorem dX5_aborts_54 : decode cX5_aborts 54 = .ok (.aload 4, 2) := by decide +kernel
theorem dX5_aborts_56 : decode cX5_aborts 56 = .ok (.getfield 141, 3) := by decide +kernel
theorem dX5_aborts_59 : decode cX5_aborts 59 = .ok (.iload_n 1, 1) := by decide +kernel
theorem dX5_aborts_60 : decode cX5_aborts 60 = .ok (.if_icmp .ne 6, 3) := by decide +kernel
theorem dX5_aborts_63 : decode cX5_aborts 63 = .ok (.iinc 2 1, 3) := by decide +kernel
theorem dX5_aborts_66 : decode cX5_aborts 66 = .ok (.iinc 3 1, 3) := by decide +kernel
theorem dX5_aborts_69 : decode cX5_aborts 69 = .ok (.goto (-45), 3) := by decide +kernel
theorem dX5_aborts_72 : decode cX5_aborts 72 = .ok (.iload_n 2, 1) := by decide +kernel
theorem dX5_aborts_73 : decode cX5_aborts 73 = .ok (.ireturn, 1) := by decide +kernel
theorem dX5_averageAttempts_0 : decode cX5_averageAttempts 0 = .ok (.aload_n 0, 1) := by decide +kernel
theorem dX5_averageAttempts_1 : decode cX5_averageAttempts 1 = .ok (.iconst 1, 1) := by decide +kernel
theorem dX5_averageAttempts_2 : decode cX5_averageAttempts 2 = .ok (.invokevirtual 66, 3) := by decide +kernel
theorem dX5_averageAttempts_5 : decode cX5_averageAttempts 5 = .ok (.istore_n 1, 1) := by decide +kernel
theorem dX5_averageAttempts_6 : decode cX5_averageAttempts 6 = .ok (.iload_n 1, 1) := by decide +kernel
theorem dX5_averageAttempts_7 : decode cX5_averageAttempts 7 = .ok (.ifCond .ne 13, 3) := by decide +kernel
theorem dX5_averageAttempts_10 : decode cX5_averageAttempts 10 = .ok (.new 231, 3) := by decide +kernel
theorem dX5_averageAttempts_13 : decode cX5_averageAttempts 13 = .ok (.dup, 1) := by decide +kernel
theorem dX5_averageAttempts_14 : decode cX5_averageAttempts 14 = .ok (.ldc 233, 2) := by decide +kernel
theorem dX5_averageAttempts_16 : decode cX5_averageAttempts 16 = .ok (.invokespecial 235, 3) := by decide +kernel
theorem dX5_averageAttempts_19 : decode cX5_averageAttempts 19 = .ok (.athrow, 1) := by decide +kernel
theorem dX5_averageAttempts_20 : decode cX5_averageAttempts 20 = .ok (.iconst 0, 1) := by decide +kernel
theorem dX5_averageAttempts_21 : decode cX5_averageAttempts 21 = .ok (.istore_n 2, 1) := by decide +kernel
theorem dX5_averageAttempts_22 : decode cX5_averageAttempts 22 = .ok (.iconst 0, 1) := by decide +kernel
theorem dX5_averageAttempts_23 : decode cX5_averageAttempts 23 = .ok (.istore_n 3, 1) := by decide +kernel
theorem dX5_averageAttempts_24 : decode cX5_averageAttempts 24 = .ok (.iload_n 3, 1) := by decide +kernel
theorem dX5_averageAttempts_25 : decode cX5_averageAttempts 25 = .ok (.aload_n 0, 1) := by decide +kernel
theorem dX5_averageAttempts_26 : decode cX5_averageAttempts 26 = .ok (.getfield 131, 3) := by decide +kernel
theorem dX5_averageAttempts_29 : decode cX5_averageAttempts 29 = .ok (.if_icmp .ge 39, 3) := by decide +kernel
theorem dX5_averageAttempts_32 : decode cX5_averageAttempts 32 = .ok (.aload_n 0, 1) := by decide +kernel
theorem dX5_averageAttempts_33 : decode cX5_averageAttempts 33 = .ok (.getfield 18, 3) := by decide +kernel
theorem dX5_averageAttempts_36 : decode cX5_averageAttempts 36 = .ok (.iload_n 3, 1) := by decide +kernel
theorem dX5_averageAttempts_37 : decode cX5_averageAttempts 37 = .ok (.aaload, 1) := by decide +kernel
theorem dX5_averageAttempts_38 : decode cX5_averageAttempts 38 = .ok (.astore 4, 2) := by decide +kernel
theorem dX5_averageAttempts_40 : decode cX5_averageAttempts 40 = .ok (.aload 4, 2) := by decide +kernel
theorem dX5_averageAttempts_42 : decode cX5_averageAttempts 42 = .ok (.ifnull 20, 3) := by decide +kernel
theorem dX5_averageAttempts_45 : decode cX5_averageAttempts 45 = .ok (.aload 4, 2) := by decide +kernel
theorem dX5_averageAttempts_47 : decode cX5_averageAttempts 47 = .ok (.getfield 91, 3) := by decide +kernel
theorem dX5_averageAttempts_50 : decode cX5_averageAttempts 50 = .ok (.iconst 1, 1) := by decide +kernel
theorem dX5_averageAttempts_51 : decode cX5_averageAttempts 51 = .ok (.if_icmp .ne 11, 3) := by decide +kernel
theorem dX5_averageAttempts_54 : decode cX5_averageAttempts 54 = .ok (.iload_n 2, 1) := by decide +kernel
theorem dX5_averageAttempts_55 : decode cX5_averageAttempts 55 = .ok (.aload 4, 2) := by decide +kernel
theorem dX5_averageAttempts_57 : decode cX5_averageAttempts 57 = .ok (.getfield 100, 3) := by decide +kernel
theorem dX5_averageAttempts_60 : decode cX5_averageAttempts 60 = .ok (.iadd, 1) := by decide +kernel
theorem dX5_averageAttempts_61 : decode cX5_averageAttempts 61 = .ok (.istore_n 2, 1) := by decide +kernel
theorem dX5_averageAttempts_62 : decode cX5_averageAttempts 62 = .ok (.iinc 3 1, 3) := by decide +kernel
theorem dX5_averageAttempts_65 : decode cX5_averageAttempts 65 = .ok (.goto (-41), 3) := by decide +kernel
theorem dX5_averageAttempts_68 : decode cX5_averageAttempts 68 = .ok (.iload_n 2, 1) := by decide +kernel
theorem dX5_averageAttempts_69 : decode cX5_averageAttempts 69 = .ok (.i2d, 1) := by decide +kernel
theorem dX5_averageAttempts_70 : decode cX5_averageAttempts 70 = .ok (.iload_n 1, 1) := by decide +kernel
theorem dX5_averageAttempts_71 : decode cX5_averageAttempts 71 = .ok (.i2d, 1) := by decide +kernel
theorem dX5_averageAttempts_72 : decode cX5_averageAttempts 72 = .ok (.ddiv, 1) := by decide +kernel
theorem dX5_averageAttempts_73 : decode cX5_averageAttempts 73 = .ok (.dreturn, 1) := by decide +kernel
theorem dX5_abortRate_0 : decode cX5_abortRate 0 = .ok (.aload_n 0, 1) := by decide +kernel
theorem dX5_abortRate_1 : decode cX5_abortRate 1 = .ok (.getfield 131, 3) := by decide +kernel
theorem dX5_abortRate_4 : decode cX5_abortRate 4 = .ok (.aload_n 0, 1) := by decide +kernel
theorem dX5_abortRate_5 : decode cX5_abortRate 5 = .ok (.iconst 0, 1) := by decide +kernel
theorem dX5_abortRate_6 : decode cX5_abortRate 6 = .ok (.invokevirtual 66, 3) := by decide +kernel
theorem dX5_abortRate_9 : decode cX5_abortRate 9 = .ok (.isub, 1) := by decide +kernel
theorem dX5_abortRate_10 : decode cX5_abortRate 10 = .ok (.istore_n 1, 1) := by decide +kernel
theorem dX5_abortRate_11 : decode cX5_abortRate 11 = .ok (.iload_n 1, 1) := by decide +kernel
theorem dX5_abortRate_12 : decode cX5_abortRate 12 = .ok (.ifCond .ne 13, 3) := by decide +kernel
theorem dX5_abortRate_15 : decode cX5_abortRate 15 = .ok (.new 231, 3) := by decide +kernel
theorem dX5_abortRate_18 : decode cX5_abortRate 18 = .ok (.dup, 1) := by decide +kernel
theorem dX5_abortRate_19 : decode cX5_abortRate 19 = .ok (.ldc 236, 2) := by decide +kernel
theorem dX5_abortRate_21 : decode cX5_abortRate 21 = .ok (.invokespecial 235, 3) := by decide +kernel
theorem dX5_abortRate_24 : decode cX5_abortRate 24 = .ok (.athrow, 1) := by decide +kernel
theorem dX5_abortRate_25 : decode cX5_abortRate 25 = .ok (.aload_n 0, 1) := by decide +kernel
theorem dX5_abortRate_26 : decode cX5_abortRate 26 = .ok (.iconst 2, 1) := by decide +kernel
theorem dX5_abortRate_27 : decode cX5_abortRate 27 = .ok (.invokevirtual 66, 3) := by decide +kernel
theorem dX5_abortRate_30 : decode cX5_abortRate 30 = .ok (.i2f, 1) := by decide +kernel
theorem dX5_abortRate_31 : decode cX5_abortRate 31 = .ok (.iload_n 1, 1) := by decide +kernel
theorem dX5_abortRate_32 : decode cX5_abortRate 32 = .ok (.i2f, 1) := by decide +kernel
theorem dX5_abortRate_33 : decode cX5_abortRate 33 = .ok (.fdiv, 1) := by decide +kernel
theorem dX5_abortRate_34 : decode cX5_abortRate 34 = .ok (.freturn, 1) := by decide +kernel
theorem dX5_appendCharacter_0 : decode cX5_appendCharacter 0 = .ok (.iload_n 1, 1) := by decide +kernel
theorem dX5_appendCharacter_1 : decode cX5_appendCharacter 1 = .ok (.bipush 33, 2) := by decide +kernel
theorem dX5_appendCharacter_3 : decode cX5_appendCharacter 3 = .ok (.bipush 126, 2) := by decide +kernel
theorem dX5_appendCharacter_5 : decode cX5_appendCharacter 5 = .ok (.invokestatic 55, 3) := by decide +kernel
theorem dX5_appendCharacter_8 : decode cX5_appendCharacter 8 = .ok (.ifCond .ne 13, 3) := by decide +kernel
theorem dX5_appendCharacter_11 : decode cX5_appendCharacter 11 = .ok (.new 59, 3) := by decide +kernel
theorem dX5_appendCharacter_14 : decode cX5_appendCharacter 14 = .ok (.dup, 1) := by decide +kernel
theorem dX5_appendCharacter_15 : decode cX5_appendCharacter 15 = .ok (.ldc 238, 2) := by decide +kernel
theorem dX5_appendCharacter_17 : decode cX5_appendCharacter 17 = .ok (.invokespecial 63, 3) := by decide +kernel
theorem dX5_appendCharacter_20 : decode cX5_appendCharacter 20 = .ok (.athrow, 1) := by decide +kernel
theorem dX5_appendCharacter_21 : decode cX5_appendCharacter 21 = .ok (.aload_n 0, 1) := by decide +kernel
theorem dX5_appendCharacter_22 : decode cX5_appendCharacter 22 = .ok (.getfield 31, 3) := by decide +kernel
theorem dX5_appendCharacter_25 : decode cX5_appendCharacter 25 = .ok (.getfield 240, 3) := by decide +kernel
theorem dX5_appendCharacter_28 : decode cX5_appendCharacter 28 = .ok (.bipush 60, 2) := by decide +kernel
theorem dX5_appendCharacter_30 : decode cX5_appendCharacter 30 = .ok (.if_icmp .lt 13, 3) := by decide +kernel
theorem dX5_appendCharacter_33 : decode cX5_appendCharacter 33 = .ok (.new 70, 3) := by decide +kernel
theorem dX5_appendCharacter_36 : decode cX5_appendCharacter 36 = .ok (.dup, 1) := by decide +kernel
theorem dX5_appendCharacter_37 : decode cX5_appendCharacter 37 = .ok (.ldc 243, 2) := by decide +kernel
theorem dX5_appendCharacter_39 : decode cX5_appendCharacter 39 = .ok (.invokespecial 74, 3) := by decide +kernel
theorem dX5_appendCharacter_42 : decode cX5_appendCharacter 42 = .ok (.athrow, 1) := by decide +kernel
theorem dX5_appendCharacter_43 : decode cX5_appendCharacter 43 = .ok (.aload_n 0, 1) := by decide +kernel
theorem dX5_appendCharacter_44 : decode cX5_appendCharacter 44 = .ok (.getfield 31, 3) := by decide +kernel
theorem dX5_appendCharacter_47 : decode cX5_appendCharacter 47 = .ok (.iload_n 1, 1) := by decide +kernel
theorem dX5_appendCharacter_48 : decode cX5_appendCharacter 48 = .ok (.i2c, 1) := by decide +kernel
theorem dX5_appendCharacter_49 : decode cX5_appendCharacter 49 = .ok (.invokevirtual 245, 3) := by decide +kernel
theorem dX5_appendCharacter_52 : decode cX5_appendCharacter 52 = .ok (.ireturn, 1) := by decide +kernel
theorem dX5_runScript_0 : decode cX5_runScript 0 = .ok (.aload_n 0, 1) := by decide +kernel
theorem dX5_runScript_1 : decode cX5_runScript 1 = .ok (.getfield 31, 3) := by decide +kernel
theorem dX5_runScript_4 : decode cX5_runScript 4 = .ok (.invokevirtual 249, 3) := by decide +kernel
theorem dX5_runScript_7 : decode cX5_runScript 7 = .ok (.ifCond .ne 13, 3) := by decide +kernel
theorem dX5_runScript_10 : decode cX5_runScript 10 = .ok (.new 59, 3) := by decide +kernel
theorem dX5_runScript_13 : decode cX5_runScript 13 = .ok (.dup, 1) := by decide +kernel
theorem dX5_runScript_14 : decode cX5_runScript 14 = .ok (.ldc 252, 2) := by decide +kernel
theorem dX5_runScript_16 : decode cX5_runScript 16 = .ok (.invokespecial 63, 3) := by decide +kernel
theorem dX5_runScript_19 : decode cX5_runScript 19 = .ok (.athrow, 1) := by decide +kernel
theorem dX5_runScript_20 : decode cX5_runScript 20 = .ok (.aload_n 0, 1) := by decide +kernel
theorem dX5_runScript_21 : decode cX5_runScript 21 = .ok (.invokevirtual 75, 3) := by decide +kernel
theorem dX5_runScript_24 : decode cX5_runScript 24 = .ok (.ifCond .eq 13, 3) := by decide +kernel
theorem dX5_runScript_27 : decode cX5_runScript 27 = .ok (.aload_n 0, 1) := by decide +kernel
theorem dX5_runScript_28 : decode cX5_runScript 28 = .ok (.getfield 10, 3) := by decide +kernel
theorem dX5_runScript_31 : decode cX5_runScript 31 = .ok (.invokevirtual 112, 3) := by decide +kernel
theorem dX5_runScript_34 : decode cX5_runScript 34 = .ok (.ifCond .eq 13, 3) := by decide +kernel
theorem dX5_runScript_37 : decode cX5_runScript 37 = .ok (.new 70, 3) := by decide +kernel
theorem dX5_runScript_40 : decode cX5_runScript 40 = .ok (.dup, 1) := by decide +kernel
theorem dX5_runScript_41 : decode cX5_runScript 41 = .ok (.ldc 254, 2) := by decide +kernel
theorem dX5_runScript_43 : decode cX5_runScript 43 = .ok (.invokespecial 74, 3) := by decide +kernel
theorem dX5_runScript_46 : decode cX5_runScript 46 = .ok (.athrow, 1) := by decide +kernel
theorem dX5_runScript_47 : decode cX5_runScript 47 = .ok (.aload_n 0, 1) := by decide +kernel
theorem dX5_runScript_48 : decode cX5_runScript 48 = .ok (.iconst 1, 1) := by decide +kernel
theorem dX5_runScript_49 : decode cX5_runScript 49 = .ok (.invokevirtual 81, 3) := by decide +kernel
theorem dX5_runScript_52 : decode cX5_runScript 52 = .ok (.astore_n 1, 1) := by decide +kernel
theorem dX5_runScript_53 : decode cX5_runScript 53 = .ok (.aload_n 0, 1) := by decide +kernel
theorem dX5_runScript_54 : decode cX5_runScript 54 = .ok (.aload_n 1, 1) := by decide +kernel
theorem dX5_runScript_55 : decode cX5_runScript 55 = .ok (.invokevirtual 256, 3) := by decide +kernel
theorem dX5_runScript_58 : decode cX5_runScript 58 = .ok (.ifCond .eq 11, 3) := by decide +kernel
theorem dX5_runScript_61 : decode cX5_runScript 61 = .ok (.aload_n 0, 1) := by decide +kernel
theorem dX5_runScript_62 : decode cX5_runScript 62 = .ok (.aload_n 1, 1) := by decide +kernel
theorem dX5_runScript_63 : decode cX5_runScript 63 = .ok (.invokevirtual 117, 3) := by decide +kernel
theorem dX5_runScript_66 : decode cX5_runScript 66 = .ok (.goto 5, 3) := by decide +kernel
theorem dX5_runScript_69 : decode cX5_runScript 69 = .ok (.bipush (-2), 2) := by decide +kernel
theorem dX5_runScript_71 : decode cX5_runScript 71 = .ok (.ireturn, 1) := by decide +kernel
theorem dX5_faultPosition_0 : decode cX5_faultPosition 0 = .ok (.aload_n 0, 1) := by decide +kernel
theorem dX5_faultPosition_1 : decode cX5_faultPosition 1 = .ok (.getfield 31, 3) := by decide +kernel
theorem dX5_faultPosition_4 : decode cX5_faultPosition 4 = .ok (.getfield 260, 3) := by decide +kernel
theorem dX5_faultPosition_7 : decode cX5_faultPosition 7 = .ok (.ireturn, 1) := by decide +kernel
theorem dX5_isBetween_0 : decode cX5_isBetween 0 = .ok (.iload_n 0, 1) := by decide +kernel
theorem dX5_isBetween_1 : decode cX5_isBetween 1 = .ok (.iload_n 1, 1) := by decide +kernel
theorem dX5_isBetween_2 : decode cX5_isBetween 2 = .ok (.if_icmp .lt 12, 3) := by decide +kernel
theorem dX5_isBetween_5 : decode cX5_isBetween 5 = .ok (.iload_n 0, 1) := by decide +kernel
theorem dX5_isBetween_6 : decode cX5_isBetween 6 = .ok (.iload_n 2, 1) := by decide +kernel
theorem dX5_isBetween_7 : decode cX5_isBetween 7 = .ok (.if_icmp .gt 7, 3) := by decide +kernel
theorem dX5_isBetween_10 : decode cX5_isBetween 10 = .ok (.iconst 1, 1) := by decide +kernel
theorem dX5_isBetween_11 : decode cX5_isBetween 11 = .ok (.goto 4, 3) := by decide +kernel
theorem dX5_isBetween_14 : decode cX5_isBetween 14 = .ok (.iconst 0, 1) := by decide +kernel
theorem dX5_isBetween_15 : decode cX5_isBetween 15 = .ok (.ireturn, 1) := by decide +kernel
theorem dX5_isRange_0 : decode cX5_isRange 0 = .ok (.iload_n 0, 1) := by decide +kernel
theorem dX5_isRange_1 : decode cX5_isRange 1 = .ok (.ifCond .lt 18, 3) := by decide +kernel
theorem dX5_isRange_4 : decode cX5_isRange 4 = .ok (.iload_n 0, 1) := by decide +kernel
theorem dX5_isRange_5 : decode cX5_isRange 5 = .ok (.iload_n 1, 1) := by decide +kernel
theorem dX5_isRange_6 : decode cX5_isRange 6 = .ok (.if_icmp .gt 13, 3) := by decide +kernel
theorem dX5_isRange_9 : decode cX5_isRange 9 = .ok (.iload_n 1, 1) := by decide +kernel
theorem dX5_isRange_10 : decode cX5_isRange 10 = .ok (.bipush 32, 2) := by decide +kernel
theorem dX5_isRange_12 : decode cX5_isRange 12 = .ok (.if_icmp .ge 7, 3) := by decide +kernel
theorem dX5_isRange_15 : decode cX5_isRange 15 = .ok (.iconst 1, 1) := by decide +kernel
theorem dX5_isRange_16 : decode cX5_isRange 16 = .ok (.goto 4, 3) := by decide +kernel
theorem dX5_isRange_19 : decode cX5_isRange 19 = .ok (.iconst 0, 1) := by decide +kernel
theorem dX5_isRange_20 : decode cX5_isRange 20 = .ok (.ireturn, 1) := by decide +kernel
theorem dX5_totalIn_0 : decode cX5_totalIn 0 = .ok (.iconst 0, 1) := by decide +kernel
theorem dX5_totalIn_1 : decode cX5_totalIn 1 = .ok (.istore_n 3, 1) := by decide +kernel
theorem dX5_totalIn_2 : decode cX5_totalIn 2 = .ok (.iload_n 1, 1) := by decide +kernel
theorem dX5_totalIn_3 : decode cX5_totalIn 3 = .ok (.istore 4, 2) := by decide +kernel
theorem dX5_totalIn_5 : decode cX5_totalIn 5 = .ok (.iload 4, 2) := by decide +kernel
theorem dX5_totalIn_7 : decode cX5_totalIn 7 = .ok (.iload_n 2, 1) := by decide +kernel
theorem dX5_totalIn_8 : decode cX5_totalIn 8 = .ok (.if_icmp .gt 26, 3) := by decide +kernel
theorem dX5_totalIn_11 : decode cX5_totalIn 11 = .ok (.aload_n 0, 1) := by decide +kernel
theorem dX5_totalIn_12 : decode cX5_totalIn 12 = .ok (.iload 4, 2) := by decide +kernel
theorem dX5_totalIn_14 : decode cX5_totalIn 14 = .ok (.iaload, 1) := by decide +kernel
theorem dX5_totalIn_15 : decode cX5_totalIn 15 = .ok (.sipush (-1000), 3) := by decide +kernel
theorem dX5_totalIn_18 : decode cX5_totalIn 18 = .ok (.if_icmp .eq 10, 3) := by decide +kernel
theorem dX5_totalIn_21 : decode cX5_totalIn 21 = .ok (.iload_n 3, 1) := by decide +kernel
theorem dX5_totalIn_22 : decode cX5_totalIn 22 = .ok (.aload_n 0, 1) := by decide +kernel
theorem dX5_totalIn_23 : decode cX5_totalIn 23 = .ok (.iload 4, 2) := by decide +kernel
theorem dX5_totalIn_25 : decode cX5_totalIn 25 = .ok (.iaload, 1) := by decide +kernel
theorem dX5_totalIn_26 : decode cX5_totalIn 26 = .ok (.iadd, 1) := by decide +kernel
theorem dX5_totalIn_27 : decode cX5_totalIn 27 = .ok (.istore_n 3, 1) := by decide +kernel
theorem dX5_totalIn_28 : decode cX5_totalIn 28 = .ok (.iinc 4 1, 3) := by decide +kernel
theorem dX5_totalIn_31 : decode cX5_totalIn 31 = .ok (.goto (-26), 3) := by decide +kernel
theorem dX5_totalIn_34 : decode cX5_totalIn 34 = .ok (.iload_n 3, 1) := by decide +kernel
theorem dX5_totalIn_35 : decode cX5_totalIn 35 = .ok (.ireturn, 1) := by decide +kernel
theorem dX5_countIn_0 : decode cX5_countIn 0 = .ok (.iconst 0, 1) := by decide +kernel
theorem dX5_countIn_1 : decode cX5_countIn 1 = .ok (.istore 4, 2) := by decide +kernel
theorem dX5_countIn_3 : decode cX5_countIn 3 = .ok (.iload_n 1, 1) := by decide +kernel
theorem dX5_countIn_4 : decode cX5_countIn 4 = .ok (.istore 5, 2) := by decide +kernel
theorem dX5_countIn_6 : decode cX5_countIn 6 = .ok (.iload 5, 2) := by decide +kernel
theorem dX5_countIn_8 : decode cX5_countIn 8 = .ok (.iload_n 2, 1) := by decide +kernel
theorem dX5_countIn_9 : decode cX5_countIn 9 = .ok (.if_icmp .gt 30, 3) := by decide +kernel
theorem dX5_countIn_12 : decode cX5_countIn 12 = .ok (.aload_n 0, 1) := by decide +kernel
theorem dX5_countIn_13 : decode cX5_countIn 13 = .ok (.iload 5, 2) := by decide +kernel
theorem dX5_countIn_15 : decode cX5_countIn 15 = .ok (.iaload, 1) := by decide +kernel
theorem dX5_countIn_16 : decode cX5_countIn 16 = .ok (.sipush (-1000), 3) := by decide +kernel
theorem dX5_countIn_19 : decode cX5_countIn 19 = .ok (.if_icmp .eq 14, 3) := by decide +kernel
theorem dX5_countIn_22 : decode cX5_countIn 22 = .ok (.aload_n 0, 1) := by decide +kernel
theorem dX5_countIn_23 : decode cX5_countIn 23 = .ok (.iload 5, 2) := by decide +kernel
theorem dX5_countIn_25 : decode cX5_countIn 25 = .ok (.iaload, 1) := by decide +kernel
theorem dX5_countIn_26 : decode cX5_countIn 26 = .ok (.iload_n 3, 1) := by decide +kernel
theorem dX5_countIn_27 : decode cX5_countIn 27 = .ok (.if_icmp .lt 6, 3) := by decide +kernel
theorem dX5_countIn_30 : decode cX5_countIn 30 = .ok (.iinc 4 1, 3) := by decide +kernel
theorem dX5_countIn_33 : decode cX5_countIn 33 = .ok (.iinc 5 1, 3) := by decide +kernel
theorem dX5_countIn_36 : decode cX5_countIn 36 = .ok (.goto (-30), 3) := by decide +kernel
theorem dX5_countIn_39 : decode cX5_countIn 39 = .ok (.iload 4, 2) := by decide +kernel
theorem dX5_countIn_41 : decode cX5_countIn 41 = .ok (.ireturn, 1) := by decide +kernel
theorem dX5_requireKey_0 : decode cX5_requireKey 0 = .ok (.iload_n 0, 1) := by decide +kernel
theorem dX5_requireKey_1 : decode cX5_requireKey 1 = .ok (.iload_n 0, 1) := by decide +kernel
theorem dX5_requireKey_2 : decode cX5_requireKey 2 = .ok (.invokestatic 214, 3) := by decide +kernel
theorem dX5_requireKey_5 : decode cX5_requireKey 5 = .ok (.ifCond .ne 14, 3) := by decide +kernel
theorem dX5_requireKey_8 : decode cX5_requireKey 8 = .ok (.new 59, 3) := by decide +kernel
theorem dX5_requireKey_11 : decode cX5_requireKey 11 = .ok (.dup, 1) := by decide +kernel
theorem dX5_requireKey_12 : decode cX5_requireKey 12 = .ok (.ldc_w 263, 3) := by decide +kernel
theorem dX5_requireKey_15 : decode cX5_requireKey 15 = .ok (.invokespecial 63, 3) := by decide +kernel
theorem dX5_requireKey_18 : decode cX5_requireKey 18 = .ok (.athrow, 1) := by decide +kernel
theorem dX5_requireKey_19 : decode cX5_requireKey 19 = .ok (.return_, 1) := by decide +kernel
theorem dX5_requireCommit_0 : decode cX5_requireCommit 0 = .ok (.iload_n 1, 1) := by decide +kernel
theorem dX5_requireCommit_1 : decode cX5_requireCommit 1 = .ok (.iload_n 2, 1) := by decide +kernel
theorem dX5_requireCommit_2 : decode cX5_requireCommit 2 = .ok (.aload_n 0, 1) := by decide +kernel
theorem dX5_requireCommit_3 : decode cX5_requireCommit 3 = .ok (.getfield 10, 3) := by decide +kernel
theorem dX5_requireCommit_6 : decode cX5_requireCommit 6 = .ok (.getfield 128, 3) := by decide +kernel
theorem dX5_requireCommit_9 : decode cX5_requireCommit 9 = .ok (.invokestatic 55, 3) := by decide +kernel
theorem dX5_requireCommit_12 : decode cX5_requireCommit 12 = .ok (.ifCond .ne 14, 3) := by decide +kernel
theorem dX5_requireCommit_15 : decode cX5_requireCommit 15 = .ok (.new 265, 3) := by decide +kernel
theorem dX5_requireCommit_18 : decode cX5_requireCommit 18 = .ok (.dup, 1) := by decide +kernel
theorem dX5_requireCommit_19 : decode cX5_requireCommit 19 = .ok (.ldc_w 267, 3) := by decide +kernel
theorem dX5_requireCommit_22 : decode cX5_requireCommit 22 = .ok (.invokespecial 269, 3) := by decide +kernel
theorem dX5_requireCommit_25 : decode cX5_requireCommit 25 = .ok (.athrow, 1) := by decide +kernel
theorem dX5_requireCommit_26 : decode cX5_requireCommit 26 = .ok (.return_, 1) := by decide +kernel
theorem dX5_find_0 : decode cX5_find 0 = .ok (.iload_n 1, 1) := by decide +kernel
theorem dX5_find_1 : decode cX5_find 1 = .ok (.ifCond .lt 20, 3) := by decide +kernel
theorem dX5_find_4 : decode cX5_find 4 = .ok (.iload_n 1, 1) := by decide +kernel
theorem dX5_find_5 : decode cX5_find 5 = .ok (.aload_n 0, 1) := by decide +kernel
theorem dX5_find_6 : decode cX5_find 6 = .ok (.getfield 131, 3) := by decide +kernel
theorem dX5_find_9 : decode cX5_find 9 = .ok (.if_icmp .ge 12, 3) := by decide +kernel
theorem dX5_find_12 : decode cX5_find 12 = .ok (.aload_n 0, 1) := by decide +kernel
theorem dX5_find_13 : decode cX5_find 13 = .ok (.getfield 18, 3) := by decide +kernel
theorem dX5_find_16 : decode cX5_find 16 = .ok (.iload_n 1, 1) := by decide +kernel
theorem dX5_find_17 : decode cX5_find 17 = .ok (.aaload, 1) := by decide +kernel
theorem dX5_find_18 : decode cX5_find 18 = .ok (.goto 4, 3) := by decide +kernel
theorem dX5_find_21 : decode cX5_find 21 = .ok (.aconst_null, 1) := by decide +kernel
theorem dX5_find_22 : decode cX5_find 22 = .ok (.astore_n 2, 1) := by decide +kernel
theorem dX5_find_23 : decode cX5_find 23 = .ok (.aload_n 2, 1) := by decide +kernel
theorem dX5_find_24 : decode cX5_find 24 = .ok (.ifnonnull 14, 3) := by decide +kernel
theorem dX5_find_27 : decode cX5_find 27 = .ok (.new 265, 3) := by decide +kernel
theorem dX5_find_30 : decode cX5_find 30 = .ok (.dup, 1) := by decide +kernel
theorem dX5_find_31 : decode cX5_find 31 = .ok (.ldc_w 270, 3) := by decide +kernel
theorem dX5_find_34 : decode cX5_find 34 = .ok (.invokespecial 269, 3) := by decide +kernel
theorem dX5_find_37 : decode cX5_find 37 = .ok (.athrow, 1) := by decide +kernel
theorem dX5_find_38 : decode cX5_find 38 = .ok (.aload_n 2, 1) := by decide +kernel
theorem dX5_find_39 : decode cX5_find 39 = .ok (.areturn, 1) := by decide +kernel
theorem dX5_findActive_0 : decode cX5_findActive 0 = .ok (.aload_n 0, 1) := by decide +kernel
theorem dX5_findActive_1 : decode cX5_findActive 1 = .ok (.iload_n 1, 1) := by decide +kernel
theorem dX5_findActive_2 : decode cX5_findActive 2 = .ok (.invokevirtual 88, 3) := by decide +kernel
theorem dX5_findActive_5 : decode cX5_findActive 5 = .ok (.astore_n 2, 1) := by decide +kernel
theorem dX5_findActive_6 : decode cX5_findActive 6 = .ok (.aload_n 2, 1) := by decide +kernel
theorem dX5_findActive_7 : decode cX5_findActive 7 = .ok (.getfield 91, 3) := by decide +kernel
theorem dX5_findActive_10 : decode cX5_findActive 10 = .ok (.ifCond .eq 14, 3) := by decide +kernel
theorem dX5_findActive_13 : decode cX5_findActive 13 = .ok (.new 70, 3) := by decide +kernel
theorem dX5_findActive_16 : decode cX5_findActive 16 = .ok (.dup, 1) := by decide +kernel
theorem dX5_findActive_17 : decode cX5_findActive 17 = .ok (.ldc_w 272, 3) := by decide +kernel
theorem dX5_findActive_20 : decode cX5_findActive 20 = .ok (.invokespecial 74, 3) := by decide +kernel
theorem dX5_findActive_23 : decode cX5_findActive 23 = .ok (.athrow, 1) := by decide +kernel
theorem dX5_findActive_24 : decode cX5_findActive 24 = .ok (.aload_n 2, 1) := by decide +kernel
theorem dX5_findActive_25 : decode cX5_findActive 25 = .ok (.areturn, 1) := by decide +kernel
theorem dX5_countInState_0 : decode cX5_countInState 0 = .ok (.iconst 0, 1) := by decide +kernel
theorem dX5_countInState_1 : decode cX5_countInState 1 = .ok (.istore_n 2, 1) := by decide +kernel
theorem dX5_countInState_2 : decode cX5_countInState 2 = .ok (.iconst 0, 1) := by decide +kernel
theorem dX5_countInState_3 : decode cX5_countInState 3 = .ok (.istore_n 3, 1) := by decide +kernel
theorem dX5_countInState_4 : decode cX5_countInState 4 = .ok (.iload_n 3, 1) := by decide +kernel
theorem dX5_countInState_5 : decode cX5_countInState 5 = .ok (.aload_n 0, 1) := by decide +kernel
theorem dX5_countInState_6 : decode cX5_countInState 6 = .ok (.getfield 131, 3) := by decide +kernel
theorem dX5_countInState_9 : decode cX5_countInState 9 = .ok (.if_icmp .ge 34, 3) := by decide +kernel
theorem dX5_countInState_12 : decode cX5_countInState 12 = .ok (.aload_n 0, 1) := by decide +kernel
theorem dX5_countInState_13 : decode cX5_countInState 13 = .ok (.getfield 18, 3) := by decide +kernel
theorem dX5_countInState_16 : decode cX5_countInState 16 = .ok (.iload_n 3, 1) := by decide +kernel
theorem dX5_countInState_17 : decode cX5_countInState 17 = .ok (.aaload, 1) := by decide +kernel
theorem dX5_countInState_18 : decode cX5_countInState 18 = .ok (.astore 4, 2) := by decide +kernel
theorem dX5_countInState_20 : decode cX5_countInState 20 = .ok (.aload 4, 2) := by decide +kernel
theorem dX5_countInState_22 : decode cX5_countInState 22 = .ok (.ifnull 15, 3) := by decide +kernel
theorem dX5_countInState_25 : decode cX5_countInState 25 = .ok (.aload 4, 2) := by decide +kernel
theorem dX5_countInState_27 : decode cX5_countInState 27 = .ok (.getfield 91, 3) := by decide +kernel
theorem dX5_countInState_30 : decode cX5_countInState 30 = .ok (.iload_n 1, 1) := by decide +kernel
theorem dX5_countInState_31 : decode cX5_countInState 31 = .ok (.if_icmp .ne 6, 3) := by decide +kernel
theorem dX5_countInState_34 : decode cX5_countInState 34 = .ok (.iinc 2 1, 3) := by decide +kernel
theorem dX5_countInState_37 : decode cX5_countInState 37 = .ok (.iinc 3 1, 3) := by decide +kernel
theorem dX5_countInState_40 : decode cX5_countInState 40 = .ok (.goto (-36), 3) := by decide +kernel
theorem dX5_countInState_43 : decode cX5_countInState 43 = .ok (.iload_n 2, 1) := by decide +kernel
theorem dX5_countInState_44 : decode cX5_countInState 44 = .ok (.ireturn, 1) := by decide +kernel
theorem dX5_canStart_0 : decode cX5_canStart 0 = .ok (.aload_n 0, 1) := by decide +kernel
theorem dX5_canStart_1 : decode cX5_canStart 1 = .ok (.getfield 131, 3) := by decide +kernel
theorem dX5_canStart_4 : decode cX5_canStart 4 = .ok (.bipush 80, 2) := by decide +kernel
theorem dX5_canStart_6 : decode cX5_canStart 6 = .ok (.if_icmp .ge 17, 3) := by decide +kernel
theorem dX5_canStart_9 : decode cX5_canStart 9 = .ok (.aload_n 0, 1) := by decide +kernel
theorem dX5_canStart_10 : decode cX5_canStart 10 = .ok (.iconst 0, 1) := by decide +kernel
theorem dX5_canStart_11 : decode cX5_canStart 11 = .ok (.invokevirtual 66, 3) := by decide +kernel
theorem dX5_canStart_14 : decode cX5_canStart 14 = .ok (.bipush 6, 2) := by decide +kernel
theorem dX5_canStart_16 : decode cX5_canStart 16 = .ok (.if_icmp .ge 7, 3) := by decide +kernel
theorem dX5_canStart_19 : decode cX5_canStart 19 = .ok (.iconst 1, 1) := by decide +kernel
theorem dX5_canStart_20 : decode cX5_canStart 20 = .ok (.goto 4, 3) := by decide +kernel
theorem dX5_canStart_23 : decode cX5_canStart 23 = .ok (.iconst 0, 1) := by decide +kernel
theorem dX5_canStart_24 : decode cX5_canStart 24 = .ok (.ireturn, 1) := by decide +kernel
theorem dX5_start_0 : decode cX5_start 0 = .ok (.new 16, 3) := by decide +kernel
theorem dX5_start_3 : decode cX5_start 3 = .ok (.dup, 1) := by decide +kernel
theorem dX5_start_4 : decode cX5_start 4 = .ok (.aload_n 0, 1) := by decide +kernel
theorem dX5_start_5 : decode cX5_start 5 = .ok (.getfield 131, 3) := by decide +kernel
theorem dX5_start_8 : decode cX5_start 8 = .ok (.iload_n 1, 1) := by decide +kernel
theorem dX5_start_9 : decode cX5_start 9 = .ok (.invokespecial 274, 3) := by decide +kernel
theorem dX5_start_12 : decode cX5_start 12 = .ok (.astore_n 2, 1) := by decide +kernel
theorem dX5_start_13 : decode cX5_start 13 = .ok (.aload_n 0, 1) := by decide +kernel
theorem dX5_start_14 : decode cX5_start 14 = .ok (.getfield 131, 3) := by decide +kernel
theorem dX5_start_17 : decode cX5_start 17 = .ok (.bipush 80, 2) := by decide +kernel
theorem dX5_start_19 : decode cX5_start 19 = .ok (.if_icmp .ge 23, 3) := by decide +kernel
theorem dX5_start_22 : decode cX5_start 22 = .ok (.aload_n 0, 1) := by decide +kernel
theorem dX5_start_23 : decode cX5_start 23 = .ok (.getfield 18, 3) := by decide +kernel
theorem dX5_start_26 : decode cX5_start 26 = .ok (.aload_n 0, 1) := by decide +kernel
theorem dX5_start_27 : decode cX5_start 27 = .ok (.getfield 131, 3) := by decide +kernel
theorem dX5_start_30 : decode cX5_start 30 = .ok (.aload_n 2, 1) := by decide +kernel
theorem dX5_start_31 : decode cX5_start 31 = .ok (.aastore, 1) := by decide +kernel
theorem dX5_start_32 : decode cX5_start 32 = .ok (.aload_n 0, 1) := by decide +kernel
theorem dX5_start_33 : decode cX5_start 33 = .ok (.dup, 1) := by decide +kernel
theorem dX5_start_34 : decode cX5_start 34 = .ok (.getfield 131, 3) := by decide +kernel
theorem dX5_start_37 : decode cX5_start 37 = .ok (.iconst 1, 1) := by decide +kernel
theorem dX5_start_38 : decode cX5_start 38 = .ok (.iadd, 1) := by decide +kernel
theorem dX5_start_39 : decode cX5_start 39 = .ok (.putfield 131, 3) := by decide +kernel
theorem dX5_start_42 : decode cX5_start 42 = .ok (.aload_n 0, 1) := by decide +kernel
theorem dX5_start_43 : decode cX5_start 43 = .ok (.getfield 52, 3) := by decide +kernel
theorem dX5_start_46 : decode cX5_start 46 = .ok (.iconst (-1), 1) := by decide +kernel
theorem dX5_start_47 : decode cX5_start 47 = .ok (.if_icmp .ne 19, 3) := by decide +kernel
theorem dX5_start_50 : decode cX5_start 50 = .ok (.iload_n 1, 1) := by decide +kernel
theorem dX5_start_51 : decode cX5_start 51 = .ok (.aload_n 0, 1) := by decide +kernel
theorem dX5_start_52 : decode cX5_start 52 = .ok (.getfield 49, 3) := by decide +kernel
theorem dX5_start_55 : decode cX5_start 55 = .ok (.if_icmp .le 11, 3) := by decide +kernel
theorem dX5_start_58 : decode cX5_start 58 = .ok (.aload_n 0, 1) := by decide +kernel
theorem dX5_start_59 : decode cX5_start 59 = .ok (.aload_n 2, 1) := by decide +kernel
theorem dX5_start_60 : decode cX5_start 60 = .ok (.getfield 85, 3) := by decide +kernel
theorem dX5_start_63 : decode cX5_start 63 = .ok (.putfield 52, 3) := by decide +kernel
theorem dX5_start_66 : decode cX5_start 66 = .ok (.aload_n 2, 1) := by decide +kernel
theorem dX5_start_67 : decode cX5_start 67 = .ok (.areturn, 1) := by decide +kernel
theorem dX5_operate_0 : decode cX5_operate 0 = .ok (.aload_n 0, 1) := by decide +kernel
theorem dX5_operate_1 : decode cX5_operate 1 = .ok (.iload_n 1, 1) := by decide +kernel
theorem dX5_operate_2 : decode cX5_operate 2 = .ok (.invokevirtual 88, 3) := by decide +kernel
theorem dX5_operate_5 : decode cX5_operate 5 = .ok (.astore_n 3, 1) := by decide +kernel
theorem dX5_operate_6 : decode cX5_operate 6 = .ok (.aload_n 2, 1) := by decide +kernel
theorem dX5_operate_7 : decode cX5_operate 7 = .ok (.invokevirtual 276, 3) := by decide +kernel
theorem dX5_operate_10 : decode cX5_operate 10 = .ok (.ifCond .ne 14, 3) := by decide +kernel
theorem dX5_operate_13 : decode cX5_operate 13 = .ok (.new 59, 3) := by decide +kernel
theorem dX5_operate_16 : decode cX5_operate 16 = .ok (.dup, 1) := by decide +kernel
theorem dX5_operate_17 : decode cX5_operate 17 = .ok (.ldc_w 279, 3) := by decide +kernel
theorem dX5_operate_20 : decode cX5_operate 20 = .ok (.invokespecial 63, 3) := by decide +kernel
theorem dX5_operate_23 : decode cX5_operate 23 = .ok (.athrow, 1) := by decide +kernel
theorem dX5_operate_24 : decode cX5_operate 24 = .ok (.aload_n 3, 1) := by decide +kernel
theorem dX5_operate_25 : decode cX5_operate 25 = .ok (.invokevirtual 281, 3) := by decide +kernel
theorem dX5_operate_28 : decode cX5_operate 28 = .ok (.ifCond .ne 14, 3) := by decide +kernel
theorem dX5_operate_31 : decode cX5_operate 31 = .ok (.new 70, 3) := by decide +kernel
theorem dX5_operate_34 : decode cX5_operate 34 = .ok (.dup, 1) := by decide +kernel
theorem dX5_operate_35 : decode cX5_operate 35 = .ok (.ldc_w 284, 3) := by decide +kernel
theorem dX5_operate_38 : decode cX5_operate 38 = .ok (.invokespecial 74, 3) := by decide +kernel
theorem dX5_operate_41 : decode cX5_operate 41 = .ok (.athrow, 1) := by decide +kernel
theorem dX5_operate_42 : decode cX5_operate 42 = .ok (.aload_n 2, 1) := by decide +kernel
theorem dX5_operate_43 : decode cX5_operate 43 = .ok (.aload_n 0, 1) := by decide +kernel
theorem dX5_operate_44 : decode cX5_operate 44 = .ok (.aload_n 3, 1) := by decide +kernel
theorem dX5_operate_45 : decode cX5_operate 45 = .ok (.invokevirtual 286, 3) := by decide +kernel
theorem dX5_operate_48 : decode cX5_operate 48 = .ok (.invokevirtual 290, 3) := by decide +kernel
theorem dX5_operate_51 : decode cX5_operate 51 = .ok (.ifCond .ne 14, 3) := by decide +kernel
theorem dX5_operate_54 : decode cX5_operate 54 = .ok (.new 231, 3) := by decide +kernel
theorem dX5_operate_57 : decode cX5_operate 57 = .ok (.dup, 1) := by decide +kernel
theorem dX5_operate_58 : decode cX5_operate 58 = .ok (.ldc_w 293, 3) := by decide +kernel
theorem dX5_operate_61 : decode cX5_operate 61 = .ok (.invokespecial 235, 3) := by decide +kernel
theorem dX5_operate_64 : decode cX5_operate 64 = .ok (.athrow, 1) := by decide +kernel
theorem dX5_operate_65 : decode cX5_operate 65 = .ok (.aload_n 0, 1) := by decide +kernel
theorem dX5_operate_66 : decode cX5_operate 66 = .ok (.aload_n 3, 1) := by decide +kernel
theorem dX5_operate_67 : decode cX5_operate 67 = .ok (.aload_n 2, 1) := by decide +kernel
theorem dX5_operate_68 : decode cX5_operate 68 = .ok (.invokevirtual 295, 3) := by decide +kernel
theorem dX5_operate_71 : decode cX5_operate 71 = .ok (.ireturn, 1) := by decide +kernel
theorem dX5_perform_0 : decode cX5_perform 0 = .ok (.aload_n 2, 1) := by decide +kernel
theorem dX5_perform_1 : decode cX5_perform 1 = .ok (.aload_n 0, 1) := by decide +kernel
theorem dX5_perform_2 : decode cX5_perform 2 = .ok (.aload_n 1, 1) := by decide +kernel
theorem dX5_perform_3 : decode cX5_perform 3 = .ok (.invokevirtual 286, 3) := by decide +kernel
theorem dX5_perform_6 : decode cX5_perform 6 = .ok (.invokevirtual 299, 3) := by decide +kernel
theorem dX5_perform_9 : decode cX5_perform 9 = .ok (.istore_n 3, 1) := by decide +kernel
theorem dX5_perform_10 : decode cX5_perform 10 = .ok (.aload_n 1, 1) := by decide +kernel
theorem dX5_perform_11 : decode cX5_perform 11 = .ok (.aload_n 2, 1) := by decide +kernel
theorem dX5_perform_12 : decode cX5_perform 12 = .ok (.aload_n 0, 1) := by decide +kernel
theorem dX5_perform_13 : decode cX5_perform 13 = .ok (.getfield 10, 3) := by decide +kernel
theorem dX5_perform_16 : decode cX5_perform 16 = .ok (.getfield 128, 3) := by decide +kernel
theorem dX5_perform_19 : decode cX5_perform 19 = .ok (.iload_n 3, 1) := by decide +kernel
theorem dX5_perform_20 : decode cX5_perform 20 = .ok (.invokevirtual 303, 3) := by decide +kernel
theorem dX5_perform_23 : decode cX5_perform 23 = .ok (.iload_n 3, 1) := by decide +kernel
theorem dX5_perform_24 : decode cX5_perform 24 = .ok (.ireturn, 1) := by decide +kernel
theorem dX5_viewOf_0 : decode cX5_viewOf 0 = .ok (.aload_n 0, 1) := by decide +kernel
theorem dX5_viewOf_1 : decode cX5_viewOf 1 = .ok (.getfield 10, 3) := by decide +kernel
theorem dX5_viewOf_4 : decode cX5_viewOf 4 = .ok (.invokevirtual 172, 3) := by decide +kernel
theorem dX5_viewOf_7 : decode cX5_viewOf 7 = .ok (.iconst 0, 1) := by decide +kernel
theorem dX5_viewOf_8 : decode cX5_viewOf 8 = .ok (.aload_n 0, 1) := by decide +kernel
theorem dX5_viewOf_9 : decode cX5_viewOf 9 = .ok (.getfield 35, 3) := by decide +kernel
theorem dX5_viewOf_12 : decode cX5_viewOf 12 = .ok (.iconst 0, 1) := by decide +kernel
theorem dX5_viewOf_13 : decode cX5_viewOf 13 = .ok (.bipush 32, 2) := by decide +kernel
theorem dX5_viewOf_15 : decode cX5_viewOf 15 = .ok (.invokestatic 201, 3) := by decide +kernel
theorem dX5_viewOf_18 : decode cX5_viewOf 18 = .ok (.aload_n 1, 1) := by decide +kernel
theorem dX5_viewOf_19 : decode cX5_viewOf 19 = .ok (.aload_n 0, 1) := by decide +kernel
theorem dX5_viewOf_20 : decode cX5_viewOf 20 = .ok (.getfield 35, 3) := by decide +kernel
theorem dX5_viewOf_23 : decode cX5_viewOf 23 = .ok (.invokevirtual 307, 3) := by decide +kernel
theorem dX5_viewOf_26 : decode cX5_viewOf 26 = .ok (.aload_n 0, 1) := by decide +kernel
theorem dX5_viewOf_27 : decode cX5_viewOf 27 = .ok (.getfield 35, 3) := by decide +kernel
theorem dX5_viewOf_30 : decode cX5_viewOf 30 = .ok (.areturn, 1) := by decide +kernel
theorem dX5_tryToCommit_0 : decode cX5_tryToCommit 0 = .ok (.aload_n 0, 1) := by decide +kernel
theorem dX5_tryToCommit_1 : decode cX5_tryToCommit 1 = .ok (.aload_n 1, 1) := by decide +kernel
theorem dX5_tryToCommit_2 : decode cX5_tryToCommit 2 = .ok (.invokevirtual 311, 3) := by decide +kernel
theorem dX5_tryToCommit_5 : decode cX5_tryToCommit 5 = .ok (.ifCond .eq 5, 3) := by decide +kernel
theorem dX5_tryToCommit_8 : decode cX5_tryToCommit 8 = .ok (.iconst (-1), 1) := by decide +kernel
theorem dX5_tryToCommit_9 : decode cX5_tryToCommit 9 = .ok (.ireturn, 1) := by decide +kernel
theorem dX5_tryToCommit_10 : decode cX5_tryToCommit 10 = .ok (.aload_n 0, 1) := by decide +kernel
theorem dX5_tryToCommit_11 : decode cX5_tryToCommit 11 = .ok (.aload_n 1, 1) := by decide +kernel
theorem dX5_tryToCommit_12 : decode cX5_tryToCommit 12 = .ok (.invokevirtual 314, 3) := by decide +kernel
theorem dX5_tryToCommit_15 : decode cX5_tryToCommit 15 = .ok (.istore_n 2, 1) := by decide +kernel
theorem dX5_tryToCommit_16 : decode cX5_tryToCommit 16 = .ok (.iload_n 2, 1) := by decide +kernel
theorem dX5_tryToCommit_17 : decode cX5_tryToCommit 17 = .ok (.ifCond .eq 12, 3) := by decide +kernel
theorem dX5_tryToCommit_20 : decode cX5_tryToCommit 20 = .ok (.aload_n 0, 1) := by decide +kernel
theorem dX5_tryToCommit_21 : decode cX5_tryToCommit 21 = .ok (.aload_n 1, 1) := by decide +kernel
theorem dX5_tryToCommit_22 : decode cX5_tryToCommit 22 = .ok (.iload_n 2, 1) := by decide +kernel
theorem dX5_tryToCommit_23 : decode cX5_tryToCommit 23 = .ok (.invokevirtual 124, 3) := by decide +kernel
theorem dX5_tryToCommit_26 : decode cX5_tryToCommit 26 = .ok (.bipush (-2), 2) := by decide +kernel
theorem dX5_tryToCommit_28 : decode cX5_tryToCommit 28 = .ok (.ireturn, 1) := by decide +kernel
theorem dX5_tryToCommit_29 : decode cX5_tryToCommit 29 = .ok (.aload_n 0, 1) := by decide +kernel
theorem dX5_tryToCommit_30 : decode cX5_tryToCommit 30 = .ok (.getfield 42, 3) := by decide +kernel
theorem dX5_tryToCommit_33 : decode cX5_tryToCommit 33 = .ok (.iconst 1, 1) := by decide +kernel
theorem dX5_tryToCommit_34 : decode cX5_tryToCommit 34 = .ok (.if_icmp .ne 8, 3) := by decide +kernel
theorem dX5_tryToCommit_37 : decode cX5_tryToCommit 37 = .ok (.aload_n 0, 1) := by decide +kernel
theorem dX5_tryToCommit_38 : decode cX5_tryToCommit 38 = .ok (.aload_n 1, 1) := by decide +kernel
theorem dX5_tryToCommit_39 : decode cX5_tryToCommit 39 = .ok (.invokevirtual 317, 3) := by decide +kernel
theorem dX5_tryToCommit_42 : decode cX5_tryToCommit 42 = .ok (.aload_n 0, 1) := by decide +kernel
theorem dX5_tryToCommit_43 : decode cX5_tryToCommit 43 = .ok (.getfield 10, 3) := by decide +kernel
theorem dX5_tryToCommit_46 : decode cX5_tryToCommit 46 = .ok (.aload_n 1, 1) := by decide +kernel
theorem dX5_tryToCommit_47 : decode cX5_tryToCommit 47 = .ok (.invokevirtual 321, 3) := by decide +kernel
theorem dX5_tryToCommit_50 : decode cX5_tryToCommit 50 = .ok (.aload_n 0, 1) := by decide +kernel
theorem dX5_tryToCommit_51 : decode cX5_tryToCommit 51 = .ok (.aload_n 1, 1) := by decide +kernel
theorem dX5_tryToCommit_52 : decode cX5_tryToCommit 52 = .ok (.invokevirtual 324, 3) := by decide +kernel
theorem dX5_tryToCommit_55 : decode cX5_tryToCommit 55 = .ok (.aload_n 1, 1) := by decide +kernel
theorem dX5_tryToCommit_56 : decode cX5_tryToCommit 56 = .ok (.getfield 146, 3) := by decide +kernel
theorem dX5_tryToCommit_59 : decode cX5_tryToCommit 59 = .ok (.ireturn, 1) := by decide +kernel
theorem dX5_isBlocked_0 : decode cX5_isBlocked 0 = .ok (.aload_n 0, 1) := by decide +kernel
theorem dX5_isBlocked_1 : decode cX5_isBlocked 1 = .ok (.getfield 52, 3) := by decide +kernel
theorem dX5_isBlocked_4 : decode cX5_isBlocked 4 = .ok (.ifCond .lt 35, 3) := by decide +kernel
theorem dX5_isBlocked_7 : decode cX5_isBlocked 7 = .ok (.aload_n 0, 1) := by decide +kernel
theorem dX5_isBlocked_8 : decode cX5_isBlocked 8 = .ok (.getfield 52, 3) := by decide +kernel
theorem dX5_isBlocked_11 : decode cX5_isBlocked 11 = .ok (.aload_n 0, 1) := by decide +kernel
theorem dX5_isBlocked_12 : decode cX5_isBlocked 12 = .ok (.getfield 131, 3) := by decide +kernel
theorem dX5_isBlocked_15 : decode cX5_isBlocked 15 = .ok (.if_icmp .ge 24, 3) := by decide +kernel
theorem dX5_isBlocked_18 : decode cX5_isBlocked 18 = .ok (.aload_n 0, 1) := by decide +kernel
theorem dX5_isBlocked_19 : decode cX5_isBlocked 19 = .ok (.aload_n 1, 1) := by decide +kernel
theorem dX5_isBlocked_20 : decode cX5_isBlocked 20 = .ok (.aload_n 0, 1) := by decide +kernel
theorem dX5_isBlocked_21 : decode cX5_isBlocked 21 = .ok (.getfield 18, 3) := by decide +kernel
theorem dX5_isBlocked_24 : decode cX5_isBlocked 24 = .ok (.aload_n 0, 1) := by decide +kernel
theorem dX5_isBlocked_25 : decode cX5_isBlocked 25 = .ok (.getfield 52, 3) := by decide +kernel
theorem dX5_isBlocked_28 : decode cX5_isBlocked 28 = .ok (.aaload, 1) := by decide +kernel
theorem dX5_isBlocked_29 : decode cX5_isBlocked 29 = .ok (.invokevirtual 327, 3) := by decide +kernel
theorem dX5_isBlocked_32 : decode cX5_isBlocked 32 = .ok (.ifCond .eq 7, 3) := by decide +kernel
theorem dX5_isBlocked_35 : decode cX5_isBlocked 35 = .ok (.iconst 1, 1) := by decide +kernel
theorem dX5_isBlocked_36 : decode cX5_isBlocked 36 = .ok (.goto 4, 3) := by decide +kernel
theorem dX5_isBlocked_39 : decode cX5_isBlocked 39 = .ok (.iconst 0, 1) := by decide +kernel
theorem dX5_isBlocked_40 : decode cX5_isBlocked 40 = .ok (.ireturn, 1) := by decide +kernel
theorem dX5_reasonToAbort_0 : decode cX5_reasonToAbort 0 = .ok (.aload_n 0, 1) := by decide +kernel
theorem dX5_reasonToAbort_1 : decode cX5_reasonToAbort 1 = .ok (.getfield 42, 3) := by decide +kernel
theorem dX5_reasonToAbort_4 : decode cX5_reasonToAbort 4 = .ok (.ifCond .ne 21, 3) := by decide +kernel
theorem dX5_reasonToAbort_7 : decode cX5_reasonToAbort 7 = .ok (.aload_n 0, 1) := by decide +kernel
theorem dX5_reasonToAbort_8 : decode cX5_reasonToAbort 8 = .ok (.getfield 10, 3) := by decide +kernel
theorem dX5_reasonToAbort_11 : decode cX5_reasonToAbort 11 = .ok (.aload_n 1, 1) := by decide +kernel
theorem dX5_reasonToAbort_12 : decode cX5_reasonToAbort 12 = .ok (.invokevirtual 162, 3) := by decide +kernel
theorem dX5_reasonToAbort_15 : decode cX5_reasonToAbort 15 = .ok (.istore_n 2, 1) := by decide +kernel
theorem dX5_reasonToAbort_16 : decode cX5_reasonToAbort 16 = .ok (.iload_n 2, 1) := by decide +kernel
theorem dX5_reasonToAbort_17 : decode cX5_reasonToAbort 17 = .ok (.ifCond .eq 5, 3) := by decide +kernel
theorem dX5_reasonToAbort_20 : decode cX5_reasonToAbort 20 = .ok (.iload_n 2, 1) := by decide +kernel
theorem dX5_reasonToAbort_21 : decode cX5_reasonToAbort 21 = .ok (.ireturn, 1) := by decide +kernel
theorem dX5_reasonToAbort_22 : decode cX5_reasonToAbort 22 = .ok (.goto 13, 3) := by decide +kernel
theorem dX5_reasonToAbort_25 : decode cX5_reasonToAbort 25 = .ok (.aload_n 0, 1) := by decide +kernel
theorem dX5_reasonToAbort_26 : decode cX5_reasonToAbort 26 = .ok (.aload_n 1, 1) := by decide +kernel
theorem dX5_reasonToAbort_27 : decode cX5_reasonToAbort 27 = .ok (.invokevirtual 331, 3) := by decide +kernel
theorem dX5_reasonToAbort_30 : decode cX5_reasonToAbort 30 = .ok (.ifCond .eq 5, 3) := by decide +kernel
theorem dX5_reasonToAbort_33 : decode cX5_reasonToAbort 33 = .ok (.iconst 3, 1) := by decide +kernel
theorem dX5_reasonToAbort_34 : decode cX5_reasonToAbort 34 = .ok (.ireturn, 1) := by decide +kernel
theorem dX5_reasonToAbort_35 : decode cX5_reasonToAbort 35 = .ok (.aload_n 0, 1) := by decide +kernel
theorem dX5_reasonToAbort_36 : decode cX5_reasonToAbort 36 = .ok (.aload_n 0, 1) := by decide +kernel
theorem dX5_reasonToAbort_37 : decode cX5_reasonToAbort 37 = .ok (.aload_n 1, 1) := by decide +kernel
theorem dX5_reasonToAbort_38 : decode cX5_reasonToAbort 38 = .ok (.invokevirtual 286, 3) := by decide +kernel
theorem dX5_reasonToAbort_41 : decode cX5_reasonToAbort 41 = .ok (.invokevirtual 334, 3) := by decide +kernel
theorem dX5_reasonToAbort_44 : decode cX5_reasonToAbort 44 = .ok (.ifCond .eq 7, 3) := by decide +kernel
theorem dX5_reasonToAbort_47 : decode cX5_reasonToAbort 47 = .ok (.iconst 4, 1) := by decide +kernel
theorem dX5_reasonToAbort_48 : decode cX5_reasonToAbort 48 = .ok (.goto 4, 3) := by decide +kernel
theorem dX5_reasonToAbort_51 : decode cX5_reasonToAbort 51 = .ok (.iconst 0, 1) := by decide +kernel
theorem dX5_reasonToAbort_52 : decode cX5_reasonToAbort 52 = .ok (.ireturn, 1) := by decide +kernel
theorem dX5_losesToRivals_0 : decode cX5_losesToRivals 0 = .ok (.aload_n 0, 1) := by decide +kernel
theorem dX5_losesToRivals_1 : decode cX5_losesToRivals 1 = .ok (.getfield 52, 3) := by decide +kernel
theorem dX5_losesToRivals_4 : decode cX5_losesToRivals 4 = .ok (.aload_n 1, 1) := by decide +kernel
theorem dX5_losesToRivals_5 : decode cX5_losesToRivals 5 = .ok (.getfield 85, 3) := by decide +kernel
theorem dX5_losesToRivals_8 : decode cX5_losesToRivals 8 = .ok (.if_icmp .eq 11, 3) := by decide +kernel
theorem dX5_losesToRivals_11 : decode cX5_losesToRivals 11 = .ok (.aload_n 0, 1) := by decide +kernel
theorem dX5_losesToRivals_12 : decode cX5_losesToRivals 12 = .ok (.getfield 46, 3) := by decide +kernel
theorem dX5_losesToRivals_15 : decode cX5_losesToRivals 15 = .ok (.iconst 1, 1) := by decide +kernel
theorem dX5_losesToRivals_16 : decode cX5_losesToRivals 16 = .ok (.if_icmp .ne 5, 3) := by decide +kernel
theorem dX5_losesToRivals_19 : decode cX5_losesToRivals 19 = .ok (.iconst 0, 1) := by decide +kernel
theorem dX5_losesToRivals_20 : decode cX5_losesToRivals 20 = .ok (.ireturn, 1) := by decide +kernel
theorem dX5_losesToRivals_21 : decode cX5_losesToRivals 21 = .ok (.aload_n 0, 1) := by decide +kernel
theorem dX5_losesToRivals_22 : decode cX5_losesToRivals 22 = .ok (.getfield 46, 3) := by decide +kernel
theorem dX5_losesToRivals_25 : decode cX5_losesToRivals 25 = .ok (.iconst 2, 1) := by decide +kernel
theorem dX5_losesToRivals_26 : decode cX5_losesToRivals 26 = .ok (.if_icmp .ne 10, 3) := by decide +kernel
theorem dX5_losesToRivals_29 : decode cX5_losesToRivals 29 = .ok (.aload_n 1, 1) := by decide +kernel
theorem dX5_losesToRivals_30 : decode cX5_losesToRivals 30 = .ok (.getfield 149, 3) := by decide +kernel
theorem dX5_losesToRivals_33 : decode cX5_losesToRivals 33 = .ok (.goto 4, 3) := by decide +kernel
theorem dX5_losesToRivals_36 : decode cX5_losesToRivals 36 = .ok (.iconst (-1), 1) := by decide +kernel
theorem dX5_losesToRivals_37 : decode cX5_losesToRivals 37 = .ok (.istore_n 2, 1) := by decide +kernel
theorem dX5_losesToRivals_38 : decode cX5_losesToRivals 38 = .ok (.iconst 0, 1) := by decide +kernel
theorem dX5_losesToRivals_39 : decode cX5_losesToRivals 39 = .ok (.istore_n 3, 1) := by decide +kernel
theorem dX5_losesToRivals_40 : decode cX5_losesToRivals 40 = .ok (.iload_n 3, 1) := by decide +kernel
theorem dX5_losesToRivals_41 : decode cX5_losesToRivals 41 = .ok (.aload_n 0, 1) := by decide +kernel
theorem dX5_losesToRivals_42 : decode cX5_losesToRivals 42 = .ok (.getfield 131, 3) := by decide +kernel
theorem dX5_losesToRivals_45 : decode cX5_losesToRivals 45 = .ok (.if_icmp .ge 43, 3) := by decide +kernel
theorem dX5_losesToRivals_48 : decode cX5_losesToRivals 48 = .ok (.aload_n 0, 1) := by decide +kernel
theorem dX5_losesToRivals_49 : decode cX5_losesToRivals 49 = .ok (.getfield 18, 3) := by decide +kernel
theorem dX5_losesToRivals_52 : decode cX5_losesToRivals 52 = .ok (.iload_n 3, 1) := by decide +kernel
theorem dX5_losesToRivals_53 : decode cX5_losesToRivals 53 = .ok (.aaload, 1) := by decide +kernel
theorem dX5_losesToRivals_54 : decode cX5_losesToRivals 54 = .ok (.astore 4, 2) := by decide +kernel
theorem dX5_losesToRivals_56 : decode cX5_losesToRivals 56 = .ok (.aload 4, 2) := by decide +kernel
theorem dX5_losesToRivals_58 : decode cX5_losesToRivals 58 = .ok (.ifnull 24, 3) := by decide +kernel
theorem dX5_losesToRivals_61 : decode cX5_losesToRivals 61 = .ok (.aload 4, 2) := by decide +kernel
theorem dX5_losesToRivals_63 : decode cX5_losesToRivals 63 = .ok (.getfield 149, 3) := by decide +kernel
theorem dX5_losesToRivals_66 : decode cX5_losesToRivals 66 = .ok (.iload_n 2, 1) := by decide +kernel
theorem dX5_losesToRivals_67 : decode cX5_losesToRivals 67 = .ok (.if_icmp .le 15, 3) := by decide +kernel
theorem dX5_losesToRivals_70 : decode cX5_losesToRivals 70 = .ok (.aload_n 0, 1) := by decide +kernel
theorem dX5_losesToRivals_71 : decode cX5_losesToRivals 71 = .ok (.aload_n 1, 1) := by decide +kernel
theorem dX5_losesToRivals_72 : decode cX5_losesToRivals 72 = .ok (.aload 4, 2) := by decide +kernel
theorem dX5_losesToRivals_74 : decode cX5_losesToRivals 74 = .ok (.invokevirtual 327, 3) := by decide +kernel
theorem dX5_losesToRivals_77 : decode cX5_losesToRivals 77 = .ok (.ifCond .eq 5, 3) := by decide +kernel
theorem dX5_losesToRivals_80 : decode cX5_losesToRivals 80 = .ok (.iconst 1, 1) := by decide +kernel
theorem dX5_losesToRivals_81 : decode cX5_losesToRivals 81 = .ok (.ireturn, 1) := by decide +kernel
theorem dX5_losesToRivals_82 : decode cX5_losesToRivals 82 = .ok (.iinc 3 1, 3) := by decide +kernel
theorem dX5_losesToRivals_85 : decode cX5_losesToRivals 85 = .ok (.goto (-45), 3) := by decide +kernel
theorem dX5_losesToRivals_88 : decode cX5_losesToRivals 88 = .ok (.iconst 0, 1) := by decide +kernel
theorem dX5_losesToRivals_89 : decode cX5_losesToRivals 89 = .ok (.ireturn, 1) := by decide +kernel
theorem dX5_violatesConstraint_0 : decode cX5_violatesConstraint 0 = .ok (.iconst 0, 1) := by decide +kernel
theorem dX5_violatesConstraint_1 : decode cX5_violatesConstraint 1 = .ok (.istore_n 2, 1) := by decide +kernel
theorem dX5_violatesConstraint_2 : decode cX5_violatesConstraint 2 = .ok (.iload_n 2, 1) := by decide +kernel
theorem dX5_violatesConstraint_3 : decode cX5_violatesConstraint 3 = .ok (.aload_n 0, 1) := by decide +kernel
theorem dX5_violatesConstraint_4 : decode cX5_violatesConstraint 4 = .ok (.getfield 221, 3) := by decide +kernel
theorem dX5_violatesConstraint_7 : decode cX5_violatesConstraint 7 = .ok (.if_icmp .ge 30, 3) := by decide +kernel
theorem dX5_violatesConstraint_10 : decode cX5_violatesConstraint 10 = .ok (.aload_n 0, 1) := by decide +kernel
theorem dX5_violatesConstraint_11 : decode cX5_violatesConstraint 11 = .ok (.getfield 24, 3) := by decide +kernel
theorem dX5_violatesConstraint_14 : decode cX5_violatesConstraint 14 = .ok (.iload_n 2, 1) := by decide +kernel
theorem dX5_violatesConstraint_15 : decode cX5_violatesConstraint 15 = .ok (.aaload, 1) := by decide +kernel
theorem dX5_violatesConstraint_16 : decode cX5_violatesConstraint 16 = .ok (.astore_n 3, 1) := by decide +kernel
theorem dX5_violatesConstraint_17 : decode cX5_violatesConstraint 17 = .ok (.aload_n 3, 1) := by decide +kernel
theorem dX5_violatesConstraint_18 : decode cX5_violatesConstraint 18 = .ok (.ifnull 13, 3) := by decide +kernel
theorem dX5_violatesConstraint_21 : decode cX5_violatesConstraint 21 = .ok (.aload_n 3, 1) := by decide +kernel
theorem dX5_violatesConstraint_22 : decode cX5_violatesConstraint 22 = .ok (.aload_n 1, 1) := by decide +kernel
theorem dX5_violatesConstraint_23 : decode cX5_violatesConstraint 23 = .ok (.invokevirtual 224, 3) := by decide +kernel
theorem dX5_violatesConstraint_26 : decode cX5_violatesConstraint 26 = .ok (.ifCond .eq 5, 3) := by decide +kernel
theorem dX5_violatesConstraint_29 : decode cX5_violatesConstraint 29 = .ok (.iconst 1, 1) := by decide +kernel
theorem dX5_violatesConstraint_30 : decode cX5_violatesConstraint 30 = .ok (.ireturn, 1) := by decide +kernel
theorem dX5_violatesConstraint_31 : decode cX5_violatesConstraint 31 = .ok (.iinc 2 1, 3) := by decide +kernel
theorem dX5_violatesConstraint_34 : decode cX5_violatesConstraint 34 = .ok (.goto (-32), 3) := by decide +kernel
theorem dX5_violatesConstraint_37 : decode cX5_violatesConstraint 37 = .ok (.iconst 0, 1) := by decide +kernel
theorem dX5_violatesConstraint_38 : decode cX5_violatesConstraint 38 = .ok (.ireturn, 1) := by decide +kernel
theorem dX5_isRival_0 : decode cX5_isRival 0 = .ok (.aload_n 2, 1) := by decide +kernel
theorem dX5_isRival_1 : decode cX5_isRival 1 = .ok (.ifnull 34, 3) := by decide +kernel
theorem dX5_isRival_4 : decode cX5_isRival 4 = .ok (.aload_n 2, 1) := by decide +kernel
theorem dX5_isRival_5 : decode cX5_isRival 5 = .ok (.aload_n 1, 1) := by decide +kernel
theorem dX5_isRival_6 : decode cX5_isRival 6 = .ok (.if_acmp .eq 29, 3) := by decide +kernel
theorem dX5_isRival_9 : decode cX5_isRival 9 = .ok (.aload_n 2, 1) := by decide +kernel
theorem dX5_isRival_10 : decode cX5_isRival 10 = .ok (.getfield 91, 3) := by decide +kernel
theorem dX5_isRival_13 : decode cX5_isRival 13 = .ok (.ifCond .ne 22, 3) := by decide +kernel
theorem dX5_isRival_16 : decode cX5_isRival 16 = .ok (.aload_n 2, 1) := by decide +kernel
theorem dX5_isRival_17 : decode cX5_isRival 17 = .ok (.aload_n 1, 1) := by decide +kernel
theorem dX5_isRival_18 : decode cX5_isRival 18 = .ok (.aload_n 0, 1) := by decide +kernel
theorem dX5_isRival_19 : decode cX5_isRival 19 = .ok (.getfield 10, 3) := by decide +kernel
theorem dX5_isRival_22 : decode cX5_isRival 22 = .ok (.invokevirtual 172, 3) := by decide +kernel
theorem dX5_isRival_25 : decode cX5_isRival 25 = .ok (.invokevirtual 337, 3) := by decide +kernel
theorem dX5_isRival_28 : decode cX5_isRival 28 = .ok (.ifCond .eq 7, 3) := by decide +kernel
theorem dX5_isRival_31 : decode cX5_isRival 31 = .ok (.iconst 1, 1) := by decide +kernel
theorem dX5_isRival_32 : decode cX5_isRival 32 = .ok (.goto 4, 3) := by decide +kernel
theorem dX5_isRival_35 : decode cX5_isRival 35 = .ok (.iconst 0, 1) := by decide +kernel
theorem dX5_isRival_36 : decode cX5_isRival 36 = .ok (.ireturn, 1) := by decide +kernel
theorem dX5_countRivals_0 : decode cX5_countRivals 0 = .ok (.iconst 0, 1) := by decide +kernel
theorem dX5_countRivals_1 : decode cX5_countRivals 1 = .ok (.istore_n 2, 1) := by decide +kernel
theorem dX5_countRivals_2 : decode cX5_countRivals 2 = .ok (.iconst 0, 1) := by decide +kernel
theorem dX5_countRivals_3 : decode cX5_countRivals 3 = .ok (.istore_n 3, 1) := by decide +kernel
theorem dX5_countRivals_4 : decode cX5_countRivals 4 = .ok (.iload_n 3, 1) := by decide +kernel
theorem dX5_countRivals_5 : decode cX5_countRivals 5 = .ok (.aload_n 0, 1) := by decide +kernel
theorem dX5_countRivals_6 : decode cX5_countRivals 6 = .ok (.getfield 131, 3) := by decide +kernel
theorem dX5_countRivals_9 : decode cX5_countRivals 9 = .ok (.if_icmp .ge 26, 3) := by decide +kernel
theorem dX5_countRivals_12 : decode cX5_countRivals 12 = .ok (.aload_n 0, 1) := by decide +kernel
theorem dX5_countRivals_13 : decode cX5_countRivals 13 = .ok (.aload_n 1, 1) := by decide +kernel
theorem dX5_countRivals_14 : decode cX5_countRivals 14 = .ok (.aload_n 0, 1) := by decide +kernel
theorem dX5_countRivals_15 : decode cX5_countRivals 15 = .ok (.getfield 18, 3) := by decide +kernel
theorem dX5_countRivals_18 : decode cX5_countRivals 18 = .ok (.iload_n 3, 1) := by decide +kernel
theorem dX5_countRivals_19 : decode cX5_countRivals 19 = .ok (.aaload, 1) := by decide +kernel
theorem dX5_countRivals_20 : decode cX5_countRivals 20 = .ok (.invokevirtual 327, 3) := by decide +kernel
theorem dX5_countRivals_23 : decode cX5_countRivals 23 = .ok (.ifCond .eq 6, 3) := by decide +kernel
theorem dX5_countRivals_26 : decode cX5_countRivals 26 = .ok (.iinc 2 1, 3) := by decide +kernel
theorem dX5_countRivals_29 : decode cX5_countRivals 29 = .ok (.iinc 3 1, 3) := by decide +kernel
theorem dX5_countRivals_32 : decode cX5_countRivals 32 = .ok (.goto (-28), 3) := by decide +kernel
theorem dX5_countRivals_35 : decode cX5_countRivals 35 = .ok (.iload_n 2, 1) := by decide +kernel
theorem dX5_countRivals_36 : decode cX5_countRivals 36 = .ok (.ireturn, 1) := by decide +kernel
theorem dX5_abortRivals_0 : decode cX5_abortRivals 0 = .ok (.iconst 0, 1) := by decide +kernel
theorem dX5_abortRivals_1 : decode cX5_abortRivals 1 = .ok (.istore_n 2, 1) := by decide +kernel
theorem dX5_abortRivals_2 : decode cX5_abortRivals 2 = .ok (.iload_n 2, 1) := by decide +kernel
theorem dX5_abortRivals_3 : decode cX5_abortRivals 3 = .ok (.aload_n 0, 1) := by decide +kernel
theorem dX5_abortRivals_4 : decode cX5_abortRivals 4 = .ok (.getfield 131, 3) := by decide +kernel
theorem dX5_abortRivals_7 : decode cX5_abortRivals 7 = .ok (.if_icmp .ge 35, 3) := by decide +kernel
theorem dX5_abortRivals_10 : decode cX5_abortRivals 10 = .ok (.aload_n 0, 1) := by decide +kernel
theorem dX5_abortRivals_11 : decode cX5_abortRivals 11 = .ok (.getfield 18, 3) := by decide +kernel
theorem dX5_abortRivals_14 : decode cX5_abortRivals 14 = .ok (.iload_n 2, 1) := by decide +kernel
theorem dX5_abortRivals_15 : decode cX5_abortRivals 15 = .ok (.aaload, 1) := by decide +kernel
theorem dX5_abortRivals_16 : decode cX5_abortRivals 16 = .ok (.astore_n 3, 1) := by decide +kernel
theorem dX5_abortRivals_17 : decode cX5_abortRivals 17 = .ok (.aload_n 3, 1) := by decide +kernel
theorem dX5_abortRivals_18 : decode cX5_abortRivals 18 = .ok (.ifnull 18, 3) := by decide +kernel
theorem dX5_abortRivals_21 : decode cX5_abortRivals 21 = .ok (.aload_n 0, 1) := by decide +kernel
theorem dX5_abortRivals_22 : decode cX5_abortRivals 22 = .ok (.aload_n 1, 1) := by decide +kernel
theorem dX5_abortRivals_23 : decode cX5_abortRivals 23 = .ok (.aload_n 3, 1) := by decide +kernel
theorem dX5_abortRivals_24 : decode cX5_abortRivals 24 = .ok (.invokevirtual 327, 3) := by decide +kernel
theorem dX5_abortRivals_27 : decode cX5_abortRivals 27 = .ok (.ifCond .eq 9, 3) := by decide +kernel
theorem dX5_abortRivals_30 : decode cX5_abortRivals 30 = .ok (.aload_n 0, 1) := by decide +kernel
theorem dX5_abortRivals_31 : decode cX5_abortRivals 31 = .ok (.aload_n 3, 1) := by decide +kernel
theorem dX5_abortRivals_32 : decode cX5_abortRivals 32 = .ok (.iconst 3, 1) := by decide +kernel
theorem dX5_abortRivals_33 : decode cX5_abortRivals 33 = .ok (.invokevirtual 124, 3) := by decide +kernel
theorem dX5_abortRivals_36 : decode cX5_abortRivals 36 = .ok (.iinc 2 1, 3) := by decide +kernel
theorem dX5_abortRivals_39 : decode cX5_abortRivals 39 = .ok (.goto (-37), 3) := by decide +kernel
theorem dX5_abortRivals_42 : decode cX5_abortRivals 42 = .ok (.return_, 1) := by decide +kernel
theorem dX5_endInAbort_0 : decode cX5_endInAbort 0 = .ok (.aload_n 1, 1) := by decide +kernel
theorem dX5_endInAbort_1 : decode cX5_endInAbort 1 = .ok (.iload_n 2, 1) := by decide +kernel
theorem dX5_endInAbort_2 : decode cX5_endInAbort 2 = .ok (.invokevirtual 341, 3) := by decide +kernel
theorem dX5_endInAbort_5 : decode cX5_endInAbort 5 = .ok (.aload_n 0, 1) := by decide +kernel
theorem dX5_endInAbort_6 : decode cX5_endInAbort 6 = .ok (.aload_n 1, 1) := by decide +kernel
theorem dX5_endInAbort_7 : decode cX5_endInAbort 7 = .ok (.invokevirtual 324, 3) := by decide +kernel
theorem dX5_endInAbort_10 : decode cX5_endInAbort 10 = .ok (.return_, 1) := by decide +kernel
theorem dX5_releaseTicket_0 : decode cX5_releaseTicket 0 = .ok (.aload_n 0, 1) := by decide +kernel
theorem dX5_releaseTicket_1 : decode cX5_releaseTicket 1 = .ok (.getfield 52, 3) := by decide +kernel
theorem dX5_releaseTicket_4 : decode cX5_releaseTicket 4 = .ok (.aload_n 1, 1) := by decide +kernel
theorem dX5_releaseTicket_5 : decode cX5_releaseTicket 5 = .ok (.getfield 85, 3) := by decide +kernel
theorem dX5_releaseTicket_8 : decode cX5_releaseTicket 8 = .ok (.if_icmp .ne 8, 3) := by decide +kernel
theorem dX5_releaseTicket_11 : decode cX5_releaseTicket 11 = .ok (.aload_n 0, 1) := by decide +kernel
theorem dX5_releaseTicket_12 : decode cX5_releaseTicket 12 = .ok (.iconst (-1), 1) := by decide +kernel
theorem dX5_releaseTicket_13 : decode cX5_releaseTicket 13 = .ok (.putfield 52, 3) := by decide +kernel
theorem dX5_releaseTicket_16 : decode cX5_releaseTicket 16 = .ok (.return_, 1) := by decide +kernel
theorem dX5_performSteps_0 : decode cX5_performSteps 0 = .ok (.iconst 0, 1) := by decide +kernel
theorem dX5_performSteps_1 : decode cX5_performSteps 1 = .ok (.istore_n 2, 1) := by decide +kernel
theorem dX5_performSteps_2 : decode cX5_performSteps 2 = .ok (.iload_n 2, 1) := by decide +kernel
theorem dX5_performSteps_3 : decode cX5_performSteps 3 = .ok (.aload_n 0, 1) := by decide +kernel
theorem dX5_performSteps_4 : decode cX5_performSteps 4 = .ok (.getfield 31, 3) := by decide +kernel
theorem dX5_performSteps_7 : decode cX5_performSteps 7 = .ok (.getfield 344, 3) := by decide +kernel
theorem dX5_performSteps_10 : decode cX5_performSteps 10 = .ok (.if_icmp .ge 46, 3) := by decide +kernel
theorem dX5_performSteps_13 : decode cX5_performSteps 13 = .ok (.aload_n 0, 1) := by decide +kernel
theorem dX5_performSteps_14 : decode cX5_performSteps 14 = .ok (.getfield 31, 3) := by decide +kernel
theorem dX5_performSteps_17 : decode cX5_performSteps 17 = .ok (.iload_n 2, 1) := by decide +kernel
theorem dX5_performSteps_18 : decode cX5_performSteps 18 = .ok (.invokevirtual 347, 3) := by decide +kernel
theorem dX5_performSteps_21 : decode cX5_performSteps 21 = .ok (.astore_n 3, 1) := by decide +kernel
theorem dX5_performSteps_22 : decode cX5_performSteps 22 = .ok (.aload_n 3, 1) := by decide +kernel
theorem dX5_performSteps_23 : decode cX5_performSteps 23 = .ok (.ifnull 12, 3) := by decide +kernel
theorem dX5_performSteps_26 : decode cX5_performSteps 26 = .ok (.aload_n 0, 1) := by decide +kernel
theorem dX5_performSteps_27 : decode cX5_performSteps 27 = .ok (.aload_n 1, 1) := by decide +kernel
theorem dX5_performSteps_28 : decode cX5_performSteps 28 = .ok (.aload_n 3, 1) := by decide +kernel
theorem dX5_performSteps_29 : decode cX5_performSteps 29 = .ok (.invokevirtual 351, 3) := by decide +kernel
theorem dX5_performSteps_32 : decode cX5_performSteps 32 = .ok (.ifCond .ne 11, 3) := by decide +kernel
theorem dX5_performSteps_35 : decode cX5_performSteps 35 = .ok (.aload_n 0, 1) := by decide +kernel
theorem dX5_performSteps_36 : decode cX5_performSteps 36 = .ok (.aload_n 1, 1) := by decide +kernel
theorem dX5_performSteps_37 : decode cX5_performSteps 37 = .ok (.iconst 5, 1) := by decide +kernel
theorem dX5_performSteps_38 : decode cX5_performSteps 38 = .ok (.invokevirtual 124, 3) := by decide +kernel
theorem dX5_performSteps_41 : decode cX5_performSteps 41 = .ok (.iconst 0, 1) := by decide +kernel
theorem dX5_performSteps_42 : decode cX5_performSteps 42 = .ok (.ireturn, 1) := by decide +kernel
theorem dX5_performSteps_43 : decode cX5_performSteps 43 = .ok (.aload_n 0, 1) := by decide +kernel
theorem dX5_performSteps_44 : decode cX5_performSteps 44 = .ok (.aload_n 1, 1) := by decide +kernel
theorem dX5_performSteps_45 : decode cX5_performSteps 45 = .ok (.aload_n 3, 1) := by decide +kernel
theorem dX5_performSteps_46 : decode cX5_performSteps 46 = .ok (.invokevirtual 295, 3) := by decide +kernel
theorem dX5_performSteps_49 : decode cX5_performSteps 49 = .ok (.pop, 1) := by decide +kernel
theorem dX5_performSteps_50 : decode cX5_performSteps 50 = .ok (.iinc 2 1, 3) := by decide +kernel
theorem dX5_performSteps_53 : decode cX5_performSteps 53 = .ok (.goto (-51), 3) := by decide +kernel
theorem dX5_performSteps_56 : decode cX5_performSteps 56 = .ok (.iconst 1, 1) := by decide +kernel
theorem dX5_performSteps_57 : decode cX5_performSteps 57 = .ok (.ireturn, 1) := by decide +kernel
theorem dX5_isAllowed_0 : decode cX5_isAllowed 0 = .ok (.aload_n 2, 1) := by decide +kernel
theorem dX5_isAllowed_1 : decode cX5_isAllowed 1 = .ok (.invokevirtual 276, 3) := by decide +kernel
theorem dX5_isAllowed_4 : decode cX5_isAllowed 4 = .ok (.ifCond .eq 26, 3) := by decide +kernel
theorem dX5_isAllowed_7 : decode cX5_isAllowed 7 = .ok (.aload_n 1, 1) := by decide +kernel
theorem dX5_isAllowed_8 : decode cX5_isAllowed 8 = .ok (.invokevirtual 281, 3) := by decide +kernel
theorem dX5_isAllowed_11 : decode cX5_isAllowed 11 = .ok (.ifCond .eq 19, 3) := by decide +kernel
theorem dX5_isAllowed_14 : decode cX5_isAllowed 14 = .ok (.aload_n 2, 1) := by decide +kernel
theorem dX5_isAllowed_15 : decode cX5_isAllowed 15 = .ok (.aload_n 0, 1) := by decide +kernel
theorem dX5_isAllowed_16 : decode cX5_isAllowed 16 = .ok (.aload_n 1, 1) := by decide +kernel
theorem dX5_isAllowed_17 : decode cX5_isAllowed 17 = .ok (.invokevirtual 286, 3) := by decide +kernel
theorem dX5_isAllowed_20 : decode cX5_isAllowed 20 = .ok (.invokevirtual 290, 3) := by decide +kernel
theorem dX5_isAllowed_23 : decode cX5_isAllowed 23 = .ok (.ifCond .eq 7, 3) := by decide +kernel
theorem dX5_isAllowed_26 : decode cX5_isAllowed 26 = .ok (.iconst 1, 1) := by decide +kernel
theorem dX5_isAllowed_27 : decode cX5_isAllowed 27 = .ok (.goto 4, 3) := by decide +kernel
theorem dX5_isAllowed_30 : decode cX5_isAllowed 30 = .ok (.iconst 0, 1) := by decide +kernel
theorem dX5_isAllowed_31 : decode cX5_isAllowed 31 = .ok (.ireturn, 1) := by decide +kernel
