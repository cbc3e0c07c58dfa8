theorem dX6_isIn_0 : decode cX6_isIn 0 = .ok (.iload_n 0, 1) := by decide +kernel
theorem dX6_isIn_1 : decode cX6_isIn 1 = .ok (.iload_n 1, 1) := by decide +kernel
theorem dX6_isIn_2 : decode cX6_isIn 2 = .ok (.if_icmp .lt 12, 3) := by decide +kernel
theorem dX6_isIn_5 : decode cX6_isIn 5 = .ok (.iload_n 0, 1) := by decide +kernel
theorem dX6_isIn_6 : decode cX6_isIn 6 = .ok (.iload_n 2, 1) := by decide +kernel
theorem dX6_isIn_7 : decode cX6_isIn 7 = .ok (.if_icmp .gt 7, 3) := by decide +kernel
theorem dX6_isIn_10 : decode cX6_isIn 10 = .ok (.iconst 1, 1) := by decide +kernel
theorem dX6_isIn_11 : decode cX6_isIn 11 = .ok (.goto 4, 3) := by decide +kernel
theorem dX6_isIn_14 : decode cX6_isIn 14 = .ok (.iconst 0, 1) := by decide +kernel
theorem dX6_isIn_15 : decode cX6_isIn 15 = .ok (.ireturn, 1) := by decide +kernel
theorem dX6_thrown_0 : decode cX6_thrown 0 = .ok (.aload_n 0, 1) := by decide +kernel
theorem dX6_thrown_1 : decode cX6_thrown 1 = .ok (.getfield 1, 3) := by decide +kernel
theorem dX6_thrown_4 : decode cX6_thrown 4 = .ok (.ireturn, 1) := by decide +kernel
theorem dX6_fail_0 : decode cX6_fail 0 = .ok (.aload_n 0, 1) := by decide +kernel
theorem dX6_fail_1 : decode cX6_fail 1 = .ok (.iload_n 1, 1) := by decide +kernel
theorem dX6_fail_2 : decode cX6_fail 2 = .ok (.putfield 1, 3) := by decide +kernel
theorem dX6_fail_5 : decode cX6_fail 5 = .ok (.iconst 0, 1) := by decide +kernel
theorem dX6_fail_6 : decode cX6_fail 6 = .ok (.ireturn, 1) := by decide +kernel
theorem dX6_init_0 : decode cX6_init 0 = .ok (.aload_n 0, 1) := by decide +kernel
theorem dX6_init_1 : decode cX6_init 1 = .ok (.invokespecial 7, 3) := by decide +kernel
theorem dX6_init_4 : decode cX6_init 4 = .ok (.aload_n 0, 1) := by decide +kernel
theorem dX6_init_5 : decode cX6_init 5 = .ok (.bipush 80, 2) := by decide +kernel
theorem dX6_init_7 : decode cX6_init 7 = .ok (.newarray .int, 2) := by decide +kernel
theorem dX6_init_9 : decode cX6_init 9 = .ok (.putfield 13, 3) := by decide +kernel
theorem dX6_init_12 : decode cX6_init 12 = .ok (.aload_n 0, 1) := by decide +kernel
theorem dX6_init_13 : decode cX6_init 13 = .ok (.bipush 80, 2) := by decide +kernel
theorem dX6_init_15 : decode cX6_init 15 = .ok (.newarray .int, 2) := by decide +kernel
theorem dX6_init_17 : decode cX6_init 17 = .ok (.putfield 17, 3) := by decide +kernel
theorem dX6_init_20 : decode cX6_init 20 = .ok (.aload_n 0, 1) := by decide +kernel
theorem dX6_init_21 : decode cX6_init 21 = .ok (.bipush 80, 2) := by decide +kernel
theorem dX6_init_23 : decode cX6_init 23 = .ok (.newarray .int, 2) := by decide +kernel
theorem dX6_init_25 : decode cX6_init 25 = .ok (.putfield 20, 3) := by decide +kernel
theorem dX6_init_28 : decode cX6_init 28 = .ok (.aload_n 0, 1) := by decide +kernel
theorem dX6_init_29 : decode cX6_init 29 = .ok (.bipush 80, 2) := by decide +kernel
theorem dX6_init_31 : decode cX6_init 31 = .ok (.newarray .int, 2) := by decide +kernel
theorem dX6_init_33 : decode cX6_init 33 = .ok (.putfield 23, 3) := by decide +kernel
theorem dX6_init_36 : decode cX6_init 36 = .ok (.aload_n 0, 1) := by decide +kernel
theorem dX6_init_37 : decode cX6_init 37 = .ok (.bipush 80, 2) := by decide +kernel
theorem dX6_init_39 : decode cX6_init 39 = .ok (.newarray .boolean, 2) := by decide +kernel
theorem dX6_init_41 : decode cX6_init 41 = .ok (.putfield 26, 3) := by decide +kernel
theorem dX6_init_44 : decode cX6_init 44 = .ok (.aload_n 0, 1) := by decide +kernel
theorem dX6_init_45 : decode cX6_init 45 = .ok (.bipush 80, 2) := by decide +kernel
theorem dX6_init_47 : decode cX6_init 47 = .ok (.newarray .int, 2) := by decide +kernel
theorem dX6_init_49 : decode cX6_init 49 = .ok (.putfield 30, 3) := by decide +kernel
theorem dX6_init_52 : decode cX6_init 52 = .ok (.aload_n 0, 1) := by decide +kernel
theorem dX6_init_53 : decode cX6_init 53 = .ok (.sipush 9600, 3) := by decide +kernel
theorem dX6_init_56 : decode cX6_init 56 = .ok (.newarray .int, 2) := by decide +kernel
theorem dX6_init_58 : decode cX6_init 58 = .ok (.putfield 33, 3) := by decide +kernel
theorem dX6_init_61 : decode cX6_init 61 = .ok (.aload_n 0, 1) := by decide +kernel
theorem dX6_init_62 : decode cX6_init 62 = .ok (.sipush 2560, 3) := by decide +kernel
theorem dX6_init_65 : decode cX6_init 65 = .ok (.newarray .int, 2) := by decide +kernel
theorem dX6_init_67 : decode cX6_init 67 = .ok (.putfield 36, 3) := by decide +kernel
theorem dX6_init_70 : decode cX6_init 70 = .ok (.aload_n 0, 1) := by decide +kernel
theorem dX6_init_71 : decode cX6_init 71 = .ok (.sipush 2560, 3) := by decide +kernel
theorem dX6_init_74 : decode cX6_init 74 = .ok (.newarray .int, 2) := by decide +kernel
theorem dX6_init_76 : decode cX6_init 76 = .ok (.putfield 39, 3) := by decide +kernel
theorem dX6_init_79 : decode cX6_init 79 = .ok (.aload_n 0, 1) := by decide +kernel
theorem dX6_init_80 : decode cX6_init 80 = .ok (.sipush 7680, 3) := by decide +kernel
theorem dX6_init_83 : decode cX6_init 83 = .ok (.newarray .int, 2) := by decide +kernel
theorem dX6_init_85 : decode cX6_init 85 = .ok (.putfield 42, 3) := by decide +kernel
theorem dX6_init_88 : decode cX6_init 88 = .ok (.aload_n 0, 1) := by decide +kernel
theorem dX6_init_89 : decode cX6_init 89 = .ok (.bipush 80, 2) := by decide +kernel
theorem dX6_init_91 : decode cX6_init 91 = .ok (.newarray .int, 2) := by decide +kernel
theorem dX6_init_93 : decode cX6_init 93 = .ok (.putfield 45, 3) := by decide +kernel
theorem dX6_init_96 : decode cX6_init 96 = .ok (.aload_n 0, 1) := by decide +kernel
theorem dX6_init_97 : decode cX6_init 97 = .ok (.iconst (-1), 1) := by decide +kernel
theorem dX6_init_98 : decode cX6_init 98 = .ok (.putfield 48, 3) := by decide +kernel
theorem dX6_init_101 : decode cX6_init 101 = .ok (.aload_n 0, 1) := by decide +kernel
theorem dX6_init_102 : decode cX6_init 102 = .ok (.sipush 1952, 3) := by decide +kernel
theorem dX6_init_105 : decode cX6_init 105 = .ok (.newarray .int, 2) := by decide +kernel
theorem dX6_init_107 : decode cX6_init 107 = .ok (.putfield 51, 3) := by decide +kernel
theorem dX6_init_110 : decode cX6_init 110 = .ok (.aload_n 0, 1) := by decide +kernel
theorem dX6_init_111 : decode cX6_init 111 = .ok (.bipush 61, 2) := by decide +kernel
theorem dX6_init_113 : decode cX6_init 113 = .ok (.newarray .int, 2) := by decide +kernel
theorem dX6_init_115 : decode cX6_init 115 = .ok (.putfield 54, 3) := by decide +kernel
theorem dX6_init_118 : decode cX6_init 118 = .ok (.aload_n 0, 1) := by decide +kernel
theorem dX6_init_119 : decode cX6_init 119 = .ok (.iconst 3, 1) := by decide +kernel
theorem dX6_init_120 : decode cX6_init 120 = .ok (.putfield 57, 3) := by decide +kernel
theorem dX6_init_123 : decode cX6_init 123 = .ok (.aload_n 0, 1) := by decide +kernel
theorem dX6_init_124 : decode cX6_init 124 = .ok (.bipush 12, 2) := by decide +kernel
theorem dX6_init_126 : decode cX6_init 126 = .ok (.newarray .int, 2) := by decide +kernel
theorem dX6_init_128 : decode cX6_init 128 = .ok (.putfield 60, 3) := by decide +kernel
theorem dX6_init_131 : decode cX6_init 131 = .ok (.aload_n 0, 1) := by decide +kernel
theorem dX6_init_132 : decode cX6_init 132 = .ok (.bipush 61, 2) := by decide +kernel
theorem dX6_init_134 : decode cX6_init 134 = .ok (.newarray .int, 2) := by decide +kernel
theorem dX6_init_136 : decode cX6_init 136 = .ok (.putfield 63, 3) := by decide +kernel
theorem dX6_init_139 : decode cX6_init 139 = .ok (.aload_n 0, 1) := by decide +kernel
theorem dX6_init_140 : decode cX6_init 140 = .ok (.bipush 32, 2) := by decide +kernel
theorem dX6_init_142 : decode cX6_init 142 = .ok (.newarray .int, 2) := by decide +kernel
theorem dX6_init_144 : decode cX6_init 144 = .ok (.putfield 66, 3) := by decide +kernel
theorem dX6_init_147 : decode cX6_init 147 = .ok (.aload_n 0, 1) := by decide +kernel
theorem dX6_init_148 : decode cX6_init 148 = .ok (.bipush 60, 2) := by decide +kernel
theorem dX6_init_150 : decode cX6_init 150 = .ok (.newarray .int, 2) := by decide +kernel
theorem dX6_init_152 : decode cX6_init 152 = .ok (.putfield 69, 3) := by decide +kernel
theorem dX6_init_155 : decode cX6_init 155 = .ok (.aload_n 0, 1) := by decide +kernel
theorem dX6_init_156 : decode cX6_init 156 = .ok (.iconst (-1), 1) := by decide +kernel
theorem dX6_init_157 : decode cX6_init 157 = .ok (.putfield 72, 3) := by decide +kernel
theorem dX6_init_160 : decode cX6_init 160 = .ok (.aload_n 0, 1) := by decide +kernel
theorem dX6_init_161 : decode cX6_init 161 = .ok (.bipush 120, 2) := by decide +kernel
theorem dX6_init_163 : decode cX6_init 163 = .ok (.newarray .int, 2) := by decide +kernel
theorem dX6_init_165 : decode cX6_init 165 = .ok (.putfield 75, 3) := by decide +kernel
theorem dX6_init_168 : decode cX6_init 168 = .ok (.iconst 0, 1) := by decide +kernel
theorem dX6_init_169 : decode cX6_init 169 = .ok (.istore_n 1, 1) := by decide +kernel
theorem dX6_init_170 : decode cX6_init 170 = .ok (.iload_n 1, 1) := by decide +kernel
theorem dX6_init_171 : decode cX6_init 171 = .ok (.bipush 32, 2) := by decide +kernel
theorem dX6_init_173 : decode cX6_init 173 = .ok (.if_icmp .ge 18, 3) := by decide +kernel
theorem dX6_init_176 : decode cX6_init 176 = .ok (.aload_n 0, 1) := by decide +kernel
theorem dX6_init_177 : decode cX6_init 177 = .ok (.getfield 51, 3) := by decide +kernel
theorem dX6_init_180 : decode cX6_init 180 = .ok (.iload_n 1, 1) := by decide +kernel
theorem dX6_init_181 : decode cX6_init 181 = .ok (.sipush (-1000), 3) := by decide +kernel
theorem dX6_init_184 : decode cX6_init 184 = .ok (.iastore, 1) := by decide +kernel
theorem dX6_init_185 : decode cX6_init 185 = .ok (.iinc 1 1, 3) := by decide +kernel
theorem dX6_init_188 : decode cX6_init 188 = .ok (.goto (-18), 3) := by decide +kernel
theorem dX6_init_191 : decode cX6_init 191 = .ok (.return_, 1) := by decide +kernel
theorem dX6_stored_0 : decode cX6_stored 0 = .ok (.aload_n 0, 1) := by decide +kernel
theorem dX6_stored_1 : decode cX6_stored 1 = .ok (.getfield 51, 3) := by decide +kernel
theorem dX6_stored_4 : decode cX6_stored 4 = .ok (.bipush 32, 2) := by decide +kernel
theorem dX6_stored_6 : decode cX6_stored 6 = .ok (.iload_n 1, 1) := by decide +kernel
theorem dX6_stored_7 : decode cX6_stored 7 = .ok (.imul, 1) := by decide +kernel
theorem dX6_stored_8 : decode cX6_stored 8 = .ok (.iload_n 2, 1) := by decide +kernel
theorem dX6_stored_9 : decode cX6_stored 9 = .ok (.iadd, 1) := by decide +kernel
theorem dX6_stored_10 : decode cX6_stored 10 = .ok (.iaload, 1) := by decide +kernel
theorem dX6_stored_11 : decode cX6_stored 11 = .ok (.ireturn, 1) := by decide +kernel
theorem dX6_isTransaction_0 : decode cX6_isTransaction 0 = .ok (.iload_n 1, 1) := by decide +kernel
theorem dX6_isTransaction_1 : decode cX6_isTransaction 1 = .ok (.iconst 0, 1) := by decide +kernel
theorem dX6_isTransaction_2 : decode cX6_isTransaction 2 = .ok (.aload_n 0, 1) := by decide +kernel
theorem dX6_isTransaction_3 : decode cX6_isTransaction 3 = .ok (.getfield 78, 3) := by decide +kernel
theorem dX6_isTransaction_6 : decode cX6_isTransaction 6 = .ok (.iconst 1, 1) := by decide +kernel
theorem dX6_isTransaction_7 : decode cX6_isTransaction 7 = .ok (.isub, 1) := by decide +kernel
theorem dX6_isTransaction_8 : decode cX6_isTransaction 8 = .ok (.invokestatic 81, 3) := by decide +kernel
theorem dX6_isTransaction_11 : decode cX6_isTransaction 11 = .ok (.ireturn, 1) := by decide +kernel
theorem dX6_isKey_0 : decode cX6_isKey 0 = .ok (.iload_n 0, 1) := by decide +kernel
theorem dX6_isKey_1 : decode cX6_isKey 1 = .ok (.iconst 0, 1) := by decide +kernel
theorem dX6_isKey_2 : decode cX6_isKey 2 = .ok (.bipush 31, 2) := by decide +kernel
theorem dX6_isKey_4 : decode cX6_isKey 4 = .ok (.invokestatic 81, 3) := by decide +kernel
theorem dX6_isKey_7 : decode cX6_isKey 7 = .ok (.ireturn, 1) := by decide +kernel
theorem dX6_isRange_0 : decode cX6_isRange 0 = .ok (.iload_n 0, 1) := by decide +kernel
theorem dX6_isRange_1 : decode cX6_isRange 1 = .ok (.invokestatic 85, 3) := by decide +kernel
theorem dX6_isRange_4 : decode cX6_isRange 4 = .ok (.ifCond .eq 19, 3) := by decide +kernel
theorem dX6_isRange_7 : decode cX6_isRange 7 = .ok (.iload_n 1, 1) := by decide +kernel
theorem dX6_isRange_8 : decode cX6_isRange 8 = .ok (.invokestatic 85, 3) := by decide +kernel
theorem dX6_isRange_11 : decode cX6_isRange 11 = .ok (.ifCond .eq 12, 3) := by decide +kernel
theorem dX6_isRange_14 : decode cX6_isRange 14 = .ok (.iload_n 0, 1) := by decide +kernel
theorem dX6_isRange_15 : decode cX6_isRange 15 = .ok (.iload_n 1, 1) := by decide +kernel
theorem dX6_isRange_16 : decode cX6_isRange 16 = .ok (.if_icmp .gt 7, 3) := by decide +kernel
theorem dX6_isRange_19 : decode cX6_isRange 19 = .ok (.iconst 1, 1) := by decide +kernel
theorem dX6_isRange_20 : decode cX6_isRange 20 = .ok (.goto 4, 3) := by decide +kernel
theorem dX6_isRange_23 : decode cX6_isRange 23 = .ok (.iconst 0, 1) := by decide +kernel
theorem dX6_isRange_24 : decode cX6_isRange 24 = .ok (.ireturn, 1) := by decide +kernel
theorem dX6_activeNow_0 : decode cX6_activeNow 0 = .ok (.iconst 0, 1) := by decide +kernel
theorem dX6_activeNow_1 : decode cX6_activeNow 1 = .ok (.istore_n 1, 1) := by decide +kernel
theorem dX6_activeNow_2 : decode cX6_activeNow 2 = .ok (.iconst 0, 1) := by decide +kernel
theorem dX6_activeNow_3 : decode cX6_activeNow 3 = .ok (.istore_n 2, 1) := by decide +kernel
theorem dX6_activeNow_4 : decode cX6_activeNow 4 = .ok (.iload_n 2, 1) := by decide +kernel
theorem dX6_activeNow_5 : decode cX6_activeNow 5 = .ok (.aload_n 0, 1) := by decide +kernel
theorem dX6_activeNow_6 : decode cX6_activeNow 6 = .ok (.getfield 78, 3) := by decide +kernel
theorem dX6_activeNow_9 : decode cX6_activeNow 9 = .ok (.if_icmp .ge 26, 3) := by decide +kernel
theorem dX6_activeNow_12 : decode cX6_activeNow 12 = .ok (.iload_n 1, 1) := by decide +kernel
theorem dX6_activeNow_13 : decode cX6_activeNow 13 = .ok (.aload_n 0, 1) := by decide +kernel
theorem dX6_activeNow_14 : decode cX6_activeNow 14 = .ok (.getfield 13, 3) := by decide +kernel
theorem dX6_activeNow_17 : decode cX6_activeNow 17 = .ok (.iload_n 2, 1) := by decide +kernel
theorem dX6_activeNow_18 : decode cX6_activeNow 18 = .ok (.iaload, 1) := by decide +kernel
theorem dX6_activeNow_19 : decode cX6_activeNow 19 = .ok (.ifCond .ne 7, 3) := by decide +kernel
theorem dX6_activeNow_22 : decode cX6_activeNow 22 = .ok (.iconst 1, 1) := by decide +kernel
theorem dX6_activeNow_23 : decode cX6_activeNow 23 = .ok (.goto 4, 3) := by decide +kernel
theorem dX6_activeNow_26 : decode cX6_activeNow 26 = .ok (.iconst 0, 1) := by decide +kernel
theorem dX6_activeNow_27 : decode cX6_activeNow 27 = .ok (.iadd, 1) := by decide +kernel
theorem dX6_activeNow_28 : decode cX6_activeNow 28 = .ok (.istore_n 1, 1) := by decide +kernel
theorem dX6_activeNow_29 : decode cX6_activeNow 29 = .ok (.iinc 2 1, 3) := by decide +kernel
theorem dX6_activeNow_32 : decode cX6_activeNow 32 = .ok (.goto (-28), 3) := by decide +kernel
theorem dX6_activeNow_35 : decode cX6_activeNow 35 = .ok (.iload_n 1, 1) := by decide +kernel
theorem dX6_activeNow_36 : decode cX6_activeNow 36 = .ok (.ireturn, 1) := by decide +kernel
theorem dX6_configure_0 : decode cX6_configure 0 = .ok (.aload_n 0, 1) := by decide +kernel
theorem dX6_configure_1 : decode cX6_configure 1 = .ok (.iload_n 1, 1) := by decide +kernel
theorem dX6_configure_2 : decode cX6_configure 2 = .ok (.iconst 0, 1) := by decide +kernel
theorem dX6_configure_3 : decode cX6_configure 3 = .ok (.iconst 1, 1) := by decide +kernel
theorem dX6_configure_4 : decode cX6_configure 4 = .ok (.invokestatic 81, 3) := by decide +kernel
theorem dX6_configure_7 : decode cX6_configure 7 = .ok (.ifCond .eq 21, 3) := by decide +kernel
theorem dX6_configure_10 : decode cX6_configure 10 = .ok (.iload_n 2, 1) := by decide +kernel
theorem dX6_configure_11 : decode cX6_configure 11 = .ok (.iconst 0, 1) := by decide +kernel
theorem dX6_configure_12 : decode cX6_configure 12 = .ok (.iconst 2, 1) := by decide +kernel
theorem dX6_configure_13 : decode cX6_configure 13 = .ok (.invokestatic 81, 3) := by decide +kernel
theorem dX6_configure_16 : decode cX6_configure 16 = .ok (.ifCond .eq 12, 3) := by decide +kernel
theorem dX6_configure_19 : decode cX6_configure 19 = .ok (.iload_n 3, 1) := by decide +kernel
theorem dX6_configure_20 : decode cX6_configure 20 = .ok (.iconst 1, 1) := by decide +kernel
theorem dX6_configure_21 : decode cX6_configure 21 = .ok (.iconst 5, 1) := by decide +kernel
theorem dX6_configure_22 : decode cX6_configure 22 = .ok (.invokestatic 81, 3) := by decide +kernel
theorem dX6_configure_25 : decode cX6_configure 25 = .ok (.ifCond .ne 7, 3) := by decide +kernel
theorem dX6_configure_28 : decode cX6_configure 28 = .ok (.iconst 1, 1) := by decide +kernel
theorem dX6_configure_29 : decode cX6_configure 29 = .ok (.goto 15, 3) := by decide +kernel
theorem dX6_configure_32 : decode cX6_configure 32 = .ok (.aload_n 0, 1) := by decide +kernel
theorem dX6_configure_33 : decode cX6_configure 33 = .ok (.invokevirtual 89, 3) := by decide +kernel
theorem dX6_configure_36 : decode cX6_configure 36 = .ok (.ifCond .le 7, 3) := by decide +kernel
theorem dX6_configure_39 : decode cX6_configure 39 = .ok (.iconst 2, 1) := by decide +kernel
theorem dX6_configure_40 : decode cX6_configure 40 = .ok (.goto 4, 3) := by decide +kernel
theorem dX6_configure_43 : decode cX6_configure 43 = .ok (.iconst 0, 1) := by decide +kernel
theorem dX6_configure_44 : decode cX6_configure 44 = .ok (.putfield 1, 3) := by decide +kernel
theorem dX6_configure_47 : decode cX6_configure 47 = .ok (.aload_n 0, 1) := by decide +kernel
theorem dX6_configure_48 : decode cX6_configure 48 = .ok (.getfield 1, 3) := by decide +kernel
theorem dX6_configure_51 : decode cX6_configure 51 = .ok (.ifCond .ne 18, 3) := by decide +kernel
theorem dX6_configure_54 : decode cX6_configure 54 = .ok (.aload_n 0, 1) := by decide +kernel
theorem dX6_configure_55 : decode cX6_configure 55 = .ok (.iload_n 1, 1) := by decide +kernel
theorem dX6_configure_56 : decode cX6_configure 56 = .ok (.putfield 93, 3) := by decide +kernel
theorem dX6_configure_59 : decode cX6_configure 59 = .ok (.aload_n 0, 1) := by decide +kernel
theorem dX6_configure_60 : decode cX6_configure 60 = .ok (.iload_n 2, 1) := by decide +kernel
theorem dX6_configure_61 : decode cX6_configure 61 = .ok (.putfield 96, 3) := by decide +kernel
theorem dX6_configure_64 : decode cX6_configure 64 = .ok (.aload_n 0, 1) := by decide +kernel
theorem dX6_configure_65 : decode cX6_configure 65 = .ok (.iload_n 3, 1) := by decide +kernel
theorem dX6_configure_66 : decode cX6_configure 66 = .ok (.putfield 57, 3) := by decide +kernel
theorem dX6_configure_69 : decode cX6_configure 69 = .ok (.return_, 1) := by decide +kernel
theorem dX6_hasRoom_0 : decode cX6_hasRoom 0 = .ok (.aload_n 0, 1) := by decide +kernel
theorem dX6_hasRoom_1 : decode cX6_hasRoom 1 = .ok (.invokevirtual 89, 3) := by decide +kernel
theorem dX6_hasRoom_4 : decode cX6_hasRoom 4 = .ok (.bipush 6, 2) := by decide +kernel
theorem dX6_hasRoom_6 : decode cX6_hasRoom 6 = .ok (.if_icmp .ge 16, 3) := by decide +kernel
theorem dX6_hasRoom_9 : decode cX6_hasRoom 9 = .ok (.aload_n 0, 1) := by decide +kernel
theorem dX6_hasRoom_10 : decode cX6_hasRoom 10 = .ok (.getfield 78, 3) := by decide +kernel
theorem dX6_hasRoom_13 : decode cX6_hasRoom 13 = .ok (.bipush 80, 2) := by decide +kernel
theorem dX6_hasRoom_15 : decode cX6_hasRoom 15 = .ok (.if_icmp .ge 7, 3) := by decide +kernel
theorem dX6_hasRoom_18 : decode cX6_hasRoom 18 = .ok (.iconst 1, 1) := by decide +kernel
theorem dX6_hasRoom_19 : decode cX6_hasRoom 19 = .ok (.goto 4, 3) := by decide +kernel
theorem dX6_hasRoom_22 : decode cX6_hasRoom 22 = .ok (.iconst 0, 1) := by decide +kernel
theorem dX6_hasRoom_23 : decode cX6_hasRoom 23 = .ok (.ireturn, 1) := by decide +kernel
theorem dX6_beginWith_0 : decode cX6_beginWith 0 = .ok (.aload_n 0, 1) := by decide +kernel
theorem dX6_beginWith_1 : decode cX6_beginWith 1 = .ok (.getfield 78, 3) := by decide +kernel
theorem dX6_beginWith_4 : decode cX6_beginWith 4 = .ok (.istore_n 2, 1) := by decide +kernel
theorem dX6_beginWith_5 : decode cX6_beginWith 5 = .ok (.aload_n 0, 1) := by decide +kernel
theorem dX6_beginWith_6 : decode cX6_beginWith 6 = .ok (.getfield 13, 3) := by decide +kernel
theorem dX6_beginWith_9 : decode cX6_beginWith 9 = .ok (.iload_n 2, 1) := by decide +kernel
theorem dX6_beginWith_10 : decode cX6_beginWith 10 = .ok (.iconst 0, 1) := by decide +kernel
theorem dX6_beginWith_11 : decode cX6_beginWith 11 = .ok (.iastore, 1) := by decide +kernel
theorem dX6_beginWith_12 : decode cX6_beginWith 12 = .ok (.aload_n 0, 1) := by decide +kernel
theorem dX6_beginWith_13 : decode cX6_beginWith 13 = .ok (.getfield 17, 3) := by decide +kernel
theorem dX6_beginWith_16 : decode cX6_beginWith 16 = .ok (.iload_n 2, 1) := by decide +kernel
theorem dX6_beginWith_17 : decode cX6_beginWith 17 = .ok (.iload_n 1, 1) := by decide +kernel
theorem dX6_beginWith_18 : decode cX6_beginWith 18 = .ok (.iastore, 1) := by decide +kernel
theorem dX6_beginWith_19 : decode cX6_beginWith 19 = .ok (.aload_n 0, 1) := by decide +kernel
theorem dX6_beginWith_20 : decode cX6_beginWith 20 = .ok (.getfield 30, 3) := by decide +kernel
theorem dX6_beginWith_23 : decode cX6_beginWith 23 = .ok (.iload_n 2, 1) := by decide +kernel
theorem dX6_beginWith_24 : decode cX6_beginWith 24 = .ok (.iconst 0, 1) := by decide +kernel
theorem dX6_beginWith_25 : decode cX6_beginWith 25 = .ok (.iastore, 1) := by decide +kernel
theorem dX6_beginWith_26 : decode cX6_beginWith 26 = .ok (.aload_n 0, 1) := by decide +kernel
theorem dX6_beginWith_27 : decode cX6_beginWith 27 = .ok (.getfield 45, 3) := by decide +kernel
theorem dX6_beginWith_30 : decode cX6_beginWith 30 = .ok (.iload_n 2, 1) := by decide +kernel
theorem dX6_beginWith_31 : decode cX6_beginWith 31 = .ok (.iconst 0, 1) := by decide +kernel
theorem dX6_beginWith_32 : decode cX6_beginWith 32 = .ok (.iastore, 1) := by decide +kernel
theorem dX6_beginWith_33 : decode cX6_beginWith 33 = .ok (.iconst 0, 1) := by decide +kernel
theorem dX6_beginWith_34 : decode cX6_beginWith 34 = .ok (.istore_n 3, 1) := by decide +kernel
theorem dX6_beginWith_35 : decode cX6_beginWith 35 = .ok (.iload_n 3, 1) := by decide +kernel
theorem dX6_beginWith_36 : decode cX6_beginWith 36 = .ok (.bipush 32, 2) := by decide +kernel
theorem dX6_beginWith_38 : decode cX6_beginWith 38 = .ok (.if_icmp .ge 35, 3) := by decide +kernel
theorem dX6_beginWith_41 : decode cX6_beginWith 41 = .ok (.aload_n 0, 1) := by decide +kernel
theorem dX6_beginWith_42 : decode cX6_beginWith 42 = .ok (.getfield 36, 3) := by decide +kernel
theorem dX6_beginWith_45 : decode cX6_beginWith 45 = .ok (.bipush 32, 2) := by decide +kernel
theorem dX6_beginWith_47 : decode cX6_beginWith 47 = .ok (.iload_n 2, 1) := by decide +kernel
theorem dX6_beginWith_48 : decode cX6_beginWith 48 = .ok (.imul, 1) := by decide +kernel
theorem dX6_beginWith_49 : decode cX6_beginWith 49 = .ok (.iload_n 3, 1) := by decide +kernel
theorem dX6_beginWith_50 : decode cX6_beginWith 50 = .ok (.iadd, 1) := by decide +kernel
theorem dX6_beginWith_51 : decode cX6_beginWith 51 = .ok (.iconst (-1), 1) := by decide +kernel
theorem dX6_beginWith_52 : decode cX6_beginWith 52 = .ok (.iastore, 1) := by decide +kernel
theorem dX6_beginWith_53 : decode cX6_beginWith 53 = .ok (.aload_n 0, 1) := by decide +kernel
theorem dX6_beginWith_54 : decode cX6_beginWith 54 = .ok (.getfield 39, 3) := by decide +kernel
theorem dX6_beginWith_57 : decode cX6_beginWith 57 = .ok (.bipush 32, 2) := by decide +kernel
theorem dX6_beginWith_59 : decode cX6_beginWith 59 = .ok (.iload_n 2, 1) := by decide +kernel
theorem dX6_beginWith_60 : decode cX6_beginWith 60 = .ok (.imul, 1) := by decide +kernel
theorem dX6_beginWith_61 : decode cX6_beginWith 61 = .ok (.iload_n 3, 1) := by decide +kernel
theorem dX6_beginWith_62 : decode cX6_beginWith 62 = .ok (.iadd, 1) := by decide +kernel
theorem dX6_beginWith_63 : decode cX6_beginWith 63 = .ok (.sipush (-5000), 3) := by decide +kernel
theorem dX6_beginWith_66 : decode cX6_beginWith 66 = .ok (.iastore, 1) := by decide +kernel
theorem dX6_beginWith_67 : decode cX6_beginWith 67 = .ok (.iinc 3 1, 3) := by decide +kernel
theorem dX6_beginWith_70 : decode cX6_beginWith 70 = .ok (.goto (-35), 3) := by decide +kernel
theorem dX6_beginWith_73 : decode cX6_beginWith 73 = .ok (.iload_n 1, 1) := by decide +kernel
theorem dX6_beginWith_74 : decode cX6_beginWith 74 = .ok (.aload_n 0, 1) := by decide +kernel
theorem dX6_beginWith_75 : decode cX6_beginWith 75 = .ok (.getfield 57, 3) := by decide +kernel
theorem dX6_beginWith_78 : decode cX6_beginWith 78 = .ok (.if_icmp .le 16, 3) := by decide +kernel
theorem dX6_beginWith_81 : decode cX6_beginWith 81 = .ok (.aload_n 0, 1) := by decide +kernel
theorem dX6_beginWith_82 : decode cX6_beginWith 82 = .ok (.getfield 48, 3) := by decide +kernel
theorem dX6_beginWith_85 : decode cX6_beginWith 85 = .ok (.iconst (-1), 1) := by decide +kernel
theorem dX6_beginWith_86 : decode cX6_beginWith 86 = .ok (.if_icmp .ne 8, 3) := by decide +kernel
theorem dX6_beginWith_89 : decode cX6_beginWith 89 = .ok (.aload_n 0, 1) := by decide +kernel
theorem dX6_beginWith_90 : decode cX6_beginWith 90 = .ok (.iload_n 2, 1) := by decide +kernel
theorem dX6_beginWith_91 : decode cX6_beginWith 91 = .ok (.putfield 48, 3) := by decide +kernel
theorem dX6_beginWith_94 : decode cX6_beginWith 94 = .ok (.aload_n 0, 1) := by decide +kernel
theorem dX6_beginWith_95 : decode cX6_beginWith 95 = .ok (.dup, 1) := by decide +kernel
theorem dX6_beginWith_96 : decode cX6_beginWith 96 = .ok (.getfield 78, 3) := by decide +kernel
theorem dX6_beginWith_99 : decode cX6_beginWith 99 = .ok (.iconst 1, 1) := by decide +kernel
theorem dX6_beginWith_100 : decode cX6_beginWith 100 = .ok (.iadd, 1) := by decide +kernel
theorem dX6_beginWith_101 : decode cX6_beginWith 101 = .ok (.putfield 78, 3) := by decide +kernel
theorem dX6_beginWith_104 : decode cX6_beginWith 104 = .ok (.iload_n 2, 1) := by decide +kernel
theorem dX6_beginWith_105 : decode cX6_beginWith 105 = .ok (.ireturn, 1) := by decide +kernel
theorem dX6_begin_0 : decode cX6_begin 0 = .ok (.aload_n 0, 1) := by decide +kernel
theorem dX6_begin_1 : decode cX6_begin 1 = .ok (.iconst 0, 1) := by decide +kernel
theorem dX6_begin_2 : decode cX6_begin 2 = .ok (.putfield 1, 3) := by decide +kernel
theorem dX6_begin_5 : decode cX6_begin 5 = .ok (.aload_n 0, 1) := by decide +kernel
theorem dX6_begin_6 : decode cX6_begin 6 = .ok (.invokevirtual 99, 3) := by decide +kernel
theorem dX6_begin_9 : decode cX6_begin 9 = .ok (.ifCond .eq 11, 3) := by decide +kernel
theorem dX6_begin_12 : decode cX6_begin 12 = .ok (.aload_n 0, 1) := by decide +kernel
theorem dX6_begin_13 : decode cX6_begin 13 = .ok (.iconst 1, 1) := by decide +kernel
theorem dX6_begin_14 : decode cX6_begin 14 = .ok (.invokevirtual 103, 3) := by decide +kernel
theorem dX6_begin_17 : decode cX6_begin 17 = .ok (.goto 8, 3) := by decide +kernel
theorem dX6_begin_20 : decode cX6_begin 20 = .ok (.aload_n 0, 1) := by decide +kernel
theorem dX6_begin_21 : decode cX6_begin 21 = .ok (.iconst 1, 1) := by decide +kernel
theorem dX6_begin_22 : decode cX6_begin 22 = .ok (.invokevirtual 107, 3) := by decide +kernel
theorem dX6_begin_25 : decode cX6_begin 25 = .ok (.ireturn, 1) := by decide +kernel
theorem dX6_retry_0 : decode cX6_retry 0 = .ok (.aload_n 0, 1) := by decide +kernel
theorem dX6_retry_1 : decode cX6_retry 1 = .ok (.iconst 0, 1) := by decide +kernel
theorem dX6_retry_2 : decode cX6_retry 2 = .ok (.putfield 1, 3) := by decide +kernel
theorem dX6_retry_5 : decode cX6_retry 5 = .ok (.aload_n 0, 1) := by decide +kernel
theorem dX6_retry_6 : decode cX6_retry 6 = .ok (.iload_n 1, 1) := by decide +kernel
theorem dX6_retry_7 : decode cX6_retry 7 = .ok (.invokevirtual 110, 3) := by decide +kernel
theorem dX6_retry_10 : decode cX6_retry 10 = .ok (.ifCond .ne 9, 3) := by decide +kernel
theorem dX6_retry_13 : decode cX6_retry 13 = .ok (.aload_n 0, 1) := by decide +kernel
theorem dX6_retry_14 : decode cX6_retry 14 = .ok (.iconst 1, 1) := by decide +kernel
theorem dX6_retry_15 : decode cX6_retry 15 = .ok (.invokevirtual 107, 3) := by decide +kernel
theorem dX6_retry_18 : decode cX6_retry 18 = .ok (.ireturn, 1) := by decide +kernel
theorem dX6_retry_19 : decode cX6_retry 19 = .ok (.aload_n 0, 1) := by decide +kernel
theorem dX6_retry_20 : decode cX6_retry 20 = .ok (.getfield 13, 3) := by decide +kernel
theorem dX6_retry_23 : decode cX6_retry 23 = .ok (.iload_n 1, 1) := by decide +kernel
theorem dX6_retry_24 : decode cX6_retry 24 = .ok (.iaload, 1) := by decide +kernel
theorem dX6_retry_25 : decode cX6_retry 25 = .ok (.iconst 2, 1) := by decide +kernel
theorem dX6_retry_26 : decode cX6_retry 26 = .ok (.if_icmp .ne 19, 3) := by decide +kernel
theorem dX6_retry_29 : decode cX6_retry 29 = .ok (.aload_n 0, 1) := by decide +kernel
theorem dX6_retry_30 : decode cX6_retry 30 = .ok (.getfield 26, 3) := by decide +kernel
theorem dX6_retry_33 : decode cX6_retry 33 = .ok (.iload_n 1, 1) := by decide +kernel
theorem dX6_retry_34 : decode cX6_retry 34 = .ok (.baload, 1) := by decide +kernel
theorem dX6_retry_35 : decode cX6_retry 35 = .ok (.ifCond .ne 10, 3) := by decide +kernel
theorem dX6_retry_38 : decode cX6_retry 38 = .ok (.aload_n 0, 1) := by decide +kernel
theorem dX6_retry_39 : decode cX6_retry 39 = .ok (.invokevirtual 99, 3) := by decide +kernel
theorem dX6_retry_42 : decode cX6_retry 42 = .ok (.ifCond .ne 9, 3) := by decide +kernel
theorem dX6_retry_45 : decode cX6_retry 45 = .ok (.aload_n 0, 1) := by decide +kernel
theorem dX6_retry_46 : decode cX6_retry 46 = .ok (.iconst 2, 1) := by decide +kernel
theorem dX6_retry_47 : decode cX6_retry 47 = .ok (.invokevirtual 107, 3) := by decide +kernel
theorem dX6_retry_50 : decode cX6_retry 50 = .ok (.ireturn, 1) := by decide +kernel
theorem dX6_retry_51 : decode cX6_retry 51 = .ok (.aload_n 0, 1) := by decide +kernel
theorem dX6_retry_52 : decode cX6_retry 52 = .ok (.getfield 26, 3) := by decide +kernel
theorem dX6_retry_55 : decode cX6_retry 55 = .ok (.iload_n 1, 1) := by decide +kernel
theorem dX6_retry_56 : decode cX6_retry 56 = .ok (.iconst 1, 1) := by decide +kernel
theorem dX6_retry_57 : decode cX6_retry 57 = .ok (.bastore, 1) := by decide +kernel
theorem dX6_retry_58 : decode cX6_retry 58 = .ok (.aload_n 0, 1) := by decide +kernel
theorem dX6_retry_59 : decode cX6_retry 59 = .ok (.aload_n 0, 1) := by decide +kernel
theorem dX6_retry_60 : decode cX6_retry 60 = .ok (.getfield 17, 3) := by decide +kernel
theorem dX6_retry_63 : decode cX6_retry 63 = .ok (.iload_n 1, 1) := by decide +kernel
theorem dX6_retry_64 : decode cX6_retry 64 = .ok (.iaload, 1) := by decide +kernel
theorem dX6_retry_65 : decode cX6_retry 65 = .ok (.iconst 1, 1) := by decide +kernel
theorem dX6_retry_66 : decode cX6_retry 66 = .ok (.iadd, 1) := by decide +kernel
theorem dX6_retry_67 : decode cX6_retry 67 = .ok (.invokevirtual 103, 3) := by decide +kernel
theorem dX6_retry_70 : decode cX6_retry 70 = .ok (.ireturn, 1) := by decide +kernel
theorem dX6_viewed_0 : decode cX6_viewed 0 = .ok (.aload_n 0, 1) := by decide +kernel
theorem dX6_viewed_1 : decode cX6_viewed 1 = .ok (.getfield 39, 3) := by decide +kernel
theorem dX6_viewed_4 : decode cX6_viewed 4 = .ok (.bipush 32, 2) := by decide +kernel
theorem dX6_viewed_6 : decode cX6_viewed 6 = .ok (.iload_n 1, 1) := by decide +kernel
theorem dX6_viewed_7 : decode cX6_viewed 7 = .ok (.imul, 1) := by decide +kernel
theorem dX6_viewed_8 : decode cX6_viewed 8 = .ok (.iload_n 2, 1) := by decide +kernel
theorem dX6_viewed_9 : decode cX6_viewed 9 = .ok (.iadd, 1) := by decide +kernel
theorem dX6_viewed_10 : decode cX6_viewed 10 = .ok (.iaload, 1) := by decide +kernel
theorem dX6_viewed_11 : decode cX6_viewed 11 = .ok (.istore_n 3, 1) := by decide +kernel
theorem dX6_viewed_12 : decode cX6_viewed 12 = .ok (.iload_n 3, 1) := by decide +kernel
theorem dX6_viewed_13 : decode cX6_viewed 13 = .ok (.sipush (-5000), 3) := by decide +kernel
theorem dX6_viewed_16 : decode cX6_viewed 16 = .ok (.if_icmp .ne 15, 3) := by decide +kernel
theorem dX6_viewed_19 : decode cX6_viewed 19 = .ok (.aload_n 0, 1) := by decide +kernel
theorem dX6_viewed_20 : decode cX6_viewed 20 = .ok (.aload_n 0, 1) := by decide +kernel
theorem dX6_viewed_21 : decode cX6_viewed 21 = .ok (.getfield 113, 3) := by decide +kernel
theorem dX6_viewed_24 : decode cX6_viewed 24 = .ok (.iload_n 2, 1) := by decide +kernel
theorem dX6_viewed_25 : decode cX6_viewed 25 = .ok (.invokevirtual 116, 3) := by decide +kernel
theorem dX6_viewed_28 : decode cX6_viewed 28 = .ok (.goto 4, 3) := by decide +kernel
theorem dX6_viewed_31 : decode cX6_viewed 31 = .ok (.iload_n 3, 1) := by decide +kernel
theorem dX6_viewed_32 : decode cX6_viewed 32 = .ok (.ireturn, 1) := by decide +kernel
theorem dX6_recordKey_0 : decode cX6_recordKey 0 = .ok (.aload_n 0, 1) := by decide +kernel
theorem dX6_recordKey_1 : decode cX6_recordKey 1 = .ok (.getfield 39, 3) := by decide +kernel
theorem dX6_recordKey_4 : decode cX6_recordKey 4 = .ok (.bipush 32, 2) := by decide +kernel
theorem dX6_recordKey_6 : decode cX6_recordKey 6 = .ok (.iload_n 1, 1) := by decide +kernel
theorem dX6_recordKey_7 : decode cX6_recordKey 7 = .ok (.imul, 1) := by decide +kernel
theorem dX6_recordKey_8 : decode cX6_recordKey 8 = .ok (.iload_n 2, 1) := by decide +kernel
theorem dX6_recordKey_9 : decode cX6_recordKey 9 = .ok (.iadd, 1) := by decide +kernel
theorem dX6_recordKey_10 : decode cX6_recordKey 10 = .ok (.iaload, 1) := by decide +kernel
theorem dX6_recordKey_11 : decode cX6_recordKey 11 = .ok (.sipush (-5000), 3) := by decide +kernel
theorem dX6_recordKey_14 : decode cX6_recordKey 14 = .ok (.if_icmp .ne 33, 3) := by decide +kernel
theorem dX6_recordKey_17 : decode cX6_recordKey 17 = .ok (.aload_n 0, 1) := by decide +kernel
theorem dX6_recordKey_18 : decode cX6_recordKey 18 = .ok (.getfield 36, 3) := by decide +kernel
theorem dX6_recordKey_21 : decode cX6_recordKey 21 = .ok (.bipush 32, 2) := by decide +kernel
theorem dX6_recordKey_23 : decode cX6_recordKey 23 = .ok (.iload_n 1, 1) := by decide +kernel
theorem dX6_recordKey_24 : decode cX6_recordKey 24 = .ok (.imul, 1) := by decide +kernel
theorem dX6_recordKey_25 : decode cX6_recordKey 25 = .ok (.iload_n 2, 1) := by decide +kernel
theorem dX6_recordKey_26 : decode cX6_recordKey 26 = .ok (.iadd, 1) := by decide +kernel
theorem dX6_recordKey_27 : decode cX6_recordKey 27 = .ok (.iaload, 1) := by decide +kernel
theorem dX6_recordKey_28 : decode cX6_recordKey 28 = .ok (.iconst (-1), 1) := by decide +kernel
theorem dX6_recordKey_29 : decode cX6_recordKey 29 = .ok (.if_icmp .ne 18, 3) := by decide +kernel
theorem dX6_recordKey_32 : decode cX6_recordKey 32 = .ok (.aload_n 0, 1) := by decide +kernel
theorem dX6_recordKey_33 : decode cX6_recordKey 33 = .ok (.getfield 36, 3) := by decide +kernel
theorem dX6_recordKey_36 : decode cX6_recordKey 36 = .ok (.bipush 32, 2) := by decide +kernel
theorem dX6_recordKey_38 : decode cX6_recordKey 38 = .ok (.iload_n 1, 1) := by decide +kernel
theorem dX6_recordKey_39 : decode cX6_recordKey 39 = .ok (.imul, 1) := by decide +kernel
theorem dX6_recordKey_40 : decode cX6_recordKey 40 = .ok (.iload_n 2, 1) := by decide +kernel
theorem dX6_recordKey_41 : decode cX6_recordKey 41 = .ok (.iadd, 1) := by decide +kernel
theorem dX6_recordKey_42 : decode cX6_recordKey 42 = .ok (.aload_n 0, 1) := by decide +kernel
theorem dX6_recordKey_43 : decode cX6_recordKey 43 = .ok (.getfield 113, 3) := by decide +kernel
theorem dX6_recordKey_46 : decode cX6_recordKey 46 = .ok (.iastore, 1) := by decide +kernel
theorem dX6_recordKey_47 : decode cX6_recordKey 47 = .ok (.return_, 1) := by decide +kernel
theorem dX6_recordRange_0 : decode cX6_recordRange 0 = .ok (.iconst 4, 1) := by decide +kernel
theorem dX6_recordRange_1 : decode cX6_recordRange 1 = .ok (.bipush 24, 2) := by decide +kernel
theorem dX6_recordRange_3 : decode cX6_recordRange 3 = .ok (.iload_n 1, 1) := by decide +kernel
theorem dX6_recordRange_4 : decode cX6_recordRange 4 = .ok (.imul, 1) := by decide +kernel
theorem dX6_recordRange_5 : decode cX6_recordRange 5 = .ok (.aload_n 0, 1) := by decide +kernel
theorem dX6_recordRange_6 : decode cX6_recordRange 6 = .ok (.getfield 45, 3) := by decide +kernel
theorem dX6_recordRange_9 : decode cX6_recordRange 9 = .ok (.iload_n 1, 1) := by decide +kernel
theorem dX6_recordRange_10 : decode cX6_recordRange 10 = .ok (.iaload, 1) := by decide +kernel
theorem dX6_recordRange_11 : decode cX6_recordRange 11 = .ok (.iadd, 1) := by decide +kernel
theorem dX6_recordRange_12 : decode cX6_recordRange 12 = .ok (.imul, 1) := by decide +kernel
theorem dX6_recordRange_13 : decode cX6_recordRange 13 = .ok (.istore 5, 2) := by decide +kernel
theorem dX6_recordRange_15 : decode cX6_recordRange 15 = .ok (.aload_n 0, 1) := by decide +kernel
theorem dX6_recordRange_16 : decode cX6_recordRange 16 = .ok (.getfield 42, 3) := by decide +kernel
theorem dX6_recordRange_19 : decode cX6_recordRange 19 = .ok (.iload 5, 2) := by decide +kernel
theorem dX6_recordRange_21 : decode cX6_recordRange 21 = .ok (.iload_n 2, 1) := by decide +kernel
theorem dX6_recordRange_22 : decode cX6_recordRange 22 = .ok (.iastore, 1) := by decide +kernel
theorem dX6_recordRange_23 : decode cX6_recordRange 23 = .ok (.aload_n 0, 1) := by decide +kernel
theorem dX6_recordRange_24 : decode cX6_recordRange 24 = .ok (.getfield 42, 3) := by decide +kernel
theorem dX6_recordRange_27 : decode cX6_recordRange 27 = .ok (.iload 5, 2) := by decide +kernel
theorem dX6_recordRange_29 : decode cX6_recordRange 29 = .ok (.iconst 1, 1) := by decide +kernel
theorem dX6_recordRange_30 : decode cX6_recordRange 30 = .ok (.iadd, 1) := by decide +kernel
theorem dX6_recordRange_31 : decode cX6_recordRange 31 = .ok (.iload_n 3, 1) := by decide +kernel
theorem dX6_recordRange_32 : decode cX6_recordRange 32 = .ok (.iastore, 1) := by decide +kernel
theorem dX6_recordRange_33 : decode cX6_recordRange 33 = .ok (.aload_n 0, 1) := by decide +kernel
theorem dX6_recordRange_34 : decode cX6_recordRange 34 = .ok (.getfield 42, 3) := by decide +kernel
theorem dX6_recordRange_37 : decode cX6_recordRange 37 = .ok (.iload 5, 2) := by decide +kernel
theorem dX6_recordRange_39 : decode cX6_recordRange 39 = .ok (.iconst 2, 1) := by decide +kernel
theorem dX6_recordRange_40 : decode cX6_recordRange 40 = .ok (.iadd, 1) := by decide +kernel
theorem dX6_recordRange_41 : decode cX6_recordRange 41 = .ok (.iload 4, 2) := by decide +kernel
theorem dX6_recordRange_43 : decode cX6_recordRange 43 = .ok (.iastore, 1) := by decide +kernel
theorem dX6_recordRange_44 : decode cX6_recordRange 44 = .ok (.aload_n 0, 1) := by decide +kernel
theorem dX6_recordRange_45 : decode cX6_recordRange 45 = .ok (.getfield 42, 3) := by decide +kernel
theorem dX6_recordRange_48 : decode cX6_recordRange 48 = .ok (.iload 5, 2) := by decide +kernel
theorem dX6_recordRange_50 : decode cX6_recordRange 50 = .ok (.iconst 3, 1) := by decide +kernel
theorem dX6_recordRange_51 : decode cX6_recordRange 51 = .ok (.iadd, 1) := by decide +kernel
theorem dX6_recordRange_52 : decode cX6_recordRange 52 = .ok (.aload_n 0, 1) := by decide +kernel
theorem dX6_recordRange_53 : decode cX6_recordRange 53 = .ok (.getfield 113, 3) := by decide +kernel
theorem dX6_recordRange_56 : decode cX6_recordRange 56 = .ok (.iastore, 1) := by decide +kernel
theorem dX6_recordRange_57 : decode cX6_recordRange 57 = .ok (.aload_n 0, 1) := by decide +kernel
theorem dX6_recordRange_58 : decode cX6_recordRange 58 = .ok (.getfield 45, 3) := by decide +kernel
theorem dX6_recordRange_61 : decode cX6_recordRange 61 = .ok (.iload_n 1, 1) := by decide +kernel
theorem dX6_recordRange_62 : decode cX6_recordRange 62 = .ok (.dup2, 1) := by decide +kernel
theorem dX6_recordRange_63 : decode cX6_recordRange 63 = .ok (.iaload, 1) := by decide +kernel
theorem dX6_recordRange_64 : decode cX6_recordRange 64 = .ok (.iconst 1, 1) := by decide +kernel
theorem dX6_recordRange_65 : decode cX6_recordRange 65 = .ok (.iadd, 1) := by decide +kernel
theorem dX6_recordRange_66 : decode cX6_recordRange 66 = .ok (.iastore, 1) := by decide +kernel
theorem dX6_recordRange_67 : decode cX6_recordRange 67 = .ok (.return_, 1) := by decide +kernel
theorem dX6_list_0 : decode cX6_list 0 = .ok (.iconst 5, 1) := by decide +kernel
theorem dX6_list_1 : decode cX6_list 1 = .ok (.bipush 24, 2) := by decide +kernel
theorem dX6_list_3 : decode cX6_list 3 = .ok (.iload_n 1, 1) := by decide +kernel
theorem dX6_list_4 : decode cX6_list 4 = .ok (.imul, 1) := by decide +kernel
theorem dX6_list_5 : decode cX6_list 5 = .ok (.aload_n 0, 1) := by decide +kernel
theorem dX6_list_6 : decode cX6_list 6 = .ok (.getfield 30, 3) := by decide +kernel
theorem dX6_list_9 : decode cX6_list 9 = .ok (.iload_n 1, 1) := by decide +kernel
theorem dX6_list_10 : decode cX6_list 10 = .ok (.iaload, 1) := by decide +kernel
theorem dX6_list_11 : decode cX6_list 11 = .ok (.iadd, 1) := by decide +kernel
theorem dX6_list_12 : decode cX6_list 12 = .ok (.imul, 1) := by decide +kernel
theorem dX6_list_13 : decode cX6_list 13 = .ok (.istore 7, 2) := by decide +kernel
theorem dX6_list_15 : decode cX6_list 15 = .ok (.aload_n 0, 1) := by decide +kernel
theorem dX6_list_16 : decode cX6_list 16 = .ok (.getfield 33, 3) := by decide +kernel
theorem dX6_list_19 : decode cX6_list 19 = .ok (.iload 7, 2) := by decide +kernel
theorem dX6_list_21 : decode cX6_list 21 = .ok (.iload_n 2, 1) := by decide +kernel
theorem dX6_list_22 : decode cX6_list 22 = .ok (.iastore, 1) := by decide +kernel
theorem dX6_list_23 : decode cX6_list 23 = .ok (.aload_n 0, 1) := by decide +kernel
theorem dX6_list_24 : decode cX6_list 24 = .ok (.getfield 33, 3) := by decide +kernel
theorem dX6_list_27 : decode cX6_list 27 = .ok (.iload 7, 2) := by decide +kernel
theorem dX6_list_29 : decode cX6_list 29 = .ok (.iconst 1, 1) := by decide +kernel
theorem dX6_list_30 : decode cX6_list 30 = .ok (.iadd, 1) := by decide +kernel
theorem dX6_list_31 : decode cX6_list 31 = .ok (.iload_n 3, 1) := by decide +kernel
theorem dX6_list_32 : decode cX6_list 32 = .ok (.iastore, 1) := by decide +kernel
theorem dX6_list_33 : decode cX6_list 33 = .ok (.aload_n 0, 1) := by decide +kernel
theorem dX6_list_34 : decode cX6_list 34 = .ok (.getfield 33, 3) := by decide +kernel
theorem dX6_list_37 : decode cX6_list 37 = .ok (.iload 7, 2) := by decide +kernel
theorem dX6_list_39 : decode cX6_list 39 = .ok (.iconst 2, 1) := by decide +kernel
theorem dX6_list_40 : decode cX6_list 40 = .ok (.iadd, 1) := by decide +kernel
theorem dX6_list_41 : decode cX6_list 41 = .ok (.iload 4, 2) := by decide +kernel
theorem dX6_list_43 : decode cX6_list 43 = .ok (.iastore, 1) := by decide +kernel
theorem dX6_list_44 : decode cX6_list 44 = .ok (.aload_n 0, 1) := by decide +kernel
theorem dX6_list_45 : decode cX6_list 45 = .ok (.getfield 33, 3) := by decide +kernel
theorem dX6_list_48 : decode cX6_list 48 = .ok (.iload 7, 2) := by decide +kernel
theorem dX6_list_50 : decode cX6_list 50 = .ok (.iconst 3, 1) := by decide +kernel
theorem dX6_list_51 : decode cX6_list 51 = .ok (.iadd, 1) := by decide +kernel
theorem dX6_list_52 : decode cX6_list 52 = .ok (.iload 5, 2) := by decide +kernel
theorem dX6_list_54 : decode cX6_list 54 = .ok (.iastore, 1) := by decide +kernel
theorem dX6_list_55 : decode cX6_list 55 = .ok (.aload_n 0, 1) := by decide +kernel
theorem dX6_list_56 : decode cX6_list 56 = .ok (.getfield 33, 3) := by decide +kernel
theorem dX6_list_59 : decode cX6_list 59 = .ok (.iload 7, 2) := by decide +kernel
theorem dX6_list_61 : decode cX6_list 61 = .ok (.iconst 4, 1) := by decide +kernel
theorem dX6_list_62 : decode cX6_list 62 = .ok (.iadd, 1) := by decide +kernel
theorem dX6_list_63 : decode cX6_list 63 = .ok (.iload 6, 2) := by decide +kernel
theorem dX6_list_65 : decode cX6_list 65 = .ok (.iastore, 1) := by decide +kernel
theorem dX6_list_66 : decode cX6_list 66 = .ok (.aload_n 0, 1) := by decide +kernel
theorem dX6_list_67 : decode cX6_list 67 = .ok (.getfield 30, 3) := by decide +kernel
theorem dX6_list_70 : decode cX6_list 70 = .ok (.iload_n 1, 1) := by decide +kernel
theorem dX6_list_71 : decode cX6_list 71 = .ok (.dup2, 1) := by decide +kernel
theorem dX6_list_72 : decode cX6_list 72 = .ok (.iaload, 1) := by decide +kernel
theorem dX6_list_73 : decode cX6_list 73 = .ok (.iconst 1, 1) := by decide +kernel
theorem dX6_list_74 : decode cX6_list 74 = .ok (.iadd, 1) := by decide +kernel
theorem dX6_list_75 : decode cX6_list 75 = .ok (.iastore, 1) := by decide +kernel
theorem dX6_list_76 : decode cX6_list 76 = .ok (.return_, 1) := by decide +kernel
theorem dX6_problem_0 : decode cX6_problem 0 = .ok (.aload_n 0, 1) := by decide +kernel
theorem dX6_problem_1 : decode cX6_problem 1 = .ok (.iload_n 1, 1) := by decide +kernel
theorem dX6_problem_2 : decode cX6_problem 2 = .ok (.invokevirtual 110, 3) := by decide +kernel
theorem dX6_problem_5 : decode cX6_problem 5 = .ok (.ifCond .ne 7, 3) := by decide +kernel
theorem dX6_problem_8 : decode cX6_problem 8 = .ok (.iconst 1, 1) := by decide +kernel
theorem dX6_problem_9 : decode cX6_problem 9 = .ok (.goto 36, 3) := by decide +kernel
theorem dX6_problem_12 : decode cX6_problem 12 = .ok (.iload_n 2, 1) := by decide +kernel
theorem dX6_problem_13 : decode cX6_problem 13 = .ok (.ifCond .ne 7, 3) := by decide +kernel
theorem dX6_problem_16 : decode cX6_problem 16 = .ok (.iconst 2, 1) := by decide +kernel
theorem dX6_problem_17 : decode cX6_problem 17 = .ok (.goto 28, 3) := by decide +kernel
theorem dX6_problem_20 : decode cX6_problem 20 = .ok (.aload_n 0, 1) := by decide +kernel
theorem dX6_problem_21 : decode cX6_problem 21 = .ok (.getfield 13, 3) := by decide +kernel
theorem dX6_problem_24 : decode cX6_problem 24 = .ok (.iload_n 1, 1) := by decide +kernel
theorem dX6_problem_25 : decode cX6_problem 25 = .ok (.iaload, 1) := by decide +kernel
theorem dX6_problem_26 : decode cX6_problem 26 = .ok (.ifCond .ne 14, 3) := by decide +kernel
theorem dX6_problem_29 : decode cX6_problem 29 = .ok (.aload_n 0, 1) := by decide +kernel
theorem dX6_problem_30 : decode cX6_problem 30 = .ok (.getfield 30, 3) := by decide +kernel
theorem dX6_problem_33 : decode cX6_problem 33 = .ok (.iload_n 1, 1) := by decide +kernel
theorem dX6_problem_34 : decode cX6_problem 34 = .ok (.iaload, 1) := by decide +kernel
theorem dX6_problem_35 : decode cX6_problem 35 = .ok (.bipush 24, 2) := by decide +kernel
theorem dX6_problem_37 : decode cX6_problem 37 = .ok (.if_icmp .ne 7, 3) := by decide +kernel
theorem dX6_problem_40 : decode cX6_problem 40 = .ok (.iconst 3, 1) := by decide +kernel
theorem dX6_problem_41 : decode cX6_problem 41 = .ok (.goto 4, 3) := by decide +kernel
theorem dX6_problem_44 : decode cX6_problem 44 = .ok (.iconst 0, 1) := by decide +kernel
theorem dX6_problem_45 : decode cX6_problem 45 = .ok (.ireturn, 1) := by decide +kernel
theorem dX6_read_0 : decode cX6_read 0 = .ok (.aload_n 0, 1) := by decide +kernel
theorem dX6_read_1 : decode cX6_read 1 = .ok (.aload_n 0, 1) := by decide +kernel
theorem dX6_read_2 : decode cX6_read 2 = .ok (.iload_n 1, 1) := by decide +kernel
theorem dX6_read_3 : decode cX6_read 3 = .ok (.iload_n 2, 1) := by decide +kernel
theorem dX6_read_4 : decode cX6_read 4 = .ok (.invokestatic 85, 3) := by decide +kernel
theorem dX6_read_7 : decode cX6_read 7 = .ok (.invokevirtual 120, 3) := by decide +kernel
theorem dX6_read_10 : decode cX6_read 10 = .ok (.putfield 1, 3) := by decide +kernel
theorem dX6_read_13 : decode cX6_read 13 = .ok (.aload_n 0, 1) := by decide +kernel
theorem dX6_read_14 : decode cX6_read 14 = .ok (.getfield 1, 3) := by decide +kernel
theorem dX6_read_17 : decode cX6_read 17 = .ok (.ifCond .eq 5, 3) := by decide +kernel
theorem dX6_read_20 : decode cX6_read 20 = .ok (.iconst 0, 1) := by decide +kernel
theorem dX6_read_21 : decode cX6_read 21 = .ok (.ireturn, 1) := by decide +kernel
theorem dX6_read_22 : decode cX6_read 22 = .ok (.aload_n 0, 1) := by decide +kernel
theorem dX6_read_23 : decode cX6_read 23 = .ok (.iload_n 1, 1) := by decide +kernel
theorem dX6_read_24 : decode cX6_read 24 = .ok (.iload_n 2, 1) := by decide +kernel
theorem dX6_read_25 : decode cX6_read 25 = .ok (.invokevirtual 124, 3) := by decide +kernel
theorem dX6_read_28 : decode cX6_read 28 = .ok (.aload_n 0, 1) := by decide +kernel
theorem dX6_read_29 : decode cX6_read 29 = .ok (.iload_n 1, 1) := by decide +kernel
theorem dX6_read_30 : decode cX6_read 30 = .ok (.iload_n 2, 1) := by decide +kernel
theorem dX6_read_31 : decode cX6_read 31 = .ok (.invokevirtual 128, 3) := by decide +kernel
theorem dX6_read_34 : decode cX6_read 34 = .ok (.istore_n 3, 1) := by decide +kernel
theorem dX6_read_35 : decode cX6_read 35 = .ok (.aload_n 0, 1) := by decide +kernel
theorem dX6_read_36 : decode cX6_read 36 = .ok (.iload_n 1, 1) := by decide +kernel
theorem dX6_read_37 : decode cX6_read 37 = .ok (.iconst 0, 1) := by decide +kernel
theorem dX6_read_38 : decode cX6_read 38 = .ok (.iload_n 2, 1) := by decide +kernel
theorem dX6_read_39 : decode cX6_read 39 = .ok (.iconst 0, 1) := by decide +kernel
theorem dX6_read_40 : decode cX6_read 40 = .ok (.iconst 0, 1) := by decide +kernel
theorem dX6_read_41 : decode cX6_read 41 = .ok (.iload_n 3, 1) := by decide +kernel
theorem dX6_read_42 : decode cX6_read 42 = .ok (.invokevirtual 131, 3) := by decide +kernel
theorem dX6_read_45 : decode cX6_read 45 = .ok (.iload_n 3, 1) := by decide +kernel
theorem dX6_read_46 : decode cX6_read 46 = .ok (.ireturn, 1) := by decide +kernel
theorem dX6_counted_0 : decode cX6_counted 0 = .ok (.iconst 0, 1) := by decide +kernel
theorem dX6_counted_1 : decode cX6_counted 1 = .ok (.istore 5, 2) := by decide +kernel
theorem dX6_counted_3 : decode cX6_counted 3 = .ok (.iload_n 2, 1) := by decide +kernel
theorem dX6_counted_4 : decode cX6_counted 4 = .ok (.istore 6, 2) := by decide +kernel
theorem dX6_counted_6 : decode cX6_counted 6 = .ok (.iload 6, 2) := by decide +kernel
theorem dX6_counted_8 : decode cX6_counted 8 = .ok (.iload_n 3, 1) := by decide +kernel
theorem dX6_counted_9 : decode cX6_counted 9 = .ok (.if_icmp .gt 31, 3) := by decide +kernel
theorem dX6_counted_12 : decode cX6_counted 12 = .ok (.iload 5, 2) := by decide +kernel
theorem dX6_counted_14 : decode cX6_counted 14 = .ok (.aload_n 0, 1) := by decide +kernel
theorem dX6_counted_15 : decode cX6_counted 15 = .ok (.iload_n 1, 1) := by decide +kernel
theorem dX6_counted_16 : decode cX6_counted 16 = .ok (.iload 6, 2) := by decide +kernel
theorem dX6_counted_18 : decode cX6_counted 18 = .ok (.invokevirtual 128, 3) := by decide +kernel
theorem dX6_counted_21 : decode cX6_counted 21 = .ok (.iload 4, 2) := by decide +kernel
theorem dX6_counted_23 : decode cX6_counted 23 = .ok (.if_icmp .lt 7, 3) := by decide +kernel
theorem dX6_counted_26 : decode cX6_counted 26 = .ok (.iconst 1, 1) := by decide +kernel
theorem dX6_counted_27 : decode cX6_counted 27 = .ok (.goto 4, 3) := by decide +kernel
theorem dX6_counted_30 : decode cX6_counted 30 = .ok (.iconst 0, 1) := by decide +kernel
theorem dX6_counted_31 : decode cX6_counted 31 = .ok (.iadd, 1) := by decide +kernel
theorem dX6_counted_32 : decode cX6_counted 32 = .ok (.istore 5, 2) := by decide +kernel
theorem dX6_counted_34 : decode cX6_counted 34 = .ok (.iinc 6 1, 3) := by decide +kernel
theorem dX6_counted_37 : decode cX6_counted 37 = .ok (.goto (-31), 3) := by decide +kernel
theorem dX6_counted_40 : decode cX6_counted 40 = .ok (.iload 5, 2) := by decide +kernel
theorem dX6_counted_42 : decode cX6_counted 42 = .ok (.ireturn, 1) := by decide +kernel
theorem dX6_scan_0 : decode cX6_scan 0 = .ok (.aload_n 0, 1) := by decide +kernel
theorem dX6_scan_1 : decode cX6_scan 1 = .ok (.aload_n 0, 1) := by decide +kernel
theorem dX6_scan_2 : decode cX6_scan 2 = .ok (.iload_n 1, 1) := by decide +kernel
theorem dX6_scan_3 : decode cX6_scan 3 = .ok (.iload_n 2, 1) := by decide +kernel
theorem dX6_scan_4 : decode cX6_scan 4 = .ok (.iload_n 3, 1) := by decide +kernel
theorem dX6_scan_5 : decode cX6_scan 5 = .ok (.invokestatic 135, 3) := by decide +kernel
theorem dX6_scan_8 : decode cX6_scan 8 = .ok (.ifCond .eq 21, 3) := by decide +kernel
theorem dX6_scan_11 : decode cX6_scan 11 = .ok (.iload 4, 2) := by decide +kernel
theorem dX6_scan_13 : decode cX6_scan 13 = .ok (.sipush (-999), 3) := by decide +kernel
theorem dX6_scan_16 : decode cX6_scan 16 = .ok (.sipush 999, 3) := by decide +kernel
theorem dX6_scan_19 : decode cX6_scan 19 = .ok (.invokestatic 81, 3) := by decide +kernel
theorem dX6_scan_22 : decode cX6_scan 22 = .ok (.ifCond .eq 7, 3) := by decide +kernel
theorem dX6_scan_25 : decode cX6_scan 25 = .ok (.iconst 1, 1) := by decide +kernel
theorem dX6_scan_26 : decode cX6_scan 26 = .ok (.goto 4, 3) := by decide +kernel
theorem dX6_scan_29 : decode cX6_scan 29 = .ok (.iconst 0, 1) := by decide +kernel
theorem dX6_scan_30 : decode cX6_scan 30 = .ok (.invokevirtual 120, 3) := by decide +kernel
theorem dX6_scan_33 : decode cX6_scan 33 = .ok (.putfield 1, 3) := by decide +kernel
theorem dX6_scan_36 : decode cX6_scan 36 = .ok (.aload_n 0, 1) := by decide +kernel
theorem dX6_scan_37 : decode cX6_scan 37 = .ok (.getfield 1, 3) := by decide +kernel
theorem dX6_scan_40 : decode cX6_scan 40 = .ok (.ifCond .eq 5, 3) := by decide +kernel
theorem dX6_scan_43 : decode cX6_scan 43 = .ok (.iconst 0, 1) := by decide +kernel
theorem dX6_scan_44 : decode cX6_scan 44 = .ok (.ireturn, 1) := by decide +kernel
theorem dX6_scan_45 : decode cX6_scan 45 = .ok (.aload_n 0, 1) := by decide +kernel
theorem dX6_scan_46 : decode cX6_scan 46 = .ok (.iload_n 1, 1) := by decide +kernel
theorem dX6_scan_47 : decode cX6_scan 47 = .ok (.iload_n 2, 1) := by decide +kernel
theorem dX6_scan_48 : decode cX6_scan 48 = .ok (.iload_n 3, 1) := by decide +kernel
theorem dX6_scan_49 : decode cX6_scan 49 = .ok (.iload 4, 2) := by decide +kernel
theorem dX6_scan_51 : decode cX6_scan 51 = .ok (.invokevirtual 139, 3) := by decide +kernel
theorem dX6_scan_54 : decode cX6_scan 54 = .ok (.aload_n 0, 1) := by decide +kernel
theorem dX6_scan_55 : decode cX6_scan 55 = .ok (.iload_n 1, 1) := by decide +kernel
theorem dX6_scan_56 : decode cX6_scan 56 = .ok (.iload_n 2, 1) := by decide +kernel
theorem dX6_scan_57 : decode cX6_scan 57 = .ok (.iload_n 3, 1) := by decide +kernel
theorem dX6_scan_58 : decode cX6_scan 58 = .ok (.iload 4, 2) := by decide +kernel
theorem dX6_scan_60 : decode cX6_scan 60 = .ok (.invokevirtual 143, 3) := by decide +kernel
theorem dX6_scan_63 : decode cX6_scan 63 = .ok (.istore 5, 2) := by decide +kernel
theorem dX6_scan_65 : decode cX6_scan 65 = .ok (.aload_n 0, 1) := by decide +kernel
theorem dX6_scan_66 : decode cX6_scan 66 = .ok (.iload_n 1, 1) := by decide +kernel
theorem dX6_scan_67 : decode cX6_scan 67 = .ok (.iconst 1, 1) := by decide +kernel
theorem dX6_scan_68 : decode cX6_scan 68 = .ok (.iload_n 2, 1) := by decide +kernel
theorem dX6_scan_69 : decode cX6_scan 69 = .ok (.iload_n 3, 1) := by decide +kernel
theorem dX6_scan_70 : decode cX6_scan 70 = .ok (.iload 4, 2) := by decide +kernel
theorem dX6_scan_72 : decode cX6_scan 72 = .ok (.iload 5, 2) := by decide +kernel
theorem dX6_scan_74 : decode cX6_scan 74 = .ok (.invokevirtual 131, 3) := by decide +kernel
theorem dX6_scan_77 : decode cX6_scan 77 = .ok (.iload 5, 2) := by decide +kernel
theorem dX6_scan_79 : decode cX6_scan 79 = .ok (.ireturn, 1) := by decide +kernel
theorem dX6_summed_0 : decode cX6_summed 0 = .ok (.iconst 0, 1) := by decide +kernel
theorem dX6_summed_1 : decode cX6_summed 1 = .ok (.istore 4, 2) := by decide +kernel
theorem dX6_summed_3 : decode cX6_summed 3 = .ok (.iload_n 2, 1) := by decide +kernel
theorem dX6_summed_4 : decode cX6_summed 4 = .ok (.istore 5, 2) := by decide +kernel
theorem dX6_summed_6 : decode cX6_summed 6 = .ok (.iload 5, 2) := by decide +kernel
theorem dX6_summed_8 : decode cX6_summed 8 = .ok (.iload_n 3, 1) := by decide +kernel
theorem dX6_summed_9 : decode cX6_summed 9 = .ok (.if_icmp .gt 37, 3) := by decide +kernel
theorem dX6_summed_12 : decode cX6_summed 12 = .ok (.aload_n 0, 1) := by decide +kernel
theorem dX6_summed_13 : decode cX6_summed 13 = .ok (.iload_n 1, 1) := by decide +kernel
theorem dX6_summed_14 : decode cX6_summed 14 = .ok (.iload 5, 2) := by decide +kernel
theorem dX6_summed_16 : decode cX6_summed 16 = .ok (.invokevirtual 128, 3) := by decide +kernel
theorem dX6_summed_19 : decode cX6_summed 19 = .ok (.istore 6, 2) := by decide +kernel
theorem dX6_summed_21 : decode cX6_summed 21 = .ok (.iload 4, 2) := by decide +kernel
theorem dX6_summed_23 : decode cX6_summed 23 = .ok (.iload 6, 2) := by decide +kernel
theorem dX6_summed_25 : decode cX6_summed 25 = .ok (.sipush (-1000), 3) := by decide +kernel
theorem dX6_summed_28 : decode cX6_summed 28 = .ok (.if_icmp .ne 7, 3) := by decide +kernel
theorem dX6_summed_31 : decode cX6_summed 31 = .ok (.iconst 0, 1) := by decide +kernel
theorem dX6_summed_32 : decode cX6_summed 32 = .ok (.goto 5, 3) := by decide +kernel
theorem dX6_summed_35 : decode cX6_summed 35 = .ok (.iload 6, 2) := by decide +kernel
theorem dX6_summed_37 : decode cX6_summed 37 = .ok (.iadd, 1) := by decide +kernel
theorem dX6_summed_38 : decode cX6_summed 38 = .ok (.istore 4, 2) := by decide +kernel
theorem dX6_summed_40 : decode cX6_summed 40 = .ok (.iinc 5 1, 3) := by decide +kernel
theorem dX6_summed_43 : decode cX6_summed 43 = .ok (.goto (-37), 3) := by decide +kernel
theorem dX6_summed_46 : decode cX6_summed 46 = .ok (.iload 4, 2) := by decide +kernel
theorem dX6_summed_48 : decode cX6_summed 48 = .ok (.ireturn, 1) := by decide +kernel
theorem dX6_sum_0 : decode cX6_sum 0 = .ok (.aload_n 0, 1) := by decide +kernel
theorem dX6_sum_1 : decode cX6_sum 1 = .ok (.aload_n 0, 1) := by decide +kernel
theorem dX6_sum_2 : decode cX6_sum 2 = .ok (.iload_n 1, 1) := by decide +kernel
theorem dX6_sum_3 : decode cX6_sum 3 = .ok (.iload_n 2, 1) := by decide +kernel
theorem dX6_sum_4 : decode cX6_sum 4 = .ok (.iload_n 3, 1) := by decide +kernel
theorem dX6_sum_5 : decode cX6_sum 5 = .ok (.invokestatic 135, 3) := by decide +kernel
theorem dX6_sum_8 : decode cX6_sum 8 = .ok (.invokevirtual 120, 3) := by decide +kernel
theorem dX6_sum_11 : decode cX6_sum 11 = .ok (.putfield 1, 3) := by decide +kernel
theorem dX6_sum_14 : decode cX6_sum 14 = .ok (.aload_n 0, 1) := by decide +kernel
theorem dX6_sum_15 : decode cX6_sum 15 = .ok (.getfield 1, 3) := by decide +kernel
theorem dX6_sum_18 : decode cX6_sum 18 = .ok (.ifCond .eq 5, 3) := by decide +kernel
theorem dX6_sum_21 : decode cX6_sum 21 = .ok (.iconst 0, 1) := by decide +kernel
theorem dX6_sum_22 : decode cX6_sum 22 = .ok (.ireturn, 1) := by decide +kernel
theorem dX6_sum_23 : decode cX6_sum 23 = .ok (.aload_n 0, 1) := by decide +kernel
theorem dX6_sum_24 : decode cX6_sum 24 = .ok (.iload_n 1, 1) := by decide +kernel
theorem dX6_sum_25 : decode cX6_sum 25 = .ok (.iload_n 2, 1) := by decide +kernel
theorem dX6_sum_26 : decode cX6_sum 26 = .ok (.iload_n 3, 1) := by decide +kernel
theorem dX6_sum_27 : decode cX6_sum 27 = .ok (.sipush (-999), 3) := by decide +kernel
theorem dX6_sum_30 : decode cX6_sum 30 = .ok (.invokevirtual 139, 3) := by decide +kernel
theorem dX6_sum_33 : decode cX6_sum 33 = .ok (.aload_n 0, 1) := by decide +kernel
theorem dX6_sum_34 : decode cX6_sum 34 = .ok (.iload_n 1, 1) := by decide +kernel
theorem dX6_sum_35 : decode cX6_sum 35 = .ok (.iload_n 2, 1) := by decide +kernel
theorem dX6_sum_36 : decode cX6_sum 36 = .ok (.iload_n 3, 1) := by decide +kernel
theorem dX6_sum_37 : decode cX6_sum 37 = .ok (.invokevirtual 147, 3) := by decide +kernel
theorem dX6_sum_40 : decode cX6_sum 40 = .ok (.istore 4, 2) := by decide +kernel
theorem dX6_sum_42 : decode cX6_sum 42 = .ok (.aload_n 0, 1) := by decide +kernel
theorem dX6_sum_43 : decode cX6_sum 43 = .ok (.iload_n 1, 1) := by decide +kernel
theorem dX6_sum_44 : decode cX6_sum 44 = .ok (.iconst 2, 1) := by decide +kernel
theorem dX6_sum_45 : decode cX6_sum 45 = .ok (.iload_n 2, 1) := by decide +kernel
theorem dX6_sum_46 : decode cX6_sum 46 = .ok (.iload_n 3, 1) := by decide +kernel
theorem dX6_sum_47 : decode cX6_sum 47 = .ok (.iconst 0, 1) := by decide +kernel
theorem dX6_sum_48 : decode cX6_sum 48 = .ok (.iload 4, 2) := by decide +kernel
theorem dX6_sum_50 : decode cX6_sum 50 = .ok (.invokevirtual 131, 3) := by decide +kernel
theorem dX6_sum_53 : decode cX6_sum 53 = .ok (.iload 4, 2) := by decide +kernel
theorem dX6_sum_55 : decode cX6_sum 55 = .ok (.ireturn, 1) := by decide +kernel
theorem dX6_write_0 : decode cX6_write 0 = .ok (.aload_n 0, 1) := by decide +kernel
theorem dX6_write_1 : decode cX6_write 1 = .ok (.aload_n 0, 1) := by decide +kernel
theorem dX6_write_2 : decode cX6_write 2 = .ok (.iload_n 1, 1) := by decide +kernel
theorem dX6_write_3 : decode cX6_write 3 = .ok (.iload_n 2, 1) := by decide +kernel
theorem dX6_write_4 : decode cX6_write 4 = .ok (.invokestatic 85, 3) := by decide +kernel
theorem dX6_write_7 : decode cX6_write 7 = .ok (.ifCond .eq 20, 3) := by decide +kernel
theorem dX6_write_10 : decode cX6_write 10 = .ok (.iload_n 3, 1) := by decide +kernel
theorem dX6_write_11 : decode cX6_write 11 = .ok (.sipush (-999), 3) := by decide +kernel
theorem dX6_write_14 : decode cX6_write 14 = .ok (.sipush 999, 3) := by decide +kernel
theorem dX6_write_17 : decode cX6_write 17 = .ok (.invokestatic 81, 3) := by decide +kernel
theorem dX6_write_20 : decode cX6_write 20 = .ok (.ifCond .eq 7, 3) := by decide +kernel
theorem dX6_write_23 : decode cX6_write 23 = .ok (.iconst 1, 1) := by decide +kernel
theorem dX6_write_24 : decode cX6_write 24 = .ok (.goto 4, 3) := by decide +kernel
theorem dX6_write_27 : decode cX6_write 27 = .ok (.iconst 0, 1) := by decide +kernel
theorem dX6_write_28 : decode cX6_write 28 = .ok (.invokevirtual 120, 3) := by decide +kernel
theorem dX6_write_31 : decode cX6_write 31 = .ok (.putfield 1, 3) := by decide +kernel
theorem dX6_write_34 : decode cX6_write 34 = .ok (.aload_n 0, 1) := by decide +kernel
theorem dX6_write_35 : decode cX6_write 35 = .ok (.getfield 1, 3) := by decide +kernel
theorem dX6_write_38 : decode cX6_write 38 = .ok (.ifCond .ne 25, 3) := by decide +kernel
theorem dX6_write_41 : decode cX6_write 41 = .ok (.aload_n 0, 1) := by decide +kernel
theorem dX6_write_42 : decode cX6_write 42 = .ok (.getfield 39, 3) := by decide +kernel
theorem dX6_write_45 : decode cX6_write 45 = .ok (.bipush 32, 2) := by decide +kernel
theorem dX6_write_47 : decode cX6_write 47 = .ok (.iload_n 1, 1) := by decide +kernel
theorem dX6_write_48 : decode cX6_write 48 = .ok (.imul, 1) := by decide +kernel
theorem dX6_write_49 : decode cX6_write 49 = .ok (.iload_n 2, 1) := by decide +kernel
theorem dX6_write_50 : decode cX6_write 50 = .ok (.iadd, 1) := by decide +kernel
theorem dX6_write_51 : decode cX6_write 51 = .ok (.iload_n 3, 1) := by decide +kernel
theorem dX6_write_52 : decode cX6_write 52 = .ok (.iastore, 1) := by decide +kernel
theorem dX6_write_53 : decode cX6_write 53 = .ok (.aload_n 0, 1) := by decide +kernel
theorem dX6_write_54 : decode cX6_write 54 = .ok (.iload_n 1, 1) := by decide +kernel
theorem dX6_write_55 : decode cX6_write 55 = .ok (.iconst 3, 1) := by decide +kernel
theorem dX6_write_56 : decode cX6_write 56 = .ok (.iload_n 2, 1) := by decide +kernel
theorem dX6_write_57 : decode cX6_write 57 = .ok (.iload_n 3, 1) := by decide +kernel
theorem dX6_write_58 : decode cX6_write 58 = .ok (.iconst 0, 1) := by decide +kernel
theorem dX6_write_59 : decode cX6_write 59 = .ok (.iconst 0, 1) := by decide +kernel
theorem dX6_write_60 : decode cX6_write 60 = .ok (.invokevirtual 131, 3) := by decide +kernel
theorem dX6_write_63 : decode cX6_write 63 = .ok (.return_, 1) := by decide +kernel
theorem dX6_remove_0 : decode cX6_remove 0 = .ok (.aload_n 0, 1) := by decide +kernel
theorem dX6_remove_1 : decode cX6_remove 1 = .ok (.aload_n 0, 1) := by decide +kernel
theorem dX6_remove_2 : decode cX6_remove 2 = .ok (.iload_n 1, 1) := by decide +kernel
theorem dX6_remove_3 : decode cX6_remove 3 = .ok (.iload_n 2, 1) := by decide +kernel
theorem dX6_remove_4 : decode cX6_remove 4 = .ok (.invokestatic 85, 3) := by decide +kernel
theorem dX6_remove_7 : decode cX6_remove 7 = .ok (.invokevirtual 120, 3) := by decide +kernel
theorem dX6_remove_10 : decode cX6_remove 10 = .ok (.putfield 1, 3) := by decide +kernel
theorem dX6_remove_13 : decode cX6_remove 13 = .ok (.aload_n 0, 1) := by decide +kernel
theorem dX6_remove_14 : decode cX6_remove 14 = .ok (.getfield 1, 3) := by decide +kernel
theorem dX6_remove_17 : decode cX6_remove 17 = .ok (.ifCond .ne 27, 3) := by decide +kernel
theorem dX6_remove_20 : decode cX6_remove 20 = .ok (.aload_n 0, 1) := by decide +kernel
theorem dX6_remove_21 : decode cX6_remove 21 = .ok (.getfield 39, 3) := by decide +kernel
theorem dX6_remove_24 : decode cX6_remove 24 = .ok (.bipush 32, 2) := by decide +kernel
theorem dX6_remove_26 : decode cX6_remove 26 = .ok (.iload_n 1, 1) := by decide +kernel
theorem dX6_remove_27 : decode cX6_remove 27 = .ok (.imul, 1) := by decide +kernel
theorem dX6_remove_28 : decode cX6_remove 28 = .ok (.iload_n 2, 1) := by decide +kernel
theorem dX6_remove_29 : decode cX6_remove 29 = .ok (.iadd, 1) := by decide +kernel
theorem dX6_remove_30 : decode cX6_remove 30 = .ok (.sipush (-1000), 3) := by decide +kernel
theorem dX6_remove_33 : decode cX6_remove 33 = .ok (.iastore, 1) := by decide +kernel
theorem dX6_remove_34 : decode cX6_remove 34 = .ok (.aload_n 0, 1) := by decide +kernel
theorem dX6_remove_35 : decode cX6_remove 35 = .ok (.iload_n 1, 1) := by decide +kernel
theorem dX6_remove_36 : decode cX6_remove 36 = .ok (.iconst 4, 1) := by decide +kernel
theorem dX6_remove_37 : decode cX6_remove 37 = .ok (.iload_n 2, 1) := by decide +kernel
theorem dX6_remove_38 : decode cX6_remove 38 = .ok (.iconst 0, 1) := by decide +kernel
theorem dX6_remove_39 : decode cX6_remove 39 = .ok (.iconst 0, 1) := by decide +kernel
theorem dX6_remove_40 : decode cX6_remove 40 = .ok (.iconst 0, 1) := by decide +kernel
theorem dX6_remove_41 : decode cX6_remove 41 = .ok (.invokevirtual 131, 3) := by decide +kernel
theorem dX6_remove_44 : decode cX6_remove 44 = .ok (.return_, 1) := by decide +kernel
theorem dX6_addedTo_0 : decode cX6_addedTo 0 = .ok (.iload_n 1, 1) := by decide +kernel
theorem dX6_addedTo_1 : decode cX6_addedTo 1 = .ok (.sipush (-1000), 3) := by decide +kernel
theorem dX6_addedTo_4 : decode cX6_addedTo 4 = .ok (.if_icmp .ne 7, 3) := by decide +kernel
theorem dX6_addedTo_7 : decode cX6_addedTo 7 = .ok (.iconst 0, 1) := by decide +kernel
theorem dX6_addedTo_8 : decode cX6_addedTo 8 = .ok (.goto 4, 3) := by decide +kernel
theorem dX6_addedTo_11 : decode cX6_addedTo 11 = .ok (.iload_n 1, 1) := by decide +kernel
theorem dX6_addedTo_12 : decode cX6_addedTo 12 = .ok (.iload_n 2, 1) := by decide +kernel
theorem dX6_addedTo_13 : decode cX6_addedTo 13 = .ok (.iadd, 1) := by decide +kernel
theorem dX6_addedTo_14 : decode cX6_addedTo 14 = .ok (.ireturn, 1) := by decide +kernel
theorem dX6_add_0 : decode cX6_add 0 = .ok (.aload_n 0, 1) := by decide +kernel
theorem dX6_add_1 : decode cX6_add 1 = .ok (.aload_n 0, 1) := by decide +kernel
theorem dX6_add_2 : decode cX6_add 2 = .ok (.iload_n 1, 1) := by decide +kernel
theorem dX6_add_3 : decode cX6_add 3 = .ok (.iload_n 2, 1) := by decide +kernel
theorem dX6_add_4 : decode cX6_add 4 = .ok (.invokestatic 85, 3) := by decide +kernel
theorem dX6_add_7 : decode cX6_add 7 = .ok (.ifCond .eq 20, 3) := by decide +kernel
theorem dX6_add_10 : decode cX6_add 10 = .ok (.iload_n 3, 1) := by decide +kernel
theorem dX6_add_11 : decode cX6_add 11 = .ok (.sipush (-999), 3) := by decide +kernel
theorem dX6_add_14 : decode cX6_add 14 = .ok (.sipush 999, 3) := by decide +kernel
theorem dX6_add_17 : decode cX6_add 17 = .ok (.invokestatic 81, 3) := by decide +kernel
theorem dX6_add_20 : decode cX6_add 20 = .ok (.ifCond .eq 7, 3) := by decide +kernel
theorem dX6_add_23 : decode cX6_add 23 = .ok (.iconst 1, 1) := by decide +kernel
theorem dX6_add_24 : decode cX6_add 24 = .ok (.goto 4, 3) := by decide +kernel
theorem dX6_add_27 : decode cX6_add 27 = .ok (.iconst 0, 1) := by decide +kernel
theorem dX6_add_28 : decode cX6_add 28 = .ok (.invokevirtual 120, 3) := by decide +kernel
theorem dX6_add_31 : decode cX6_add 31 = .ok (.putfield 1, 3) := by decide +kernel
theorem dX6_add_34 : decode cX6_add 34 = .ok (.aload_n 0, 1) := by decide +kernel
theorem dX6_add_35 : decode cX6_add 35 = .ok (.getfield 1, 3) := by decide +kernel
theorem dX6_add_38 : decode cX6_add 38 = .ok (.ifCond .eq 5, 3) := by decide +kernel
theorem dX6_add_41 : decode cX6_add 41 = .ok (.iconst 0, 1) := by decide +kernel
theorem dX6_add_42 : decode cX6_add 42 = .ok (.ireturn, 1) := by decide +kernel
theorem dX6_add_43 : decode cX6_add 43 = .ok (.aload_n 0, 1) := by decide +kernel
theorem dX6_add_44 : decode cX6_add 44 = .ok (.aload_n 0, 1) := by decide +kernel
theorem dX6_add_45 : decode cX6_add 45 = .ok (.iload_n 1, 1) := by decide +kernel
theorem dX6_add_46 : decode cX6_add 46 = .ok (.iload_n 2, 1) := by decide +kernel
theorem dX6_add_47 : decode cX6_add 47 = .ok (.invokevirtual 128, 3) := by decide +kernel
theorem dX6_add_50 : decode cX6_add 50 = .ok (.iload_n 3, 1) := by decide +kernel
theorem dX6_add_51 : decode cX6_add 51 = .ok (.invokevirtual 151, 3) := by decide +kernel
theorem dX6_add_54 : decode cX6_add 54 = .ok (.istore 4, 2) := by decide +kernel
theorem dX6_add_56 : decode cX6_add 56 = .ok (.iload 4, 2) := by decide +kernel
theorem dX6_add_58 : decode cX6_add 58 = .ok (.sipush (-999), 3) := by decide +kernel
theorem dX6_add_61 : decode cX6_add 61 = .ok (.sipush 999, 3) := by decide +kernel
theorem dX6_add_64 : decode cX6_add 64 = .ok (.invokestatic 81, 3) := by decide +kernel
theorem dX6_add_67 : decode cX6_add 67 = .ok (.ifCond .ne 9, 3) := by decide +kernel
theorem dX6_add_70 : decode cX6_add 70 = .ok (.aload_n 0, 1) := by decide +kernel
theorem dX6_add_71 : decode cX6_add 71 = .ok (.iconst 4, 1) := by decide +kernel
theorem dX6_add_72 : decode cX6_add 72 = .ok (.invokevirtual 107, 3) := by decide +kernel
theorem dX6_add_75 : decode cX6_add 75 = .ok (.ireturn, 1) := by decide +kernel
theorem dX6_add_76 : decode cX6_add 76 = .ok (.aload_n 0, 1) := by decide +kernel
theorem dX6_add_77 : decode cX6_add 77 = .ok (.iload_n 1, 1) := by decide +kernel
theorem dX6_add_78 : decode cX6_add 78 = .ok (.iload_n 2, 1) := by decide +kernel
theorem dX6_add_79 : decode cX6_add 79 = .ok (.invokevirtual 124, 3) := by decide +kernel
theorem dX6_add_82 : decode cX6_add 82 = .ok (.aload_n 0, 1) := by decide +kernel
theorem dX6_add_83 : decode cX6_add 83 = .ok (.getfield 39, 3) := by decide +kernel
theorem dX6_add_86 : decode cX6_add 86 = .ok (.bipush 32, 2) := by decide +kernel
theorem dX6_add_88 : decode cX6_add 88 = .ok (.iload_n 1, 1) := by decide +kernel
theorem dX6_add_89 : decode cX6_add 89 = .ok (.imul, 1) := by decide +kernel
theorem dX6_add_90 : decode cX6_add 90 = .ok (.iload_n 2, 1) := by decide +kernel
theorem dX6_add_91 : decode cX6_add 91 = .ok (.iadd, 1) := by decide +kernel
theorem dX6_add_92 : decode cX6_add 92 = .ok (.iload 4, 2) := by decide +kernel
theorem dX6_add_94 : decode cX6_add 94 = .ok (.iastore, 1) := by decide +kernel
theorem dX6_add_95 : decode cX6_add 95 = .ok (.aload_n 0, 1) := by decide +kernel
theorem dX6_add_96 : decode cX6_add 96 = .ok (.iload_n 1, 1) := by decide +kernel
theorem dX6_add_97 : decode cX6_add 97 = .ok (.iconst 5, 1) := by decide +kernel
theorem dX6_add_98 : decode cX6_add 98 = .ok (.iload_n 2, 1) := by decide +kernel
theorem dX6_add_99 : decode cX6_add 99 = .ok (.iload_n 3, 1) := by decide +kernel
theorem dX6_add_100 : decode cX6_add 100 = .ok (.iconst 0, 1) := by decide +kernel
theorem dX6_add_101 : decode cX6_add 101 = .ok (.iload 4, 2) := by decide +kernel
theorem dX6_add_103 : decode cX6_add 103 = .ok (.invokevirtual 131, 3) := by decide +kernel
theorem dX6_add_106 : decode cX6_add 106 = .ok (.iload 4, 2) := by decide +kernel
theorem dX6_add_108 : decode cX6_add 108 = .ok (.ireturn, 1) := by decide +kernel
theorem dX6_touches_0 : decode cX6_touches 0 = .ok (.iload_n 2, 1) := by decide +kernel
theorem dX6_touches_1 : decode cX6_touches 1 = .ok (.aload_n 0, 1) := by decide +kernel
theorem dX6_touches_2 : decode cX6_touches 2 = .ok (.getfield 42, 3) := by decide +kernel
theorem dX6_touches_5 : decode cX6_touches 5 = .ok (.iload_n 1, 1) := by decide +kernel
theorem dX6_touches_6 : decode cX6_touches 6 = .ok (.iaload, 1) := by decide +kernel
theorem dX6_touches_7 : decode cX6_touches 7 = .ok (.aload_n 0, 1) := by decide +kernel
theorem dX6_touches_8 : decode cX6_touches 8 = .ok (.getfield 42, 3) := by decide +kernel
theorem dX6_touches_11 : decode cX6_touches 11 = .ok (.iload_n 1, 1) := by decide +kernel
theorem dX6_touches_12 : decode cX6_touches 12 = .ok (.iconst 1, 1) := by decide +kernel
theorem dX6_touches_13 : decode cX6_touches 13 = .ok (.iadd, 1) := by decide +kernel
theorem dX6_touches_14 : decode cX6_touches 14 = .ok (.iaload, 1) := by decide +kernel
theorem dX6_touches_15 : decode cX6_touches 15 = .ok (.invokestatic 81, 3) := by decide +kernel
theorem dX6_touches_18 : decode cX6_touches 18 = .ok (.ifCond .eq 32, 3) := by decide +kernel
theorem dX6_touches_21 : decode cX6_touches 21 = .ok (.iload_n 3, 1) := by decide +kernel
theorem dX6_touches_22 : decode cX6_touches 22 = .ok (.aload_n 0, 1) := by decide +kernel
theorem dX6_touches_23 : decode cX6_touches 23 = .ok (.getfield 42, 3) := by decide +kernel
theorem dX6_touches_26 : decode cX6_touches 26 = .ok (.iload_n 1, 1) := by decide +kernel
theorem dX6_touches_27 : decode cX6_touches 27 = .ok (.iconst 2, 1) := by decide +kernel
theorem dX6_touches_28 : decode cX6_touches 28 = .ok (.iadd, 1) := by decide +kernel
theorem dX6_touches_29 : decode cX6_touches 29 = .ok (.iaload, 1) := by decide +kernel
theorem dX6_touches_30 : decode cX6_touches 30 = .ok (.if_icmp .ge 16, 3) := by decide +kernel
theorem dX6_touches_33 : decode cX6_touches 33 = .ok (.iload 4, 2) := by decide +kernel
theorem dX6_touches_35 : decode cX6_touches 35 = .ok (.aload_n 0, 1) := by decide +kernel
theorem dX6_touches_36 : decode cX6_touches 36 = .ok (.getfield 42, 3) := by decide +kernel
theorem dX6_touches_39 : decode cX6_touches 39 = .ok (.iload_n 1, 1) := by decide +kernel
theorem dX6_touches_40 : decode cX6_touches 40 = .ok (.iconst 2, 1) := by decide +kernel
theorem dX6_touches_41 : decode cX6_touches 41 = .ok (.iadd, 1) := by decide +kernel
theorem dX6_touches_42 : decode cX6_touches 42 = .ok (.iaload, 1) := by decide +kernel
theorem dX6_touches_43 : decode cX6_touches 43 = .ok (.if_icmp .lt 7, 3) := by decide +kernel
theorem dX6_touches_46 : decode cX6_touches 46 = .ok (.iconst 1, 1) := by decide +kernel
theorem dX6_touches_47 : decode cX6_touches 47 = .ok (.goto 4, 3) := by decide +kernel
theorem dX6_touches_50 : decode cX6_touches 50 = .ok (.iconst 0, 1) := by decide +kernel
theorem dX6_touches_51 : decode cX6_touches 51 = .ok (.ireturn, 1) := by decide +kernel
theorem dX6_touchesAny_0 : decode cX6_touchesAny 0 = .ok (.iconst 0, 1) := by decide +kernel
theorem dX6_touchesAny_1 : decode cX6_touchesAny 1 = .ok (.istore 6, 2) := by decide +kernel
theorem dX6_touchesAny_3 : decode cX6_touchesAny 3 = .ok (.iconst 0, 1) := by decide +kernel
theorem dX6_touchesAny_4 : decode cX6_touchesAny 4 = .ok (.istore 7, 2) := by decide +kernel
theorem dX6_touchesAny_6 : decode cX6_touchesAny 6 = .ok (.iload 7, 2) := by decide +kernel
theorem dX6_touchesAny_8 : decode cX6_touchesAny 8 = .ok (.aload_n 0, 1) := by decide +kernel
theorem dX6_touchesAny_9 : decode cX6_touchesAny 9 = .ok (.getfield 45, 3) := by decide +kernel
theorem dX6_touchesAny_12 : decode cX6_touchesAny 12 = .ok (.iload_n 1, 1) := by decide +kernel
theorem dX6_touchesAny_13 : decode cX6_touchesAny 13 = .ok (.iaload, 1) := by decide +kernel
theorem dX6_touchesAny_14 : decode cX6_touchesAny 14 = .ok (.if_icmp .ge 59, 3) := by decide +kernel
theorem dX6_touchesAny_17 : decode cX6_touchesAny 17 = .ok (.iconst 4, 1) := by decide +kernel
theorem dX6_touchesAny_18 : decode cX6_touchesAny 18 = .ok (.bipush 24, 2) := by decide +kernel
theorem dX6_touchesAny_20 : decode cX6_touchesAny 20 = .ok (.iload_n 1, 1) := by decide +kernel
theorem dX6_touchesAny_21 : decode cX6_touchesAny 21 = .ok (.imul, 1) := by decide +kernel
theorem dX6_touchesAny_22 : decode cX6_touchesAny 22 = .ok (.iload 7, 2) := by decide +kernel
theorem dX6_touchesAny_24 : decode cX6_touchesAny 24 = .ok (.iadd, 1) := by decide +kernel
theorem dX6_touchesAny_25 : decode cX6_touchesAny 25 = .ok (.imul, 1) := by decide +kernel
theorem dX6_touchesAny_26 : decode cX6_touchesAny 26 = .ok (.istore 8, 2) := by decide +kernel
theorem dX6_touchesAny_28 : decode cX6_touchesAny 28 = .ok (.iload 6, 2) := by decide +kernel
theorem dX6_touchesAny_30 : decode cX6_touchesAny 30 = .ok (.ifCond .ne 30, 3) := by decide +kernel
theorem dX6_touchesAny_33 : decode cX6_touchesAny 33 = .ok (.aload_n 0, 1) := by decide +kernel
theorem dX6_touchesAny_34 : decode cX6_touchesAny 34 = .ok (.getfield 42, 3) := by decide +kernel
theorem dX6_touchesAny_37 : decode cX6_touchesAny 37 = .ok (.iload 8, 2) := by decide +kernel
theorem dX6_touchesAny_39 : decode cX6_touchesAny 39 = .ok (.iconst 3, 1) := by decide +kernel
theorem dX6_touchesAny_40 : decode cX6_touchesAny 40 = .ok (.iadd, 1) := by decide +kernel
theorem dX6_touchesAny_41 : decode cX6_touchesAny 41 = .ok (.iaload, 1) := by decide +kernel
theorem dX6_touchesAny_42 : decode cX6_touchesAny 42 = .ok (.iload_n 2, 1) := by decide +kernel
theorem dX6_touchesAny_43 : decode cX6_touchesAny 43 = .ok (.if_icmp .ge 21, 3) := by decide +kernel
theorem dX6_touchesAny_46 : decode cX6_touchesAny 46 = .ok (.aload_n 0, 1) := by decide +kernel
theorem dX6_touchesAny_47 : decode cX6_touchesAny 47 = .ok (.iload 8, 2) := by decide +kernel
theorem dX6_touchesAny_49 : decode cX6_touchesAny 49 = .ok (.iload_n 3, 1) := by decide +kernel
theorem dX6_touchesAny_50 : decode cX6_touchesAny 50 = .ok (.iload 4, 2) := by decide +kernel
theorem dX6_touchesAny_52 : decode cX6_touchesAny 52 = .ok (.iload 5, 2) := by decide +kernel
theorem dX6_touchesAny_54 : decode cX6_touchesAny 54 = .ok (.invokevirtual 154, 3) := by decide +kernel
theorem dX6_touchesAny_57 : decode cX6_touchesAny 57 = .ok (.ifCond .eq 7, 3) := by decide +kernel
theorem dX6_touchesAny_60 : decode cX6_touchesAny 60 = .ok (.iconst 1, 1) := by decide +kernel
theorem dX6_touchesAny_61 : decode cX6_touchesAny 61 = .ok (.goto 4, 3) := by decide +kernel
theorem dX6_touchesAny_64 : decode cX6_touchesAny 64 = .ok (.iconst 0, 1) := by decide +kernel
theorem dX6_touchesAny_65 : decode cX6_touchesAny 65 = .ok (.istore 6, 2) := by decide +kernel
theorem dX6_touchesAny_67 : decode cX6_touchesAny 67 = .ok (.iinc 7 1, 3) := by decide +kernel
theorem dX6_touchesAny_70 : decode cX6_touchesAny 70 = .ok (.goto (-64), 3) := by decide +kernel
theorem dX6_touchesAny_73 : decode cX6_touchesAny 73 = .ok (.iload 6, 2) := by decide +kernel
theorem dX6_touchesAny_75 : decode cX6_touchesAny 75 = .ok (.ireturn, 1) := by decide +kernel
theorem dX6_conflicts_0 : decode cX6_conflicts 0 = .ok (.iconst 0, 1) := by decide +kernel
theorem dX6_conflicts_1 : decode cX6_conflicts 1 = .ok (.istore_n 3, 1) := by decide +kernel
theorem dX6_conflicts_2 : decode cX6_conflicts 2 = .ok (.iconst 0, 1) := by decide +kernel
theorem dX6_conflicts_3 : decode cX6_conflicts 3 = .ok (.istore 4, 2) := by decide +kernel
theorem dX6_conflicts_5 : decode cX6_conflicts 5 = .ok (.iload 4, 2) := by decide +kernel
theorem dX6_conflicts_7 : decode cX6_conflicts 7 = .ok (.bipush 32, 2) := by decide +kernel
theorem dX6_conflicts_9 : decode cX6_conflicts 9 = .ok (.if_icmp .ge 81, 3) := by decide +kernel
theorem dX6_conflicts_12 : decode cX6_conflicts 12 = .ok (.aload_n 0, 1) := by decide +kernel
theorem dX6_conflicts_13 : decode cX6_conflicts 13 = .ok (.getfield 39, 3) := by decide +kernel
theorem dX6_conflicts_16 : decode cX6_conflicts 16 = .ok (.bipush 32, 2) := by decide +kernel
theorem dX6_conflicts_18 : decode cX6_conflicts 18 = .ok (.iload_n 1, 1) := by decide +kernel
theorem dX6_conflicts_19 : decode cX6_conflicts 19 = .ok (.imul, 1) := by decide +kernel
theorem dX6_conflicts_20 : decode cX6_conflicts 20 = .ok (.iload 4, 2) := by decide +kernel
theorem dX6_conflicts_22 : decode cX6_conflicts 22 = .ok (.iadd, 1) := by decide +kernel
theorem dX6_conflicts_23 : decode cX6_conflicts 23 = .ok (.iaload, 1) := by decide +kernel
theorem dX6_conflicts_24 : decode cX6_conflicts 24 = .ok (.istore 5, 2) := by decide +kernel
theorem dX6_conflicts_26 : decode cX6_conflicts 26 = .ok (.iload_n 3, 1) := by decide +kernel
theorem dX6_conflicts_27 : decode cX6_conflicts 27 = .ok (.ifCond .ne 51, 3) := by decide +kernel
theorem dX6_conflicts_30 : decode cX6_conflicts 30 = .ok (.iload 5, 2) := by decide +kernel
theorem dX6_conflicts_32 : decode cX6_conflicts 32 = .ok (.sipush (-5000), 3) := by decide +kernel
theorem dX6_conflicts_35 : decode cX6_conflicts 35 = .ok (.if_icmp .eq 47, 3) := by decide +kernel
theorem dX6_conflicts_38 : decode cX6_conflicts 38 = .ok (.aload_n 0, 1) := by decide +kernel
theorem dX6_conflicts_39 : decode cX6_conflicts 39 = .ok (.getfield 36, 3) := by decide +kernel
theorem dX6_conflicts_42 : decode cX6_conflicts 42 = .ok (.bipush 32, 2) := by decide +kernel
theorem dX6_conflicts_44 : decode cX6_conflicts 44 = .ok (.iload_n 2, 1) := by decide +kernel
theorem dX6_conflicts_45 : decode cX6_conflicts 45 = .ok (.imul, 1) := by decide +kernel
theorem dX6_conflicts_46 : decode cX6_conflicts 46 = .ok (.iload 4, 2) := by decide +kernel
theorem dX6_conflicts_48 : decode cX6_conflicts 48 = .ok (.iadd, 1) := by decide +kernel
theorem dX6_conflicts_49 : decode cX6_conflicts 49 = .ok (.iaload, 1) := by decide +kernel
theorem dX6_conflicts_50 : decode cX6_conflicts 50 = .ok (.iconst (-1), 1) := by decide +kernel
theorem dX6_conflicts_51 : decode cX6_conflicts 51 = .ok (.if_icmp .ne 27, 3) := by decide +kernel
theorem dX6_conflicts_54 : decode cX6_conflicts 54 = .ok (.aload_n 0, 1) := by decide +kernel
theorem dX6_conflicts_55 : decode cX6_conflicts 55 = .ok (.iload_n 2, 1) := by decide +kernel
theorem dX6_conflicts_56 : decode cX6_conflicts 56 = .ok (.bipush 61, 2) := by decide +kernel
theorem dX6_conflicts_58 : decode cX6_conflicts 58 = .ok (.iload 4, 2) := by decide +kernel
theorem dX6_conflicts_60 : decode cX6_conflicts 60 = .ok (.aload_n 0, 1) := by decide +kernel
theorem dX6_conflicts_61 : decode cX6_conflicts 61 = .ok (.aload_n 0, 1) := by decide +kernel
theorem dX6_conflicts_62 : decode cX6_conflicts 62 = .ok (.getfield 113, 3) := by decide +kernel
theorem dX6_conflicts_65 : decode cX6_conflicts 65 = .ok (.iload 4, 2) := by decide +kernel
theorem dX6_conflicts_67 : decode cX6_conflicts 67 = .ok (.invokevirtual 116, 3) := by decide +kernel
theorem dX6_conflicts_70 : decode cX6_conflicts 70 = .ok (.iload 5, 2) := by decide +kernel
theorem dX6_conflicts_72 : decode cX6_conflicts 72 = .ok (.invokevirtual 158, 3) := by decide +kernel
theorem dX6_conflicts_75 : decode cX6_conflicts 75 = .ok (.ifCond .eq 7, 3) := by decide +kernel
theorem dX6_conflicts_78 : decode cX6_conflicts 78 = .ok (.iconst 1, 1) := by decide +kernel
theorem dX6_conflicts_79 : decode cX6_conflicts 79 = .ok (.goto 4, 3) := by decide +kernel
theorem dX6_conflicts_82 : decode cX6_conflicts 82 = .ok (.iconst 0, 1) := by decide +kernel
theorem dX6_conflicts_83 : decode cX6_conflicts 83 = .ok (.istore_n 3, 1) := by decide +kernel
theorem dX6_conflicts_84 : decode cX6_conflicts 84 = .ok (.iinc 4 1, 3) := by decide +kernel
theorem dX6_conflicts_87 : decode cX6_conflicts 87 = .ok (.goto (-82), 3) := by decide +kernel
theorem dX6_conflicts_90 : decode cX6_conflicts 90 = .ok (.iload_n 3, 1) := by decide +kernel
theorem dX6_conflicts_91 : decode cX6_conflicts 91 = .ok (.ireturn, 1) := by decide +kernel
theorem dX6_isRival_0 : decode cX6_isRival 0 = .ok (.iload_n 2, 1) := by decide +kernel
theorem dX6_isRival_1 : decode cX6_isRival 1 = .ok (.iload_n 1, 1) := by decide +kernel
theorem dX6_isRival_2 : decode cX6_isRival 2 = .ok (.if_icmp .eq 25, 3) := by decide +kernel
theorem dX6_isRival_5 : decode cX6_isRival 5 = .ok (.aload_n 0, 1) := by decide +kernel
theorem dX6_isRival_6 : decode cX6_isRival 6 = .ok (.getfield 13, 3) := by decide +kernel
theorem dX6_isRival_9 : decode cX6_isRival 9 = .ok (.iload_n 2, 1) := by decide +kernel
theorem dX6_isRival_10 : decode cX6_isRival 10 = .ok (.iaload, 1) := by decide +kernel
theorem dX6_isRival_11 : decode cX6_isRival 11 = .ok (.ifCond .ne 16, 3) := by decide +kernel
theorem dX6_isRival_14 : decode cX6_isRival 14 = .ok (.aload_n 0, 1) := by decide +kernel
theorem dX6_isRival_15 : decode cX6_isRival 15 = .ok (.iload_n 1, 1) := by decide +kernel
theorem dX6_isRival_16 : decode cX6_isRival 16 = .ok (.iload_n 2, 1) := by decide +kernel
theorem dX6_isRival_17 : decode cX6_isRival 17 = .ok (.invokevirtual 162, 3) := by decide +kernel
theorem dX6_isRival_20 : decode cX6_isRival 20 = .ok (.ifCond .eq 7, 3) := by decide +kernel
theorem dX6_isRival_23 : decode cX6_isRival 23 = .ok (.iconst 1, 1) := by decide +kernel
theorem dX6_isRival_24 : decode cX6_isRival 24 = .ok (.goto 4, 3) := by decide +kernel
theorem dX6_isRival_27 : decode cX6_isRival 27 = .ok (.iconst 0, 1) := by decide +kernel
theorem dX6_isRival_28 : decode cX6_isRival 28 = .ok (.ireturn, 1) := by decide +kernel
theorem dX6_countRivals_0 : decode cX6_countRivals 0 = .ok (.iconst 0, 1) := by decide +kernel
theorem dX6_countRivals_1 : decode cX6_countRivals 1 = .ok (.istore_n 2, 1) := by decide +kernel
theorem dX6_countRivals_2 : decode cX6_countRivals 2 = .ok (.iconst 0, 1) := by decide +kernel
theorem dX6_countRivals_3 : decode cX6_countRivals 3 = .ok (.istore_n 3, 1) := by decide +kernel
theorem dX6_countRivals_4 : decode cX6_countRivals 4 = .ok (.iload_n 3, 1) := by decide +kernel
theorem dX6_countRivals_5 : decode cX6_countRivals 5 = .ok (.aload_n 0, 1) := by decide +kernel
theorem dX6_countRivals_6 : decode cX6_countRivals 6 = .ok (.getfield 78, 3) := by decide +kernel
theorem dX6_countRivals_9 : decode cX6_countRivals 9 = .ok (.if_icmp .ge 26, 3) := by decide +kernel
theorem dX6_countRivals_12 : decode cX6_countRivals 12 = .ok (.iload_n 2, 1) := by decide +kernel
theorem dX6_countRivals_13 : decode cX6_countRivals 13 = .ok (.aload_n 0, 1) := by decide +kernel
theorem dX6_countRivals_14 : decode cX6_countRivals 14 = .ok (.iload_n 1, 1) := by decide +kernel
theorem dX6_countRivals_15 : decode cX6_countRivals 15 = .ok (.iload_n 3, 1) := by decide +kernel
theorem dX6_countRivals_16 : decode cX6_countRivals 16 = .ok (.invokevirtual 165, 3) := by decide +kernel
theorem dX6_countRivals_19 : decode cX6_countRivals 19 = .ok (.ifCond .eq 7, 3) := by decide +kernel
theorem dX6_countRivals_22 : decode cX6_countRivals 22 = .ok (.iconst 1, 1) := by decide +kernel
theorem dX6_countRivals_23 : decode cX6_countRivals 23 = .ok (.goto 4, 3) := by decide +kernel
theorem dX6_countRivals_26 : decode cX6_countRivals 26 = .ok (.iconst 0, 1) := by decide +kernel
theorem dX6_countRivals_27 : decode cX6_countRivals 27 = .ok (.iadd, 1) := by decide +kernel
theorem dX6_countRivals_28 : decode cX6_countRivals 28 = .ok (.istore_n 2, 1) := by decide +kernel
theorem dX6_countRivals_29 : decode cX6_countRivals 29 = .ok (.iinc 3 1, 3) := by decide +kernel
theorem dX6_countRivals_32 : decode cX6_countRivals 32 = .ok (.goto (-28), 3) := by decide +kernel
theorem dX6_countRivals_35 : decode cX6_countRivals 35 = .ok (.iload_n 2, 1) := by decide +kernel
theorem dX6_countRivals_36 : decode cX6_countRivals 36 = .ok (.ireturn, 1) := by decide +kernel
theorem dX6_hasWritten_0 : decode cX6_hasWritten 0 = .ok (.aload_n 0, 1) := by decide +kernel
theorem dX6_hasWritten_1 : decode cX6_hasWritten 1 = .ok (.getfield 39, 3) := by decide +kernel
theorem dX6_hasWritten_4 : decode cX6_hasWritten 4 = .ok (.bipush 32, 2) := by decide +kernel
theorem dX6_hasWritten_6 : decode cX6_hasWritten 6 = .ok (.aload_n 0, 1) := by decide +kernel
theorem dX6_hasWritten_7 : decode cX6_hasWritten 7 = .ok (.getfield 54, 3) := by decide +kernel
theorem dX6_hasWritten_10 : decode cX6_hasWritten 10 = .ok (.iload_n 1, 1) := by decide +kernel
theorem dX6_hasWritten_11 : decode cX6_hasWritten 11 = .ok (.iaload, 1) := by decide +kernel
theorem dX6_hasWritten_12 : decode cX6_hasWritten 12 = .ok (.imul, 1) := by decide +kernel
theorem dX6_hasWritten_13 : decode cX6_hasWritten 13 = .ok (.iload_n 2, 1) := by decide +kernel
theorem dX6_hasWritten_14 : decode cX6_hasWritten 14 = .ok (.iadd, 1) := by decide +kernel
theorem dX6_hasWritten_15 : decode cX6_hasWritten 15 = .ok (.iaload, 1) := by decide +kernel
theorem dX6_hasWritten_16 : decode cX6_hasWritten 16 = .ok (.sipush (-5000), 3) := by decide +kernel
theorem dX6_hasWritten_19 : decode cX6_hasWritten 19 = .ok (.if_icmp .eq 7, 3) := by decide +kernel
theorem dX6_hasWritten_22 : decode cX6_hasWritten 22 = .ok (.iconst 1, 1) := by decide +kernel
theorem dX6_hasWritten_23 : decode cX6_hasWritten 23 = .ok (.goto 4, 3) := by decide +kernel
theorem dX6_hasWritten_26 : decode cX6_hasWritten 26 = .ok (.iconst 0, 1) := by decide +kernel
theorem dX6_hasWritten_27 : decode cX6_hasWritten 27 = .ok (.ireturn, 1) := by decide +kernel
theorem dX6_staleness_0 : decode cX6_staleness 0 = .ok (.iconst 0, 1) := by decide +kernel
theorem dX6_staleness_1 : decode cX6_staleness 1 = .ok (.istore_n 2, 1) := by decide +kernel
theorem dX6_staleness_2 : decode cX6_staleness 2 = .ok (.iconst 0, 1) := by decide +kernel
theorem dX6_staleness_3 : decode cX6_staleness 3 = .ok (.istore_n 3, 1) := by decide +kernel
theorem dX6_staleness_4 : decode cX6_staleness 4 = .ok (.iconst 1, 1) := by decide +kernel
theorem dX6_staleness_5 : decode cX6_staleness 5 = .ok (.istore 4, 2) := by decide +kernel
theorem dX6_staleness_7 : decode cX6_staleness 7 = .ok (.iload 4, 2) := by decide +kernel
theorem dX6_staleness_9 : decode cX6_staleness 9 = .ok (.aload_n 0, 1) := by decide +kernel
theorem dX6_staleness_10 : decode cX6_staleness 10 = .ok (.getfield 113, 3) := by decide +kernel
theorem dX6_staleness_13 : decode cX6_staleness 13 = .ok (.if_icmp .gt 122, 3) := by decide +kernel
theorem dX6_staleness_16 : decode cX6_staleness 16 = .ok (.iconst 0, 1) := by decide +kernel
theorem dX6_staleness_17 : decode cX6_staleness 17 = .ok (.istore 5, 2) := by decide +kernel
theorem dX6_staleness_19 : decode cX6_staleness 19 = .ok (.iload 5, 2) := by decide +kernel
theorem dX6_staleness_21 : decode cX6_staleness 21 = .ok (.bipush 32, 2) := by decide +kernel
theorem dX6_staleness_23 : decode cX6_staleness 23 = .ok (.if_icmp .ge 106, 3) := by decide +kernel
theorem dX6_staleness_26 : decode cX6_staleness 26 = .ok (.aload_n 0, 1) := by decide +kernel
theorem dX6_staleness_27 : decode cX6_staleness 27 = .ok (.getfield 36, 3) := by decide +kernel
theorem dX6_staleness_30 : decode cX6_staleness 30 = .ok (.bipush 32, 2) := by decide +kernel
theorem dX6_staleness_32 : decode cX6_staleness 32 = .ok (.iload_n 1, 1) := by decide +kernel
theorem dX6_staleness_33 : decode cX6_staleness 33 = .ok (.imul, 1) := by decide +kernel
theorem dX6_staleness_34 : decode cX6_staleness 34 = .ok (.iload 5, 2) := by decide +kernel
theorem dX6_staleness_36 : decode cX6_staleness 36 = .ok (.iadd, 1) := by decide +kernel
theorem dX6_staleness_37 : decode cX6_staleness 37 = .ok (.iaload, 1) := by decide +kernel
theorem dX6_staleness_38 : decode cX6_staleness 38 = .ok (.istore 6, 2) := by decide +kernel
theorem dX6_staleness_40 : decode cX6_staleness 40 = .ok (.aload_n 0, 1) := by decide +kernel
theorem dX6_staleness_41 : decode cX6_staleness 41 = .ok (.iload 4, 2) := by decide +kernel
theorem dX6_staleness_43 : decode cX6_staleness 43 = .ok (.iload 5, 2) := by decide +kernel
theorem dX6_staleness_45 : decode cX6_staleness 45 = .ok (.invokevirtual 168, 3) := by decide +kernel
theorem dX6_staleness_48 : decode cX6_staleness 48 = .ok (.istore 7, 2) := by decide +kernel
theorem dX6_staleness_50 : decode cX6_staleness 50 = .ok (.iload_n 3, 1) := by decide +kernel
theorem dX6_staleness_51 : decode cX6_staleness 51 = .ok (.ifCond .ne 21, 3) := by decide +kernel
theorem dX6_staleness_54 : decode cX6_staleness 54 = .ok (.iload 7, 2) := by decide +kernel
theorem dX6_staleness_56 : decode cX6_staleness 56 = .ok (.ifCond .eq 20, 3) := by decide +kernel
theorem dX6_staleness_59 : decode cX6_staleness 59 = .ok (.iload 6, 2) := by decide +kernel
theorem dX6_staleness_61 : decode cX6_staleness 61 = .ok (.iconst (-1), 1) := by decide +kernel
theorem dX6_staleness_62 : decode cX6_staleness 62 = .ok (.if_icmp .eq 14, 3) := by decide +kernel
theorem dX6_staleness_65 : decode cX6_staleness 65 = .ok (.iload 6, 2) := by decide +kernel
theorem dX6_staleness_67 : decode cX6_staleness 67 = .ok (.iload 4, 2) := by decide +kernel
theorem dX6_staleness_69 : decode cX6_staleness 69 = .ok (.if_icmp .ge 7, 3) := by decide +kernel
theorem dX6_staleness_72 : decode cX6_staleness 72 = .ok (.iconst 1, 1) := by decide +kernel
theorem dX6_staleness_73 : decode cX6_staleness 73 = .ok (.goto 4, 3) := by decide +kernel
theorem dX6_staleness_76 : decode cX6_staleness 76 = .ok (.iconst 0, 1) := by decide +kernel
theorem dX6_staleness_77 : decode cX6_staleness 77 = .ok (.istore_n 3, 1) := by decide +kernel
theorem dX6_staleness_78 : decode cX6_staleness 78 = .ok (.iload_n 2, 1) := by decide +kernel
theorem dX6_staleness_79 : decode cX6_staleness 79 = .ok (.ifCond .ne 38, 3) := by decide +kernel
theorem dX6_staleness_82 : decode cX6_staleness 82 = .ok (.iload 7, 2) := by decide +kernel
theorem dX6_staleness_84 : decode cX6_staleness 84 = .ok (.ifCond .eq 37, 3) := by decide +kernel
theorem dX6_staleness_87 : decode cX6_staleness 87 = .ok (.aload_n 0, 1) := by decide +kernel
theorem dX6_staleness_88 : decode cX6_staleness 88 = .ok (.iload_n 1, 1) := by decide +kernel
theorem dX6_staleness_89 : decode cX6_staleness 89 = .ok (.iload 4, 2) := by decide +kernel
theorem dX6_staleness_91 : decode cX6_staleness 91 = .ok (.iload 5, 2) := by decide +kernel
theorem dX6_staleness_93 : decode cX6_staleness 93 = .ok (.aload_n 0, 1) := by decide +kernel
theorem dX6_staleness_94 : decode cX6_staleness 94 = .ok (.iload 4, 2) := by decide +kernel
theorem dX6_staleness_96 : decode cX6_staleness 96 = .ok (.iconst 1, 1) := by decide +kernel
theorem dX6_staleness_97 : decode cX6_staleness 97 = .ok (.isub, 1) := by decide +kernel
theorem dX6_staleness_98 : decode cX6_staleness 98 = .ok (.iload 5, 2) := by decide +kernel
theorem dX6_staleness_100 : decode cX6_staleness 100 = .ok (.invokevirtual 116, 3) := by decide +kernel
theorem dX6_staleness_103 : decode cX6_staleness 103 = .ok (.aload_n 0, 1) := by decide +kernel
theorem dX6_staleness_104 : decode cX6_staleness 104 = .ok (.iload 4, 2) := by decide +kernel
theorem dX6_staleness_106 : decode cX6_staleness 106 = .ok (.iload 5, 2) := by decide +kernel
theorem dX6_staleness_108 : decode cX6_staleness 108 = .ok (.invokevirtual 116, 3) := by decide +kernel
theorem dX6_staleness_111 : decode cX6_staleness 111 = .ok (.invokevirtual 158, 3) := by decide +kernel
theorem dX6_staleness_114 : decode cX6_staleness 114 = .ok (.ifCond .eq 7, 3) := by decide +kernel
theorem dX6_staleness_117 : decode cX6_staleness 117 = .ok (.iconst 1, 1) := by decide +kernel
theorem dX6_staleness_118 : decode cX6_staleness 118 = .ok (.goto 4, 3) := by decide +kernel
theorem dX6_staleness_121 : decode cX6_staleness 121 = .ok (.iconst 0, 1) := by decide +kernel
theorem dX6_staleness_122 : decode cX6_staleness 122 = .ok (.istore_n 2, 1) := by decide +kernel
theorem dX6_staleness_123 : decode cX6_staleness 123 = .ok (.iinc 5 1, 3) := by decide +kernel
theorem dX6_staleness_126 : decode cX6_staleness 126 = .ok (.goto (-107), 3) := by decide +kernel
theorem dX6_staleness_129 : decode cX6_staleness 129 = .ok (.iinc 4 1, 3) := by decide +kernel
theorem dX6_staleness_132 : decode cX6_staleness 132 = .ok (.goto (-125), 3) := by decide +kernel
theorem dX6_staleness_135 : decode cX6_staleness 135 = .ok (.iload_n 3, 1) := by decide +kernel
theorem dX6_staleness_136 : decode cX6_staleness 136 = .ok (.ifCond .eq 7, 3) := by decide +kernel
theorem dX6_staleness_139 : decode cX6_staleness 139 = .ok (.iconst 1, 1) := by decide +kernel
theorem dX6_staleness_140 : decode cX6_staleness 140 = .ok (.goto 12, 3) := by decide +kernel
theorem dX6_staleness_143 : decode cX6_staleness 143 = .ok (.iload_n 2, 1) := by decide +kernel
theorem dX6_staleness_144 : decode cX6_staleness 144 = .ok (.ifCond .eq 7, 3) := by decide +kernel
theorem dX6_staleness_147 : decode cX6_staleness 147 = .ok (.iconst 2, 1) := by decide +kernel
theorem dX6_staleness_148 : decode cX6_staleness 148 = .ok (.goto 4, 3) := by decide +kernel
theorem dX6_staleness_151 : decode cX6_staleness 151 = .ok (.iconst 0, 1) := by decide +kernel
theorem dX6_staleness_152 : decode cX6_staleness 152 = .ok (.ireturn, 1) := by decide +kernel
theorem dX6_activeProblem_0 : decode cX6_activeProblem 0 = .ok (.aload_n 0, 1) := by decide +kernel
theorem dX6_activeProblem_1 : decode cX6_activeProblem 1 = .ok (.iload_n 1, 1) := by decide +kernel
theorem dX6_activeProblem_2 : decode cX6_activeProblem 2 = .ok (.invokevirtual 110, 3) := by decide +kernel
theorem dX6_activeProblem_5 : decode cX6_activeProblem 5 = .ok (.ifCond .ne 7, 3) := by decide +kernel
theorem dX6_activeProblem_8 : decode cX6_activeProblem 8 = .ok (.iconst 1, 1) := by decide +kernel
theorem dX6_activeProblem_9 : decode cX6_activeProblem 9 = .ok (.goto 17, 3) := by decide +kernel
theorem dX6_activeProblem_12 : decode cX6_activeProblem 12 = .ok (.aload_n 0, 1) := by decide +kernel
theorem dX6_activeProblem_13 : decode cX6_activeProblem 13 = .ok (.getfield 13, 3) := by decide +kernel
theorem dX6_activeProblem_16 : decode cX6_activeProblem 16 = .ok (.iload_n 1, 1) := by decide +kernel
theorem dX6_activeProblem_17 : decode cX6_activeProblem 17 = .ok (.iaload, 1) := by decide +kernel
theorem dX6_activeProblem_18 : decode cX6_activeProblem 18 = .ok (.ifCond .eq 7, 3) := by decide +kernel
theorem dX6_activeProblem_21 : decode cX6_activeProblem 21 = .ok (.iconst 2, 1) := by decide +kernel
theorem dX6_activeProblem_22 : decode cX6_activeProblem 22 = .ok (.goto 4, 3) := by decide +kernel
theorem dX6_activeProblem_25 : decode cX6_activeProblem 25 = .ok (.iconst 0, 1) := by decide +kernel
theorem dX6_activeProblem_26 : decode cX6_activeProblem 26 = .ok (.ireturn, 1) := by decide +kernel
theorem dX6_isStale_0 : decode cX6_isStale 0 = .ok (.aload_n 0, 1) := by decide +kernel
theorem dX6_isStale_1 : decode cX6_isStale 1 = .ok (.aload_n 0, 1) := by decide +kernel
theorem dX6_isStale_2 : decode cX6_isStale 2 = .ok (.iload_n 1, 1) := by decide +kernel
theorem dX6_isStale_3 : decode cX6_isStale 3 = .ok (.invokevirtual 171, 3) := by decide +kernel
theorem dX6_isStale_6 : decode cX6_isStale 6 = .ok (.putfield 1, 3) := by decide +kernel
theorem dX6_isStale_9 : decode cX6_isStale 9 = .ok (.aload_n 0, 1) := by decide +kernel
theorem dX6_isStale_10 : decode cX6_isStale 10 = .ok (.getfield 1, 3) := by decide +kernel
theorem dX6_isStale_13 : decode cX6_isStale 13 = .ok (.ifCond .ne 15, 3) := by decide +kernel
theorem dX6_isStale_16 : decode cX6_isStale 16 = .ok (.aload_n 0, 1) := by decide +kernel
theorem dX6_isStale_17 : decode cX6_isStale 17 = .ok (.iload_n 1, 1) := by decide +kernel
theorem dX6_isStale_18 : decode cX6_isStale 18 = .ok (.invokevirtual 174, 3) := by decide +kernel
theorem dX6_isStale_21 : decode cX6_isStale 21 = .ok (.ifCond .le 7, 3) := by decide +kernel
theorem dX6_isStale_24 : decode cX6_isStale 24 = .ok (.iconst 1, 1) := by decide +kernel
theorem dX6_isStale_25 : decode cX6_isStale 25 = .ok (.goto 4, 3) := by decide +kernel
theorem dX6_isStale_28 : decode cX6_isStale 28 = .ok (.iconst 0, 1) := by decide +kernel
theorem dX6_isStale_29 : decode cX6_isStale 29 = .ok (.ireturn, 1) := by decide +kernel
theorem dX6_rivals_0 : decode cX6_rivals 0 = .ok (.aload_n 0, 1) := by decide +kernel
theorem dX6_rivals_1 : decode cX6_rivals 1 = .ok (.aload_n 0, 1) := by decide +kernel
theorem dX6_rivals_2 : decode cX6_rivals 2 = .ok (.iload_n 1, 1) := by decide +kernel
theorem dX6_rivals_3 : decode cX6_rivals 3 = .ok (.invokevirtual 171, 3) := by decide +kernel
theorem dX6_rivals_6 : decode cX6_rivals 6 = .ok (.putfield 1, 3) := by decide +kernel
theorem dX6_rivals_9 : decode cX6_rivals 9 = .ok (.aload_n 0, 1) := by decide +kernel
theorem dX6_rivals_10 : decode cX6_rivals 10 = .ok (.getfield 1, 3) := by decide +kernel
theorem dX6_rivals_13 : decode cX6_rivals 13 = .ok (.ifCond .ne 11, 3) := by decide +kernel
theorem dX6_rivals_16 : decode cX6_rivals 16 = .ok (.aload_n 0, 1) := by decide +kernel
theorem dX6_rivals_17 : decode cX6_rivals 17 = .ok (.iload_n 1, 1) := by decide +kernel
theorem dX6_rivals_18 : decode cX6_rivals 18 = .ok (.invokevirtual 177, 3) := by decide +kernel
theorem dX6_rivals_21 : decode cX6_rivals 21 = .ok (.goto 4, 3) := by decide +kernel
theorem dX6_rivals_24 : decode cX6_rivals 24 = .ok (.iconst 0, 1) := by decide +kernel
theorem dX6_rivals_25 : decode cX6_rivals 25 = .ok (.ireturn, 1) := by decide +kernel
theorem dX6_endWith_0 : decode cX6_endWith 0 = .ok (.aload_n 0, 1) := by decide +kernel
theorem dX6_endWith_1 : decode cX6_endWith 1 = .ok (.getfield 13, 3) := by decide +kernel
theorem dX6_endWith_4 : decode cX6_endWith 4 = .ok (.iload_n 1, 1) := by decide +kernel
theorem dX6_endWith_5 : decode cX6_endWith 5 = .ok (.iconst 2, 1) := by decide +kernel
theorem dX6_endWith_6 : decode cX6_endWith 6 = .ok (.iastore, 1) := by decide +kernel
theorem dX6_endWith_7 : decode cX6_endWith 7 = .ok (.aload_n 0, 1) := by decide +kernel
theorem dX6_endWith_8 : decode cX6_endWith 8 = .ok (.getfield 20, 3) := by decide +kernel
theorem dX6_endWith_11 : decode cX6_endWith 11 = .ok (.iload_n 1, 1) := by decide +kernel
theorem dX6_endWith_12 : decode cX6_endWith 12 = .ok (.iload_n 2, 1) := by decide +kernel
theorem dX6_endWith_13 : decode cX6_endWith 13 = .ok (.iastore, 1) := by decide +kernel
theorem dX6_endWith_14 : decode cX6_endWith 14 = .ok (.aload_n 0, 1) := by decide +kernel
theorem dX6_endWith_15 : decode cX6_endWith 15 = .ok (.aload_n 0, 1) := by decide +kernel
theorem dX6_endWith_16 : decode cX6_endWith 16 = .ok (.getfield 48, 3) := by decide +kernel
theorem dX6_endWith_19 : decode cX6_endWith 19 = .ok (.iload_n 1, 1) := by decide +kernel
theorem dX6_endWith_20 : decode cX6_endWith 20 = .ok (.if_icmp .ne 7, 3) := by decide +kernel
theorem dX6_endWith_23 : decode cX6_endWith 23 = .ok (.iconst (-1), 1) := by decide +kernel
theorem dX6_endWith_24 : decode cX6_endWith 24 = .ok (.goto 7, 3) := by decide +kernel
theorem dX6_endWith_27 : decode cX6_endWith 27 = .ok (.aload_n 0, 1) := by decide +kernel
theorem dX6_endWith_28 : decode cX6_endWith 28 = .ok (.getfield 48, 3) := by decide +kernel
theorem dX6_endWith_31 : decode cX6_endWith 31 = .ok (.putfield 48, 3) := by decide +kernel
theorem dX6_endWith_34 : decode cX6_endWith 34 = .ok (.return_, 1) := by decide +kernel
theorem dX6_loses_0 : decode cX6_loses 0 = .ok (.aload_n 0, 1) := by decide +kernel
theorem dX6_loses_1 : decode cX6_loses 1 = .ok (.getfield 96, 3) := by decide +kernel
theorem dX6_loses_4 : decode cX6_loses 4 = .ok (.ifCond .ne 7, 3) := by decide +kernel
theorem dX6_loses_7 : decode cX6_loses 7 = .ok (.iconst 1, 1) := by decide +kernel
theorem dX6_loses_8 : decode cX6_loses 8 = .ok (.goto 4, 3) := by decide +kernel
theorem dX6_loses_11 : decode cX6_loses 11 = .ok (.iconst 0, 1) := by decide +kernel
theorem dX6_loses_12 : decode cX6_loses 12 = .ok (.istore_n 2, 1) := by decide +kernel
theorem dX6_loses_13 : decode cX6_loses 13 = .ok (.iconst 0, 1) := by decide +kernel
theorem dX6_loses_14 : decode cX6_loses 14 = .ok (.istore_n 3, 1) := by decide +kernel
theorem dX6_loses_15 : decode cX6_loses 15 = .ok (.iload_n 3, 1) := by decide +kernel
theorem dX6_loses_16 : decode cX6_loses 16 = .ok (.aload_n 0, 1) := by decide +kernel
theorem dX6_loses_17 : decode cX6_loses 17 = .ok (.getfield 78, 3) := by decide +kernel
theorem dX6_loses_20 : decode cX6_loses 20 = .ok (.if_icmp .ge 51, 3) := by decide +kernel
theorem dX6_loses_23 : decode cX6_loses 23 = .ok (.iload_n 2, 1) := by decide +kernel
theorem dX6_loses_24 : decode cX6_loses 24 = .ok (.ifCond .ne 35, 3) := by decide +kernel
theorem dX6_loses_27 : decode cX6_loses 27 = .ok (.aload_n 0, 1) := by decide +kernel
theorem dX6_loses_28 : decode cX6_loses 28 = .ok (.getfield 96, 3) := by decide +kernel
theorem dX6_loses_31 : decode cX6_loses 31 = .ok (.iconst 2, 1) := by decide +kernel
theorem dX6_loses_32 : decode cX6_loses 32 = .ok (.if_icmp .ne 31, 3) := by decide +kernel
theorem dX6_loses_35 : decode cX6_loses 35 = .ok (.aload_n 0, 1) := by decide +kernel
theorem dX6_loses_36 : decode cX6_loses 36 = .ok (.iload_n 1, 1) := by decide +kernel
theorem dX6_loses_37 : decode cX6_loses 37 = .ok (.iload_n 3, 1) := by decide +kernel
theorem dX6_loses_38 : decode cX6_loses 38 = .ok (.invokevirtual 165, 3) := by decide +kernel
theorem dX6_loses_41 : decode cX6_loses 41 = .ok (.ifCond .eq 22, 3) := by decide +kernel
theorem dX6_loses_44 : decode cX6_loses 44 = .ok (.aload_n 0, 1) := by decide +kernel
theorem dX6_loses_45 : decode cX6_loses 45 = .ok (.getfield 30, 3) := by decide +kernel
theorem dX6_loses_48 : decode cX6_loses 48 = .ok (.iload_n 3, 1) := by decide +kernel
theorem dX6_loses_49 : decode cX6_loses 49 = .ok (.iaload, 1) := by decide +kernel
theorem dX6_loses_50 : decode cX6_loses 50 = .ok (.aload_n 0, 1) := by decide +kernel
theorem dX6_loses_51 : decode cX6_loses 51 = .ok (.getfield 30, 3) := by decide +kernel
theorem dX6_loses_54 : decode cX6_loses 54 = .ok (.iload_n 1, 1) := by decide +kernel
theorem dX6_loses_55 : decode cX6_loses 55 = .ok (.iaload, 1) := by decide +kernel
theorem dX6_loses_56 : decode cX6_loses 56 = .ok (.if_icmp .le 7, 3) := by decide +kernel
theorem dX6_loses_59 : decode cX6_loses 59 = .ok (.iconst 1, 1) := by decide +kernel
theorem dX6_loses_60 : decode cX6_loses 60 = .ok (.goto 4, 3) := by decide +kernel
theorem dX6_loses_63 : decode cX6_loses 63 = .ok (.iconst 0, 1) := by decide +kernel
theorem dX6_loses_64 : decode cX6_loses 64 = .ok (.istore_n 2, 1) := by decide +kernel
theorem dX6_loses_65 : decode cX6_loses 65 = .ok (.iinc 3 1, 3) := by decide +kernel
theorem dX6_loses_68 : decode cX6_loses 68 = .ok (.goto (-53), 3) := by decide +kernel
theorem dX6_loses_71 : decode cX6_loses 71 = .ok (.iload_n 2, 1) := by decide +kernel
theorem dX6_loses_72 : decode cX6_loses 72 = .ok (.ireturn, 1) := by decide +kernel
theorem dX6_isViolated_0 : decode cX6_isViolated 0 = .ok (.iconst 4, 1) := by decide +kernel
theorem dX6_isViolated_1 : decode cX6_isViolated 1 = .ok (.iload_n 1, 1) := by decide +kernel
theorem dX6_isViolated_2 : decode cX6_isViolated 2 = .ok (.imul, 1) := by decide +kernel
theorem dX6_isViolated_3 : decode cX6_isViolated 3 = .ok (.istore_n 3, 1) := by decide +kernel
theorem dX6_isViolated_4 : decode cX6_isViolated 4 = .ok (.iconst 0, 1) := by decide +kernel
theorem dX6_isViolated_5 : decode cX6_isViolated 5 = .ok (.istore 4, 2) := by decide +kernel
theorem dX6_isViolated_7 : decode cX6_isViolated 7 = .ok (.iconst 0, 1) := by decide +kernel
theorem dX6_isViolated_8 : decode cX6_isViolated 8 = .ok (.istore 5, 2) := by decide +kernel
theorem dX6_isViolated_10 : decode cX6_isViolated 10 = .ok (.aload_n 0, 1) := by decide +kernel
theorem dX6_isViolated_11 : decode cX6_isViolated 11 = .ok (.getfield 60, 3) := by decide +kernel
theorem dX6_isViolated_14 : decode cX6_isViolated 14 = .ok (.iload_n 3, 1) := by decide +kernel
theorem dX6_isViolated_15 : decode cX6_isViolated 15 = .ok (.iconst 1, 1) := by decide +kernel
theorem dX6_isViolated_16 : decode cX6_isViolated 16 = .ok (.iadd, 1) := by decide +kernel
theorem dX6_isViolated_17 : decode cX6_isViolated 17 = .ok (.iaload, 1) := by decide +kernel
theorem dX6_isViolated_18 : decode cX6_isViolated 18 = .ok (.istore 6, 2) := by decide +kernel
theorem dX6_isViolated_20 : decode cX6_isViolated 20 = .ok (.iload 6, 2) := by decide +kernel
theorem dX6_isViolated_22 : decode cX6_isViolated 22 = .ok (.aload_n 0, 1) := by decide +kernel
theorem dX6_isViolated_23 : decode cX6_isViolated 23 = .ok (.getfield 60, 3) := by decide +kernel
theorem dX6_isViolated_26 : decode cX6_isViolated 26 = .ok (.iload_n 3, 1) := by decide +kernel
theorem dX6_isViolated_27 : decode cX6_isViolated 27 = .ok (.iconst 2, 1) := by decide +kernel
theorem dX6_isViolated_28 : decode cX6_isViolated 28 = .ok (.iadd, 1) := by decide +kernel
theorem dX6_isViolated_29 : decode cX6_isViolated 29 = .ok (.iaload, 1) := by decide +kernel
theorem dX6_isViolated_30 : decode cX6_isViolated 30 = .ok (.if_icmp .gt 73, 3) := by decide +kernel
theorem dX6_isViolated_33 : decode cX6_isViolated 33 = .ok (.iload_n 2, 1) := by decide +kernel
theorem dX6_isViolated_34 : decode cX6_isViolated 34 = .ok (.iconst (-1), 1) := by decide +kernel
theorem dX6_isViolated_35 : decode cX6_isViolated 35 = .ok (.if_icmp .ne 16, 3) := by decide +kernel
theorem dX6_isViolated_38 : decode cX6_isViolated 38 = .ok (.aload_n 0, 1) := by decide +kernel
theorem dX6_isViolated_39 : decode cX6_isViolated 39 = .ok (.aload_n 0, 1) := by decide +kernel
theorem dX6_isViolated_40 : decode cX6_isViolated 40 = .ok (.getfield 113, 3) := by decide +kernel
theorem dX6_isViolated_43 : decode cX6_isViolated 43 = .ok (.iload 6, 2) := by decide +kernel
theorem dX6_isViolated_45 : decode cX6_isViolated 45 = .ok (.invokevirtual 116, 3) := by decide +kernel
theorem dX6_isViolated_48 : decode cX6_isViolated 48 = .ok (.goto 10, 3) := by decide +kernel
theorem dX6_isViolated_51 : decode cX6_isViolated 51 = .ok (.aload_n 0, 1) := by decide +kernel
theorem dX6_isViolated_52 : decode cX6_isViolated 52 = .ok (.iload_n 2, 1) := by decide +kernel
theorem dX6_isViolated_53 : decode cX6_isViolated 53 = .ok (.iload 6, 2) := by decide +kernel
theorem dX6_isViolated_55 : decode cX6_isViolated 55 = .ok (.invokevirtual 128, 3) := by decide +kernel
theorem dX6_isViolated_58 : decode cX6_isViolated 58 = .ok (.istore 7, 2) := by decide +kernel
theorem dX6_isViolated_60 : decode cX6_isViolated 60 = .ok (.iload 4, 2) := by decide +kernel
theorem dX6_isViolated_62 : decode cX6_isViolated 62 = .ok (.iload 7, 2) := by decide +kernel
theorem dX6_isViolated_64 : decode cX6_isViolated 64 = .ok (.sipush (-1000), 3) := by decide +kernel
theorem dX6_isViolated_67 : decode cX6_isViolated 67 = .ok (.if_icmp .ne 7, 3) := by decide +kernel
theorem dX6_isViolated_70 : decode cX6_isViolated 70 = .ok (.iconst 0, 1) := by decide +kernel
theorem dX6_isViolated_71 : decode cX6_isViolated 71 = .ok (.goto 5, 3) := by decide +kernel
theorem dX6_isViolated_74 : decode cX6_isViolated 74 = .ok (.iload 7, 2) := by decide +kernel
theorem dX6_isViolated_76 : decode cX6_isViolated 76 = .ok (.iadd, 1) := by decide +kernel
theorem dX6_isViolated_77 : decode cX6_isViolated 77 = .ok (.istore 4, 2) := by decide +kernel
theorem dX6_isViolated_79 : decode cX6_isViolated 79 = .ok (.iload 5, 2) := by decide +kernel
theorem dX6_isViolated_81 : decode cX6_isViolated 81 = .ok (.iload 7, 2) := by decide +kernel
theorem dX6_isViolated_83 : decode cX6_isViolated 83 = .ok (.sipush (-1000), 3) := by decide +kernel
theorem dX6_isViolated_86 : decode cX6_isViolated 86 = .ok (.if_icmp .ne 7, 3) := by decide +kernel
theorem dX6_isViolated_89 : decode cX6_isViolated 89 = .ok (.iconst 0, 1) := by decide +kernel
theorem dX6_isViolated_90 : decode cX6_isViolated 90 = .ok (.goto 4, 3) := by decide +kernel
theorem dX6_isViolated_93 : decode cX6_isViolated 93 = .ok (.iconst 1, 1) := by decide +kernel
theorem dX6_isViolated_94 : decode cX6_isViolated 94 = .ok (.iadd, 1) := by decide +kernel
theorem dX6_isViolated_95 : decode cX6_isViolated 95 = .ok (.istore 5, 2) := by decide +kernel
theorem dX6_isViolated_97 : decode cX6_isViolated 97 = .ok (.iinc 6 1, 3) := by decide +kernel
theorem dX6_isViolated_100 : decode cX6_isViolated 100 = .ok (.goto (-80), 3) := by decide +kernel
theorem dX6_isViolated_103 : decode cX6_isViolated 103 = .ok (.aload_n 0, 1) := by decide +kernel
theorem dX6_isViolated_104 : decode cX6_isViolated 104 = .ok (.getfield 60, 3) := by decide +kernel
theorem dX6_isViolated_107 : decode cX6_isViolated 107 = .ok (.iload_n 3, 1) := by decide +kernel
theorem dX6_isViolated_108 : decode cX6_isViolated 108 = .ok (.iconst 3, 1) := by decide +kernel
theorem dX6_isViolated_109 : decode cX6_isViolated 109 = .ok (.iadd, 1) := by decide +kernel
theorem dX6_isViolated_110 : decode cX6_isViolated 110 = .ok (.iaload, 1) := by decide +kernel
theorem dX6_isViolated_111 : decode cX6_isViolated 111 = .ok (.istore 6, 2) := by decide +kernel
theorem dX6_isViolated_113 : decode cX6_isViolated 113 = .ok (.aload_n 0, 1) := by decide +kernel
theorem dX6_isViolated_114 : decode cX6_isViolated 114 = .ok (.getfield 60, 3) := by decide +kernel
theorem dX6_isViolated_117 : decode cX6_isViolated 117 = .ok (.iload_n 3, 1) := by decide +kernel
theorem dX6_isViolated_118 : decode cX6_isViolated 118 = .ok (.iaload, 1) := by decide +kernel
theorem dX6_isViolated_119 : decode cX6_isViolated 119 = .ok (.ifCond .ne 18, 3) := by decide +kernel
theorem dX6_isViolated_122 : decode cX6_isViolated 122 = .ok (.iload 4, 2) := by decide +kernel
theorem dX6_isViolated_124 : decode cX6_isViolated 124 = .ok (.iload 6, 2) := by decide +kernel
theorem dX6_isViolated_126 : decode cX6_isViolated 126 = .ok (.if_icmp .ge 7, 3) := by decide +kernel
theorem dX6_isViolated_129 : decode cX6_isViolated 129 = .ok (.iconst 1, 1) := by decide +kernel
theorem dX6_isViolated_130 : decode cX6_isViolated 130 = .ok (.goto 44, 3) := by decide +kernel
theorem dX6_isViolated_133 : decode cX6_isViolated 133 = .ok (.iconst 0, 1) := by decide +kernel
theorem dX6_isViolated_134 : decode cX6_isViolated 134 = .ok (.goto 40, 3) := by decide +kernel
theorem dX6_isViolated_137 : decode cX6_isViolated 137 = .ok (.aload_n 0, 1) := by decide +kernel
theorem dX6_isViolated_138 : decode cX6_isViolated 138 = .ok (.getfield 60, 3) := by decide +kernel
theorem dX6_isViolated_141 : decode cX6_isViolated 141 = .ok (.iload_n 3, 1) := by decide +kernel
theorem dX6_isViolated_142 : decode cX6_isViolated 142 = .ok (.iaload, 1) := by decide +kernel
theorem dX6_isViolated_143 : decode cX6_isViolated 143 = .ok (.iconst 1, 1) := by decide +kernel
theorem dX6_isViolated_144 : decode cX6_isViolated 144 = .ok (.if_icmp .ne 18, 3) := by decide +kernel
theorem dX6_isViolated_147 : decode cX6_isViolated 147 = .ok (.iload 4, 2) := by decide +kernel
theorem dX6_isViolated_149 : decode cX6_isViolated 149 = .ok (.iload 6, 2) := by decide +kernel
theorem dX6_isViolated_151 : decode cX6_isViolated 151 = .ok (.if_icmp .le 7, 3) := by decide +kernel
theorem dX6_isViolated_154 : decode cX6_isViolated 154 = .ok (.iconst 1, 1) := by decide +kernel
theorem dX6_isViolated_155 : decode cX6_isViolated 155 = .ok (.goto 19, 3) := by decide +kernel
theorem dX6_isViolated_158 : decode cX6_isViolated 158 = .ok (.iconst 0, 1) := by decide +kernel
theorem dX6_isViolated_159 : decode cX6_isViolated 159 = .ok (.goto 15, 3) := by decide +kernel
theorem dX6_isViolated_162 : decode cX6_isViolated 162 = .ok (.iload 5, 2) := by decide +kernel
theorem dX6_isViolated_164 : decode cX6_isViolated 164 = .ok (.iload 6, 2) := by decide +kernel
theorem dX6_isViolated_166 : decode cX6_isViolated 166 = .ok (.if_icmp .le 7, 3) := by decide +kernel
theorem dX6_isViolated_169 : decode cX6_isViolated 169 = .ok (.iconst 1, 1) := by decide +kernel
theorem dX6_isViolated_170 : decode cX6_isViolated 170 = .ok (.goto 4, 3) := by decide +kernel
theorem dX6_isViolated_173 : decode cX6_isViolated 173 = .ok (.iconst 0, 1) := by decide +kernel
theorem dX6_isViolated_174 : decode cX6_isViolated 174 = .ok (.ireturn, 1) := by decide +kernel
theorem dX6_violates_0 : decode cX6_violates 0 = .ok (.iconst 0, 1) := by decide +kernel
theorem dX6_violates_1 : decode cX6_violates 1 = .ok (.istore_n 2, 1) := by decide +kernel
theorem dX6_violates_2 : decode cX6_violates 2 = .ok (.iconst 0, 1) := by decide +kernel
theorem dX6_violates_3 : decode cX6_violates 3 = .ok (.istore_n 3, 1) := by decide +kernel
theorem dX6_violates_4 : decode cX6_violates 4 = .ok (.iload_n 3, 1) := by decide +kernel
theorem dX6_violates_5 : decode cX6_violates 5 = .ok (.aload_n 0, 1) := by decide +kernel
theorem dX6_violates_6 : decode cX6_violates 6 = .ok (.getfield 180, 3) := by decide +kernel
theorem dX6_violates_9 : decode cX6_violates 9 = .ok (.if_icmp .ge 28, 3) := by decide +kernel
theorem dX6_violates_12 : decode cX6_violates 12 = .ok (.iload_n 2, 1) := by decide +kernel
theorem dX6_violates_13 : decode cX6_violates 13 = .ok (.ifCond .ne 12, 3) := by decide +kernel
theorem dX6_violates_16 : decode cX6_violates 16 = .ok (.aload_n 0, 1) := by decide +kernel
theorem dX6_violates_17 : decode cX6_violates 17 = .ok (.iload_n 3, 1) := by decide +kernel
theorem dX6_violates_18 : decode cX6_violates 18 = .ok (.iload_n 1, 1) := by decide +kernel
theorem dX6_violates_19 : decode cX6_violates 19 = .ok (.invokevirtual 183, 3) := by decide +kernel
theorem dX6_violates_22 : decode cX6_violates 22 = .ok (.ifCond .eq 7, 3) := by decide +kernel
theorem dX6_violates_25 : decode cX6_violates 25 = .ok (.iconst 1, 1) := by decide +kernel
theorem dX6_violates_26 : decode cX6_violates 26 = .ok (.goto 4, 3) := by decide +kernel
theorem dX6_violates_29 : decode cX6_violates 29 = .ok (.iconst 0, 1) := by decide +kernel
theorem dX6_violates_30 : decode cX6_violates 30 = .ok (.istore_n 2, 1) := by decide +kernel
theorem dX6_violates_31 : decode cX6_violates 31 = .ok (.iinc 3 1, 3) := by decide +kernel
theorem dX6_violates_34 : decode cX6_violates 34 = .ok (.goto (-30), 3) := by decide +kernel
theorem dX6_violates_37 : decode cX6_violates 37 = .ok (.iload_n 2, 1) := by decide +kernel
theorem dX6_violates_38 : decode cX6_violates 38 = .ok (.ireturn, 1) := by decide +kernel
theorem dX6_doCommit_0 : decode cX6_doCommit 0 = .ok (.aload_n 0, 1) := by decide +kernel
theorem dX6_doCommit_1 : decode cX6_doCommit 1 = .ok (.getfield 48, 3) := by decide +kernel
theorem dX6_doCommit_4 : decode cX6_doCommit 4 = .ok (.iconst (-1), 1) := by decide +kernel
theorem dX6_doCommit_5 : decode cX6_doCommit 5 = .ok (.if_icmp .eq 25, 3) := by decide +kernel
theorem dX6_doCommit_8 : decode cX6_doCommit 8 = .ok (.aload_n 0, 1) := by decide +kernel
theorem dX6_doCommit_9 : decode cX6_doCommit 9 = .ok (.getfield 48, 3) := by decide +kernel
theorem dX6_doCommit_12 : decode cX6_doCommit 12 = .ok (.iload_n 1, 1) := by decide +kernel
theorem dX6_doCommit_13 : decode cX6_doCommit 13 = .ok (.if_icmp .eq 17, 3) := by decide +kernel
theorem dX6_doCommit_16 : decode cX6_doCommit 16 = .ok (.aload_n 0, 1) := by decide +kernel
theorem dX6_doCommit_17 : decode cX6_doCommit 17 = .ok (.iload_n 1, 1) := by decide +kernel
theorem dX6_doCommit_18 : decode cX6_doCommit 18 = .ok (.aload_n 0, 1) := by decide +kernel
theorem dX6_doCommit_19 : decode cX6_doCommit 19 = .ok (.getfield 48, 3) := by decide +kernel
theorem dX6_doCommit_22 : decode cX6_doCommit 22 = .ok (.invokevirtual 162, 3) := by decide +kernel
theorem dX6_doCommit_25 : decode cX6_doCommit 25 = .ok (.ifCond .eq 5, 3) := by decide +kernel
theorem dX6_doCommit_28 : decode cX6_doCommit 28 = .ok (.iconst (-1), 1) := by decide +kernel
theorem dX6_doCommit_29 : decode cX6_doCommit 29 = .ok (.ireturn, 1) := by decide +kernel
theorem dX6_doCommit_30 : decode cX6_doCommit 30 = .ok (.aload_n 0, 1) := by decide +kernel
theorem dX6_doCommit_31 : decode cX6_doCommit 31 = .ok (.getfield 93, 3) := by decide +kernel
theorem dX6_doCommit_34 : decode cX6_doCommit 34 = .ok (.ifCond .ne 11, 3) := by decide +kernel
theorem dX6_doCommit_37 : decode cX6_doCommit 37 = .ok (.aload_n 0, 1) := by decide +kernel
theorem dX6_doCommit_38 : decode cX6_doCommit 38 = .ok (.iload_n 1, 1) := by decide +kernel
theorem dX6_doCommit_39 : decode cX6_doCommit 39 = .ok (.invokevirtual 174, 3) := by decide +kernel
theorem dX6_doCommit_42 : decode cX6_doCommit 42 = .ok (.goto 4, 3) := by decide +kernel
theorem dX6_doCommit_45 : decode cX6_doCommit 45 = .ok (.iconst 0, 1) := by decide +kernel
theorem dX6_doCommit_46 : decode cX6_doCommit 46 = .ok (.istore_n 2, 1) := by decide +kernel
theorem dX6_doCommit_47 : decode cX6_doCommit 47 = .ok (.aload_n 0, 1) := by decide +kernel
theorem dX6_doCommit_48 : decode cX6_doCommit 48 = .ok (.getfield 93, 3) := by decide +kernel
theorem dX6_doCommit_51 : decode cX6_doCommit 51 = .ok (.iconst 1, 1) := by decide +kernel
theorem dX6_doCommit_52 : decode cX6_doCommit 52 = .ok (.if_icmp .ne 31, 3) := by decide +kernel
theorem dX6_doCommit_55 : decode cX6_doCommit 55 = .ok (.aload_n 0, 1) := by decide +kernel
theorem dX6_doCommit_56 : decode cX6_doCommit 56 = .ok (.getfield 48, 3) := by decide +kernel
theorem dX6_doCommit_59 : decode cX6_doCommit 59 = .ok (.iload_n 1, 1) := by decide +kernel
theorem dX6_doCommit_60 : decode cX6_doCommit 60 = .ok (.if_icmp .eq 23, 3) := by decide +kernel
theorem dX6_doCommit_63 : decode cX6_doCommit 63 = .ok (.aload_n 0, 1) := by decide +kernel
theorem dX6_doCommit_64 : decode cX6_doCommit 64 = .ok (.iload_n 1, 1) := by decide +kernel
theorem dX6_doCommit_65 : decode cX6_doCommit 65 = .ok (.invokevirtual 177, 3) := by decide +kernel
theorem dX6_doCommit_68 : decode cX6_doCommit 68 = .ok (.ifCond .le 15, 3) := by decide +kernel
theorem dX6_doCommit_71 : decode cX6_doCommit 71 = .ok (.aload_n 0, 1) := by decide +kernel
theorem dX6_doCommit_72 : decode cX6_doCommit 72 = .ok (.iload_n 1, 1) := by decide +kernel
theorem dX6_doCommit_73 : decode cX6_doCommit 73 = .ok (.invokevirtual 186, 3) := by decide +kernel
theorem dX6_doCommit_76 : decode cX6_doCommit 76 = .ok (.ifCond .eq 7, 3) := by decide +kernel
theorem dX6_doCommit_79 : decode cX6_doCommit 79 = .ok (.iconst 1, 1) := by decide +kernel
theorem dX6_doCommit_80 : decode cX6_doCommit 80 = .ok (.goto 4, 3) := by decide +kernel
theorem dX6_doCommit_83 : decode cX6_doCommit 83 = .ok (.iconst 0, 1) := by decide +kernel
theorem dX6_doCommit_84 : decode cX6_doCommit 84 = .ok (.istore_n 3, 1) := by decide +kernel
theorem dX6_doCommit_85 : decode cX6_doCommit 85 = .ok (.iload_n 2, 1) := by decide +kernel
theorem dX6_doCommit_86 : decode cX6_doCommit 86 = .ok (.ifCond .le 7, 3) := by decide +kernel
theorem dX6_doCommit_89 : decode cX6_doCommit 89 = .ok (.iload_n 2, 1) := by decide +kernel
theorem dX6_doCommit_90 : decode cX6_doCommit 90 = .ok (.goto 24, 3) := by decide +kernel
theorem dX6_doCommit_93 : decode cX6_doCommit 93 = .ok (.iload_n 3, 1) := by decide +kernel
theorem dX6_doCommit_94 : decode cX6_doCommit 94 = .ok (.ifCond .eq 7, 3) := by decide +kernel
theorem dX6_doCommit_97 : decode cX6_doCommit 97 = .ok (.iconst 3, 1) := by decide +kernel
theorem dX6_doCommit_98 : decode cX6_doCommit 98 = .ok (.goto 16, 3) := by decide +kernel
theorem dX6_doCommit_101 : decode cX6_doCommit 101 = .ok (.aload_n 0, 1) := by decide +kernel
theorem dX6_doCommit_102 : decode cX6_doCommit 102 = .ok (.iload_n 1, 1) := by decide +kernel
theorem dX6_doCommit_103 : decode cX6_doCommit 103 = .ok (.invokevirtual 189, 3) := by decide +kernel
theorem dX6_doCommit_106 : decode cX6_doCommit 106 = .ok (.ifCond .eq 7, 3) := by decide +kernel
theorem dX6_doCommit_109 : decode cX6_doCommit 109 = .ok (.iconst 4, 1) := by decide +kernel
theorem dX6_doCommit_110 : decode cX6_doCommit 110 = .ok (.goto 4, 3) := by decide +kernel
theorem dX6_doCommit_113 : decode cX6_doCommit 113 = .ok (.iconst 0, 1) := by decide +kernel
theorem dX6_doCommit_114 : decode cX6_doCommit 114 = .ok (.istore 4, 2) := by decide +kernel
theorem dX6_doCommit_116 : decode cX6_doCommit 116 = .ok (.iload 4, 2) := by decide +kernel
theorem dX6_doCommit_118 : decode cX6_doCommit 118 = .ok (.ifCond .le 13, 3) := by decide +kernel
theorem dX6_doCommit_121 : decode cX6_doCommit 121 = .ok (.aload_n 0, 1) := by decide +kernel
theorem dX6_doCommit_122 : decode cX6_doCommit 122 = .ok (.iload_n 1, 1) := by decide +kernel
theorem dX6_doCommit_123 : decode cX6_doCommit 123 = .ok (.iload 4, 2) := by decide +kernel
theorem dX6_doCommit_125 : decode cX6_doCommit 125 = .ok (.invokevirtual 192, 3) := by decide +kernel
theorem dX6_doCommit_128 : decode cX6_doCommit 128 = .ok (.bipush (-2), 2) := by decide +kernel
theorem dX6_doCommit_130 : decode cX6_doCommit 130 = .ok (.ireturn, 1) := by decide +kernel
theorem dX6_doCommit_131 : decode cX6_doCommit 131 = .ok (.iconst 0, 1) := by decide +kernel
theorem dX6_doCommit_132 : decode cX6_doCommit 132 = .ok (.istore 5, 2) := by decide +kernel
theorem dX6_doCommit_134 : decode cX6_doCommit 134 = .ok (.iload 5, 2) := by decide +kernel
theorem dX6_doCommit_136 : decode cX6_doCommit 136 = .ok (.aload_n 0, 1) := by decide +kernel
theorem dX6_doCommit_137 : decode cX6_doCommit 137 = .ok (.getfield 78, 3) := by decide +kernel
theorem dX6_doCommit_140 : decode cX6_doCommit 140 = .ok (.if_icmp .ge 34, 3) := by decide +kernel
theorem dX6_doCommit_143 : decode cX6_doCommit 143 = .ok (.aload_n 0, 1) := by decide +kernel
theorem dX6_doCommit_144 : decode cX6_doCommit 144 = .ok (.getfield 93, 3) := by decide +kernel
theorem dX6_doCommit_147 : decode cX6_doCommit 147 = .ok (.iconst 1, 1) := by decide +kernel
theorem dX6_doCommit_148 : decode cX6_doCommit 148 = .ok (.if_icmp .ne 26, 3) := by decide +kernel
theorem dX6_doCommit_151 : decode cX6_doCommit 151 = .ok (.aload_n 0, 1) := by decide +kernel
theorem dX6_doCommit_152 : decode cX6_doCommit 152 = .ok (.iload_n 1, 1) := by decide +kernel
theorem dX6_doCommit_153 : decode cX6_doCommit 153 = .ok (.iload 5, 2) := by decide +kernel
theorem dX6_doCommit_155 : decode cX6_doCommit 155 = .ok (.invokevirtual 165, 3) := by decide +kernel
theorem dX6_doCommit_158 : decode cX6_doCommit 158 = .ok (.ifCond .eq 10, 3) := by decide +kernel
theorem dX6_doCommit_161 : decode cX6_doCommit 161 = .ok (.aload_n 0, 1) := by decide +kernel
theorem dX6_doCommit_162 : decode cX6_doCommit 162 = .ok (.iload 5, 2) := by decide +kernel
theorem dX6_doCommit_164 : decode cX6_doCommit 164 = .ok (.iconst 3, 1) := by decide +kernel
theorem dX6_doCommit_165 : decode cX6_doCommit 165 = .ok (.invokevirtual 192, 3) := by decide +kernel
theorem dX6_doCommit_168 : decode cX6_doCommit 168 = .ok (.iinc 5 1, 3) := by decide +kernel
theorem dX6_doCommit_171 : decode cX6_doCommit 171 = .ok (.goto (-37), 3) := by decide +kernel
theorem dX6_doCommit_174 : decode cX6_doCommit 174 = .ok (.iconst 0, 1) := by decide +kernel
theorem dX6_doCommit_175 : decode cX6_doCommit 175 = .ok (.istore 5, 2) := by decide +kernel
theorem dX6_doCommit_177 : decode cX6_doCommit 177 = .ok (.iload 5, 2) := by decide +kernel
theorem dX6_doCommit_179 : decode cX6_doCommit 179 = .ok (.bipush 32, 2) := by decide +kernel
theorem dX6_doCommit_181 : decode cX6_doCommit 181 = .ok (.if_icmp .ge 33, 3) := by decide +kernel
theorem dX6_doCommit_184 : decode cX6_doCommit 184 = .ok (.aload_n 0, 1) := by decide +kernel
theorem dX6_doCommit_185 : decode cX6_doCommit 185 = .ok (.getfield 51, 3) := by decide +kernel
theorem dX6_doCommit_188 : decode cX6_doCommit 188 = .ok (.bipush 32, 2) := by decide +kernel
theorem dX6_doCommit_190 : decode cX6_doCommit 190 = .ok (.aload_n 0, 1) := by decide +kernel
theorem dX6_doCommit_191 : decode cX6_doCommit 191 = .ok (.getfield 113, 3) := by decide +kernel
theorem dX6_doCommit_194 : decode cX6_doCommit 194 = .ok (.iconst 1, 1) := by decide +kernel
theorem dX6_doCommit_195 : decode cX6_doCommit 195 = .ok (.iadd, 1) := by decide +kernel
theorem dX6_doCommit_196 : decode cX6_doCommit 196 = .ok (.imul, 1) := by decide +kernel
theorem dX6_doCommit_197 : decode cX6_doCommit 197 = .ok (.iload 5, 2) := by decide +kernel
theorem dX6_doCommit_199 : decode cX6_doCommit 199 = .ok (.iadd, 1) := by decide +kernel
theorem dX6_doCommit_200 : decode cX6_doCommit 200 = .ok (.aload_n 0, 1) := by decide +kernel
theorem dX6_doCommit_201 : decode cX6_doCommit 201 = .ok (.iload_n 1, 1) := by decide +kernel
theorem dX6_doCommit_202 : decode cX6_doCommit 202 = .ok (.iload 5, 2) := by decide +kernel
theorem dX6_doCommit_204 : decode cX6_doCommit 204 = .ok (.invokevirtual 128, 3) := by decide +kernel
theorem dX6_doCommit_207 : decode cX6_doCommit 207 = .ok (.iastore, 1) := by decide +kernel
theorem dX6_doCommit_208 : decode cX6_doCommit 208 = .ok (.iinc 5 1, 3) := by decide +kernel
theorem dX6_doCommit_211 : decode cX6_doCommit 211 = .ok (.goto (-34), 3) := by decide +kernel
theorem dX6_doCommit_214 : decode cX6_doCommit 214 = .ok (.aload_n 0, 1) := by decide +kernel
theorem dX6_doCommit_215 : decode cX6_doCommit 215 = .ok (.dup, 1) := by decide +kernel
theorem dX6_doCommit_216 : decode cX6_doCommit 216 = .ok (.getfield 113, 3) := by decide +kernel
theorem dX6_doCommit_219 : decode cX6_doCommit 219 = .ok (.iconst 1, 1) := by decide +kernel
theorem dX6_doCommit_220 : decode cX6_doCommit 220 = .ok (.iadd, 1) := by decide +kernel
theorem dX6_doCommit_221 : decode cX6_doCommit 221 = .ok (.putfield 113, 3) := by decide +kernel
theorem dX6_doCommit_224 : decode cX6_doCommit 224 = .ok (.aload_n 0, 1) := by decide +kernel
theorem dX6_doCommit_225 : decode cX6_doCommit 225 = .ok (.getfield 54, 3) := by decide +kernel
theorem dX6_doCommit_228 : decode cX6_doCommit 228 = .ok (.aload_n 0, 1) := by decide +kernel
theorem dX6_doCommit_229 : decode cX6_doCommit 229 = .ok (.getfield 113, 3) := by decide +kernel
theorem dX6_doCommit_232 : decode cX6_doCommit 232 = .ok (.iload_n 1, 1) := by decide +kernel
theorem dX6_doCommit_233 : decode cX6_doCommit 233 = .ok (.iastore, 1) := by decide +kernel
theorem dX6_doCommit_234 : decode cX6_doCommit 234 = .ok (.aload_n 0, 1) := by decide +kernel
theorem dX6_doCommit_235 : decode cX6_doCommit 235 = .ok (.getfield 23, 3) := by decide +kernel
theorem dX6_doCommit_238 : decode cX6_doCommit 238 = .ok (.iload_n 1, 1) := by decide +kernel
theorem dX6_doCommit_239 : decode cX6_doCommit 239 = .ok (.aload_n 0, 1) := by decide +kernel
theorem dX6_doCommit_240 : decode cX6_doCommit 240 = .ok (.getfield 113, 3) := by decide +kernel
theorem dX6_doCommit_243 : decode cX6_doCommit 243 = .ok (.iastore, 1) := by decide +kernel
theorem dX6_doCommit_244 : decode cX6_doCommit 244 = .ok (.aload_n 0, 1) := by decide +kernel
theorem dX6_doCommit_245 : decode cX6_doCommit 245 = .ok (.getfield 13, 3) := by decide +kernel
theorem dX6_doCommit_248 : decode cX6_doCommit 248 = .ok (.iload_n 1, 1) := by decide +kernel
theorem dX6_doCommit_249 : decode cX6_doCommit 249 = .ok (.iconst 1, 1) := by decide +kernel
theorem dX6_doCommit_250 : decode cX6_doCommit 250 = .ok (.iastore, 1) := by decide +kernel
theorem dX6_doCommit_251 : decode cX6_doCommit 251 = .ok (.aload_n 0, 1) := by decide +kernel
theorem dX6_doCommit_252 : decode cX6_doCommit 252 = .ok (.aload_n 0, 1) := by decide +kernel
theorem dX6_doCommit_253 : decode cX6_doCommit 253 = .ok (.getfield 48, 3) := by decide +kernel
theorem dX6_doCommit_256 : decode cX6_doCommit 256 = .ok (.iload_n 1, 1) := by decide +kernel
theorem dX6_doCommit_257 : decode cX6_doCommit 257 = .ok (.if_icmp .ne 7, 3) := by decide +kernel
theorem dX6_doCommit_260 : decode cX6_doCommit 260 = .ok (.iconst (-1), 1) := by decide +kernel
theorem dX6_doCommit_261 : decode cX6_doCommit 261 = .ok (.goto 7, 3) := by decide +kernel
theorem dX6_doCommit_264 : decode cX6_doCommit 264 = .ok (.aload_n 0, 1) := by decide +kernel
theorem dX6_doCommit_265 : decode cX6_doCommit 265 = .ok (.getfield 48, 3) := by decide +kernel
theorem dX6_doCommit_268 : decode cX6_doCommit 268 = .ok (.putfield 48, 3) := by decide +kernel
theorem dX6_doCommit_271 : decode cX6_doCommit 271 = .ok (.aload_n 0, 1) := by decide +kernel
theorem dX6_doCommit_272 : decode cX6_doCommit 272 = .ok (.getfield 113, 3) := by decide +kernel
theorem dX6_doCommit_275 : decode cX6_doCommit 275 = .ok (.ireturn, 1) := by decide +kernel
theorem dX6_commit_0 : decode cX6_commit 0 = .ok (.aload_n 0, 1) := by decide +kernel
theorem dX6_commit_1 : decode cX6_commit 1 = .ok (.aload_n 0, 1) := by decide +kernel
theorem dX6_commit_2 : decode cX6_commit 2 = .ok (.iload_n 1, 1) := by decide +kernel
theorem dX6_commit_3 : decode cX6_commit 3 = .ok (.invokevirtual 110, 3) := by decide +kernel
theorem dX6_commit_6 : decode cX6_commit 6 = .ok (.ifCond .ne 7, 3) := by decide +kernel
theorem dX6_commit_9 : decode cX6_commit 9 = .ok (.iconst 1, 1) := by decide +kernel
theorem dX6_commit_10 : decode cX6_commit 10 = .ok (.goto 26, 3) := by decide +kernel
theorem dX6_commit_13 : decode cX6_commit 13 = .ok (.aload_n 0, 1) := by decide +kernel
theorem dX6_commit_14 : decode cX6_commit 14 = .ok (.getfield 13, 3) := by decide +kernel
theorem dX6_commit_17 : decode cX6_commit 17 = .ok (.iload_n 1, 1) := by decide +kernel
theorem dX6_commit_18 : decode cX6_commit 18 = .ok (.iaload, 1) := by decide +kernel
theorem dX6_commit_19 : decode cX6_commit 19 = .ok (.ifCond .ne 12, 3) := by decide +kernel
theorem dX6_commit_22 : decode cX6_commit 22 = .ok (.aload_n 0, 1) := by decide +kernel
theorem dX6_commit_23 : decode cX6_commit 23 = .ok (.getfield 113, 3) := by decide +kernel
theorem dX6_commit_26 : decode cX6_commit 26 = .ok (.bipush 60, 2) := by decide +kernel
theorem dX6_commit_28 : decode cX6_commit 28 = .ok (.if_icmp .ne 7, 3) := by decide +kernel
theorem dX6_commit_31 : decode cX6_commit 31 = .ok (.iconst 2, 1) := by decide +kernel
theorem dX6_commit_32 : decode cX6_commit 32 = .ok (.goto 4, 3) := by decide +kernel
theorem dX6_commit_35 : decode cX6_commit 35 = .ok (.iconst 0, 1) := by decide +kernel
theorem dX6_commit_36 : decode cX6_commit 36 = .ok (.putfield 1, 3) := by decide +kernel
theorem dX6_commit_39 : decode cX6_commit 39 = .ok (.aload_n 0, 1) := by decide +kernel
theorem dX6_commit_40 : decode cX6_commit 40 = .ok (.getfield 1, 3) := by decide +kernel
theorem dX6_commit_43 : decode cX6_commit 43 = .ok (.ifCond .ne 11, 3) := by decide +kernel
theorem dX6_commit_46 : decode cX6_commit 46 = .ok (.aload_n 0, 1) := by decide +kernel
theorem dX6_commit_47 : decode cX6_commit 47 = .ok (.iload_n 1, 1) := by decide +kernel
theorem dX6_commit_48 : decode cX6_commit 48 = .ok (.invokevirtual 195, 3) := by decide +kernel
theorem dX6_commit_51 : decode cX6_commit 51 = .ok (.goto 4, 3) := by decide +kernel
theorem dX6_commit_54 : decode cX6_commit 54 = .ok (.iconst 0, 1) := by decide +kernel
theorem dX6_commit_55 : decode cX6_commit 55 = .ok (.ireturn, 1) := by decide +kernel
theorem dX6_abort_0 : decode cX6_abort 0 = .ok (.aload_n 0, 1) := by decide +kernel
theorem dX6_abort_1 : decode cX6_abort 1 = .ok (.aload_n 0, 1) := by decide +kernel
theorem dX6_abort_2 : decode cX6_abort 2 = .ok (.iload_n 1, 1) := by decide +kernel
theorem dX6_abort_3 : decode cX6_abort 3 = .ok (.invokevirtual 171, 3) := by decide +kernel
theorem dX6_abort_6 : decode cX6_abort 6 = .ok (.putfield 1, 3) := by decide +kernel
theorem dX6_abort_9 : decode cX6_abort 9 = .ok (.aload_n 0, 1) := by decide +kernel
theorem dX6_abort_10 : decode cX6_abort 10 = .ok (.getfield 1, 3) := by decide +kernel
theorem dX6_abort_13 : decode cX6_abort 13 = .ok (.ifCond .ne 9, 3) := by decide +kernel
theorem dX6_abort_16 : decode cX6_abort 16 = .ok (.aload_n 0, 1) := by decide +kernel
theorem dX6_abort_17 : decode cX6_abort 17 = .ok (.iload_n 1, 1) := by decide +kernel
theorem dX6_abort_18 : decode cX6_abort 18 = .ok (.iconst 5, 1) := by decide +kernel
theorem dX6_abort_19 : decode cX6_abort 19 = .ok (.invokevirtual 192, 3) := by decide +kernel
theorem dX6_abort_22 : decode cX6_abort 22 = .ok (.return_, 1) := by decide +kernel
theorem dX6_clock_0 : decode cX6_clock 0 = .ok (.aload_n 0, 1) := by decide +kernel
theorem dX6_clock_1 : decode cX6_clock 1 = .ok (.iconst 0, 1) := by decide +kernel
theorem dX6_clock_2 : decode cX6_clock 2 = .ok (.putfield 1, 3) := by decide +kernel
theorem dX6_clock_5 : decode cX6_clock 5 = .ok (.aload_n 0, 1) := by decide +kernel
theorem dX6_clock_6 : decode cX6_clock 6 = .ok (.getfield 113, 3) := by decide +kernel
theorem dX6_clock_9 : decode cX6_clock 9 = .ok (.ireturn, 1) := by decide +kernel
theorem dX6_transactionCount_0 : decode cX6_transactionCount 0 = .ok (.aload_n 0, 1) := by decide +kernel
theorem dX6_transactionCount_1 : decode cX6_transactionCount 1 = .ok (.iconst 0, 1) := by decide +kernel
theorem dX6_transactionCount_2 : decode cX6_transactionCount 2 = .ok (.putfield 1, 3) := by decide +kernel
theorem dX6_transactionCount_5 : decode cX6_transactionCount 5 = .ok (.aload_n 0, 1) := by decide +kernel
theorem dX6_transactionCount_6 : decode cX6_transactionCount 6 = .ok (.getfield 78, 3) := by decide +kernel
theorem dX6_transactionCount_9 : decode cX6_transactionCount 9 = .ok (.ireturn, 1) := by decide +kernel
theorem dX6_activeCount_0 : decode cX6_activeCount 0 = .ok (.aload_n 0, 1) := by decide +kernel
theorem dX6_activeCount_1 : decode cX6_activeCount 1 = .ok (.iconst 0, 1) := by decide +kernel
theorem dX6_activeCount_2 : decode cX6_activeCount 2 = .ok (.putfield 1, 3) := by decide +kernel
theorem dX6_activeCount_5 : decode cX6_activeCount 5 = .ok (.aload_n 0, 1) := by decide +kernel
theorem dX6_activeCount_6 : decode cX6_activeCount 6 = .ok (.invokevirtual 89, 3) := by decide +kernel
theorem dX6_activeCount_9 : decode cX6_activeCount 9 = .ok (.ireturn, 1) := by decide +kernel
theorem dX6_ticketHolder_0 : decode cX6_ticketHolder 0 = .ok (.aload_n 0, 1) := by decide +kernel
theorem dX6_ticketHolder_1 : decode cX6_ticketHolder 1 = .ok (.iconst 0, 1) := by decide +kernel
theorem dX6_ticketHolder_2 : decode cX6_ticketHolder 2 = .ok (.putfield 1, 3) := by decide +kernel
theorem dX6_ticketHolder_5 : decode cX6_ticketHolder 5 = .ok (.aload_n 0, 1) := by decide +kernel
theorem dX6_ticketHolder_6 : decode cX6_ticketHolder 6 = .ok (.getfield 48, 3) := by decide +kernel
theorem dX6_ticketHolder_9 : decode cX6_ticketHolder 9 = .ok (.iconst (-1), 1) := by decide +kernel
theorem dX6_ticketHolder_10 : decode cX6_ticketHolder 10 = .ok (.if_icmp .ne 11, 3) := by decide +kernel
theorem dX6_ticketHolder_13 : decode cX6_ticketHolder 13 = .ok (.aload_n 0, 1) := by decide +kernel
theorem dX6_ticketHolder_14 : decode cX6_ticketHolder 14 = .ok (.iconst 1, 1) := by decide +kernel
theorem dX6_ticketHolder_15 : decode cX6_ticketHolder 15 = .ok (.invokevirtual 107, 3) := by decide +kernel
theorem dX6_ticketHolder_18 : decode cX6_ticketHolder 18 = .ok (.goto 7, 3) := by decide +kernel
theorem dX6_ticketHolder_21 : decode cX6_ticketHolder 21 = .ok (.aload_n 0, 1) := by decide +kernel
theorem dX6_ticketHolder_22 : decode cX6_ticketHolder 22 = .ok (.getfield 48, 3) := by decide +kernel
theorem dX6_ticketHolder_25 : decode cX6_ticketHolder 25 = .ok (.ireturn, 1) := by decide +kernel
theorem dX6_state_0 : decode cX6_state 0 = .ok (.aload_n 0, 1) := by decide +kernel
theorem dX6_state_1 : decode cX6_state 1 = .ok (.iconst 0, 1) := by decide +kernel
theorem dX6_state_2 : decode cX6_state 2 = .ok (.putfield 1, 3) := by decide +kernel
theorem dX6_state_5 : decode cX6_state 5 = .ok (.aload_n 0, 1) := by decide +kernel
theorem dX6_state_6 : decode cX6_state 6 = .ok (.iload_n 1, 1) := by decide +kernel
theorem dX6_state_7 : decode cX6_state 7 = .ok (.invokevirtual 110, 3) := by decide +kernel
theorem dX6_state_10 : decode cX6_state 10 = .ok (.ifCond .eq 12, 3) := by decide +kernel
theorem dX6_state_13 : decode cX6_state 13 = .ok (.aload_n 0, 1) := by decide +kernel
theorem dX6_state_14 : decode cX6_state 14 = .ok (.getfield 13, 3) := by decide +kernel
theorem dX6_state_17 : decode cX6_state 17 = .ok (.iload_n 1, 1) := by decide +kernel
theorem dX6_state_18 : decode cX6_state 18 = .ok (.iaload, 1) := by decide +kernel
theorem dX6_state_19 : decode cX6_state 19 = .ok (.goto 8, 3) := by decide +kernel
theorem dX6_state_22 : decode cX6_state 22 = .ok (.aload_n 0, 1) := by decide +kernel
theorem dX6_state_23 : decode cX6_state 23 = .ok (.iconst 1, 1) := by decide +kernel
theorem dX6_state_24 : decode cX6_state 24 = .ok (.invokevirtual 107, 3) := by decide +kernel
theorem dX6_state_27 : decode cX6_state 27 = .ok (.ireturn, 1) := by decide +kernel
theorem dX6_attempt_0 : decode cX6_attempt 0 = .ok (.aload_n 0, 1) := by decide +kernel
theorem dX6_attempt_1 : decode cX6_attempt 1 = .ok (.iconst 0, 1) := by decide +kernel
theorem dX6_attempt_2 : decode cX6_attempt 2 = .ok (.putfield 1, 3) := by decide +kernel
theorem dX6_attempt_5 : decode cX6_attempt 5 = .ok (.aload_n 0, 1) := by decide +kernel
theorem dX6_attempt_6 : decode cX6_attempt 6 = .ok (.iload_n 1, 1) := by decide +kernel
theorem dX6_attempt_7 : decode cX6_attempt 7 = .ok (.invokevirtual 110, 3) := by decide +kernel
theorem dX6_attempt_10 : decode cX6_attempt 10 = .ok (.ifCond .eq 12, 3) := by decide +kernel
theorem dX6_attempt_13 : decode cX6_attempt 13 = .ok (.aload_n 0, 1) := by decide +kernel
theorem dX6_attempt_14 : decode cX6_attempt 14 = .ok (.getfield 17, 3) := by decide +kernel
theorem dX6_attempt_17 : decode cX6_attempt 17 = .ok (.iload_n 1, 1) := by decide +kernel
theorem dX6_attempt_18 : decode cX6_attempt 18 = .ok (.iaload, 1) := by decide +kernel
theorem dX6_attempt_19 : decode cX6_attempt 19 = .ok (.goto 8, 3) := by decide +kernel
theorem dX6_attempt_22 : decode cX6_attempt 22 = .ok (.aload_n 0, 1) := by decide +kernel
theorem dX6_attempt_23 : decode cX6_attempt 23 = .ok (.iconst 1, 1) := by decide +kernel
theorem dX6_attempt_24 : decode cX6_attempt 24 = .ok (.invokevirtual 107, 3) := by decide +kernel
theorem dX6_attempt_27 : decode cX6_attempt 27 = .ok (.ireturn, 1) := by decide +kernel
theorem dX6_reason_0 : decode cX6_reason 0 = .ok (.aload_n 0, 1) := by decide +kernel
theorem dX6_reason_1 : decode cX6_reason 1 = .ok (.iconst 0, 1) := by decide +kernel
theorem dX6_reason_2 : decode cX6_reason 2 = .ok (.putfield 1, 3) := by decide +kernel
theorem dX6_reason_5 : decode cX6_reason 5 = .ok (.aload_n 0, 1) := by decide +kernel
theorem dX6_reason_6 : decode cX6_reason 6 = .ok (.iload_n 1, 1) := by decide +kernel
theorem dX6_reason_7 : decode cX6_reason 7 = .ok (.invokevirtual 110, 3) := by decide +kernel
theorem dX6_reason_10 : decode cX6_reason 10 = .ok (.ifCond .ne 11, 3) := by decide +kernel
theorem dX6_reason_13 : decode cX6_reason 13 = .ok (.aload_n 0, 1) := by decide +kernel
theorem dX6_reason_14 : decode cX6_reason 14 = .ok (.iconst 1, 1) := by decide +kernel
theorem dX6_reason_15 : decode cX6_reason 15 = .ok (.invokevirtual 107, 3) := by decide +kernel
theorem dX6_reason_18 : decode cX6_reason 18 = .ok (.goto 27, 3) := by decide +kernel
theorem dX6_reason_21 : decode cX6_reason 21 = .ok (.aload_n 0, 1) := by decide +kernel
theorem dX6_reason_22 : decode cX6_reason 22 = .ok (.getfield 13, 3) := by decide +kernel
theorem dX6_reason_25 : decode cX6_reason 25 = .ok (.iload_n 1, 1) := by decide +kernel
theorem dX6_reason_26 : decode cX6_reason 26 = .ok (.iaload, 1) := by decide +kernel
theorem dX6_reason_27 : decode cX6_reason 27 = .ok (.iconst 2, 1) := by decide +kernel
theorem dX6_reason_28 : decode cX6_reason 28 = .ok (.if_icmp .eq 11, 3) := by decide +kernel
theorem dX6_reason_31 : decode cX6_reason 31 = .ok (.aload_n 0, 1) := by decide +kernel
theorem dX6_reason_32 : decode cX6_reason 32 = .ok (.iconst 2, 1) := by decide +kernel
theorem dX6_reason_33 : decode cX6_reason 33 = .ok (.invokevirtual 107, 3) := by decide +kernel
theorem dX6_reason_36 : decode cX6_reason 36 = .ok (.goto 9, 3) := by decide +kernel
theorem dX6_reason_39 : decode cX6_reason 39 = .ok (.aload_n 0, 1) := by decide +kernel
theorem dX6_reason_40 : decode cX6_reason 40 = .ok (.getfield 20, 3) := by decide +kernel
theorem dX6_reason_43 : decode cX6_reason 43 = .ok (.iload_n 1, 1) := by decide +kernel
theorem dX6_reason_44 : decode cX6_reason 44 = .ok (.iaload, 1) := by decide +kernel
theorem dX6_reason_45 : decode cX6_reason 45 = .ok (.ireturn, 1) := by decide +kernel
theorem dX6_commitOf_0 : decode cX6_commitOf 0 = .ok (.aload_n 0, 1) := by decide +kernel
theorem dX6_commitOf_1 : decode cX6_commitOf 1 = .ok (.iconst 0, 1) := by decide +kernel
theorem dX6_commitOf_2 : decode cX6_commitOf 2 = .ok (.putfield 1, 3) := by decide +kernel
theorem dX6_commitOf_5 : decode cX6_commitOf 5 = .ok (.aload_n 0, 1) := by decide +kernel
theorem dX6_commitOf_6 : decode cX6_commitOf 6 = .ok (.iload_n 1, 1) := by decide +kernel
theorem dX6_commitOf_7 : decode cX6_commitOf 7 = .ok (.invokevirtual 110, 3) := by decide +kernel
theorem dX6_commitOf_10 : decode cX6_commitOf 10 = .ok (.ifCond .ne 11, 3) := by decide +kernel
theorem dX6_commitOf_13 : decode cX6_commitOf 13 = .ok (.aload_n 0, 1) := by decide +kernel
theorem dX6_commitOf_14 : decode cX6_commitOf 14 = .ok (.iconst 1, 1) := by decide +kernel
theorem dX6_commitOf_15 : decode cX6_commitOf 15 = .ok (.invokevirtual 107, 3) := by decide +kernel
theorem dX6_commitOf_18 : decode cX6_commitOf 18 = .ok (.goto 27, 3) := by decide +kernel
theorem dX6_commitOf_21 : decode cX6_commitOf 21 = .ok (.aload_n 0, 1) := by decide +kernel
theorem dX6_commitOf_22 : decode cX6_commitOf 22 = .ok (.getfield 13, 3) := by decide +kernel
theorem dX6_commitOf_25 : decode cX6_commitOf 25 = .ok (.iload_n 1, 1) := by decide +kernel
theorem dX6_commitOf_26 : decode cX6_commitOf 26 = .ok (.iaload, 1) := by decide +kernel
theorem dX6_commitOf_27 : decode cX6_commitOf 27 = .ok (.iconst 1, 1) := by decide +kernel
theorem dX6_commitOf_28 : decode cX6_commitOf 28 = .ok (.if_icmp .eq 11, 3) := by decide +kernel
theorem dX6_commitOf_31 : decode cX6_commitOf 31 = .ok (.aload_n 0, 1) := by decide +kernel
theorem dX6_commitOf_32 : decode cX6_commitOf 32 = .ok (.iconst 2, 1) := by decide +kernel
theorem dX6_commitOf_33 : decode cX6_commitOf 33 = .ok (.invokevirtual 107, 3) := by decide +kernel
theorem dX6_commitOf_36 : decode cX6_commitOf 36 = .ok (.goto 9, 3) := by decide +kernel
theorem dX6_commitOf_39 : decode cX6_commitOf 39 = .ok (.aload_n 0, 1) := by decide +kernel
theorem dX6_commitOf_40 : decode cX6_commitOf 40 = .ok (.getfield 23, 3) := by decide +kernel
theorem dX6_commitOf_43 : decode cX6_commitOf 43 = .ok (.iload_n 1, 1) := by decide +kernel
theorem dX6_commitOf_44 : decode cX6_commitOf 44 = .ok (.iaload, 1) := by decide +kernel
theorem dX6_commitOf_45 : decode cX6_commitOf 45 = .ok (.ireturn, 1) := by decide +kernel
theorem dX6_operationCount_0 : decode cX6_operationCount 0 = .ok (.aload_n 0, 1) := by decide +kernel
theorem dX6_operationCount_1 : decode cX6_operationCount 1 = .ok (.iconst 0, 1) := by decide +kernel
theorem dX6_operationCount_2 : decode cX6_operationCount 2 = .ok (.putfield 1, 3) := by decide +kernel
theorem dX6_operationCount_5 : decode cX6_operationCount 5 = .ok (.aload_n 0, 1) := by decide +kernel
theorem dX6_operationCount_6 : decode cX6_operationCount 6 = .ok (.iload_n 1, 1) := by decide +kernel
theorem dX6_operationCount_7 : decode cX6_operationCount 7 = .ok (.invokevirtual 110, 3) := by decide +kernel
theorem dX6_operationCount_10 : decode cX6_operationCount 10 = .ok (.ifCond .eq 12, 3) := by decide +kernel
theorem dX6_operationCount_13 : decode cX6_operationCount 13 = .ok (.aload_n 0, 1) := by decide +kernel
theorem dX6_operationCount_14 : decode cX6_operationCount 14 = .ok (.getfield 30, 3) := by decide +kernel
theorem dX6_operationCount_17 : decode cX6_operationCount 17 = .ok (.iload_n 1, 1) := by decide +kernel
theorem dX6_operationCount_18 : decode cX6_operationCount 18 = .ok (.iaload, 1) := by decide +kernel
theorem dX6_operationCount_19 : decode cX6_operationCount 19 = .ok (.goto 8, 3) := by decide +kernel
theorem dX6_operationCount_22 : decode cX6_operationCount 22 = .ok (.aload_n 0, 1) := by decide +kernel
theorem dX6_operationCount_23 : decode cX6_operationCount 23 = .ok (.iconst 1, 1) := by decide +kernel
theorem dX6_operationCount_24 : decode cX6_operationCount 24 = .ok (.invokevirtual 107, 3) := by decide +kernel
theorem dX6_operationCount_27 : decode cX6_operationCount 27 = .ok (.ireturn, 1) := by decide +kernel
theorem dX6_recordedKeys_0 : decode cX6_recordedKeys 0 = .ok (.aload_n 0, 1) := by decide +kernel
theorem dX6_recordedKeys_1 : decode cX6_recordedKeys 1 = .ok (.iconst 0, 1) := by decide +kernel
theorem dX6_recordedKeys_2 : decode cX6_recordedKeys 2 = .ok (.putfield 1, 3) := by decide +kernel
theorem dX6_recordedKeys_5 : decode cX6_recordedKeys 5 = .ok (.aload_n 0, 1) := by decide +kernel
theorem dX6_recordedKeys_6 : decode cX6_recordedKeys 6 = .ok (.iload_n 1, 1) := by decide +kernel
theorem dX6_recordedKeys_7 : decode cX6_recordedKeys 7 = .ok (.invokevirtual 110, 3) := by decide +kernel
theorem dX6_recordedKeys_10 : decode cX6_recordedKeys 10 = .ok (.ifCond .ne 9, 3) := by decide +kernel
theorem dX6_recordedKeys_13 : decode cX6_recordedKeys 13 = .ok (.aload_n 0, 1) := by decide +kernel
theorem dX6_recordedKeys_14 : decode cX6_recordedKeys 14 = .ok (.iconst 1, 1) := by decide +kernel
theorem dX6_recordedKeys_15 : decode cX6_recordedKeys 15 = .ok (.invokevirtual 107, 3) := by decide +kernel
theorem dX6_recordedKeys_18 : decode cX6_recordedKeys 18 = .ok (.ireturn, 1) := by decide +kernel
theorem dX6_recordedKeys_19 : decode cX6_recordedKeys 19 = .ok (.iconst 0, 1) := by decide +kernel
theorem dX6_recordedKeys_20 : decode cX6_recordedKeys 20 = .ok (.istore_n 2, 1) := by decide +kernel
theorem dX6_recordedKeys_21 : decode cX6_recordedKeys 21 = .ok (.iconst 0, 1) := by decide +kernel
theorem dX6_recordedKeys_22 : decode cX6_recordedKeys 22 = .ok (.istore_n 3, 1) := by decide +kernel
theorem dX6_recordedKeys_23 : decode cX6_recordedKeys 23 = .ok (.iload_n 3, 1) := by decide +kernel
theorem dX6_recordedKeys_24 : decode cX6_recordedKeys 24 = .ok (.bipush 32, 2) := by decide +kernel
theorem dX6_recordedKeys_26 : decode cX6_recordedKeys 26 = .ok (.if_icmp .ge 34, 3) := by decide +kernel
theorem dX6_recordedKeys_29 : decode cX6_recordedKeys 29 = .ok (.iload_n 2, 1) := by decide +kernel
theorem dX6_recordedKeys_30 : decode cX6_recordedKeys 30 = .ok (.aload_n 0, 1) := by decide +kernel
theorem dX6_recordedKeys_31 : decode cX6_recordedKeys 31 = .ok (.getfield 36, 3) := by decide +kernel
theorem dX6_recordedKeys_34 : decode cX6_recordedKeys 34 = .ok (.bipush 32, 2) := by decide +kernel
theorem dX6_recordedKeys_36 : decode cX6_recordedKeys 36 = .ok (.iload_n 1, 1) := by decide +kernel
theorem dX6_recordedKeys_37 : decode cX6_recordedKeys 37 = .ok (.imul, 1) := by decide +kernel
theorem dX6_recordedKeys_38 : decode cX6_recordedKeys 38 = .ok (.iload_n 3, 1) := by decide +kernel
theorem dX6_recordedKeys_39 : decode cX6_recordedKeys 39 = .ok (.iadd, 1) := by decide +kernel
theorem dX6_recordedKeys_40 : decode cX6_recordedKeys 40 = .ok (.iaload, 1) := by decide +kernel
theorem dX6_recordedKeys_41 : decode cX6_recordedKeys 41 = .ok (.iconst (-1), 1) := by decide +kernel
theorem dX6_recordedKeys_42 : decode cX6_recordedKeys 42 = .ok (.if_icmp .ne 7, 3) := by decide +kernel
theorem dX6_recordedKeys_45 : decode cX6_recordedKeys 45 = .ok (.iconst 0, 1) := by decide +kernel
theorem dX6_recordedKeys_46 : decode cX6_recordedKeys 46 = .ok (.goto 6, 3) := by decide +kernel
theorem dX6_recordedKeys_49 : decode cX6_recordedKeys 49 = .ok (.iconst 1, 1) := by decide +kernel
theorem dX6_recordedKeys_50 : decode cX6_recordedKeys 50 = .ok (.iload_n 3, 1) := by decide +kernel
theorem dX6_recordedKeys_51 : decode cX6_recordedKeys 51 = .ok (.ishl, 1) := by decide +kernel
theorem dX6_recordedKeys_52 : decode cX6_recordedKeys 52 = .ok (.ior, 1) := by decide +kernel
theorem dX6_recordedKeys_53 : decode cX6_recordedKeys 53 = .ok (.istore_n 2, 1) := by decide +kernel
theorem dX6_recordedKeys_54 : decode cX6_recordedKeys 54 = .ok (.iinc 3 1, 3) := by decide +kernel
theorem dX6_recordedKeys_57 : decode cX6_recordedKeys 57 = .ok (.goto (-34), 3) := by decide +kernel
theorem dX6_recordedKeys_60 : decode cX6_recordedKeys 60 = .ok (.iload_n 2, 1) := by decide +kernel
theorem dX6_recordedKeys_61 : decode cX6_recordedKeys 61 = .ok (.ireturn, 1) := by decide +kernel
theorem dX6_predicateCount_0 : decode cX6_predicateCount 0 = .ok (.aload_n 0, 1) := by decide +kernel
theorem dX6_predicateCount_1 : decode cX6_predicateCount 1 = .ok (.iconst 0, 1) := by decide +kernel
theorem dX6_predicateCount_2 : decode cX6_predicateCount 2 = .ok (.putfield 1, 3) := by decide +kernel
theorem dX6_predicateCount_5 : decode cX6_predicateCount 5 = .ok (.aload_n 0, 1) := by decide +kernel
theorem dX6_predicateCount_6 : decode cX6_predicateCount 6 = .ok (.iload_n 1, 1) := by decide +kernel
theorem dX6_predicateCount_7 : decode cX6_predicateCount 7 = .ok (.invokevirtual 110, 3) := by decide +kernel
theorem dX6_predicateCount_10 : decode cX6_predicateCount 10 = .ok (.ifCond .eq 12, 3) := by decide +kernel
theorem dX6_predicateCount_13 : decode cX6_predicateCount 13 = .ok (.aload_n 0, 1) := by decide +kernel
theorem dX6_predicateCount_14 : decode cX6_predicateCount 14 = .ok (.getfield 45, 3) := by decide +kernel
theorem dX6_predicateCount_17 : decode cX6_predicateCount 17 = .ok (.iload_n 1, 1) := by decide +kernel
theorem dX6_predicateCount_18 : decode cX6_predicateCount 18 = .ok (.iaload, 1) := by decide +kernel
theorem dX6_predicateCount_19 : decode cX6_predicateCount 19 = .ok (.goto 8, 3) := by decide +kernel
theorem dX6_predicateCount_22 : decode cX6_predicateCount 22 = .ok (.aload_n 0, 1) := by decide +kernel
theorem dX6_predicateCount_23 : decode cX6_predicateCount 23 = .ok (.iconst 1, 1) := by decide +kernel
theorem dX6_predicateCount_24 : decode cX6_predicateCount 24 = .ok (.invokevirtual 107, 3) := by decide +kernel
theorem dX6_predicateCount_27 : decode cX6_predicateCount 27 = .ok (.ireturn, 1) := by decide +kernel
theorem dX6_writtenKeys_0 : decode cX6_writtenKeys 0 = .ok (.aload_n 0, 1) := by decide +kernel
theorem dX6_writtenKeys_1 : decode cX6_writtenKeys 1 = .ok (.iconst 0, 1) := by decide +kernel
theorem dX6_writtenKeys_2 : decode cX6_writtenKeys 2 = .ok (.putfield 1, 3) := by decide +kernel
theorem dX6_writtenKeys_5 : decode cX6_writtenKeys 5 = .ok (.aload_n 0, 1) := by decide +kernel
theorem dX6_writtenKeys_6 : decode cX6_writtenKeys 6 = .ok (.iload_n 1, 1) := by decide +kernel
theorem dX6_writtenKeys_7 : decode cX6_writtenKeys 7 = .ok (.invokevirtual 110, 3) := by decide +kernel
theorem dX6_writtenKeys_10 : decode cX6_writtenKeys 10 = .ok (.ifCond .ne 9, 3) := by decide +kernel
theorem dX6_writtenKeys_13 : decode cX6_writtenKeys 13 = .ok (.aload_n 0, 1) := by decide +kernel
theorem dX6_writtenKeys_14 : decode cX6_writtenKeys 14 = .ok (.iconst 1, 1) := by decide +kernel
theorem dX6_writtenKeys_15 : decode cX6_writtenKeys 15 = .ok (.invokevirtual 107, 3) := by decide +kernel
theorem dX6_writtenKeys_18 : decode cX6_writtenKeys 18 = .ok (.ireturn, 1) := by decide +kernel
theorem dX6_writtenKeys_19 : decode cX6_writtenKeys 19 = .ok (.iconst 0, 1) := by decide +kernel
theorem dX6_writtenKeys_20 : decode cX6_writtenKeys 20 = .ok (.istore_n 2, 1) := by decide +kernel
theorem dX6_writtenKeys_21 : decode cX6_writtenKeys 21 = .ok (.iconst 0, 1) := by decide +kernel
theorem dX6_writtenKeys_22 : decode cX6_writtenKeys 22 = .ok (.istore_n 3, 1) := by decide +kernel
theorem dX6_writtenKeys_23 : decode cX6_writtenKeys 23 = .ok (.iload_n 3, 1) := by decide +kernel
theorem dX6_writtenKeys_24 : decode cX6_writtenKeys 24 = .ok (.bipush 32, 2) := by decide +kernel
theorem dX6_writtenKeys_26 : decode cX6_writtenKeys 26 = .ok (.if_icmp .ge 36, 3) := by decide +kernel
theorem dX6_writtenKeys_29 : decode cX6_writtenKeys 29 = .ok (.iload_n 2, 1) := by decide +kernel
theorem dX6_writtenKeys_30 : decode cX6_writtenKeys 30 = .ok (.aload_n 0, 1) := by decide +kernel
theorem dX6_writtenKeys_31 : decode cX6_writtenKeys 31 = .ok (.getfield 39, 3) := by decide +kernel
theorem dX6_writtenKeys_34 : decode cX6_writtenKeys 34 = .ok (.bipush 32, 2) := by decide +kernel
theorem dX6_writtenKeys_36 : decode cX6_writtenKeys 36 = .ok (.iload_n 1, 1) := by decide +kernel
theorem dX6_writtenKeys_37 : decode cX6_writtenKeys 37 = .ok (.imul, 1) := by decide +kernel
theorem dX6_writtenKeys_38 : decode cX6_writtenKeys 38 = .ok (.iload_n 3, 1) := by decide +kernel
theorem dX6_writtenKeys_39 : decode cX6_writtenKeys 39 = .ok (.iadd, 1) := by decide +kernel
theorem dX6_writtenKeys_40 : decode cX6_writtenKeys 40 = .ok (.iaload, 1) := by decide +kernel
theorem dX6_writtenKeys_41 : decode cX6_writtenKeys 41 = .ok (.sipush (-5000), 3) := by decide +kernel
theorem dX6_writtenKeys_44 : decode cX6_writtenKeys 44 = .ok (.if_icmp .ne 7, 3) := by decide +kernel
theorem dX6_writtenKeys_47 : decode cX6_writtenKeys 47 = .ok (.iconst 0, 1) := by decide +kernel
theorem dX6_writtenKeys_48 : decode cX6_writtenKeys 48 = .ok (.goto 6, 3) := by decide +kernel
theorem dX6_writtenKeys_51 : decode cX6_writtenKeys 51 = .ok (.iconst 1, 1) := by decide +kernel
theorem dX6_writtenKeys_52 : decode cX6_writtenKeys 52 = .ok (.iload_n 3, 1) := by decide +kernel
theorem dX6_writtenKeys_53 : decode cX6_writtenKeys 53 = .ok (.ishl, 1) := by decide +kernel
theorem dX6_writtenKeys_54 : decode cX6_writtenKeys 54 = .ok (.ior, 1) := by decide +kernel
theorem dX6_writtenKeys_55 : decode cX6_writtenKeys 55 = .ok (.istore_n 2, 1) := by decide +kernel
theorem dX6_writtenKeys_56 : decode cX6_writtenKeys 56 = .ok (.iinc 3 1, 3) := by decide +kernel
theorem dX6_writtenKeys_59 : decode cX6_writtenKeys 59 = .ok (.goto (-36), 3) := by decide +kernel
theorem dX6_writtenKeys_62 : decode cX6_writtenKeys 62 = .ok (.iload_n 2, 1) := by decide +kernel
theorem dX6_writtenKeys_63 : decode cX6_writtenKeys 63 = .ok (.ireturn, 1) := by decide +kernel
theorem dX6_value_0 : decode cX6_value 0 = .ok (.aload_n 0, 1) := by decide +kernel
theorem dX6_value_1 : decode cX6_value 1 = .ok (.iconst 0, 1) := by decide +kernel
theorem dX6_value_2 : decode cX6_value 2 = .ok (.putfield 1, 3) := by decide +kernel
theorem dX6_value_5 : decode cX6_value 5 = .ok (.iload_n 1, 1) := by decide +kernel
theorem dX6_value_6 : decode cX6_value 6 = .ok (.invokestatic 85, 3) := by decide +kernel
theorem dX6_value_9 : decode cX6_value 9 = .ok (.ifCond .eq 15, 3) := by decide +kernel
theorem dX6_value_12 : decode cX6_value 12 = .ok (.aload_n 0, 1) := by decide +kernel
theorem dX6_value_13 : decode cX6_value 13 = .ok (.aload_n 0, 1) := by decide +kernel
theorem dX6_value_14 : decode cX6_value 14 = .ok (.getfield 113, 3) := by decide +kernel
theorem dX6_value_17 : decode cX6_value 17 = .ok (.iload_n 1, 1) := by decide +kernel
theorem dX6_value_18 : decode cX6_value 18 = .ok (.invokevirtual 116, 3) := by decide +kernel
theorem dX6_value_21 : decode cX6_value 21 = .ok (.goto 8, 3) := by decide +kernel
theorem dX6_value_24 : decode cX6_value 24 = .ok (.aload_n 0, 1) := by decide +kernel
theorem dX6_value_25 : decode cX6_value 25 = .ok (.iconst 1, 1) := by decide +kernel
theorem dX6_value_26 : decode cX6_value 26 = .ok (.invokevirtual 107, 3) := by decide +kernel
theorem dX6_value_29 : decode cX6_value 29 = .ok (.ireturn, 1) := by decide +kernel
theorem dX6_valueAt_0 : decode cX6_valueAt 0 = .ok (.aload_n 0, 1) := by decide +kernel
theorem dX6_valueAt_1 : decode cX6_valueAt 1 = .ok (.iconst 0, 1) := by decide +kernel
theorem dX6_valueAt_2 : decode cX6_valueAt 2 = .ok (.putfield 1, 3) := by decide +kernel
theorem dX6_valueAt_5 : decode cX6_valueAt 5 = .ok (.iload_n 1, 1) := by decide +kernel
theorem dX6_valueAt_6 : decode cX6_valueAt 6 = .ok (.invokestatic 85, 3) := by decide +kernel
theorem dX6_valueAt_9 : decode cX6_valueAt 9 = .ok (.ifCond .ne 11, 3) := by decide +kernel
theorem dX6_valueAt_12 : decode cX6_valueAt 12 = .ok (.aload_n 0, 1) := by decide +kernel
theorem dX6_valueAt_13 : decode cX6_valueAt 13 = .ok (.iconst 1, 1) := by decide +kernel
theorem dX6_valueAt_14 : decode cX6_valueAt 14 = .ok (.invokevirtual 107, 3) := by decide +kernel
theorem dX6_valueAt_17 : decode cX6_valueAt 17 = .ok (.goto 29, 3) := by decide +kernel
theorem dX6_valueAt_20 : decode cX6_valueAt 20 = .ok (.iload_n 2, 1) := by decide +kernel
theorem dX6_valueAt_21 : decode cX6_valueAt 21 = .ok (.iconst 0, 1) := by decide +kernel
theorem dX6_valueAt_22 : decode cX6_valueAt 22 = .ok (.aload_n 0, 1) := by decide +kernel
theorem dX6_valueAt_23 : decode cX6_valueAt 23 = .ok (.getfield 113, 3) := by decide +kernel
theorem dX6_valueAt_26 : decode cX6_valueAt 26 = .ok (.invokestatic 81, 3) := by decide +kernel
theorem dX6_valueAt_29 : decode cX6_valueAt 29 = .ok (.ifCond .ne 11, 3) := by decide +kernel
theorem dX6_valueAt_32 : decode cX6_valueAt 32 = .ok (.aload_n 0, 1) := by decide +kernel
theorem dX6_valueAt_33 : decode cX6_valueAt 33 = .ok (.iconst 2, 1) := by decide +kernel
theorem dX6_valueAt_34 : decode cX6_valueAt 34 = .ok (.invokevirtual 107, 3) := by decide +kernel
theorem dX6_valueAt_37 : decode cX6_valueAt 37 = .ok (.goto 9, 3) := by decide +kernel
theorem dX6_valueAt_40 : decode cX6_valueAt 40 = .ok (.aload_n 0, 1) := by decide +kernel
theorem dX6_valueAt_41 : decode cX6_valueAt 41 = .ok (.iload_n 2, 1) := by decide +kernel
theorem dX6_valueAt_42 : decode cX6_valueAt 42 = .ok (.iload_n 1, 1) := by decide +kernel
theorem dX6_valueAt_43 : decode cX6_valueAt 43 = .ok (.invokevirtual 116, 3) := by decide +kernel
theorem dX6_valueAt_46 : decode cX6_valueAt 46 = .ok (.ireturn, 1) := by decide +kernel
theorem dX6_lastWriter_0 : decode cX6_lastWriter 0 = .ok (.iconst 0, 1) := by decide +kernel
theorem dX6_lastWriter_1 : decode cX6_lastWriter 1 = .ok (.istore_n 3, 1) := by decide +kernel
theorem dX6_lastWriter_2 : decode cX6_lastWriter 2 = .ok (.iconst 1, 1) := by decide +kernel
theorem dX6_lastWriter_3 : decode cX6_lastWriter 3 = .ok (.istore 4, 2) := by decide +kernel
theorem dX6_lastWriter_5 : decode cX6_lastWriter 5 = .ok (.iload 4, 2) := by decide +kernel
theorem dX6_lastWriter_7 : decode cX6_lastWriter 7 = .ok (.iload_n 2, 1) := by decide +kernel
theorem dX6_lastWriter_8 : decode cX6_lastWriter 8 = .ok (.if_icmp .ge 26, 3) := by decide +kernel
theorem dX6_lastWriter_11 : decode cX6_lastWriter 11 = .ok (.aload_n 0, 1) := by decide +kernel
theorem dX6_lastWriter_12 : decode cX6_lastWriter 12 = .ok (.iload 4, 2) := by decide +kernel
theorem dX6_lastWriter_14 : decode cX6_lastWriter 14 = .ok (.iload_n 1, 1) := by decide +kernel
theorem dX6_lastWriter_15 : decode cX6_lastWriter 15 = .ok (.invokevirtual 168, 3) := by decide +kernel
theorem dX6_lastWriter_18 : decode cX6_lastWriter 18 = .ok (.ifCond .eq 8, 3) := by decide +kernel
theorem dX6_lastWriter_21 : decode cX6_lastWriter 21 = .ok (.iload 4, 2) := by decide +kernel
theorem dX6_lastWriter_23 : decode cX6_lastWriter 23 = .ok (.goto 4, 3) := by decide +kernel
theorem dX6_lastWriter_26 : decode cX6_lastWriter 26 = .ok (.iload_n 3, 1) := by decide +kernel
theorem dX6_lastWriter_27 : decode cX6_lastWriter 27 = .ok (.istore_n 3, 1) := by decide +kernel
theorem dX6_lastWriter_28 : decode cX6_lastWriter 28 = .ok (.iinc 4 1, 3) := by decide +kernel
theorem dX6_lastWriter_31 : decode cX6_lastWriter 31 = .ok (.goto (-26), 3) := by decide +kernel
theorem dX6_lastWriter_34 : decode cX6_lastWriter 34 = .ok (.iload_n 3, 1) := by decide +kernel
theorem dX6_lastWriter_35 : decode cX6_lastWriter 35 = .ok (.ireturn, 1) := by decide +kernel
theorem dX6_writerOf_0 : decode cX6_writerOf 0 = .ok (.aload_n 0, 1) := by decide +kernel
theorem dX6_writerOf_1 : decode cX6_writerOf 1 = .ok (.iconst 0, 1) := by decide +kernel
theorem dX6_writerOf_2 : decode cX6_writerOf 2 = .ok (.putfield 1, 3) := by decide +kernel
theorem dX6_writerOf_5 : decode cX6_writerOf 5 = .ok (.iload_n 1, 1) := by decide +kernel
theorem dX6_writerOf_6 : decode cX6_writerOf 6 = .ok (.invokestatic 85, 3) := by decide +kernel
theorem dX6_writerOf_9 : decode cX6_writerOf 9 = .ok (.ifCond .eq 17, 3) := by decide +kernel
theorem dX6_writerOf_12 : decode cX6_writerOf 12 = .ok (.aload_n 0, 1) := by decide +kernel
theorem dX6_writerOf_13 : decode cX6_writerOf 13 = .ok (.iload_n 1, 1) := by decide +kernel
theorem dX6_writerOf_14 : decode cX6_writerOf 14 = .ok (.aload_n 0, 1) := by decide +kernel
theorem dX6_writerOf_15 : decode cX6_writerOf 15 = .ok (.getfield 113, 3) := by decide +kernel
theorem dX6_writerOf_18 : decode cX6_writerOf 18 = .ok (.iconst 1, 1) := by decide +kernel
theorem dX6_writerOf_19 : decode cX6_writerOf 19 = .ok (.iadd, 1) := by decide +kernel
theorem dX6_writerOf_20 : decode cX6_writerOf 20 = .ok (.invokevirtual 198, 3) := by decide +kernel
theorem dX6_writerOf_23 : decode cX6_writerOf 23 = .ok (.goto 8, 3) := by decide +kernel
theorem dX6_writerOf_26 : decode cX6_writerOf 26 = .ok (.aload_n 0, 1) := by decide +kernel
theorem dX6_writerOf_27 : decode cX6_writerOf 27 = .ok (.iconst 1, 1) := by decide +kernel
theorem dX6_writerOf_28 : decode cX6_writerOf 28 = .ok (.invokevirtual 107, 3) := by decide +kernel
theorem dX6_writerOf_31 : decode cX6_writerOf 31 = .ok (.ireturn, 1) := by decide +kernel
theorem dX6_isCommit_0 : decode cX6_isCommit 0 = .ok (.iload_n 1, 1) := by decide +kernel
theorem dX6_isCommit_1 : decode cX6_isCommit 1 = .ok (.iconst 1, 1) := by decide +kernel
theorem dX6_isCommit_2 : decode cX6_isCommit 2 = .ok (.aload_n 0, 1) := by decide +kernel
theorem dX6_isCommit_3 : decode cX6_isCommit 3 = .ok (.getfield 113, 3) := by decide +kernel
theorem dX6_isCommit_6 : decode cX6_isCommit 6 = .ok (.invokestatic 81, 3) := by decide +kernel
theorem dX6_isCommit_9 : decode cX6_isCommit 9 = .ok (.ireturn, 1) := by decide +kernel
theorem dX6_transactionOf_0 : decode cX6_transactionOf 0 = .ok (.aload_n 0, 1) := by decide +kernel
theorem dX6_transactionOf_1 : decode cX6_transactionOf 1 = .ok (.iconst 0, 1) := by decide +kernel
theorem dX6_transactionOf_2 : decode cX6_transactionOf 2 = .ok (.putfield 1, 3) := by decide +kernel
theorem dX6_transactionOf_5 : decode cX6_transactionOf 5 = .ok (.aload_n 0, 1) := by decide +kernel
theorem dX6_transactionOf_6 : decode cX6_transactionOf 6 = .ok (.iload_n 1, 1) := by decide +kernel
theorem dX6_transactionOf_7 : decode cX6_transactionOf 7 = .ok (.invokevirtual 201, 3) := by decide +kernel
theorem dX6_transactionOf_10 : decode cX6_transactionOf 10 = .ok (.ifCond .eq 12, 3) := by decide +kernel
theorem dX6_transactionOf_13 : decode cX6_transactionOf 13 = .ok (.aload_n 0, 1) := by decide +kernel
theorem dX6_transactionOf_14 : decode cX6_transactionOf 14 = .ok (.getfield 54, 3) := by decide +kernel
theorem dX6_transactionOf_17 : decode cX6_transactionOf 17 = .ok (.iload_n 1, 1) := by decide +kernel
theorem dX6_transactionOf_18 : decode cX6_transactionOf 18 = .ok (.iaload, 1) := by decide +kernel
theorem dX6_transactionOf_19 : decode cX6_transactionOf 19 = .ok (.goto 8, 3) := by decide +kernel
theorem dX6_transactionOf_22 : decode cX6_transactionOf 22 = .ok (.aload_n 0, 1) := by decide +kernel
theorem dX6_transactionOf_23 : decode cX6_transactionOf 23 = .ok (.iconst 1, 1) := by decide +kernel
theorem dX6_transactionOf_24 : decode cX6_transactionOf 24 = .ok (.invokevirtual 107, 3) := by decide +kernel
theorem dX6_transactionOf_27 : decode cX6_transactionOf 27 = .ok (.ireturn, 1) := by decide +kernel
theorem dX6_dependencyOf_0 : decode cX6_dependencyOf 0 = .ok (.aload_n 0, 1) := by decide +kernel
theorem dX6_dependencyOf_1 : decode cX6_dependencyOf 1 = .ok (.getfield 54, 3) := by decide +kernel
theorem dX6_dependencyOf_4 : decode cX6_dependencyOf 4 = .ok (.iload_n 1, 1) := by decide +kernel
theorem dX6_dependencyOf_5 : decode cX6_dependencyOf 5 = .ok (.iaload, 1) := by decide +kernel
theorem dX6_dependencyOf_6 : decode cX6_dependencyOf 6 = .ok (.istore_n 3, 1) := by decide +kernel
theorem dX6_dependencyOf_7 : decode cX6_dependencyOf 7 = .ok (.aload_n 0, 1) := by decide +kernel
theorem dX6_dependencyOf_8 : decode cX6_dependencyOf 8 = .ok (.getfield 54, 3) := by decide +kernel
theorem dX6_dependencyOf_11 : decode cX6_dependencyOf 11 = .ok (.iload_n 2, 1) := by decide +kernel
theorem dX6_dependencyOf_12 : decode cX6_dependencyOf 12 = .ok (.iaload, 1) := by decide +kernel
theorem dX6_dependencyOf_13 : decode cX6_dependencyOf 13 = .ok (.istore 4, 2) := by decide +kernel
theorem dX6_dependencyOf_15 : decode cX6_dependencyOf 15 = .ok (.iconst 0, 1) := by decide +kernel
theorem dX6_dependencyOf_16 : decode cX6_dependencyOf 16 = .ok (.istore 5, 2) := by decide +kernel
theorem dX6_dependencyOf_18 : decode cX6_dependencyOf 18 = .ok (.iconst 0, 1) := by decide +kernel
theorem dX6_dependencyOf_19 : decode cX6_dependencyOf 19 = .ok (.istore 6, 2) := by decide +kernel
theorem dX6_dependencyOf_21 : decode cX6_dependencyOf 21 = .ok (.iconst 0, 1) := by decide +kernel
theorem dX6_dependencyOf_22 : decode cX6_dependencyOf 22 = .ok (.istore 7, 2) := by decide +kernel
theorem dX6_dependencyOf_24 : decode cX6_dependencyOf 24 = .ok (.iconst 0, 1) := by decide +kernel
theorem dX6_dependencyOf_25 : decode cX6_dependencyOf 25 = .ok (.istore 8, 2) := by decide +kernel
theorem dX6_dependencyOf_27 : decode cX6_dependencyOf 27 = .ok (.iload 8, 2) := by decide +kernel
theorem dX6_dependencyOf_29 : decode cX6_dependencyOf 29 = .ok (.bipush 32, 2) := by decide +kernel
theorem dX6_dependencyOf_31 : decode cX6_dependencyOf 31 = .ok (.if_icmp .ge 156, 3) := by decide +kernel
theorem dX6_dependencyOf_34 : decode cX6_dependencyOf 34 = .ok (.aload_n 0, 1) := by decide +kernel
theorem dX6_dependencyOf_35 : decode cX6_dependencyOf 35 = .ok (.iload_n 2, 1) := by decide +kernel
theorem dX6_dependencyOf_36 : decode cX6_dependencyOf 36 = .ok (.iload 8, 2) := by decide +kernel
theorem dX6_dependencyOf_38 : decode cX6_dependencyOf 38 = .ok (.invokevirtual 168, 3) := by decide +kernel
theorem dX6_dependencyOf_41 : decode cX6_dependencyOf 41 = .ok (.istore 9, 2) := by decide +kernel
theorem dX6_dependencyOf_43 : decode cX6_dependencyOf 43 = .ok (.iload 5, 2) := by decide +kernel
theorem dX6_dependencyOf_45 : decode cX6_dependencyOf 45 = .ok (.ifCond .ne 41, 3) := by decide +kernel
theorem dX6_dependencyOf_48 : decode cX6_dependencyOf 48 = .ok (.aload_n 0, 1) := by decide +kernel
theorem dX6_dependencyOf_49 : decode cX6_dependencyOf 49 = .ok (.iload_n 1, 1) := by decide +kernel
theorem dX6_dependencyOf_50 : decode cX6_dependencyOf 50 = .ok (.iload 8, 2) := by decide +kernel
theorem dX6_dependencyOf_52 : decode cX6_dependencyOf 52 = .ok (.invokevirtual 168, 3) := by decide +kernel
theorem dX6_dependencyOf_55 : decode cX6_dependencyOf 55 = .ok (.ifCond .eq 35, 3) := by decide +kernel
theorem dX6_dependencyOf_58 : decode cX6_dependencyOf 58 = .ok (.aload_n 0, 1) := by decide +kernel
theorem dX6_dependencyOf_59 : decode cX6_dependencyOf 59 = .ok (.getfield 36, 3) := by decide +kernel
theorem dX6_dependencyOf_62 : decode cX6_dependencyOf 62 = .ok (.bipush 32, 2) := by decide +kernel
theorem dX6_dependencyOf_64 : decode cX6_dependencyOf 64 = .ok (.iload 4, 2) := by decide +kernel
theorem dX6_dependencyOf_66 : decode cX6_dependencyOf 66 = .ok (.imul, 1) := by decide +kernel
theorem dX6_dependencyOf_67 : decode cX6_dependencyOf 67 = .ok (.iload 8, 2) := by decide +kernel
theorem dX6_dependencyOf_69 : decode cX6_dependencyOf 69 = .ok (.iadd, 1) := by decide +kernel
theorem dX6_dependencyOf_70 : decode cX6_dependencyOf 70 = .ok (.iaload, 1) := by decide +kernel
theorem dX6_dependencyOf_71 : decode cX6_dependencyOf 71 = .ok (.iconst (-1), 1) := by decide +kernel
theorem dX6_dependencyOf_72 : decode cX6_dependencyOf 72 = .ok (.if_icmp .eq 18, 3) := by decide +kernel
theorem dX6_dependencyOf_75 : decode cX6_dependencyOf 75 = .ok (.aload_n 0, 1) := by decide +kernel
theorem dX6_dependencyOf_76 : decode cX6_dependencyOf 76 = .ok (.iload 8, 2) := by decide +kernel
theorem dX6_dependencyOf_78 : decode cX6_dependencyOf 78 = .ok (.iload_n 2, 1) := by decide +kernel
theorem dX6_dependencyOf_79 : decode cX6_dependencyOf 79 = .ok (.invokevirtual 198, 3) := by decide +kernel
theorem dX6_dependencyOf_82 : decode cX6_dependencyOf 82 = .ok (.iload_n 1, 1) := by decide +kernel
theorem dX6_dependencyOf_83 : decode cX6_dependencyOf 83 = .ok (.if_icmp .ne 7, 3) := by decide +kernel
theorem dX6_dependencyOf_86 : decode cX6_dependencyOf 86 = .ok (.iconst 1, 1) := by decide +kernel
theorem dX6_dependencyOf_87 : decode cX6_dependencyOf 87 = .ok (.goto 4, 3) := by decide +kernel
theorem dX6_dependencyOf_90 : decode cX6_dependencyOf 90 = .ok (.iconst 0, 1) := by decide +kernel
theorem dX6_dependencyOf_91 : decode cX6_dependencyOf 91 = .ok (.istore 5, 2) := by decide +kernel
theorem dX6_dependencyOf_93 : decode cX6_dependencyOf 93 = .ok (.iload 6, 2) := by decide +kernel
theorem dX6_dependencyOf_95 : decode cX6_dependencyOf 95 = .ok (.ifCond .ne 18, 3) := by decide +kernel
theorem dX6_dependencyOf_98 : decode cX6_dependencyOf 98 = .ok (.iload 9, 2) := by decide +kernel
theorem dX6_dependencyOf_100 : decode cX6_dependencyOf 100 = .ok (.ifCond .eq 17, 3) := by decide +kernel
theorem dX6_dependencyOf_103 : decode cX6_dependencyOf 103 = .ok (.aload_n 0, 1) := by decide +kernel
theorem dX6_dependencyOf_104 : decode cX6_dependencyOf 104 = .ok (.iload_n 1, 1) := by decide +kernel
theorem dX6_dependencyOf_105 : decode cX6_dependencyOf 105 = .ok (.iload 8, 2) := by decide +kernel
theorem dX6_dependencyOf_107 : decode cX6_dependencyOf 107 = .ok (.invokevirtual 168, 3) := by decide +kernel
theorem dX6_dependencyOf_110 : decode cX6_dependencyOf 110 = .ok (.ifCond .eq 7, 3) := by decide +kernel
theorem dX6_dependencyOf_113 : decode cX6_dependencyOf 113 = .ok (.iconst 1, 1) := by decide +kernel
theorem dX6_dependencyOf_114 : decode cX6_dependencyOf 114 = .ok (.goto 4, 3) := by decide +kernel
theorem dX6_dependencyOf_117 : decode cX6_dependencyOf 117 = .ok (.iconst 0, 1) := by decide +kernel
theorem dX6_dependencyOf_118 : decode cX6_dependencyOf 118 = .ok (.istore 6, 2) := by decide +kernel
theorem dX6_dependencyOf_120 : decode cX6_dependencyOf 120 = .ok (.iload 7, 2) := by decide +kernel
theorem dX6_dependencyOf_122 : decode cX6_dependencyOf 122 = .ok (.ifCond .ne 52, 3) := by decide +kernel
theorem dX6_dependencyOf_125 : decode cX6_dependencyOf 125 = .ok (.iload 9, 2) := by decide +kernel
theorem dX6_dependencyOf_127 : decode cX6_dependencyOf 127 = .ok (.ifCond .eq 51, 3) := by decide +kernel
theorem dX6_dependencyOf_130 : decode cX6_dependencyOf 130 = .ok (.aload_n 0, 1) := by decide +kernel
theorem dX6_dependencyOf_131 : decode cX6_dependencyOf 131 = .ok (.getfield 36, 3) := by decide +kernel
theorem dX6_dependencyOf_134 : decode cX6_dependencyOf 134 = .ok (.bipush 32, 2) := by decide +kernel
theorem dX6_dependencyOf_136 : decode cX6_dependencyOf 136 = .ok (.iload_n 3, 1) := by decide +kernel
theorem dX6_dependencyOf_137 : decode cX6_dependencyOf 137 = .ok (.imul, 1) := by decide +kernel
theorem dX6_dependencyOf_138 : decode cX6_dependencyOf 138 = .ok (.iload 8, 2) := by decide +kernel
theorem dX6_dependencyOf_140 : decode cX6_dependencyOf 140 = .ok (.iadd, 1) := by decide +kernel
theorem dX6_dependencyOf_141 : decode cX6_dependencyOf 141 = .ok (.iaload, 1) := by decide +kernel
theorem dX6_dependencyOf_142 : decode cX6_dependencyOf 142 = .ok (.iconst (-1), 1) := by decide +kernel
theorem dX6_dependencyOf_143 : decode cX6_dependencyOf 143 = .ok (.if_icmp .ne 31, 3) := by decide +kernel
theorem dX6_dependencyOf_146 : decode cX6_dependencyOf 146 = .ok (.aload_n 0, 1) := by decide +kernel
theorem dX6_dependencyOf_147 : decode cX6_dependencyOf 147 = .ok (.iload_n 3, 1) := by decide +kernel
theorem dX6_dependencyOf_148 : decode cX6_dependencyOf 148 = .ok (.bipush 61, 2) := by decide +kernel
theorem dX6_dependencyOf_150 : decode cX6_dependencyOf 150 = .ok (.iload 8, 2) := by decide +kernel
theorem dX6_dependencyOf_152 : decode cX6_dependencyOf 152 = .ok (.aload_n 0, 1) := by decide +kernel
theorem dX6_dependencyOf_153 : decode cX6_dependencyOf 153 = .ok (.iload_n 2, 1) := by decide +kernel
theorem dX6_dependencyOf_154 : decode cX6_dependencyOf 154 = .ok (.iconst 1, 1) := by decide +kernel
theorem dX6_dependencyOf_155 : decode cX6_dependencyOf 155 = .ok (.isub, 1) := by decide +kernel
theorem dX6_dependencyOf_156 : decode cX6_dependencyOf 156 = .ok (.iload 8, 2) := by decide +kernel
theorem dX6_dependencyOf_158 : decode cX6_dependencyOf 158 = .ok (.invokevirtual 116, 3) := by decide +kernel
theorem dX6_dependencyOf_161 : decode cX6_dependencyOf 161 = .ok (.aload_n 0, 1) := by decide +kernel
theorem dX6_dependencyOf_162 : decode cX6_dependencyOf 162 = .ok (.iload_n 2, 1) := by decide +kernel
theorem dX6_dependencyOf_163 : decode cX6_dependencyOf 163 = .ok (.iload 8, 2) := by decide +kernel
theorem dX6_dependencyOf_165 : decode cX6_dependencyOf 165 = .ok (.invokevirtual 116, 3) := by decide +kernel
theorem dX6_dependencyOf_168 : decode cX6_dependencyOf 168 = .ok (.invokevirtual 158, 3) := by decide +kernel
theorem dX6_dependencyOf_171 : decode cX6_dependencyOf 171 = .ok (.ifCond .eq 7, 3) := by decide +kernel
theorem dX6_dependencyOf_174 : decode cX6_dependencyOf 174 = .ok (.iconst 1, 1) := by decide +kernel
theorem dX6_dependencyOf_175 : decode cX6_dependencyOf 175 = .ok (.goto 4, 3) := by decide +kernel
theorem dX6_dependencyOf_178 : decode cX6_dependencyOf 178 = .ok (.iconst 0, 1) := by decide +kernel
theorem dX6_dependencyOf_179 : decode cX6_dependencyOf 179 = .ok (.istore 7, 2) := by decide +kernel
theorem dX6_dependencyOf_181 : decode cX6_dependencyOf 181 = .ok (.iinc 8 1, 3) := by decide +kernel
theorem dX6_dependencyOf_184 : decode cX6_dependencyOf 184 = .ok (.goto (-157), 3) := by decide +kernel
theorem dX6_dependencyOf_187 : decode cX6_dependencyOf 187 = .ok (.iload 5, 2) := by decide +kernel
theorem dX6_dependencyOf_189 : decode cX6_dependencyOf 189 = .ok (.ifCond .eq 7, 3) := by decide +kernel
theorem dX6_dependencyOf_192 : decode cX6_dependencyOf 192 = .ok (.iconst 1, 1) := by decide +kernel
theorem dX6_dependencyOf_193 : decode cX6_dependencyOf 193 = .ok (.goto 4, 3) := by decide +kernel
theorem dX6_dependencyOf_196 : decode cX6_dependencyOf 196 = .ok (.iconst 0, 1) := by decide +kernel
theorem dX6_dependencyOf_197 : decode cX6_dependencyOf 197 = .ok (.iload 6, 2) := by decide +kernel
theorem dX6_dependencyOf_199 : decode cX6_dependencyOf 199 = .ok (.ifCond .eq 7, 3) := by decide +kernel
theorem dX6_dependencyOf_202 : decode cX6_dependencyOf 202 = .ok (.iconst 2, 1) := by decide +kernel
theorem dX6_dependencyOf_203 : decode cX6_dependencyOf 203 = .ok (.goto 4, 3) := by decide +kernel
theorem dX6_dependencyOf_206 : decode cX6_dependencyOf 206 = .ok (.iconst 0, 1) := by decide +kernel
theorem dX6_dependencyOf_207 : decode cX6_dependencyOf 207 = .ok (.iadd, 1) := by decide +kernel
theorem dX6_dependencyOf_208 : decode cX6_dependencyOf 208 = .ok (.iload 7, 2) := by decide +kernel
theorem dX6_dependencyOf_210 : decode cX6_dependencyOf 210 = .ok (.ifCond .eq 7, 3) := by decide +kernel
theorem dX6_dependencyOf_213 : decode cX6_dependencyOf 213 = .ok (.iconst 4, 1) := by decide +kernel
theorem dX6_dependencyOf_214 : decode cX6_dependencyOf 214 = .ok (.goto 4, 3) := by decide +kernel
theorem dX6_dependencyOf_217 : decode cX6_dependencyOf 217 = .ok (.iconst 0, 1) := by decide +kernel
theorem dX6_dependencyOf_218 : decode cX6_dependencyOf 218 = .ok (.iadd, 1) := by decide +kernel
theorem dX6_dependencyOf_219 : decode cX6_dependencyOf 219 = .ok (.ireturn, 1) := by decide +kernel
theorem dX6_dependency_0 : decode cX6_dependency 0 = .ok (.aload_n 0, 1) := by decide +kernel
theorem dX6_dependency_1 : decode cX6_dependency 1 = .ok (.aload_n 0, 1) := by decide +kernel
theorem dX6_dependency_2 : decode cX6_dependency 2 = .ok (.iload_n 1, 1) := by decide +kernel
theorem dX6_dependency_3 : decode cX6_dependency 3 = .ok (.invokevirtual 201, 3) := by decide +kernel
theorem dX6_dependency_6 : decode cX6_dependency 6 = .ok (.ifCond .eq 11, 3) := by decide +kernel
theorem dX6_dependency_9 : decode cX6_dependency 9 = .ok (.aload_n 0, 1) := by decide +kernel
theorem dX6_dependency_10 : decode cX6_dependency 10 = .ok (.iload_n 2, 1) := by decide +kernel
theorem dX6_dependency_11 : decode cX6_dependency 11 = .ok (.invokevirtual 201, 3) := by decide +kernel
theorem dX6_dependency_14 : decode cX6_dependency 14 = .ok (.ifCond .ne 7, 3) := by decide +kernel
theorem dX6_dependency_17 : decode cX6_dependency 17 = .ok (.iconst 1, 1) := by decide +kernel
theorem dX6_dependency_18 : decode cX6_dependency 18 = .ok (.goto 13, 3) := by decide +kernel
theorem dX6_dependency_21 : decode cX6_dependency 21 = .ok (.iload_n 1, 1) := by decide +kernel
theorem dX6_dependency_22 : decode cX6_dependency 22 = .ok (.iload_n 2, 1) := by decide +kernel
theorem dX6_dependency_23 : decode cX6_dependency 23 = .ok (.if_icmp .lt 7, 3) := by decide +kernel
theorem dX6_dependency_26 : decode cX6_dependency 26 = .ok (.iconst 2, 1) := by decide +kernel
theorem dX6_dependency_27 : decode cX6_dependency 27 = .ok (.goto 4, 3) := by decide +kernel
theorem dX6_dependency_30 : decode cX6_dependency 30 = .ok (.iconst 0, 1) := by decide +kernel
theorem dX6_dependency_31 : decode cX6_dependency 31 = .ok (.putfield 1, 3) := by decide +kernel
theorem dX6_dependency_34 : decode cX6_dependency 34 = .ok (.aload_n 0, 1) := by decide +kernel
theorem dX6_dependency_35 : decode cX6_dependency 35 = .ok (.getfield 1, 3) := by decide +kernel
theorem dX6_dependency_38 : decode cX6_dependency 38 = .ok (.ifCond .ne 12, 3) := by decide +kernel
theorem dX6_dependency_41 : decode cX6_dependency 41 = .ok (.aload_n 0, 1) := by decide +kernel
theorem dX6_dependency_42 : decode cX6_dependency 42 = .ok (.iload_n 1, 1) := by decide +kernel
theorem dX6_dependency_43 : decode cX6_dependency 43 = .ok (.iload_n 2, 1) := by decide +kernel
theorem dX6_dependency_44 : decode cX6_dependency 44 = .ok (.invokevirtual 204, 3) := by decide +kernel
theorem dX6_dependency_47 : decode cX6_dependency 47 = .ok (.goto 4, 3) := by decide +kernel
theorem dX6_dependency_50 : decode cX6_dependency 50 = .ok (.iconst 0, 1) := by decide +kernel
theorem dX6_dependency_51 : decode cX6_dependency 51 = .ok (.ireturn, 1) := by decide +kernel
theorem dX6_longestChain_0 : decode cX6_longestChain 0 = .ok (.aload_n 0, 1) := by decide +kernel
theorem dX6_longestChain_1 : decode cX6_longestChain 1 = .ok (.iconst 0, 1) := by decide +kernel
theorem dX6_longestChain_2 : decode cX6_longestChain 2 = .ok (.putfield 1, 3) := by decide +kernel
theorem dX6_longestChain_5 : decode cX6_longestChain 5 = .ok (.iconst 0, 1) := by decide +kernel
theorem dX6_longestChain_6 : decode cX6_longestChain 6 = .ok (.istore_n 1, 1) := by decide +kernel
theorem dX6_longestChain_7 : decode cX6_longestChain 7 = .ok (.iconst 1, 1) := by decide +kernel
theorem dX6_longestChain_8 : decode cX6_longestChain 8 = .ok (.istore_n 2, 1) := by decide +kernel
theorem dX6_longestChain_9 : decode cX6_longestChain 9 = .ok (.iload_n 2, 1) := by decide +kernel
theorem dX6_longestChain_10 : decode cX6_longestChain 10 = .ok (.aload_n 0, 1) := by decide +kernel
theorem dX6_longestChain_11 : decode cX6_longestChain 11 = .ok (.getfield 113, 3) := by decide +kernel
theorem dX6_longestChain_14 : decode cX6_longestChain 14 = .ok (.if_icmp .gt 80, 3) := by decide +kernel
theorem dX6_longestChain_17 : decode cX6_longestChain 17 = .ok (.aload_n 0, 1) := by decide +kernel
theorem dX6_longestChain_18 : decode cX6_longestChain 18 = .ok (.getfield 63, 3) := by decide +kernel
theorem dX6_longestChain_21 : decode cX6_longestChain 21 = .ok (.iload_n 2, 1) := by decide +kernel
theorem dX6_longestChain_22 : decode cX6_longestChain 22 = .ok (.iconst 1, 1) := by decide +kernel
theorem dX6_longestChain_23 : decode cX6_longestChain 23 = .ok (.iastore, 1) := by decide +kernel
theorem dX6_longestChain_24 : decode cX6_longestChain 24 = .ok (.iconst 1, 1) := by decide +kernel
theorem dX6_longestChain_25 : decode cX6_longestChain 25 = .ok (.istore_n 3, 1) := by decide +kernel
theorem dX6_longestChain_26 : decode cX6_longestChain 26 = .ok (.iload_n 3, 1) := by decide +kernel
theorem dX6_longestChain_27 : decode cX6_longestChain 27 = .ok (.iload_n 2, 1) := by decide +kernel
theorem dX6_longestChain_28 : decode cX6_longestChain 28 = .ok (.if_icmp .ge 49, 3) := by decide +kernel
theorem dX6_longestChain_31 : decode cX6_longestChain 31 = .ok (.aload_n 0, 1) := by decide +kernel
theorem dX6_longestChain_32 : decode cX6_longestChain 32 = .ok (.getfield 63, 3) := by decide +kernel
theorem dX6_longestChain_35 : decode cX6_longestChain 35 = .ok (.iload_n 3, 1) := by decide +kernel
theorem dX6_longestChain_36 : decode cX6_longestChain 36 = .ok (.iaload, 1) := by decide +kernel
theorem dX6_longestChain_37 : decode cX6_longestChain 37 = .ok (.iconst 1, 1) := by decide +kernel
theorem dX6_longestChain_38 : decode cX6_longestChain 38 = .ok (.iadd, 1) := by decide +kernel
theorem dX6_longestChain_39 : decode cX6_longestChain 39 = .ok (.aload_n 0, 1) := by decide +kernel
theorem dX6_longestChain_40 : decode cX6_longestChain 40 = .ok (.getfield 63, 3) := by decide +kernel
theorem dX6_longestChain_43 : decode cX6_longestChain 43 = .ok (.iload_n 2, 1) := by decide +kernel
theorem dX6_longestChain_44 : decode cX6_longestChain 44 = .ok (.iaload, 1) := by decide +kernel
theorem dX6_longestChain_45 : decode cX6_longestChain 45 = .ok (.if_icmp .le 26, 3) := by decide +kernel
theorem dX6_longestChain_48 : decode cX6_longestChain 48 = .ok (.aload_n 0, 1) := by decide +kernel
theorem dX6_longestChain_49 : decode cX6_longestChain 49 = .ok (.iload_n 3, 1) := by decide +kernel
theorem dX6_longestChain_50 : decode cX6_longestChain 50 = .ok (.iload_n 2, 1) := by decide +kernel
theorem dX6_longestChain_51 : decode cX6_longestChain 51 = .ok (.invokevirtual 204, 3) := by decide +kernel
theorem dX6_longestChain_54 : decode cX6_longestChain 54 = .ok (.ifCond .eq 17, 3) := by decide +kernel
theorem dX6_longestChain_57 : decode cX6_longestChain 57 = .ok (.aload_n 0, 1) := by decide +kernel
theorem dX6_longestChain_58 : decode cX6_longestChain 58 = .ok (.getfield 63, 3) := by decide +kernel
theorem dX6_longestChain_61 : decode cX6_longestChain 61 = .ok (.iload_n 2, 1) := by decide +kernel
theorem dX6_longestChain_62 : decode cX6_longestChain 62 = .ok (.aload_n 0, 1) := by decide +kernel
theorem dX6_longestChain_63 : decode cX6_longestChain 63 = .ok (.getfield 63, 3) := by decide +kernel
theorem dX6_longestChain_66 : decode cX6_longestChain 66 = .ok (.iload_n 3, 1) := by decide +kernel
theorem dX6_longestChain_67 : decode cX6_longestChain 67 = .ok (.iaload, 1) := by decide +kernel
theorem dX6_longestChain_68 : decode cX6_longestChain 68 = .ok (.iconst 1, 1) := by decide +kernel
theorem dX6_longestChain_69 : decode cX6_longestChain 69 = .ok (.iadd, 1) := by decide +kernel
theorem dX6_longestChain_70 : decode cX6_longestChain 70 = .ok (.iastore, 1) := by decide +kernel
theorem dX6_longestChain_71 : decode cX6_longestChain 71 = .ok (.iinc 3 1, 3) := by decide +kernel
theorem dX6_longestChain_74 : decode cX6_longestChain 74 = .ok (.goto (-48), 3) := by decide +kernel
theorem dX6_longestChain_77 : decode cX6_longestChain 77 = .ok (.iload_n 1, 1) := by decide +kernel
theorem dX6_longestChain_78 : decode cX6_longestChain 78 = .ok (.aload_n 0, 1) := by decide +kernel
theorem dX6_longestChain_79 : decode cX6_longestChain 79 = .ok (.getfield 63, 3) := by decide +kernel
theorem dX6_longestChain_82 : decode cX6_longestChain 82 = .ok (.iload_n 2, 1) := by decide +kernel
theorem dX6_longestChain_83 : decode cX6_longestChain 83 = .ok (.iaload, 1) := by decide +kernel
theorem dX6_longestChain_84 : decode cX6_longestChain 84 = .ok (.invokestatic 207, 3) := by decide +kernel
theorem dX6_longestChain_87 : decode cX6_longestChain 87 = .ok (.istore_n 1, 1) := by decide +kernel
theorem dX6_longestChain_88 : decode cX6_longestChain 88 = .ok (.iinc 2 1, 3) := by decide +kernel
theorem dX6_longestChain_91 : decode cX6_longestChain 91 = .ok (.goto (-82), 3) := by decide +kernel
theorem dX6_longestChain_94 : decode cX6_longestChain 94 = .ok (.iload_n 1, 1) := by decide +kernel
theorem dX6_longestChain_95 : decode cX6_longestChain 95 = .ok (.ireturn, 1) := by decide +kernel
theorem dX6_again_0 : decode cX6_again 0 = .ok (.aload_n 0, 1) := by decide +kernel
theorem dX6_again_1 : decode cX6_again 1 = .ok (.getfield 33, 3) := by decide +kernel
theorem dX6_again_4 : decode cX6_again 4 = .ok (.iload_n 1, 1) := by decide +kernel
theorem dX6_again_5 : decode cX6_again 5 = .ok (.iconst 1, 1) := by decide +kernel
theorem dX6_again_6 : decode cX6_again 6 = .ok (.iadd, 1) := by decide +kernel
theorem dX6_again_7 : decode cX6_again 7 = .ok (.iaload, 1) := by decide +kernel
theorem dX6_again_8 : decode cX6_again 8 = .ok (.istore_n 2, 1) := by decide +kernel
theorem dX6_again_9 : decode cX6_again 9 = .ok (.aload_n 0, 1) := by decide +kernel
theorem dX6_again_10 : decode cX6_again 10 = .ok (.getfield 33, 3) := by decide +kernel
theorem dX6_again_13 : decode cX6_again 13 = .ok (.iload_n 1, 1) := by decide +kernel
theorem dX6_again_14 : decode cX6_again 14 = .ok (.iconst 2, 1) := by decide +kernel
theorem dX6_again_15 : decode cX6_again 15 = .ok (.iadd, 1) := by decide +kernel
theorem dX6_again_16 : decode cX6_again 16 = .ok (.iaload, 1) := by decide +kernel
theorem dX6_again_17 : decode cX6_again 17 = .ok (.istore_n 3, 1) := by decide +kernel
theorem dX6_again_18 : decode cX6_again 18 = .ok (.iconst 0, 1) := by decide +kernel
theorem dX6_again_19 : decode cX6_again 19 = .ok (.istore 4, 2) := by decide +kernel
theorem dX6_again_21 : decode cX6_again 21 = .ok (.aload_n 0, 1) := by decide +kernel
theorem dX6_again_22 : decode cX6_again 22 = .ok (.getfield 33, 3) := by decide +kernel
theorem dX6_again_25 : decode cX6_again 25 = .ok (.iload_n 1, 1) := by decide +kernel
theorem dX6_again_26 : decode cX6_again 26 = .ok (.iaload, 1) := by decide +kernel
theorem dX6_again_27 : decode cX6_again 27 = .ok (.tableswitch 153 0 4 #[33, 40, 86, 133, 142], 33) := by decide +kernel
theorem dX6_again_60 : decode cX6_again 60 = .ok (.aload_n 0, 1) := by decide +kernel
theorem dX6_again_61 : decode cX6_again 61 = .ok (.getfield 66, 3) := by decide +kernel
theorem dX6_again_64 : decode cX6_again 64 = .ok (.iload_n 2, 1) := by decide +kernel
theorem dX6_again_65 : decode cX6_again 65 = .ok (.iaload, 1) := by decide +kernel
theorem dX6_again_66 : decode cX6_again 66 = .ok (.ireturn, 1) := by decide +kernel
theorem dX6_again_67 : decode cX6_again 67 = .ok (.iload_n 2, 1) := by decide +kernel
theorem dX6_again_68 : decode cX6_again 68 = .ok (.istore 5, 2) := by decide +kernel
theorem dX6_again_70 : decode cX6_again 70 = .ok (.iload 5, 2) := by decide +kernel
theorem dX6_again_72 : decode cX6_again 72 = .ok (.iload_n 3, 1) := by decide +kernel
theorem dX6_again_73 : decode cX6_again 73 = .ok (.if_icmp .gt 37, 3) := by decide +kernel
theorem dX6_again_76 : decode cX6_again 76 = .ok (.iload 4, 2) := by decide +kernel
theorem dX6_again_78 : decode cX6_again 78 = .ok (.aload_n 0, 1) := by decide +kernel
theorem dX6_again_79 : decode cX6_again 79 = .ok (.getfield 66, 3) := by decide +kernel
theorem dX6_again_82 : decode cX6_again 82 = .ok (.iload 5, 2) := by decide +kernel
theorem dX6_again_84 : decode cX6_again 84 = .ok (.iaload, 1) := by decide +kernel
theorem dX6_again_85 : decode cX6_again 85 = .ok (.aload_n 0, 1) := by decide +kernel
theorem dX6_again_86 : decode cX6_again 86 = .ok (.getfield 33, 3) := by decide +kernel
theorem dX6_again_89 : decode cX6_again 89 = .ok (.iload_n 1, 1) := by decide +kernel
theorem dX6_again_90 : decode cX6_again 90 = .ok (.iconst 3, 1) := by decide +kernel
theorem dX6_again_91 : decode cX6_again 91 = .ok (.iadd, 1) := by decide +kernel
theorem dX6_again_92 : decode cX6_again 92 = .ok (.iaload, 1) := by decide +kernel
theorem dX6_again_93 : decode cX6_again 93 = .ok (.if_icmp .lt 7, 3) := by decide +kernel
theorem dX6_again_96 : decode cX6_again 96 = .ok (.iconst 1, 1) := by decide +kernel
theorem dX6_again_97 : decode cX6_again 97 = .ok (.goto 4, 3) := by decide +kernel
theorem dX6_again_100 : decode cX6_again 100 = .ok (.iconst 0, 1) := by decide +kernel
theorem dX6_again_101 : decode cX6_again 101 = .ok (.iadd, 1) := by decide +kernel
theorem dX6_again_102 : decode cX6_again 102 = .ok (.istore 4, 2) := by decide +kernel
theorem dX6_again_104 : decode cX6_again 104 = .ok (.iinc 5 1, 3) := by decide +kernel
theorem dX6_again_107 : decode cX6_again 107 = .ok (.goto (-37), 3) := by decide +kernel
theorem dX6_again_110 : decode cX6_again 110 = .ok (.iload 4, 2) := by decide +kernel
theorem dX6_again_112 : decode cX6_again 112 = .ok (.ireturn, 1) := by decide +kernel
theorem dX6_again_113 : decode cX6_again 113 = .ok (.iload_n 2, 1) := by decide +kernel
theorem dX6_again_114 : decode cX6_again 114 = .ok (.istore 5, 2) := by decide +kernel
theorem dX6_again_116 : decode cX6_again 116 = .ok (.iload 5, 2) := by decide +kernel
theorem dX6_again_118 : decode cX6_again 118 = .ok (.iload_n 3, 1) := by decide +kernel
theorem dX6_again_119 : decode cX6_again 119 = .ok (.if_icmp .gt 38, 3) := by decide +kernel
theorem dX6_again_122 : decode cX6_again 122 = .ok (.iload 4, 2) := by decide +kernel
theorem dX6_again_124 : decode cX6_again 124 = .ok (.aload_n 0, 1) := by decide +kernel
theorem dX6_again_125 : decode cX6_again 125 = .ok (.getfield 66, 3) := by decide +kernel
theorem dX6_again_128 : decode cX6_again 128 = .ok (.iload 5, 2) := by decide +kernel
theorem dX6_again_130 : decode cX6_again 130 = .ok (.iaload, 1) := by decide +kernel
theorem dX6_again_131 : decode cX6_again 131 = .ok (.sipush (-1000), 3) := by decide +kernel
theorem dX6_again_134 : decode cX6_again 134 = .ok (.if_icmp .ne 7, 3) := by decide +kernel
theorem dX6_again_137 : decode cX6_again 137 = .ok (.iconst 0, 1) := by decide +kernel
theorem dX6_again_138 : decode cX6_again 138 = .ok (.goto 10, 3) := by decide +kernel
theorem dX6_again_141 : decode cX6_again 141 = .ok (.aload_n 0, 1) := by decide +kernel
theorem dX6_again_142 : decode cX6_again 142 = .ok (.getfield 66, 3) := by decide +kernel
theorem dX6_again_145 : decode cX6_again 145 = .ok (.iload 5, 2) := by decide +kernel
theorem dX6_again_147 : decode cX6_again 147 = .ok (.iaload, 1) := by decide +kernel
theorem dX6_again_148 : decode cX6_again 148 = .ok (.iadd, 1) := by decide +kernel
theorem dX6_again_149 : decode cX6_again 149 = .ok (.istore 4, 2) := by decide +kernel
theorem dX6_again_151 : decode cX6_again 151 = .ok (.iinc 5 1, 3) := by decide +kernel
theorem dX6_again_154 : decode cX6_again 154 = .ok (.goto (-38), 3) := by decide +kernel
theorem dX6_again_157 : decode cX6_again 157 = .ok (.iload 4, 2) := by decide +kernel
theorem dX6_again_159 : decode cX6_again 159 = .ok (.ireturn, 1) := by decide +kernel
theorem dX6_again_160 : decode cX6_again 160 = .ok (.aload_n 0, 1) := by decide +kernel
theorem dX6_again_161 : decode cX6_again 161 = .ok (.getfield 66, 3) := by decide +kernel
theorem dX6_again_164 : decode cX6_again 164 = .ok (.iload_n 2, 1) := by decide +kernel
theorem dX6_again_165 : decode cX6_again 165 = .ok (.iload_n 3, 1) := by decide +kernel
theorem dX6_again_166 : decode cX6_again 166 = .ok (.iastore, 1) := by decide +kernel
theorem dX6_again_167 : decode cX6_again 167 = .ok (.iconst 0, 1) := by decide +kernel
theorem dX6_again_168 : decode cX6_again 168 = .ok (.ireturn, 1) := by decide +kernel
theorem dX6_again_169 : decode cX6_again 169 = .ok (.aload_n 0, 1) := by decide +kernel
theorem dX6_again_170 : decode cX6_again 170 = .ok (.getfield 66, 3) := by decide +kernel
theorem dX6_again_173 : decode cX6_again 173 = .ok (.iload_n 2, 1) := by decide +kernel
theorem dX6_again_174 : decode cX6_again 174 = .ok (.sipush (-1000), 3) := by decide +kernel
theorem dX6_again_177 : decode cX6_again 177 = .ok (.iastore, 1) := by decide +kernel
theorem dX6_again_178 : decode cX6_again 178 = .ok (.iconst 0, 1) := by decide +kernel
theorem dX6_again_179 : decode cX6_again 179 = .ok (.ireturn, 1) := by decide +kernel
theorem dX6_again_180 : decode cX6_again 180 = .ok (.aload_n 0, 1) := by decide +kernel
theorem dX6_again_181 : decode cX6_again 181 = .ok (.getfield 66, 3) := by decide +kernel
theorem dX6_again_184 : decode cX6_again 184 = .ok (.iload_n 2, 1) := by decide +kernel
theorem dX6_again_185 : decode cX6_again 185 = .ok (.aload_n 0, 1) := by decide +kernel
theorem dX6_again_186 : decode cX6_again 186 = .ok (.aload_n 0, 1) := by decide +kernel
theorem dX6_again_187 : decode cX6_again 187 = .ok (.getfield 66, 3) := by decide +kernel
theorem dX6_again_190 : decode cX6_again 190 = .ok (.iload_n 2, 1) := by decide +kernel
theorem dX6_again_191 : decode cX6_again 191 = .ok (.iaload, 1) := by decide +kernel
theorem dX6_again_192 : decode cX6_again 192 = .ok (.iload_n 3, 1) := by decide +kernel
theorem dX6_again_193 : decode cX6_again 193 = .ok (.invokevirtual 151, 3) := by decide +kernel
theorem dX6_again_196 : decode cX6_again 196 = .ok (.iastore, 1) := by decide +kernel
theorem dX6_again_197 : decode cX6_again 197 = .ok (.aload_n 0, 1) := by decide +kernel
theorem dX6_again_198 : decode cX6_again 198 = .ok (.getfield 66, 3) := by decide +kernel
theorem dX6_again_201 : decode cX6_again 201 = .ok (.iload_n 2, 1) := by decide +kernel
theorem dX6_again_202 : decode cX6_again 202 = .ok (.iaload, 1) := by decide +kernel
theorem dX6_again_203 : decode cX6_again 203 = .ok (.ireturn, 1) := by decide +kernel
theorem dX6_hasFault_0 : decode cX6_hasFault 0 = .ok (.aload_n 0, 1) := by decide +kernel
theorem dX6_hasFault_1 : decode cX6_hasFault 1 = .ok (.getfield 54, 3) := by decide +kernel
theorem dX6_hasFault_4 : decode cX6_hasFault 4 = .ok (.iload_n 1, 1) := by decide +kernel
theorem dX6_hasFault_5 : decode cX6_hasFault 5 = .ok (.iaload, 1) := by decide +kernel
theorem dX6_hasFault_6 : decode cX6_hasFault 6 = .ok (.istore_n 2, 1) := by decide +kernel
theorem dX6_hasFault_7 : decode cX6_hasFault 7 = .ok (.iconst 0, 1) := by decide +kernel
theorem dX6_hasFault_8 : decode cX6_hasFault 8 = .ok (.istore_n 3, 1) := by decide +kernel
theorem dX6_hasFault_9 : decode cX6_hasFault 9 = .ok (.iload_n 3, 1) := by decide +kernel
theorem dX6_hasFault_10 : decode cX6_hasFault 10 = .ok (.bipush 32, 2) := by decide +kernel
theorem dX6_hasFault_12 : decode cX6_hasFault 12 = .ok (.if_icmp .ge 23, 3) := by decide +kernel
theorem dX6_hasFault_15 : decode cX6_hasFault 15 = .ok (.aload_n 0, 1) := by decide +kernel
theorem dX6_hasFault_16 : decode cX6_hasFault 16 = .ok (.getfield 66, 3) := by decide +kernel
theorem dX6_hasFault_19 : decode cX6_hasFault 19 = .ok (.iload_n 3, 1) := by decide +kernel
theorem dX6_hasFault_20 : decode cX6_hasFault 20 = .ok (.aload_n 0, 1) := by decide +kernel
theorem dX6_hasFault_21 : decode cX6_hasFault 21 = .ok (.iload_n 1, 1) := by decide +kernel
theorem dX6_hasFault_22 : decode cX6_hasFault 22 = .ok (.iconst 1, 1) := by decide +kernel
theorem dX6_hasFault_23 : decode cX6_hasFault 23 = .ok (.isub, 1) := by decide +kernel
theorem dX6_hasFault_24 : decode cX6_hasFault 24 = .ok (.iload_n 3, 1) := by decide +kernel
theorem dX6_hasFault_25 : decode cX6_hasFault 25 = .ok (.invokevirtual 116, 3) := by decide +kernel
theorem dX6_hasFault_28 : decode cX6_hasFault 28 = .ok (.iastore, 1) := by decide +kernel
theorem dX6_hasFault_29 : decode cX6_hasFault 29 = .ok (.iinc 3 1, 3) := by decide +kernel
theorem dX6_hasFault_32 : decode cX6_hasFault 32 = .ok (.goto (-23), 3) := by decide +kernel
theorem dX6_hasFault_35 : decode cX6_hasFault 35 = .ok (.iconst 0, 1) := by decide +kernel
theorem dX6_hasFault_36 : decode cX6_hasFault 36 = .ok (.istore_n 3, 1) := by decide +kernel
theorem dX6_hasFault_37 : decode cX6_hasFault 37 = .ok (.iload_n 3, 1) := by decide +kernel
theorem dX6_hasFault_38 : decode cX6_hasFault 38 = .ok (.aload_n 0, 1) := by decide +kernel
theorem dX6_hasFault_39 : decode cX6_hasFault 39 = .ok (.getfield 30, 3) := by decide +kernel
theorem dX6_hasFault_42 : decode cX6_hasFault 42 = .ok (.iload_n 2, 1) := by decide +kernel
theorem dX6_hasFault_43 : decode cX6_hasFault 43 = .ok (.iaload, 1) := by decide +kernel
theorem dX6_hasFault_44 : decode cX6_hasFault 44 = .ok (.if_icmp .ge 39, 3) := by decide +kernel
theorem dX6_hasFault_47 : decode cX6_hasFault 47 = .ok (.iconst 5, 1) := by decide +kernel
theorem dX6_hasFault_48 : decode cX6_hasFault 48 = .ok (.bipush 24, 2) := by decide +kernel
theorem dX6_hasFault_50 : decode cX6_hasFault 50 = .ok (.iload_n 2, 1) := by decide +kernel
theorem dX6_hasFault_51 : decode cX6_hasFault 51 = .ok (.imul, 1) := by decide +kernel
theorem dX6_hasFault_52 : decode cX6_hasFault 52 = .ok (.iload_n 3, 1) := by decide +kernel
theorem dX6_hasFault_53 : decode cX6_hasFault 53 = .ok (.iadd, 1) := by decide +kernel
theorem dX6_hasFault_54 : decode cX6_hasFault 54 = .ok (.imul, 1) := by decide +kernel
theorem dX6_hasFault_55 : decode cX6_hasFault 55 = .ok (.istore 4, 2) := by decide +kernel
theorem dX6_hasFault_57 : decode cX6_hasFault 57 = .ok (.aload_n 0, 1) := by decide +kernel
theorem dX6_hasFault_58 : decode cX6_hasFault 58 = .ok (.iload 4, 2) := by decide +kernel
theorem dX6_hasFault_60 : decode cX6_hasFault 60 = .ok (.invokevirtual 212, 3) := by decide +kernel
theorem dX6_hasFault_63 : decode cX6_hasFault 63 = .ok (.aload_n 0, 1) := by decide +kernel
theorem dX6_hasFault_64 : decode cX6_hasFault 64 = .ok (.getfield 33, 3) := by decide +kernel
theorem dX6_hasFault_67 : decode cX6_hasFault 67 = .ok (.iload 4, 2) := by decide +kernel
theorem dX6_hasFault_69 : decode cX6_hasFault 69 = .ok (.iconst 4, 1) := by decide +kernel
theorem dX6_hasFault_70 : decode cX6_hasFault 70 = .ok (.iadd, 1) := by decide +kernel
theorem dX6_hasFault_71 : decode cX6_hasFault 71 = .ok (.iaload, 1) := by decide +kernel
theorem dX6_hasFault_72 : decode cX6_hasFault 72 = .ok (.if_icmp .eq 5, 3) := by decide +kernel
theorem dX6_hasFault_75 : decode cX6_hasFault 75 = .ok (.iconst 1, 1) := by decide +kernel
theorem dX6_hasFault_76 : decode cX6_hasFault 76 = .ok (.ireturn, 1) := by decide +kernel
theorem dX6_hasFault_77 : decode cX6_hasFault 77 = .ok (.iinc 3 1, 3) := by decide +kernel
theorem dX6_hasFault_80 : decode cX6_hasFault 80 = .ok (.goto (-43), 3) := by decide +kernel
theorem dX6_hasFault_83 : decode cX6_hasFault 83 = .ok (.iconst 0, 1) := by decide +kernel
theorem dX6_hasFault_84 : decode cX6_hasFault 84 = .ok (.ireturn, 1) := by decide +kernel
theorem dX6_serialFaults_0 : decode cX6_serialFaults 0 = .ok (.aload_n 0, 1) := by decide +kernel
theorem dX6_serialFaults_1 : decode cX6_serialFaults 1 = .ok (.iconst 0, 1) := by decide +kernel
theorem dX6_serialFaults_2 : decode cX6_serialFaults 2 = .ok (.putfield 1, 3) := by decide +kernel
theorem dX6_serialFaults_5 : decode cX6_serialFaults 5 = .ok (.iconst 0, 1) := by decide +kernel
theorem dX6_serialFaults_6 : decode cX6_serialFaults 6 = .ok (.istore_n 1, 1) := by decide +kernel
theorem dX6_serialFaults_7 : decode cX6_serialFaults 7 = .ok (.iconst 1, 1) := by decide +kernel
theorem dX6_serialFaults_8 : decode cX6_serialFaults 8 = .ok (.istore_n 2, 1) := by decide +kernel
theorem dX6_serialFaults_9 : decode cX6_serialFaults 9 = .ok (.iload_n 2, 1) := by decide +kernel
theorem dX6_serialFaults_10 : decode cX6_serialFaults 10 = .ok (.aload_n 0, 1) := by decide +kernel
theorem dX6_serialFaults_11 : decode cX6_serialFaults 11 = .ok (.getfield 113, 3) := by decide +kernel
theorem dX6_serialFaults_14 : decode cX6_serialFaults 14 = .ok (.if_icmp .gt 25, 3) := by decide +kernel
theorem dX6_serialFaults_17 : decode cX6_serialFaults 17 = .ok (.iload_n 1, 1) := by decide +kernel
theorem dX6_serialFaults_18 : decode cX6_serialFaults 18 = .ok (.aload_n 0, 1) := by decide +kernel
theorem dX6_serialFaults_19 : decode cX6_serialFaults 19 = .ok (.iload_n 2, 1) := by decide +kernel
theorem dX6_serialFaults_20 : decode cX6_serialFaults 20 = .ok (.invokevirtual 215, 3) := by decide +kernel
theorem dX6_serialFaults_23 : decode cX6_serialFaults 23 = .ok (.ifCond .eq 7, 3) := by decide +kernel
theorem dX6_serialFaults_26 : decode cX6_serialFaults 26 = .ok (.iconst 1, 1) := by decide +kernel
theorem dX6_serialFaults_27 : decode cX6_serialFaults 27 = .ok (.goto 4, 3) := by decide +kernel
theorem dX6_serialFaults_30 : decode cX6_serialFaults 30 = .ok (.iconst 0, 1) := by decide +kernel
theorem dX6_serialFaults_31 : decode cX6_serialFaults 31 = .ok (.iadd, 1) := by decide +kernel
theorem dX6_serialFaults_32 : decode cX6_serialFaults 32 = .ok (.istore_n 1, 1) := by decide +kernel
theorem dX6_serialFaults_33 : decode cX6_serialFaults 33 = .ok (.iinc 2 1, 3) := by decide +kernel
theorem dX6_serialFaults_36 : decode cX6_serialFaults 36 = .ok (.goto (-27), 3) := by decide +kernel
theorem dX6_serialFaults_39 : decode cX6_serialFaults 39 = .ok (.iload_n 1, 1) := by decide +kernel
theorem dX6_serialFaults_40 : decode cX6_serialFaults 40 = .ok (.ireturn, 1) := by decide +kernel
theorem dX6_rewind_0 : decode cX6_rewind 0 = .ok (.aload_n 0, 1) := by decide +kernel
theorem dX6_rewind_1 : decode cX6_rewind 1 = .ok (.iload_n 1, 1) := by decide +kernel
theorem dX6_rewind_2 : decode cX6_rewind 2 = .ok (.iconst 0, 1) := by decide +kernel
theorem dX6_rewind_3 : decode cX6_rewind 3 = .ok (.aload_n 0, 1) := by decide +kernel
theorem dX6_rewind_4 : decode cX6_rewind 4 = .ok (.getfield 113, 3) := by decide +kernel
theorem dX6_rewind_7 : decode cX6_rewind 7 = .ok (.invokestatic 81, 3) := by decide +kernel
theorem dX6_rewind_10 : decode cX6_rewind 10 = .ok (.ifCond .ne 7, 3) := by decide +kernel
theorem dX6_rewind_13 : decode cX6_rewind 13 = .ok (.iconst 1, 1) := by decide +kernel
theorem dX6_rewind_14 : decode cX6_rewind 14 = .ok (.goto 15, 3) := by decide +kernel
theorem dX6_rewind_17 : decode cX6_rewind 17 = .ok (.aload_n 0, 1) := by decide +kernel
theorem dX6_rewind_18 : decode cX6_rewind 18 = .ok (.invokevirtual 89, 3) := by decide +kernel
theorem dX6_rewind_21 : decode cX6_rewind 21 = .ok (.ifCond .le 7, 3) := by decide +kernel
theorem dX6_rewind_24 : decode cX6_rewind 24 = .ok (.iconst 2, 1) := by decide +kernel
theorem dX6_rewind_25 : decode cX6_rewind 25 = .ok (.goto 4, 3) := by decide +kernel
theorem dX6_rewind_28 : decode cX6_rewind 28 = .ok (.iconst 0, 1) := by decide +kernel
theorem dX6_rewind_29 : decode cX6_rewind 29 = .ok (.putfield 1, 3) := by decide +kernel
theorem dX6_rewind_32 : decode cX6_rewind 32 = .ok (.aload_n 0, 1) := by decide +kernel
theorem dX6_rewind_33 : decode cX6_rewind 33 = .ok (.getfield 1, 3) := by decide +kernel
theorem dX6_rewind_36 : decode cX6_rewind 36 = .ok (.ifCond .eq 5, 3) := by decide +kernel
theorem dX6_rewind_39 : decode cX6_rewind 39 = .ok (.iconst 0, 1) := by decide +kernel
theorem dX6_rewind_40 : decode cX6_rewind 40 = .ok (.ireturn, 1) := by decide +kernel
theorem dX6_rewind_41 : decode cX6_rewind 41 = .ok (.aload_n 0, 1) := by decide +kernel
theorem dX6_rewind_42 : decode cX6_rewind 42 = .ok (.getfield 113, 3) := by decide +kernel
theorem dX6_rewind_45 : decode cX6_rewind 45 = .ok (.iload_n 1, 1) := by decide +kernel
theorem dX6_rewind_46 : decode cX6_rewind 46 = .ok (.isub, 1) := by decide +kernel
theorem dX6_rewind_47 : decode cX6_rewind 47 = .ok (.istore_n 2, 1) := by decide +kernel
theorem dX6_rewind_48 : decode cX6_rewind 48 = .ok (.iload_n 1, 1) := by decide +kernel
theorem dX6_rewind_49 : decode cX6_rewind 49 = .ok (.iconst 1, 1) := by decide +kernel
theorem dX6_rewind_50 : decode cX6_rewind 50 = .ok (.iadd, 1) := by decide +kernel
theorem dX6_rewind_51 : decode cX6_rewind 51 = .ok (.istore_n 3, 1) := by decide +kernel
theorem dX6_rewind_52 : decode cX6_rewind 52 = .ok (.iload_n 3, 1) := by decide +kernel
theorem dX6_rewind_53 : decode cX6_rewind 53 = .ok (.aload_n 0, 1) := by decide +kernel
theorem dX6_rewind_54 : decode cX6_rewind 54 = .ok (.getfield 113, 3) := by decide +kernel
theorem dX6_rewind_57 : decode cX6_rewind 57 = .ok (.if_icmp .gt 21, 3) := by decide +kernel
theorem dX6_rewind_60 : decode cX6_rewind 60 = .ok (.aload_n 0, 1) := by decide +kernel
theorem dX6_rewind_61 : decode cX6_rewind 61 = .ok (.aload_n 0, 1) := by decide +kernel
theorem dX6_rewind_62 : decode cX6_rewind 62 = .ok (.getfield 54, 3) := by decide +kernel
theorem dX6_rewind_65 : decode cX6_rewind 65 = .ok (.iload_n 3, 1) := by decide +kernel
theorem dX6_rewind_66 : decode cX6_rewind 66 = .ok (.iaload, 1) := by decide +kernel
theorem dX6_rewind_67 : decode cX6_rewind 67 = .ok (.bipush 6, 2) := by decide +kernel
theorem dX6_rewind_69 : decode cX6_rewind 69 = .ok (.invokevirtual 192, 3) := by decide +kernel
theorem dX6_rewind_72 : decode cX6_rewind 72 = .ok (.iinc 3 1, 3) := by decide +kernel
theorem dX6_rewind_75 : decode cX6_rewind 75 = .ok (.goto (-23), 3) := by decide +kernel
theorem dX6_rewind_78 : decode cX6_rewind 78 = .ok (.aload_n 0, 1) := by decide +kernel
theorem dX6_rewind_79 : decode cX6_rewind 79 = .ok (.iload_n 1, 1) := by decide +kernel
theorem dX6_rewind_80 : decode cX6_rewind 80 = .ok (.putfield 113, 3) := by decide +kernel
theorem dX6_rewind_83 : decode cX6_rewind 83 = .ok (.iload_n 2, 1) := by decide +kernel
theorem dX6_rewind_84 : decode cX6_rewind 84 = .ok (.ireturn, 1) := by decide +kernel
theorem dX6_addConstraint_0 : decode cX6_addConstraint 0 = .ok (.aload_n 0, 1) := by decide +kernel
theorem dX6_addConstraint_1 : decode cX6_addConstraint 1 = .ok (.iconst 0, 1) := by decide +kernel
theorem dX6_addConstraint_2 : decode cX6_addConstraint 2 = .ok (.putfield 1, 3) := by decide +kernel
theorem dX6_addConstraint_5 : decode cX6_addConstraint 5 = .ok (.iload_n 1, 1) := by decide +kernel
theorem dX6_addConstraint_6 : decode cX6_addConstraint 6 = .ok (.iconst 0, 1) := by decide +kernel
theorem dX6_addConstraint_7 : decode cX6_addConstraint 7 = .ok (.iconst 2, 1) := by decide +kernel
theorem dX6_addConstraint_8 : decode cX6_addConstraint 8 = .ok (.invokestatic 81, 3) := by decide +kernel
theorem dX6_addConstraint_11 : decode cX6_addConstraint 11 = .ok (.ifCond .eq 11, 3) := by decide +kernel
theorem dX6_addConstraint_14 : decode cX6_addConstraint 14 = .ok (.iload_n 2, 1) := by decide +kernel
theorem dX6_addConstraint_15 : decode cX6_addConstraint 15 = .ok (.iload_n 3, 1) := by decide +kernel
theorem dX6_addConstraint_16 : decode cX6_addConstraint 16 = .ok (.invokestatic 135, 3) := by decide +kernel
theorem dX6_addConstraint_19 : decode cX6_addConstraint 19 = .ok (.ifCond .ne 9, 3) := by decide +kernel
theorem dX6_addConstraint_22 : decode cX6_addConstraint 22 = .ok (.aload_n 0, 1) := by decide +kernel
theorem dX6_addConstraint_23 : decode cX6_addConstraint 23 = .ok (.iconst 1, 1) := by decide +kernel
theorem dX6_addConstraint_24 : decode cX6_addConstraint 24 = .ok (.invokevirtual 107, 3) := by decide +kernel
theorem dX6_addConstraint_27 : decode cX6_addConstraint 27 = .ok (.ireturn, 1) := by decide +kernel
theorem dX6_addConstraint_28 : decode cX6_addConstraint 28 = .ok (.aload_n 0, 1) := by decide +kernel
theorem dX6_addConstraint_29 : decode cX6_addConstraint 29 = .ok (.getfield 180, 3) := by decide +kernel
theorem dX6_addConstraint_32 : decode cX6_addConstraint 32 = .ok (.iconst 3, 1) := by decide +kernel
theorem dX6_addConstraint_33 : decode cX6_addConstraint 33 = .ok (.if_icmp .ne 9, 3) := by decide +kernel
theorem dX6_addConstraint_36 : decode cX6_addConstraint 36 = .ok (.aload_n 0, 1) := by decide +kernel
theorem dX6_addConstraint_37 : decode cX6_addConstraint 37 = .ok (.iconst 2, 1) := by decide +kernel
theorem dX6_addConstraint_38 : decode cX6_addConstraint 38 = .ok (.invokevirtual 107, 3) := by decide +kernel
theorem dX6_addConstraint_41 : decode cX6_addConstraint 41 = .ok (.ireturn, 1) := by decide +kernel
theorem dX6_addConstraint_42 : decode cX6_addConstraint 42 = .ok (.iconst 4, 1) := by decide +kernel
theorem dX6_addConstraint_43 : decode cX6_addConstraint 43 = .ok (.aload_n 0, 1) := by decide +kernel
theorem dX6_addConstraint_44 : decode cX6_addConstraint 44 = .ok (.getfield 180, 3) := by decide +kernel
theorem dX6_addConstraint_47 : decode cX6_addConstraint 47 = .ok (.imul, 1) := by decide +kernel
theorem dX6_addConstraint_48 : decode cX6_addConstraint 48 = .ok (.istore 5, 2) := by decide +kernel
theorem dX6_addConstraint_50 : decode cX6_addConstraint 50 = .ok (.aload_n 0, 1) := by decide +kernel
theorem dX6_addConstraint_51 : decode cX6_addConstraint 51 = .ok (.getfield 60, 3) := by decide +kernel
theorem dX6_addConstraint_54 : decode cX6_addConstraint 54 = .ok (.iload 5, 2) := by decide +kernel
theorem dX6_addConstraint_56 : decode cX6_addConstraint 56 = .ok (.iload_n 1, 1) := by decide +kernel
theorem dX6_addConstraint_57 : decode cX6_addConstraint 57 = .ok (.iastore, 1) := by decide +kernel
theorem dX6_addConstraint_58 : decode cX6_addConstraint 58 = .ok (.aload_n 0, 1) := by decide +kernel
theorem dX6_addConstraint_59 : decode cX6_addConstraint 59 = .ok (.getfield 60, 3) := by decide +kernel
theorem dX6_addConstraint_62 : decode cX6_addConstraint 62 = .ok (.iload 5, 2) := by decide +kernel
theorem dX6_addConstraint_64 : decode cX6_addConstraint 64 = .ok (.iconst 1, 1) := by decide +kernel
theorem dX6_addConstraint_65 : decode cX6_addConstraint 65 = .ok (.iadd, 1) := by decide +kernel
theorem dX6_addConstraint_66 : decode cX6_addConstraint 66 = .ok (.iload_n 2, 1) := by decide +kernel
theorem dX6_addConstraint_67 : decode cX6_addConstraint 67 = .ok (.iastore, 1) := by decide +kernel
theorem dX6_addConstraint_68 : decode cX6_addConstraint 68 = .ok (.aload_n 0, 1) := by decide +kernel
theorem dX6_addConstraint_69 : decode cX6_addConstraint 69 = .ok (.getfield 60, 3) := by decide +kernel
theorem dX6_addConstraint_72 : decode cX6_addConstraint 72 = .ok (.iload 5, 2) := by decide +kernel
theorem dX6_addConstraint_74 : decode cX6_addConstraint 74 = .ok (.iconst 2, 1) := by decide +kernel
theorem dX6_addConstraint_75 : decode cX6_addConstraint 75 = .ok (.iadd, 1) := by decide +kernel
theorem dX6_addConstraint_76 : decode cX6_addConstraint 76 = .ok (.iload_n 3, 1) := by decide +kernel
theorem dX6_addConstraint_77 : decode cX6_addConstraint 77 = .ok (.iastore, 1) := by decide +kernel
theorem dX6_addConstraint_78 : decode cX6_addConstraint 78 = .ok (.aload_n 0, 1) := by decide +kernel
theorem dX6_addConstraint_79 : decode cX6_addConstraint 79 = .ok (.getfield 60, 3) := by decide +kernel
theorem dX6_addConstraint_82 : decode cX6_addConstraint 82 = .ok (.iload 5, 2) := by decide +kernel
theorem dX6_addConstraint_84 : decode cX6_addConstraint 84 = .ok (.iconst 3, 1) := by decide +kernel
theorem dX6_addConstraint_85 : decode cX6_addConstraint 85 = .ok (.iadd, 1) := by decide +kernel
theorem dX6_addConstraint_86 : decode cX6_addConstraint 86 = .ok (.iload 4, 2) := by decide +kernel
theorem dX6_addConstraint_88 : decode cX6_addConstraint 88 = .ok (.iastore, 1) := by decide +kernel
theorem dX6_addConstraint_89 : decode cX6_addConstraint 89 = .ok (.aload_n 0, 1) := by decide +kernel
theorem dX6_addConstraint_90 : decode cX6_addConstraint 90 = .ok (.aload_n 0, 1) := by decide +kernel
theorem dX6_addConstraint_91 : decode cX6_addConstraint 91 = .ok (.getfield 180, 3) := by decide +kernel
theorem dX6_addConstraint_94 : decode cX6_addConstraint 94 = .ok (.iconst (-1), 1) := by decide +kernel
theorem dX6_addConstraint_95 : decode cX6_addConstraint 95 = .ok (.invokevirtual 183, 3) := by decide +kernel
theorem dX6_addConstraint_98 : decode cX6_addConstraint 98 = .ok (.ifCond .eq 9, 3) := by decide +kernel
theorem dX6_addConstraint_101 : decode cX6_addConstraint 101 = .ok (.aload_n 0, 1) := by decide +kernel
theorem dX6_addConstraint_102 : decode cX6_addConstraint 102 = .ok (.iconst 2, 1) := by decide +kernel
theorem dX6_addConstraint_103 : decode cX6_addConstraint 103 = .ok (.invokevirtual 107, 3) := by decide +kernel
theorem dX6_addConstraint_106 : decode cX6_addConstraint 106 = .ok (.ireturn, 1) := by decide +kernel
theorem dX6_addConstraint_107 : decode cX6_addConstraint 107 = .ok (.aload_n 0, 1) := by decide +kernel
theorem dX6_addConstraint_108 : decode cX6_addConstraint 108 = .ok (.dup, 1) := by decide +kernel
theorem dX6_addConstraint_109 : decode cX6_addConstraint 109 = .ok (.getfield 180, 3) := by decide +kernel
theorem dX6_addConstraint_112 : decode cX6_addConstraint 112 = .ok (.iconst 1, 1) := by decide +kernel
theorem dX6_addConstraint_113 : decode cX6_addConstraint 113 = .ok (.iadd, 1) := by decide +kernel
theorem dX6_addConstraint_114 : decode cX6_addConstraint 114 = .ok (.putfield 180, 3) := by decide +kernel
theorem dX6_addConstraint_117 : decode cX6_addConstraint 117 = .ok (.aload_n 0, 1) := by decide +kernel
theorem dX6_addConstraint_118 : decode cX6_addConstraint 118 = .ok (.getfield 180, 3) := by decide +kernel
theorem dX6_addConstraint_121 : decode cX6_addConstraint 121 = .ok (.iconst 1, 1) := by decide +kernel
theorem dX6_addConstraint_122 : decode cX6_addConstraint 122 = .ok (.isub, 1) := by decide +kernel
theorem dX6_addConstraint_123 : decode cX6_addConstraint 123 = .ok (.ireturn, 1) := by decide +kernel
theorem dX6_clearConstraints_0 : decode cX6_clearConstraints 0 = .ok (.aload_n 0, 1) := by decide +kernel
theorem dX6_clearConstraints_1 : decode cX6_clearConstraints 1 = .ok (.iconst 0, 1) := by decide +kernel
theorem dX6_clearConstraints_2 : decode cX6_clearConstraints 2 = .ok (.putfield 1, 3) := by decide +kernel
theorem dX6_clearConstraints_5 : decode cX6_clearConstraints 5 = .ok (.aload_n 0, 1) := by decide +kernel
theorem dX6_clearConstraints_6 : decode cX6_clearConstraints 6 = .ok (.getfield 180, 3) := by decide +kernel
theorem dX6_clearConstraints_9 : decode cX6_clearConstraints 9 = .ok (.istore_n 1, 1) := by decide +kernel
theorem dX6_clearConstraints_10 : decode cX6_clearConstraints 10 = .ok (.aload_n 0, 1) := by decide +kernel
theorem dX6_clearConstraints_11 : decode cX6_clearConstraints 11 = .ok (.iconst 0, 1) := by decide +kernel
theorem dX6_clearConstraints_12 : decode cX6_clearConstraints 12 = .ok (.putfield 180, 3) := by decide +kernel
theorem dX6_clearConstraints_15 : decode cX6_clearConstraints 15 = .ok (.iload_n 1, 1) := by decide +kernel
theorem dX6_clearConstraints_16 : decode cX6_clearConstraints 16 = .ok (.ireturn, 1) := by decide +kernel
theorem dX6_countOf_0 : decode cX6_countOf 0 = .ok (.iconst 0, 1) := by decide +kernel
theorem dX6_countOf_1 : decode cX6_countOf 1 = .ok (.istore_n 3, 1) := by decide +kernel
theorem dX6_countOf_2 : decode cX6_countOf 2 = .ok (.iconst 0, 1) := by decide +kernel
theorem dX6_countOf_3 : decode cX6_countOf 3 = .ok (.istore 4, 2) := by decide +kernel
theorem dX6_countOf_5 : decode cX6_countOf 5 = .ok (.iload 4, 2) := by decide +kernel
theorem dX6_countOf_7 : decode cX6_countOf 7 = .ok (.aload_n 0, 1) := by decide +kernel
theorem dX6_countOf_8 : decode cX6_countOf 8 = .ok (.getfield 78, 3) := by decide +kernel
theorem dX6_countOf_11 : decode cX6_countOf 11 = .ok (.if_icmp .ge 43, 3) := by decide +kernel
theorem dX6_countOf_14 : decode cX6_countOf 14 = .ok (.iload_n 3, 1) := by decide +kernel
theorem dX6_countOf_15 : decode cX6_countOf 15 = .ok (.aload_n 0, 1) := by decide +kernel
theorem dX6_countOf_16 : decode cX6_countOf 16 = .ok (.getfield 13, 3) := by decide +kernel
theorem dX6_countOf_19 : decode cX6_countOf 19 = .ok (.iload 4, 2) := by decide +kernel
theorem dX6_countOf_21 : decode cX6_countOf 21 = .ok (.iaload, 1) := by decide +kernel
theorem dX6_countOf_22 : decode cX6_countOf 22 = .ok (.iload_n 1, 1) := by decide +kernel
theorem dX6_countOf_23 : decode cX6_countOf 23 = .ok (.if_icmp .ne 22, 3) := by decide +kernel
theorem dX6_countOf_26 : decode cX6_countOf 26 = .ok (.iload_n 2, 1) := by decide +kernel
theorem dX6_countOf_27 : decode cX6_countOf 27 = .ok (.ifCond .eq 14, 3) := by decide +kernel
theorem dX6_countOf_30 : decode cX6_countOf 30 = .ok (.aload_n 0, 1) := by decide +kernel
theorem dX6_countOf_31 : decode cX6_countOf 31 = .ok (.getfield 20, 3) := by decide +kernel
theorem dX6_countOf_34 : decode cX6_countOf 34 = .ok (.iload 4, 2) := by decide +kernel
theorem dX6_countOf_36 : decode cX6_countOf 36 = .ok (.iaload, 1) := by decide +kernel
theorem dX6_countOf_37 : decode cX6_countOf 37 = .ok (.iload_n 2, 1) := by decide +kernel
theorem dX6_countOf_38 : decode cX6_countOf 38 = .ok (.if_icmp .ne 7, 3) := by decide +kernel
theorem dX6_countOf_41 : decode cX6_countOf 41 = .ok (.iconst 1, 1) := by decide +kernel
theorem dX6_countOf_42 : decode cX6_countOf 42 = .ok (.goto 4, 3) := by decide +kernel
theorem dX6_countOf_45 : decode cX6_countOf 45 = .ok (.iconst 0, 1) := by decide +kernel
theorem dX6_countOf_46 : decode cX6_countOf 46 = .ok (.iadd, 1) := by decide +kernel
theorem dX6_countOf_47 : decode cX6_countOf 47 = .ok (.istore_n 3, 1) := by decide +kernel
theorem dX6_countOf_48 : decode cX6_countOf 48 = .ok (.iinc 4 1, 3) := by decide +kernel
theorem dX6_countOf_51 : decode cX6_countOf 51 = .ok (.goto (-46), 3) := by decide +kernel
theorem dX6_countOf_54 : decode cX6_countOf 54 = .ok (.iload_n 3, 1) := by decide +kernel
theorem dX6_countOf_55 : decode cX6_countOf 55 = .ok (.ireturn, 1) := by decide +kernel
theorem dX6_aborts_0 : decode cX6_aborts 0 = .ok (.aload_n 0, 1) := by decide +kernel
theorem dX6_aborts_1 : decode cX6_aborts 1 = .ok (.iconst 0, 1) := by decide +kernel
theorem dX6_aborts_2 : decode cX6_aborts 2 = .ok (.putfield 1, 3) := by decide +kernel
theorem dX6_aborts_5 : decode cX6_aborts 5 = .ok (.iload_n 1, 1) := by decide +kernel
theorem dX6_aborts_6 : decode cX6_aborts 6 = .ok (.iconst 1, 1) := by decide +kernel
theorem dX6_aborts_7 : decode cX6_aborts 7 = .ok (.bipush 6, 2) := by decide +kernel
theorem dX6_aborts_9 : decode cX6_aborts 9 = .ok (.invokestatic 81, 3) := by decide +kernel
theorem dX6_aborts_12 : decode cX6_aborts 12 = .ok (.ifCond .eq 12, 3) := by decide +kernel
theorem dX6_aborts_15 : decode cX6_aborts 15 = .ok (.aload_n 0, 1) := by decide +kernel
theorem dX6_aborts_16 : decode cX6_aborts 16 = .ok (.iconst 2, 1) := by decide +kernel
theorem dX6_aborts_17 : decode cX6_aborts 17 = .ok (.iload_n 1, 1) := by decide +kernel
theorem dX6_aborts_18 : decode cX6_aborts 18 = .ok (.invokevirtual 218, 3) := by decide +kernel
theorem dX6_aborts_21 : decode cX6_aborts 21 = .ok (.goto 8, 3) := by decide +kernel
theorem dX6_aborts_24 : decode cX6_aborts 24 = .ok (.aload_n 0, 1) := by decide +kernel
theorem dX6_aborts_25 : decode cX6_aborts 25 = .ok (.iconst 1, 1) := by decide +kernel
theorem dX6_aborts_26 : decode cX6_aborts 26 = .ok (.invokevirtual 107, 3) := by decide +kernel
theorem dX6_aborts_29 : decode cX6_aborts 29 = .ok (.ireturn, 1) := by decide +kernel
theorem dX6_averageAttempts_0 : decode cX6_averageAttempts 0 = .ok (.aload_n 0, 1) := by decide +kernel
theorem dX6_averageAttempts_1 : decode cX6_averageAttempts 1 = .ok (.iconst 0, 1) := by decide +kernel
theorem dX6_averageAttempts_2 : decode cX6_averageAttempts 2 = .ok (.putfield 1, 3) := by decide +kernel
theorem dX6_averageAttempts_5 : decode cX6_averageAttempts 5 = .ok (.iconst 0, 1) := by decide +kernel
theorem dX6_averageAttempts_6 : decode cX6_averageAttempts 6 = .ok (.istore_n 1, 1) := by decide +kernel
theorem dX6_averageAttempts_7 : decode cX6_averageAttempts 7 = .ok (.iconst 0, 1) := by decide +kernel
theorem dX6_averageAttempts_8 : decode cX6_averageAttempts 8 = .ok (.istore_n 2, 1) := by decide +kernel
theorem dX6_averageAttempts_9 : decode cX6_averageAttempts 9 = .ok (.iload_n 2, 1) := by decide +kernel
theorem dX6_averageAttempts_10 : decode cX6_averageAttempts 10 = .ok (.aload_n 0, 1) := by decide +kernel
theorem dX6_averageAttempts_11 : decode cX6_averageAttempts 11 = .ok (.getfield 78, 3) := by decide +kernel
theorem dX6_averageAttempts_14 : decode cX6_averageAttempts 14 = .ok (.if_icmp .ge 32, 3) := by decide +kernel
theorem dX6_averageAttempts_17 : decode cX6_averageAttempts 17 = .ok (.iload_n 1, 1) := by decide +kernel
theorem dX6_averageAttempts_18 : decode cX6_averageAttempts 18 = .ok (.aload_n 0, 1) := by decide +kernel
theorem dX6_averageAttempts_19 : decode cX6_averageAttempts 19 = .ok (.getfield 13, 3) := by decide +kernel
theorem dX6_averageAttempts_22 : decode cX6_averageAttempts 22 = .ok (.iload_n 2, 1) := by decide +kernel
theorem dX6_averageAttempts_23 : decode cX6_averageAttempts 23 = .ok (.iaload, 1) := by decide +kernel
theorem dX6_averageAttempts_24 : decode cX6_averageAttempts 24 = .ok (.iconst 1, 1) := by decide +kernel
theorem dX6_averageAttempts_25 : decode cX6_averageAttempts 25 = .ok (.if_icmp .ne 12, 3) := by decide +kernel
theorem dX6_averageAttempts_28 : decode cX6_averageAttempts 28 = .ok (.aload_n 0, 1) := by decide +kernel
theorem dX6_averageAttempts_29 : decode cX6_averageAttempts 29 = .ok (.getfield 17, 3) := by decide +kernel
theorem dX6_averageAttempts_32 : decode cX6_averageAttempts 32 = .ok (.iload_n 2, 1) := by decide +kernel
theorem dX6_averageAttempts_33 : decode cX6_averageAttempts 33 = .ok (.iaload, 1) := by decide +kernel
theorem dX6_averageAttempts_34 : decode cX6_averageAttempts 34 = .ok (.goto 4, 3) := by decide +kernel
theorem dX6_averageAttempts_37 : decode cX6_averageAttempts 37 = .ok (.iconst 0, 1) := by decide +kernel
theorem dX6_averageAttempts_38 : decode cX6_averageAttempts 38 = .ok (.iadd, 1) := by decide +kernel
theorem dX6_averageAttempts_39 : decode cX6_averageAttempts 39 = .ok (.istore_n 1, 1) := by decide +kernel
theorem dX6_averageAttempts_40 : decode cX6_averageAttempts 40 = .ok (.iinc 2 1, 3) := by decide +kernel
theorem dX6_averageAttempts_43 : decode cX6_averageAttempts 43 = .ok (.goto (-34), 3) := by decide +kernel
theorem dX6_averageAttempts_46 : decode cX6_averageAttempts 46 = .ok (.aload_n 0, 1) := by decide +kernel
theorem dX6_averageAttempts_47 : decode cX6_averageAttempts 47 = .ok (.iconst 1, 1) := by decide +kernel
theorem dX6_averageAttempts_48 : decode cX6_averageAttempts 48 = .ok (.iconst 0, 1) := by decide +kernel
theorem dX6_averageAttempts_49 : decode cX6_averageAttempts 49 = .ok (.invokevirtual 218, 3) := by decide +kernel
theorem dX6_averageAttempts_52 : decode cX6_averageAttempts 52 = .ok (.istore_n 2, 1) := by decide +kernel
theorem dX6_averageAttempts_53 : decode cX6_averageAttempts 53 = .ok (.iload_n 2, 1) := by decide +kernel
theorem dX6_averageAttempts_54 : decode cX6_averageAttempts 54 = .ok (.ifCond .ne 12, 3) := by decide +kernel
theorem dX6_averageAttempts_57 : decode cX6_averageAttempts 57 = .ok (.aload_n 0, 1) := by decide +kernel
theorem dX6_averageAttempts_58 : decode cX6_averageAttempts 58 = .ok (.iconst 1, 1) := by decide +kernel
theorem dX6_averageAttempts_59 : decode cX6_averageAttempts 59 = .ok (.invokevirtual 107, 3) := by decide +kernel
theorem dX6_averageAttempts_62 : decode cX6_averageAttempts 62 = .ok (.i2d, 1) := by decide +kernel
theorem dX6_averageAttempts_63 : decode cX6_averageAttempts 63 = .ok (.goto 8, 3) := by decide +kernel
theorem dX6_averageAttempts_66 : decode cX6_averageAttempts 66 = .ok (.iload_n 1, 1) := by decide +kernel
theorem dX6_averageAttempts_67 : decode cX6_averageAttempts 67 = .ok (.i2d, 1) := by decide +kernel
theorem dX6_averageAttempts_68 : decode cX6_averageAttempts 68 = .ok (.iload_n 2, 1) := by decide +kernel
theorem dX6_averageAttempts_69 : decode cX6_averageAttempts 69 = .ok (.i2d, 1) := by decide +kernel
theorem dX6_averageAttempts_70 : decode cX6_averageAttempts 70 = .ok (.ddiv, 1) := by decide +kernel
theorem dX6_averageAttempts_71 : decode cX6_averageAttempts 71 = .ok (.dreturn, 1) := by decide +kernel
theorem dX6_abortRate_0 : decode cX6_abortRate 0 = .ok (.aload_n 0, 1) := by decide +kernel
theorem dX6_abortRate_1 : decode cX6_abortRate 1 = .ok (.iconst 0, 1) := by decide +kernel
theorem dX6_abortRate_2 : decode cX6_abortRate 2 = .ok (.putfield 1, 3) := by decide +kernel
theorem dX6_abortRate_5 : decode cX6_abortRate 5 = .ok (.aload_n 0, 1) := by decide +kernel
theorem dX6_abortRate_6 : decode cX6_abortRate 6 = .ok (.getfield 78, 3) := by decide +kernel
theorem dX6_abortRate_9 : decode cX6_abortRate 9 = .ok (.aload_n 0, 1) := by decide +kernel
theorem dX6_abortRate_10 : decode cX6_abortRate 10 = .ok (.invokevirtual 89, 3) := by decide +kernel
theorem dX6_abortRate_13 : decode cX6_abortRate 13 = .ok (.isub, 1) := by decide +kernel
theorem dX6_abortRate_14 : decode cX6_abortRate 14 = .ok (.istore_n 1, 1) := by decide +kernel
theorem dX6_abortRate_15 : decode cX6_abortRate 15 = .ok (.iload_n 1, 1) := by decide +kernel
theorem dX6_abortRate_16 : decode cX6_abortRate 16 = .ok (.ifCond .ne 12, 3) := by decide +kernel
theorem dX6_abortRate_19 : decode cX6_abortRate 19 = .ok (.aload_n 0, 1) := by decide +kernel
theorem dX6_abortRate_20 : decode cX6_abortRate 20 = .ok (.iconst 1, 1) := by decide +kernel
theorem dX6_abortRate_21 : decode cX6_abortRate 21 = .ok (.invokevirtual 107, 3) := by decide +kernel
theorem dX6_abortRate_24 : decode cX6_abortRate 24 = .ok (.i2f, 1) := by decide +kernel
theorem dX6_abortRate_25 : decode cX6_abortRate 25 = .ok (.goto 13, 3) := by decide +kernel
theorem dX6_abortRate_28 : decode cX6_abortRate 28 = .ok (.aload_n 0, 1) := by decide +kernel
theorem dX6_abortRate_29 : decode cX6_abortRate 29 = .ok (.iconst 2, 1) := by decide +kernel
theorem dX6_abortRate_30 : decode cX6_abortRate 30 = .ok (.iconst 0, 1) := by decide +kernel
theorem dX6_abortRate_31 : decode cX6_abortRate 31 = .ok (.invokevirtual 218, 3) := by decide +kernel
theorem dX6_abortRate_34 : decode cX6_abortRate 34 = .ok (.i2f, 1) := by decide +kernel
theorem dX6_abortRate_35 : decode cX6_abortRate 35 = .ok (.iload_n 1, 1) := by decide +kernel
theorem dX6_abortRate_36 : decode cX6_abortRate 36 = .ok (.i2f, 1) := by decide +kernel
theorem dX6_abortRate_37 : decode cX6_abortRate 37 = .ok (.fdiv, 1) := by decide +kernel
theorem dX6_abortRate_38 : decode cX6_abortRate 38 = .ok (.freturn, 1) := by decide +kernel
theorem dX6_appendCharacter_0 : decode cX6_appendCharacter 0 = .ok (.aload_n 0, 1) := by decide +kernel
theorem dX6_appendCharacter_1 : decode cX6_appendCharacter 1 = .ok (.iconst 0, 1) := by decide +kernel
theorem dX6_appendCharacter_2 : decode cX6_appendCharacter 2 = .ok (.putfield 1, 3) := by decide +kernel
theorem dX6_appendCharacter_5 : decode cX6_appendCharacter 5 = .ok (.iload_n 1, 1) := by decide +kernel
theorem dX6_appendCharacter_6 : decode cX6_appendCharacter 6 = .ok (.bipush 33, 2) := by decide +kernel
theorem dX6_appendCharacter_8 : decode cX6_appendCharacter 8 = .ok (.bipush 126, 2) := by decide +kernel
theorem dX6_appendCharacter_10 : decode cX6_appendCharacter 10 = .ok (.invokestatic 81, 3) := by decide +kernel
theorem dX6_appendCharacter_13 : decode cX6_appendCharacter 13 = .ok (.ifCond .ne 9, 3) := by decide +kernel
theorem dX6_appendCharacter_16 : decode cX6_appendCharacter 16 = .ok (.aload_n 0, 1) := by decide +kernel
theorem dX6_appendCharacter_17 : decode cX6_appendCharacter 17 = .ok (.iconst 1, 1) := by decide +kernel
theorem dX6_appendCharacter_18 : decode cX6_appendCharacter 18 = .ok (.invokevirtual 107, 3) := by decide +kernel
theorem dX6_appendCharacter_21 : decode cX6_appendCharacter 21 = .ok (.ireturn, 1) := by decide +kernel
theorem dX6_appendCharacter_22 : decode cX6_appendCharacter 22 = .ok (.aload_n 0, 1) := by decide +kernel
theorem dX6_appendCharacter_23 : decode cX6_appendCharacter 23 = .ok (.getfield 221, 3) := by decide +kernel
theorem dX6_appendCharacter_26 : decode cX6_appendCharacter 26 = .ok (.bipush 60, 2) := by decide +kernel
theorem dX6_appendCharacter_28 : decode cX6_appendCharacter 28 = .ok (.if_icmp .ne 9, 3) := by decide +kernel
theorem dX6_appendCharacter_31 : decode cX6_appendCharacter 31 = .ok (.aload_n 0, 1) := by decide +kernel
theorem dX6_appendCharacter_32 : decode cX6_appendCharacter 32 = .ok (.iconst 2, 1) := by decide +kernel
theorem dX6_appendCharacter_33 : decode cX6_appendCharacter 33 = .ok (.invokevirtual 107, 3) := by decide +kernel
theorem dX6_appendCharacter_36 : decode cX6_appendCharacter 36 = .ok (.ireturn, 1) := by decide +kernel
theorem dX6_appendCharacter_37 : decode cX6_appendCharacter 37 = .ok (.aload_n 0, 1) := by decide +kernel
theorem dX6_appendCharacter_38 : decode cX6_appendCharacter 38 = .ok (.getfield 69, 3) := by decide +kernel
theorem dX6_appendCharacter_41 : decode cX6_appendCharacter 41 = .ok (.aload_n 0, 1) := by decide +kernel
theorem dX6_appendCharacter_42 : decode cX6_appendCharacter 42 = .ok (.getfield 221, 3) := by decide +kernel
theorem dX6_appendCharacter_45 : decode cX6_appendCharacter 45 = .ok (.iload_n 1, 1) := by decide +kernel
theorem dX6_appendCharacter_46 : decode cX6_appendCharacter 46 = .ok (.iastore, 1) := by decide +kernel
theorem dX6_appendCharacter_47 : decode cX6_appendCharacter 47 = .ok (.aload_n 0, 1) := by decide +kernel
theorem dX6_appendCharacter_48 : decode cX6_appendCharacter 48 = .ok (.dup, 1) := by decide +kernel
theorem dX6_appendCharacter_49 : decode cX6_appendCharacter 49 = .ok (.getfield 221, 3) := by decide +kernel
theorem dX6_appendCharacter_52 : decode cX6_appendCharacter 52 = .ok (.iconst 1, 1) := by decide +kernel
theorem dX6_appendCharacter_53 : decode cX6_appendCharacter 53 = .ok (.iadd, 1) := by decide +kernel
theorem dX6_appendCharacter_54 : decode cX6_appendCharacter 54 = .ok (.putfield 221, 3) := by decide +kernel
theorem dX6_appendCharacter_57 : decode cX6_appendCharacter 57 = .ok (.aload_n 0, 1) := by decide +kernel
theorem dX6_appendCharacter_58 : decode cX6_appendCharacter 58 = .ok (.getfield 221, 3) := by decide +kernel
theorem dX6_appendCharacter_61 : decode cX6_appendCharacter 61 = .ok (.ireturn, 1) := by decide +kernel
theorem dX6_sign_0 : decode cX6_sign 0 = .ok (.aload_n 0, 1) := by decide +kernel
theorem dX6_sign_1 : decode cX6_sign 1 = .ok (.getfield 224, 3) := by decide +kernel
theorem dX6_sign_4 : decode cX6_sign 4 = .ok (.aload_n 0, 1) := by decide +kernel
theorem dX6_sign_5 : decode cX6_sign 5 = .ok (.getfield 227, 3) := by decide +kernel
theorem dX6_sign_8 : decode cX6_sign 8 = .ok (.if_icmp .ge 15, 3) := by decide +kernel
theorem dX6_sign_11 : decode cX6_sign 11 = .ok (.aload_n 0, 1) := by decide +kernel
theorem dX6_sign_12 : decode cX6_sign 12 = .ok (.getfield 69, 3) := by decide +kernel
theorem dX6_sign_15 : decode cX6_sign 15 = .ok (.aload_n 0, 1) := by decide +kernel
theorem dX6_sign_16 : decode cX6_sign 16 = .ok (.getfield 224, 3) := by decide +kernel
theorem dX6_sign_19 : decode cX6_sign 19 = .ok (.iaload, 1) := by decide +kernel
theorem dX6_sign_20 : decode cX6_sign 20 = .ok (.goto 4, 3) := by decide +kernel
theorem dX6_sign_23 : decode cX6_sign 23 = .ok (.iconst (-1), 1) := by decide +kernel
theorem dX6_sign_24 : decode cX6_sign 24 = .ok (.ireturn, 1) := by decide +kernel
theorem dX6_goes_0 : decode cX6_goes 0 = .ok (.aload_n 0, 1) := by decide +kernel
theorem dX6_goes_1 : decode cX6_goes 1 = .ok (.getfield 72, 3) := by decide +kernel
theorem dX6_goes_4 : decode cX6_goes 4 = .ok (.iconst (-1), 1) := by decide +kernel
theorem dX6_goes_5 : decode cX6_goes 5 = .ok (.if_icmp .ne 15, 3) := by decide +kernel
theorem dX6_goes_8 : decode cX6_goes 8 = .ok (.aload_n 0, 1) := by decide +kernel
theorem dX6_goes_9 : decode cX6_goes 9 = .ok (.invokevirtual 230, 3) := by decide +kernel
theorem dX6_goes_12 : decode cX6_goes 12 = .ok (.iload_n 1, 1) := by decide +kernel
theorem dX6_goes_13 : decode cX6_goes 13 = .ok (.if_icmp .ne 7, 3) := by decide +kernel
theorem dX6_goes_16 : decode cX6_goes 16 = .ok (.iconst 1, 1) := by decide +kernel
theorem dX6_goes_17 : decode cX6_goes 17 = .ok (.goto 4, 3) := by decide +kernel
theorem dX6_goes_20 : decode cX6_goes 20 = .ok (.iconst 0, 1) := by decide +kernel
theorem dX6_goes_21 : decode cX6_goes 21 = .ok (.istore_n 2, 1) := by decide +kernel
theorem dX6_goes_22 : decode cX6_goes 22 = .ok (.aload_n 0, 1) := by decide +kernel
theorem dX6_goes_23 : decode cX6_goes 23 = .ok (.dup, 1) := by decide +kernel
theorem dX6_goes_24 : decode cX6_goes 24 = .ok (.getfield 224, 3) := by decide +kernel
theorem dX6_goes_27 : decode cX6_goes 27 = .ok (.iload_n 2, 1) := by decide +kernel
theorem dX6_goes_28 : decode cX6_goes 28 = .ok (.ifCond .eq 7, 3) := by decide +kernel
theorem dX6_goes_31 : decode cX6_goes 31 = .ok (.iconst 1, 1) := by decide +kernel
theorem dX6_goes_32 : decode cX6_goes 32 = .ok (.goto 4, 3) := by decide +kernel
theorem dX6_goes_35 : decode cX6_goes 35 = .ok (.iconst 0, 1) := by decide +kernel
theorem dX6_goes_36 : decode cX6_goes 36 = .ok (.iadd, 1) := by decide +kernel
theorem dX6_goes_37 : decode cX6_goes 37 = .ok (.putfield 224, 3) := by decide +kernel
theorem dX6_goes_40 : decode cX6_goes 40 = .ok (.iload_n 2, 1) := by decide +kernel
theorem dX6_goes_41 : decode cX6_goes 41 = .ok (.ireturn, 1) := by decide +kernel
theorem dX6_fault_0 : decode cX6_fault 0 = .ok (.aload_n 0, 1) := by decide +kernel
theorem dX6_fault_1 : decode cX6_fault 1 = .ok (.aload_n 0, 1) := by decide +kernel
theorem dX6_fault_2 : decode cX6_fault 2 = .ok (.getfield 72, 3) := by decide +kernel
theorem dX6_fault_5 : decode cX6_fault 5 = .ok (.iconst (-1), 1) := by decide +kernel
theorem dX6_fault_6 : decode cX6_fault 6 = .ok (.if_icmp .ne 10, 3) := by decide +kernel
theorem dX6_fault_9 : decode cX6_fault 9 = .ok (.aload_n 0, 1) := by decide +kernel
theorem dX6_fault_10 : decode cX6_fault 10 = .ok (.getfield 224, 3) := by decide +kernel
theorem dX6_fault_13 : decode cX6_fault 13 = .ok (.goto 7, 3) := by decide +kernel
theorem dX6_fault_16 : decode cX6_fault 16 = .ok (.aload_n 0, 1) := by decide +kernel
theorem dX6_fault_17 : decode cX6_fault 17 = .ok (.getfield 72, 3) := by decide +kernel
theorem dX6_fault_20 : decode cX6_fault 20 = .ok (.putfield 72, 3) := by decide +kernel
theorem dX6_fault_23 : decode cX6_fault 23 = .ok (.return_, 1) := by decide +kernel
theorem dX6_expect_0 : decode cX6_expect 0 = .ok (.aload_n 0, 1) := by decide +kernel
theorem dX6_expect_1 : decode cX6_expect 1 = .ok (.iload_n 1, 1) := by decide +kernel
theorem dX6_expect_2 : decode cX6_expect 2 = .ok (.invokevirtual 233, 3) := by decide +kernel
theorem dX6_expect_5 : decode cX6_expect 5 = .ok (.ifCond .ne 7, 3) := by decide +kernel
theorem dX6_expect_8 : decode cX6_expect 8 = .ok (.aload_n 0, 1) := by decide +kernel
theorem dX6_expect_9 : decode cX6_expect 9 = .ok (.invokevirtual 237, 3) := by decide +kernel
theorem dX6_expect_12 : decode cX6_expect 12 = .ok (.return_, 1) := by decide +kernel
theorem dX6_isDigit_0 : decode cX6_isDigit 0 = .ok (.aload_n 0, 1) := by decide +kernel
theorem dX6_isDigit_1 : decode cX6_isDigit 1 = .ok (.getfield 72, 3) := by decide +kernel
theorem dX6_isDigit_4 : decode cX6_isDigit 4 = .ok (.iconst (-1), 1) := by decide +kernel
theorem dX6_isDigit_5 : decode cX6_isDigit 5 = .ok (.if_icmp .ne 21, 3) := by decide +kernel
theorem dX6_isDigit_8 : decode cX6_isDigit 8 = .ok (.aload_n 0, 1) := by decide +kernel
theorem dX6_isDigit_9 : decode cX6_isDigit 9 = .ok (.invokevirtual 230, 3) := by decide +kernel
theorem dX6_isDigit_12 : decode cX6_isDigit 12 = .ok (.bipush 48, 2) := by decide +kernel
theorem dX6_isDigit_14 : decode cX6_isDigit 14 = .ok (.bipush 57, 2) := by decide +kernel
theorem dX6_isDigit_16 : decode cX6_isDigit 16 = .ok (.invokestatic 81, 3) := by decide +kernel
theorem dX6_isDigit_19 : decode cX6_isDigit 19 = .ok (.ifCond .eq 7, 3) := by decide +kernel
theorem dX6_isDigit_22 : decode cX6_isDigit 22 = .ok (.iconst 1, 1) := by decide +kernel
theorem dX6_isDigit_23 : decode cX6_isDigit 23 = .ok (.goto 4, 3) := by decide +kernel
theorem dX6_isDigit_26 : decode cX6_isDigit 26 = .ok (.iconst 0, 1) := by decide +kernel
theorem dX6_isDigit_27 : decode cX6_isDigit 27 = .ok (.ireturn, 1) := by decide +kernel
theorem dX6_digits_0 : decode cX6_digits 0 = .ok (.aload_n 0, 1) := by decide +kernel
theorem dX6_digits_1 : decode cX6_digits 1 = .ok (.invokevirtual 239, 3) := by decide +kernel
theorem dX6_digits_4 : decode cX6_digits 4 = .ok (.ifCond .ne 7, 3) := by decide +kernel
theorem dX6_digits_7 : decode cX6_digits 7 = .ok (.aload_n 0, 1) := by decide +kernel
theorem dX6_digits_8 : decode cX6_digits 8 = .ok (.invokevirtual 237, 3) := by decide +kernel
theorem dX6_digits_11 : decode cX6_digits 11 = .ok (.iconst 0, 1) := by decide +kernel
theorem dX6_digits_12 : decode cX6_digits 12 = .ok (.istore_n 3, 1) := by decide +kernel
theorem dX6_digits_13 : decode cX6_digits 13 = .ok (.iconst 0, 1) := by decide +kernel
theorem dX6_digits_14 : decode cX6_digits 14 = .ok (.istore 4, 2) := by decide +kernel
theorem dX6_digits_16 : decode cX6_digits 16 = .ok (.iload 4, 2) := by decide +kernel
theorem dX6_digits_18 : decode cX6_digits 18 = .ok (.iload_n 1, 1) := by decide +kernel
theorem dX6_digits_19 : decode cX6_digits 19 = .ok (.if_icmp .ge 55, 3) := by decide +kernel
theorem dX6_digits_22 : decode cX6_digits 22 = .ok (.aload_n 0, 1) := by decide +kernel
theorem dX6_digits_23 : decode cX6_digits 23 = .ok (.invokevirtual 239, 3) := by decide +kernel
theorem dX6_digits_26 : decode cX6_digits 26 = .ok (.ifCond .eq 48, 3) := by decide +kernel
theorem dX6_digits_29 : decode cX6_digits 29 = .ok (.bipush 10, 2) := by decide +kernel
theorem dX6_digits_31 : decode cX6_digits 31 = .ok (.iload_n 3, 1) := by decide +kernel
theorem dX6_digits_32 : decode cX6_digits 32 = .ok (.imul, 1) := by decide +kernel
theorem dX6_digits_33 : decode cX6_digits 33 = .ok (.aload_n 0, 1) := by decide +kernel
theorem dX6_digits_34 : decode cX6_digits 34 = .ok (.invokevirtual 230, 3) := by decide +kernel
theorem dX6_digits_37 : decode cX6_digits 37 = .ok (.iadd, 1) := by decide +kernel
theorem dX6_digits_38 : decode cX6_digits 38 = .ok (.bipush 48, 2) := by decide +kernel
theorem dX6_digits_40 : decode cX6_digits 40 = .ok (.isub, 1) := by decide +kernel
theorem dX6_digits_41 : decode cX6_digits 41 = .ok (.iload_n 2, 1) := by decide +kernel
theorem dX6_digits_42 : decode cX6_digits 42 = .ok (.if_icmp .gt 32, 3) := by decide +kernel
theorem dX6_digits_45 : decode cX6_digits 45 = .ok (.bipush 10, 2) := by decide +kernel
theorem dX6_digits_47 : decode cX6_digits 47 = .ok (.iload_n 3, 1) := by decide +kernel
theorem dX6_digits_48 : decode cX6_digits 48 = .ok (.imul, 1) := by decide +kernel
theorem dX6_digits_49 : decode cX6_digits 49 = .ok (.aload_n 0, 1) := by decide +kernel
theorem dX6_digits_50 : decode cX6_digits 50 = .ok (.invokevirtual 230, 3) := by decide +kernel
theorem dX6_digits_53 : decode cX6_digits 53 = .ok (.iadd, 1) := by decide +kernel
theorem dX6_digits_54 : decode cX6_digits 54 = .ok (.bipush 48, 2) := by decide +kernel
theorem dX6_digits_56 : decode cX6_digits 56 = .ok (.isub, 1) := by decide +kernel
theorem dX6_digits_57 : decode cX6_digits 57 = .ok (.istore_n 3, 1) := by decide +kernel
theorem dX6_digits_58 : decode cX6_digits 58 = .ok (.aload_n 0, 1) := by decide +kernel
theorem dX6_digits_59 : decode cX6_digits 59 = .ok (.dup, 1) := by decide +kernel
theorem dX6_digits_60 : decode cX6_digits 60 = .ok (.getfield 224, 3) := by decide +kernel
theorem dX6_digits_63 : decode cX6_digits 63 = .ok (.iconst 1, 1) := by decide +kernel
theorem dX6_digits_64 : decode cX6_digits 64 = .ok (.iadd, 1) := by decide +kernel
theorem dX6_digits_65 : decode cX6_digits 65 = .ok (.putfield 224, 3) := by decide +kernel
theorem dX6_digits_68 : decode cX6_digits 68 = .ok (.iinc 4 1, 3) := by decide +kernel
theorem dX6_digits_71 : decode cX6_digits 71 = .ok (.goto (-55), 3) := by decide +kernel
theorem dX6_digits_74 : decode cX6_digits 74 = .ok (.iload_n 3, 1) := by decide +kernel
theorem dX6_digits_75 : decode cX6_digits 75 = .ok (.ireturn, 1) := by decide +kernel
theorem dX6_readKey_0 : decode cX6_readKey 0 = .ok (.aload_n 0, 1) := by decide +kernel
theorem dX6_readKey_1 : decode cX6_readKey 1 = .ok (.iconst 2, 1) := by decide +kernel
theorem dX6_readKey_2 : decode cX6_readKey 2 = .ok (.bipush 31, 2) := by decide +kernel
theorem dX6_readKey_4 : decode cX6_readKey 4 = .ok (.invokevirtual 242, 3) := by decide +kernel
theorem dX6_readKey_7 : decode cX6_readKey 7 = .ok (.ireturn, 1) := by decide +kernel
theorem dX6_readStep_0 : decode cX6_readStep 0 = .ok (.iconst 3, 1) := by decide +kernel
theorem dX6_readStep_1 : decode cX6_readStep 1 = .ok (.aload_n 0, 1) := by decide +kernel
theorem dX6_readStep_2 : decode cX6_readStep 2 = .ok (.getfield 245, 3) := by decide +kernel
theorem dX6_readStep_5 : decode cX6_readStep 5 = .ok (.imul, 1) := by decide +kernel
theorem dX6_readStep_6 : decode cX6_readStep 6 = .ok (.istore_n 1, 1) := by decide +kernel
theorem dX6_readStep_7 : decode cX6_readStep 7 = .ok (.aload_n 0, 1) := by decide +kernel
theorem dX6_readStep_8 : decode cX6_readStep 8 = .ok (.bipush 114, 2) := by decide +kernel
theorem dX6_readStep_10 : decode cX6_readStep 10 = .ok (.invokevirtual 233, 3) := by decide +kernel
theorem dX6_readStep_13 : decode cX6_readStep 13 = .ok (.ifCond .eq 7, 3) := by decide +kernel
theorem dX6_readStep_16 : decode cX6_readStep 16 = .ok (.iconst 0, 1) := by decide +kernel
theorem dX6_readStep_17 : decode cX6_readStep 17 = .ok (.goto 56, 3) := by decide +kernel
theorem dX6_readStep_20 : decode cX6_readStep 20 = .ok (.aload_n 0, 1) := by decide +kernel
theorem dX6_readStep_21 : decode cX6_readStep 21 = .ok (.bipush 119, 2) := by decide +kernel
theorem dX6_readStep_23 : decode cX6_readStep 23 = .ok (.invokevirtual 233, 3) := by decide +kernel
theorem dX6_readStep_26 : decode cX6_readStep 26 = .ok (.ifCond .eq 7, 3) := by decide +kernel
theorem dX6_readStep_29 : decode cX6_readStep 29 = .ok (.iconst 3, 1) := by decide +kernel
theorem dX6_readStep_30 : decode cX6_readStep 30 = .ok (.goto 43, 3) := by decide +kernel
theorem dX6_readStep_33 : decode cX6_readStep 33 = .ok (.aload_n 0, 1) := by decide +kernel
theorem dX6_readStep_34 : decode cX6_readStep 34 = .ok (.bipush 100, 2) := by decide +kernel
theorem dX6_readStep_36 : decode cX6_readStep 36 = .ok (.invokevirtual 233, 3) := by decide +kernel
theorem dX6_readStep_39 : decode cX6_readStep 39 = .ok (.ifCond .eq 7, 3) := by decide +kernel
theorem dX6_readStep_42 : decode cX6_readStep 42 = .ok (.iconst 4, 1) := by decide +kernel
theorem dX6_readStep_43 : decode cX6_readStep 43 = .ok (.goto 30, 3) := by decide +kernel
theorem dX6_readStep_46 : decode cX6_readStep 46 = .ok (.aload_n 0, 1) := by decide +kernel
theorem dX6_readStep_47 : decode cX6_readStep 47 = .ok (.bipush 97, 2) := by decide +kernel
theorem dX6_readStep_49 : decode cX6_readStep 49 = .ok (.invokevirtual 233, 3) := by decide +kernel
theorem dX6_readStep_52 : decode cX6_readStep 52 = .ok (.ifCond .eq 7, 3) := by decide +kernel
theorem dX6_readStep_55 : decode cX6_readStep 55 = .ok (.iconst 5, 1) := by decide +kernel
theorem dX6_readStep_56 : decode cX6_readStep 56 = .ok (.goto 17, 3) := by decide +kernel
theorem dX6_readStep_59 : decode cX6_readStep 59 = .ok (.aload_n 0, 1) := by decide +kernel
theorem dX6_readStep_60 : decode cX6_readStep 60 = .ok (.bipush 115, 2) := by decide +kernel
theorem dX6_readStep_62 : decode cX6_readStep 62 = .ok (.invokevirtual 233, 3) := by decide +kernel
theorem dX6_readStep_65 : decode cX6_readStep 65 = .ok (.ifCond .eq 7, 3) := by decide +kernel
theorem dX6_readStep_68 : decode cX6_readStep 68 = .ok (.iconst 2, 1) := by decide +kernel
theorem dX6_readStep_69 : decode cX6_readStep 69 = .ok (.goto 4, 3) := by decide +kernel
theorem dX6_readStep_72 : decode cX6_readStep 72 = .ok (.iconst (-1), 1) := by decide +kernel
theorem dX6_readStep_73 : decode cX6_readStep 73 = .ok (.istore_n 2, 1) := by decide +kernel
theorem dX6_readStep_74 : decode cX6_readStep 74 = .ok (.iload_n 2, 1) := by decide +kernel
theorem dX6_readStep_75 : decode cX6_readStep 75 = .ok (.iconst (-1), 1) := by decide +kernel
theorem dX6_readStep_76 : decode cX6_readStep 76 = .ok (.if_icmp .ne 8, 3) := by decide +kernel
theorem dX6_readStep_79 : decode cX6_readStep 79 = .ok (.aload_n 0, 1) := by decide +kernel
theorem dX6_readStep_80 : decode cX6_readStep 80 = .ok (.invokevirtual 237, 3) := by decide +kernel
theorem dX6_readStep_83 : decode cX6_readStep 83 = .ok (.return_, 1) := by decide +kernel
theorem dX6_readStep_84 : decode cX6_readStep 84 = .ok (.aload_n 0, 1) := by decide +kernel
theorem dX6_readStep_85 : decode cX6_readStep 85 = .ok (.getfield 75, 3) := by decide +kernel
theorem dX6_readStep_88 : decode cX6_readStep 88 = .ok (.iload_n 1, 1) := by decide +kernel
theorem dX6_readStep_89 : decode cX6_readStep 89 = .ok (.iload_n 2, 1) := by decide +kernel
theorem dX6_readStep_90 : decode cX6_readStep 90 = .ok (.iastore, 1) := by decide +kernel
theorem dX6_readStep_91 : decode cX6_readStep 91 = .ok (.aload_n 0, 1) := by decide +kernel
theorem dX6_readStep_92 : decode cX6_readStep 92 = .ok (.getfield 75, 3) := by decide +kernel
theorem dX6_readStep_95 : decode cX6_readStep 95 = .ok (.iload_n 1, 1) := by decide +kernel
theorem dX6_readStep_96 : decode cX6_readStep 96 = .ok (.iconst 1, 1) := by decide +kernel
theorem dX6_readStep_97 : decode cX6_readStep 97 = .ok (.iadd, 1) := by decide +kernel
theorem dX6_readStep_98 : decode cX6_readStep 98 = .ok (.aload_n 0, 1) := by decide +kernel
theorem dX6_readStep_99 : decode cX6_readStep 99 = .ok (.invokevirtual 248, 3) := by decide +kernel
theorem dX6_readStep_102 : decode cX6_readStep 102 = .ok (.iastore, 1) := by decide +kernel
theorem dX6_readStep_103 : decode cX6_readStep 103 = .ok (.aload_n 0, 1) := by decide +kernel
theorem dX6_readStep_104 : decode cX6_readStep 104 = .ok (.getfield 75, 3) := by decide +kernel
theorem dX6_readStep_107 : decode cX6_readStep 107 = .ok (.iload_n 1, 1) := by decide +kernel
theorem dX6_readStep_108 : decode cX6_readStep 108 = .ok (.iconst 2, 1) := by decide +kernel
theorem dX6_readStep_109 : decode cX6_readStep 109 = .ok (.iadd, 1) := by decide +kernel
theorem dX6_readStep_110 : decode cX6_readStep 110 = .ok (.iconst 0, 1) := by decide +kernel
theorem dX6_readStep_111 : decode cX6_readStep 111 = .ok (.iastore, 1) := by decide +kernel
theorem dX6_readStep_112 : decode cX6_readStep 112 = .ok (.iload_n 2, 1) := by decide +kernel
theorem dX6_readStep_113 : decode cX6_readStep 113 = .ok (.iconst 3, 1) := by decide +kernel
theorem dX6_readStep_114 : decode cX6_readStep 114 = .ok (.if_icmp .ne 45, 3) := by decide +kernel
theorem dX6_readStep_117 : decode cX6_readStep 117 = .ok (.aload_n 0, 1) := by decide +kernel
theorem dX6_readStep_118 : decode cX6_readStep 118 = .ok (.bipush 61, 2) := by decide +kernel
theorem dX6_readStep_120 : decode cX6_readStep 120 = .ok (.invokevirtual 251, 3) := by decide +kernel
theorem dX6_readStep_123 : decode cX6_readStep 123 = .ok (.aload_n 0, 1) := by decide +kernel
theorem dX6_readStep_124 : decode cX6_readStep 124 = .ok (.bipush 45, 2) := by decide +kernel
theorem dX6_readStep_126 : decode cX6_readStep 126 = .ok (.invokevirtual 233, 3) := by decide +kernel
theorem dX6_readStep_129 : decode cX6_readStep 129 = .ok (.ifCond .eq 7, 3) := by decide +kernel
theorem dX6_readStep_132 : decode cX6_readStep 132 = .ok (.iconst (-1), 1) := by decide +kernel
theorem dX6_readStep_133 : decode cX6_readStep 133 = .ok (.goto 4, 3) := by decide +kernel
theorem dX6_readStep_136 : decode cX6_readStep 136 = .ok (.iconst 1, 1) := by decide +kernel
theorem dX6_readStep_137 : decode cX6_readStep 137 = .ok (.istore_n 3, 1) := by decide +kernel
theorem dX6_readStep_138 : decode cX6_readStep 138 = .ok (.aload_n 0, 1) := by decide +kernel
theorem dX6_readStep_139 : decode cX6_readStep 139 = .ok (.getfield 75, 3) := by decide +kernel
theorem dX6_readStep_142 : decode cX6_readStep 142 = .ok (.iload_n 1, 1) := by decide +kernel
theorem dX6_readStep_143 : decode cX6_readStep 143 = .ok (.iconst 2, 1) := by decide +kernel
theorem dX6_readStep_144 : decode cX6_readStep 144 = .ok (.iadd, 1) := by decide +kernel
theorem dX6_readStep_145 : decode cX6_readStep 145 = .ok (.iload_n 3, 1) := by decide +kernel
theorem dX6_readStep_146 : decode cX6_readStep 146 = .ok (.aload_n 0, 1) := by decide +kernel
theorem dX6_readStep_147 : decode cX6_readStep 147 = .ok (.iconst 3, 1) := by decide +kernel
theorem dX6_readStep_148 : decode cX6_readStep 148 = .ok (.sipush 999, 3) := by decide +kernel
theorem dX6_readStep_151 : decode cX6_readStep 151 = .ok (.invokevirtual 242, 3) := by decide +kernel
theorem dX6_readStep_154 : decode cX6_readStep 154 = .ok (.imul, 1) := by decide +kernel
theorem dX6_readStep_155 : decode cX6_readStep 155 = .ok (.iastore, 1) := by decide +kernel
theorem dX6_readStep_156 : decode cX6_readStep 156 = .ok (.goto 77, 3) := by decide +kernel
theorem dX6_readStep_159 : decode cX6_readStep 159 = .ok (.iload_n 2, 1) := by decide +kernel
theorem dX6_readStep_160 : decode cX6_readStep 160 = .ok (.iconst 5, 1) := by decide +kernel
theorem dX6_readStep_161 : decode cX6_readStep 161 = .ok (.if_icmp .ne 49, 3) := by decide +kernel
theorem dX6_readStep_164 : decode cX6_readStep 164 = .ok (.aload_n 0, 1) := by decide +kernel
theorem dX6_readStep_165 : decode cX6_readStep 165 = .ok (.bipush 43, 2) := by decide +kernel
theorem dX6_readStep_167 : decode cX6_readStep 167 = .ok (.invokevirtual 233, 3) := by decide +kernel
theorem dX6_readStep_170 : decode cX6_readStep 170 = .ok (.ifCond .eq 7, 3) := by decide +kernel
theorem dX6_readStep_173 : decode cX6_readStep 173 = .ok (.iconst 1, 1) := by decide +kernel
theorem dX6_readStep_174 : decode cX6_readStep 174 = .ok (.goto 4, 3) := by decide +kernel
theorem dX6_readStep_177 : decode cX6_readStep 177 = .ok (.iconst (-1), 1) := by decide +kernel
theorem dX6_readStep_178 : decode cX6_readStep 178 = .ok (.istore_n 3, 1) := by decide +kernel
theorem dX6_readStep_179 : decode cX6_readStep 179 = .ok (.iload_n 3, 1) := by decide +kernel
theorem dX6_readStep_180 : decode cX6_readStep 180 = .ok (.ifCond .ge 9, 3) := by decide +kernel
theorem dX6_readStep_183 : decode cX6_readStep 183 = .ok (.aload_n 0, 1) := by decide +kernel
theorem dX6_readStep_184 : decode cX6_readStep 184 = .ok (.bipush 45, 2) := by decide +kernel
theorem dX6_readStep_186 : decode cX6_readStep 186 = .ok (.invokevirtual 251, 3) := by decide +kernel
theorem dX6_readStep_189 : decode cX6_readStep 189 = .ok (.aload_n 0, 1) := by decide +kernel
theorem dX6_readStep_190 : decode cX6_readStep 190 = .ok (.getfield 75, 3) := by decide +kernel
theorem dX6_readStep_193 : decode cX6_readStep 193 = .ok (.iload_n 1, 1) := by decide +kernel
theorem dX6_readStep_194 : decode cX6_readStep 194 = .ok (.iconst 2, 1) := by decide +kernel
theorem dX6_readStep_195 : decode cX6_readStep 195 = .ok (.iadd, 1) := by decide +kernel
theorem dX6_readStep_196 : decode cX6_readStep 196 = .ok (.iload_n 3, 1) := by decide +kernel
theorem dX6_readStep_197 : decode cX6_readStep 197 = .ok (.aload_n 0, 1) := by decide +kernel
theorem dX6_readStep_198 : decode cX6_readStep 198 = .ok (.iconst 3, 1) := by decide +kernel
theorem dX6_readStep_199 : decode cX6_readStep 199 = .ok (.sipush 999, 3) := by decide +kernel
theorem dX6_readStep_202 : decode cX6_readStep 202 = .ok (.invokevirtual 242, 3) := by decide +kernel
theorem dX6_readStep_205 : decode cX6_readStep 205 = .ok (.imul, 1) := by decide +kernel
theorem dX6_readStep_206 : decode cX6_readStep 206 = .ok (.iastore, 1) := by decide +kernel
theorem dX6_readStep_207 : decode cX6_readStep 207 = .ok (.goto 26, 3) := by decide +kernel
theorem dX6_readStep_210 : decode cX6_readStep 210 = .ok (.iload_n 2, 1) := by decide +kernel
theorem dX6_readStep_211 : decode cX6_readStep 211 = .ok (.iconst 2, 1) := by decide +kernel
theorem dX6_readStep_212 : decode cX6_readStep 212 = .ok (.if_icmp .ne 21, 3) := by decide +kernel
theorem dX6_readStep_215 : decode cX6_readStep 215 = .ok (.aload_n 0, 1) := by decide +kernel
theorem dX6_readStep_216 : decode cX6_readStep 216 = .ok (.bipush 45, 2) := by decide +kernel
theorem dX6_readStep_218 : decode cX6_readStep 218 = .ok (.invokevirtual 251, 3) := by decide +kernel
theorem dX6_readStep_221 : decode cX6_readStep 221 = .ok (.aload_n 0, 1) := by decide +kernel
theorem dX6_readStep_222 : decode cX6_readStep 222 = .ok (.getfield 75, 3) := by decide +kernel
theorem dX6_readStep_225 : decode cX6_readStep 225 = .ok (.iload_n 1, 1) := by decide +kernel
theorem dX6_readStep_226 : decode cX6_readStep 226 = .ok (.iconst 2, 1) := by decide +kernel
theorem dX6_readStep_227 : decode cX6_readStep 227 = .ok (.iadd, 1) := by decide +kernel
theorem dX6_readStep_228 : decode cX6_readStep 228 = .ok (.aload_n 0, 1) := by decide +kernel
theorem dX6_readStep_229 : decode cX6_readStep 229 = .ok (.invokevirtual 248, 3) := by decide +kernel
theorem dX6_readStep_232 : decode cX6_readStep 232 = .ok (.iastore, 1) := by decide +kernel
theorem dX6_readStep_233 : decode cX6_readStep 233 = .ok (.aload_n 0, 1) := by decide +kernel
theorem dX6_readStep_234 : decode cX6_readStep 234 = .ok (.dup, 1) := by decide +kernel
theorem dX6_readStep_235 : decode cX6_readStep 235 = .ok (.getfield 245, 3) := by decide +kernel
theorem dX6_readStep_238 : decode cX6_readStep 238 = .ok (.iconst 1, 1) := by decide +kernel
theorem dX6_readStep_239 : decode cX6_readStep 239 = .ok (.iadd, 1) := by decide +kernel
theorem dX6_readStep_240 : decode cX6_readStep 240 = .ok (.putfield 245, 3) := by decide +kernel
theorem dX6_readStep_243 : decode cX6_readStep 243 = .ok (.return_, 1) := by decide +kernel
theorem dX6_readScript_0 : decode cX6_readScript 0 = .ok (.aload_n 0, 1) := by decide +kernel
theorem dX6_readScript_1 : decode cX6_readScript 1 = .ok (.aload_n 0, 1) := by decide +kernel
theorem dX6_readScript_2 : decode cX6_readScript 2 = .ok (.getfield 221, 3) := by decide +kernel
theorem dX6_readScript_5 : decode cX6_readScript 5 = .ok (.putfield 227, 3) := by decide +kernel
theorem dX6_readScript_8 : decode cX6_readScript 8 = .ok (.aload_n 0, 1) := by decide +kernel
theorem dX6_readScript_9 : decode cX6_readScript 9 = .ok (.iconst 0, 1) := by decide +kernel
theorem dX6_readScript_10 : decode cX6_readScript 10 = .ok (.putfield 221, 3) := by decide +kernel
theorem dX6_readScript_13 : decode cX6_readScript 13 = .ok (.aload_n 0, 1) := by decide +kernel
theorem dX6_readScript_14 : decode cX6_readScript 14 = .ok (.iconst 0, 1) := by decide +kernel
theorem dX6_readScript_15 : decode cX6_readScript 15 = .ok (.putfield 224, 3) := by decide +kernel
theorem dX6_readScript_18 : decode cX6_readScript 18 = .ok (.aload_n 0, 1) := by decide +kernel
theorem dX6_readScript_19 : decode cX6_readScript 19 = .ok (.iconst (-1), 1) := by decide +kernel
theorem dX6_readScript_20 : decode cX6_readScript 20 = .ok (.putfield 72, 3) := by decide +kernel
theorem dX6_readScript_23 : decode cX6_readScript 23 = .ok (.aload_n 0, 1) := by decide +kernel
theorem dX6_readScript_24 : decode cX6_readScript 24 = .ok (.iconst 0, 1) := by decide +kernel
theorem dX6_readScript_25 : decode cX6_readScript 25 = .ok (.putfield 245, 3) := by decide +kernel
theorem dX6_readScript_28 : decode cX6_readScript 28 = .ok (.aload_n 0, 1) := by decide +kernel
theorem dX6_readScript_29 : decode cX6_readScript 29 = .ok (.invokevirtual 255, 3) := by decide +kernel
theorem dX6_readScript_32 : decode cX6_readScript 32 = .ok (.aload_n 0, 1) := by decide +kernel
theorem dX6_readScript_33 : decode cX6_readScript 33 = .ok (.bipush 59, 2) := by decide +kernel
theorem dX6_readScript_35 : decode cX6_readScript 35 = .ok (.invokevirtual 233, 3) := by decide +kernel
theorem dX6_readScript_38 : decode cX6_readScript 38 = .ok (.ifCond .eq 10, 3) := by decide +kernel
theorem dX6_readScript_41 : decode cX6_readScript 41 = .ok (.aload_n 0, 1) := by decide +kernel
theorem dX6_readScript_42 : decode cX6_readScript 42 = .ok (.invokevirtual 255, 3) := by decide +kernel
theorem dX6_readScript_45 : decode cX6_readScript 45 = .ok (.goto (-13), 3) := by decide +kernel
theorem dX6_readScript_48 : decode cX6_readScript 48 = .ok (.aload_n 0, 1) := by decide +kernel
theorem dX6_readScript_49 : decode cX6_readScript 49 = .ok (.getfield 224, 3) := by decide +kernel
theorem dX6_readScript_52 : decode cX6_readScript 52 = .ok (.aload_n 0, 1) := by decide +kernel
theorem dX6_readScript_53 : decode cX6_readScript 53 = .ok (.getfield 227, 3) := by decide +kernel
theorem dX6_readScript_56 : decode cX6_readScript 56 = .ok (.if_icmp .ge 7, 3) := by decide +kernel
theorem dX6_readScript_59 : decode cX6_readScript 59 = .ok (.aload_n 0, 1) := by decide +kernel
theorem dX6_readScript_60 : decode cX6_readScript 60 = .ok (.invokevirtual 237, 3) := by decide +kernel
theorem dX6_readScript_63 : decode cX6_readScript 63 = .ok (.return_, 1) := by decide +kernel
theorem dX6_doStep_0 : decode cX6_doStep 0 = .ok (.aload_n 0, 1) := by decide +kernel
theorem dX6_doStep_1 : decode cX6_doStep 1 = .ok (.getfield 75, 3) := by decide +kernel
theorem dX6_doStep_4 : decode cX6_doStep 4 = .ok (.iload_n 2, 1) := by decide +kernel
theorem dX6_doStep_5 : decode cX6_doStep 5 = .ok (.iconst 1, 1) := by decide +kernel
theorem dX6_doStep_6 : decode cX6_doStep 6 = .ok (.iadd, 1) := by decide +kernel
theorem dX6_doStep_7 : decode cX6_doStep 7 = .ok (.iaload, 1) := by decide +kernel
theorem dX6_doStep_8 : decode cX6_doStep 8 = .ok (.istore_n 3, 1) := by decide +kernel
theorem dX6_doStep_9 : decode cX6_doStep 9 = .ok (.aload_n 0, 1) := by decide +kernel
theorem dX6_doStep_10 : decode cX6_doStep 10 = .ok (.getfield 75, 3) := by decide +kernel
theorem dX6_doStep_13 : decode cX6_doStep 13 = .ok (.iload_n 2, 1) := by decide +kernel
theorem dX6_doStep_14 : decode cX6_doStep 14 = .ok (.iconst 2, 1) := by decide +kernel
theorem dX6_doStep_15 : decode cX6_doStep 15 = .ok (.iadd, 1) := by decide +kernel
theorem dX6_doStep_16 : decode cX6_doStep 16 = .ok (.iaload, 1) := by decide +kernel
theorem dX6_doStep_17 : decode cX6_doStep 17 = .ok (.istore 4, 2) := by decide +kernel
theorem dX6_doStep_19 : decode cX6_doStep 19 = .ok (.aload_n 0, 1) := by decide +kernel
theorem dX6_doStep_20 : decode cX6_doStep 20 = .ok (.getfield 75, 3) := by decide +kernel
theorem dX6_doStep_23 : decode cX6_doStep 23 = .ok (.iload_n 2, 1) := by decide +kernel
theorem dX6_doStep_24 : decode cX6_doStep 24 = .ok (.iaload, 1) := by decide +kernel
theorem dX6_doStep_25 : decode cX6_doStep 25 = .ok (.tableswitch 81 0 5 #[39, 81, 81, 49, 60, 69], 39) := by decide +kernel
theorem dX6_doStep_64 : decode cX6_doStep 64 = .ok (.aload_n 0, 1) := by decide +kernel
theorem dX6_doStep_65 : decode cX6_doStep 65 = .ok (.iload_n 1, 1) := by decide +kernel
theorem dX6_doStep_66 : decode cX6_doStep 66 = .ok (.iload_n 3, 1) := by decide +kernel
theorem dX6_doStep_67 : decode cX6_doStep 67 = .ok (.invokevirtual 258, 3) := by decide +kernel
theorem dX6_doStep_70 : decode cX6_doStep 70 = .ok (.pop, 1) := by decide +kernel
theorem dX6_doStep_71 : decode cX6_doStep 71 = .ok (.goto 44, 3) := by decide +kernel
theorem dX6_doStep_74 : decode cX6_doStep 74 = .ok (.aload_n 0, 1) := by decide +kernel
theorem dX6_doStep_75 : decode cX6_doStep 75 = .ok (.iload_n 1, 1) := by decide +kernel
theorem dX6_doStep_76 : decode cX6_doStep 76 = .ok (.iload_n 3, 1) := by decide +kernel
theorem dX6_doStep_77 : decode cX6_doStep 77 = .ok (.iload 4, 2) := by decide +kernel
theorem dX6_doStep_79 : decode cX6_doStep 79 = .ok (.invokevirtual 261, 3) := by decide +kernel
theorem dX6_doStep_82 : decode cX6_doStep 82 = .ok (.goto 33, 3) := by decide +kernel
theorem dX6_doStep_85 : decode cX6_doStep 85 = .ok (.aload_n 0, 1) := by decide +kernel
theorem dX6_doStep_86 : decode cX6_doStep 86 = .ok (.iload_n 1, 1) := by decide +kernel
theorem dX6_doStep_87 : decode cX6_doStep 87 = .ok (.iload_n 3, 1) := by decide +kernel
theorem dX6_doStep_88 : decode cX6_doStep 88 = .ok (.invokevirtual 265, 3) := by decide +kernel
theorem dX6_doStep_91 : decode cX6_doStep 91 = .ok (.goto 24, 3) := by decide +kernel
theorem dX6_doStep_94 : decode cX6_doStep 94 = .ok (.aload_n 0, 1) := by decide +kernel
theorem dX6_doStep_95 : decode cX6_doStep 95 = .ok (.iload_n 1, 1) := by decide +kernel
theorem dX6_doStep_96 : decode cX6_doStep 96 = .ok (.iload_n 3, 1) := by decide +kernel
theorem dX6_doStep_97 : decode cX6_doStep 97 = .ok (.iload 4, 2) := by decide +kernel
theorem dX6_doStep_99 : decode cX6_doStep 99 = .ok (.invokevirtual 268, 3) := by decide +kernel
theorem dX6_doStep_102 : decode cX6_doStep 102 = .ok (.pop, 1) := by decide +kernel
theorem dX6_doStep_103 : decode cX6_doStep 103 = .ok (.goto 12, 3) := by decide +kernel
theorem dX6_doStep_106 : decode cX6_doStep 106 = .ok (.aload_n 0, 1) := by decide +kernel
theorem dX6_doStep_107 : decode cX6_doStep 107 = .ok (.iload_n 1, 1) := by decide +kernel
theorem dX6_doStep_108 : decode cX6_doStep 108 = .ok (.iload_n 3, 1) := by decide +kernel
theorem dX6_doStep_109 : decode cX6_doStep 109 = .ok (.iload 4, 2) := by decide +kernel
theorem dX6_doStep_111 : decode cX6_doStep 111 = .ok (.invokevirtual 271, 3) := by decide +kernel
theorem dX6_doStep_114 : decode cX6_doStep 114 = .ok (.pop, 1) := by decide +kernel
theorem dX6_doStep_115 : decode cX6_doStep 115 = .ok (.return_, 1) := by decide +kernel
theorem dX6_runScript_0 : decode cX6_runScript 0 = .ok (.aload_n 0, 1) := by decide +kernel
theorem dX6_runScript_1 : decode cX6_runScript 1 = .ok (.invokevirtual 274, 3) := by decide +kernel
theorem dX6_runScript_4 : decode cX6_runScript 4 = .ok (.aload_n 0, 1) := by decide +kernel
theorem dX6_runScript_5 : decode cX6_runScript 5 = .ok (.iconst 0, 1) := by decide +kernel
theorem dX6_runScript_6 : decode cX6_runScript 6 = .ok (.putfield 1, 3) := by decide +kernel
theorem dX6_runScript_9 : decode cX6_runScript 9 = .ok (.aload_n 0, 1) := by decide +kernel
theorem dX6_runScript_10 : decode cX6_runScript 10 = .ok (.getfield 72, 3) := by decide +kernel
theorem dX6_runScript_13 : decode cX6_runScript 13 = .ok (.iconst (-1), 1) := by decide +kernel
theorem dX6_runScript_14 : decode cX6_runScript 14 = .ok (.if_icmp .eq 9, 3) := by decide +kernel
theorem dX6_runScript_17 : decode cX6_runScript 17 = .ok (.aload_n 0, 1) := by decide +kernel
theorem dX6_runScript_18 : decode cX6_runScript 18 = .ok (.iconst 1, 1) := by decide +kernel
theorem dX6_runScript_19 : decode cX6_runScript 19 = .ok (.invokevirtual 107, 3) := by decide +kernel
theorem dX6_runScript_22 : decode cX6_runScript 22 = .ok (.ireturn, 1) := by decide +kernel
theorem dX6_runScript_23 : decode cX6_runScript 23 = .ok (.aload_n 0, 1) := by decide +kernel
theorem dX6_runScript_24 : decode cX6_runScript 24 = .ok (.invokevirtual 99, 3) := by decide +kernel
theorem dX6_runScript_27 : decode cX6_runScript 27 = .ok (.ifCond .eq 12, 3) := by decide +kernel
theorem dX6_runScript_30 : decode cX6_runScript 30 = .ok (.aload_n 0, 1) := by decide +kernel
theorem dX6_runScript_31 : decode cX6_runScript 31 = .ok (.getfield 113, 3) := by decide +kernel
theorem dX6_runScript_34 : decode cX6_runScript 34 = .ok (.bipush 60, 2) := by decide +kernel
theorem dX6_runScript_36 : decode cX6_runScript 36 = .ok (.if_icmp .ne 9, 3) := by decide +kernel
theorem dX6_runScript_39 : decode cX6_runScript 39 = .ok (.aload_n 0, 1) := by decide +kernel
theorem dX6_runScript_40 : decode cX6_runScript 40 = .ok (.iconst 2, 1) := by decide +kernel
theorem dX6_runScript_41 : decode cX6_runScript 41 = .ok (.invokevirtual 107, 3) := by decide +kernel
theorem dX6_runScript_44 : decode cX6_runScript 44 = .ok (.ireturn, 1) := by decide +kernel
theorem dX6_runScript_45 : decode cX6_runScript 45 = .ok (.aload_n 0, 1) := by decide +kernel
theorem dX6_runScript_46 : decode cX6_runScript 46 = .ok (.iconst 1, 1) := by decide +kernel
theorem dX6_runScript_47 : decode cX6_runScript 47 = .ok (.invokevirtual 103, 3) := by decide +kernel
theorem dX6_runScript_50 : decode cX6_runScript 50 = .ok (.istore_n 1, 1) := by decide +kernel
theorem dX6_runScript_51 : decode cX6_runScript 51 = .ok (.iconst 0, 1) := by decide +kernel
theorem dX6_runScript_52 : decode cX6_runScript 52 = .ok (.istore_n 2, 1) := by decide +kernel
theorem dX6_runScript_53 : decode cX6_runScript 53 = .ok (.iload_n 2, 1) := by decide +kernel
theorem dX6_runScript_54 : decode cX6_runScript 54 = .ok (.aload_n 0, 1) := by decide +kernel
theorem dX6_runScript_55 : decode cX6_runScript 55 = .ok (.getfield 245, 3) := by decide +kernel
theorem dX6_runScript_58 : decode cX6_runScript 58 = .ok (.if_icmp .ge 38, 3) := by decide +kernel
theorem dX6_runScript_61 : decode cX6_runScript 61 = .ok (.aload_n 0, 1) := by decide +kernel
theorem dX6_runScript_62 : decode cX6_runScript 62 = .ok (.iload_n 1, 1) := by decide +kernel
theorem dX6_runScript_63 : decode cX6_runScript 63 = .ok (.iconst 3, 1) := by decide +kernel
theorem dX6_runScript_64 : decode cX6_runScript 64 = .ok (.iload_n 2, 1) := by decide +kernel
theorem dX6_runScript_65 : decode cX6_runScript 65 = .ok (.imul, 1) := by decide +kernel
theorem dX6_runScript_66 : decode cX6_runScript 66 = .ok (.invokevirtual 277, 3) := by decide +kernel
theorem dX6_runScript_69 : decode cX6_runScript 69 = .ok (.aload_n 0, 1) := by decide +kernel
theorem dX6_runScript_70 : decode cX6_runScript 70 = .ok (.getfield 1, 3) := by decide +kernel
theorem dX6_runScript_73 : decode cX6_runScript 73 = .ok (.ifCond .eq 17, 3) := by decide +kernel
theorem dX6_runScript_76 : decode cX6_runScript 76 = .ok (.aload_n 0, 1) := by decide +kernel
theorem dX6_runScript_77 : decode cX6_runScript 77 = .ok (.iconst 0, 1) := by decide +kernel
theorem dX6_runScript_78 : decode cX6_runScript 78 = .ok (.putfield 1, 3) := by decide +kernel
theorem dX6_runScript_81 : decode cX6_runScript 81 = .ok (.aload_n 0, 1) := by decide +kernel
theorem dX6_runScript_82 : decode cX6_runScript 82 = .ok (.iload_n 1, 1) := by decide +kernel
theorem dX6_runScript_83 : decode cX6_runScript 83 = .ok (.iconst 5, 1) := by decide +kernel
theorem dX6_runScript_84 : decode cX6_runScript 84 = .ok (.invokevirtual 192, 3) := by decide +kernel
theorem dX6_runScript_87 : decode cX6_runScript 87 = .ok (.bipush (-2), 2) := by decide +kernel
theorem dX6_runScript_89 : decode cX6_runScript 89 = .ok (.ireturn, 1) := by decide +kernel
theorem dX6_runScript_90 : decode cX6_runScript 90 = .ok (.iinc 2 1, 3) := by decide +kernel
theorem dX6_runScript_93 : decode cX6_runScript 93 = .ok (.goto (-40), 3) := by decide +kernel
theorem dX6_runScript_96 : decode cX6_runScript 96 = .ok (.aload_n 0, 1) := by decide +kernel
theorem dX6_runScript_97 : decode cX6_runScript 97 = .ok (.iload_n 1, 1) := by decide +kernel
theorem dX6_runScript_98 : decode cX6_runScript 98 = .ok (.invokevirtual 195, 3) := by decide +kernel
theorem dX6_runScript_101 : decode cX6_runScript 101 = .ok (.ireturn, 1) := by decide +kernel
theorem dX6_faultPosition_0 : decode cX6_faultPosition 0 = .ok (.aload_n 0, 1) := by decide +kernel
theorem dX6_faultPosition_1 : decode cX6_faultPosition 1 = .ok (.iconst 0, 1) := by decide +kernel
theorem dX6_faultPosition_2 : decode cX6_faultPosition 2 = .ok (.putfield 1, 3) := by decide +kernel
theorem dX6_faultPosition_5 : decode cX6_faultPosition 5 = .ok (.aload_n 0, 1) := by decide +kernel
theorem dX6_faultPosition_6 : decode cX6_faultPosition 6 = .ok (.getfield 72, 3) := by decide +kernel
theorem dX6_faultPosition_9 : decode cX6_faultPosition 9 = .ok (.ireturn, 1) := by decide +kernel
