/-! rests: the code of the class, of the law -/
theorem dR_0 : decode cX12_rests 0 = .ok (.iload_n 1, 1) := by decide +kernel
theorem dR_1 : decode cX12_rests 1 = .ok (.invokestatic 337, 3) := by decide +kernel
theorem dR_4 : decode cX12_rests 4 = .ok (.ifCond .eq 17, 3) := by decide +kernel
theorem dR_7 : decode cX12_rests 7 = .ok (.iload_n 2, 1) := by decide +kernel
theorem dR_8 : decode cX12_rests 8 = .ok (.invokestatic 337, 3) := by decide +kernel
theorem dR_11 : decode cX12_rests 11 = .ok (.ifCond .eq 10, 3) := by decide +kernel
theorem dR_14 : decode cX12_rests 14 = .ok (.iload_n 3, 1) := by decide +kernel
theorem dR_15 : decode cX12_rests 15 = .ok (.invokestatic 337, 3) := by decide +kernel
theorem dR_18 : decode cX12_rests 18 = .ok (.ifCond .ne 14, 3) := by decide +kernel
theorem dR_21 : decode cX12_rests 21 = .ok (.new 340, 3) := by decide +kernel
theorem dR_24 : decode cX12_rests 24 = .ok (.dup, 1) := by decide +kernel
theorem dR_25 : decode cX12_rests 25 = .ok (.ldc_w 342, 3) := by decide +kernel
theorem dR_28 : decode cX12_rests 28 = .ok (.invokespecial 344, 3) := by decide +kernel
theorem dR_31 : decode cX12_rests 31 = .ok (.athrow, 1) := by decide +kernel
theorem dR_32 : decode cX12_rests 32 = .ok (.iconst 0, 1) := by decide +kernel
theorem dR_33 : decode cX12_rests 33 = .ok (.istore 5, 2) := by decide +kernel
theorem dR_35 : decode cX12_rests 35 = .ok (.iconst 0, 1) := by decide +kernel
theorem dR_36 : decode cX12_rests 36 = .ok (.istore 6, 2) := by decide +kernel
theorem dR_38 : decode cX12_rests 38 = .ok (.iload 6, 2) := by decide +kernel
theorem dR_40 : decode cX12_rests 40 = .ok (.iconst 4, 1) := by decide +kernel
theorem dR_41 : decode cX12_rests 41 = .ok (.if_icmp .ge 101, 3) := by decide +kernel
theorem dR_44 : decode cX12_rests 44 = .ok (.iload 6, 2) := by decide +kernel
theorem dR_46 : decode cX12_rests 46 = .ok (.iconst 1, 1) := by decide +kernel
theorem dR_47 : decode cX12_rests 47 = .ok (.ishr, 1) := by decide +kernel
theorem dR_48 : decode cX12_rests 48 = .ok (.istore 7, 2) := by decide +kernel
theorem dR_50 : decode cX12_rests 50 = .ok (.iload 6, 2) := by decide +kernel
theorem dR_52 : decode cX12_rests 52 = .ok (.iconst 1, 1) := by decide +kernel
theorem dR_53 : decode cX12_rests 53 = .ok (.iand, 1) := by decide +kernel
theorem dR_54 : decode cX12_rests 54 = .ok (.istore 8, 2) := by decide +kernel
theorem dR_56 : decode cX12_rests 56 = .ok (.iconst 1, 1) := by decide +kernel
theorem dR_57 : decode cX12_rests 57 = .ok (.iload 7, 2) := by decide +kernel
theorem dR_59 : decode cX12_rests 59 = .ok (.isub, 1) := by decide +kernel
theorem dR_60 : decode cX12_rests 60 = .ok (.iload 8, 2) := by decide +kernel
theorem dR_62 : decode cX12_rests 62 = .ok (.iload_n 1, 1) := by decide +kernel
theorem dR_63 : decode cX12_rests 63 = .ok (.iload_n 2, 1) := by decide +kernel
theorem dR_64 : decode cX12_rests 64 = .ok (.iload_n 3, 1) := by decide +kernel
theorem dR_65 : decode cX12_rests 65 = .ok (.invokestatic 347, 3) := by decide +kernel
theorem dR_68 : decode cX12_rests 68 = .ok (.iload 7, 2) := by decide +kernel
theorem dR_70 : decode cX12_rests 70 = .ok (.iload 8, 2) := by decide +kernel
theorem dR_72 : decode cX12_rests 72 = .ok (.iload_n 1, 1) := by decide +kernel
theorem dR_73 : decode cX12_rests 73 = .ok (.iload_n 2, 1) := by decide +kernel
theorem dR_74 : decode cX12_rests 74 = .ok (.iload_n 3, 1) := by decide +kernel
theorem dR_75 : decode cX12_rests 75 = .ok (.invokestatic 347, 3) := by decide +kernel
theorem dR_78 : decode cX12_rests 78 = .ok (.if_icmp .gt 32, 3) := by decide +kernel
theorem dR_81 : decode cX12_rests 81 = .ok (.iconst 1, 1) := by decide +kernel
theorem dR_82 : decode cX12_rests 82 = .ok (.iload 8, 2) := by decide +kernel
theorem dR_84 : decode cX12_rests 84 = .ok (.isub, 1) := by decide +kernel
theorem dR_85 : decode cX12_rests 85 = .ok (.iload 7, 2) := by decide +kernel
theorem dR_87 : decode cX12_rests 87 = .ok (.iload_n 1, 1) := by decide +kernel
theorem dR_88 : decode cX12_rests 88 = .ok (.iload_n 2, 1) := by decide +kernel
theorem dR_89 : decode cX12_rests 89 = .ok (.iload_n 3, 1) := by decide +kernel
theorem dR_90 : decode cX12_rests 90 = .ok (.invokestatic 347, 3) := by decide +kernel
theorem dR_93 : decode cX12_rests 93 = .ok (.iload 8, 2) := by decide +kernel
theorem dR_95 : decode cX12_rests 95 = .ok (.iload 7, 2) := by decide +kernel
theorem dR_97 : decode cX12_rests 97 = .ok (.iload_n 1, 1) := by decide +kernel
theorem dR_98 : decode cX12_rests 98 = .ok (.iload_n 2, 1) := by decide +kernel
theorem dR_99 : decode cX12_rests 99 = .ok (.iload_n 3, 1) := by decide +kernel
theorem dR_100 : decode cX12_rests 100 = .ok (.invokestatic 347, 3) := by decide +kernel
theorem dR_103 : decode cX12_rests 103 = .ok (.if_icmp .gt 7, 3) := by decide +kernel
theorem dR_106 : decode cX12_rests 106 = .ok (.iconst 1, 1) := by decide +kernel
theorem dR_107 : decode cX12_rests 107 = .ok (.goto 4, 3) := by decide +kernel
theorem dR_110 : decode cX12_rests 110 = .ok (.iconst 0, 1) := by decide +kernel
theorem dR_111 : decode cX12_rests 111 = .ok (.istore 9, 2) := by decide +kernel
theorem dR_113 : decode cX12_rests 113 = .ok (.iload 9, 2) := by decide +kernel
theorem dR_115 : decode cX12_rests 115 = .ok (.ifCond .eq 13, 3) := by decide +kernel
theorem dR_118 : decode cX12_rests 118 = .ok (.iload 5, 2) := by decide +kernel
theorem dR_120 : decode cX12_rests 120 = .ok (.iload 4, 2) := by decide +kernel
theorem dR_122 : decode cX12_rests 122 = .ok (.if_icmp .ne 6, 3) := by decide +kernel
theorem dR_125 : decode cX12_rests 125 = .ok (.iload 6, 2) := by decide +kernel
theorem dR_127 : decode cX12_rests 127 = .ok (.ireturn, 1) := by decide +kernel
theorem dR_128 : decode cX12_rests 128 = .ok (.iload 9, 2) := by decide +kernel
theorem dR_130 : decode cX12_rests 130 = .ok (.ifCond .eq 6, 3) := by decide +kernel
theorem dR_133 : decode cX12_rests 133 = .ok (.iinc 5 1, 3) := by decide +kernel
theorem dR_136 : decode cX12_rests 136 = .ok (.iinc 6 1, 3) := by decide +kernel
theorem dR_139 : decode cX12_rests 139 = .ok (.goto (-101), 3) := by decide +kernel
theorem dR_142 : decode cX12_rests 142 = .ok (.iload 4, 2) := by decide +kernel
theorem dR_144 : decode cX12_rests 144 = .ok (.iconst (-1), 1) := by decide +kernel
theorem dR_145 : decode cX12_rests 145 = .ok (.if_icmp .eq 14, 3) := by decide +kernel
theorem dR_148 : decode cX12_rests 148 = .ok (.new 340, 3) := by decide +kernel
theorem dR_151 : decode cX12_rests 151 = .ok (.dup, 1) := by decide +kernel
theorem dR_152 : decode cX12_rests 152 = .ok (.ldc_w 351, 3) := by decide +kernel
theorem dR_155 : decode cX12_rests 155 = .ok (.invokespecial 344, 3) := by decide +kernel
theorem dR_158 : decode cX12_rests 158 = .ok (.athrow, 1) := by decide +kernel
theorem dR_159 : decode cX12_rests 159 = .ok (.iload 5, 2) := by decide +kernel
theorem dR_161 : decode cX12_rests 161 = .ok (.ireturn, 1) := by decide +kernel
theorem dI_0 : decode cX12_isPrize 0 = .ok (.iload_n 0, 1) := by decide +kernel
theorem dI_1 : decode cX12_isPrize 1 = .ok (.ifCond .lt 13, 3) := by decide +kernel
theorem dI_4 : decode cX12_isPrize 4 = .ok (.iload_n 0, 1) := by decide +kernel
theorem dI_5 : decode cX12_isPrize 5 = .ok (.bipush 9, 2) := by decide +kernel
theorem dI_7 : decode cX12_isPrize 7 = .ok (.if_icmp .gt 7, 3) := by decide +kernel
theorem dI_10 : decode cX12_isPrize 10 = .ok (.iconst 1, 1) := by decide +kernel
theorem dI_11 : decode cX12_isPrize 11 = .ok (.goto 4, 3) := by decide +kernel
theorem dI_14 : decode cX12_isPrize 14 = .ok (.iconst 0, 1) := by decide +kernel
theorem dI_15 : decode cX12_isPrize 15 = .ok (.ireturn, 1) := by decide +kernel
theorem dZ_0 : decode cX12_prize 0 = .ok (.iload_n 0, 1) := by decide +kernel
theorem dZ_1 : decode cX12_prize 1 = .ok (.iconst 1, 1) := by decide +kernel
theorem dZ_2 : decode cX12_prize 2 = .ok (.if_icmp .ne 14, 3) := by decide +kernel
theorem dZ_5 : decode cX12_prize 5 = .ok (.iload_n 1, 1) := by decide +kernel
theorem dZ_6 : decode cX12_prize 6 = .ok (.iconst 1, 1) := by decide +kernel
theorem dZ_7 : decode cX12_prize 7 = .ok (.if_icmp .ne 7, 3) := by decide +kernel
theorem dZ_10 : decode cX12_prize 10 = .ok (.iload_n 3, 1) := by decide +kernel
theorem dZ_11 : decode cX12_prize 11 = .ok (.goto 4, 3) := by decide +kernel
theorem dZ_14 : decode cX12_prize 14 = .ok (.iload_n 2, 1) := by decide +kernel
theorem dZ_15 : decode cX12_prize 15 = .ok (.ireturn, 1) := by decide +kernel
theorem dZ_16 : decode cX12_prize 16 = .ok (.iload_n 1, 1) := by decide +kernel
theorem dZ_17 : decode cX12_prize 17 = .ok (.iconst 1, 1) := by decide +kernel
theorem dZ_18 : decode cX12_prize 18 = .ok (.if_icmp .ne 7, 3) := by decide +kernel
theorem dZ_21 : decode cX12_prize 21 = .ok (.iconst 0, 1) := by decide +kernel
theorem dZ_22 : decode cX12_prize 22 = .ok (.goto 5, 3) := by decide +kernel
theorem dZ_25 : decode cX12_prize 25 = .ok (.iload 4, 2) := by decide +kernel
theorem dZ_27 : decode cX12_prize 27 = .ok (.ireturn, 1) := by decide +kernel
theorem dLR_0 : decode cL_rests 0 = .ok (.aload 5, 2) := by decide +kernel
theorem dLR_2 : decode cL_rests 2 = .ok (.iconst 0, 1) := by decide +kernel
theorem dLR_3 : decode cL_rests 3 = .ok (.aload_n 0, 1) := by decide +kernel
theorem dLR_4 : decode cL_rests 4 = .ok (.iload_n 1, 1) := by decide +kernel
theorem dLR_5 : decode cL_rests 5 = .ok (.iload_n 2, 1) := by decide +kernel
theorem dLR_6 : decode cL_rests 6 = .ok (.iload_n 3, 1) := by decide +kernel
theorem dLR_7 : decode cL_rests 7 = .ok (.iload 4, 2) := by decide +kernel
theorem dLR_9 : decode cL_rests 9 = .ok (.invokevirtual 7, 3) := by decide +kernel
theorem dLR_12 : decode cL_rests 12 = .ok (.i2l, 1) := by decide +kernel
theorem dLR_13 : decode cL_rests 13 = .ok (.lastore, 1) := by decide +kernel
theorem dLR_14 : decode cL_rests 14 = .ok (.goto 7, 3) := by decide +kernel
theorem dLR_17 : decode cL_rests 17 = .ok (.astore 6, 2) := by decide +kernel
theorem dLR_19 : decode cL_rests 19 = .ok (.iconst 1, 1) := by decide +kernel
theorem dLR_20 : decode cL_rests 20 = .ok (.ireturn, 1) := by decide +kernel
theorem dLR_21 : decode cL_rests 21 = .ok (.iconst 0, 1) := by decide +kernel
theorem dLR_22 : decode cL_rests 22 = .ok (.ireturn, 1) := by decide +kernel
