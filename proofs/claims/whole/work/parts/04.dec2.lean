theorem dX12_leftOf_5 : decode cX12_leftOf 5 = .ok (.aload_n 0, 1) := by decide +kernel
theorem dX12_leftOf_6 : decode cX12_leftOf 6 = .ok (.iload_n 1, 1) := by decide +kernel
theorem dX12_leftOf_7 : decode cX12_leftOf 7 = .ok (.invokevirtual 137, 3) := by decide +kernel
theorem dX12_leftOf_10 : decode cX12_leftOf 10 = .ok (.if_icmp .ge 18, 3) := by decide +kernel
theorem dX12_leftOf_13 : decode cX12_leftOf 13 = .ok (.iload_n 2, 1) := by decide +kernel
theorem dX12_leftOf_14 : decode cX12_leftOf 14 = .ok (.aload_n 0, 1) := by decide +kernel
theorem dX12_leftOf_15 : decode cX12_leftOf 15 = .ok (.iload_n 1, 1) := by decide +kernel
theorem dX12_leftOf_16 : decode cX12_leftOf 16 = .ok (.iload_n 3, 1) := by decide +kernel
theorem dX12_leftOf_17 : decode cX12_leftOf 17 = .ok (.invokevirtual 140, 3) := by decide +kernel
theorem dX12_leftOf_20 : decode cX12_leftOf 20 = .ok (.iadd, 1) := by decide +kernel
theorem dX12_leftOf_21 : decode cX12_leftOf 21 = .ok (.istore_n 2, 1) := by decide +kernel
theorem dX12_leftOf_22 : decode cX12_leftOf 22 = .ok (.iinc 3 1, 3) := by decide +kernel
theorem dX12_leftOf_25 : decode cX12_leftOf 25 = .ok (.goto (-21), 3) := by decide +kernel
theorem dX12_leftOf_28 : decode cX12_leftOf 28 = .ok (.iconst 0, 1) := by decide +kernel
theorem dX12_leftOf_29 : decode cX12_leftOf 29 = .ok (.istore_n 3, 1) := by decide +kernel
theorem dX12_leftOf_30 : decode cX12_leftOf 30 = .ok (.iconst 0, 1) := by decide +kernel
theorem dX12_leftOf_31 : decode cX12_leftOf 31 = .ok (.istore 4, 2) := by decide +kernel
theorem dX12_leftOf_33 : decode cX12_leftOf 33 = .ok (.aload_n 0, 1) := by decide +kernel
theorem dX12_leftOf_34 : decode cX12_leftOf 34 = .ok (.iload_n 1, 1) := by decide +kernel
theorem dX12_leftOf_35 : decode cX12_leftOf 35 = .ok (.iconst 2, 1) := by decide +kernel
theorem dX12_leftOf_36 : decode cX12_leftOf 36 = .ok (.invokevirtual 131, 3) := by decide +kernel
theorem dX12_leftOf_39 : decode cX12_leftOf 39 = .ok (.iconst 1, 1) := by decide +kernel
theorem dX12_leftOf_40 : decode cX12_leftOf 40 = .ok (.iadd, 1) := by decide +kernel
theorem dX12_leftOf_41 : decode cX12_leftOf 41 = .ok (.istore 5, 2) := by decide +kernel
theorem dX12_leftOf_43 : decode cX12_leftOf 43 = .ok (.iload 5, 2) := by decide +kernel
theorem dX12_leftOf_45 : decode cX12_leftOf 45 = .ok (.aload_n 0, 1) := by decide +kernel
theorem dX12_leftOf_46 : decode cX12_leftOf 46 = .ok (.getfield 9, 3) := by decide +kernel
theorem dX12_leftOf_49 : decode cX12_leftOf 49 = .ok (.iconst 0, 1) := by decide +kernel
theorem dX12_leftOf_50 : decode cX12_leftOf 50 = .ok (.iaload, 1) := by decide +kernel
theorem dX12_leftOf_51 : decode cX12_leftOf 51 = .ok (.if_icmp .gt 142, 3) := by decide +kernel
theorem dX12_leftOf_54 : decode cX12_leftOf 54 = .ok (.iload_n 3, 1) := by decide +kernel
theorem dX12_leftOf_55 : decode cX12_leftOf 55 = .ok (.aload_n 0, 1) := by decide +kernel
theorem dX12_leftOf_56 : decode cX12_leftOf 56 = .ok (.iload_n 1, 1) := by decide +kernel
theorem dX12_leftOf_57 : decode cX12_leftOf 57 = .ok (.invokevirtual 137, 3) := by decide +kernel
theorem dX12_leftOf_60 : decode cX12_leftOf 60 = .ok (.if_icmp .ge 133, 3) := by decide +kernel
theorem dX12_leftOf_63 : decode cX12_leftOf 63 = .ok (.aload_n 0, 1) := by decide +kernel
theorem dX12_leftOf_64 : decode cX12_leftOf 64 = .ok (.aload_n 0, 1) := by decide +kernel
theorem dX12_leftOf_65 : decode cX12_leftOf 65 = .ok (.iload_n 1, 1) := by decide +kernel
theorem dX12_leftOf_66 : decode cX12_leftOf 66 = .ok (.iconst 0, 1) := by decide +kernel
theorem dX12_leftOf_67 : decode cX12_leftOf 67 = .ok (.invokevirtual 131, 3) := by decide +kernel
theorem dX12_leftOf_70 : decode cX12_leftOf 70 = .ok (.aload_n 0, 1) := by decide +kernel
theorem dX12_leftOf_71 : decode cX12_leftOf 71 = .ok (.iload_n 1, 1) := by decide +kernel
theorem dX12_leftOf_72 : decode cX12_leftOf 72 = .ok (.iconst 1, 1) := by decide +kernel
theorem dX12_leftOf_73 : decode cX12_leftOf 73 = .ok (.invokevirtual 131, 3) := by decide +kernel
theorem dX12_leftOf_76 : decode cX12_leftOf 76 = .ok (.iload 5, 2) := by decide +kernel
theorem dX12_leftOf_78 : decode cX12_leftOf 78 = .ok (.invokevirtual 134, 3) := by decide +kernel
theorem dX12_leftOf_81 : decode cX12_leftOf 81 = .ok (.istore 6, 2) := by decide +kernel
theorem dX12_leftOf_83 : decode cX12_leftOf 83 = .ok (.iload 4, 2) := by decide +kernel
theorem dX12_leftOf_85 : decode cX12_leftOf 85 = .ok (.aload_n 0, 1) := by decide +kernel
theorem dX12_leftOf_86 : decode cX12_leftOf 86 = .ok (.iload_n 1, 1) := by decide +kernel
theorem dX12_leftOf_87 : decode cX12_leftOf 87 = .ok (.iload_n 3, 1) := by decide +kernel
theorem dX12_leftOf_88 : decode cX12_leftOf 88 = .ok (.invokevirtual 140, 3) := by decide +kernel
theorem dX12_leftOf_91 : decode cX12_leftOf 91 = .ok (.if_icmp .ge 65, 3) := by decide +kernel
theorem dX12_leftOf_94 : decode cX12_leftOf 94 = .ok (.iload 6, 2) := by decide +kernel
theorem dX12_leftOf_96 : decode cX12_leftOf 96 = .ok (.ifCond .ne 29, 3) := by decide +kernel
theorem dX12_leftOf_99 : decode cX12_leftOf 99 = .ok (.iload_n 3, 1) := by decide +kernel
theorem dX12_leftOf_100 : decode cX12_leftOf 100 = .ok (.ifCond .gt 21, 3) := by decide +kernel
theorem dX12_leftOf_103 : decode cX12_leftOf 103 = .ok (.aload_n 0, 1) := by decide +kernel
theorem dX12_leftOf_104 : decode cX12_leftOf 104 = .ok (.iload_n 1, 1) := by decide +kernel
theorem dX12_leftOf_105 : decode cX12_leftOf 105 = .ok (.iconst 4, 1) := by decide +kernel
theorem dX12_leftOf_106 : decode cX12_leftOf 106 = .ok (.invokevirtual 131, 3) := by decide +kernel
theorem dX12_leftOf_109 : decode cX12_leftOf 109 = .ok (.ifCond .eq 12, 3) := by decide +kernel
theorem dX12_leftOf_112 : decode cX12_leftOf 112 = .ok (.aload_n 0, 1) := by decide +kernel
theorem dX12_leftOf_113 : decode cX12_leftOf 113 = .ok (.iload 5, 2) := by decide +kernel
theorem dX12_leftOf_115 : decode cX12_leftOf 115 = .ok (.invokevirtual 112, 3) := by decide +kernel
theorem dX12_leftOf_118 : decode cX12_leftOf 118 = .ok (.ifCond .eq 7, 3) := by decide +kernel
theorem dX12_leftOf_121 : decode cX12_leftOf 121 = .ok (.iconst 1, 1) := by decide +kernel
theorem dX12_leftOf_122 : decode cX12_leftOf 122 = .ok (.goto 4, 3) := by decide +kernel
theorem dX12_leftOf_125 : decode cX12_leftOf 125 = .ok (.iconst 0, 1) := by decide +kernel
theorem dX12_leftOf_126 : decode cX12_leftOf 126 = .ok (.istore 7, 2) := by decide +kernel
theorem dX12_leftOf_128 : decode cX12_leftOf 128 = .ok (.iload 4, 2) := by decide +kernel
theorem dX12_leftOf_130 : decode cX12_leftOf 130 = .ok (.iload 7, 2) := by decide +kernel
theorem dX12_leftOf_132 : decode cX12_leftOf 132 = .ok (.ifCond .eq 7, 3) := by decide +kernel
theorem dX12_leftOf_135 : decode cX12_leftOf 135 = .ok (.iconst 1, 1) := by decide +kernel
theorem dX12_leftOf_136 : decode cX12_leftOf 136 = .ok (.goto 4, 3) := by decide +kernel
theorem dX12_leftOf_139 : decode cX12_leftOf 139 = .ok (.iconst 0, 1) := by decide +kernel
theorem dX12_leftOf_140 : decode cX12_leftOf 140 = .ok (.iadd, 1) := by decide +kernel
theorem dX12_leftOf_141 : decode cX12_leftOf 141 = .ok (.istore 4, 2) := by decide +kernel
theorem dX12_leftOf_143 : decode cX12_leftOf 143 = .ok (.iload_n 2, 1) := by decide +kernel
theorem dX12_leftOf_144 : decode cX12_leftOf 144 = .ok (.iload 7, 2) := by decide +kernel
theorem dX12_leftOf_146 : decode cX12_leftOf 146 = .ok (.ifCond .eq 7, 3) := by decide +kernel
theorem dX12_leftOf_149 : decode cX12_leftOf 149 = .ok (.iconst 1, 1) := by decide +kernel
theorem dX12_leftOf_150 : decode cX12_leftOf 150 = .ok (.goto 4, 3) := by decide +kernel
theorem dX12_leftOf_153 : decode cX12_leftOf 153 = .ok (.iconst 0, 1) := by decide +kernel
theorem dX12_leftOf_154 : decode cX12_leftOf 154 = .ok (.isub, 1) := by decide +kernel
theorem dX12_leftOf_155 : decode cX12_leftOf 155 = .ok (.istore_n 2, 1) := by decide +kernel
theorem dX12_leftOf_156 : decode cX12_leftOf 156 = .ok (.iload 4, 2) := by decide +kernel
theorem dX12_leftOf_158 : decode cX12_leftOf 158 = .ok (.aload_n 0, 1) := by decide +kernel
theorem dX12_leftOf_159 : decode cX12_leftOf 159 = .ok (.iload_n 1, 1) := by decide +kernel
theorem dX12_leftOf_160 : decode cX12_leftOf 160 = .ok (.iload_n 3, 1) := by decide +kernel
theorem dX12_leftOf_161 : decode cX12_leftOf 161 = .ok (.invokevirtual 140, 3) := by decide +kernel
theorem dX12_leftOf_164 : decode cX12_leftOf 164 = .ok (.if_icmp .ne 23, 3) := by decide +kernel
theorem dX12_leftOf_167 : decode cX12_leftOf 167 = .ok (.aload_n 0, 1) := by decide +kernel
theorem dX12_leftOf_168 : decode cX12_leftOf 168 = .ok (.iload 5, 2) := by decide +kernel
theorem dX12_leftOf_170 : decode cX12_leftOf 170 = .ok (.invokevirtual 112, 3) := by decide +kernel
theorem dX12_leftOf_173 : decode cX12_leftOf 173 = .ok (.ifCond .eq 14, 3) := by decide +kernel
theorem dX12_leftOf_176 : decode cX12_leftOf 176 = .ok (.iload 6, 2) := by decide +kernel
theorem dX12_leftOf_178 : decode cX12_leftOf 178 = .ok (.ifCond .ne 9, 3) := by decide +kernel
theorem dX12_leftOf_181 : decode cX12_leftOf 181 = .ok (.iinc 3 1, 3) := by decide +kernel
theorem dX12_leftOf_184 : decode cX12_leftOf 184 = .ok (.iconst 0, 1) := by decide +kernel
theorem dX12_leftOf_185 : decode cX12_leftOf 185 = .ok (.istore 4, 2) := by decide +kernel
theorem dX12_leftOf_187 : decode cX12_leftOf 187 = .ok (.iinc 5 1, 3) := by decide +kernel
theorem dX12_leftOf_190 : decode cX12_leftOf 190 = .ok (.goto (-147), 3) := by decide +kernel
theorem dX12_leftOf_193 : decode cX12_leftOf 193 = .ok (.iload_n 2, 1) := by decide +kernel
theorem dX12_leftOf_194 : decode cX12_leftOf 194 = .ok (.ireturn, 1) := by decide +kernel
theorem dX12_daysLeft_0 : decode cX12_daysLeft 0 = .ok (.aload_n 0, 1) := by decide +kernel
theorem dX12_daysLeft_1 : decode cX12_daysLeft 1 = .ok (.iconst 0, 1) := by decide +kernel
theorem dX12_daysLeft_2 : decode cX12_daysLeft 2 = .ok (.putfield 41, 3) := by decide +kernel
theorem dX12_daysLeft_5 : decode cX12_daysLeft 5 = .ok (.aload_n 0, 1) := by decide +kernel
theorem dX12_daysLeft_6 : decode cX12_daysLeft 6 = .ok (.aload_n 0, 1) := by decide +kernel
theorem dX12_daysLeft_7 : decode cX12_daysLeft 7 = .ok (.iload_n 1, 1) := by decide +kernel
theorem dX12_daysLeft_8 : decode cX12_daysLeft 8 = .ok (.invokevirtual 147, 3) := by decide +kernel
theorem dX12_daysLeft_11 : decode cX12_daysLeft 11 = .ok (.iconst 1, 1) := by decide +kernel
theorem dX12_daysLeft_12 : decode cX12_daysLeft 12 = .ok (.invokevirtual 55, 3) := by decide +kernel
theorem dX12_daysLeft_15 : decode cX12_daysLeft 15 = .ok (.ifCond .eq 7, 3) := by decide +kernel
theorem dX12_daysLeft_18 : decode cX12_daysLeft 18 = .ok (.iconst 0, 1) := by decide +kernel
theorem dX12_daysLeft_19 : decode cX12_daysLeft 19 = .ok (.goto 8, 3) := by decide +kernel
theorem dX12_daysLeft_22 : decode cX12_daysLeft 22 = .ok (.aload_n 0, 1) := by decide +kernel
theorem dX12_daysLeft_23 : decode cX12_daysLeft 23 = .ok (.iload_n 1, 1) := by decide +kernel
theorem dX12_daysLeft_24 : decode cX12_daysLeft 24 = .ok (.invokevirtual 156, 3) := by decide +kernel
theorem dX12_daysLeft_27 : decode cX12_daysLeft 27 = .ok (.ireturn, 1) := by decide +kernel
theorem dX12_daysLeftByMarking_0 : decode cX12_daysLeftByMarking 0 = .ok (.aload_n 0, 1) := by decide +kernel
theorem dX12_daysLeftByMarking_1 : decode cX12_daysLeftByMarking 1 = .ok (.iload_n 1, 1) := by decide +kernel
theorem dX12_daysLeftByMarking_2 : decode cX12_daysLeftByMarking 2 = .ok (.invokevirtual 159, 3) := by decide +kernel
theorem dX12_daysLeftByMarking_5 : decode cX12_daysLeftByMarking 5 = .ok (.ireturn, 1) := by decide +kernel
theorem dX12_isPast_0 : decode cX12_isPast 0 = .ok (.aload_n 0, 1) := by decide +kernel
theorem dX12_isPast_1 : decode cX12_isPast 1 = .ok (.iload_n 1, 1) := by decide +kernel
theorem dX12_isPast_2 : decode cX12_isPast 2 = .ok (.invokevirtual 150, 3) := by decide +kernel
theorem dX12_isPast_5 : decode cX12_isPast 5 = .ok (.istore_n 2, 1) := by decide +kernel
theorem dX12_isPast_6 : decode cX12_isPast 6 = .ok (.iload_n 2, 1) := by decide +kernel
theorem dX12_isPast_7 : decode cX12_isPast 7 = .ok (.iconst (-1), 1) := by decide +kernel
theorem dX12_isPast_8 : decode cX12_isPast 8 = .ok (.if_icmp .eq 17, 3) := by decide +kernel
theorem dX12_isPast_11 : decode cX12_isPast 11 = .ok (.iload_n 2, 1) := by decide +kernel
theorem dX12_isPast_12 : decode cX12_isPast 12 = .ok (.aload_n 0, 1) := by decide +kernel
theorem dX12_isPast_13 : decode cX12_isPast 13 = .ok (.getfield 9, 3) := by decide +kernel
theorem dX12_isPast_16 : decode cX12_isPast 16 = .ok (.iconst 0, 1) := by decide +kernel
theorem dX12_isPast_17 : decode cX12_isPast 17 = .ok (.iaload, 1) := by decide +kernel
theorem dX12_isPast_18 : decode cX12_isPast 18 = .ok (.if_icmp .ge 7, 3) := by decide +kernel
theorem dX12_isPast_21 : decode cX12_isPast 21 = .ok (.iconst 1, 1) := by decide +kernel
theorem dX12_isPast_22 : decode cX12_isPast 22 = .ok (.goto 4, 3) := by decide +kernel
theorem dX12_isPast_25 : decode cX12_isPast 25 = .ok (.iconst 0, 1) := by decide +kernel
theorem dX12_isPast_26 : decode cX12_isPast 26 = .ok (.ireturn, 1) := by decide +kernel
theorem dX12_grantedOf_0 : decode cX12_grantedOf 0 = .ok (.iconst 0, 1) := by decide +kernel
theorem dX12_grantedOf_1 : decode cX12_grantedOf 1 = .ok (.istore_n 2, 1) := by decide +kernel
theorem dX12_grantedOf_2 : decode cX12_grantedOf 2 = .ok (.iconst 0, 1) := by decide +kernel
theorem dX12_grantedOf_3 : decode cX12_grantedOf 3 = .ok (.istore_n 3, 1) := by decide +kernel
theorem dX12_grantedOf_4 : decode cX12_grantedOf 4 = .ok (.iload_n 3, 1) := by decide +kernel
theorem dX12_grantedOf_5 : decode cX12_grantedOf 5 = .ok (.aload_n 0, 1) := by decide +kernel
theorem dX12_grantedOf_6 : decode cX12_grantedOf 6 = .ok (.iload_n 1, 1) := by decide +kernel
theorem dX12_grantedOf_7 : decode cX12_grantedOf 7 = .ok (.bipush 7, 2) := by decide +kernel
theorem dX12_grantedOf_9 : decode cX12_grantedOf 9 = .ok (.invokevirtual 131, 3) := by decide +kernel
theorem dX12_grantedOf_12 : decode cX12_grantedOf 12 = .ok (.if_icmp .ge 21, 3) := by decide +kernel
theorem dX12_grantedOf_15 : decode cX12_grantedOf 15 = .ok (.iload_n 2, 1) := by decide +kernel
theorem dX12_grantedOf_16 : decode cX12_grantedOf 16 = .ok (.aload_n 0, 1) := by decide +kernel
theorem dX12_grantedOf_17 : decode cX12_grantedOf 17 = .ok (.iload_n 1, 1) := by decide +kernel
theorem dX12_grantedOf_18 : decode cX12_grantedOf 18 = .ok (.bipush 11, 2) := by decide +kernel
theorem dX12_grantedOf_20 : decode cX12_grantedOf 20 = .ok (.iload_n 3, 1) := by decide +kernel
theorem dX12_grantedOf_21 : decode cX12_grantedOf 21 = .ok (.iadd, 1) := by decide +kernel
theorem dX12_grantedOf_22 : decode cX12_grantedOf 22 = .ok (.invokevirtual 131, 3) := by decide +kernel
theorem dX12_grantedOf_25 : decode cX12_grantedOf 25 = .ok (.iadd, 1) := by decide +kernel
theorem dX12_grantedOf_26 : decode cX12_grantedOf 26 = .ok (.istore_n 2, 1) := by decide +kernel
theorem dX12_grantedOf_27 : decode cX12_grantedOf 27 = .ok (.iinc 3 1, 3) := by decide +kernel
theorem dX12_grantedOf_30 : decode cX12_grantedOf 30 = .ok (.goto (-26), 3) := by decide +kernel
theorem dX12_grantedOf_33 : decode cX12_grantedOf 33 = .ok (.iload_n 2, 1) := by decide +kernel
theorem dX12_grantedOf_34 : decode cX12_grantedOf 34 = .ok (.ireturn, 1) := by decide +kernel
theorem dX12_grant_0 : decode cX12_grant 0 = .ok (.iload_n 1, 1) := by decide +kernel
theorem dX12_grant_1 : decode cX12_grant 1 = .ok (.invokestatic 128, 3) := by decide +kernel
theorem dX12_grant_4 : decode cX12_grant 4 = .ok (.istore_n 3, 1) := by decide +kernel
theorem dX12_grant_5 : decode cX12_grant 5 = .ok (.aload_n 0, 1) := by decide +kernel
theorem dX12_grant_6 : decode cX12_grant 6 = .ok (.getfield 9, 3) := by decide +kernel
theorem dX12_grant_9 : decode cX12_grant 9 = .ok (.iload_n 3, 1) := by decide +kernel
theorem dX12_grant_10 : decode cX12_grant 10 = .ok (.bipush 11, 2) := by decide +kernel
theorem dX12_grant_12 : decode cX12_grant 12 = .ok (.iadd, 1) := by decide +kernel
theorem dX12_grant_13 : decode cX12_grant 13 = .ok (.aload_n 0, 1) := by decide +kernel
theorem dX12_grant_14 : decode cX12_grant 14 = .ok (.getfield 9, 3) := by decide +kernel
theorem dX12_grant_17 : decode cX12_grant 17 = .ok (.iload_n 3, 1) := by decide +kernel
theorem dX12_grant_18 : decode cX12_grant 18 = .ok (.bipush 7, 2) := by decide +kernel
theorem dX12_grant_20 : decode cX12_grant 20 = .ok (.iadd, 1) := by decide +kernel
theorem dX12_grant_21 : decode cX12_grant 21 = .ok (.iaload, 1) := by decide +kernel
theorem dX12_grant_22 : decode cX12_grant 22 = .ok (.iadd, 1) := by decide +kernel
theorem dX12_grant_23 : decode cX12_grant 23 = .ok (.iload_n 2, 1) := by decide +kernel
theorem dX12_grant_24 : decode cX12_grant 24 = .ok (.iastore, 1) := by decide +kernel
theorem dX12_grant_25 : decode cX12_grant 25 = .ok (.aload_n 0, 1) := by decide +kernel
theorem dX12_grant_26 : decode cX12_grant 26 = .ok (.getfield 9, 3) := by decide +kernel
theorem dX12_grant_29 : decode cX12_grant 29 = .ok (.iload_n 3, 1) := by decide +kernel
theorem dX12_grant_30 : decode cX12_grant 30 = .ok (.bipush 7, 2) := by decide +kernel
theorem dX12_grant_32 : decode cX12_grant 32 = .ok (.iadd, 1) := by decide +kernel
theorem dX12_grant_33 : decode cX12_grant 33 = .ok (.dup2, 1) := by decide +kernel
theorem dX12_grant_34 : decode cX12_grant 34 = .ok (.iaload, 1) := by decide +kernel
theorem dX12_grant_35 : decode cX12_grant 35 = .ok (.iconst 1, 1) := by decide +kernel
theorem dX12_grant_36 : decode cX12_grant 36 = .ok (.iadd, 1) := by decide +kernel
theorem dX12_grant_37 : decode cX12_grant 37 = .ok (.iastore, 1) := by decide +kernel
theorem dX12_grant_38 : decode cX12_grant 38 = .ok (.aload_n 0, 1) := by decide +kernel
theorem dX12_grant_39 : decode cX12_grant 39 = .ok (.iload_n 1, 1) := by decide +kernel
theorem dX12_grant_40 : decode cX12_grant 40 = .ok (.invokevirtual 162, 3) := by decide +kernel
theorem dX12_grant_43 : decode cX12_grant 43 = .ok (.ireturn, 1) := by decide +kernel
theorem dX12_extendByConsent_0 : decode cX12_extendByConsent 0 = .ok (.aload_n 0, 1) := by decide +kernel
theorem dX12_extendByConsent_1 : decode cX12_extendByConsent 1 = .ok (.iconst 0, 1) := by decide +kernel
theorem dX12_extendByConsent_2 : decode cX12_extendByConsent 2 = .ok (.putfield 41, 3) := by decide +kernel
theorem dX12_extendByConsent_5 : decode cX12_extendByConsent 5 = .ok (.aload_n 0, 1) := by decide +kernel
theorem dX12_extendByConsent_6 : decode cX12_extendByConsent 6 = .ok (.aload_n 0, 1) := by decide +kernel
theorem dX12_extendByConsent_7 : decode cX12_extendByConsent 7 = .ok (.iload_n 1, 1) := by decide +kernel
theorem dX12_extendByConsent_8 : decode cX12_extendByConsent 8 = .ok (.invokevirtual 147, 3) := by decide +kernel
theorem dX12_extendByConsent_11 : decode cX12_extendByConsent 11 = .ok (.iconst 1, 1) := by decide +kernel
theorem dX12_extendByConsent_12 : decode cX12_extendByConsent 12 = .ok (.invokevirtual 55, 3) := by decide +kernel
theorem dX12_extendByConsent_15 : decode cX12_extendByConsent 15 = .ok (.ifCond .ne 93, 3) := by decide +kernel
theorem dX12_extendByConsent_18 : decode cX12_extendByConsent 18 = .ok (.aload_n 0, 1) := by decide +kernel
theorem dX12_extendByConsent_19 : decode cX12_extendByConsent 19 = .ok (.iload_n 2, 1) := by decide +kernel
theorem dX12_extendByConsent_20 : decode cX12_extendByConsent 20 = .ok (.iconst 1, 1) := by decide +kernel
theorem dX12_extendByConsent_21 : decode cX12_extendByConsent 21 = .ok (.bipush 28, 2) := by decide +kernel
theorem dX12_extendByConsent_23 : decode cX12_extendByConsent 23 = .ok (.invokestatic 64, 3) := by decide +kernel
theorem dX12_extendByConsent_26 : decode cX12_extendByConsent 26 = .ok (.ifCond .ne 7, 3) := by decide +kernel
theorem dX12_extendByConsent_29 : decode cX12_extendByConsent 29 = .ok (.iconst 1, 1) := by decide +kernel
theorem dX12_extendByConsent_30 : decode cX12_extendByConsent 30 = .ok (.goto 4, 3) := by decide +kernel
theorem dX12_extendByConsent_33 : decode cX12_extendByConsent 33 = .ok (.iconst 0, 1) := by decide +kernel
theorem dX12_extendByConsent_34 : decode cX12_extendByConsent 34 = .ok (.iconst 2, 1) := by decide +kernel
theorem dX12_extendByConsent_35 : decode cX12_extendByConsent 35 = .ok (.invokevirtual 55, 3) := by decide +kernel
theorem dX12_extendByConsent_38 : decode cX12_extendByConsent 38 = .ok (.ifCond .ne 70, 3) := by decide +kernel
theorem dX12_extendByConsent_41 : decode cX12_extendByConsent 41 = .ok (.aload_n 0, 1) := by decide +kernel
theorem dX12_extendByConsent_42 : decode cX12_extendByConsent 42 = .ok (.aload_n 0, 1) := by decide +kernel
theorem dX12_extendByConsent_43 : decode cX12_extendByConsent 43 = .ok (.iload_n 1, 1) := by decide +kernel
theorem dX12_extendByConsent_44 : decode cX12_extendByConsent 44 = .ok (.invokevirtual 165, 3) := by decide +kernel
theorem dX12_extendByConsent_47 : decode cX12_extendByConsent 47 = .ok (.ifCond .eq 22, 3) := by decide +kernel
theorem dX12_extendByConsent_50 : decode cX12_extendByConsent 50 = .ok (.aload_n 0, 1) := by decide +kernel
theorem dX12_extendByConsent_51 : decode cX12_extendByConsent 51 = .ok (.iload_n 1, 1) := by decide +kernel
theorem dX12_extendByConsent_52 : decode cX12_extendByConsent 52 = .ok (.invokevirtual 168, 3) := by decide +kernel
theorem dX12_extendByConsent_55 : decode cX12_extendByConsent 55 = .ok (.ifCond .ne 14, 3) := by decide +kernel
theorem dX12_extendByConsent_58 : decode cX12_extendByConsent 58 = .ok (.aload_n 0, 1) := by decide +kernel
theorem dX12_extendByConsent_59 : decode cX12_extendByConsent 59 = .ok (.iload_n 1, 1) := by decide +kernel
theorem dX12_extendByConsent_60 : decode cX12_extendByConsent 60 = .ok (.bipush 8, 2) := by decide +kernel
theorem dX12_extendByConsent_62 : decode cX12_extendByConsent 62 = .ok (.invokevirtual 131, 3) := by decide +kernel
theorem dX12_extendByConsent_65 : decode cX12_extendByConsent 65 = .ok (.iconst 2, 1) := by decide +kernel
theorem dX12_extendByConsent_66 : decode cX12_extendByConsent 66 = .ok (.if_icmp .ne 7, 3) := by decide +kernel
theorem dX12_extendByConsent_69 : decode cX12_extendByConsent 69 = .ok (.iconst 1, 1) := by decide +kernel
theorem dX12_extendByConsent_70 : decode cX12_extendByConsent 70 = .ok (.goto 4, 3) := by decide +kernel
theorem dX12_extendByConsent_73 : decode cX12_extendByConsent 73 = .ok (.iconst 0, 1) := by decide +kernel
theorem dX12_extendByConsent_74 : decode cX12_extendByConsent 74 = .ok (.iconst 3, 1) := by decide +kernel
theorem dX12_extendByConsent_75 : decode cX12_extendByConsent 75 = .ok (.invokevirtual 55, 3) := by decide +kernel
theorem dX12_extendByConsent_78 : decode cX12_extendByConsent 78 = .ok (.ifCond .ne 30, 3) := by decide +kernel
theorem dX12_extendByConsent_81 : decode cX12_extendByConsent 81 = .ok (.aload_n 0, 1) := by decide +kernel
theorem dX12_extendByConsent_82 : decode cX12_extendByConsent 82 = .ok (.aload_n 0, 1) := by decide +kernel
theorem dX12_extendByConsent_83 : decode cX12_extendByConsent 83 = .ok (.iload_n 1, 1) := by decide +kernel
theorem dX12_extendByConsent_84 : decode cX12_extendByConsent 84 = .ok (.bipush 10, 2) := by decide +kernel
theorem dX12_extendByConsent_86 : decode cX12_extendByConsent 86 = .ok (.invokevirtual 131, 3) := by decide +kernel
theorem dX12_extendByConsent_89 : decode cX12_extendByConsent 89 = .ok (.iload_n 2, 1) := by decide +kernel
theorem dX12_extendByConsent_90 : decode cX12_extendByConsent 90 = .ok (.iadd, 1) := by decide +kernel
theorem dX12_extendByConsent_91 : decode cX12_extendByConsent 91 = .ok (.bipush 28, 2) := by decide +kernel
theorem dX12_extendByConsent_93 : decode cX12_extendByConsent 93 = .ok (.if_icmp .le 7, 3) := by decide +kernel
theorem dX12_extendByConsent_96 : decode cX12_extendByConsent 96 = .ok (.iconst 1, 1) := by decide +kernel
theorem dX12_extendByConsent_97 : decode cX12_extendByConsent 97 = .ok (.goto 4, 3) := by decide +kernel
theorem dX12_extendByConsent_100 : decode cX12_extendByConsent 100 = .ok (.iconst 0, 1) := by decide +kernel
theorem dX12_extendByConsent_101 : decode cX12_extendByConsent 101 = .ok (.iconst 4, 1) := by decide +kernel
theorem dX12_extendByConsent_102 : decode cX12_extendByConsent 102 = .ok (.invokevirtual 55, 3) := by decide +kernel
theorem dX12_extendByConsent_105 : decode cX12_extendByConsent 105 = .ok (.ifCond .eq 5, 3) := by decide +kernel
theorem dX12_extendByConsent_108 : decode cX12_extendByConsent 108 = .ok (.iconst 0, 1) := by decide +kernel
theorem dX12_extendByConsent_109 : decode cX12_extendByConsent 109 = .ok (.ireturn, 1) := by decide +kernel
theorem dX12_extendByConsent_110 : decode cX12_extendByConsent 110 = .ok (.aload_n 0, 1) := by decide +kernel
theorem dX12_extendByConsent_111 : decode cX12_extendByConsent 111 = .ok (.invokevirtual 93, 3) := by decide +kernel
theorem dX12_extendByConsent_114 : decode cX12_extendByConsent 114 = .ok (.aload_n 0, 1) := by decide +kernel
theorem dX12_extendByConsent_115 : decode cX12_extendByConsent 115 = .ok (.getfield 9, 3) := by decide +kernel
theorem dX12_extendByConsent_118 : decode cX12_extendByConsent 118 = .ok (.iload_n 1, 1) := by decide +kernel
theorem dX12_extendByConsent_119 : decode cX12_extendByConsent 119 = .ok (.invokestatic 128, 3) := by decide +kernel
theorem dX12_extendByConsent_122 : decode cX12_extendByConsent 122 = .ok (.bipush 8, 2) := by decide +kernel
theorem dX12_extendByConsent_124 : decode cX12_extendByConsent 124 = .ok (.iadd, 1) := by decide +kernel
theorem dX12_extendByConsent_125 : decode cX12_extendByConsent 125 = .ok (.dup2, 1) := by decide +kernel
theorem dX12_extendByConsent_126 : decode cX12_extendByConsent 126 = .ok (.iaload, 1) := by decide +kernel
theorem dX12_extendByConsent_127 : decode cX12_extendByConsent 127 = .ok (.iconst 1, 1) := by decide +kernel
theorem dX12_extendByConsent_128 : decode cX12_extendByConsent 128 = .ok (.iadd, 1) := by decide +kernel
theorem dX12_extendByConsent_129 : decode cX12_extendByConsent 129 = .ok (.iastore, 1) := by decide +kernel
theorem dX12_extendByConsent_130 : decode cX12_extendByConsent 130 = .ok (.aload_n 0, 1) := by decide +kernel
theorem dX12_extendByConsent_131 : decode cX12_extendByConsent 131 = .ok (.getfield 9, 3) := by decide +kernel
theorem dX12_extendByConsent_134 : decode cX12_extendByConsent 134 = .ok (.iload_n 1, 1) := by decide +kernel
theorem dX12_extendByConsent_135 : decode cX12_extendByConsent 135 = .ok (.invokestatic 128, 3) := by decide +kernel
theorem dX12_extendByConsent_138 : decode cX12_extendByConsent 138 = .ok (.bipush 10, 2) := by decide +kernel
theorem dX12_extendByConsent_140 : decode cX12_extendByConsent 140 = .ok (.iadd, 1) := by decide +kernel
theorem dX12_extendByConsent_141 : decode cX12_extendByConsent 141 = .ok (.dup2, 1) := by decide +kernel
theorem dX12_extendByConsent_142 : decode cX12_extendByConsent 142 = .ok (.iaload, 1) := by decide +kernel
theorem dX12_extendByConsent_143 : decode cX12_extendByConsent 143 = .ok (.iload_n 2, 1) := by decide +kernel
theorem dX12_extendByConsent_144 : decode cX12_extendByConsent 144 = .ok (.iadd, 1) := by decide +kernel
theorem dX12_extendByConsent_145 : decode cX12_extendByConsent 145 = .ok (.iastore, 1) := by decide +kernel
theorem dX12_extendByConsent_146 : decode cX12_extendByConsent 146 = .ok (.aload_n 0, 1) := by decide +kernel
theorem dX12_extendByConsent_147 : decode cX12_extendByConsent 147 = .ok (.iload_n 1, 1) := by decide +kernel
theorem dX12_extendByConsent_148 : decode cX12_extendByConsent 148 = .ok (.iload_n 2, 1) := by decide +kernel
theorem dX12_extendByConsent_149 : decode cX12_extendByConsent 149 = .ok (.invokevirtual 171, 3) := by decide +kernel
theorem dX12_extendByConsent_152 : decode cX12_extendByConsent 152 = .ok (.ireturn, 1) := by decide +kernel
theorem dX12_extendByOrder_0 : decode cX12_extendByOrder 0 = .ok (.aload_n 0, 1) := by decide +kernel
theorem dX12_extendByOrder_1 : decode cX12_extendByOrder 1 = .ok (.iconst 0, 1) := by decide +kernel
theorem dX12_extendByOrder_2 : decode cX12_extendByOrder 2 = .ok (.putfield 41, 3) := by decide +kernel
theorem dX12_extendByOrder_5 : decode cX12_extendByOrder 5 = .ok (.aload_n 0, 1) := by decide +kernel
theorem dX12_extendByOrder_6 : decode cX12_extendByOrder 6 = .ok (.aload_n 0, 1) := by decide +kernel
theorem dX12_extendByOrder_7 : decode cX12_extendByOrder 7 = .ok (.iload_n 1, 1) := by decide +kernel
theorem dX12_extendByOrder_8 : decode cX12_extendByOrder 8 = .ok (.invokevirtual 147, 3) := by decide +kernel
theorem dX12_extendByOrder_11 : decode cX12_extendByOrder 11 = .ok (.iconst 1, 1) := by decide +kernel
theorem dX12_extendByOrder_12 : decode cX12_extendByOrder 12 = .ok (.invokevirtual 55, 3) := by decide +kernel
theorem dX12_extendByOrder_15 : decode cX12_extendByOrder 15 = .ok (.ifCond .ne 58, 3) := by decide +kernel
theorem dX12_extendByOrder_18 : decode cX12_extendByOrder 18 = .ok (.aload_n 0, 1) := by decide +kernel
theorem dX12_extendByOrder_19 : decode cX12_extendByOrder 19 = .ok (.iload_n 2, 1) := by decide +kernel
theorem dX12_extendByOrder_20 : decode cX12_extendByOrder 20 = .ok (.iconst 1, 1) := by decide +kernel
theorem dX12_extendByOrder_21 : decode cX12_extendByOrder 21 = .ok (.bipush 100, 2) := by decide +kernel
theorem dX12_extendByOrder_23 : decode cX12_extendByOrder 23 = .ok (.invokestatic 64, 3) := by decide +kernel
theorem dX12_extendByOrder_26 : decode cX12_extendByOrder 26 = .ok (.ifCond .ne 7, 3) := by decide +kernel
theorem dX12_extendByOrder_29 : decode cX12_extendByOrder 29 = .ok (.iconst 1, 1) := by decide +kernel
theorem dX12_extendByOrder_30 : decode cX12_extendByOrder 30 = .ok (.goto 4, 3) := by decide +kernel
theorem dX12_extendByOrder_33 : decode cX12_extendByOrder 33 = .ok (.iconst 0, 1) := by decide +kernel
theorem dX12_extendByOrder_34 : decode cX12_extendByOrder 34 = .ok (.iconst 2, 1) := by decide +kernel
theorem dX12_extendByOrder_35 : decode cX12_extendByOrder 35 = .ok (.invokevirtual 55, 3) := by decide +kernel
theorem dX12_extendByOrder_38 : decode cX12_extendByOrder 38 = .ok (.ifCond .ne 35, 3) := by decide +kernel
theorem dX12_extendByOrder_41 : decode cX12_extendByOrder 41 = .ok (.aload_n 0, 1) := by decide +kernel
theorem dX12_extendByOrder_42 : decode cX12_extendByOrder 42 = .ok (.aload_n 0, 1) := by decide +kernel
theorem dX12_extendByOrder_43 : decode cX12_extendByOrder 43 = .ok (.iload_n 1, 1) := by decide +kernel
theorem dX12_extendByOrder_44 : decode cX12_extendByOrder 44 = .ok (.invokevirtual 165, 3) := by decide +kernel
theorem dX12_extendByOrder_47 : decode cX12_extendByOrder 47 = .ok (.ifCond .eq 14, 3) := by decide +kernel
theorem dX12_extendByOrder_50 : decode cX12_extendByOrder 50 = .ok (.aload_n 0, 1) := by decide +kernel
theorem dX12_extendByOrder_51 : decode cX12_extendByOrder 51 = .ok (.iload_n 1, 1) := by decide +kernel
theorem dX12_extendByOrder_52 : decode cX12_extendByOrder 52 = .ok (.bipush 9, 2) := by decide +kernel
theorem dX12_extendByOrder_54 : decode cX12_extendByOrder 54 = .ok (.invokevirtual 131, 3) := by decide +kernel
theorem dX12_extendByOrder_57 : decode cX12_extendByOrder 57 = .ok (.iconst 3, 1) := by decide +kernel
theorem dX12_extendByOrder_58 : decode cX12_extendByOrder 58 = .ok (.if_icmp .ne 7, 3) := by decide +kernel
theorem dX12_extendByOrder_61 : decode cX12_extendByOrder 61 = .ok (.iconst 1, 1) := by decide +kernel
theorem dX12_extendByOrder_62 : decode cX12_extendByOrder 62 = .ok (.goto 4, 3) := by decide +kernel
theorem dX12_extendByOrder_65 : decode cX12_extendByOrder 65 = .ok (.iconst 0, 1) := by decide +kernel
theorem dX12_extendByOrder_66 : decode cX12_extendByOrder 66 = .ok (.iconst 3, 1) := by decide +kernel
theorem dX12_extendByOrder_67 : decode cX12_extendByOrder 67 = .ok (.invokevirtual 55, 3) := by decide +kernel
theorem dX12_extendByOrder_70 : decode cX12_extendByOrder 70 = .ok (.ifCond .eq 5, 3) := by decide +kernel
theorem dX12_extendByOrder_73 : decode cX12_extendByOrder 73 = .ok (.iconst 0, 1) := by decide +kernel
theorem dX12_extendByOrder_74 : decode cX12_extendByOrder 74 = .ok (.ireturn, 1) := by decide +kernel
theorem dX12_extendByOrder_75 : decode cX12_extendByOrder 75 = .ok (.aload_n 0, 1) := by decide +kernel
theorem dX12_extendByOrder_76 : decode cX12_extendByOrder 76 = .ok (.invokevirtual 93, 3) := by decide +kernel
theorem dX12_extendByOrder_79 : decode cX12_extendByOrder 79 = .ok (.aload_n 0, 1) := by decide +kernel
theorem dX12_extendByOrder_80 : decode cX12_extendByOrder 80 = .ok (.getfield 9, 3) := by decide +kernel
theorem dX12_extendByOrder_83 : decode cX12_extendByOrder 83 = .ok (.iload_n 1, 1) := by decide +kernel
theorem dX12_extendByOrder_84 : decode cX12_extendByOrder 84 = .ok (.invokestatic 128, 3) := by decide +kernel
theorem dX12_extendByOrder_87 : decode cX12_extendByOrder 87 = .ok (.bipush 9, 2) := by decide +kernel
theorem dX12_extendByOrder_89 : decode cX12_extendByOrder 89 = .ok (.iadd, 1) := by decide +kernel
theorem dX12_extendByOrder_90 : decode cX12_extendByOrder 90 = .ok (.dup2, 1) := by decide +kernel
theorem dX12_extendByOrder_91 : decode cX12_extendByOrder 91 = .ok (.iaload, 1) := by decide +kernel
theorem dX12_extendByOrder_92 : decode cX12_extendByOrder 92 = .ok (.iconst 1, 1) := by decide +kernel
theorem dX12_extendByOrder_93 : decode cX12_extendByOrder 93 = .ok (.iadd, 1) := by decide +kernel
theorem dX12_extendByOrder_94 : decode cX12_extendByOrder 94 = .ok (.iastore, 1) := by decide +kernel
theorem dX12_extendByOrder_95 : decode cX12_extendByOrder 95 = .ok (.aload_n 0, 1) := by decide +kernel
theorem dX12_extendByOrder_96 : decode cX12_extendByOrder 96 = .ok (.iload_n 1, 1) := by decide +kernel
theorem dX12_extendByOrder_97 : decode cX12_extendByOrder 97 = .ok (.iload_n 2, 1) := by decide +kernel
theorem dX12_extendByOrder_98 : decode cX12_extendByOrder 98 = .ok (.invokevirtual 171, 3) := by decide +kernel
theorem dX12_extendByOrder_101 : decode cX12_extendByOrder 101 = .ok (.ireturn, 1) := by decide +kernel
theorem dX12_extensionDays_0 : decode cX12_extensionDays 0 = .ok (.aload_n 0, 1) := by decide +kernel
theorem dX12_extensionDays_1 : decode cX12_extensionDays 1 = .ok (.iconst 0, 1) := by decide +kernel
theorem dX12_extensionDays_2 : decode cX12_extensionDays 2 = .ok (.putfield 41, 3) := by decide +kernel
theorem dX12_extensionDays_5 : decode cX12_extensionDays 5 = .ok (.aload_n 0, 1) := by decide +kernel
theorem dX12_extensionDays_6 : decode cX12_extensionDays 6 = .ok (.aload_n 0, 1) := by decide +kernel
theorem dX12_extensionDays_7 : decode cX12_extensionDays 7 = .ok (.iload_n 1, 1) := by decide +kernel
theorem dX12_extensionDays_8 : decode cX12_extensionDays 8 = .ok (.invokevirtual 147, 3) := by decide +kernel
theorem dX12_extensionDays_11 : decode cX12_extensionDays 11 = .ok (.iconst 1, 1) := by decide +kernel
theorem dX12_extensionDays_12 : decode cX12_extensionDays 12 = .ok (.invokevirtual 55, 3) := by decide +kernel
theorem dX12_extensionDays_15 : decode cX12_extensionDays 15 = .ok (.ifCond .eq 7, 3) := by decide +kernel
theorem dX12_extensionDays_18 : decode cX12_extensionDays 18 = .ok (.iconst 0, 1) := by decide +kernel
theorem dX12_extensionDays_19 : decode cX12_extensionDays 19 = .ok (.goto 8, 3) := by decide +kernel
theorem dX12_extensionDays_22 : decode cX12_extensionDays 22 = .ok (.aload_n 0, 1) := by decide +kernel
theorem dX12_extensionDays_23 : decode cX12_extensionDays 23 = .ok (.iload_n 1, 1) := by decide +kernel
theorem dX12_extensionDays_24 : decode cX12_extensionDays 24 = .ok (.invokevirtual 162, 3) := by decide +kernel
theorem dX12_extensionDays_27 : decode cX12_extensionDays 27 = .ok (.ireturn, 1) := by decide +kernel
theorem dX12_file_0 : decode cX12_file 0 = .ok (.aload_n 0, 1) := by decide +kernel
theorem dX12_file_1 : decode cX12_file 1 = .ok (.iconst 0, 1) := by decide +kernel
theorem dX12_file_2 : decode cX12_file 2 = .ok (.putfield 41, 3) := by decide +kernel
theorem dX12_file_5 : decode cX12_file 5 = .ok (.aload_n 0, 1) := by decide +kernel
theorem dX12_file_6 : decode cX12_file 6 = .ok (.aload_n 0, 1) := by decide +kernel
theorem dX12_file_7 : decode cX12_file 7 = .ok (.iload_n 1, 1) := by decide +kernel
theorem dX12_file_8 : decode cX12_file 8 = .ok (.invokevirtual 147, 3) := by decide +kernel
theorem dX12_file_11 : decode cX12_file 11 = .ok (.iconst 1, 1) := by decide +kernel
theorem dX12_file_12 : decode cX12_file 12 = .ok (.invokevirtual 55, 3) := by decide +kernel
theorem dX12_file_15 : decode cX12_file 15 = .ok (.ifCond .ne 24, 3) := by decide +kernel
theorem dX12_file_18 : decode cX12_file 18 = .ok (.aload_n 0, 1) := by decide +kernel
theorem dX12_file_19 : decode cX12_file 19 = .ok (.aload_n 0, 1) := by decide +kernel
theorem dX12_file_20 : decode cX12_file 20 = .ok (.iload_n 1, 1) := by decide +kernel
theorem dX12_file_21 : decode cX12_file 21 = .ok (.invokevirtual 165, 3) := by decide +kernel
theorem dX12_file_24 : decode cX12_file 24 = .ok (.ifCond .ne 7, 3) := by decide +kernel
theorem dX12_file_27 : decode cX12_file 27 = .ok (.iconst 1, 1) := by decide +kernel
theorem dX12_file_28 : decode cX12_file 28 = .ok (.goto 4, 3) := by decide +kernel
theorem dX12_file_31 : decode cX12_file 31 = .ok (.iconst 0, 1) := by decide +kernel
theorem dX12_file_32 : decode cX12_file 32 = .ok (.iconst 2, 1) := by decide +kernel
theorem dX12_file_33 : decode cX12_file 33 = .ok (.invokevirtual 55, 3) := by decide +kernel
theorem dX12_file_36 : decode cX12_file 36 = .ok (.ifCond .eq 5, 3) := by decide +kernel
theorem dX12_file_39 : decode cX12_file 39 = .ok (.iconst 0, 1) := by decide +kernel
theorem dX12_file_40 : decode cX12_file 40 = .ok (.ireturn, 1) := by decide +kernel
theorem dX12_file_41 : decode cX12_file 41 = .ok (.aload_n 0, 1) := by decide +kernel
theorem dX12_file_42 : decode cX12_file 42 = .ok (.iload_n 1, 1) := by decide +kernel
theorem dX12_file_43 : decode cX12_file 43 = .ok (.invokevirtual 168, 3) := by decide +kernel
theorem dX12_file_46 : decode cX12_file 46 = .ok (.ifCond .ne 7, 3) := by decide +kernel
theorem dX12_file_49 : decode cX12_file 49 = .ok (.iconst 1, 1) := by decide +kernel
theorem dX12_file_50 : decode cX12_file 50 = .ok (.goto 4, 3) := by decide +kernel
theorem dX12_file_53 : decode cX12_file 53 = .ok (.iconst 0, 1) := by decide +kernel
theorem dX12_file_54 : decode cX12_file 54 = .ok (.istore_n 2, 1) := by decide +kernel
theorem dX12_file_55 : decode cX12_file 55 = .ok (.aload_n 0, 1) := by decide +kernel
theorem dX12_file_56 : decode cX12_file 56 = .ok (.invokevirtual 93, 3) := by decide +kernel
theorem dX12_file_59 : decode cX12_file 59 = .ok (.aload_n 0, 1) := by decide +kernel
theorem dX12_file_60 : decode cX12_file 60 = .ok (.getfield 9, 3) := by decide +kernel
theorem dX12_file_63 : decode cX12_file 63 = .ok (.iload_n 1, 1) := by decide +kernel
theorem dX12_file_64 : decode cX12_file 64 = .ok (.invokestatic 128, 3) := by decide +kernel
theorem dX12_file_67 : decode cX12_file 67 = .ok (.bipush 6, 2) := by decide +kernel
theorem dX12_file_69 : decode cX12_file 69 = .ok (.iadd, 1) := by decide +kernel
theorem dX12_file_70 : decode cX12_file 70 = .ok (.iload_n 2, 1) := by decide +kernel
theorem dX12_file_71 : decode cX12_file 71 = .ok (.ifCond .eq 8, 3) := by decide +kernel
theorem dX12_file_74 : decode cX12_file 74 = .ok (.bipush 116, 2) := by decide +kernel
theorem dX12_file_76 : decode cX12_file 76 = .ok (.goto 5, 3) := by decide +kernel
theorem dX12_file_79 : decode cX12_file 79 = .ok (.bipush 108, 2) := by decide +kernel
theorem dX12_file_81 : decode cX12_file 81 = .ok (.iastore, 1) := by decide +kernel
theorem dX12_file_82 : decode cX12_file 82 = .ok (.iload_n 2, 1) := by decide +kernel
theorem dX12_file_83 : decode cX12_file 83 = .ok (.ireturn, 1) := by decide +kernel
theorem dX12_strike_0 : decode cX12_strike 0 = .ok (.aload_n 0, 1) := by decide +kernel
theorem dX12_strike_1 : decode cX12_strike 1 = .ok (.iconst 0, 1) := by decide +kernel
theorem dX12_strike_2 : decode cX12_strike 2 = .ok (.putfield 41, 3) := by decide +kernel
theorem dX12_strike_5 : decode cX12_strike 5 = .ok (.aload_n 0, 1) := by decide +kernel
theorem dX12_strike_6 : decode cX12_strike 6 = .ok (.aload_n 0, 1) := by decide +kernel
theorem dX12_strike_7 : decode cX12_strike 7 = .ok (.iload_n 1, 1) := by decide +kernel
theorem dX12_strike_8 : decode cX12_strike 8 = .ok (.invokevirtual 147, 3) := by decide +kernel
theorem dX12_strike_11 : decode cX12_strike 11 = .ok (.iconst 1, 1) := by decide +kernel
theorem dX12_strike_12 : decode cX12_strike 12 = .ok (.invokevirtual 55, 3) := by decide +kernel
theorem dX12_strike_15 : decode cX12_strike 15 = .ok (.ifCond .ne 24, 3) := by decide +kernel
theorem dX12_strike_18 : decode cX12_strike 18 = .ok (.aload_n 0, 1) := by decide +kernel
theorem dX12_strike_19 : decode cX12_strike 19 = .ok (.aload_n 0, 1) := by decide +kernel
theorem dX12_strike_20 : decode cX12_strike 20 = .ok (.iload_n 1, 1) := by decide +kernel
theorem dX12_strike_21 : decode cX12_strike 21 = .ok (.invokevirtual 165, 3) := by decide +kernel
theorem dX12_strike_24 : decode cX12_strike 24 = .ok (.ifCond .ne 7, 3) := by decide +kernel
theorem dX12_strike_27 : decode cX12_strike 27 = .ok (.iconst 1, 1) := by decide +kernel
theorem dX12_strike_28 : decode cX12_strike 28 = .ok (.goto 4, 3) := by decide +kernel
theorem dX12_strike_31 : decode cX12_strike 31 = .ok (.iconst 0, 1) := by decide +kernel
theorem dX12_strike_32 : decode cX12_strike 32 = .ok (.iconst 2, 1) := by decide +kernel
theorem dX12_strike_33 : decode cX12_strike 33 = .ok (.invokevirtual 55, 3) := by decide +kernel
theorem dX12_strike_36 : decode cX12_strike 36 = .ok (.ifCond .eq 5, 3) := by decide +kernel
theorem dX12_strike_39 : decode cX12_strike 39 = .ok (.iconst 0, 1) := by decide +kernel
theorem dX12_strike_40 : decode cX12_strike 40 = .ok (.ireturn, 1) := by decide +kernel
theorem dX12_strike_41 : decode cX12_strike 41 = .ok (.aload_n 0, 1) := by decide +kernel
theorem dX12_strike_42 : decode cX12_strike 42 = .ok (.invokevirtual 93, 3) := by decide +kernel
theorem dX12_strike_45 : decode cX12_strike 45 = .ok (.aload_n 0, 1) := by decide +kernel
theorem dX12_strike_46 : decode cX12_strike 46 = .ok (.getfield 9, 3) := by decide +kernel
theorem dX12_strike_49 : decode cX12_strike 49 = .ok (.iload_n 1, 1) := by decide +kernel
theorem dX12_strike_50 : decode cX12_strike 50 = .ok (.invokestatic 128, 3) := by decide +kernel
theorem dX12_strike_53 : decode cX12_strike 53 = .ok (.bipush 6, 2) := by decide +kernel
theorem dX12_strike_55 : decode cX12_strike 55 = .ok (.iadd, 1) := by decide +kernel
theorem dX12_strike_56 : decode cX12_strike 56 = .ok (.bipush 115, 2) := by decide +kernel
theorem dX12_strike_58 : decode cX12_strike 58 = .ok (.iastore, 1) := by decide +kernel
theorem dX12_strike_59 : decode cX12_strike 59 = .ok (.iconst 0, 1) := by decide +kernel
theorem dX12_strike_60 : decode cX12_strike 60 = .ok (.istore_n 2, 1) := by decide +kernel
theorem dX12_strike_61 : decode cX12_strike 61 = .ok (.iconst 0, 1) := by decide +kernel
theorem dX12_strike_62 : decode cX12_strike 62 = .ok (.istore_n 3, 1) := by decide +kernel
theorem dX12_strike_63 : decode cX12_strike 63 = .ok (.iload_n 3, 1) := by decide +kernel
theorem dX12_strike_64 : decode cX12_strike 64 = .ok (.aload_n 0, 1) := by decide +kernel
theorem dX12_strike_65 : decode cX12_strike 65 = .ok (.getfield 9, 3) := by decide +kernel
theorem dX12_strike_68 : decode cX12_strike 68 = .ok (.iconst 3, 1) := by decide +kernel
theorem dX12_strike_69 : decode cX12_strike 69 = .ok (.iaload, 1) := by decide +kernel
theorem dX12_strike_70 : decode cX12_strike 70 = .ok (.if_icmp .ge 25, 3) := by decide +kernel
theorem dX12_strike_73 : decode cX12_strike 73 = .ok (.iload_n 2, 1) := by decide +kernel
theorem dX12_strike_74 : decode cX12_strike 74 = .ok (.aload_n 0, 1) := by decide +kernel
theorem dX12_strike_75 : decode cX12_strike 75 = .ok (.iload_n 3, 1) := by decide +kernel
theorem dX12_strike_76 : decode cX12_strike 76 = .ok (.invokevirtual 165, 3) := by decide +kernel
theorem dX12_strike_79 : decode cX12_strike 79 = .ok (.ifCond .eq 7, 3) := by decide +kernel
theorem dX12_strike_82 : decode cX12_strike 82 = .ok (.iconst 1, 1) := by decide +kernel
theorem dX12_strike_83 : decode cX12_strike 83 = .ok (.goto 4, 3) := by decide +kernel
theorem dX12_strike_86 : decode cX12_strike 86 = .ok (.iconst 0, 1) := by decide +kernel
theorem dX12_strike_87 : decode cX12_strike 87 = .ok (.iadd, 1) := by decide +kernel
theorem dX12_strike_88 : decode cX12_strike 88 = .ok (.istore_n 2, 1) := by decide +kernel
theorem dX12_strike_89 : decode cX12_strike 89 = .ok (.iinc 3 1, 3) := by decide +kernel
theorem dX12_strike_92 : decode cX12_strike 92 = .ok (.goto (-29), 3) := by decide +kernel
theorem dX12_strike_95 : decode cX12_strike 95 = .ok (.iload_n 2, 1) := by decide +kernel
theorem dX12_strike_96 : decode cX12_strike 96 = .ok (.ireturn, 1) := by decide +kernel
theorem dX12_status_0 : decode cX12_status 0 = .ok (.aload_n 0, 1) := by decide +kernel
theorem dX12_status_1 : decode cX12_status 1 = .ok (.iconst 0, 1) := by decide +kernel
theorem dX12_status_2 : decode cX12_status 2 = .ok (.putfield 41, 3) := by decide +kernel
theorem dX12_status_5 : decode cX12_status 5 = .ok (.aload_n 0, 1) := by decide +kernel
theorem dX12_status_6 : decode cX12_status 6 = .ok (.aload_n 0, 1) := by decide +kernel
theorem dX12_status_7 : decode cX12_status 7 = .ok (.iload_n 1, 1) := by decide +kernel
theorem dX12_status_8 : decode cX12_status 8 = .ok (.invokevirtual 147, 3) := by decide +kernel
theorem dX12_status_11 : decode cX12_status 11 = .ok (.iconst 1, 1) := by decide +kernel
theorem dX12_status_12 : decode cX12_status 12 = .ok (.invokevirtual 55, 3) := by decide +kernel
theorem dX12_status_15 : decode cX12_status 15 = .ok (.ifCond .eq 7, 3) := by decide +kernel
theorem dX12_status_18 : decode cX12_status 18 = .ok (.iconst 0, 1) := by decide +kernel
theorem dX12_status_19 : decode cX12_status 19 = .ok (.goto 11, 3) := by decide +kernel
theorem dX12_status_22 : decode cX12_status 22 = .ok (.aload_n 0, 1) := by decide +kernel
theorem dX12_status_23 : decode cX12_status 23 = .ok (.iload_n 1, 1) := by decide +kernel
theorem dX12_status_24 : decode cX12_status 24 = .ok (.bipush 6, 2) := by decide +kernel
theorem dX12_status_26 : decode cX12_status 26 = .ok (.invokevirtual 131, 3) := by decide +kernel
theorem dX12_status_29 : decode cX12_status 29 = .ok (.i2c, 1) := by decide +kernel
theorem dX12_status_30 : decode cX12_status 30 = .ok (.ireturn, 1) := by decide +kernel
theorem dX12_findDues_0 : decode cX12_findDues 0 = .ok (.iconst 0, 1) := by decide +kernel
theorem dX12_findDues_1 : decode cX12_findDues 1 = .ok (.istore_n 1, 1) := by decide +kernel
theorem dX12_findDues_2 : decode cX12_findDues 2 = .ok (.iload_n 1, 1) := by decide +kernel
theorem dX12_findDues_3 : decode cX12_findDues 3 = .ok (.aload_n 0, 1) := by decide +kernel
theorem dX12_findDues_4 : decode cX12_findDues 4 = .ok (.getfield 9, 3) := by decide +kernel
theorem dX12_findDues_7 : decode cX12_findDues 7 = .ok (.iconst 3, 1) := by decide +kernel
theorem dX12_findDues_8 : decode cX12_findDues 8 = .ok (.iaload, 1) := by decide +kernel
theorem dX12_findDues_9 : decode cX12_findDues 9 = .ok (.if_icmp .ge 45, 3) := by decide +kernel
theorem dX12_findDues_12 : decode cX12_findDues 12 = .ok (.aload_n 0, 1) := by decide +kernel
theorem dX12_findDues_13 : decode cX12_findDues 13 = .ok (.iload_n 1, 1) := by decide +kernel
theorem dX12_findDues_14 : decode cX12_findDues 14 = .ok (.invokevirtual 165, 3) := by decide +kernel
theorem dX12_findDues_17 : decode cX12_findDues 17 = .ok (.ifCond .eq 11, 3) := by decide +kernel
theorem dX12_findDues_20 : decode cX12_findDues 20 = .ok (.aload_n 0, 1) := by decide +kernel
theorem dX12_findDues_21 : decode cX12_findDues 21 = .ok (.iload_n 1, 1) := by decide +kernel
theorem dX12_findDues_22 : decode cX12_findDues 22 = .ok (.invokevirtual 150, 3) := by decide +kernel
theorem dX12_findDues_25 : decode cX12_findDues 25 = .ok (.goto 4, 3) := by decide +kernel
theorem dX12_findDues_28 : decode cX12_findDues 28 = .ok (.iconst (-1), 1) := by decide +kernel
theorem dX12_findDues_29 : decode cX12_findDues 29 = .ok (.istore_n 2, 1) := by decide +kernel
theorem dX12_findDues_30 : decode cX12_findDues 30 = .ok (.aload_n 0, 1) := by decide +kernel
theorem dX12_findDues_31 : decode cX12_findDues 31 = .ok (.getfield 38, 3) := by decide +kernel
theorem dX12_findDues_34 : decode cX12_findDues 34 = .ok (.iload_n 1, 1) := by decide +kernel
theorem dX12_findDues_35 : decode cX12_findDues 35 = .ok (.iload_n 2, 1) := by decide +kernel
theorem dX12_findDues_36 : decode cX12_findDues 36 = .ok (.iconst (-1), 1) := by decide +kernel
theorem dX12_findDues_37 : decode cX12_findDues 37 = .ok (.if_icmp .ne 9, 3) := by decide +kernel
theorem dX12_findDues_40 : decode cX12_findDues 40 = .ok (.sipush 5000, 3) := by decide +kernel
theorem dX12_findDues_43 : decode cX12_findDues 43 = .ok (.goto 4, 3) := by decide +kernel
theorem dX12_findDues_46 : decode cX12_findDues 46 = .ok (.iload_n 2, 1) := by decide +kernel
theorem dX12_findDues_47 : decode cX12_findDues 47 = .ok (.iastore, 1) := by decide +kernel
theorem dX12_findDues_48 : decode cX12_findDues 48 = .ok (.iinc 1 1, 3) := by decide +kernel
theorem dX12_findDues_51 : decode cX12_findDues 51 = .ok (.goto (-49), 3) := by decide +kernel
theorem dX12_findDues_54 : decode cX12_findDues 54 = .ok (.return_, 1) := by decide +kernel
theorem dX12_openAt_0 : decode cX12_openAt 0 = .ok (.aload_n 0, 1) := by decide +kernel
theorem dX12_openAt_1 : decode cX12_openAt 1 = .ok (.iconst 0, 1) := by decide +kernel
theorem dX12_openAt_2 : decode cX12_openAt 2 = .ok (.putfield 41, 3) := by decide +kernel
theorem dX12_openAt_5 : decode cX12_openAt 5 = .ok (.aload_n 0, 1) := by decide +kernel
theorem dX12_openAt_6 : decode cX12_openAt 6 = .ok (.invokevirtual 174, 3) := by decide +kernel
theorem dX12_openAt_9 : decode cX12_openAt 9 = .ok (.iconst 0, 1) := by decide +kernel
theorem dX12_openAt_10 : decode cX12_openAt 10 = .ok (.istore_n 2, 1) := by decide +kernel
theorem dX12_openAt_11 : decode cX12_openAt 11 = .ok (.iload_n 2, 1) := by decide +kernel
theorem dX12_openAt_12 : decode cX12_openAt 12 = .ok (.aload_n 0, 1) := by decide +kernel
theorem dX12_openAt_13 : decode cX12_openAt 13 = .ok (.getfield 9, 3) := by decide +kernel
theorem dX12_openAt_16 : decode cX12_openAt 16 = .ok (.iconst 3, 1) := by decide +kernel
theorem dX12_openAt_17 : decode cX12_openAt 17 = .ok (.iaload, 1) := by decide +kernel
theorem dX12_openAt_18 : decode cX12_openAt 18 = .ok (.if_icmp .ge 101, 3) := by decide +kernel
theorem dX12_openAt_21 : decode cX12_openAt 21 = .ok (.iconst 0, 1) := by decide +kernel
theorem dX12_openAt_22 : decode cX12_openAt 22 = .ok (.istore_n 3, 1) := by decide +kernel
theorem dX12_openAt_23 : decode cX12_openAt 23 = .ok (.iconst 0, 1) := by decide +kernel
theorem dX12_openAt_24 : decode cX12_openAt 24 = .ok (.istore 4, 2) := by decide +kernel
theorem dX12_openAt_26 : decode cX12_openAt 26 = .ok (.iload 4, 2) := by decide +kernel
theorem dX12_openAt_28 : decode cX12_openAt 28 = .ok (.aload_n 0, 1) := by decide +kernel
theorem dX12_openAt_29 : decode cX12_openAt 29 = .ok (.getfield 9, 3) := by decide +kernel
theorem dX12_openAt_32 : decode cX12_openAt 32 = .ok (.iconst 3, 1) := by decide +kernel
theorem dX12_openAt_33 : decode cX12_openAt 33 = .ok (.iaload, 1) := by decide +kernel
theorem dX12_openAt_34 : decode cX12_openAt 34 = .ok (.if_icmp .ge 64, 3) := by decide +kernel
theorem dX12_openAt_37 : decode cX12_openAt 37 = .ok (.iload_n 3, 1) := by decide +kernel
theorem dX12_openAt_38 : decode cX12_openAt 38 = .ok (.aload_n 0, 1) := by decide +kernel
theorem dX12_openAt_39 : decode cX12_openAt 39 = .ok (.iload 4, 2) := by decide +kernel
theorem dX12_openAt_41 : decode cX12_openAt 41 = .ok (.invokevirtual 165, 3) := by decide +kernel
theorem dX12_openAt_44 : decode cX12_openAt 44 = .ok (.ifCond .eq 45, 3) := by decide +kernel
theorem dX12_openAt_47 : decode cX12_openAt 47 = .ok (.aload_n 0, 1) := by decide +kernel
theorem dX12_openAt_48 : decode cX12_openAt 48 = .ok (.getfield 38, 3) := by decide +kernel
theorem dX12_openAt_51 : decode cX12_openAt 51 = .ok (.iload 4, 2) := by decide +kernel
theorem dX12_openAt_53 : decode cX12_openAt 53 = .ok (.iaload, 1) := by decide +kernel
theorem dX12_openAt_54 : decode cX12_openAt 54 = .ok (.aload_n 0, 1) := by decide +kernel
theorem dX12_openAt_55 : decode cX12_openAt 55 = .ok (.getfield 38, 3) := by decide +kernel
theorem dX12_openAt_58 : decode cX12_openAt 58 = .ok (.iload_n 2, 1) := by decide +kernel
theorem dX12_openAt_59 : decode cX12_openAt 59 = .ok (.iaload, 1) := by decide +kernel
theorem dX12_openAt_60 : decode cX12_openAt 60 = .ok (.if_icmp .lt 25, 3) := by decide +kernel
theorem dX12_openAt_63 : decode cX12_openAt 63 = .ok (.aload_n 0, 1) := by decide +kernel
theorem dX12_openAt_64 : decode cX12_openAt 64 = .ok (.getfield 38, 3) := by decide +kernel
theorem dX12_openAt_67 : decode cX12_openAt 67 = .ok (.iload 4, 2) := by decide +kernel
theorem dX12_openAt_69 : decode cX12_openAt 69 = .ok (.iaload, 1) := by decide +kernel
theorem dX12_openAt_70 : decode cX12_openAt 70 = .ok (.aload_n 0, 1) := by decide +kernel
theorem dX12_openAt_71 : decode cX12_openAt 71 = .ok (.getfield 38, 3) := by decide +kernel
theorem dX12_openAt_74 : decode cX12_openAt 74 = .ok (.iload_n 2, 1) := by decide +kernel
theorem dX12_openAt_75 : decode cX12_openAt 75 = .ok (.iaload, 1) := by decide +kernel
theorem dX12_openAt_76 : decode cX12_openAt 76 = .ok (.if_icmp .ne 13, 3) := by decide +kernel
theorem dX12_openAt_79 : decode cX12_openAt 79 = .ok (.iload 4, 2) := by decide +kernel
theorem dX12_openAt_81 : decode cX12_openAt 81 = .ok (.iload_n 2, 1) := by decide +kernel
theorem dX12_openAt_82 : decode cX12_openAt 82 = .ok (.if_icmp .ge 7, 3) := by decide +kernel
theorem dX12_openAt_85 : decode cX12_openAt 85 = .ok (.iconst 1, 1) := by decide +kernel
theorem dX12_openAt_86 : decode cX12_openAt 86 = .ok (.goto 4, 3) := by decide +kernel
theorem dX12_openAt_89 : decode cX12_openAt 89 = .ok (.iconst 0, 1) := by decide +kernel
theorem dX12_openAt_90 : decode cX12_openAt 90 = .ok (.iadd, 1) := by decide +kernel
theorem dX12_openAt_91 : decode cX12_openAt 91 = .ok (.istore_n 3, 1) := by decide +kernel
theorem dX12_openAt_92 : decode cX12_openAt 92 = .ok (.iinc 4 1, 3) := by decide +kernel
theorem dX12_openAt_95 : decode cX12_openAt 95 = .ok (.goto (-69), 3) := by decide +kernel
theorem dX12_openAt_98 : decode cX12_openAt 98 = .ok (.aload_n 0, 1) := by decide +kernel
theorem dX12_openAt_99 : decode cX12_openAt 99 = .ok (.iload_n 2, 1) := by decide +kernel
theorem dX12_openAt_100 : decode cX12_openAt 100 = .ok (.invokevirtual 165, 3) := by decide +kernel
theorem dX12_openAt_103 : decode cX12_openAt 103 = .ok (.ifCond .eq 10, 3) := by decide +kernel
theorem dX12_openAt_106 : decode cX12_openAt 106 = .ok (.iload_n 3, 1) := by decide +kernel
theorem dX12_openAt_107 : decode cX12_openAt 107 = .ok (.iload_n 1, 1) := by decide +kernel
theorem dX12_openAt_108 : decode cX12_openAt 108 = .ok (.if_icmp .ne 5, 3) := by decide +kernel
theorem dX12_openAt_111 : decode cX12_openAt 111 = .ok (.iload_n 2, 1) := by decide +kernel
theorem dX12_openAt_112 : decode cX12_openAt 112 = .ok (.ireturn, 1) := by decide +kernel
theorem dX12_openAt_113 : decode cX12_openAt 113 = .ok (.iinc 2 1, 3) := by decide +kernel
theorem dX12_openAt_116 : decode cX12_openAt 116 = .ok (.goto (-105), 3) := by decide +kernel
theorem dX12_openAt_119 : decode cX12_openAt 119 = .ok (.aload_n 0, 1) := by decide +kernel
theorem dX12_openAt_120 : decode cX12_openAt 120 = .ok (.iconst 1, 1) := by decide +kernel
theorem dX12_openAt_121 : decode cX12_openAt 121 = .ok (.iconst 1, 1) := by decide +kernel
theorem dX12_openAt_122 : decode cX12_openAt 122 = .ok (.invokevirtual 55, 3) := by decide +kernel
theorem dX12_openAt_125 : decode cX12_openAt 125 = .ok (.pop, 1) := by decide +kernel
theorem dX12_openAt_126 : decode cX12_openAt 126 = .ok (.iconst 0, 1) := by decide +kernel
theorem dX12_openAt_127 : decode cX12_openAt 127 = .ok (.ireturn, 1) := by decide +kernel
theorem dX12_overdue_0 : decode cX12_overdue 0 = .ok (.aload_n 0, 1) := by decide +kernel
theorem dX12_overdue_1 : decode cX12_overdue 1 = .ok (.iconst 0, 1) := by decide +kernel
theorem dX12_overdue_2 : decode cX12_overdue 2 = .ok (.putfield 41, 3) := by decide +kernel
theorem dX12_overdue_5 : decode cX12_overdue 5 = .ok (.iconst 0, 1) := by decide +kernel
theorem dX12_overdue_6 : decode cX12_overdue 6 = .ok (.istore_n 1, 1) := by decide +kernel
theorem dX12_overdue_7 : decode cX12_overdue 7 = .ok (.iconst 0, 1) := by decide +kernel
theorem dX12_overdue_8 : decode cX12_overdue 8 = .ok (.istore_n 2, 1) := by decide +kernel
theorem dX12_overdue_9 : decode cX12_overdue 9 = .ok (.iload_n 2, 1) := by decide +kernel
theorem dX12_overdue_10 : decode cX12_overdue 10 = .ok (.aload_n 0, 1) := by decide +kernel
theorem dX12_overdue_11 : decode cX12_overdue 11 = .ok (.getfield 9, 3) := by decide +kernel
theorem dX12_overdue_14 : decode cX12_overdue 14 = .ok (.iconst 3, 1) := by decide +kernel
theorem dX12_overdue_15 : decode cX12_overdue 15 = .ok (.iaload, 1) := by decide +kernel
theorem dX12_overdue_16 : decode cX12_overdue 16 = .ok (.if_icmp .ge 33, 3) := by decide +kernel
theorem dX12_overdue_19 : decode cX12_overdue 19 = .ok (.iload_n 1, 1) := by decide +kernel
theorem dX12_overdue_20 : decode cX12_overdue 20 = .ok (.aload_n 0, 1) := by decide +kernel
theorem dX12_overdue_21 : decode cX12_overdue 21 = .ok (.iload_n 2, 1) := by decide +kernel
theorem dX12_overdue_22 : decode cX12_overdue 22 = .ok (.invokevirtual 165, 3) := by decide +kernel
theorem dX12_overdue_25 : decode cX12_overdue 25 = .ok (.ifCond .eq 15, 3) := by decide +kernel
theorem dX12_overdue_28 : decode cX12_overdue 28 = .ok (.aload_n 0, 1) := by decide +kernel
theorem dX12_overdue_29 : decode cX12_overdue 29 = .ok (.iload_n 2, 1) := by decide +kernel
theorem dX12_overdue_30 : decode cX12_overdue 30 = .ok (.invokevirtual 168, 3) := by decide +kernel
theorem dX12_overdue_33 : decode cX12_overdue 33 = .ok (.ifCond .eq 7, 3) := by decide +kernel
theorem dX12_overdue_36 : decode cX12_overdue 36 = .ok (.iconst 1, 1) := by decide +kernel
theorem dX12_overdue_37 : decode cX12_overdue 37 = .ok (.goto 4, 3) := by decide +kernel
theorem dX12_overdue_40 : decode cX12_overdue 40 = .ok (.iconst 0, 1) := by decide +kernel
theorem dX12_overdue_41 : decode cX12_overdue 41 = .ok (.iadd, 1) := by decide +kernel
theorem dX12_overdue_42 : decode cX12_overdue 42 = .ok (.istore_n 1, 1) := by decide +kernel
theorem dX12_overdue_43 : decode cX12_overdue 43 = .ok (.iinc 2 1, 3) := by decide +kernel
theorem dX12_overdue_46 : decode cX12_overdue 46 = .ok (.goto (-37), 3) := by decide +kernel
theorem dX12_overdue_49 : decode cX12_overdue 49 = .ok (.iload_n 1, 1) := by decide +kernel
theorem dX12_overdue_50 : decode cX12_overdue 50 = .ok (.ireturn, 1) := by decide +kernel
theorem dX12_busiestDay_0 : decode cX12_busiestDay 0 = .ok (.aload_n 0, 1) := by decide +kernel
theorem dX12_busiestDay_1 : decode cX12_busiestDay 1 = .ok (.iconst 0, 1) := by decide +kernel
theorem dX12_busiestDay_2 : decode cX12_busiestDay 2 = .ok (.putfield 41, 3) := by decide +kernel
theorem dX12_busiestDay_5 : decode cX12_busiestDay 5 = .ok (.aload_n 0, 1) := by decide +kernel
theorem dX12_busiestDay_6 : decode cX12_busiestDay 6 = .ok (.invokevirtual 174, 3) := by decide +kernel
theorem dX12_busiestDay_9 : decode cX12_busiestDay 9 = .ok (.iconst (-1), 1) := by decide +kernel
theorem dX12_busiestDay_10 : decode cX12_busiestDay 10 = .ok (.istore_n 1, 1) := by decide +kernel
theorem dX12_busiestDay_11 : decode cX12_busiestDay 11 = .ok (.iconst 0, 1) := by decide +kernel
theorem dX12_busiestDay_12 : decode cX12_busiestDay 12 = .ok (.istore_n 2, 1) := by decide +kernel
theorem dX12_busiestDay_13 : decode cX12_busiestDay 13 = .ok (.iconst 0, 1) := by decide +kernel
theorem dX12_busiestDay_14 : decode cX12_busiestDay 14 = .ok (.istore_n 3, 1) := by decide +kernel
theorem dX12_busiestDay_15 : decode cX12_busiestDay 15 = .ok (.iload_n 3, 1) := by decide +kernel
theorem dX12_busiestDay_16 : decode cX12_busiestDay 16 = .ok (.aload_n 0, 1) := by decide +kernel
theorem dX12_busiestDay_17 : decode cX12_busiestDay 17 = .ok (.getfield 9, 3) := by decide +kernel
theorem dX12_busiestDay_20 : decode cX12_busiestDay 20 = .ok (.iconst 3, 1) := by decide +kernel
theorem dX12_busiestDay_21 : decode cX12_busiestDay 21 = .ok (.iaload, 1) := by decide +kernel
theorem dX12_busiestDay_22 : decode cX12_busiestDay 22 = .ok (.if_icmp .ge 119, 3) := by decide +kernel
theorem dX12_busiestDay_25 : decode cX12_busiestDay 25 = .ok (.iconst 0, 1) := by decide +kernel
theorem dX12_busiestDay_26 : decode cX12_busiestDay 26 = .ok (.istore 4, 2) := by decide +kernel
theorem dX12_busiestDay_28 : decode cX12_busiestDay 28 = .ok (.iconst 0, 1) := by decide +kernel
theorem dX12_busiestDay_29 : decode cX12_busiestDay 29 = .ok (.istore 5, 2) := by decide +kernel
theorem dX12_busiestDay_31 : decode cX12_busiestDay 31 = .ok (.iload 5, 2) := by decide +kernel
theorem dX12_busiestDay_33 : decode cX12_busiestDay 33 = .ok (.aload_n 0, 1) := by decide +kernel
theorem dX12_busiestDay_34 : decode cX12_busiestDay 34 = .ok (.getfield 9, 3) := by decide +kernel
theorem dX12_busiestDay_37 : decode cX12_busiestDay 37 = .ok (.iconst 3, 1) := by decide +kernel
theorem dX12_busiestDay_38 : decode cX12_busiestDay 38 = .ok (.iaload, 1) := by decide +kernel
theorem dX12_busiestDay_39 : decode cX12_busiestDay 39 = .ok (.if_icmp .ge 44, 3) := by decide +kernel
theorem dX12_busiestDay_42 : decode cX12_busiestDay 42 = .ok (.iload 4, 2) := by decide +kernel
theorem dX12_busiestDay_44 : decode cX12_busiestDay 44 = .ok (.aload_n 0, 1) := by decide +kernel
theorem dX12_busiestDay_45 : decode cX12_busiestDay 45 = .ok (.iload 5, 2) := by decide +kernel
theorem dX12_busiestDay_47 : decode cX12_busiestDay 47 = .ok (.invokevirtual 165, 3) := by decide +kernel
theorem dX12_busiestDay_50 : decode cX12_busiestDay 50 = .ok (.ifCond .eq 23, 3) := by decide +kernel
theorem dX12_busiestDay_53 : decode cX12_busiestDay 53 = .ok (.aload_n 0, 1) := by decide +kernel
theorem dX12_busiestDay_54 : decode cX12_busiestDay 54 = .ok (.getfield 38, 3) := by decide +kernel
theorem dX12_busiestDay_57 : decode cX12_busiestDay 57 = .ok (.iload 5, 2) := by decide +kernel
theorem dX12_busiestDay_59 : decode cX12_busiestDay 59 = .ok (.iaload, 1) := by decide +kernel
theorem dX12_busiestDay_60 : decode cX12_busiestDay 60 = .ok (.aload_n 0, 1) := by decide +kernel
theorem dX12_busiestDay_61 : decode cX12_busiestDay 61 = .ok (.getfield 38, 3) := by decide +kernel
theorem dX12_busiestDay_64 : decode cX12_busiestDay 64 = .ok (.iload_n 3, 1) := by decide +kernel
theorem dX12_busiestDay_65 : decode cX12_busiestDay 65 = .ok (.iaload, 1) := by decide +kernel
theorem dX12_busiestDay_66 : decode cX12_busiestDay 66 = .ok (.if_icmp .ne 7, 3) := by decide +kernel
theorem dX12_busiestDay_69 : decode cX12_busiestDay 69 = .ok (.iconst 1, 1) := by decide +kernel
theorem dX12_busiestDay_70 : decode cX12_busiestDay 70 = .ok (.goto 4, 3) := by decide +kernel
theorem dX12_busiestDay_73 : decode cX12_busiestDay 73 = .ok (.iconst 0, 1) := by decide +kernel
theorem dX12_busiestDay_74 : decode cX12_busiestDay 74 = .ok (.iadd, 1) := by decide +kernel
theorem dX12_busiestDay_75 : decode cX12_busiestDay 75 = .ok (.istore 4, 2) := by decide +kernel
theorem dX12_busiestDay_77 : decode cX12_busiestDay 77 = .ok (.iinc 5 1, 3) := by decide +kernel
theorem dX12_busiestDay_80 : decode cX12_busiestDay 80 = .ok (.goto (-49), 3) := by decide +kernel
theorem dX12_busiestDay_83 : decode cX12_busiestDay 83 = .ok (.aload_n 0, 1) := by decide +kernel
theorem dX12_busiestDay_84 : decode cX12_busiestDay 84 = .ok (.iload_n 3, 1) := by decide +kernel
theorem dX12_busiestDay_85 : decode cX12_busiestDay 85 = .ok (.invokevirtual 165, 3) := by decide +kernel
theorem dX12_busiestDay_88 : decode cX12_busiestDay 88 = .ok (.ifCond .eq 47, 3) := by decide +kernel
theorem dX12_busiestDay_91 : decode cX12_busiestDay 91 = .ok (.aload_n 0, 1) := by decide +kernel
theorem dX12_busiestDay_92 : decode cX12_busiestDay 92 = .ok (.getfield 38, 3) := by decide +kernel
theorem dX12_busiestDay_95 : decode cX12_busiestDay 95 = .ok (.iload_n 3, 1) := by decide +kernel
theorem dX12_busiestDay_96 : decode cX12_busiestDay 96 = .ok (.iaload, 1) := by decide +kernel
theorem dX12_busiestDay_97 : decode cX12_busiestDay 97 = .ok (.sipush 4999, 3) := by decide +kernel
theorem dX12_busiestDay_100 : decode cX12_busiestDay 100 = .ok (.if_icmp .gt 35, 3) := by decide +kernel
theorem dX12_busiestDay_103 : decode cX12_busiestDay 103 = .ok (.iload 4, 2) := by decide +kernel
theorem dX12_busiestDay_105 : decode cX12_busiestDay 105 = .ok (.iload_n 2, 1) := by decide +kernel
theorem dX12_busiestDay_106 : decode cX12_busiestDay 106 = .ok (.if_icmp .gt 19, 3) := by decide +kernel
theorem dX12_busiestDay_109 : decode cX12_busiestDay 109 = .ok (.iload 4, 2) := by decide +kernel
theorem dX12_busiestDay_111 : decode cX12_busiestDay 111 = .ok (.iload_n 2, 1) := by decide +kernel
theorem dX12_busiestDay_112 : decode cX12_busiestDay 112 = .ok (.if_icmp .ne 23, 3) := by decide +kernel
theorem dX12_busiestDay_115 : decode cX12_busiestDay 115 = .ok (.aload_n 0, 1) := by decide +kernel
theorem dX12_busiestDay_116 : decode cX12_busiestDay 116 = .ok (.getfield 38, 3) := by decide +kernel
theorem dX12_busiestDay_119 : decode cX12_busiestDay 119 = .ok (.iload_n 3, 1) := by decide +kernel
theorem dX12_busiestDay_120 : decode cX12_busiestDay 120 = .ok (.iaload, 1) := by decide +kernel
theorem dX12_busiestDay_121 : decode cX12_busiestDay 121 = .ok (.iload_n 1, 1) := by decide +kernel
theorem dX12_busiestDay_122 : decode cX12_busiestDay 122 = .ok (.if_icmp .ge 13, 3) := by decide +kernel
theorem dX12_busiestDay_125 : decode cX12_busiestDay 125 = .ok (.aload_n 0, 1) := by decide +kernel
theorem dX12_busiestDay_126 : decode cX12_busiestDay 126 = .ok (.getfield 38, 3) := by decide +kernel
theorem dX12_busiestDay_129 : decode cX12_busiestDay 129 = .ok (.iload_n 3, 1) := by decide +kernel
theorem dX12_busiestDay_130 : decode cX12_busiestDay 130 = .ok (.iaload, 1) := by decide +kernel
theorem dX12_busiestDay_131 : decode cX12_busiestDay 131 = .ok (.istore_n 1, 1) := by decide +kernel
theorem dX12_busiestDay_132 : decode cX12_busiestDay 132 = .ok (.iload 4, 2) := by decide +kernel
theorem dX12_busiestDay_134 : decode cX12_busiestDay 134 = .ok (.istore_n 2, 1) := by decide +kernel
theorem dX12_busiestDay_135 : decode cX12_busiestDay 135 = .ok (.iinc 3 1, 3) := by decide +kernel
theorem dX12_busiestDay_138 : decode cX12_busiestDay 138 = .ok (.goto (-123), 3) := by decide +kernel
theorem dX12_busiestDay_141 : decode cX12_busiestDay 141 = .ok (.aload_n 0, 1) := by decide +kernel
theorem dX12_busiestDay_142 : decode cX12_busiestDay 142 = .ok (.iload_n 2, 1) := by decide +kernel
theorem dX12_busiestDay_143 : decode cX12_busiestDay 143 = .ok (.ifCond .ne 7, 3) := by decide +kernel
theorem dX12_busiestDay_146 : decode cX12_busiestDay 146 = .ok (.iconst 1, 1) := by decide +kernel
theorem dX12_busiestDay_147 : decode cX12_busiestDay 147 = .ok (.goto 4, 3) := by decide +kernel
theorem dX12_busiestDay_150 : decode cX12_busiestDay 150 = .ok (.iconst 0, 1) := by decide +kernel
theorem dX12_busiestDay_151 : decode cX12_busiestDay 151 = .ok (.iconst 1, 1) := by decide +kernel
theorem dX12_busiestDay_152 : decode cX12_busiestDay 152 = .ok (.invokevirtual 55, 3) := by decide +kernel
theorem dX12_busiestDay_155 : decode cX12_busiestDay 155 = .ok (.ifCond .eq 7, 3) := by decide +kernel
theorem dX12_busiestDay_158 : decode cX12_busiestDay 158 = .ok (.iconst 0, 1) := by decide +kernel
theorem dX12_busiestDay_159 : decode cX12_busiestDay 159 = .ok (.goto 4, 3) := by decide +kernel
theorem dX12_busiestDay_162 : decode cX12_busiestDay 162 = .ok (.iload_n 1, 1) := by decide +kernel
theorem dX12_busiestDay_163 : decode cX12_busiestDay 163 = .ok (.ireturn, 1) := by decide +kernel
theorem dX12_meanDaysLeft_0 : decode cX12_meanDaysLeft 0 = .ok (.aload_n 0, 1) := by decide +kernel
theorem dX12_meanDaysLeft_1 : decode cX12_meanDaysLeft 1 = .ok (.iconst 0, 1) := by decide +kernel
theorem dX12_meanDaysLeft_2 : decode cX12_meanDaysLeft 2 = .ok (.putfield 41, 3) := by decide +kernel
theorem dX12_meanDaysLeft_5 : decode cX12_meanDaysLeft 5 = .ok (.iconst 0, 1) := by decide +kernel
theorem dX12_meanDaysLeft_6 : decode cX12_meanDaysLeft 6 = .ok (.istore_n 1, 1) := by decide +kernel
theorem dX12_meanDaysLeft_7 : decode cX12_meanDaysLeft 7 = .ok (.iconst 0, 1) := by decide +kernel
theorem dX12_meanDaysLeft_8 : decode cX12_meanDaysLeft 8 = .ok (.istore_n 2, 1) := by decide +kernel
theorem dX12_meanDaysLeft_9 : decode cX12_meanDaysLeft 9 = .ok (.iconst 0, 1) := by decide +kernel
theorem dX12_meanDaysLeft_10 : decode cX12_meanDaysLeft 10 = .ok (.istore_n 3, 1) := by decide +kernel
theorem dX12_meanDaysLeft_11 : decode cX12_meanDaysLeft 11 = .ok (.iload_n 3, 1) := by decide +kernel
theorem dX12_meanDaysLeft_12 : decode cX12_meanDaysLeft 12 = .ok (.aload_n 0, 1) := by decide +kernel
theorem dX12_meanDaysLeft_13 : decode cX12_meanDaysLeft 13 = .ok (.getfield 9, 3) := by decide +kernel
theorem dX12_meanDaysLeft_16 : decode cX12_meanDaysLeft 16 = .ok (.iconst 3, 1) := by decide +kernel
theorem dX12_meanDaysLeft_17 : decode cX12_meanDaysLeft 17 = .ok (.iaload, 1) := by decide +kernel
theorem dX12_meanDaysLeft_18 : decode cX12_meanDaysLeft 18 = .ok (.if_icmp .ge 28, 3) := by decide +kernel
theorem dX12_meanDaysLeft_21 : decode cX12_meanDaysLeft 21 = .ok (.aload_n 0, 1) := by decide +kernel
theorem dX12_meanDaysLeft_22 : decode cX12_meanDaysLeft 22 = .ok (.iload_n 3, 1) := by decide +kernel
theorem dX12_meanDaysLeft_23 : decode cX12_meanDaysLeft 23 = .ok (.invokevirtual 165, 3) := by decide +kernel
theorem dX12_meanDaysLeft_26 : decode cX12_meanDaysLeft 26 = .ok (.ifCond .eq 14, 3) := by decide +kernel
theorem dX12_meanDaysLeft_29 : decode cX12_meanDaysLeft 29 = .ok (.iload_n 1, 1) := by decide +kernel
theorem dX12_meanDaysLeft_30 : decode cX12_meanDaysLeft 30 = .ok (.aload_n 0, 1) := by decide +kernel
theorem dX12_meanDaysLeft_31 : decode cX12_meanDaysLeft 31 = .ok (.iload_n 3, 1) := by decide +kernel
theorem dX12_meanDaysLeft_32 : decode cX12_meanDaysLeft 32 = .ok (.invokevirtual 156, 3) := by decide +kernel
theorem dX12_meanDaysLeft_35 : decode cX12_meanDaysLeft 35 = .ok (.iadd, 1) := by decide +kernel
theorem dX12_meanDaysLeft_36 : decode cX12_meanDaysLeft 36 = .ok (.istore_n 1, 1) := by decide +kernel
theorem dX12_meanDaysLeft_37 : decode cX12_meanDaysLeft 37 = .ok (.iinc 2 1, 3) := by decide +kernel
theorem dX12_meanDaysLeft_40 : decode cX12_meanDaysLeft 40 = .ok (.iinc 3 1, 3) := by decide +kernel
theorem dX12_meanDaysLeft_43 : decode cX12_meanDaysLeft 43 = .ok (.goto (-32), 3) := by decide +kernel
theorem dX12_meanDaysLeft_46 : decode cX12_meanDaysLeft 46 = .ok (.aload_n 0, 1) := by decide +kernel
theorem dX12_meanDaysLeft_47 : decode cX12_meanDaysLeft 47 = .ok (.iload_n 2, 1) := by decide +kernel
theorem dX12_meanDaysLeft_48 : decode cX12_meanDaysLeft 48 = .ok (.ifCond .ne 7, 3) := by decide +kernel
theorem dX12_meanDaysLeft_51 : decode cX12_meanDaysLeft 51 = .ok (.iconst 1, 1) := by decide +kernel
theorem dX12_meanDaysLeft_52 : decode cX12_meanDaysLeft 52 = .ok (.goto 4, 3) := by decide +kernel
theorem dX12_meanDaysLeft_55 : decode cX12_meanDaysLeft 55 = .ok (.iconst 0, 1) := by decide +kernel
theorem dX12_meanDaysLeft_56 : decode cX12_meanDaysLeft 56 = .ok (.iconst 1, 1) := by decide +kernel
theorem dX12_meanDaysLeft_57 : decode cX12_meanDaysLeft 57 = .ok (.invokevirtual 55, 3) := by decide +kernel
theorem dX12_meanDaysLeft_60 : decode cX12_meanDaysLeft 60 = .ok (.ifCond .eq 7, 3) := by decide +kernel
theorem dX12_meanDaysLeft_63 : decode cX12_meanDaysLeft 63 = .ok (.dconst 0, 1) := by decide +kernel
theorem dX12_meanDaysLeft_64 : decode cX12_meanDaysLeft 64 = .ok (.goto 8, 3) := by decide +kernel
theorem dX12_meanDaysLeft_67 : decode cX12_meanDaysLeft 67 = .ok (.iload_n 1, 1) := by decide +kernel
theorem dX12_meanDaysLeft_68 : decode cX12_meanDaysLeft 68 = .ok (.i2d, 1) := by decide +kernel
theorem dX12_meanDaysLeft_69 : decode cX12_meanDaysLeft 69 = .ok (.iload_n 2, 1) := by decide +kernel
theorem dX12_meanDaysLeft_70 : decode cX12_meanDaysLeft 70 = .ok (.i2d, 1) := by decide +kernel
theorem dX12_meanDaysLeft_71 : decode cX12_meanDaysLeft 71 = .ok (.ddiv, 1) := by decide +kernel
theorem dX12_meanDaysLeft_72 : decode cX12_meanDaysLeft 72 = .ok (.dreturn, 1) := by decide +kernel
theorem dX12_order_0 : decode cX12_order 0 = .ok (.sipush 619, 3) := by decide +kernel
theorem dX12_order_3 : decode cX12_order 3 = .ok (.iconst 4, 1) := by decide +kernel
theorem dX12_order_4 : decode cX12_order 4 = .ok (.aload_n 0, 1) := by decide +kernel
theorem dX12_order_5 : decode cX12_order 5 = .ok (.getfield 9, 3) := by decide +kernel
theorem dX12_order_8 : decode cX12_order 8 = .ok (.iconst 4, 1) := by decide +kernel
theorem dX12_order_9 : decode cX12_order 9 = .ok (.iaload, 1) := by decide +kernel
theorem dX12_order_10 : decode cX12_order 10 = .ok (.imul, 1) := by decide +kernel
theorem dX12_order_11 : decode cX12_order 11 = .ok (.iadd, 1) := by decide +kernel
theorem dX12_order_12 : decode cX12_order 12 = .ok (.istore_n 3, 1) := by decide +kernel
theorem dX12_order_13 : decode cX12_order 13 = .ok (.aload_n 0, 1) := by decide +kernel
theorem dX12_order_14 : decode cX12_order 14 = .ok (.getfield 9, 3) := by decide +kernel
theorem dX12_order_17 : decode cX12_order 17 = .ok (.iload_n 3, 1) := by decide +kernel
theorem dX12_order_18 : decode cX12_order 18 = .ok (.iload_n 1, 1) := by decide +kernel
theorem dX12_order_19 : decode cX12_order 19 = .ok (.iastore, 1) := by decide +kernel
theorem dX12_order_20 : decode cX12_order 20 = .ok (.aload_n 0, 1) := by decide +kernel
theorem dX12_order_21 : decode cX12_order 21 = .ok (.getfield 9, 3) := by decide +kernel
theorem dX12_order_24 : decode cX12_order 24 = .ok (.iload_n 3, 1) := by decide +kernel
theorem dX12_order_25 : decode cX12_order 25 = .ok (.iconst 1, 1) := by decide +kernel
theorem dX12_order_26 : decode cX12_order 26 = .ok (.iadd, 1) := by decide +kernel
theorem dX12_order_27 : decode cX12_order 27 = .ok (.iload_n 2, 1) := by decide +kernel
theorem dX12_order_28 : decode cX12_order 28 = .ok (.iastore, 1) := by decide +kernel
theorem dX12_order_29 : decode cX12_order 29 = .ok (.aload_n 0, 1) := by decide +kernel
theorem dX12_order_30 : decode cX12_order 30 = .ok (.getfield 9, 3) := by decide +kernel
theorem dX12_order_33 : decode cX12_order 33 = .ok (.iload_n 3, 1) := by decide +kernel
theorem dX12_order_34 : decode cX12_order 34 = .ok (.iconst 2, 1) := by decide +kernel
theorem dX12_order_35 : decode cX12_order 35 = .ok (.iadd, 1) := by decide +kernel
theorem dX12_order_36 : decode cX12_order 36 = .ok (.aload_n 0, 1) := by decide +kernel
theorem dX12_order_37 : decode cX12_order 37 = .ok (.getfield 9, 3) := by decide +kernel
theorem dX12_order_40 : decode cX12_order 40 = .ok (.iconst 0, 1) := by decide +kernel
theorem dX12_order_41 : decode cX12_order 41 = .ok (.iaload, 1) := by decide +kernel
theorem dX12_order_42 : decode cX12_order 42 = .ok (.iastore, 1) := by decide +kernel
theorem dX12_order_43 : decode cX12_order 43 = .ok (.aload_n 0, 1) := by decide +kernel
theorem dX12_order_44 : decode cX12_order 44 = .ok (.getfield 9, 3) := by decide +kernel
theorem dX12_order_47 : decode cX12_order 47 = .ok (.iload_n 3, 1) := by decide +kernel
theorem dX12_order_48 : decode cX12_order 48 = .ok (.iconst 3, 1) := by decide +kernel
theorem dX12_order_49 : decode cX12_order 49 = .ok (.iadd, 1) := by decide +kernel
theorem dX12_order_50 : decode cX12_order 50 = .ok (.iconst (-1), 1) := by decide +kernel
theorem dX12_order_51 : decode cX12_order 51 = .ok (.iastore, 1) := by decide +kernel
theorem dX12_order_52 : decode cX12_order 52 = .ok (.aload_n 0, 1) := by decide +kernel
theorem dX12_order_53 : decode cX12_order 53 = .ok (.getfield 9, 3) := by decide +kernel
theorem dX12_order_56 : decode cX12_order 56 = .ok (.iconst 4, 1) := by decide +kernel
theorem dX12_order_57 : decode cX12_order 57 = .ok (.dup2, 1) := by decide +kernel
theorem dX12_order_58 : decode cX12_order 58 = .ok (.iaload, 1) := by decide +kernel
theorem dX12_order_59 : decode cX12_order 59 = .ok (.iconst 1, 1) := by decide +kernel
theorem dX12_order_60 : decode cX12_order 60 = .ok (.iadd, 1) := by decide +kernel
theorem dX12_order_61 : decode cX12_order 61 = .ok (.iastore, 1) := by decide +kernel
theorem dX12_order_62 : decode cX12_order 62 = .ok (.aload_n 0, 1) := by decide +kernel
theorem dX12_order_63 : decode cX12_order 63 = .ok (.getfield 9, 3) := by decide +kernel
theorem dX12_order_66 : decode cX12_order 66 = .ok (.iconst 4, 1) := by decide +kernel
theorem dX12_order_67 : decode cX12_order 67 = .ok (.iaload, 1) := by decide +kernel
theorem dX12_order_68 : decode cX12_order 68 = .ok (.iconst 1, 1) := by decide +kernel
theorem dX12_order_69 : decode cX12_order 69 = .ok (.isub, 1) := by decide +kernel
theorem dX12_order_70 : decode cX12_order 70 = .ok (.ireturn, 1) := by decide +kernel
theorem dX12_stayParty_0 : decode cX12_stayParty 0 = .ok (.aload_n 0, 1) := by decide +kernel
theorem dX12_stayParty_1 : decode cX12_stayParty 1 = .ok (.iconst 0, 1) := by decide +kernel
theorem dX12_stayParty_2 : decode cX12_stayParty 2 = .ok (.putfield 41, 3) := by decide +kernel
theorem dX12_stayParty_5 : decode cX12_stayParty 5 = .ok (.aload_n 0, 1) := by decide +kernel
theorem dX12_stayParty_6 : decode cX12_stayParty 6 = .ok (.aload_n 0, 1) := by decide +kernel
theorem dX12_stayParty_7 : decode cX12_stayParty 7 = .ok (.iload_n 1, 1) := by decide +kernel
theorem dX12_stayParty_8 : decode cX12_stayParty 8 = .ok (.invokevirtual 96, 3) := by decide +kernel
theorem dX12_stayParty_11 : decode cX12_stayParty 11 = .ok (.iconst 1, 1) := by decide +kernel
theorem dX12_stayParty_12 : decode cX12_stayParty 12 = .ok (.invokevirtual 55, 3) := by decide +kernel
theorem dX12_stayParty_15 : decode cX12_stayParty 15 = .ok (.ifCond .ne 51, 3) := by decide +kernel
theorem dX12_stayParty_18 : decode cX12_stayParty 18 = .ok (.aload_n 0, 1) := by decide +kernel
theorem dX12_stayParty_19 : decode cX12_stayParty 19 = .ok (.iload_n 2, 1) := by decide +kernel
theorem dX12_stayParty_20 : decode cX12_stayParty 20 = .ok (.iconst 1, 1) := by decide +kernel
theorem dX12_stayParty_21 : decode cX12_stayParty 21 = .ok (.sipush 255, 3) := by decide +kernel
theorem dX12_stayParty_24 : decode cX12_stayParty 24 = .ok (.invokestatic 64, 3) := by decide +kernel
theorem dX12_stayParty_27 : decode cX12_stayParty 27 = .ok (.ifCond .ne 7, 3) := by decide +kernel
theorem dX12_stayParty_30 : decode cX12_stayParty 30 = .ok (.iconst 1, 1) := by decide +kernel
theorem dX12_stayParty_31 : decode cX12_stayParty 31 = .ok (.goto 4, 3) := by decide +kernel
theorem dX12_stayParty_34 : decode cX12_stayParty 34 = .ok (.iconst 0, 1) := by decide +kernel
theorem dX12_stayParty_35 : decode cX12_stayParty 35 = .ok (.iconst 2, 1) := by decide +kernel
theorem dX12_stayParty_36 : decode cX12_stayParty 36 = .ok (.invokevirtual 55, 3) := by decide +kernel
theorem dX12_stayParty_39 : decode cX12_stayParty 39 = .ok (.ifCond .ne 27, 3) := by decide +kernel
theorem dX12_stayParty_42 : decode cX12_stayParty 42 = .ok (.aload_n 0, 1) := by decide +kernel
theorem dX12_stayParty_43 : decode cX12_stayParty 43 = .ok (.aload_n 0, 1) := by decide +kernel
theorem dX12_stayParty_44 : decode cX12_stayParty 44 = .ok (.getfield 9, 3) := by decide +kernel
theorem dX12_stayParty_47 : decode cX12_stayParty 47 = .ok (.iconst 4, 1) := by decide +kernel
theorem dX12_stayParty_48 : decode cX12_stayParty 48 = .ok (.iaload, 1) := by decide +kernel
theorem dX12_stayParty_49 : decode cX12_stayParty 49 = .ok (.bipush 12, 2) := by decide +kernel
theorem dX12_stayParty_51 : decode cX12_stayParty 51 = .ok (.if_icmp .ne 7, 3) := by decide +kernel
theorem dX12_stayParty_54 : decode cX12_stayParty 54 = .ok (.iconst 1, 1) := by decide +kernel
theorem dX12_stayParty_55 : decode cX12_stayParty 55 = .ok (.goto 4, 3) := by decide +kernel
theorem dX12_stayParty_58 : decode cX12_stayParty 58 = .ok (.iconst 0, 1) := by decide +kernel
theorem dX12_stayParty_59 : decode cX12_stayParty 59 = .ok (.iconst 3, 1) := by decide +kernel
theorem dX12_stayParty_60 : decode cX12_stayParty 60 = .ok (.invokevirtual 55, 3) := by decide +kernel
theorem dX12_stayParty_63 : decode cX12_stayParty 63 = .ok (.ifCond .eq 5, 3) := by decide +kernel
theorem dX12_stayParty_66 : decode cX12_stayParty 66 = .ok (.iconst 0, 1) := by decide +kernel
theorem dX12_stayParty_67 : decode cX12_stayParty 67 = .ok (.ireturn, 1) := by decide +kernel
theorem dX12_stayParty_68 : decode cX12_stayParty 68 = .ok (.aload_n 0, 1) := by decide +kernel
theorem dX12_stayParty_69 : decode cX12_stayParty 69 = .ok (.invokevirtual 93, 3) := by decide +kernel
theorem dX12_stayParty_72 : decode cX12_stayParty 72 = .ok (.aload_n 0, 1) := by decide +kernel
theorem dX12_stayParty_73 : decode cX12_stayParty 73 = .ok (.iload_n 1, 1) := by decide +kernel
theorem dX12_stayParty_74 : decode cX12_stayParty 74 = .ok (.iload_n 2, 1) := by decide +kernel
theorem dX12_stayParty_75 : decode cX12_stayParty 75 = .ok (.invokevirtual 177, 3) := by decide +kernel
theorem dX12_stayParty_78 : decode cX12_stayParty 78 = .ok (.ireturn, 1) := by decide +kernel
theorem dX12_stayAll_0 : decode cX12_stayAll 0 = .ok (.aload_n 0, 1) := by decide +kernel
theorem dX12_stayAll_1 : decode cX12_stayAll 1 = .ok (.iconst 0, 1) := by decide +kernel
theorem dX12_stayAll_2 : decode cX12_stayAll 2 = .ok (.putfield 41, 3) := by decide +kernel
theorem dX12_stayAll_5 : decode cX12_stayAll 5 = .ok (.aload_n 0, 1) := by decide +kernel
theorem dX12_stayAll_6 : decode cX12_stayAll 6 = .ok (.iload_n 1, 1) := by decide +kernel
theorem dX12_stayAll_7 : decode cX12_stayAll 7 = .ok (.iconst 1, 1) := by decide +kernel
theorem dX12_stayAll_8 : decode cX12_stayAll 8 = .ok (.sipush 255, 3) := by decide +kernel
theorem dX12_stayAll_11 : decode cX12_stayAll 11 = .ok (.invokestatic 64, 3) := by decide +kernel
theorem dX12_stayAll_14 : decode cX12_stayAll 14 = .ok (.ifCond .ne 7, 3) := by decide +kernel
theorem dX12_stayAll_17 : decode cX12_stayAll 17 = .ok (.iconst 1, 1) := by decide +kernel
theorem dX12_stayAll_18 : decode cX12_stayAll 18 = .ok (.goto 4, 3) := by decide +kernel
theorem dX12_stayAll_21 : decode cX12_stayAll 21 = .ok (.iconst 0, 1) := by decide +kernel
theorem dX12_stayAll_22 : decode cX12_stayAll 22 = .ok (.iconst 1, 1) := by decide +kernel
theorem dX12_stayAll_23 : decode cX12_stayAll 23 = .ok (.invokevirtual 55, 3) := by decide +kernel
theorem dX12_stayAll_26 : decode cX12_stayAll 26 = .ok (.ifCond .ne 27, 3) := by decide +kernel
theorem dX12_stayAll_29 : decode cX12_stayAll 29 = .ok (.aload_n 0, 1) := by decide +kernel
theorem dX12_stayAll_30 : decode cX12_stayAll 30 = .ok (.aload_n 0, 1) := by decide +kernel
theorem dX12_stayAll_31 : decode cX12_stayAll 31 = .ok (.getfield 9, 3) := by decide +kernel
theorem dX12_stayAll_34 : decode cX12_stayAll 34 = .ok (.iconst 4, 1) := by decide +kernel
theorem dX12_stayAll_35 : decode cX12_stayAll 35 = .ok (.iaload, 1) := by decide +kernel
theorem dX12_stayAll_36 : decode cX12_stayAll 36 = .ok (.bipush 12, 2) := by decide +kernel
theorem dX12_stayAll_38 : decode cX12_stayAll 38 = .ok (.if_icmp .ne 7, 3) := by decide +kernel
theorem dX12_stayAll_41 : decode cX12_stayAll 41 = .ok (.iconst 1, 1) := by decide +kernel
theorem dX12_stayAll_42 : decode cX12_stayAll 42 = .ok (.goto 4, 3) := by decide +kernel
theorem dX12_stayAll_45 : decode cX12_stayAll 45 = .ok (.iconst 0, 1) := by decide +kernel
theorem dX12_stayAll_46 : decode cX12_stayAll 46 = .ok (.iconst 2, 1) := by decide +kernel
theorem dX12_stayAll_47 : decode cX12_stayAll 47 = .ok (.invokevirtual 55, 3) := by decide +kernel
theorem dX12_stayAll_50 : decode cX12_stayAll 50 = .ok (.ifCond .eq 5, 3) := by decide +kernel
theorem dX12_stayAll_53 : decode cX12_stayAll 53 = .ok (.iconst 0, 1) := by decide +kernel
theorem dX12_stayAll_54 : decode cX12_stayAll 54 = .ok (.ireturn, 1) := by decide +kernel
theorem dX12_stayAll_55 : decode cX12_stayAll 55 = .ok (.aload_n 0, 1) := by decide +kernel
theorem dX12_stayAll_56 : decode cX12_stayAll 56 = .ok (.invokevirtual 93, 3) := by decide +kernel
theorem dX12_stayAll_59 : decode cX12_stayAll 59 = .ok (.aload_n 0, 1) := by decide +kernel
theorem dX12_stayAll_60 : decode cX12_stayAll 60 = .ok (.iconst (-1), 1) := by decide +kernel
theorem dX12_stayAll_61 : decode cX12_stayAll 61 = .ok (.iload_n 1, 1) := by decide +kernel
theorem dX12_stayAll_62 : decode cX12_stayAll 62 = .ok (.invokevirtual 177, 3) := by decide +kernel
theorem dX12_stayAll_65 : decode cX12_stayAll 65 = .ok (.ireturn, 1) := by decide +kernel
theorem dX12_lift_0 : decode cX12_lift 0 = .ok (.aload_n 0, 1) := by decide +kernel
theorem dX12_lift_1 : decode cX12_lift 1 = .ok (.iconst 0, 1) := by decide +kernel
theorem dX12_lift_2 : decode cX12_lift 2 = .ok (.putfield 41, 3) := by decide +kernel
theorem dX12_lift_5 : decode cX12_lift 5 = .ok (.aload_n 0, 1) := by decide +kernel
theorem dX12_lift_6 : decode cX12_lift 6 = .ok (.iload_n 1, 1) := by decide +kernel
theorem dX12_lift_7 : decode cX12_lift 7 = .ok (.iconst 0, 1) := by decide +kernel
theorem dX12_lift_8 : decode cX12_lift 8 = .ok (.aload_n 0, 1) := by decide +kernel
theorem dX12_lift_9 : decode cX12_lift 9 = .ok (.getfield 9, 3) := by decide +kernel
theorem dX12_lift_12 : decode cX12_lift 12 = .ok (.iconst 4, 1) := by decide +kernel
theorem dX12_lift_13 : decode cX12_lift 13 = .ok (.iaload, 1) := by decide +kernel
theorem dX12_lift_14 : decode cX12_lift 14 = .ok (.iconst 1, 1) := by decide +kernel
theorem dX12_lift_15 : decode cX12_lift 15 = .ok (.isub, 1) := by decide +kernel
theorem dX12_lift_16 : decode cX12_lift 16 = .ok (.invokestatic 64, 3) := by decide +kernel
theorem dX12_lift_19 : decode cX12_lift 19 = .ok (.ifCond .ne 7, 3) := by decide +kernel
theorem dX12_lift_22 : decode cX12_lift 22 = .ok (.iconst 1, 1) := by decide +kernel
theorem dX12_lift_23 : decode cX12_lift 23 = .ok (.goto 4, 3) := by decide +kernel
theorem dX12_lift_26 : decode cX12_lift 26 = .ok (.iconst 0, 1) := by decide +kernel
theorem dX12_lift_27 : decode cX12_lift 27 = .ok (.iconst 1, 1) := by decide +kernel
theorem dX12_lift_28 : decode cX12_lift 28 = .ok (.invokevirtual 55, 3) := by decide +kernel
theorem dX12_lift_31 : decode cX12_lift 31 = .ok (.ifCond .ne 34, 3) := by decide +kernel
theorem dX12_lift_34 : decode cX12_lift 34 = .ok (.aload_n 0, 1) := by decide +kernel
theorem dX12_lift_35 : decode cX12_lift 35 = .ok (.aload_n 0, 1) := by decide +kernel
theorem dX12_lift_36 : decode cX12_lift 36 = .ok (.getfield 9, 3) := by decide +kernel
theorem dX12_lift_39 : decode cX12_lift 39 = .ok (.sipush 619, 3) := by decide +kernel
theorem dX12_lift_42 : decode cX12_lift 42 = .ok (.iconst 4, 1) := by decide +kernel
theorem dX12_lift_43 : decode cX12_lift 43 = .ok (.iload_n 1, 1) := by decide +kernel
theorem dX12_lift_44 : decode cX12_lift 44 = .ok (.imul, 1) := by decide +kernel
theorem dX12_lift_45 : decode cX12_lift 45 = .ok (.iadd, 1) := by decide +kernel
theorem dX12_lift_46 : decode cX12_lift 46 = .ok (.iconst 3, 1) := by decide +kernel
theorem dX12_lift_47 : decode cX12_lift 47 = .ok (.iadd, 1) := by decide +kernel
theorem dX12_lift_48 : decode cX12_lift 48 = .ok (.iaload, 1) := by decide +kernel
theorem dX12_lift_49 : decode cX12_lift 49 = .ok (.iconst (-1), 1) := by decide +kernel
theorem dX12_lift_50 : decode cX12_lift 50 = .ok (.if_icmp .eq 7, 3) := by decide +kernel
theorem dX12_lift_53 : decode cX12_lift 53 = .ok (.iconst 1, 1) := by decide +kernel
theorem dX12_lift_54 : decode cX12_lift 54 = .ok (.goto 4, 3) := by decide +kernel
theorem dX12_lift_57 : decode cX12_lift 57 = .ok (.iconst 0, 1) := by decide +kernel
theorem dX12_lift_58 : decode cX12_lift 58 = .ok (.iconst 2, 1) := by decide +kernel
theorem dX12_lift_59 : decode cX12_lift 59 = .ok (.invokevirtual 55, 3) := by decide +kernel
theorem dX12_lift_62 : decode cX12_lift 62 = .ok (.ifCond .eq 5, 3) := by decide +kernel
theorem dX12_lift_65 : decode cX12_lift 65 = .ok (.iconst 0, 1) := by decide +kernel
theorem dX12_lift_66 : decode cX12_lift 66 = .ok (.ireturn, 1) := by decide +kernel
theorem dX12_lift_67 : decode cX12_lift 67 = .ok (.aload_n 0, 1) := by decide +kernel
theorem dX12_lift_68 : decode cX12_lift 68 = .ok (.invokevirtual 93, 3) := by decide +kernel
theorem dX12_lift_71 : decode cX12_lift 71 = .ok (.aload_n 0, 1) := by decide +kernel
theorem dX12_lift_72 : decode cX12_lift 72 = .ok (.getfield 9, 3) := by decide +kernel
theorem dX12_lift_75 : decode cX12_lift 75 = .ok (.sipush 619, 3) := by decide +kernel
theorem dX12_lift_78 : decode cX12_lift 78 = .ok (.iconst 4, 1) := by decide +kernel
theorem dX12_lift_79 : decode cX12_lift 79 = .ok (.iload_n 1, 1) := by decide +kernel
theorem dX12_lift_80 : decode cX12_lift 80 = .ok (.imul, 1) := by decide +kernel
theorem dX12_lift_81 : decode cX12_lift 81 = .ok (.iadd, 1) := by decide +kernel
theorem dX12_lift_82 : decode cX12_lift 82 = .ok (.iconst 3, 1) := by decide +kernel
theorem dX12_lift_83 : decode cX12_lift 83 = .ok (.iadd, 1) := by decide +kernel
theorem dX12_lift_84 : decode cX12_lift 84 = .ok (.aload_n 0, 1) := by decide +kernel
theorem dX12_lift_85 : decode cX12_lift 85 = .ok (.getfield 9, 3) := by decide +kernel
theorem dX12_lift_88 : decode cX12_lift 88 = .ok (.iconst 0, 1) := by decide +kernel
theorem dX12_lift_89 : decode cX12_lift 89 = .ok (.iaload, 1) := by decide +kernel
theorem dX12_lift_90 : decode cX12_lift 90 = .ok (.iastore, 1) := by decide +kernel
theorem dX12_lift_91 : decode cX12_lift 91 = .ok (.aload_n 0, 1) := by decide +kernel
theorem dX12_lift_92 : decode cX12_lift 92 = .ok (.getfield 9, 3) := by decide +kernel
theorem dX12_lift_95 : decode cX12_lift 95 = .ok (.iconst 0, 1) := by decide +kernel
theorem dX12_lift_96 : decode cX12_lift 96 = .ok (.iaload, 1) := by decide +kernel
theorem dX12_lift_97 : decode cX12_lift 97 = .ok (.aload_n 0, 1) := by decide +kernel
theorem dX12_lift_98 : decode cX12_lift 98 = .ok (.getfield 9, 3) := by decide +kernel
theorem dX12_lift_101 : decode cX12_lift 101 = .ok (.sipush 619, 3) := by decide +kernel
theorem dX12_lift_104 : decode cX12_lift 104 = .ok (.iconst 4, 1) := by decide +kernel
theorem dX12_lift_105 : decode cX12_lift 105 = .ok (.iload_n 1, 1) := by decide +kernel
theorem dX12_lift_106 : decode cX12_lift 106 = .ok (.imul, 1) := by decide +kernel
theorem dX12_lift_107 : decode cX12_lift 107 = .ok (.iadd, 1) := by decide +kernel
theorem dX12_lift_108 : decode cX12_lift 108 = .ok (.iconst 2, 1) := by decide +kernel
theorem dX12_lift_109 : decode cX12_lift 109 = .ok (.iadd, 1) := by decide +kernel
theorem dX12_lift_110 : decode cX12_lift 110 = .ok (.iaload, 1) := by decide +kernel
theorem dX12_lift_111 : decode cX12_lift 111 = .ok (.isub, 1) := by decide +kernel
theorem dX12_lift_112 : decode cX12_lift 112 = .ok (.ireturn, 1) := by decide +kernel
theorem dX12_staysInForce_0 : decode cX12_staysInForce 0 = .ok (.aload_n 0, 1) := by decide +kernel
theorem dX12_staysInForce_1 : decode cX12_staysInForce 1 = .ok (.iconst 0, 1) := by decide +kernel
theorem dX12_staysInForce_2 : decode cX12_staysInForce 2 = .ok (.putfield 41, 3) := by decide +kernel
theorem dX12_staysInForce_5 : decode cX12_staysInForce 5 = .ok (.iconst 0, 1) := by decide +kernel
theorem dX12_staysInForce_6 : decode cX12_staysInForce 6 = .ok (.istore_n 1, 1) := by decide +kernel
theorem dX12_staysInForce_7 : decode cX12_staysInForce 7 = .ok (.iconst 0, 1) := by decide +kernel
theorem dX12_staysInForce_8 : decode cX12_staysInForce 8 = .ok (.istore_n 2, 1) := by decide +kernel
theorem dX12_staysInForce_9 : decode cX12_staysInForce 9 = .ok (.iload_n 2, 1) := by decide +kernel
theorem dX12_staysInForce_10 : decode cX12_staysInForce 10 = .ok (.aload_n 0, 1) := by decide +kernel
theorem dX12_staysInForce_11 : decode cX12_staysInForce 11 = .ok (.getfield 9, 3) := by decide +kernel
theorem dX12_staysInForce_14 : decode cX12_staysInForce 14 = .ok (.iconst 4, 1) := by decide +kernel
theorem dX12_staysInForce_15 : decode cX12_staysInForce 15 = .ok (.iaload, 1) := by decide +kernel
theorem dX12_staysInForce_16 : decode cX12_staysInForce 16 = .ok (.if_icmp .ge 35, 3) := by decide +kernel
theorem dX12_staysInForce_19 : decode cX12_staysInForce 19 = .ok (.iload_n 1, 1) := by decide +kernel
theorem dX12_staysInForce_20 : decode cX12_staysInForce 20 = .ok (.aload_n 0, 1) := by decide +kernel
theorem dX12_staysInForce_21 : decode cX12_staysInForce 21 = .ok (.getfield 9, 3) := by decide +kernel
theorem dX12_staysInForce_24 : decode cX12_staysInForce 24 = .ok (.sipush 619, 3) := by decide +kernel
theorem dX12_staysInForce_27 : decode cX12_staysInForce 27 = .ok (.iconst 4, 1) := by decide +kernel
theorem dX12_staysInForce_28 : decode cX12_staysInForce 28 = .ok (.iload_n 2, 1) := by decide +kernel
theorem dX12_staysInForce_29 : decode cX12_staysInForce 29 = .ok (.imul, 1) := by decide +kernel
theorem dX12_staysInForce_30 : decode cX12_staysInForce 30 = .ok (.iadd, 1) := by decide +kernel
theorem dX12_staysInForce_31 : decode cX12_staysInForce 31 = .ok (.iconst 3, 1) := by decide +kernel
theorem dX12_staysInForce_32 : decode cX12_staysInForce 32 = .ok (.iadd, 1) := by decide +kernel
theorem dX12_staysInForce_33 : decode cX12_staysInForce 33 = .ok (.iaload, 1) := by decide +kernel
theorem dX12_staysInForce_34 : decode cX12_staysInForce 34 = .ok (.iconst (-1), 1) := by decide +kernel
theorem dX12_staysInForce_35 : decode cX12_staysInForce 35 = .ok (.if_icmp .ne 7, 3) := by decide +kernel
theorem dX12_staysInForce_38 : decode cX12_staysInForce 38 = .ok (.iconst 1, 1) := by decide +kernel
theorem dX12_staysInForce_39 : decode cX12_staysInForce 39 = .ok (.goto 4, 3) := by decide +kernel
theorem dX12_staysInForce_42 : decode cX12_staysInForce 42 = .ok (.iconst 0, 1) := by decide +kernel
theorem dX12_staysInForce_43 : decode cX12_staysInForce 43 = .ok (.iadd, 1) := by decide +kernel
theorem dX12_staysInForce_44 : decode cX12_staysInForce 44 = .ok (.istore_n 1, 1) := by decide +kernel
theorem dX12_staysInForce_45 : decode cX12_staysInForce 45 = .ok (.iinc 2 1, 3) := by decide +kernel
theorem dX12_staysInForce_48 : decode cX12_staysInForce 48 = .ok (.goto (-39), 3) := by decide +kernel
theorem dX12_staysInForce_51 : decode cX12_staysInForce 51 = .ok (.iload_n 1, 1) := by decide +kernel
theorem dX12_staysInForce_52 : decode cX12_staysInForce 52 = .ok (.ireturn, 1) := by decide +kernel
theorem dX12_isStoppedOf_0 : decode cX12_isStoppedOf 0 = .ok (.aload_n 0, 1) := by decide +kernel
theorem dX12_isStoppedOf_1 : decode cX12_isStoppedOf 1 = .ok (.aload_n 0, 1) := by decide +kernel
theorem dX12_isStoppedOf_2 : decode cX12_isStoppedOf 2 = .ok (.iload_n 1, 1) := by decide +kernel
theorem dX12_isStoppedOf_3 : decode cX12_isStoppedOf 3 = .ok (.iconst 0, 1) := by decide +kernel
theorem dX12_isStoppedOf_4 : decode cX12_isStoppedOf 4 = .ok (.invokevirtual 131, 3) := by decide +kernel
theorem dX12_isStoppedOf_7 : decode cX12_isStoppedOf 7 = .ok (.aload_n 0, 1) := by decide +kernel
theorem dX12_isStoppedOf_8 : decode cX12_isStoppedOf 8 = .ok (.iload_n 1, 1) := by decide +kernel
theorem dX12_isStoppedOf_9 : decode cX12_isStoppedOf 9 = .ok (.iconst 1, 1) := by decide +kernel
theorem dX12_isStoppedOf_10 : decode cX12_isStoppedOf 10 = .ok (.invokevirtual 131, 3) := by decide +kernel
theorem dX12_isStoppedOf_13 : decode cX12_isStoppedOf 13 = .ok (.iload_n 2, 1) := by decide +kernel
theorem dX12_isStoppedOf_14 : decode cX12_isStoppedOf 14 = .ok (.invokevirtual 134, 3) := by decide +kernel
theorem dX12_isStoppedOf_17 : decode cX12_isStoppedOf 17 = .ok (.ireturn, 1) := by decide +kernel
theorem dX12_isStopped_0 : decode cX12_isStopped 0 = .ok (.aload_n 0, 1) := by decide +kernel
theorem dX12_isStopped_1 : decode cX12_isStopped 1 = .ok (.iconst 0, 1) := by decide +kernel
theorem dX12_isStopped_2 : decode cX12_isStopped 2 = .ok (.putfield 41, 3) := by decide +kernel
theorem dX12_isStopped_5 : decode cX12_isStopped 5 = .ok (.aload_n 0, 1) := by decide +kernel
theorem dX12_isStopped_6 : decode cX12_isStopped 6 = .ok (.aload_n 0, 1) := by decide +kernel
theorem dX12_isStopped_7 : decode cX12_isStopped 7 = .ok (.iload_n 1, 1) := by decide +kernel
theorem dX12_isStopped_8 : decode cX12_isStopped 8 = .ok (.invokevirtual 147, 3) := by decide +kernel
theorem dX12_isStopped_11 : decode cX12_isStopped 11 = .ok (.iconst 1, 1) := by decide +kernel
theorem dX12_isStopped_12 : decode cX12_isStopped 12 = .ok (.invokevirtual 55, 3) := by decide +kernel
theorem dX12_isStopped_15 : decode cX12_isStopped 15 = .ok (.ifCond .ne 36, 3) := by decide +kernel
theorem dX12_isStopped_18 : decode cX12_isStopped 18 = .ok (.aload_n 0, 1) := by decide +kernel
theorem dX12_isStopped_19 : decode cX12_isStopped 19 = .ok (.iload_n 2, 1) := by decide +kernel
theorem dX12_isStopped_20 : decode cX12_isStopped 20 = .ok (.invokestatic 106, 3) := by decide +kernel
theorem dX12_isStopped_23 : decode cX12_isStopped 23 = .ok (.ifCond .ne 7, 3) := by decide +kernel
theorem dX12_isStopped_26 : decode cX12_isStopped 26 = .ok (.iconst 1, 1) := by decide +kernel
theorem dX12_isStopped_27 : decode cX12_isStopped 27 = .ok (.goto 4, 3) := by decide +kernel
theorem dX12_isStopped_30 : decode cX12_isStopped 30 = .ok (.iconst 0, 1) := by decide +kernel
theorem dX12_isStopped_31 : decode cX12_isStopped 31 = .ok (.iconst 2, 1) := by decide +kernel
theorem dX12_isStopped_32 : decode cX12_isStopped 32 = .ok (.invokevirtual 55, 3) := by decide +kernel
theorem dX12_isStopped_35 : decode cX12_isStopped 35 = .ok (.ifCond .ne 16, 3) := by decide +kernel
theorem dX12_isStopped_38 : decode cX12_isStopped 38 = .ok (.aload_n 0, 1) := by decide +kernel
theorem dX12_isStopped_39 : decode cX12_isStopped 39 = .ok (.iload_n 1, 1) := by decide +kernel
theorem dX12_isStopped_40 : decode cX12_isStopped 40 = .ok (.iload_n 2, 1) := by decide +kernel
theorem dX12_isStopped_41 : decode cX12_isStopped 41 = .ok (.invokevirtual 180, 3) := by decide +kernel
theorem dX12_isStopped_44 : decode cX12_isStopped 44 = .ok (.ifCond .eq 7, 3) := by decide +kernel
theorem dX12_isStopped_47 : decode cX12_isStopped 47 = .ok (.iconst 1, 1) := by decide +kernel
theorem dX12_isStopped_48 : decode cX12_isStopped 48 = .ok (.goto 4, 3) := by decide +kernel
theorem dX12_isStopped_51 : decode cX12_isStopped 51 = .ok (.iconst 0, 1) := by decide +kernel
theorem dX12_isStopped_52 : decode cX12_isStopped 52 = .ok (.ireturn, 1) := by decide +kernel
theorem dX12_stoppedDays_0 : decode cX12_stoppedDays 0 = .ok (.aload_n 0, 1) := by decide +kernel
theorem dX12_stoppedDays_1 : decode cX12_stoppedDays 1 = .ok (.iconst 0, 1) := by decide +kernel
theorem dX12_stoppedDays_2 : decode cX12_stoppedDays 2 = .ok (.putfield 41, 3) := by decide +kernel
theorem dX12_stoppedDays_5 : decode cX12_stoppedDays 5 = .ok (.aload_n 0, 1) := by decide +kernel
theorem dX12_stoppedDays_6 : decode cX12_stoppedDays 6 = .ok (.aload_n 0, 1) := by decide +kernel
theorem dX12_stoppedDays_7 : decode cX12_stoppedDays 7 = .ok (.iload_n 1, 1) := by decide +kernel
theorem dX12_stoppedDays_8 : decode cX12_stoppedDays 8 = .ok (.invokevirtual 147, 3) := by decide +kernel
theorem dX12_stoppedDays_11 : decode cX12_stoppedDays 11 = .ok (.iconst 1, 1) := by decide +kernel
theorem dX12_stoppedDays_12 : decode cX12_stoppedDays 12 = .ok (.invokevirtual 55, 3) := by decide +kernel
theorem dX12_stoppedDays_15 : decode cX12_stoppedDays 15 = .ok (.ifCond .ne 35, 3) := by decide +kernel
theorem dX12_stoppedDays_18 : decode cX12_stoppedDays 18 = .ok (.aload_n 0, 1) := by decide +kernel
theorem dX12_stoppedDays_19 : decode cX12_stoppedDays 19 = .ok (.iload_n 2, 1) := by decide +kernel
theorem dX12_stoppedDays_20 : decode cX12_stoppedDays 20 = .ok (.invokestatic 106, 3) := by decide +kernel
theorem dX12_stoppedDays_23 : decode cX12_stoppedDays 23 = .ok (.ifCond .eq 15, 3) := by decide +kernel
theorem dX12_stoppedDays_26 : decode cX12_stoppedDays 26 = .ok (.iload_n 3, 1) := by decide +kernel
theorem dX12_stoppedDays_27 : decode cX12_stoppedDays 27 = .ok (.invokestatic 106, 3) := by decide +kernel
theorem dX12_stoppedDays_30 : decode cX12_stoppedDays 30 = .ok (.ifCond .eq 8, 3) := by decide +kernel
theorem dX12_stoppedDays_33 : decode cX12_stoppedDays 33 = .ok (.iload_n 3, 1) := by decide +kernel
theorem dX12_stoppedDays_34 : decode cX12_stoppedDays 34 = .ok (.iload_n 2, 1) := by decide +kernel
theorem dX12_stoppedDays_35 : decode cX12_stoppedDays 35 = .ok (.if_icmp .ge 7, 3) := by decide +kernel
theorem dX12_stoppedDays_38 : decode cX12_stoppedDays 38 = .ok (.iconst 1, 1) := by decide +kernel
theorem dX12_stoppedDays_39 : decode cX12_stoppedDays 39 = .ok (.goto 4, 3) := by decide +kernel
theorem dX12_stoppedDays_42 : decode cX12_stoppedDays 42 = .ok (.iconst 0, 1) := by decide +kernel
theorem dX12_stoppedDays_43 : decode cX12_stoppedDays 43 = .ok (.iconst 2, 1) := by decide +kernel
theorem dX12_stoppedDays_44 : decode cX12_stoppedDays 44 = .ok (.invokevirtual 55, 3) := by decide +kernel
theorem dX12_stoppedDays_47 : decode cX12_stoppedDays 47 = .ok (.ifCond .eq 5, 3) := by decide +kernel
theorem dX12_stoppedDays_50 : decode cX12_stoppedDays 50 = .ok (.iconst 0, 1) := by decide +kernel
theorem dX12_stoppedDays_51 : decode cX12_stoppedDays 51 = .ok (.ireturn, 1) := by decide +kernel
theorem dX12_stoppedDays_52 : decode cX12_stoppedDays 52 = .ok (.iconst 0, 1) := by decide +kernel
theorem dX12_stoppedDays_53 : decode cX12_stoppedDays 53 = .ok (.istore 4, 2) := by decide +kernel
theorem dX12_stoppedDays_55 : decode cX12_stoppedDays 55 = .ok (.iload_n 2, 1) := by decide +kernel
theorem dX12_stoppedDays_56 : decode cX12_stoppedDays 56 = .ok (.istore 5, 2) := by decide +kernel
theorem dX12_stoppedDays_58 : decode cX12_stoppedDays 58 = .ok (.iload 5, 2) := by decide +kernel
theorem dX12_stoppedDays_60 : decode cX12_stoppedDays 60 = .ok (.iload_n 3, 1) := by decide +kernel
theorem dX12_stoppedDays_61 : decode cX12_stoppedDays 61 = .ok (.if_icmp .gt 29, 3) := by decide +kernel
theorem dX12_stoppedDays_64 : decode cX12_stoppedDays 64 = .ok (.iload 4, 2) := by decide +kernel
theorem dX12_stoppedDays_66 : decode cX12_stoppedDays 66 = .ok (.aload_n 0, 1) := by decide +kernel
theorem dX12_stoppedDays_67 : decode cX12_stoppedDays 67 = .ok (.iload_n 1, 1) := by decide +kernel
theorem dX12_stoppedDays_68 : decode cX12_stoppedDays 68 = .ok (.iload 5, 2) := by decide +kernel
theorem dX12_stoppedDays_70 : decode cX12_stoppedDays 70 = .ok (.invokevirtual 180, 3) := by decide +kernel
theorem dX12_stoppedDays_73 : decode cX12_stoppedDays 73 = .ok (.ifCond .eq 7, 3) := by decide +kernel
theorem dX12_stoppedDays_76 : decode cX12_stoppedDays 76 = .ok (.iconst 1, 1) := by decide +kernel
theorem dX12_stoppedDays_77 : decode cX12_stoppedDays 77 = .ok (.goto 4, 3) := by decide +kernel
theorem dX12_stoppedDays_80 : decode cX12_stoppedDays 80 = .ok (.iconst 0, 1) := by decide +kernel
theorem dX12_stoppedDays_81 : decode cX12_stoppedDays 81 = .ok (.iadd, 1) := by decide +kernel
theorem dX12_stoppedDays_82 : decode cX12_stoppedDays 82 = .ok (.istore 4, 2) := by decide +kernel
theorem dX12_stoppedDays_84 : decode cX12_stoppedDays 84 = .ok (.iinc 5 1, 3) := by decide +kernel
theorem dX12_stoppedDays_87 : decode cX12_stoppedDays 87 = .ok (.goto (-29), 3) := by decide +kernel
theorem dX12_stoppedDays_90 : decode cX12_stoppedDays 90 = .ok (.iload 4, 2) := by decide +kernel
theorem dX12_stoppedDays_92 : decode cX12_stoppedDays 92 = .ok (.ireturn, 1) := by decide +kernel
theorem dX12_stoppedDaysByMarking_0 : decode cX12_stoppedDaysByMarking 0 = .ok (.aload_n 0, 1) := by decide +kernel
theorem dX12_stoppedDaysByMarking_1 : decode cX12_stoppedDaysByMarking 1 = .ok (.iload_n 1, 1) := by decide +kernel
theorem dX12_stoppedDaysByMarking_2 : decode cX12_stoppedDaysByMarking 2 = .ok (.iload_n 2, 1) := by decide +kernel
theorem dX12_stoppedDaysByMarking_3 : decode cX12_stoppedDaysByMarking 3 = .ok (.iload_n 3, 1) := by decide +kernel
theorem dX12_stoppedDaysByMarking_4 : decode cX12_stoppedDaysByMarking 4 = .ok (.invokevirtual 184, 3) := by decide +kernel
theorem dX12_stoppedDaysByMarking_7 : decode cX12_stoppedDaysByMarking 7 = .ok (.ireturn, 1) := by decide +kernel
theorem dX12_occurrenceAt_0 : decode cX12_occurrenceAt 0 = .ok (.sipush 667, 3) := by decide +kernel
theorem dX12_occurrenceAt_3 : decode cX12_occurrenceAt 3 = .ok (.iconst 5, 1) := by decide +kernel
theorem dX12_occurrenceAt_4 : decode cX12_occurrenceAt 4 = .ok (.iload_n 0, 1) := by decide +kernel
theorem dX12_occurrenceAt_5 : decode cX12_occurrenceAt 5 = .ok (.imul, 1) := by decide +kernel
theorem dX12_occurrenceAt_6 : decode cX12_occurrenceAt 6 = .ok (.iadd, 1) := by decide +kernel
theorem dX12_occurrenceAt_7 : decode cX12_occurrenceAt 7 = .ok (.ireturn, 1) := by decide +kernel
theorem dX12_noOccurrence_0 : decode cX12_noOccurrence 0 = .ok (.iload_n 1, 1) := by decide +kernel
theorem dX12_noOccurrence_1 : decode cX12_noOccurrence 1 = .ok (.iconst 0, 1) := by decide +kernel
theorem dX12_noOccurrence_2 : decode cX12_noOccurrence 2 = .ok (.aload_n 0, 1) := by decide +kernel
theorem dX12_noOccurrence_3 : decode cX12_noOccurrence 3 = .ok (.getfield 9, 3) := by decide +kernel
theorem dX12_noOccurrence_6 : decode cX12_noOccurrence 6 = .ok (.iconst 5, 1) := by decide +kernel
theorem dX12_noOccurrence_7 : decode cX12_noOccurrence 7 = .ok (.iaload, 1) := by decide +kernel
theorem dX12_noOccurrence_8 : decode cX12_noOccurrence 8 = .ok (.iconst 1, 1) := by decide +kernel
theorem dX12_noOccurrence_9 : decode cX12_noOccurrence 9 = .ok (.isub, 1) := by decide +kernel
theorem dX12_noOccurrence_10 : decode cX12_noOccurrence 10 = .ok (.invokestatic 64, 3) := by decide +kernel
theorem dX12_noOccurrence_13 : decode cX12_noOccurrence 13 = .ok (.ifCond .ne 7, 3) := by decide +kernel
theorem dX12_noOccurrence_16 : decode cX12_noOccurrence 16 = .ok (.iconst 1, 1) := by decide +kernel
theorem dX12_noOccurrence_17 : decode cX12_noOccurrence 17 = .ok (.goto 4, 3) := by decide +kernel
theorem dX12_noOccurrence_20 : decode cX12_noOccurrence 20 = .ok (.iconst 0, 1) := by decide +kernel
theorem dX12_noOccurrence_21 : decode cX12_noOccurrence 21 = .ok (.ireturn, 1) := by decide +kernel
theorem dX12_addOccurrence_0 : decode cX12_addOccurrence 0 = .ok (.aload_n 0, 1) := by decide +kernel
theorem dX12_addOccurrence_1 : decode cX12_addOccurrence 1 = .ok (.iconst 0, 1) := by decide +kernel
theorem dX12_addOccurrence_2 : decode cX12_addOccurrence 2 = .ok (.putfield 41, 3) := by decide +kernel
theorem dX12_addOccurrence_5 : decode cX12_addOccurrence 5 = .ok (.aload_n 0, 1) := by decide +kernel
theorem dX12_addOccurrence_6 : decode cX12_addOccurrence 6 = .ok (.iload_n 1, 1) := by decide +kernel
theorem dX12_addOccurrence_7 : decode cX12_addOccurrence 7 = .ok (.iconst 0, 1) := by decide +kernel
theorem dX12_addOccurrence_8 : decode cX12_addOccurrence 8 = .ok (.aload_n 0, 1) := by decide +kernel
theorem dX12_addOccurrence_9 : decode cX12_addOccurrence 9 = .ok (.getfield 9, 3) := by decide +kernel
theorem dX12_addOccurrence_12 : decode cX12_addOccurrence 12 = .ok (.iconst 0, 1) := by decide +kernel
theorem dX12_addOccurrence_13 : decode cX12_addOccurrence 13 = .ok (.iaload, 1) := by decide +kernel
theorem dX12_addOccurrence_14 : decode cX12_addOccurrence 14 = .ok (.invokestatic 64, 3) := by decide +kernel
theorem dX12_addOccurrence_17 : decode cX12_addOccurrence 17 = .ok (.ifCond .ne 7, 3) := by decide +kernel
theorem dX12_addOccurrence_20 : decode cX12_addOccurrence 20 = .ok (.iconst 1, 1) := by decide +kernel
theorem dX12_addOccurrence_21 : decode cX12_addOccurrence 21 = .ok (.goto 4, 3) := by decide +kernel
theorem dX12_addOccurrence_24 : decode cX12_addOccurrence 24 = .ok (.iconst 0, 1) := by decide +kernel
theorem dX12_addOccurrence_25 : decode cX12_addOccurrence 25 = .ok (.iconst 1, 1) := by decide +kernel
theorem dX12_addOccurrence_26 : decode cX12_addOccurrence 26 = .ok (.invokevirtual 55, 3) := by decide +kernel
theorem dX12_addOccurrence_29 : decode cX12_addOccurrence 29 = .ok (.ifCond .ne 39, 3) := by decide +kernel
theorem dX12_addOccurrence_32 : decode cX12_addOccurrence 32 = .ok (.aload_n 0, 1) := by decide +kernel
theorem dX12_addOccurrence_33 : decode cX12_addOccurrence 33 = .ok (.iload_n 2, 1) := by decide +kernel
theorem dX12_addOccurrence_34 : decode cX12_addOccurrence 34 = .ok (.invokestatic 119, 3) := by decide +kernel
theorem dX12_addOccurrence_37 : decode cX12_addOccurrence 37 = .ok (.iconst 2, 1) := by decide +kernel
theorem dX12_addOccurrence_38 : decode cX12_addOccurrence 38 = .ok (.invokevirtual 55, 3) := by decide +kernel
theorem dX12_addOccurrence_41 : decode cX12_addOccurrence 41 = .ok (.ifCond .ne 27, 3) := by decide +kernel
theorem dX12_addOccurrence_44 : decode cX12_addOccurrence 44 = .ok (.aload_n 0, 1) := by decide +kernel
theorem dX12_addOccurrence_45 : decode cX12_addOccurrence 45 = .ok (.aload_n 0, 1) := by decide +kernel
theorem dX12_addOccurrence_46 : decode cX12_addOccurrence 46 = .ok (.getfield 9, 3) := by decide +kernel
theorem dX12_addOccurrence_49 : decode cX12_addOccurrence 49 = .ok (.iconst 5, 1) := by decide +kernel
theorem dX12_addOccurrence_50 : decode cX12_addOccurrence 50 = .ok (.iaload, 1) := by decide +kernel
theorem dX12_addOccurrence_51 : decode cX12_addOccurrence 51 = .ok (.bipush 8, 2) := by decide +kernel
theorem dX12_addOccurrence_53 : decode cX12_addOccurrence 53 = .ok (.if_icmp .ne 7, 3) := by decide +kernel
theorem dX12_addOccurrence_56 : decode cX12_addOccurrence 56 = .ok (.iconst 1, 1) := by decide +kernel
theorem dX12_addOccurrence_57 : decode cX12_addOccurrence 57 = .ok (.goto 4, 3) := by decide +kernel
theorem dX12_addOccurrence_60 : decode cX12_addOccurrence 60 = .ok (.iconst 0, 1) := by decide +kernel
theorem dX12_addOccurrence_61 : decode cX12_addOccurrence 61 = .ok (.iconst 3, 1) := by decide +kernel
theorem dX12_addOccurrence_62 : decode cX12_addOccurrence 62 = .ok (.invokevirtual 55, 3) := by decide +kernel
theorem dX12_addOccurrence_65 : decode cX12_addOccurrence 65 = .ok (.ifCond .eq 5, 3) := by decide +kernel
theorem dX12_addOccurrence_68 : decode cX12_addOccurrence 68 = .ok (.iconst 0, 1) := by decide +kernel
theorem dX12_addOccurrence_69 : decode cX12_addOccurrence 69 = .ok (.ireturn, 1) := by decide +kernel
theorem dX12_addOccurrence_70 : decode cX12_addOccurrence 70 = .ok (.aload_n 0, 1) := by decide +kernel
theorem dX12_addOccurrence_71 : decode cX12_addOccurrence 71 = .ok (.invokevirtual 93, 3) := by decide +kernel
theorem dX12_addOccurrence_74 : decode cX12_addOccurrence 74 = .ok (.aload_n 0, 1) := by decide +kernel
theorem dX12_addOccurrence_75 : decode cX12_addOccurrence 75 = .ok (.getfield 9, 3) := by decide +kernel
theorem dX12_addOccurrence_78 : decode cX12_addOccurrence 78 = .ok (.iconst 5, 1) := by decide +kernel
theorem dX12_addOccurrence_79 : decode cX12_addOccurrence 79 = .ok (.iaload, 1) := by decide +kernel
theorem dX12_addOccurrence_80 : decode cX12_addOccurrence 80 = .ok (.invokestatic 188, 3) := by decide +kernel
theorem dX12_addOccurrence_83 : decode cX12_addOccurrence 83 = .ok (.istore_n 3, 1) := by decide +kernel
theorem dX12_addOccurrence_84 : decode cX12_addOccurrence 84 = .ok (.aload_n 0, 1) := by decide +kernel
theorem dX12_addOccurrence_85 : decode cX12_addOccurrence 85 = .ok (.getfield 9, 3) := by decide +kernel
theorem dX12_addOccurrence_88 : decode cX12_addOccurrence 88 = .ok (.iload_n 3, 1) := by decide +kernel
theorem dX12_addOccurrence_89 : decode cX12_addOccurrence 89 = .ok (.iload_n 1, 1) := by decide +kernel
theorem dX12_addOccurrence_90 : decode cX12_addOccurrence 90 = .ok (.iastore, 1) := by decide +kernel
theorem dX12_addOccurrence_91 : decode cX12_addOccurrence 91 = .ok (.aload_n 0, 1) := by decide +kernel
theorem dX12_addOccurrence_92 : decode cX12_addOccurrence 92 = .ok (.getfield 9, 3) := by decide +kernel
theorem dX12_addOccurrence_95 : decode cX12_addOccurrence 95 = .ok (.iload_n 3, 1) := by decide +kernel
theorem dX12_addOccurrence_96 : decode cX12_addOccurrence 96 = .ok (.iconst 1, 1) := by decide +kernel
theorem dX12_addOccurrence_97 : decode cX12_addOccurrence 97 = .ok (.iadd, 1) := by decide +kernel
theorem dX12_addOccurrence_98 : decode cX12_addOccurrence 98 = .ok (.iload_n 2, 1) := by decide +kernel
theorem dX12_addOccurrence_99 : decode cX12_addOccurrence 99 = .ok (.iastore, 1) := by decide +kernel
theorem dX12_addOccurrence_100 : decode cX12_addOccurrence 100 = .ok (.aload_n 0, 1) := by decide +kernel
theorem dX12_addOccurrence_101 : decode cX12_addOccurrence 101 = .ok (.getfield 9, 3) := by decide +kernel
theorem dX12_addOccurrence_104 : decode cX12_addOccurrence 104 = .ok (.iload_n 3, 1) := by decide +kernel
theorem dX12_addOccurrence_105 : decode cX12_addOccurrence 105 = .ok (.iconst 2, 1) := by decide +kernel
theorem dX12_addOccurrence_106 : decode cX12_addOccurrence 106 = .ok (.iadd, 1) := by decide +kernel
theorem dX12_addOccurrence_107 : decode cX12_addOccurrence 107 = .ok (.aload_n 0, 1) := by decide +kernel
theorem dX12_addOccurrence_108 : decode cX12_addOccurrence 108 = .ok (.getfield 9, 3) := by decide +kernel
theorem dX12_addOccurrence_111 : decode cX12_addOccurrence 111 = .ok (.bipush 119, 2) := by decide +kernel
theorem dX12_addOccurrence_113 : decode cX12_addOccurrence 113 = .ok (.iconst 2, 1) := by decide +kernel
theorem dX12_addOccurrence_114 : decode cX12_addOccurrence 114 = .ok (.iload_n 2, 1) := by decide +kernel
theorem dX12_addOccurrence_115 : decode cX12_addOccurrence 115 = .ok (.imul, 1) := by decide +kernel
theorem dX12_addOccurrence_116 : decode cX12_addOccurrence 116 = .ok (.iadd, 1) := by decide +kernel
theorem dX12_addOccurrence_117 : decode cX12_addOccurrence 117 = .ok (.iaload, 1) := by decide +kernel
theorem dX12_addOccurrence_118 : decode cX12_addOccurrence 118 = .ok (.iastore, 1) := by decide +kernel
theorem dX12_addOccurrence_119 : decode cX12_addOccurrence 119 = .ok (.aload_n 0, 1) := by decide +kernel
theorem dX12_addOccurrence_120 : decode cX12_addOccurrence 120 = .ok (.getfield 9, 3) := by decide +kernel
theorem dX12_addOccurrence_123 : decode cX12_addOccurrence 123 = .ok (.iload_n 3, 1) := by decide +kernel
theorem dX12_addOccurrence_124 : decode cX12_addOccurrence 124 = .ok (.iconst 3, 1) := by decide +kernel
theorem dX12_addOccurrence_125 : decode cX12_addOccurrence 125 = .ok (.iadd, 1) := by decide +kernel
theorem dX12_addOccurrence_126 : decode cX12_addOccurrence 126 = .ok (.aload_n 0, 1) := by decide +kernel
theorem dX12_addOccurrence_127 : decode cX12_addOccurrence 127 = .ok (.getfield 9, 3) := by decide +kernel
theorem dX12_addOccurrence_130 : decode cX12_addOccurrence 130 = .ok (.bipush 119, 2) := by decide +kernel
theorem dX12_addOccurrence_132 : decode cX12_addOccurrence 132 = .ok (.iconst 2, 1) := by decide +kernel
theorem dX12_addOccurrence_133 : decode cX12_addOccurrence 133 = .ok (.iload_n 2, 1) := by decide +kernel
theorem dX12_addOccurrence_134 : decode cX12_addOccurrence 134 = .ok (.imul, 1) := by decide +kernel
theorem dX12_addOccurrence_135 : decode cX12_addOccurrence 135 = .ok (.iadd, 1) := by decide +kernel
theorem dX12_addOccurrence_136 : decode cX12_addOccurrence 136 = .ok (.iconst 1, 1) := by decide +kernel
theorem dX12_addOccurrence_137 : decode cX12_addOccurrence 137 = .ok (.iadd, 1) := by decide +kernel
theorem dX12_addOccurrence_138 : decode cX12_addOccurrence 138 = .ok (.iaload, 1) := by decide +kernel
theorem dX12_addOccurrence_139 : decode cX12_addOccurrence 139 = .ok (.iastore, 1) := by decide +kernel
theorem dX12_addOccurrence_140 : decode cX12_addOccurrence 140 = .ok (.aload_n 0, 1) := by decide +kernel
theorem dX12_addOccurrence_141 : decode cX12_addOccurrence 141 = .ok (.getfield 9, 3) := by decide +kernel
theorem dX12_addOccurrence_144 : decode cX12_addOccurrence 144 = .ok (.iload_n 3, 1) := by decide +kernel
theorem dX12_addOccurrence_145 : decode cX12_addOccurrence 145 = .ok (.iconst 4, 1) := by decide +kernel
theorem dX12_addOccurrence_146 : decode cX12_addOccurrence 146 = .ok (.iadd, 1) := by decide +kernel
theorem dX12_addOccurrence_147 : decode cX12_addOccurrence 147 = .ok (.iconst 0, 1) := by decide +kernel
theorem dX12_addOccurrence_148 : decode cX12_addOccurrence 148 = .ok (.iastore, 1) := by decide +kernel
theorem dX12_addOccurrence_149 : decode cX12_addOccurrence 149 = .ok (.aload_n 0, 1) := by decide +kernel
theorem dX12_addOccurrence_150 : decode cX12_addOccurrence 150 = .ok (.getfield 9, 3) := by decide +kernel
theorem dX12_addOccurrence_153 : decode cX12_addOccurrence 153 = .ok (.iconst 5, 1) := by decide +kernel
theorem dX12_addOccurrence_154 : decode cX12_addOccurrence 154 = .ok (.dup2, 1) := by decide +kernel
theorem dX12_addOccurrence_155 : decode cX12_addOccurrence 155 = .ok (.iaload, 1) := by decide +kernel
theorem dX12_addOccurrence_156 : decode cX12_addOccurrence 156 = .ok (.iconst 1, 1) := by decide +kernel
theorem dX12_addOccurrence_157 : decode cX12_addOccurrence 157 = .ok (.iadd, 1) := by decide +kernel
theorem dX12_addOccurrence_158 : decode cX12_addOccurrence 158 = .ok (.iastore, 1) := by decide +kernel
theorem dX12_addOccurrence_159 : decode cX12_addOccurrence 159 = .ok (.aload_n 0, 1) := by decide +kernel
theorem dX12_addOccurrence_160 : decode cX12_addOccurrence 160 = .ok (.getfield 9, 3) := by decide +kernel
theorem dX12_addOccurrence_163 : decode cX12_addOccurrence 163 = .ok (.iconst 5, 1) := by decide +kernel
theorem dX12_addOccurrence_164 : decode cX12_addOccurrence 164 = .ok (.iaload, 1) := by decide +kernel
theorem dX12_addOccurrence_165 : decode cX12_addOccurrence 165 = .ok (.iconst 1, 1) := by decide +kernel
theorem dX12_addOccurrence_166 : decode cX12_addOccurrence 166 = .ok (.isub, 1) := by decide +kernel
theorem dX12_addOccurrence_167 : decode cX12_addOccurrence 167 = .ok (.ireturn, 1) := by decide +kernel
theorem dX12_conduct_0 : decode cX12_conduct 0 = .ok (.iconst 1, 1) := by decide +kernel
theorem dX12_conduct_1 : decode cX12_conduct 1 = .ok (.iload_n 1, 1) := by decide +kernel
theorem dX12_conduct_2 : decode cX12_conduct 2 = .ok (.ishl, 1) := by decide +kernel
theorem dX12_conduct_3 : decode cX12_conduct 3 = .ok (.istore_n 2, 1) := by decide +kernel
theorem dX12_conduct_4 : decode cX12_conduct 4 = .ok (.iconst 0, 1) := by decide +kernel
theorem dX12_conduct_5 : decode cX12_conduct 5 = .ok (.istore_n 3, 1) := by decide +kernel
theorem dX12_conduct_6 : decode cX12_conduct 6 = .ok (.iload_n 3, 1) := by decide +kernel
theorem dX12_conduct_7 : decode cX12_conduct 7 = .ok (.bipush 8, 2) := by decide +kernel
theorem dX12_conduct_9 : decode cX12_conduct 9 = .ok (.if_icmp .ge 58, 3) := by decide +kernel
theorem dX12_conduct_12 : decode cX12_conduct 12 = .ok (.iconst 0, 1) := by decide +kernel
theorem dX12_conduct_13 : decode cX12_conduct 13 = .ok (.istore 4, 2) := by decide +kernel
theorem dX12_conduct_15 : decode cX12_conduct 15 = .ok (.iload 4, 2) := by decide +kernel
theorem dX12_conduct_17 : decode cX12_conduct 17 = .ok (.aload_n 0, 1) := by decide +kernel
theorem dX12_conduct_18 : decode cX12_conduct 18 = .ok (.getfield 9, 3) := by decide +kernel
theorem dX12_conduct_21 : decode cX12_conduct 21 = .ok (.iconst 5, 1) := by decide +kernel
theorem dX12_conduct_22 : decode cX12_conduct 22 = .ok (.iaload, 1) := by decide +kernel
theorem dX12_conduct_23 : decode cX12_conduct 23 = .ok (.if_icmp .ge 38, 3) := by decide +kernel
theorem dX12_conduct_26 : decode cX12_conduct 26 = .ok (.iload_n 2, 1) := by decide +kernel
theorem dX12_conduct_27 : decode cX12_conduct 27 = .ok (.iload_n 2, 1) := by decide +kernel
theorem dX12_conduct_28 : decode cX12_conduct 28 = .ok (.iload 4, 2) := by decide +kernel
theorem dX12_conduct_30 : decode cX12_conduct 30 = .ok (.ishr, 1) := by decide +kernel
theorem dX12_conduct_31 : decode cX12_conduct 31 = .ok (.iconst 1, 1) := by decide +kernel
theorem dX12_conduct_32 : decode cX12_conduct 32 = .ok (.iand, 1) := by decide +kernel
theorem dX12_conduct_33 : decode cX12_conduct 33 = .ok (.iconst 1, 1) := by decide +kernel
theorem dX12_conduct_34 : decode cX12_conduct 34 = .ok (.if_icmp .ne 18, 3) := by decide +kernel
theorem dX12_conduct_37 : decode cX12_conduct 37 = .ok (.aload_n 0, 1) := by decide +kernel
theorem dX12_conduct_38 : decode cX12_conduct 38 = .ok (.getfield 9, 3) := by decide +kernel
theorem dX12_conduct_41 : decode cX12_conduct 41 = .ok (.iload 4, 2) := by decide +kernel
theorem dX12_conduct_43 : decode cX12_conduct 43 = .ok (.invokestatic 188, 3) := by decide +kernel
theorem dX12_conduct_46 : decode cX12_conduct 46 = .ok (.iconst 4, 1) := by decide +kernel
theorem dX12_conduct_47 : decode cX12_conduct 47 = .ok (.iadd, 1) := by decide +kernel
theorem dX12_conduct_48 : decode cX12_conduct 48 = .ok (.iaload, 1) := by decide +kernel
theorem dX12_conduct_49 : decode cX12_conduct 49 = .ok (.goto 4, 3) := by decide +kernel
theorem dX12_conduct_52 : decode cX12_conduct 52 = .ok (.iconst 0, 1) := by decide +kernel
theorem dX12_conduct_53 : decode cX12_conduct 53 = .ok (.ior, 1) := by decide +kernel
theorem dX12_conduct_54 : decode cX12_conduct 54 = .ok (.istore_n 2, 1) := by decide +kernel
theorem dX12_conduct_55 : decode cX12_conduct 55 = .ok (.iinc 4 1, 3) := by decide +kernel
theorem dX12_conduct_58 : decode cX12_conduct 58 = .ok (.goto (-43), 3) := by decide +kernel
theorem dX12_conduct_61 : decode cX12_conduct 61 = .ok (.iinc 3 1, 3) := by decide +kernel
theorem dX12_conduct_64 : decode cX12_conduct 64 = .ok (.goto (-58), 3) := by decide +kernel
theorem dX12_conduct_67 : decode cX12_conduct 67 = .ok (.iload_n 2, 1) := by decide +kernel
theorem dX12_conduct_68 : decode cX12_conduct 68 = .ok (.ireturn, 1) := by decide +kernel
theorem dX12_linkOccurrences_0 : decode cX12_linkOccurrences 0 = .ok (.aload_n 0, 1) := by decide +kernel
theorem dX12_linkOccurrences_1 : decode cX12_linkOccurrences 1 = .ok (.iconst 0, 1) := by decide +kernel
theorem dX12_linkOccurrences_2 : decode cX12_linkOccurrences 2 = .ok (.putfield 41, 3) := by decide +kernel
theorem dX12_linkOccurrences_5 : decode cX12_linkOccurrences 5 = .ok (.aload_n 0, 1) := by decide +kernel
theorem dX12_linkOccurrences_6 : decode cX12_linkOccurrences 6 = .ok (.aload_n 0, 1) := by decide +kernel
theorem dX12_linkOccurrences_7 : decode cX12_linkOccurrences 7 = .ok (.iload_n 1, 1) := by decide +kernel
theorem dX12_linkOccurrences_8 : decode cX12_linkOccurrences 8 = .ok (.invokevirtual 191, 3) := by decide +kernel
theorem dX12_linkOccurrences_11 : decode cX12_linkOccurrences 11 = .ok (.ifCond .ne 11, 3) := by decide +kernel
theorem dX12_linkOccurrences_14 : decode cX12_linkOccurrences 14 = .ok (.aload_n 0, 1) := by decide +kernel
theorem dX12_linkOccurrences_15 : decode cX12_linkOccurrences 15 = .ok (.iload_n 2, 1) := by decide +kernel
theorem dX12_linkOccurrences_16 : decode cX12_linkOccurrences 16 = .ok (.invokevirtual 191, 3) := by decide +kernel
theorem dX12_linkOccurrences_19 : decode cX12_linkOccurrences 19 = .ok (.ifCond .eq 7, 3) := by decide +kernel
theorem dX12_linkOccurrences_22 : decode cX12_linkOccurrences 22 = .ok (.iconst 1, 1) := by decide +kernel
theorem dX12_linkOccurrences_23 : decode cX12_linkOccurrences 23 = .ok (.goto 4, 3) := by decide +kernel
theorem dX12_linkOccurrences_26 : decode cX12_linkOccurrences 26 = .ok (.iconst 0, 1) := by decide +kernel
theorem dX12_linkOccurrences_27 : decode cX12_linkOccurrences 27 = .ok (.iconst 1, 1) := by decide +kernel
theorem dX12_linkOccurrences_28 : decode cX12_linkOccurrences 28 = .ok (.invokevirtual 55, 3) := by decide +kernel
theorem dX12_linkOccurrences_31 : decode cX12_linkOccurrences 31 = .ok (.ifCond .ne 53, 3) := by decide +kernel
theorem dX12_linkOccurrences_34 : decode cX12_linkOccurrences 34 = .ok (.aload_n 0, 1) := by decide +kernel
theorem dX12_linkOccurrences_35 : decode cX12_linkOccurrences 35 = .ok (.iload_n 1, 1) := by decide +kernel
theorem dX12_linkOccurrences_36 : decode cX12_linkOccurrences 36 = .ok (.iload_n 2, 1) := by decide +kernel
theorem dX12_linkOccurrences_37 : decode cX12_linkOccurrences 37 = .ok (.if_icmp .ne 7, 3) := by decide +kernel
theorem dX12_linkOccurrences_40 : decode cX12_linkOccurrences 40 = .ok (.iconst 1, 1) := by decide +kernel
theorem dX12_linkOccurrences_41 : decode cX12_linkOccurrences 41 = .ok (.goto 4, 3) := by decide +kernel
theorem dX12_linkOccurrences_44 : decode cX12_linkOccurrences 44 = .ok (.iconst 0, 1) := by decide +kernel
theorem dX12_linkOccurrences_45 : decode cX12_linkOccurrences 45 = .ok (.iconst 2, 1) := by decide +kernel
theorem dX12_linkOccurrences_46 : decode cX12_linkOccurrences 46 = .ok (.invokevirtual 55, 3) := by decide +kernel
theorem dX12_linkOccurrences_49 : decode cX12_linkOccurrences 49 = .ok (.ifCond .ne 35, 3) := by decide +kernel
theorem dX12_linkOccurrences_52 : decode cX12_linkOccurrences 52 = .ok (.aload_n 0, 1) := by decide +kernel
theorem dX12_linkOccurrences_53 : decode cX12_linkOccurrences 53 = .ok (.aload_n 0, 1) := by decide +kernel
theorem dX12_linkOccurrences_54 : decode cX12_linkOccurrences 54 = .ok (.getfield 9, 3) := by decide +kernel
theorem dX12_linkOccurrences_57 : decode cX12_linkOccurrences 57 = .ok (.iload_n 1, 1) := by decide +kernel
theorem dX12_linkOccurrences_58 : decode cX12_linkOccurrences 58 = .ok (.invokestatic 188, 3) := by decide +kernel
theorem dX12_linkOccurrences_61 : decode cX12_linkOccurrences 61 = .ok (.iconst 4, 1) := by decide +kernel
theorem dX12_linkOccurrences_62 : decode cX12_linkOccurrences 62 = .ok (.iadd, 1) := by decide +kernel
theorem dX12_linkOccurrences_63 : decode cX12_linkOccurrences 63 = .ok (.iaload, 1) := by decide +kernel
theorem dX12_linkOccurrences_64 : decode cX12_linkOccurrences 64 = .ok (.iload_n 2, 1) := by decide +kernel
theorem dX12_linkOccurrences_65 : decode cX12_linkOccurrences 65 = .ok (.ishr, 1) := by decide +kernel
theorem dX12_linkOccurrences_66 : decode cX12_linkOccurrences 66 = .ok (.iconst 1, 1) := by decide +kernel
theorem dX12_linkOccurrences_67 : decode cX12_linkOccurrences 67 = .ok (.iand, 1) := by decide +kernel
theorem dX12_linkOccurrences_68 : decode cX12_linkOccurrences 68 = .ok (.iconst 1, 1) := by decide +kernel
theorem dX12_linkOccurrences_69 : decode cX12_linkOccurrences 69 = .ok (.if_icmp .ne 7, 3) := by decide +kernel
theorem dX12_linkOccurrences_72 : decode cX12_linkOccurrences 72 = .ok (.iconst 1, 1) := by decide +kernel
theorem dX12_linkOccurrences_73 : decode cX12_linkOccurrences 73 = .ok (.goto 4, 3) := by decide +kernel
theorem dX12_linkOccurrences_76 : decode cX12_linkOccurrences 76 = .ok (.iconst 0, 1) := by decide +kernel
theorem dX12_linkOccurrences_77 : decode cX12_linkOccurrences 77 = .ok (.iconst 3, 1) := by decide +kernel
theorem dX12_linkOccurrences_78 : decode cX12_linkOccurrences 78 = .ok (.invokevirtual 55, 3) := by decide +kernel
theorem dX12_linkOccurrences_81 : decode cX12_linkOccurrences 81 = .ok (.ifCond .eq 5, 3) := by decide +kernel
theorem dX12_linkOccurrences_84 : decode cX12_linkOccurrences 84 = .ok (.iconst 0, 1) := by decide +kernel
theorem dX12_linkOccurrences_85 : decode cX12_linkOccurrences 85 = .ok (.ireturn, 1) := by decide +kernel
theorem dX12_linkOccurrences_86 : decode cX12_linkOccurrences 86 = .ok (.aload_n 0, 1) := by decide +kernel
theorem dX12_linkOccurrences_87 : decode cX12_linkOccurrences 87 = .ok (.invokevirtual 93, 3) := by decide +kernel
theorem dX12_linkOccurrences_90 : decode cX12_linkOccurrences 90 = .ok (.aload_n 0, 1) := by decide +kernel
theorem dX12_linkOccurrences_91 : decode cX12_linkOccurrences 91 = .ok (.getfield 9, 3) := by decide +kernel
theorem dX12_linkOccurrences_94 : decode cX12_linkOccurrences 94 = .ok (.iload_n 1, 1) := by decide +kernel
theorem dX12_linkOccurrences_95 : decode cX12_linkOccurrences 95 = .ok (.invokestatic 188, 3) := by decide +kernel
theorem dX12_linkOccurrences_98 : decode cX12_linkOccurrences 98 = .ok (.iconst 4, 1) := by decide +kernel
theorem dX12_linkOccurrences_99 : decode cX12_linkOccurrences 99 = .ok (.iadd, 1) := by decide +kernel
theorem dX12_linkOccurrences_100 : decode cX12_linkOccurrences 100 = .ok (.dup2, 1) := by decide +kernel
theorem dX12_linkOccurrences_101 : decode cX12_linkOccurrences 101 = .ok (.iaload, 1) := by decide +kernel
theorem dX12_linkOccurrences_102 : decode cX12_linkOccurrences 102 = .ok (.iconst 1, 1) := by decide +kernel
theorem dX12_linkOccurrences_103 : decode cX12_linkOccurrences 103 = .ok (.iload_n 2, 1) := by decide +kernel
theorem dX12_linkOccurrences_104 : decode cX12_linkOccurrences 104 = .ok (.ishl, 1) := by decide +kernel
theorem dX12_linkOccurrences_105 : decode cX12_linkOccurrences 105 = .ok (.ior, 1) := by decide +kernel
theorem dX12_linkOccurrences_106 : decode cX12_linkOccurrences 106 = .ok (.iastore, 1) := by decide +kernel
theorem dX12_linkOccurrences_107 : decode cX12_linkOccurrences 107 = .ok (.aload_n 0, 1) := by decide +kernel
theorem dX12_linkOccurrences_108 : decode cX12_linkOccurrences 108 = .ok (.getfield 9, 3) := by decide +kernel
theorem dX12_linkOccurrences_111 : decode cX12_linkOccurrences 111 = .ok (.iload_n 2, 1) := by decide +kernel
theorem dX12_linkOccurrences_112 : decode cX12_linkOccurrences 112 = .ok (.invokestatic 188, 3) := by decide +kernel
theorem dX12_linkOccurrences_115 : decode cX12_linkOccurrences 115 = .ok (.iconst 4, 1) := by decide +kernel
theorem dX12_linkOccurrences_116 : decode cX12_linkOccurrences 116 = .ok (.iadd, 1) := by decide +kernel
theorem dX12_linkOccurrences_117 : decode cX12_linkOccurrences 117 = .ok (.dup2, 1) := by decide +kernel
theorem dX12_linkOccurrences_118 : decode cX12_linkOccurrences 118 = .ok (.iaload, 1) := by decide +kernel
theorem dX12_linkOccurrences_119 : decode cX12_linkOccurrences 119 = .ok (.iconst 1, 1) := by decide +kernel
theorem dX12_linkOccurrences_120 : decode cX12_linkOccurrences 120 = .ok (.iload_n 1, 1) := by decide +kernel
theorem dX12_linkOccurrences_121 : decode cX12_linkOccurrences 121 = .ok (.ishl, 1) := by decide +kernel
theorem dX12_linkOccurrences_122 : decode cX12_linkOccurrences 122 = .ok (.ior, 1) := by decide +kernel
theorem dX12_linkOccurrences_123 : decode cX12_linkOccurrences 123 = .ok (.iastore, 1) := by decide +kernel
theorem dX12_linkOccurrences_124 : decode cX12_linkOccurrences 124 = .ok (.iconst 0, 1) := by decide +kernel
theorem dX12_linkOccurrences_125 : decode cX12_linkOccurrences 125 = .ok (.istore_n 3, 1) := by decide +kernel
theorem dX12_linkOccurrences_126 : decode cX12_linkOccurrences 126 = .ok (.iconst 0, 1) := by decide +kernel
theorem dX12_linkOccurrences_127 : decode cX12_linkOccurrences 127 = .ok (.istore 4, 2) := by decide +kernel
theorem dX12_linkOccurrences_129 : decode cX12_linkOccurrences 129 = .ok (.iload 4, 2) := by decide +kernel
theorem dX12_linkOccurrences_131 : decode cX12_linkOccurrences 131 = .ok (.aload_n 0, 1) := by decide +kernel
theorem dX12_linkOccurrences_132 : decode cX12_linkOccurrences 132 = .ok (.getfield 9, 3) := by decide +kernel
theorem dX12_linkOccurrences_135 : decode cX12_linkOccurrences 135 = .ok (.iconst 5, 1) := by decide +kernel
theorem dX12_linkOccurrences_136 : decode cX12_linkOccurrences 136 = .ok (.iaload, 1) := by decide +kernel
theorem dX12_linkOccurrences_137 : decode cX12_linkOccurrences 137 = .ok (.if_icmp .ge 33, 3) := by decide +kernel
theorem dX12_linkOccurrences_140 : decode cX12_linkOccurrences 140 = .ok (.iload_n 3, 1) := by decide +kernel
theorem dX12_linkOccurrences_141 : decode cX12_linkOccurrences 141 = .ok (.aload_n 0, 1) := by decide +kernel
theorem dX12_linkOccurrences_142 : decode cX12_linkOccurrences 142 = .ok (.iload 4, 2) := by decide +kernel
theorem dX12_linkOccurrences_144 : decode cX12_linkOccurrences 144 = .ok (.invokevirtual 194, 3) := by decide +kernel
theorem dX12_linkOccurrences_147 : decode cX12_linkOccurrences 147 = .ok (.iconst 1, 1) := by decide +kernel
theorem dX12_linkOccurrences_148 : decode cX12_linkOccurrences 148 = .ok (.iload 4, 2) := by decide +kernel
theorem dX12_linkOccurrences_150 : decode cX12_linkOccurrences 150 = .ok (.ishl, 1) := by decide +kernel
theorem dX12_linkOccurrences_151 : decode cX12_linkOccurrences 151 = .ok (.iconst 1, 1) := by decide +kernel
theorem dX12_linkOccurrences_152 : decode cX12_linkOccurrences 152 = .ok (.isub, 1) := by decide +kernel
theorem dX12_linkOccurrences_153 : decode cX12_linkOccurrences 153 = .ok (.iand, 1) := by decide +kernel
theorem dX12_linkOccurrences_154 : decode cX12_linkOccurrences 154 = .ok (.ifCond .ne 7, 3) := by decide +kernel
theorem dX12_linkOccurrences_157 : decode cX12_linkOccurrences 157 = .ok (.iconst 1, 1) := by decide +kernel
theorem dX12_linkOccurrences_158 : decode cX12_linkOccurrences 158 = .ok (.goto 4, 3) := by decide +kernel
theorem dX12_linkOccurrences_161 : decode cX12_linkOccurrences 161 = .ok (.iconst 0, 1) := by decide +kernel
theorem dX12_linkOccurrences_162 : decode cX12_linkOccurrences 162 = .ok (.iadd, 1) := by decide +kernel
theorem dX12_linkOccurrences_163 : decode cX12_linkOccurrences 163 = .ok (.istore_n 3, 1) := by decide +kernel
theorem dX12_linkOccurrences_164 : decode cX12_linkOccurrences 164 = .ok (.iinc 4 1, 3) := by decide +kernel
theorem dX12_linkOccurrences_167 : decode cX12_linkOccurrences 167 = .ok (.goto (-38), 3) := by decide +kernel
theorem dX12_linkOccurrences_170 : decode cX12_linkOccurrences 170 = .ok (.iload_n 3, 1) := by decide +kernel
theorem dX12_linkOccurrences_171 : decode cX12_linkOccurrences 171 = .ok (.ireturn, 1) := by decide +kernel
theorem dX12_sameConduct_0 : decode cX12_sameConduct 0 = .ok (.aload_n 0, 1) := by decide +kernel
theorem dX12_sameConduct_1 : decode cX12_sameConduct 1 = .ok (.iconst 0, 1) := by decide +kernel
theorem dX12_sameConduct_2 : decode cX12_sameConduct 2 = .ok (.putfield 41, 3) := by decide +kernel
theorem dX12_sameConduct_5 : decode cX12_sameConduct 5 = .ok (.aload_n 0, 1) := by decide +kernel
theorem dX12_sameConduct_6 : decode cX12_sameConduct 6 = .ok (.aload_n 0, 1) := by decide +kernel
theorem dX12_sameConduct_7 : decode cX12_sameConduct 7 = .ok (.iload_n 1, 1) := by decide +kernel
theorem dX12_sameConduct_8 : decode cX12_sameConduct 8 = .ok (.invokevirtual 191, 3) := by decide +kernel
theorem dX12_sameConduct_11 : decode cX12_sameConduct 11 = .ok (.ifCond .ne 11, 3) := by decide +kernel
theorem dX12_sameConduct_14 : decode cX12_sameConduct 14 = .ok (.aload_n 0, 1) := by decide +kernel
theorem dX12_sameConduct_15 : decode cX12_sameConduct 15 = .ok (.iload_n 2, 1) := by decide +kernel
theorem dX12_sameConduct_16 : decode cX12_sameConduct 16 = .ok (.invokevirtual 191, 3) := by decide +kernel
theorem dX12_sameConduct_19 : decode cX12_sameConduct 19 = .ok (.ifCond .eq 7, 3) := by decide +kernel
theorem dX12_sameConduct_22 : decode cX12_sameConduct 22 = .ok (.iconst 1, 1) := by decide +kernel
theorem dX12_sameConduct_23 : decode cX12_sameConduct 23 = .ok (.goto 4, 3) := by decide +kernel
theorem dX12_sameConduct_26 : decode cX12_sameConduct 26 = .ok (.iconst 0, 1) := by decide +kernel
theorem dX12_sameConduct_27 : decode cX12_sameConduct 27 = .ok (.iconst 1, 1) := by decide +kernel
theorem dX12_sameConduct_28 : decode cX12_sameConduct 28 = .ok (.invokevirtual 55, 3) := by decide +kernel
theorem dX12_sameConduct_31 : decode cX12_sameConduct 31 = .ok (.ifCond .ne 20, 3) := by decide +kernel
theorem dX12_sameConduct_34 : decode cX12_sameConduct 34 = .ok (.aload_n 0, 1) := by decide +kernel
theorem dX12_sameConduct_35 : decode cX12_sameConduct 35 = .ok (.iload_n 1, 1) := by decide +kernel
theorem dX12_sameConduct_36 : decode cX12_sameConduct 36 = .ok (.invokevirtual 194, 3) := by decide +kernel
theorem dX12_sameConduct_39 : decode cX12_sameConduct 39 = .ok (.iload_n 2, 1) := by decide +kernel
theorem dX12_sameConduct_40 : decode cX12_sameConduct 40 = .ok (.ishr, 1) := by decide +kernel
theorem dX12_sameConduct_41 : decode cX12_sameConduct 41 = .ok (.iconst 1, 1) := by decide +kernel
theorem dX12_sameConduct_42 : decode cX12_sameConduct 42 = .ok (.iand, 1) := by decide +kernel
theorem dX12_sameConduct_43 : decode cX12_sameConduct 43 = .ok (.iconst 1, 1) := by decide +kernel
theorem dX12_sameConduct_44 : decode cX12_sameConduct 44 = .ok (.if_icmp .ne 7, 3) := by decide +kernel
theorem dX12_sameConduct_47 : decode cX12_sameConduct 47 = .ok (.iconst 1, 1) := by decide +kernel
theorem dX12_sameConduct_48 : decode cX12_sameConduct 48 = .ok (.goto 4, 3) := by decide +kernel
theorem dX12_sameConduct_51 : decode cX12_sameConduct 51 = .ok (.iconst 0, 1) := by decide +kernel
theorem dX12_sameConduct_52 : decode cX12_sameConduct 52 = .ok (.ireturn, 1) := by decide +kernel
theorem dX12_sameConductBySearch_0 : decode cX12_sameConductBySearch 0 = .ok (.aload_n 0, 1) := by decide +kernel
theorem dX12_sameConductBySearch_1 : decode cX12_sameConductBySearch 1 = .ok (.iload_n 1, 1) := by decide +kernel
theorem dX12_sameConductBySearch_2 : decode cX12_sameConductBySearch 2 = .ok (.iload_n 2, 1) := by decide +kernel
theorem dX12_sameConductBySearch_3 : decode cX12_sameConductBySearch 3 = .ok (.invokevirtual 197, 3) := by decide +kernel
theorem dX12_sameConductBySearch_6 : decode cX12_sameConductBySearch 6 = .ok (.ireturn, 1) := by decide +kernel
theorem dX12_barOf_0 : decode cX12_barOf 0 = .ok (.iload_n 1, 1) := by decide +kernel
theorem dX12_barOf_1 : decode cX12_barOf 1 = .ok (.invokestatic 188, 3) := by decide +kernel
theorem dX12_barOf_4 : decode cX12_barOf 4 = .ok (.istore_n 2, 1) := by decide +kernel
theorem dX12_barOf_5 : decode cX12_barOf 5 = .ok (.aload_n 0, 1) := by decide +kernel
theorem dX12_barOf_6 : decode cX12_barOf 6 = .ok (.iconst (-1), 1) := by decide +kernel
theorem dX12_barOf_7 : decode cX12_barOf 7 = .ok (.aload_n 0, 1) := by decide +kernel
theorem dX12_barOf_8 : decode cX12_barOf 8 = .ok (.getfield 9, 3) := by decide +kernel
theorem dX12_barOf_11 : decode cX12_barOf 11 = .ok (.iload_n 2, 1) := by decide +kernel
theorem dX12_barOf_12 : decode cX12_barOf 12 = .ok (.iconst 1, 1) := by decide +kernel
theorem dX12_barOf_13 : decode cX12_barOf 13 = .ok (.iadd, 1) := by decide +kernel
theorem dX12_barOf_14 : decode cX12_barOf 14 = .ok (.iaload, 1) := by decide +kernel
theorem dX12_barOf_15 : decode cX12_barOf 15 = .ok (.aload_n 0, 1) := by decide +kernel
theorem dX12_barOf_16 : decode cX12_barOf 16 = .ok (.getfield 9, 3) := by decide +kernel
theorem dX12_barOf_19 : decode cX12_barOf 19 = .ok (.iload_n 2, 1) := by decide +kernel
theorem dX12_barOf_20 : decode cX12_barOf 20 = .ok (.iaload, 1) := by decide +kernel
theorem dX12_barOf_21 : decode cX12_barOf 21 = .ok (.aload_n 0, 1) := by decide +kernel
theorem dX12_barOf_22 : decode cX12_barOf 22 = .ok (.getfield 9, 3) := by decide +kernel
theorem dX12_barOf_25 : decode cX12_barOf 25 = .ok (.iload_n 2, 1) := by decide +kernel
theorem dX12_barOf_26 : decode cX12_barOf 26 = .ok (.iconst 2, 1) := by decide +kernel
theorem dX12_barOf_27 : decode cX12_barOf 27 = .ok (.iadd, 1) := by decide +kernel
theorem dX12_barOf_28 : decode cX12_barOf 28 = .ok (.iaload, 1) := by decide +kernel
theorem dX12_barOf_29 : decode cX12_barOf 29 = .ok (.aload_n 0, 1) := by decide +kernel
theorem dX12_barOf_30 : decode cX12_barOf 30 = .ok (.getfield 9, 3) := by decide +kernel
theorem dX12_barOf_33 : decode cX12_barOf 33 = .ok (.iload_n 2, 1) := by decide +kernel
theorem dX12_barOf_34 : decode cX12_barOf 34 = .ok (.iconst 3, 1) := by decide +kernel
theorem dX12_barOf_35 : decode cX12_barOf 35 = .ok (.iadd, 1) := by decide +kernel
theorem dX12_barOf_36 : decode cX12_barOf 36 = .ok (.iaload, 1) := by decide +kernel
theorem dX12_barOf_37 : decode cX12_barOf 37 = .ok (.iconst 1, 1) := by decide +kernel
theorem dX12_barOf_38 : decode cX12_barOf 38 = .ok (.if_icmp .ne 7, 3) := by decide +kernel
theorem dX12_barOf_41 : decode cX12_barOf 41 = .ok (.iconst 1, 1) := by decide +kernel
theorem dX12_barOf_42 : decode cX12_barOf 42 = .ok (.goto 4, 3) := by decide +kernel
theorem dX12_barOf_45 : decode cX12_barOf 45 = .ok (.iconst 0, 1) := by decide +kernel
theorem dX12_barOf_46 : decode cX12_barOf 46 = .ok (.invokevirtual 143, 3) := by decide +kernel
theorem dX12_barOf_49 : decode cX12_barOf 49 = .ok (.ireturn, 1) := by decide +kernel
theorem dX12_barDay_0 : decode cX12_barDay 0 = .ok (.aload_n 0, 1) := by decide +kernel
theorem dX12_barDay_1 : decode cX12_barDay 1 = .ok (.iconst 0, 1) := by decide +kernel
theorem dX12_barDay_2 : decode cX12_barDay 2 = .ok (.putfield 41, 3) := by decide +kernel
theorem dX12_barDay_5 : decode cX12_barDay 5 = .ok (.aload_n 0, 1) := by decide +kernel
theorem dX12_barDay_6 : decode cX12_barDay 6 = .ok (.aload_n 0, 1) := by decide +kernel
theorem dX12_barDay_7 : decode cX12_barDay 7 = .ok (.iload_n 1, 1) := by decide +kernel
theorem dX12_barDay_8 : decode cX12_barDay 8 = .ok (.invokevirtual 191, 3) := by decide +kernel
theorem dX12_barDay_11 : decode cX12_barDay 11 = .ok (.iconst 1, 1) := by decide +kernel
theorem dX12_barDay_12 : decode cX12_barDay 12 = .ok (.invokevirtual 55, 3) := by decide +kernel
theorem dX12_barDay_15 : decode cX12_barDay 15 = .ok (.ifCond .eq 5, 3) := by decide +kernel
theorem dX12_barDay_18 : decode cX12_barDay 18 = .ok (.iconst 0, 1) := by decide +kernel
theorem dX12_barDay_19 : decode cX12_barDay 19 = .ok (.ireturn, 1) := by decide +kernel
theorem dX12_barDay_20 : decode cX12_barDay 20 = .ok (.aload_n 0, 1) := by decide +kernel
theorem dX12_barDay_21 : decode cX12_barDay 21 = .ok (.iload_n 1, 1) := by decide +kernel
theorem dX12_barDay_22 : decode cX12_barDay 22 = .ok (.invokevirtual 200, 3) := by decide +kernel
theorem dX12_barDay_25 : decode cX12_barDay 25 = .ok (.istore_n 2, 1) := by decide +kernel
theorem dX12_barDay_26 : decode cX12_barDay 26 = .ok (.aload_n 0, 1) := by decide +kernel
theorem dX12_barDay_27 : decode cX12_barDay 27 = .ok (.iload_n 2, 1) := by decide +kernel
theorem dX12_barDay_28 : decode cX12_barDay 28 = .ok (.iconst (-1), 1) := by decide +kernel
theorem dX12_barDay_29 : decode cX12_barDay 29 = .ok (.if_icmp .ne 7, 3) := by decide +kernel
theorem dX12_barDay_32 : decode cX12_barDay 32 = .ok (.iconst 1, 1) := by decide +kernel
theorem dX12_barDay_33 : decode cX12_barDay 33 = .ok (.goto 4, 3) := by decide +kernel
theorem dX12_barDay_36 : decode cX12_barDay 36 = .ok (.iconst 0, 1) := by decide +kernel
theorem dX12_barDay_37 : decode cX12_barDay 37 = .ok (.iconst 2, 1) := by decide +kernel
theorem dX12_barDay_38 : decode cX12_barDay 38 = .ok (.invokevirtual 55, 3) := by decide +kernel
theorem dX12_barDay_41 : decode cX12_barDay 41 = .ok (.ifCond .eq 7, 3) := by decide +kernel
theorem dX12_barDay_44 : decode cX12_barDay 44 = .ok (.iconst 0, 1) := by decide +kernel
theorem dX12_barDay_45 : decode cX12_barDay 45 = .ok (.goto 4, 3) := by decide +kernel
theorem dX12_barDay_48 : decode cX12_barDay 48 = .ok (.iload_n 2, 1) := by decide +kernel
theorem dX12_barDay_49 : decode cX12_barDay 49 = .ok (.ireturn, 1) := by decide +kernel
theorem dX12_claimAt_0 : decode cX12_claimAt 0 = .ok (.sipush 707, 3) := by decide +kernel
theorem dX12_claimAt_3 : decode cX12_claimAt 3 = .ok (.iconst 4, 1) := by decide +kernel
theorem dX12_claimAt_4 : decode cX12_claimAt 4 = .ok (.iload_n 0, 1) := by decide +kernel
theorem dX12_claimAt_5 : decode cX12_claimAt 5 = .ok (.imul, 1) := by decide +kernel
theorem dX12_claimAt_6 : decode cX12_claimAt 6 = .ok (.iadd, 1) := by decide +kernel
theorem dX12_claimAt_7 : decode cX12_claimAt 7 = .ok (.ireturn, 1) := by decide +kernel
theorem dX12_noClaim_0 : decode cX12_noClaim 0 = .ok (.iload_n 1, 1) := by decide +kernel
theorem dX12_noClaim_1 : decode cX12_noClaim 1 = .ok (.iconst 0, 1) := by decide +kernel
theorem dX12_noClaim_2 : decode cX12_noClaim 2 = .ok (.aload_n 0, 1) := by decide +kernel
theorem dX12_noClaim_3 : decode cX12_noClaim 3 = .ok (.getfield 9, 3) := by decide +kernel
theorem dX12_noClaim_6 : decode cX12_noClaim 6 = .ok (.bipush 6, 2) := by decide +kernel
theorem dX12_noClaim_8 : decode cX12_noClaim 8 = .ok (.iaload, 1) := by decide +kernel
theorem dX12_noClaim_9 : decode cX12_noClaim 9 = .ok (.iconst 1, 1) := by decide +kernel
theorem dX12_noClaim_10 : decode cX12_noClaim 10 = .ok (.isub, 1) := by decide +kernel
theorem dX12_noClaim_11 : decode cX12_noClaim 11 = .ok (.invokestatic 64, 3) := by decide +kernel
theorem dX12_noClaim_14 : decode cX12_noClaim 14 = .ok (.ifCond .ne 7, 3) := by decide +kernel
theorem dX12_noClaim_17 : decode cX12_noClaim 17 = .ok (.iconst 1, 1) := by decide +kernel
theorem dX12_noClaim_18 : decode cX12_noClaim 18 = .ok (.goto 4, 3) := by decide +kernel
theorem dX12_noClaim_21 : decode cX12_noClaim 21 = .ok (.iconst 0, 1) := by decide +kernel
theorem dX12_noClaim_22 : decode cX12_noClaim 22 = .ok (.ireturn, 1) := by decide +kernel
theorem dX12_claim_0 : decode cX12_claim 0 = .ok (.aload_n 0, 1) := by decide +kernel
theorem dX12_claim_1 : decode cX12_claim 1 = .ok (.getfield 9, 3) := by decide +kernel
theorem dX12_claim_4 : decode cX12_claim 4 = .ok (.bipush 6, 2) := by decide +kernel
theorem dX12_claim_6 : decode cX12_claim 6 = .ok (.iaload, 1) := by decide +kernel
theorem dX12_claim_7 : decode cX12_claim 7 = .ok (.invokestatic 203, 3) := by decide +kernel
theorem dX12_claim_10 : decode cX12_claim 10 = .ok (.istore 4, 2) := by decide +kernel
theorem dX12_claim_12 : decode cX12_claim 12 = .ok (.aload_n 0, 1) := by decide +kernel
theorem dX12_claim_13 : decode cX12_claim 13 = .ok (.getfield 9, 3) := by decide +kernel
theorem dX12_claim_16 : decode cX12_claim 16 = .ok (.iload 4, 2) := by decide +kernel
theorem dX12_claim_18 : decode cX12_claim 18 = .ok (.iload_n 1, 1) := by decide +kernel
theorem dX12_claim_19 : decode cX12_claim 19 = .ok (.iastore, 1) := by decide +kernel
theorem dX12_claim_20 : decode cX12_claim 20 = .ok (.aload_n 0, 1) := by decide +kernel
theorem dX12_claim_21 : decode cX12_claim 21 = .ok (.getfield 9, 3) := by decide +kernel
theorem dX12_claim_24 : decode cX12_claim 24 = .ok (.iload 4, 2) := by decide +kernel
theorem dX12_claim_26 : decode cX12_claim 26 = .ok (.iconst 1, 1) := by decide +kernel
theorem dX12_claim_27 : decode cX12_claim 27 = .ok (.iadd, 1) := by decide +kernel
theorem dX12_claim_28 : decode cX12_claim 28 = .ok (.iload_n 2, 1) := by decide +kernel
theorem dX12_claim_29 : decode cX12_claim 29 = .ok (.iastore, 1) := by decide +kernel
theorem dX12_claim_30 : decode cX12_claim 30 = .ok (.aload_n 0, 1) := by decide +kernel
theorem dX12_claim_31 : decode cX12_claim 31 = .ok (.getfield 9, 3) := by decide +kernel
theorem dX12_claim_34 : decode cX12_claim 34 = .ok (.iload 4, 2) := by decide +kernel
theorem dX12_claim_36 : decode cX12_claim 36 = .ok (.iconst 2, 1) := by decide +kernel
theorem dX12_claim_37 : decode cX12_claim 37 = .ok (.iadd, 1) := by decide +kernel
theorem dX12_claim_38 : decode cX12_claim 38 = .ok (.aload_n 0, 1) := by decide +kernel
theorem dX12_claim_39 : decode cX12_claim 39 = .ok (.getfield 9, 3) := by decide +kernel
theorem dX12_claim_42 : decode cX12_claim 42 = .ok (.iconst 0, 1) := by decide +kernel
theorem dX12_claim_43 : decode cX12_claim 43 = .ok (.iaload, 1) := by decide +kernel
theorem dX12_claim_44 : decode cX12_claim 44 = .ok (.iastore, 1) := by decide +kernel
theorem dX12_claim_45 : decode cX12_claim 45 = .ok (.aload_n 0, 1) := by decide +kernel
theorem dX12_claim_46 : decode cX12_claim 46 = .ok (.getfield 9, 3) := by decide +kernel
theorem dX12_claim_49 : decode cX12_claim 49 = .ok (.iload 4, 2) := by decide +kernel
theorem dX12_claim_51 : decode cX12_claim 51 = .ok (.iconst 3, 1) := by decide +kernel
theorem dX12_claim_52 : decode cX12_claim 52 = .ok (.iadd, 1) := by decide +kernel
theorem dX12_claim_53 : decode cX12_claim 53 = .ok (.iload_n 3, 1) := by decide +kernel
theorem dX12_claim_54 : decode cX12_claim 54 = .ok (.iastore, 1) := by decide +kernel
theorem dX12_claim_55 : decode cX12_claim 55 = .ok (.aload_n 0, 1) := by decide +kernel
theorem dX12_claim_56 : decode cX12_claim 56 = .ok (.getfield 9, 3) := by decide +kernel
theorem dX12_claim_59 : decode cX12_claim 59 = .ok (.bipush 6, 2) := by decide +kernel
theorem dX12_claim_61 : decode cX12_claim 61 = .ok (.dup2, 1) := by decide +kernel
theorem dX12_claim_62 : decode cX12_claim 62 = .ok (.iaload, 1) := by decide +kernel
theorem dX12_claim_63 : decode cX12_claim 63 = .ok (.iconst 1, 1) := by decide +kernel
theorem dX12_claim_64 : decode cX12_claim 64 = .ok (.iadd, 1) := by decide +kernel
theorem dX12_claim_65 : decode cX12_claim 65 = .ok (.iastore, 1) := by decide +kernel
theorem dX12_claim_66 : decode cX12_claim 66 = .ok (.aload_n 0, 1) := by decide +kernel
theorem dX12_claim_67 : decode cX12_claim 67 = .ok (.getfield 9, 3) := by decide +kernel
theorem dX12_claim_70 : decode cX12_claim 70 = .ok (.bipush 6, 2) := by decide +kernel
theorem dX12_claim_72 : decode cX12_claim 72 = .ok (.iaload, 1) := by decide +kernel
theorem dX12_claim_73 : decode cX12_claim 73 = .ok (.iconst 1, 1) := by decide +kernel
theorem dX12_claim_74 : decode cX12_claim 74 = .ok (.isub, 1) := by decide +kernel
theorem dX12_claim_75 : decode cX12_claim 75 = .ok (.ireturn, 1) := by decide +kernel
theorem dX12_fileClaim_0 : decode cX12_fileClaim 0 = .ok (.aload_n 0, 1) := by decide +kernel
theorem dX12_fileClaim_1 : decode cX12_fileClaim 1 = .ok (.iconst 0, 1) := by decide +kernel
theorem dX12_fileClaim_2 : decode cX12_fileClaim 2 = .ok (.putfield 41, 3) := by decide +kernel
theorem dX12_fileClaim_5 : decode cX12_fileClaim 5 = .ok (.aload_n 0, 1) := by decide +kernel
theorem dX12_fileClaim_6 : decode cX12_fileClaim 6 = .ok (.aload_n 0, 1) := by decide +kernel
theorem dX12_fileClaim_7 : decode cX12_fileClaim 7 = .ok (.iload_n 1, 1) := by decide +kernel
theorem dX12_fileClaim_8 : decode cX12_fileClaim 8 = .ok (.invokevirtual 96, 3) := by decide +kernel
theorem dX12_fileClaim_11 : decode cX12_fileClaim 11 = .ok (.ifCond .ne 11, 3) := by decide +kernel
theorem dX12_fileClaim_14 : decode cX12_fileClaim 14 = .ok (.aload_n 0, 1) := by decide +kernel
theorem dX12_fileClaim_15 : decode cX12_fileClaim 15 = .ok (.iload_n 2, 1) := by decide +kernel
theorem dX12_fileClaim_16 : decode cX12_fileClaim 16 = .ok (.invokevirtual 191, 3) := by decide +kernel
theorem dX12_fileClaim_19 : decode cX12_fileClaim 19 = .ok (.ifCond .eq 7, 3) := by decide +kernel
theorem dX12_fileClaim_22 : decode cX12_fileClaim 22 = .ok (.iconst 1, 1) := by decide +kernel
theorem dX12_fileClaim_23 : decode cX12_fileClaim 23 = .ok (.goto 4, 3) := by decide +kernel
theorem dX12_fileClaim_26 : decode cX12_fileClaim 26 = .ok (.iconst 0, 1) := by decide +kernel
theorem dX12_fileClaim_27 : decode cX12_fileClaim 27 = .ok (.iconst 1, 1) := by decide +kernel
theorem dX12_fileClaim_28 : decode cX12_fileClaim 28 = .ok (.invokevirtual 55, 3) := by decide +kernel
theorem dX12_fileClaim_31 : decode cX12_fileClaim 31 = .ok (.ifCond .ne 28, 3) := by decide +kernel
theorem dX12_fileClaim_34 : decode cX12_fileClaim 34 = .ok (.aload_n 0, 1) := by decide +kernel
theorem dX12_fileClaim_35 : decode cX12_fileClaim 35 = .ok (.aload_n 0, 1) := by decide +kernel
theorem dX12_fileClaim_36 : decode cX12_fileClaim 36 = .ok (.getfield 9, 3) := by decide +kernel
theorem dX12_fileClaim_39 : decode cX12_fileClaim 39 = .ok (.bipush 6, 2) := by decide +kernel
theorem dX12_fileClaim_41 : decode cX12_fileClaim 41 = .ok (.iaload, 1) := by decide +kernel
theorem dX12_fileClaim_42 : decode cX12_fileClaim 42 = .ok (.bipush 20, 2) := by decide +kernel
theorem dX12_fileClaim_44 : decode cX12_fileClaim 44 = .ok (.if_icmp .ne 7, 3) := by decide +kernel
theorem dX12_fileClaim_47 : decode cX12_fileClaim 47 = .ok (.iconst 1, 1) := by decide +kernel
theorem dX12_fileClaim_48 : decode cX12_fileClaim 48 = .ok (.goto 4, 3) := by decide +kernel
theorem dX12_fileClaim_51 : decode cX12_fileClaim 51 = .ok (.iconst 0, 1) := by decide +kernel
theorem dX12_fileClaim_52 : decode cX12_fileClaim 52 = .ok (.iconst 2, 1) := by decide +kernel
theorem dX12_fileClaim_53 : decode cX12_fileClaim 53 = .ok (.invokevirtual 55, 3) := by decide +kernel
theorem dX12_fileClaim_56 : decode cX12_fileClaim 56 = .ok (.ifCond .eq 5, 3) := by decide +kernel
theorem dX12_fileClaim_59 : decode cX12_fileClaim 59 = .ok (.iconst 0, 1) := by decide +kernel
theorem dX12_fileClaim_60 : decode cX12_fileClaim 60 = .ok (.ireturn, 1) := by decide +kernel
theorem dX12_fileClaim_61 : decode cX12_fileClaim 61 = .ok (.aload_n 0, 1) := by decide +kernel
theorem dX12_fileClaim_62 : decode cX12_fileClaim 62 = .ok (.invokevirtual 93, 3) := by decide +kernel
theorem dX12_fileClaim_65 : decode cX12_fileClaim 65 = .ok (.aload_n 0, 1) := by decide +kernel
theorem dX12_fileClaim_66 : decode cX12_fileClaim 66 = .ok (.iload_n 1, 1) := by decide +kernel
theorem dX12_fileClaim_67 : decode cX12_fileClaim 67 = .ok (.iload_n 2, 1) := by decide +kernel
theorem dX12_fileClaim_68 : decode cX12_fileClaim 68 = .ok (.iconst (-1), 1) := by decide +kernel
theorem dX12_fileClaim_69 : decode cX12_fileClaim 69 = .ok (.invokevirtual 206, 3) := by decide +kernel
theorem dX12_fileClaim_72 : decode cX12_fileClaim 72 = .ok (.ireturn, 1) := by decide +kernel
theorem dX12_amendClaim_0 : decode cX12_amendClaim 0 = .ok (.aload_n 0, 1) := by decide +kernel
theorem dX12_amendClaim_1 : decode cX12_amendClaim 1 = .ok (.iconst 0, 1) := by decide +kernel
theorem dX12_amendClaim_2 : decode cX12_amendClaim 2 = .ok (.putfield 41, 3) := by decide +kernel
theorem dX12_amendClaim_5 : decode cX12_amendClaim 5 = .ok (.aload_n 0, 1) := by decide +kernel
theorem dX12_amendClaim_6 : decode cX12_amendClaim 6 = .ok (.aload_n 0, 1) := by decide +kernel
theorem dX12_amendClaim_7 : decode cX12_amendClaim 7 = .ok (.iload_n 1, 1) := by decide +kernel
theorem dX12_amendClaim_8 : decode cX12_amendClaim 8 = .ok (.invokevirtual 209, 3) := by decide +kernel
theorem dX12_amendClaim_11 : decode cX12_amendClaim 11 = .ok (.ifCond .ne 11, 3) := by decide +kernel
theorem dX12_amendClaim_14 : decode cX12_amendClaim 14 = .ok (.aload_n 0, 1) := by decide +kernel
theorem dX12_amendClaim_15 : decode cX12_amendClaim 15 = .ok (.iload_n 2, 1) := by decide +kernel
theorem dX12_amendClaim_16 : decode cX12_amendClaim 16 = .ok (.invokevirtual 191, 3) := by decide +kernel
theorem dX12_amendClaim_19 : decode cX12_amendClaim 19 = .ok (.ifCond .eq 7, 3) := by decide +kernel
theorem dX12_amendClaim_22 : decode cX12_amendClaim 22 = .ok (.iconst 1, 1) := by decide +kernel
theorem dX12_amendClaim_23 : decode cX12_amendClaim 23 = .ok (.goto 4, 3) := by decide +kernel
theorem dX12_amendClaim_26 : decode cX12_amendClaim 26 = .ok (.iconst 0, 1) := by decide +kernel
theorem dX12_amendClaim_27 : decode cX12_amendClaim 27 = .ok (.iconst 1, 1) := by decide +kernel
theorem dX12_amendClaim_28 : decode cX12_amendClaim 28 = .ok (.invokevirtual 55, 3) := by decide +kernel
theorem dX12_amendClaim_31 : decode cX12_amendClaim 31 = .ok (.ifCond .ne 28, 3) := by decide +kernel
theorem dX12_amendClaim_34 : decode cX12_amendClaim 34 = .ok (.aload_n 0, 1) := by decide +kernel
theorem dX12_amendClaim_35 : decode cX12_amendClaim 35 = .ok (.aload_n 0, 1) := by decide +kernel
theorem dX12_amendClaim_36 : decode cX12_amendClaim 36 = .ok (.getfield 9, 3) := by decide +kernel
theorem dX12_amendClaim_39 : decode cX12_amendClaim 39 = .ok (.bipush 6, 2) := by decide +kernel
theorem dX12_amendClaim_41 : decode cX12_amendClaim 41 = .ok (.iaload, 1) := by decide +kernel
theorem dX12_amendClaim_42 : decode cX12_amendClaim 42 = .ok (.bipush 20, 2) := by decide +kernel
theorem dX12_amendClaim_44 : decode cX12_amendClaim 44 = .ok (.if_icmp .ne 7, 3) := by decide +kernel
theorem dX12_amendClaim_47 : decode cX12_amendClaim 47 = .ok (.iconst 1, 1) := by decide +kernel
theorem dX12_amendClaim_48 : decode cX12_amendClaim 48 = .ok (.goto 4, 3) := by decide +kernel
theorem dX12_amendClaim_51 : decode cX12_amendClaim 51 = .ok (.iconst 0, 1) := by decide +kernel
theorem dX12_amendClaim_52 : decode cX12_amendClaim 52 = .ok (.iconst 2, 1) := by decide +kernel
theorem dX12_amendClaim_53 : decode cX12_amendClaim 53 = .ok (.invokevirtual 55, 3) := by decide +kernel
theorem dX12_amendClaim_56 : decode cX12_amendClaim 56 = .ok (.ifCond .eq 5, 3) := by decide +kernel
theorem dX12_amendClaim_59 : decode cX12_amendClaim 59 = .ok (.iconst 0, 1) := by decide +kernel
theorem dX12_amendClaim_60 : decode cX12_amendClaim 60 = .ok (.ireturn, 1) := by decide +kernel
theorem dX12_amendClaim_61 : decode cX12_amendClaim 61 = .ok (.aload_n 0, 1) := by decide +kernel
theorem dX12_amendClaim_62 : decode cX12_amendClaim 62 = .ok (.invokevirtual 93, 3) := by decide +kernel
theorem dX12_amendClaim_65 : decode cX12_amendClaim 65 = .ok (.aload_n 0, 1) := by decide +kernel
theorem dX12_amendClaim_66 : decode cX12_amendClaim 66 = .ok (.aload_n 0, 1) := by decide +kernel
theorem dX12_amendClaim_67 : decode cX12_amendClaim 67 = .ok (.getfield 9, 3) := by decide +kernel
theorem dX12_amendClaim_70 : decode cX12_amendClaim 70 = .ok (.iload_n 1, 1) := by decide +kernel
theorem dX12_amendClaim_71 : decode cX12_amendClaim 71 = .ok (.invokestatic 203, 3) := by decide +kernel
theorem dX12_amendClaim_74 : decode cX12_amendClaim 74 = .ok (.iaload, 1) := by decide +kernel
theorem dX12_amendClaim_75 : decode cX12_amendClaim 75 = .ok (.iload_n 2, 1) := by decide +kernel
theorem dX12_amendClaim_76 : decode cX12_amendClaim 76 = .ok (.iload_n 1, 1) := by decide +kernel
theorem dX12_amendClaim_77 : decode cX12_amendClaim 77 = .ok (.invokevirtual 206, 3) := by decide +kernel
theorem dX12_amendClaim_80 : decode cX12_amendClaim 80 = .ok (.ireturn, 1) := by decide +kernel
theorem dX12_effectiveOf_0 : decode cX12_effectiveOf 0 = .ok (.iload_n 1, 1) := by decide +kernel
theorem dX12_effectiveOf_1 : decode cX12_effectiveOf 1 = .ok (.istore_n 2, 1) := by decide +kernel
theorem dX12_effectiveOf_2 : decode cX12_effectiveOf 2 = .ok (.aload_n 0, 1) := by decide +kernel
theorem dX12_effectiveOf_3 : decode cX12_effectiveOf 3 = .ok (.getfield 9, 3) := by decide +kernel
theorem dX12_effectiveOf_6 : decode cX12_effectiveOf 6 = .ok (.iload_n 2, 1) := by decide +kernel
theorem dX12_effectiveOf_7 : decode cX12_effectiveOf 7 = .ok (.invokestatic 203, 3) := by decide +kernel
theorem dX12_effectiveOf_10 : decode cX12_effectiveOf 10 = .ok (.iconst 3, 1) := by decide +kernel
theorem dX12_effectiveOf_11 : decode cX12_effectiveOf 11 = .ok (.iadd, 1) := by decide +kernel
theorem dX12_effectiveOf_12 : decode cX12_effectiveOf 12 = .ok (.iaload, 1) := by decide +kernel
theorem dX12_effectiveOf_13 : decode cX12_effectiveOf 13 = .ok (.iconst (-1), 1) := by decide +kernel
theorem dX12_effectiveOf_14 : decode cX12_effectiveOf 14 = .ok (.if_icmp .eq 61, 3) := by decide +kernel
theorem dX12_effectiveOf_17 : decode cX12_effectiveOf 17 = .ok (.aload_n 0, 1) := by decide +kernel
theorem dX12_effectiveOf_18 : decode cX12_effectiveOf 18 = .ok (.aload_n 0, 1) := by decide +kernel
theorem dX12_effectiveOf_19 : decode cX12_effectiveOf 19 = .ok (.getfield 9, 3) := by decide +kernel
theorem dX12_effectiveOf_22 : decode cX12_effectiveOf 22 = .ok (.iload_n 2, 1) := by decide +kernel
theorem dX12_effectiveOf_23 : decode cX12_effectiveOf 23 = .ok (.invokestatic 203, 3) := by decide +kernel
theorem dX12_effectiveOf_26 : decode cX12_effectiveOf 26 = .ok (.iconst 1, 1) := by decide +kernel
theorem dX12_effectiveOf_27 : decode cX12_effectiveOf 27 = .ok (.iadd, 1) := by decide +kernel
theorem dX12_effectiveOf_28 : decode cX12_effectiveOf 28 = .ok (.iaload, 1) := by decide +kernel
theorem dX12_effectiveOf_29 : decode cX12_effectiveOf 29 = .ok (.invokevirtual 194, 3) := by decide +kernel
theorem dX12_effectiveOf_32 : decode cX12_effectiveOf 32 = .ok (.aload_n 0, 1) := by decide +kernel
theorem dX12_effectiveOf_33 : decode cX12_effectiveOf 33 = .ok (.getfield 9, 3) := by decide +kernel
theorem dX12_effectiveOf_36 : decode cX12_effectiveOf 36 = .ok (.aload_n 0, 1) := by decide +kernel
theorem dX12_effectiveOf_37 : decode cX12_effectiveOf 37 = .ok (.getfield 9, 3) := by decide +kernel
theorem dX12_effectiveOf_40 : decode cX12_effectiveOf 40 = .ok (.iload_n 2, 1) := by decide +kernel
theorem dX12_effectiveOf_41 : decode cX12_effectiveOf 41 = .ok (.invokestatic 203, 3) := by decide +kernel
theorem dX12_effectiveOf_44 : decode cX12_effectiveOf 44 = .ok (.iconst 3, 1) := by decide +kernel
theorem dX12_effectiveOf_45 : decode cX12_effectiveOf 45 = .ok (.iadd, 1) := by decide +kernel
theorem dX12_effectiveOf_46 : decode cX12_effectiveOf 46 = .ok (.iaload, 1) := by decide +kernel
theorem dX12_effectiveOf_47 : decode cX12_effectiveOf 47 = .ok (.invokestatic 203, 3) := by decide +kernel
theorem dX12_effectiveOf_50 : decode cX12_effectiveOf 50 = .ok (.iconst 1, 1) := by decide +kernel
theorem dX12_effectiveOf_51 : decode cX12_effectiveOf 51 = .ok (.iadd, 1) := by decide +kernel
theorem dX12_effectiveOf_52 : decode cX12_effectiveOf 52 = .ok (.iaload, 1) := by decide +kernel
theorem dX12_effectiveOf_53 : decode cX12_effectiveOf 53 = .ok (.ishr, 1) := by decide +kernel
theorem dX12_effectiveOf_54 : decode cX12_effectiveOf 54 = .ok (.iconst 1, 1) := by decide +kernel
theorem dX12_effectiveOf_55 : decode cX12_effectiveOf 55 = .ok (.iand, 1) := by decide +kernel
theorem dX12_effectiveOf_56 : decode cX12_effectiveOf 56 = .ok (.iconst 1, 1) := by decide +kernel
theorem dX12_effectiveOf_57 : decode cX12_effectiveOf 57 = .ok (.if_icmp .ne 18, 3) := by decide +kernel
theorem dX12_effectiveOf_60 : decode cX12_effectiveOf 60 = .ok (.aload_n 0, 1) := by decide +kernel
theorem dX12_effectiveOf_61 : decode cX12_effectiveOf 61 = .ok (.getfield 9, 3) := by decide +kernel
theorem dX12_effectiveOf_64 : decode cX12_effectiveOf 64 = .ok (.iload_n 2, 1) := by decide +kernel
theorem dX12_effectiveOf_65 : decode cX12_effectiveOf 65 = .ok (.invokestatic 203, 3) := by decide +kernel
theorem dX12_effectiveOf_68 : decode cX12_effectiveOf 68 = .ok (.iconst 3, 1) := by decide +kernel
theorem dX12_effectiveOf_69 : decode cX12_effectiveOf 69 = .ok (.iadd, 1) := by decide +kernel
theorem dX12_effectiveOf_70 : decode cX12_effectiveOf 70 = .ok (.iaload, 1) := by decide +kernel
theorem dX12_effectiveOf_71 : decode cX12_effectiveOf 71 = .ok (.istore_n 2, 1) := by decide +kernel
theorem dX12_effectiveOf_72 : decode cX12_effectiveOf 72 = .ok (.goto (-70), 3) := by decide +kernel
theorem dX12_effectiveOf_75 : decode cX12_effectiveOf 75 = .ok (.aload_n 0, 1) := by decide +kernel
theorem dX12_effectiveOf_76 : decode cX12_effectiveOf 76 = .ok (.getfield 9, 3) := by decide +kernel
theorem dX12_effectiveOf_79 : decode cX12_effectiveOf 79 = .ok (.iload_n 2, 1) := by decide +kernel
theorem dX12_effectiveOf_80 : decode cX12_effectiveOf 80 = .ok (.invokestatic 203, 3) := by decide +kernel
theorem dX12_effectiveOf_83 : decode cX12_effectiveOf 83 = .ok (.iconst 2, 1) := by decide +kernel
theorem dX12_effectiveOf_84 : decode cX12_effectiveOf 84 = .ok (.iadd, 1) := by decide +kernel
theorem dX12_effectiveOf_85 : decode cX12_effectiveOf 85 = .ok (.iaload, 1) := by decide +kernel
theorem dX12_effectiveOf_86 : decode cX12_effectiveOf 86 = .ok (.ireturn, 1) := by decide +kernel
theorem dX12_effectiveDay_0 : decode cX12_effectiveDay 0 = .ok (.aload_n 0, 1) := by decide +kernel
theorem dX12_effectiveDay_1 : decode cX12_effectiveDay 1 = .ok (.iconst 0, 1) := by decide +kernel
theorem dX12_effectiveDay_2 : decode cX12_effectiveDay 2 = .ok (.putfield 41, 3) := by decide +kernel
theorem dX12_effectiveDay_5 : decode cX12_effectiveDay 5 = .ok (.aload_n 0, 1) := by decide +kernel
theorem dX12_effectiveDay_6 : decode cX12_effectiveDay 6 = .ok (.aload_n 0, 1) := by decide +kernel
theorem dX12_effectiveDay_7 : decode cX12_effectiveDay 7 = .ok (.iload_n 1, 1) := by decide +kernel
theorem dX12_effectiveDay_8 : decode cX12_effectiveDay 8 = .ok (.invokevirtual 209, 3) := by decide +kernel
theorem dX12_effectiveDay_11 : decode cX12_effectiveDay 11 = .ok (.iconst 1, 1) := by decide +kernel
theorem dX12_effectiveDay_12 : decode cX12_effectiveDay 12 = .ok (.invokevirtual 55, 3) := by decide +kernel
theorem dX12_effectiveDay_15 : decode cX12_effectiveDay 15 = .ok (.ifCond .eq 7, 3) := by decide +kernel
theorem dX12_effectiveDay_18 : decode cX12_effectiveDay 18 = .ok (.iconst 0, 1) := by decide +kernel
theorem dX12_effectiveDay_19 : decode cX12_effectiveDay 19 = .ok (.goto 8, 3) := by decide +kernel
theorem dX12_effectiveDay_22 : decode cX12_effectiveDay 22 = .ok (.aload_n 0, 1) := by decide +kernel
theorem dX12_effectiveDay_23 : decode cX12_effectiveDay 23 = .ok (.iload_n 1, 1) := by decide +kernel
theorem dX12_effectiveDay_24 : decode cX12_effectiveDay 24 = .ok (.invokevirtual 212, 3) := by decide +kernel
theorem dX12_effectiveDay_27 : decode cX12_effectiveDay 27 = .ok (.ireturn, 1) := by decide +kernel
theorem dX12_isTimelyNow_0 : decode cX12_isTimelyNow 0 = .ok (.aload_n 0, 1) := by decide +kernel
theorem dX12_isTimelyNow_1 : decode cX12_isTimelyNow 1 = .ok (.aload_n 0, 1) := by decide +kernel
theorem dX12_isTimelyNow_2 : decode cX12_isTimelyNow 2 = .ok (.getfield 9, 3) := by decide +kernel
theorem dX12_isTimelyNow_5 : decode cX12_isTimelyNow 5 = .ok (.iload_n 1, 1) := by decide +kernel
theorem dX12_isTimelyNow_6 : decode cX12_isTimelyNow 6 = .ok (.invokestatic 203, 3) := by decide +kernel
theorem dX12_isTimelyNow_9 : decode cX12_isTimelyNow 9 = .ok (.iconst 1, 1) := by decide +kernel
theorem dX12_isTimelyNow_10 : decode cX12_isTimelyNow 10 = .ok (.iadd, 1) := by decide +kernel
theorem dX12_isTimelyNow_11 : decode cX12_isTimelyNow 11 = .ok (.iaload, 1) := by decide +kernel
theorem dX12_isTimelyNow_12 : decode cX12_isTimelyNow 12 = .ok (.invokevirtual 200, 3) := by decide +kernel
theorem dX12_isTimelyNow_15 : decode cX12_isTimelyNow 15 = .ok (.istore_n 2, 1) := by decide +kernel
theorem dX12_isTimelyNow_16 : decode cX12_isTimelyNow 16 = .ok (.iload_n 2, 1) := by decide +kernel
theorem dX12_isTimelyNow_17 : decode cX12_isTimelyNow 17 = .ok (.iconst (-1), 1) := by decide +kernel
theorem dX12_isTimelyNow_18 : decode cX12_isTimelyNow 18 = .ok (.if_icmp .eq 12, 3) := by decide +kernel
theorem dX12_isTimelyNow_21 : decode cX12_isTimelyNow 21 = .ok (.aload_n 0, 1) := by decide +kernel
theorem dX12_isTimelyNow_22 : decode cX12_isTimelyNow 22 = .ok (.iload_n 1, 1) := by decide +kernel
theorem dX12_isTimelyNow_23 : decode cX12_isTimelyNow 23 = .ok (.invokevirtual 212, 3) := by decide +kernel
theorem dX12_isTimelyNow_26 : decode cX12_isTimelyNow 26 = .ok (.iload_n 2, 1) := by decide +kernel
theorem dX12_isTimelyNow_27 : decode cX12_isTimelyNow 27 = .ok (.if_icmp .gt 7, 3) := by decide +kernel
theorem dX12_isTimelyNow_30 : decode cX12_isTimelyNow 30 = .ok (.iconst 1, 1) := by decide +kernel
theorem dX12_isTimelyNow_31 : decode cX12_isTimelyNow 31 = .ok (.goto 4, 3) := by decide +kernel
theorem dX12_isTimelyNow_34 : decode cX12_isTimelyNow 34 = .ok (.iconst 0, 1) := by decide +kernel
theorem dX12_isTimelyNow_35 : decode cX12_isTimelyNow 35 = .ok (.ireturn, 1) := by decide +kernel
theorem dX12_isTimely_0 : decode cX12_isTimely 0 = .ok (.aload_n 0, 1) := by decide +kernel
theorem dX12_isTimely_1 : decode cX12_isTimely 1 = .ok (.iconst 0, 1) := by decide +kernel
theorem dX12_isTimely_2 : decode cX12_isTimely 2 = .ok (.putfield 41, 3) := by decide +kernel
theorem dX12_isTimely_5 : decode cX12_isTimely 5 = .ok (.aload_n 0, 1) := by decide +kernel
theorem dX12_isTimely_6 : decode cX12_isTimely 6 = .ok (.aload_n 0, 1) := by decide +kernel
theorem dX12_isTimely_7 : decode cX12_isTimely 7 = .ok (.iload_n 1, 1) := by decide +kernel
theorem dX12_isTimely_8 : decode cX12_isTimely 8 = .ok (.invokevirtual 209, 3) := by decide +kernel
theorem dX12_isTimely_11 : decode cX12_isTimely 11 = .ok (.iconst 1, 1) := by decide +kernel
theorem dX12_isTimely_12 : decode cX12_isTimely 12 = .ok (.invokevirtual 55, 3) := by decide +kernel
theorem dX12_isTimely_15 : decode cX12_isTimely 15 = .ok (.ifCond .ne 15, 3) := by decide +kernel
theorem dX12_isTimely_18 : decode cX12_isTimely 18 = .ok (.aload_n 0, 1) := by decide +kernel
theorem dX12_isTimely_19 : decode cX12_isTimely 19 = .ok (.iload_n 1, 1) := by decide +kernel
theorem dX12_isTimely_20 : decode cX12_isTimely 20 = .ok (.invokevirtual 215, 3) := by decide +kernel
theorem dX12_isTimely_23 : decode cX12_isTimely 23 = .ok (.ifCond .eq 7, 3) := by decide +kernel
theorem dX12_isTimely_26 : decode cX12_isTimely 26 = .ok (.iconst 1, 1) := by decide +kernel
theorem dX12_isTimely_27 : decode cX12_isTimely 27 = .ok (.goto 4, 3) := by decide +kernel
theorem dX12_isTimely_30 : decode cX12_isTimely 30 = .ok (.iconst 0, 1) := by decide +kernel
theorem dX12_isTimely_31 : decode cX12_isTimely 31 = .ok (.ireturn, 1) := by decide +kernel
theorem dX12_timelyClaims_0 : decode cX12_timelyClaims 0 = .ok (.aload_n 0, 1) := by decide +kernel
theorem dX12_timelyClaims_1 : decode cX12_timelyClaims 1 = .ok (.iconst 0, 1) := by decide +kernel
theorem dX12_timelyClaims_2 : decode cX12_timelyClaims 2 = .ok (.putfield 41, 3) := by decide +kernel
theorem dX12_timelyClaims_5 : decode cX12_timelyClaims 5 = .ok (.aload_n 0, 1) := by decide +kernel
theorem dX12_timelyClaims_6 : decode cX12_timelyClaims 6 = .ok (.aload_n 0, 1) := by decide +kernel
theorem dX12_timelyClaims_7 : decode cX12_timelyClaims 7 = .ok (.iload_n 1, 1) := by decide +kernel
theorem dX12_timelyClaims_8 : decode cX12_timelyClaims 8 = .ok (.invokevirtual 96, 3) := by decide +kernel
theorem dX12_timelyClaims_11 : decode cX12_timelyClaims 11 = .ok (.iconst 1, 1) := by decide +kernel
theorem dX12_timelyClaims_12 : decode cX12_timelyClaims 12 = .ok (.invokevirtual 55, 3) := by decide +kernel
theorem dX12_timelyClaims_15 : decode cX12_timelyClaims 15 = .ok (.ifCond .eq 5, 3) := by decide +kernel
theorem dX12_timelyClaims_18 : decode cX12_timelyClaims 18 = .ok (.iconst 0, 1) := by decide +kernel
theorem dX12_timelyClaims_19 : decode cX12_timelyClaims 19 = .ok (.ireturn, 1) := by decide +kernel
theorem dX12_timelyClaims_20 : decode cX12_timelyClaims 20 = .ok (.iconst 0, 1) := by decide +kernel
theorem dX12_timelyClaims_21 : decode cX12_timelyClaims 21 = .ok (.istore_n 2, 1) := by decide +kernel
theorem dX12_timelyClaims_22 : decode cX12_timelyClaims 22 = .ok (.iconst 0, 1) := by decide +kernel
theorem dX12_timelyClaims_23 : decode cX12_timelyClaims 23 = .ok (.istore_n 3, 1) := by decide +kernel
theorem dX12_timelyClaims_24 : decode cX12_timelyClaims 24 = .ok (.iload_n 3, 1) := by decide +kernel
theorem dX12_timelyClaims_25 : decode cX12_timelyClaims 25 = .ok (.aload_n 0, 1) := by decide +kernel
theorem dX12_timelyClaims_26 : decode cX12_timelyClaims 26 = .ok (.getfield 9, 3) := by decide +kernel
theorem dX12_timelyClaims_29 : decode cX12_timelyClaims 29 = .ok (.bipush 6, 2) := by decide +kernel
theorem dX12_timelyClaims_31 : decode cX12_timelyClaims 31 = .ok (.iaload, 1) := by decide +kernel
theorem dX12_timelyClaims_32 : decode cX12_timelyClaims 32 = .ok (.if_icmp .ge 38, 3) := by decide +kernel
theorem dX12_timelyClaims_35 : decode cX12_timelyClaims 35 = .ok (.iload_n 2, 1) := by decide +kernel
theorem dX12_timelyClaims_36 : decode cX12_timelyClaims 36 = .ok (.aload_n 0, 1) := by decide +kernel
theorem dX12_timelyClaims_37 : decode cX12_timelyClaims 37 = .ok (.getfield 9, 3) := by decide +kernel
theorem dX12_timelyClaims_40 : decode cX12_timelyClaims 40 = .ok (.iload_n 3, 1) := by decide +kernel
theorem dX12_timelyClaims_41 : decode cX12_timelyClaims 41 = .ok (.invokestatic 203, 3) := by decide +kernel
theorem dX12_timelyClaims_44 : decode cX12_timelyClaims 44 = .ok (.iaload, 1) := by decide +kernel
theorem dX12_timelyClaims_45 : decode cX12_timelyClaims 45 = .ok (.iload_n 1, 1) := by decide +kernel
theorem dX12_timelyClaims_46 : decode cX12_timelyClaims 46 = .ok (.if_icmp .ne 15, 3) := by decide +kernel
theorem dX12_timelyClaims_49 : decode cX12_timelyClaims 49 = .ok (.aload_n 0, 1) := by decide +kernel
theorem dX12_timelyClaims_50 : decode cX12_timelyClaims 50 = .ok (.iload_n 3, 1) := by decide +kernel
theorem dX12_timelyClaims_51 : decode cX12_timelyClaims 51 = .ok (.invokevirtual 215, 3) := by decide +kernel
theorem dX12_timelyClaims_54 : decode cX12_timelyClaims 54 = .ok (.ifCond .eq 7, 3) := by decide +kernel
theorem dX12_timelyClaims_57 : decode cX12_timelyClaims 57 = .ok (.iconst 1, 1) := by decide +kernel
theorem dX12_timelyClaims_58 : decode cX12_timelyClaims 58 = .ok (.goto 4, 3) := by decide +kernel
theorem dX12_timelyClaims_61 : decode cX12_timelyClaims 61 = .ok (.iconst 0, 1) := by decide +kernel
theorem dX12_timelyClaims_62 : decode cX12_timelyClaims 62 = .ok (.iadd, 1) := by decide +kernel
theorem dX12_timelyClaims_63 : decode cX12_timelyClaims 63 = .ok (.istore_n 2, 1) := by decide +kernel
theorem dX12_timelyClaims_64 : decode cX12_timelyClaims 64 = .ok (.iinc 3 1, 3) := by decide +kernel
theorem dX12_timelyClaims_67 : decode cX12_timelyClaims 67 = .ok (.goto (-43), 3) := by decide +kernel
theorem dX12_timelyClaims_70 : decode cX12_timelyClaims 70 = .ok (.iload_n 2, 1) := by decide +kernel
theorem dX12_timelyClaims_71 : decode cX12_timelyClaims 71 = .ok (.ireturn, 1) := by decide +kernel
theorem dX12_putNumber_0 : decode cX12_putNumber 0 = .ok (.iconst 1, 1) := by decide +kernel
theorem dX12_putNumber_1 : decode cX12_putNumber 1 = .ok (.istore_n 2, 1) := by decide +kernel
theorem dX12_putNumber_2 : decode cX12_putNumber 2 = .ok (.iload_n 1, 1) := by decide +kernel
theorem dX12_putNumber_3 : decode cX12_putNumber 3 = .ok (.iload_n 2, 1) := by decide +kernel
theorem dX12_putNumber_4 : decode cX12_putNumber 4 = .ok (.idiv, 1) := by decide +kernel
theorem dX12_putNumber_5 : decode cX12_putNumber 5 = .ok (.bipush 10, 2) := by decide +kernel
theorem dX12_putNumber_7 : decode cX12_putNumber 7 = .ok (.if_icmp .lt 11, 3) := by decide +kernel
theorem dX12_putNumber_10 : decode cX12_putNumber 10 = .ok (.iload_n 2, 1) := by decide +kernel
theorem dX12_putNumber_11 : decode cX12_putNumber 11 = .ok (.bipush 10, 2) := by decide +kernel
theorem dX12_putNumber_13 : decode cX12_putNumber 13 = .ok (.imul, 1) := by decide +kernel
theorem dX12_putNumber_14 : decode cX12_putNumber 14 = .ok (.istore_n 2, 1) := by decide +kernel
theorem dX12_putNumber_15 : decode cX12_putNumber 15 = .ok (.goto (-13), 3) := by decide +kernel
theorem dX12_putNumber_18 : decode cX12_putNumber 18 = .ok (.iload_n 2, 1) := by decide +kernel
theorem dX12_putNumber_19 : decode cX12_putNumber 19 = .ok (.ifCond .le 24, 3) := by decide +kernel
theorem dX12_putNumber_22 : decode cX12_putNumber 22 = .ok (.aload_n 0, 1) := by decide +kernel
theorem dX12_putNumber_23 : decode cX12_putNumber 23 = .ok (.bipush 48, 2) := by decide +kernel
theorem dX12_putNumber_25 : decode cX12_putNumber 25 = .ok (.iload_n 1, 1) := by decide +kernel
theorem dX12_putNumber_26 : decode cX12_putNumber 26 = .ok (.iload_n 2, 1) := by decide +kernel
theorem dX12_putNumber_27 : decode cX12_putNumber 27 = .ok (.idiv, 1) := by decide +kernel
theorem dX12_putNumber_28 : decode cX12_putNumber 28 = .ok (.bipush 10, 2) := by decide +kernel
theorem dX12_putNumber_30 : decode cX12_putNumber 30 = .ok (.irem, 1) := by decide +kernel
theorem dX12_putNumber_31 : decode cX12_putNumber 31 = .ok (.iadd, 1) := by decide +kernel
theorem dX12_putNumber_32 : decode cX12_putNumber 32 = .ok (.invokevirtual 102, 3) := by decide +kernel
theorem dX12_putNumber_35 : decode cX12_putNumber 35 = .ok (.iload_n 2, 1) := by decide +kernel
theorem dX12_putNumber_36 : decode cX12_putNumber 36 = .ok (.bipush 10, 2) := by decide +kernel
theorem dX12_putNumber_38 : decode cX12_putNumber 38 = .ok (.idiv, 1) := by decide +kernel
theorem dX12_putNumber_39 : decode cX12_putNumber 39 = .ok (.istore_n 2, 1) := by decide +kernel
theorem dX12_putNumber_40 : decode cX12_putNumber 40 = .ok (.goto (-22), 3) := by decide +kernel
theorem dX12_putNumber_43 : decode cX12_putNumber 43 = .ok (.return_, 1) := by decide +kernel
theorem dX12_writeDeadline_0 : decode cX12_writeDeadline 0 = .ok (.aload_n 0, 1) := by decide +kernel
theorem dX12_writeDeadline_1 : decode cX12_writeDeadline 1 = .ok (.iconst 0, 1) := by decide +kernel
theorem dX12_writeDeadline_2 : decode cX12_writeDeadline 2 = .ok (.putfield 41, 3) := by decide +kernel
theorem dX12_writeDeadline_5 : decode cX12_writeDeadline 5 = .ok (.aload_n 0, 1) := by decide +kernel
theorem dX12_writeDeadline_6 : decode cX12_writeDeadline 6 = .ok (.aload_n 0, 1) := by decide +kernel
theorem dX12_writeDeadline_7 : decode cX12_writeDeadline 7 = .ok (.iload_n 1, 1) := by decide +kernel
theorem dX12_writeDeadline_8 : decode cX12_writeDeadline 8 = .ok (.invokevirtual 147, 3) := by decide +kernel
theorem dX12_writeDeadline_11 : decode cX12_writeDeadline 11 = .ok (.iconst 1, 1) := by decide +kernel
theorem dX12_writeDeadline_12 : decode cX12_writeDeadline 12 = .ok (.invokevirtual 55, 3) := by decide +kernel
theorem dX12_writeDeadline_15 : decode cX12_writeDeadline 15 = .ok (.ifCond .eq 5, 3) := by decide +kernel
theorem dX12_writeDeadline_18 : decode cX12_writeDeadline 18 = .ok (.iconst 0, 1) := by decide +kernel
theorem dX12_writeDeadline_19 : decode cX12_writeDeadline 19 = .ok (.ireturn, 1) := by decide +kernel
theorem dX12_writeDeadline_20 : decode cX12_writeDeadline 20 = .ok (.aload_n 0, 1) := by decide +kernel
theorem dX12_writeDeadline_21 : decode cX12_writeDeadline 21 = .ok (.iload_n 1, 1) := by decide +kernel
theorem dX12_writeDeadline_22 : decode cX12_writeDeadline 22 = .ok (.invokevirtual 150, 3) := by decide +kernel
theorem dX12_writeDeadline_25 : decode cX12_writeDeadline 25 = .ok (.istore_n 2, 1) := by decide +kernel
theorem dX12_writeDeadline_26 : decode cX12_writeDeadline 26 = .ok (.aload_n 0, 1) := by decide +kernel
theorem dX12_writeDeadline_27 : decode cX12_writeDeadline 27 = .ok (.iconst 0, 1) := by decide +kernel
theorem dX12_writeDeadline_28 : decode cX12_writeDeadline 28 = .ok (.putfield 99, 3) := by decide +kernel
theorem dX12_writeDeadline_31 : decode cX12_writeDeadline 31 = .ok (.aload_n 0, 1) := by decide +kernel
theorem dX12_writeDeadline_32 : decode cX12_writeDeadline 32 = .ok (.iload_n 1, 1) := by decide +kernel
theorem dX12_writeDeadline_33 : decode cX12_writeDeadline 33 = .ok (.invokevirtual 218, 3) := by decide +kernel
theorem dX12_writeDeadline_36 : decode cX12_writeDeadline 36 = .ok (.aload_n 0, 1) := by decide +kernel
theorem dX12_writeDeadline_37 : decode cX12_writeDeadline 37 = .ok (.bipush 58, 2) := by decide +kernel
theorem dX12_writeDeadline_39 : decode cX12_writeDeadline 39 = .ok (.invokevirtual 102, 3) := by decide +kernel
theorem dX12_writeDeadline_42 : decode cX12_writeDeadline 42 = .ok (.aload_n 0, 1) := by decide +kernel
theorem dX12_writeDeadline_43 : decode cX12_writeDeadline 43 = .ok (.aload_n 0, 1) := by decide +kernel
theorem dX12_writeDeadline_44 : decode cX12_writeDeadline 44 = .ok (.iload_n 1, 1) := by decide +kernel
theorem dX12_writeDeadline_45 : decode cX12_writeDeadline 45 = .ok (.bipush 6, 2) := by decide +kernel
theorem dX12_writeDeadline_47 : decode cX12_writeDeadline 47 = .ok (.invokevirtual 131, 3) := by decide +kernel
theorem dX12_writeDeadline_50 : decode cX12_writeDeadline 50 = .ok (.invokevirtual 102, 3) := by decide +kernel
theorem dX12_writeDeadline_53 : decode cX12_writeDeadline 53 = .ok (.aload_n 0, 1) := by decide +kernel
theorem dX12_writeDeadline_54 : decode cX12_writeDeadline 54 = .ok (.aload_n 0, 1) := by decide +kernel
theorem dX12_writeDeadline_55 : decode cX12_writeDeadline 55 = .ok (.iload_n 1, 1) := by decide +kernel
theorem dX12_writeDeadline_56 : decode cX12_writeDeadline 56 = .ok (.iconst 0, 1) := by decide +kernel
theorem dX12_writeDeadline_57 : decode cX12_writeDeadline 57 = .ok (.invokevirtual 131, 3) := by decide +kernel
theorem dX12_writeDeadline_60 : decode cX12_writeDeadline 60 = .ok (.invokevirtual 218, 3) := by decide +kernel
theorem dX12_writeDeadline_63 : decode cX12_writeDeadline 63 = .ok (.aload_n 0, 1) := by decide +kernel
theorem dX12_writeDeadline_64 : decode cX12_writeDeadline 64 = .ok (.bipush 62, 2) := by decide +kernel
theorem dX12_writeDeadline_66 : decode cX12_writeDeadline 66 = .ok (.invokevirtual 102, 3) := by decide +kernel
theorem dX12_writeDeadline_69 : decode cX12_writeDeadline 69 = .ok (.iload_n 2, 1) := by decide +kernel
theorem dX12_writeDeadline_70 : decode cX12_writeDeadline 70 = .ok (.iconst (-1), 1) := by decide +kernel
theorem dX12_writeDeadline_71 : decode cX12_writeDeadline 71 = .ok (.if_icmp .ne 12, 3) := by decide +kernel
theorem dX12_writeDeadline_74 : decode cX12_writeDeadline 74 = .ok (.aload_n 0, 1) := by decide +kernel
theorem dX12_writeDeadline_75 : decode cX12_writeDeadline 75 = .ok (.bipush 45, 2) := by decide +kernel
theorem dX12_writeDeadline_77 : decode cX12_writeDeadline 77 = .ok (.invokevirtual 102, 3) := by decide +kernel
theorem dX12_writeDeadline_80 : decode cX12_writeDeadline 80 = .ok (.goto 8, 3) := by decide +kernel
theorem dX12_writeDeadline_83 : decode cX12_writeDeadline 83 = .ok (.aload_n 0, 1) := by decide +kernel
theorem dX12_writeDeadline_84 : decode cX12_writeDeadline 84 = .ok (.iload_n 2, 1) := by decide +kernel
theorem dX12_writeDeadline_85 : decode cX12_writeDeadline 85 = .ok (.invokevirtual 218, 3) := by decide +kernel
theorem dX12_writeDeadline_88 : decode cX12_writeDeadline 88 = .ok (.aload_n 0, 1) := by decide +kernel
theorem dX12_writeDeadline_89 : decode cX12_writeDeadline 89 = .ok (.iload_n 1, 1) := by decide +kernel
theorem dX12_writeDeadline_90 : decode cX12_writeDeadline 90 = .ok (.invokevirtual 162, 3) := by decide +kernel
theorem dX12_writeDeadline_93 : decode cX12_writeDeadline 93 = .ok (.ifCond .le 18, 3) := by decide +kernel
theorem dX12_writeDeadline_96 : decode cX12_writeDeadline 96 = .ok (.aload_n 0, 1) := by decide +kernel
theorem dX12_writeDeadline_97 : decode cX12_writeDeadline 97 = .ok (.bipush 43, 2) := by decide +kernel
theorem dX12_writeDeadline_99 : decode cX12_writeDeadline 99 = .ok (.invokevirtual 102, 3) := by decide +kernel
theorem dX12_writeDeadline_102 : decode cX12_writeDeadline 102 = .ok (.aload_n 0, 1) := by decide +kernel
theorem dX12_writeDeadline_103 : decode cX12_writeDeadline 103 = .ok (.aload_n 0, 1) := by decide +kernel
theorem dX12_writeDeadline_104 : decode cX12_writeDeadline 104 = .ok (.iload_n 1, 1) := by decide +kernel
theorem dX12_writeDeadline_105 : decode cX12_writeDeadline 105 = .ok (.invokevirtual 162, 3) := by decide +kernel
theorem dX12_writeDeadline_108 : decode cX12_writeDeadline 108 = .ok (.invokevirtual 218, 3) := by decide +kernel
theorem dX12_writeDeadline_111 : decode cX12_writeDeadline 111 = .ok (.aload_n 0, 1) := by decide +kernel
theorem dX12_writeDeadline_112 : decode cX12_writeDeadline 112 = .ok (.getfield 99, 3) := by decide +kernel
theorem dX12_writeDeadline_115 : decode cX12_writeDeadline 115 = .ok (.ireturn, 1) := by decide +kernel
theorem dX12_charAt_0 : decode cX12_charAt 0 = .ok (.aload_n 0, 1) := by decide +kernel
theorem dX12_charAt_1 : decode cX12_charAt 1 = .ok (.iconst 0, 1) := by decide +kernel
theorem dX12_charAt_2 : decode cX12_charAt 2 = .ok (.putfield 41, 3) := by decide +kernel
theorem dX12_charAt_5 : decode cX12_charAt 5 = .ok (.aload_n 0, 1) := by decide +kernel
theorem dX12_charAt_6 : decode cX12_charAt 6 = .ok (.iload_n 1, 1) := by decide +kernel
theorem dX12_charAt_7 : decode cX12_charAt 7 = .ok (.iconst 0, 1) := by decide +kernel
theorem dX12_charAt_8 : decode cX12_charAt 8 = .ok (.aload_n 0, 1) := by decide +kernel
theorem dX12_charAt_9 : decode cX12_charAt 9 = .ok (.getfield 99, 3) := by decide +kernel
theorem dX12_charAt_12 : decode cX12_charAt 12 = .ok (.iconst 1, 1) := by decide +kernel
theorem dX12_charAt_13 : decode cX12_charAt 13 = .ok (.isub, 1) := by decide +kernel
theorem dX12_charAt_14 : decode cX12_charAt 14 = .ok (.invokestatic 64, 3) := by decide +kernel
theorem dX12_charAt_17 : decode cX12_charAt 17 = .ok (.ifCond .ne 7, 3) := by decide +kernel
theorem dX12_charAt_20 : decode cX12_charAt 20 = .ok (.iconst 1, 1) := by decide +kernel
theorem dX12_charAt_21 : decode cX12_charAt 21 = .ok (.goto 4, 3) := by decide +kernel
theorem dX12_charAt_24 : decode cX12_charAt 24 = .ok (.iconst 0, 1) := by decide +kernel
theorem dX12_charAt_25 : decode cX12_charAt 25 = .ok (.iconst 1, 1) := by decide +kernel
theorem dX12_charAt_26 : decode cX12_charAt 26 = .ok (.invokevirtual 55, 3) := by decide +kernel
theorem dX12_charAt_29 : decode cX12_charAt 29 = .ok (.ifCond .eq 7, 3) := by decide +kernel
theorem dX12_charAt_32 : decode cX12_charAt 32 = .ok (.iconst 0, 1) := by decide +kernel
theorem dX12_charAt_33 : decode cX12_charAt 33 = .ok (.goto 10, 3) := by decide +kernel
theorem dX12_charAt_36 : decode cX12_charAt 36 = .ok (.aload_n 0, 1) := by decide +kernel
theorem dX12_charAt_37 : decode cX12_charAt 37 = .ok (.getfield 22, 3) := by decide +kernel
theorem dX12_charAt_40 : decode cX12_charAt 40 = .ok (.iload_n 1, 1) := by decide +kernel
theorem dX12_charAt_41 : decode cX12_charAt 41 = .ok (.iaload, 1) := by decide +kernel
theorem dX12_charAt_42 : decode cX12_charAt 42 = .ok (.i2c, 1) := by decide +kernel
theorem dX12_charAt_43 : decode cX12_charAt 43 = .ok (.ireturn, 1) := by decide +kernel
theorem dX12_isConsistent_0 : decode cX12_isConsistent 0 = .ok (.aload_n 0, 1) := by decide +kernel
theorem dX12_isConsistent_1 : decode cX12_isConsistent 1 = .ok (.iconst 0, 1) := by decide +kernel
theorem dX12_isConsistent_2 : decode cX12_isConsistent 2 = .ok (.putfield 41, 3) := by decide +kernel
theorem dX12_isConsistent_5 : decode cX12_isConsistent 5 = .ok (.iconst 1, 1) := by decide +kernel
theorem dX12_isConsistent_6 : decode cX12_isConsistent 6 = .ok (.ireturn, 1) := by decide +kernel
theorem dX12_isAt_0 : decode cX12_isAt 0 = .ok (.aload_n 0, 1) := by decide +kernel
theorem dX12_isAt_1 : decode cX12_isAt 1 = .ok (.getfield 221, 3) := by decide +kernel
theorem dX12_isAt_4 : decode cX12_isAt 4 = .ok (.ifCond .ne 31, 3) := by decide +kernel
theorem dX12_isAt_7 : decode cX12_isAt 7 = .ok (.aload_n 0, 1) := by decide +kernel
theorem dX12_isAt_8 : decode cX12_isAt 8 = .ok (.getfield 224, 3) := by decide +kernel
theorem dX12_isAt_11 : decode cX12_isAt 11 = .ok (.aload_n 0, 1) := by decide +kernel
theorem dX12_isAt_12 : decode cX12_isAt 12 = .ok (.getfield 59, 3) := by decide +kernel
theorem dX12_isAt_15 : decode cX12_isAt 15 = .ok (.if_icmp .ge 20, 3) := by decide +kernel
theorem dX12_isAt_18 : decode cX12_isAt 18 = .ok (.aload_n 0, 1) := by decide +kernel
theorem dX12_isAt_19 : decode cX12_isAt 19 = .ok (.getfield 19, 3) := by decide +kernel
theorem dX12_isAt_22 : decode cX12_isAt 22 = .ok (.aload_n 0, 1) := by decide +kernel
theorem dX12_isAt_23 : decode cX12_isAt 23 = .ok (.getfield 224, 3) := by decide +kernel
theorem dX12_isAt_26 : decode cX12_isAt 26 = .ok (.iaload, 1) := by decide +kernel
theorem dX12_isAt_27 : decode cX12_isAt 27 = .ok (.iload_n 1, 1) := by decide +kernel
theorem dX12_isAt_28 : decode cX12_isAt 28 = .ok (.if_icmp .ne 7, 3) := by decide +kernel
theorem dX12_isAt_31 : decode cX12_isAt 31 = .ok (.iconst 1, 1) := by decide +kernel
theorem dX12_isAt_32 : decode cX12_isAt 32 = .ok (.goto 4, 3) := by decide +kernel
theorem dX12_isAt_35 : decode cX12_isAt 35 = .ok (.iconst 0, 1) := by decide +kernel
theorem dX12_isAt_36 : decode cX12_isAt 36 = .ok (.ireturn, 1) := by decide +kernel
theorem dX12_isDigit_0 : decode cX12_isDigit 0 = .ok (.aload_n 0, 1) := by decide +kernel
theorem dX12_isDigit_1 : decode cX12_isDigit 1 = .ok (.getfield 221, 3) := by decide +kernel
theorem dX12_isDigit_4 : decode cX12_isDigit 4 = .ok (.ifCond .ne 37, 3) := by decide +kernel
theorem dX12_isDigit_7 : decode cX12_isDigit 7 = .ok (.aload_n 0, 1) := by decide +kernel
theorem dX12_isDigit_8 : decode cX12_isDigit 8 = .ok (.getfield 224, 3) := by decide +kernel
theorem dX12_isDigit_11 : decode cX12_isDigit 11 = .ok (.aload_n 0, 1) := by decide +kernel
theorem dX12_isDigit_12 : decode cX12_isDigit 12 = .ok (.getfield 59, 3) := by decide +kernel
theorem dX12_isDigit_15 : decode cX12_isDigit 15 = .ok (.if_icmp .ge 26, 3) := by decide +kernel
theorem dX12_isDigit_18 : decode cX12_isDigit 18 = .ok (.aload_n 0, 1) := by decide +kernel
theorem dX12_isDigit_19 : decode cX12_isDigit 19 = .ok (.getfield 19, 3) := by decide +kernel
theorem dX12_isDigit_22 : decode cX12_isDigit 22 = .ok (.aload_n 0, 1) := by decide +kernel
theorem dX12_isDigit_23 : decode cX12_isDigit 23 = .ok (.getfield 224, 3) := by decide +kernel
theorem dX12_isDigit_26 : decode cX12_isDigit 26 = .ok (.iaload, 1) := by decide +kernel
theorem dX12_isDigit_27 : decode cX12_isDigit 27 = .ok (.bipush 48, 2) := by decide +kernel
theorem dX12_isDigit_29 : decode cX12_isDigit 29 = .ok (.bipush 57, 2) := by decide +kernel
theorem dX12_isDigit_31 : decode cX12_isDigit 31 = .ok (.invokestatic 64, 3) := by decide +kernel
theorem dX12_isDigit_34 : decode cX12_isDigit 34 = .ok (.ifCond .eq 7, 3) := by decide +kernel
theorem dX12_isDigit_37 : decode cX12_isDigit 37 = .ok (.iconst 1, 1) := by decide +kernel
theorem dX12_isDigit_38 : decode cX12_isDigit 38 = .ok (.goto 4, 3) := by decide +kernel
theorem dX12_isDigit_41 : decode cX12_isDigit 41 = .ok (.iconst 0, 1) := by decide +kernel
theorem dX12_isDigit_42 : decode cX12_isDigit 42 = .ok (.ireturn, 1) := by decide +kernel
theorem dX12_take_0 : decode cX12_take 0 = .ok (.aload_n 0, 1) := by decide +kernel
theorem dX12_take_1 : decode cX12_take 1 = .ok (.aload_n 0, 1) := by decide +kernel
theorem dX12_take_2 : decode cX12_take 2 = .ok (.getfield 221, 3) := by decide +kernel
theorem dX12_take_5 : decode cX12_take 5 = .ok (.ifCond .ne 11, 3) := by decide +kernel
theorem dX12_take_8 : decode cX12_take 8 = .ok (.aload_n 0, 1) := by decide +kernel
theorem dX12_take_9 : decode cX12_take 9 = .ok (.iload_n 1, 1) := by decide +kernel
theorem dX12_take_10 : decode cX12_take 10 = .ok (.invokevirtual 227, 3) := by decide +kernel
theorem dX12_take_13 : decode cX12_take 13 = .ok (.ifCond .ne 7, 3) := by decide +kernel
theorem dX12_take_16 : decode cX12_take 16 = .ok (.iconst 1, 1) := by decide +kernel
theorem dX12_take_17 : decode cX12_take 17 = .ok (.goto 4, 3) := by decide +kernel
theorem dX12_take_20 : decode cX12_take 20 = .ok (.iconst 0, 1) := by decide +kernel
theorem dX12_take_21 : decode cX12_take 21 = .ok (.putfield 221, 3) := by decide +kernel
theorem dX12_take_24 : decode cX12_take 24 = .ok (.aload_n 0, 1) := by decide +kernel
theorem dX12_take_25 : decode cX12_take 25 = .ok (.dup, 1) := by decide +kernel
theorem dX12_take_26 : decode cX12_take 26 = .ok (.getfield 224, 3) := by decide +kernel
theorem dX12_take_29 : decode cX12_take 29 = .ok (.aload_n 0, 1) := by decide +kernel
theorem dX12_take_30 : decode cX12_take 30 = .ok (.getfield 221, 3) := by decide +kernel
theorem dX12_take_33 : decode cX12_take 33 = .ok (.ifCond .eq 7, 3) := by decide +kernel
theorem dX12_take_36 : decode cX12_take 36 = .ok (.iconst 0, 1) := by decide +kernel
theorem dX12_take_37 : decode cX12_take 37 = .ok (.goto 4, 3) := by decide +kernel
theorem dX12_take_40 : decode cX12_take 40 = .ok (.iconst 1, 1) := by decide +kernel
theorem dX12_take_41 : decode cX12_take 41 = .ok (.iadd, 1) := by decide +kernel
theorem dX12_take_42 : decode cX12_take 42 = .ok (.putfield 224, 3) := by decide +kernel
theorem dX12_take_45 : decode cX12_take 45 = .ok (.return_, 1) := by decide +kernel
theorem dX12_takeWord_0 : decode cX12_takeWord 0 = .ok (.aload_n 0, 1) := by decide +kernel
theorem dX12_takeWord_1 : decode cX12_takeWord 1 = .ok (.iload_n 1, 1) := by decide +kernel
theorem dX12_takeWord_2 : decode cX12_takeWord 2 = .ok (.invokevirtual 230, 3) := by decide +kernel
theorem dX12_takeWord_5 : decode cX12_takeWord 5 = .ok (.aload_n 0, 1) := by decide +kernel
theorem dX12_takeWord_6 : decode cX12_takeWord 6 = .ok (.iload_n 2, 1) := by decide +kernel
theorem dX12_takeWord_7 : decode cX12_takeWord 7 = .ok (.invokevirtual 230, 3) := by decide +kernel
theorem dX12_takeWord_10 : decode cX12_takeWord 10 = .ok (.aload_n 0, 1) := by decide +kernel
theorem dX12_takeWord_11 : decode cX12_takeWord 11 = .ok (.iload_n 3, 1) := by decide +kernel
theorem dX12_takeWord_12 : decode cX12_takeWord 12 = .ok (.invokevirtual 230, 3) := by decide +kernel
theorem dX12_takeWord_15 : decode cX12_takeWord 15 = .ok (.aload_n 0, 1) := by decide +kernel
theorem dX12_takeWord_16 : decode cX12_takeWord 16 = .ok (.iload 4, 2) := by decide +kernel
theorem dX12_takeWord_18 : decode cX12_takeWord 18 = .ok (.invokevirtual 233, 3) := by decide +kernel
theorem dX12_takeWord_21 : decode cX12_takeWord 21 = .ok (.aload_n 0, 1) := by decide +kernel
theorem dX12_takeWord_22 : decode cX12_takeWord 22 = .ok (.iload 5, 2) := by decide +kernel
theorem dX12_takeWord_24 : decode cX12_takeWord 24 = .ok (.invokevirtual 233, 3) := by decide +kernel
theorem dX12_takeWord_27 : decode cX12_takeWord 27 = .ok (.aload_n 0, 1) := by decide +kernel
theorem dX12_takeWord_28 : decode cX12_takeWord 28 = .ok (.iload 6, 2) := by decide +kernel
theorem dX12_takeWord_30 : decode cX12_takeWord 30 = .ok (.invokevirtual 233, 3) := by decide +kernel
theorem dX12_takeWord_33 : decode cX12_takeWord 33 = .ok (.return_, 1) := by decide +kernel
theorem dX12_takeIf_0 : decode cX12_takeIf 0 = .ok (.iload_n 1, 1) := by decide +kernel
theorem dX12_takeIf_1 : decode cX12_takeIf 1 = .ok (.ifCond .eq 8, 3) := by decide +kernel
theorem dX12_takeIf_4 : decode cX12_takeIf 4 = .ok (.aload_n 0, 1) := by decide +kernel
theorem dX12_takeIf_5 : decode cX12_takeIf 5 = .ok (.iload_n 1, 1) := by decide +kernel
theorem dX12_takeIf_6 : decode cX12_takeIf 6 = .ok (.invokevirtual 230, 3) := by decide +kernel
theorem dX12_takeIf_9 : decode cX12_takeIf 9 = .ok (.return_, 1) := by decide +kernel
theorem dX12_digits_0 : decode cX12_digits 0 = .ok (.iconst 0, 1) := by decide +kernel
theorem dX12_digits_1 : decode cX12_digits 1 = .ok (.istore_n 2, 1) := by decide +kernel
theorem dX12_digits_2 : decode cX12_digits 2 = .ok (.aload_n 0, 1) := by decide +kernel
theorem dX12_digits_3 : decode cX12_digits 3 = .ok (.aload_n 0, 1) := by decide +kernel
theorem dX12_digits_4 : decode cX12_digits 4 = .ok (.getfield 221, 3) := by decide +kernel
theorem dX12_digits_7 : decode cX12_digits 7 = .ok (.ifCond .ne 10, 3) := by decide +kernel
theorem dX12_digits_10 : decode cX12_digits 10 = .ok (.aload_n 0, 1) := by decide +kernel
theorem dX12_digits_11 : decode cX12_digits 11 = .ok (.invokevirtual 236, 3) := by decide +kernel
theorem dX12_digits_14 : decode cX12_digits 14 = .ok (.ifCond .ne 7, 3) := by decide +kernel
theorem dX12_digits_17 : decode cX12_digits 17 = .ok (.iconst 1, 1) := by decide +kernel
theorem dX12_digits_18 : decode cX12_digits 18 = .ok (.goto 4, 3) := by decide +kernel
theorem dX12_digits_21 : decode cX12_digits 21 = .ok (.iconst 0, 1) := by decide +kernel
theorem dX12_digits_22 : decode cX12_digits 22 = .ok (.putfield 221, 3) := by decide +kernel
theorem dX12_digits_25 : decode cX12_digits 25 = .ok (.iconst 0, 1) := by decide +kernel
theorem dX12_digits_26 : decode cX12_digits 26 = .ok (.istore_n 3, 1) := by decide +kernel
theorem dX12_digits_27 : decode cX12_digits 27 = .ok (.iload_n 3, 1) := by decide +kernel
theorem dX12_digits_28 : decode cX12_digits 28 = .ok (.iload_n 1, 1) := by decide +kernel
theorem dX12_digits_29 : decode cX12_digits 29 = .ok (.if_icmp .ge 44, 3) := by decide +kernel
theorem dX12_digits_32 : decode cX12_digits 32 = .ok (.aload_n 0, 1) := by decide +kernel
theorem dX12_digits_33 : decode cX12_digits 33 = .ok (.invokevirtual 236, 3) := by decide +kernel
theorem dX12_digits_36 : decode cX12_digits 36 = .ok (.ifCond .eq 37, 3) := by decide +kernel
theorem dX12_digits_39 : decode cX12_digits 39 = .ok (.bipush 10, 2) := by decide +kernel
theorem dX12_digits_41 : decode cX12_digits 41 = .ok (.iload_n 2, 1) := by decide +kernel
theorem dX12_digits_42 : decode cX12_digits 42 = .ok (.imul, 1) := by decide +kernel
theorem dX12_digits_43 : decode cX12_digits 43 = .ok (.aload_n 0, 1) := by decide +kernel
theorem dX12_digits_44 : decode cX12_digits 44 = .ok (.getfield 19, 3) := by decide +kernel
theorem dX12_digits_47 : decode cX12_digits 47 = .ok (.aload_n 0, 1) := by decide +kernel
theorem dX12_digits_48 : decode cX12_digits 48 = .ok (.getfield 224, 3) := by decide +kernel
theorem dX12_digits_51 : decode cX12_digits 51 = .ok (.iaload, 1) := by decide +kernel
theorem dX12_digits_52 : decode cX12_digits 52 = .ok (.iadd, 1) := by decide +kernel
theorem dX12_digits_53 : decode cX12_digits 53 = .ok (.bipush 48, 2) := by decide +kernel
theorem dX12_digits_55 : decode cX12_digits 55 = .ok (.isub, 1) := by decide +kernel
theorem dX12_digits_56 : decode cX12_digits 56 = .ok (.istore_n 2, 1) := by decide +kernel
theorem dX12_digits_57 : decode cX12_digits 57 = .ok (.aload_n 0, 1) := by decide +kernel
theorem dX12_digits_58 : decode cX12_digits 58 = .ok (.dup, 1) := by decide +kernel
theorem dX12_digits_59 : decode cX12_digits 59 = .ok (.getfield 224, 3) := by decide +kernel
theorem dX12_digits_62 : decode cX12_digits 62 = .ok (.iconst 1, 1) := by decide +kernel
theorem dX12_digits_63 : decode cX12_digits 63 = .ok (.iadd, 1) := by decide +kernel
theorem dX12_digits_64 : decode cX12_digits 64 = .ok (.putfield 224, 3) := by decide +kernel
theorem dX12_digits_67 : decode cX12_digits 67 = .ok (.iinc 3 1, 3) := by decide +kernel
theorem dX12_digits_70 : decode cX12_digits 70 = .ok (.goto (-43), 3) := by decide +kernel
theorem dX12_digits_73 : decode cX12_digits 73 = .ok (.iload_n 2, 1) := by decide +kernel
theorem dX12_digits_74 : decode cX12_digits 74 = .ok (.ireturn, 1) := by decide +kernel
theorem dX12_argument_0 : decode cX12_argument 0 = .ok (.aload_n 0, 1) := by decide +kernel
theorem dX12_argument_1 : decode cX12_argument 1 = .ok (.bipush 32, 2) := by decide +kernel
theorem dX12_argument_3 : decode cX12_argument 3 = .ok (.invokevirtual 230, 3) := by decide +kernel
theorem dX12_argument_6 : decode cX12_argument 6 = .ok (.aload_n 0, 1) := by decide +kernel
theorem dX12_argument_7 : decode cX12_argument 7 = .ok (.iload_n 1, 1) := by decide +kernel
theorem dX12_argument_8 : decode cX12_argument 8 = .ok (.invokevirtual 239, 3) := by decide +kernel
theorem dX12_argument_11 : decode cX12_argument 11 = .ok (.ireturn, 1) := by decide +kernel
theorem dX12_command_0 : decode cX12_command 0 = .ok (.iconst 4, 1) := by decide +kernel
theorem dX12_command_1 : decode cX12_command 1 = .ok (.aload_n 0, 1) := by decide +kernel
theorem dX12_command_2 : decode cX12_command 2 = .ok (.getfield 242, 3) := by decide +kernel
theorem dX12_command_5 : decode cX12_command 5 = .ok (.imul, 1) := by decide +kernel
theorem dX12_command_6 : decode cX12_command 6 = .ok (.istore_n 1, 1) := by decide +kernel
theorem dX12_command_7 : decode cX12_command 7 = .ok (.aload_n 0, 1) := by decide +kernel
theorem dX12_command_8 : decode cX12_command 8 = .ok (.bipush 115, 2) := by decide +kernel
theorem dX12_command_10 : decode cX12_command 10 = .ok (.invokevirtual 227, 3) := by decide +kernel
theorem dX12_command_13 : decode cX12_command 13 = .ok (.ifCond .eq 36, 3) := by decide +kernel
theorem dX12_command_16 : decode cX12_command 16 = .ok (.aload_n 0, 1) := by decide +kernel
theorem dX12_command_17 : decode cX12_command 17 = .ok (.getfield 224, 3) := by decide +kernel
theorem dX12_command_20 : decode cX12_command 20 = .ok (.iconst 1, 1) := by decide +kernel
theorem dX12_command_21 : decode cX12_command 21 = .ok (.iadd, 1) := by decide +kernel
theorem dX12_command_22 : decode cX12_command 22 = .ok (.aload_n 0, 1) := by decide +kernel
theorem dX12_command_23 : decode cX12_command 23 = .ok (.getfield 59, 3) := by decide +kernel
theorem dX12_command_26 : decode cX12_command 26 = .ok (.if_icmp .ge 23, 3) := by decide +kernel
theorem dX12_command_29 : decode cX12_command 29 = .ok (.aload_n 0, 1) := by decide +kernel
theorem dX12_command_30 : decode cX12_command 30 = .ok (.getfield 19, 3) := by decide +kernel
theorem dX12_command_33 : decode cX12_command 33 = .ok (.aload_n 0, 1) := by decide +kernel
theorem dX12_command_34 : decode cX12_command 34 = .ok (.getfield 224, 3) := by decide +kernel
theorem dX12_command_37 : decode cX12_command 37 = .ok (.iconst 1, 1) := by decide +kernel
theorem dX12_command_38 : decode cX12_command 38 = .ok (.iadd, 1) := by decide +kernel
theorem dX12_command_39 : decode cX12_command 39 = .ok (.iaload, 1) := by decide +kernel
theorem dX12_command_40 : decode cX12_command 40 = .ok (.bipush 116, 2) := by decide +kernel
theorem dX12_command_42 : decode cX12_command 42 = .ok (.if_icmp .ne 7, 3) := by decide +kernel
theorem dX12_command_45 : decode cX12_command 45 = .ok (.iconst 1, 1) := by decide +kernel
theorem dX12_command_46 : decode cX12_command 46 = .ok (.goto 4, 3) := by decide +kernel
theorem dX12_command_49 : decode cX12_command 49 = .ok (.iconst 0, 1) := by decide +kernel
theorem dX12_command_50 : decode cX12_command 50 = .ok (.istore_n 2, 1) := by decide +kernel
theorem dX12_command_51 : decode cX12_command 51 = .ok (.iload_n 2, 1) := by decide +kernel
theorem dX12_command_52 : decode cX12_command 52 = .ok (.ifCond .eq 41, 3) := by decide +kernel
theorem dX12_command_55 : decode cX12_command 55 = .ok (.aload_n 0, 1) := by decide +kernel
theorem dX12_command_56 : decode cX12_command 56 = .ok (.bipush 115, 2) := by decide +kernel
theorem dX12_command_58 : decode cX12_command 58 = .ok (.bipush 116, 2) := by decide +kernel
theorem dX12_command_60 : decode cX12_command 60 = .ok (.bipush 97, 2) := by decide +kernel
theorem dX12_command_62 : decode cX12_command 62 = .ok (.bipush 121, 2) := by decide +kernel
theorem dX12_command_64 : decode cX12_command 64 = .ok (.iconst 0, 1) := by decide +kernel
theorem dX12_command_65 : decode cX12_command 65 = .ok (.iconst 0, 1) := by decide +kernel
theorem dX12_command_66 : decode cX12_command 66 = .ok (.invokevirtual 245, 3) := by decide +kernel
theorem dX12_command_69 : decode cX12_command 69 = .ok (.aload_n 0, 1) := by decide +kernel
theorem dX12_command_70 : decode cX12_command 70 = .ok (.getfield 35, 3) := by decide +kernel
theorem dX12_command_73 : decode cX12_command 73 = .ok (.iload_n 1, 1) := by decide +kernel
theorem dX12_command_74 : decode cX12_command 74 = .ok (.bipush 115, 2) := by decide +kernel
theorem dX12_command_76 : decode cX12_command 76 = .ok (.iastore, 1) := by decide +kernel
theorem dX12_command_77 : decode cX12_command 77 = .ok (.aload_n 0, 1) := by decide +kernel
theorem dX12_command_78 : decode cX12_command 78 = .ok (.getfield 35, 3) := by decide +kernel
theorem dX12_command_81 : decode cX12_command 81 = .ok (.iload_n 1, 1) := by decide +kernel
theorem dX12_command_82 : decode cX12_command 82 = .ok (.iconst 1, 1) := by decide +kernel
theorem dX12_command_83 : decode cX12_command 83 = .ok (.iadd, 1) := by decide +kernel
theorem dX12_command_84 : decode cX12_command 84 = .ok (.aload_n 0, 1) := by decide +kernel
theorem dX12_command_85 : decode cX12_command 85 = .ok (.iconst 4, 1) := by decide +kernel
theorem dX12_command_86 : decode cX12_command 86 = .ok (.invokevirtual 249, 3) := by decide +kernel
theorem dX12_command_89 : decode cX12_command 89 = .ok (.iastore, 1) := by decide +kernel
theorem dX12_command_90 : decode cX12_command 90 = .ok (.goto 418, 3) := by decide +kernel
theorem dX12_command_93 : decode cX12_command 93 = .ok (.aload_n 0, 1) := by decide +kernel
theorem dX12_command_94 : decode cX12_command 94 = .ok (.bipush 115, 2) := by decide +kernel
theorem dX12_command_96 : decode cX12_command 96 = .ok (.invokevirtual 227, 3) := by decide +kernel
theorem dX12_command_99 : decode cX12_command 99 = .ok (.ifCond .eq 153, 3) := by decide +kernel
theorem dX12_command_102 : decode cX12_command 102 = .ok (.aload_n 0, 1) := by decide +kernel
theorem dX12_command_103 : decode cX12_command 103 = .ok (.bipush 115, 2) := by decide +kernel
theorem dX12_command_105 : decode cX12_command 105 = .ok (.bipush 101, 2) := by decide +kernel
theorem dX12_command_107 : decode cX12_command 107 = .ok (.bipush 114, 2) := by decide +kernel
theorem dX12_command_109 : decode cX12_command 109 = .ok (.bipush 118, 2) := by decide +kernel
theorem dX12_command_111 : decode cX12_command 111 = .ok (.bipush 101, 2) := by decide +kernel
theorem dX12_command_113 : decode cX12_command 113 = .ok (.iconst 0, 1) := by decide +kernel
theorem dX12_command_114 : decode cX12_command 114 = .ok (.invokevirtual 245, 3) := by decide +kernel
theorem dX12_command_117 : decode cX12_command 117 = .ok (.aload_n 0, 1) := by decide +kernel
theorem dX12_command_118 : decode cX12_command 118 = .ok (.getfield 35, 3) := by decide +kernel
theorem dX12_command_121 : decode cX12_command 121 = .ok (.iload_n 1, 1) := by decide +kernel
theorem dX12_command_122 : decode cX12_command 122 = .ok (.bipush 118, 2) := by decide +kernel
theorem dX12_command_124 : decode cX12_command 124 = .ok (.iastore, 1) := by decide +kernel
theorem dX12_command_125 : decode cX12_command 125 = .ok (.aload_n 0, 1) := by decide +kernel
theorem dX12_command_126 : decode cX12_command 126 = .ok (.getfield 35, 3) := by decide +kernel
theorem dX12_command_129 : decode cX12_command 129 = .ok (.iload_n 1, 1) := by decide +kernel
theorem dX12_command_130 : decode cX12_command 130 = .ok (.iconst 1, 1) := by decide +kernel
theorem dX12_command_131 : decode cX12_command 131 = .ok (.iadd, 1) := by decide +kernel
theorem dX12_command_132 : decode cX12_command 132 = .ok (.aload_n 0, 1) := by decide +kernel
theorem dX12_command_133 : decode cX12_command 133 = .ok (.iconst 1, 1) := by decide +kernel
theorem dX12_command_134 : decode cX12_command 134 = .ok (.invokevirtual 249, 3) := by decide +kernel
theorem dX12_command_137 : decode cX12_command 137 = .ok (.iastore, 1) := by decide +kernel
theorem dX12_command_138 : decode cX12_command 138 = .ok (.aload_n 0, 1) := by decide +kernel
theorem dX12_command_139 : decode cX12_command 139 = .ok (.getfield 35, 3) := by decide +kernel
theorem dX12_command_142 : decode cX12_command 142 = .ok (.iload_n 1, 1) := by decide +kernel
theorem dX12_command_143 : decode cX12_command 143 = .ok (.iconst 2, 1) := by decide +kernel
theorem dX12_command_144 : decode cX12_command 144 = .ok (.iadd, 1) := by decide +kernel
theorem dX12_command_145 : decode cX12_command 145 = .ok (.aload_n 0, 1) := by decide +kernel
theorem dX12_command_146 : decode cX12_command 146 = .ok (.iconst 1, 1) := by decide +kernel
theorem dX12_command_147 : decode cX12_command 147 = .ok (.invokevirtual 249, 3) := by decide +kernel
theorem dX12_command_150 : decode cX12_command 150 = .ok (.iastore, 1) := by decide +kernel
theorem dX12_command_151 : decode cX12_command 151 = .ok (.aload_n 0, 1) := by decide +kernel
theorem dX12_command_152 : decode cX12_command 152 = .ok (.bipush 32, 2) := by decide +kernel
theorem dX12_command_154 : decode cX12_command 154 = .ok (.invokevirtual 230, 3) := by decide +kernel
theorem dX12_command_157 : decode cX12_command 157 = .ok (.aload_n 0, 1) := by decide +kernel
theorem dX12_command_158 : decode cX12_command 158 = .ok (.aload_n 0, 1) := by decide +kernel
theorem dX12_command_159 : decode cX12_command 159 = .ok (.getfield 221, 3) := by decide +kernel
theorem dX12_command_162 : decode cX12_command 162 = .ok (.ifCond .ne 30, 3) := by decide +kernel
theorem dX12_command_165 : decode cX12_command 165 = .ok (.aload_n 0, 1) := by decide +kernel
theorem dX12_command_166 : decode cX12_command 166 = .ok (.getfield 224, 3) := by decide +kernel
theorem dX12_command_169 : decode cX12_command 169 = .ok (.aload_n 0, 1) := by decide +kernel
theorem dX12_command_170 : decode cX12_command 170 = .ok (.getfield 59, 3) := by decide +kernel
theorem dX12_command_173 : decode cX12_command 173 = .ok (.if_icmp .ge 19, 3) := by decide +kernel
theorem dX12_command_176 : decode cX12_command 176 = .ok (.aload_n 0, 1) := by decide +kernel
theorem dX12_command_177 : decode cX12_command 177 = .ok (.getfield 19, 3) := by decide +kernel
theorem dX12_command_180 : decode cX12_command 180 = .ok (.aload_n 0, 1) := by decide +kernel
theorem dX12_command_181 : decode cX12_command 181 = .ok (.getfield 224, 3) := by decide +kernel
theorem dX12_command_184 : decode cX12_command 184 = .ok (.iaload, 1) := by decide +kernel
theorem dX12_command_185 : decode cX12_command 185 = .ok (.invokestatic 122, 3) := by decide +kernel
theorem dX12_command_188 : decode cX12_command 188 = .ok (.iconst (-1), 1) := by decide +kernel
theorem dX12_command_189 : decode cX12_command 189 = .ok (.if_icmp .ne 7, 3) := by decide +kernel
theorem dX12_command_192 : decode cX12_command 192 = .ok (.iconst 1, 1) := by decide +kernel
theorem dX12_command_193 : decode cX12_command 193 = .ok (.goto 4, 3) := by decide +kernel
theorem dX12_command_196 : decode cX12_command 196 = .ok (.iconst 0, 1) := by decide +kernel
theorem dX12_command_197 : decode cX12_command 197 = .ok (.putfield 221, 3) := by decide +kernel
theorem dX12_command_200 : decode cX12_command 200 = .ok (.aload_n 0, 1) := by decide +kernel
theorem dX12_command_201 : decode cX12_command 201 = .ok (.getfield 35, 3) := by decide +kernel
theorem dX12_command_204 : decode cX12_command 204 = .ok (.iload_n 1, 1) := by decide +kernel
theorem dX12_command_205 : decode cX12_command 205 = .ok (.iconst 3, 1) := by decide +kernel
theorem dX12_command_206 : decode cX12_command 206 = .ok (.iadd, 1) := by decide +kernel
theorem dX12_command_207 : decode cX12_command 207 = .ok (.aload_n 0, 1) := by decide +kernel
theorem dX12_command_208 : decode cX12_command 208 = .ok (.getfield 221, 3) := by decide +kernel
theorem dX12_command_211 : decode cX12_command 211 = .ok (.ifCond .eq 7, 3) := by decide +kernel
theorem dX12_command_214 : decode cX12_command 214 = .ok (.iconst 0, 1) := by decide +kernel
theorem dX12_command_215 : decode cX12_command 215 = .ok (.goto 12, 3) := by decide +kernel
theorem dX12_command_218 : decode cX12_command 218 = .ok (.aload_n 0, 1) := by decide +kernel
theorem dX12_command_219 : decode cX12_command 219 = .ok (.getfield 19, 3) := by decide +kernel
theorem dX12_command_222 : decode cX12_command 222 = .ok (.aload_n 0, 1) := by decide +kernel
theorem dX12_command_223 : decode cX12_command 223 = .ok (.getfield 224, 3) := by decide +kernel
theorem dX12_command_226 : decode cX12_command 226 = .ok (.iaload, 1) := by decide +kernel
theorem dX12_command_227 : decode cX12_command 227 = .ok (.iastore, 1) := by decide +kernel
theorem dX12_command_228 : decode cX12_command 228 = .ok (.aload_n 0, 1) := by decide +kernel
theorem dX12_command_229 : decode cX12_command 229 = .ok (.dup, 1) := by decide +kernel
theorem dX12_command_230 : decode cX12_command 230 = .ok (.getfield 224, 3) := by decide +kernel
theorem dX12_command_233 : decode cX12_command 233 = .ok (.aload_n 0, 1) := by decide +kernel
theorem dX12_command_234 : decode cX12_command 234 = .ok (.getfield 221, 3) := by decide +kernel
theorem dX12_command_237 : decode cX12_command 237 = .ok (.ifCond .eq 7, 3) := by decide +kernel
theorem dX12_command_240 : decode cX12_command 240 = .ok (.iconst 0, 1) := by decide +kernel
theorem dX12_command_241 : decode cX12_command 241 = .ok (.goto 4, 3) := by decide +kernel
theorem dX12_command_244 : decode cX12_command 244 = .ok (.iconst 1, 1) := by decide +kernel
theorem dX12_command_245 : decode cX12_command 245 = .ok (.iadd, 1) := by decide +kernel
theorem dX12_command_246 : decode cX12_command 246 = .ok (.putfield 224, 3) := by decide +kernel
theorem dX12_command_249 : decode cX12_command 249 = .ok (.goto 259, 3) := by decide +kernel
theorem dX12_command_252 : decode cX12_command 252 = .ok (.aload_n 0, 1) := by decide +kernel
theorem dX12_command_253 : decode cX12_command 253 = .ok (.bipush 100, 2) := by decide +kernel
theorem dX12_command_255 : decode cX12_command 255 = .ok (.invokevirtual 227, 3) := by decide +kernel
theorem dX12_command_258 : decode cX12_command 258 = .ok (.ifCond .eq 53, 3) := by decide +kernel
theorem dX12_command_261 : decode cX12_command 261 = .ok (.aload_n 0, 1) := by decide +kernel
theorem dX12_command_262 : decode cX12_command 262 = .ok (.bipush 100, 2) := by decide +kernel
theorem dX12_command_264 : decode cX12_command 264 = .ok (.bipush 97, 2) := by decide +kernel
theorem dX12_command_266 : decode cX12_command 266 = .ok (.bipush 121, 2) := by decide +kernel
theorem dX12_command_268 : decode cX12_command 268 = .ok (.iconst 0, 1) := by decide +kernel
theorem dX12_command_269 : decode cX12_command 269 = .ok (.iconst 0, 1) := by decide +kernel
theorem dX12_command_270 : decode cX12_command 270 = .ok (.iconst 0, 1) := by decide +kernel
theorem dX12_command_271 : decode cX12_command 271 = .ok (.invokevirtual 245, 3) := by decide +kernel
theorem dX12_command_274 : decode cX12_command 274 = .ok (.aload_n 0, 1) := by decide +kernel
theorem dX12_command_275 : decode cX12_command 275 = .ok (.getfield 35, 3) := by decide +kernel
theorem dX12_command_278 : decode cX12_command 278 = .ok (.iload_n 1, 1) := by decide +kernel
theorem dX12_command_279 : decode cX12_command 279 = .ok (.bipush 100, 2) := by decide +kernel
theorem dX12_command_281 : decode cX12_command 281 = .ok (.iastore, 1) := by decide +kernel
theorem dX12_command_282 : decode cX12_command 282 = .ok (.aload_n 0, 1) := by decide +kernel
theorem dX12_command_283 : decode cX12_command 283 = .ok (.getfield 35, 3) := by decide +kernel
theorem dX12_command_286 : decode cX12_command 286 = .ok (.iload_n 1, 1) := by decide +kernel
theorem dX12_command_287 : decode cX12_command 287 = .ok (.iconst 1, 1) := by decide +kernel
theorem dX12_command_288 : decode cX12_command 288 = .ok (.iadd, 1) := by decide +kernel
theorem dX12_command_289 : decode cX12_command 289 = .ok (.aload_n 0, 1) := by decide +kernel
theorem dX12_command_290 : decode cX12_command 290 = .ok (.bipush 32, 2) := by decide +kernel
theorem dX12_command_292 : decode cX12_command 292 = .ok (.invokevirtual 227, 3) := by decide +kernel
theorem dX12_command_295 : decode cX12_command 295 = .ok (.ifCond .eq 11, 3) := by decide +kernel
theorem dX12_command_298 : decode cX12_command 298 = .ok (.aload_n 0, 1) := by decide +kernel
theorem dX12_command_299 : decode cX12_command 299 = .ok (.iconst 4, 1) := by decide +kernel
theorem dX12_command_300 : decode cX12_command 300 = .ok (.invokevirtual 249, 3) := by decide +kernel
theorem dX12_command_303 : decode cX12_command 303 = .ok (.goto 4, 3) := by decide +kernel
theorem dX12_command_306 : decode cX12_command 306 = .ok (.iconst 1, 1) := by decide +kernel
theorem dX12_command_307 : decode cX12_command 307 = .ok (.iastore, 1) := by decide +kernel
theorem dX12_command_308 : decode cX12_command 308 = .ok (.goto 200, 3) := by decide +kernel
theorem dX12_command_311 : decode cX12_command 311 = .ok (.aload_n 0, 1) := by decide +kernel
theorem dX12_command_312 : decode cX12_command 312 = .ok (.bipush 108, 2) := by decide +kernel
theorem dX12_command_314 : decode cX12_command 314 = .ok (.invokevirtual 227, 3) := by decide +kernel
theorem dX12_command_317 : decode cX12_command 317 = .ok (.ifCond .eq 41, 3) := by decide +kernel
theorem dX12_command_320 : decode cX12_command 320 = .ok (.aload_n 0, 1) := by decide +kernel
theorem dX12_command_321 : decode cX12_command 321 = .ok (.bipush 108, 2) := by decide +kernel
theorem dX12_command_323 : decode cX12_command 323 = .ok (.bipush 105, 2) := by decide +kernel
theorem dX12_command_325 : decode cX12_command 325 = .ok (.bipush 102, 2) := by decide +kernel
theorem dX12_command_327 : decode cX12_command 327 = .ok (.bipush 116, 2) := by decide +kernel
theorem dX12_command_329 : decode cX12_command 329 = .ok (.iconst 0, 1) := by decide +kernel
theorem dX12_command_330 : decode cX12_command 330 = .ok (.iconst 0, 1) := by decide +kernel
theorem dX12_command_331 : decode cX12_command 331 = .ok (.invokevirtual 245, 3) := by decide +kernel
theorem dX12_command_334 : decode cX12_command 334 = .ok (.aload_n 0, 1) := by decide +kernel
theorem dX12_command_335 : decode cX12_command 335 = .ok (.getfield 35, 3) := by decide +kernel
theorem dX12_command_338 : decode cX12_command 338 = .ok (.iload_n 1, 1) := by decide +kernel
theorem dX12_command_339 : decode cX12_command 339 = .ok (.bipush 108, 2) := by decide +kernel
theorem dX12_command_341 : decode cX12_command 341 = .ok (.iastore, 1) := by decide +kernel
theorem dX12_command_342 : decode cX12_command 342 = .ok (.aload_n 0, 1) := by decide +kernel
theorem dX12_command_343 : decode cX12_command 343 = .ok (.getfield 35, 3) := by decide +kernel
theorem dX12_command_346 : decode cX12_command 346 = .ok (.iload_n 1, 1) := by decide +kernel
theorem dX12_command_347 : decode cX12_command 347 = .ok (.iconst 1, 1) := by decide +kernel
theorem dX12_command_348 : decode cX12_command 348 = .ok (.iadd, 1) := by decide +kernel
theorem dX12_command_349 : decode cX12_command 349 = .ok (.aload_n 0, 1) := by decide +kernel
theorem dX12_command_350 : decode cX12_command 350 = .ok (.iconst 4, 1) := by decide +kernel
theorem dX12_command_351 : decode cX12_command 351 = .ok (.invokevirtual 249, 3) := by decide +kernel
theorem dX12_command_354 : decode cX12_command 354 = .ok (.iastore, 1) := by decide +kernel
theorem dX12_command_355 : decode cX12_command 355 = .ok (.goto 153, 3) := by decide +kernel
theorem dX12_command_358 : decode cX12_command 358 = .ok (.aload_n 0, 1) := by decide +kernel
theorem dX12_command_359 : decode cX12_command 359 = .ok (.bipush 109, 2) := by decide +kernel
theorem dX12_command_361 : decode cX12_command 361 = .ok (.invokevirtual 227, 3) := by decide +kernel
theorem dX12_command_364 : decode cX12_command 364 = .ok (.ifCond .eq 54, 3) := by decide +kernel
theorem dX12_command_367 : decode cX12_command 367 = .ok (.aload_n 0, 1) := by decide +kernel
theorem dX12_command_368 : decode cX12_command 368 = .ok (.bipush 109, 2) := by decide +kernel
theorem dX12_command_370 : decode cX12_command 370 = .ok (.bipush 111, 2) := by decide +kernel
theorem dX12_command_372 : decode cX12_command 372 = .ok (.bipush 114, 2) := by decide +kernel
theorem dX12_command_374 : decode cX12_command 374 = .ok (.bipush 101, 2) := by decide +kernel
theorem dX12_command_376 : decode cX12_command 376 = .ok (.iconst 0, 1) := by decide +kernel
theorem dX12_command_377 : decode cX12_command 377 = .ok (.iconst 0, 1) := by decide +kernel
theorem dX12_command_378 : decode cX12_command 378 = .ok (.invokevirtual 245, 3) := by decide +kernel
theorem dX12_command_381 : decode cX12_command 381 = .ok (.aload_n 0, 1) := by decide +kernel
theorem dX12_command_382 : decode cX12_command 382 = .ok (.getfield 35, 3) := by decide +kernel
theorem dX12_command_385 : decode cX12_command 385 = .ok (.iload_n 1, 1) := by decide +kernel
theorem dX12_command_386 : decode cX12_command 386 = .ok (.bipush 109, 2) := by decide +kernel
theorem dX12_command_388 : decode cX12_command 388 = .ok (.iastore, 1) := by decide +kernel
theorem dX12_command_389 : decode cX12_command 389 = .ok (.aload_n 0, 1) := by decide +kernel
theorem dX12_command_390 : decode cX12_command 390 = .ok (.getfield 35, 3) := by decide +kernel
theorem dX12_command_393 : decode cX12_command 393 = .ok (.iload_n 1, 1) := by decide +kernel
theorem dX12_command_394 : decode cX12_command 394 = .ok (.iconst 1, 1) := by decide +kernel
theorem dX12_command_395 : decode cX12_command 395 = .ok (.iadd, 1) := by decide +kernel
theorem dX12_command_396 : decode cX12_command 396 = .ok (.aload_n 0, 1) := by decide +kernel
theorem dX12_command_397 : decode cX12_command 397 = .ok (.iconst 4, 1) := by decide +kernel
theorem dX12_command_398 : decode cX12_command 398 = .ok (.invokevirtual 249, 3) := by decide +kernel
theorem dX12_command_401 : decode cX12_command 401 = .ok (.iastore, 1) := by decide +kernel
theorem dX12_command_402 : decode cX12_command 402 = .ok (.aload_n 0, 1) := by decide +kernel
theorem dX12_command_403 : decode cX12_command 403 = .ok (.getfield 35, 3) := by decide +kernel
theorem dX12_command_406 : decode cX12_command 406 = .ok (.iload_n 1, 1) := by decide +kernel
theorem dX12_command_407 : decode cX12_command 407 = .ok (.iconst 2, 1) := by decide +kernel
theorem dX12_command_408 : decode cX12_command 408 = .ok (.iadd, 1) := by decide +kernel
theorem dX12_command_409 : decode cX12_command 409 = .ok (.aload_n 0, 1) := by decide +kernel
theorem dX12_command_410 : decode cX12_command 410 = .ok (.iconst 4, 1) := by decide +kernel
theorem dX12_command_411 : decode cX12_command 411 = .ok (.invokevirtual 249, 3) := by decide +kernel
theorem dX12_command_414 : decode cX12_command 414 = .ok (.iastore, 1) := by decide +kernel
theorem dX12_command_415 : decode cX12_command 415 = .ok (.goto 93, 3) := by decide +kernel
theorem dX12_command_418 : decode cX12_command 418 = .ok (.aload_n 0, 1) := by decide +kernel
theorem dX12_command_419 : decode cX12_command 419 = .ok (.bipush 102, 2) := by decide +kernel
theorem dX12_command_421 : decode cX12_command 421 = .ok (.invokevirtual 227, 3) := by decide +kernel
theorem dX12_command_424 : decode cX12_command 424 = .ok (.ifCond .eq 41, 3) := by decide +kernel
theorem dX12_command_427 : decode cX12_command 427 = .ok (.aload_n 0, 1) := by decide +kernel
theorem dX12_command_428 : decode cX12_command 428 = .ok (.bipush 102, 2) := by decide +kernel
theorem dX12_command_430 : decode cX12_command 430 = .ok (.bipush 105, 2) := by decide +kernel
theorem dX12_command_432 : decode cX12_command 432 = .ok (.bipush 108, 2) := by decide +kernel
theorem dX12_command_434 : decode cX12_command 434 = .ok (.bipush 101, 2) := by decide +kernel
theorem dX12_command_436 : decode cX12_command 436 = .ok (.iconst 0, 1) := by decide +kernel
theorem dX12_command_437 : decode cX12_command 437 = .ok (.iconst 0, 1) := by decide +kernel
theorem dX12_command_438 : decode cX12_command 438 = .ok (.invokevirtual 245, 3) := by decide +kernel
theorem dX12_command_441 : decode cX12_command 441 = .ok (.aload_n 0, 1) := by decide +kernel
theorem dX12_command_442 : decode cX12_command 442 = .ok (.getfield 35, 3) := by decide +kernel
theorem dX12_command_445 : decode cX12_command 445 = .ok (.iload_n 1, 1) := by decide +kernel
theorem dX12_command_446 : decode cX12_command 446 = .ok (.bipush 102, 2) := by decide +kernel
theorem dX12_command_448 : decode cX12_command 448 = .ok (.iastore, 1) := by decide +kernel
theorem dX12_command_449 : decode cX12_command 449 = .ok (.aload_n 0, 1) := by decide +kernel
theorem dX12_command_450 : decode cX12_command 450 = .ok (.getfield 35, 3) := by decide +kernel
theorem dX12_command_453 : decode cX12_command 453 = .ok (.iload_n 1, 1) := by decide +kernel
theorem dX12_command_454 : decode cX12_command 454 = .ok (.iconst 1, 1) := by decide +kernel
theorem dX12_command_455 : decode cX12_command 455 = .ok (.iadd, 1) := by decide +kernel
theorem dX12_command_456 : decode cX12_command 456 = .ok (.aload_n 0, 1) := by decide +kernel
theorem dX12_command_457 : decode cX12_command 457 = .ok (.iconst 4, 1) := by decide +kernel
theorem dX12_command_458 : decode cX12_command 458 = .ok (.invokevirtual 249, 3) := by decide +kernel
theorem dX12_command_461 : decode cX12_command 461 = .ok (.iastore, 1) := by decide +kernel
theorem dX12_command_462 : decode cX12_command 462 = .ok (.goto 46, 3) := by decide +kernel
theorem dX12_command_465 : decode cX12_command 465 = .ok (.aload_n 0, 1) := by decide +kernel
theorem dX12_command_466 : decode cX12_command 466 = .ok (.bipush 104, 2) := by decide +kernel
theorem dX12_command_468 : decode cX12_command 468 = .ok (.bipush 111, 2) := by decide +kernel
theorem dX12_command_470 : decode cX12_command 470 = .ok (.bipush 108, 2) := by decide +kernel
theorem dX12_command_472 : decode cX12_command 472 = .ok (.bipush 105, 2) := by decide +kernel
theorem dX12_command_474 : decode cX12_command 474 = .ok (.bipush 100, 2) := by decide +kernel
theorem dX12_command_476 : decode cX12_command 476 = .ok (.bipush 97, 2) := by decide +kernel
theorem dX12_command_478 : decode cX12_command 478 = .ok (.invokevirtual 245, 3) := by decide +kernel
theorem dX12_command_481 : decode cX12_command 481 = .ok (.aload_n 0, 1) := by decide +kernel
theorem dX12_command_482 : decode cX12_command 482 = .ok (.bipush 121, 2) := by decide +kernel
theorem dX12_command_484 : decode cX12_command 484 = .ok (.invokevirtual 230, 3) := by decide +kernel
theorem dX12_command_487 : decode cX12_command 487 = .ok (.aload_n 0, 1) := by decide +kernel
theorem dX12_command_488 : decode cX12_command 488 = .ok (.getfield 35, 3) := by decide +kernel
theorem dX12_command_491 : decode cX12_command 491 = .ok (.iload_n 1, 1) := by decide +kernel
theorem dX12_command_492 : decode cX12_command 492 = .ok (.bipush 104, 2) := by decide +kernel
theorem dX12_command_494 : decode cX12_command 494 = .ok (.iastore, 1) := by decide +kernel
theorem dX12_command_495 : decode cX12_command 495 = .ok (.aload_n 0, 1) := by decide +kernel
theorem dX12_command_496 : decode cX12_command 496 = .ok (.getfield 35, 3) := by decide +kernel
theorem dX12_command_499 : decode cX12_command 499 = .ok (.iload_n 1, 1) := by decide +kernel
theorem dX12_command_500 : decode cX12_command 500 = .ok (.iconst 1, 1) := by decide +kernel
theorem dX12_command_501 : decode cX12_command 501 = .ok (.iadd, 1) := by decide +kernel
theorem dX12_command_502 : decode cX12_command 502 = .ok (.aload_n 0, 1) := by decide +kernel
theorem dX12_command_503 : decode cX12_command 503 = .ok (.iconst 4, 1) := by decide +kernel
theorem dX12_command_504 : decode cX12_command 504 = .ok (.invokevirtual 249, 3) := by decide +kernel
theorem dX12_command_507 : decode cX12_command 507 = .ok (.iastore, 1) := by decide +kernel
theorem dX12_command_508 : decode cX12_command 508 = .ok (.aload_n 0, 1) := by decide +kernel
theorem dX12_command_509 : decode cX12_command 509 = .ok (.dup, 1) := by decide +kernel
theorem dX12_command_510 : decode cX12_command 510 = .ok (.getfield 242, 3) := by decide +kernel
theorem dX12_command_513 : decode cX12_command 513 = .ok (.iconst 1, 1) := by decide +kernel
theorem dX12_command_514 : decode cX12_command 514 = .ok (.iadd, 1) := by decide +kernel
theorem dX12_command_515 : decode cX12_command 515 = .ok (.putfield 242, 3) := by decide +kernel
theorem dX12_command_518 : decode cX12_command 518 = .ok (.return_, 1) := by decide +kernel
theorem dX12_readProgram_0 : decode cX12_readProgram 0 = .ok (.aload_n 0, 1) := by decide +kernel
theorem dX12_readProgram_1 : decode cX12_readProgram 1 = .ok (.iconst 0, 1) := by decide +kernel
theorem dX12_readProgram_2 : decode cX12_readProgram 2 = .ok (.putfield 224, 3) := by decide +kernel
theorem dX12_readProgram_5 : decode cX12_readProgram 5 = .ok (.aload_n 0, 1) := by decide +kernel
theorem dX12_readProgram_6 : decode cX12_readProgram 6 = .ok (.iconst 0, 1) := by decide +kernel
theorem dX12_readProgram_7 : decode cX12_readProgram 7 = .ok (.putfield 221, 3) := by decide +kernel
theorem dX12_readProgram_10 : decode cX12_readProgram 10 = .ok (.aload_n 0, 1) := by decide +kernel
theorem dX12_readProgram_11 : decode cX12_readProgram 11 = .ok (.iconst 0, 1) := by decide +kernel
theorem dX12_readProgram_12 : decode cX12_readProgram 12 = .ok (.putfield 242, 3) := by decide +kernel
theorem dX12_readProgram_15 : decode cX12_readProgram 15 = .ok (.aload_n 0, 1) := by decide +kernel
theorem dX12_readProgram_16 : decode cX12_readProgram 16 = .ok (.invokevirtual 252, 3) := by decide +kernel
theorem dX12_readProgram_19 : decode cX12_readProgram 19 = .ok (.aload_n 0, 1) := by decide +kernel
theorem dX12_readProgram_20 : decode cX12_readProgram 20 = .ok (.bipush 59, 2) := by decide +kernel
theorem dX12_readProgram_22 : decode cX12_readProgram 22 = .ok (.invokevirtual 227, 3) := by decide +kernel
theorem dX12_readProgram_25 : decode cX12_readProgram 25 = .ok (.ifCond .eq 20, 3) := by decide +kernel
theorem dX12_readProgram_28 : decode cX12_readProgram 28 = .ok (.aload_n 0, 1) := by decide +kernel
theorem dX12_readProgram_29 : decode cX12_readProgram 29 = .ok (.dup, 1) := by decide +kernel
theorem dX12_readProgram_30 : decode cX12_readProgram 30 = .ok (.getfield 224, 3) := by decide +kernel
theorem dX12_readProgram_33 : decode cX12_readProgram 33 = .ok (.iconst 1, 1) := by decide +kernel
theorem dX12_readProgram_34 : decode cX12_readProgram 34 = .ok (.iadd, 1) := by decide +kernel
theorem dX12_readProgram_35 : decode cX12_readProgram 35 = .ok (.putfield 224, 3) := by decide +kernel
theorem dX12_readProgram_38 : decode cX12_readProgram 38 = .ok (.aload_n 0, 1) := by decide +kernel
theorem dX12_readProgram_39 : decode cX12_readProgram 39 = .ok (.invokevirtual 252, 3) := by decide +kernel
theorem dX12_readProgram_42 : decode cX12_readProgram 42 = .ok (.goto (-23), 3) := by decide +kernel
theorem dX12_readProgram_45 : decode cX12_readProgram 45 = .ok (.aload_n 0, 1) := by decide +kernel
theorem dX12_readProgram_46 : decode cX12_readProgram 46 = .ok (.aload_n 0, 1) := by decide +kernel
theorem dX12_readProgram_47 : decode cX12_readProgram 47 = .ok (.getfield 221, 3) := by decide +kernel
theorem dX12_readProgram_50 : decode cX12_readProgram 50 = .ok (.ifCond .ne 14, 3) := by decide +kernel
theorem dX12_readProgram_53 : decode cX12_readProgram 53 = .ok (.aload_n 0, 1) := by decide +kernel
theorem dX12_readProgram_54 : decode cX12_readProgram 54 = .ok (.getfield 224, 3) := by decide +kernel
theorem dX12_readProgram_57 : decode cX12_readProgram 57 = .ok (.aload_n 0, 1) := by decide +kernel
theorem dX12_readProgram_58 : decode cX12_readProgram 58 = .ok (.getfield 59, 3) := by decide +kernel
theorem dX12_readProgram_61 : decode cX12_readProgram 61 = .ok (.if_icmp .ge 7, 3) := by decide +kernel
theorem dX12_readProgram_64 : decode cX12_readProgram 64 = .ok (.iconst 1, 1) := by decide +kernel
theorem dX12_readProgram_65 : decode cX12_readProgram 65 = .ok (.goto 4, 3) := by decide +kernel
theorem dX12_readProgram_68 : decode cX12_readProgram 68 = .ok (.iconst 0, 1) := by decide +kernel
theorem dX12_readProgram_69 : decode cX12_readProgram 69 = .ok (.putfield 221, 3) := by decide +kernel
theorem dX12_readProgram_72 : decode cX12_readProgram 72 = .ok (.aload_n 0, 1) := by decide +kernel
theorem dX12_readProgram_73 : decode cX12_readProgram 73 = .ok (.getfield 221, 3) := by decide +kernel
theorem dX12_readProgram_76 : decode cX12_readProgram 76 = .ok (.ifCond .ne 7, 3) := by decide +kernel
theorem dX12_readProgram_79 : decode cX12_readProgram 79 = .ok (.iconst 1, 1) := by decide +kernel
theorem dX12_readProgram_80 : decode cX12_readProgram 80 = .ok (.goto 4, 3) := by decide +kernel
theorem dX12_readProgram_83 : decode cX12_readProgram 83 = .ok (.iconst 0, 1) := by decide +kernel
theorem dX12_readProgram_84 : decode cX12_readProgram 84 = .ok (.ireturn, 1) := by decide +kernel
theorem dX12_execute_0 : decode cX12_execute 0 = .ok (.aload_n 0, 1) := by decide +kernel
theorem dX12_execute_1 : decode cX12_execute 1 = .ok (.getfield 35, 3) := by decide +kernel
theorem dX12_execute_4 : decode cX12_execute 4 = .ok (.iload_n 1, 1) := by decide +kernel
theorem dX12_execute_5 : decode cX12_execute 5 = .ok (.iconst 1, 1) := by decide +kernel
theorem dX12_execute_6 : decode cX12_execute 6 = .ok (.iadd, 1) := by decide +kernel
theorem dX12_execute_7 : decode cX12_execute 7 = .ok (.iaload, 1) := by decide +kernel
theorem dX12_execute_8 : decode cX12_execute 8 = .ok (.istore_n 2, 1) := by decide +kernel
theorem dX12_execute_9 : decode cX12_execute 9 = .ok (.aload_n 0, 1) := by decide +kernel
theorem dX12_execute_10 : decode cX12_execute 10 = .ok (.getfield 35, 3) := by decide +kernel
theorem dX12_execute_13 : decode cX12_execute 13 = .ok (.iload_n 1, 1) := by decide +kernel
theorem dX12_execute_14 : decode cX12_execute 14 = .ok (.iaload, 1) := by decide +kernel
theorem dX12_execute_15 : decode cX12_execute 15 = .ok (.tableswitch 168 100 118 #[115, 168, 159, 168, 168, 168, 168, 168, 133, 142, 168, 168, 168, 168, 168, 124, 168, 168, 89], 89) := by decide +kernel
theorem dX12_execute_104 : decode cX12_execute 104 = .ok (.aload_n 0, 1) := by decide +kernel
theorem dX12_execute_105 : decode cX12_execute 105 = .ok (.iload_n 2, 1) := by decide +kernel
theorem dX12_execute_106 : decode cX12_execute 106 = .ok (.aload_n 0, 1) := by decide +kernel
theorem dX12_execute_107 : decode cX12_execute 107 = .ok (.getfield 35, 3) := by decide +kernel
theorem dX12_execute_110 : decode cX12_execute 110 = .ok (.iload_n 1, 1) := by decide +kernel
theorem dX12_execute_111 : decode cX12_execute 111 = .ok (.iconst 2, 1) := by decide +kernel
theorem dX12_execute_112 : decode cX12_execute 112 = .ok (.iadd, 1) := by decide +kernel
theorem dX12_execute_113 : decode cX12_execute 113 = .ok (.iaload, 1) := by decide +kernel
theorem dX12_execute_114 : decode cX12_execute 114 = .ok (.aload_n 0, 1) := by decide +kernel
theorem dX12_execute_115 : decode cX12_execute 115 = .ok (.getfield 35, 3) := by decide +kernel
theorem dX12_execute_118 : decode cX12_execute 118 = .ok (.iload_n 1, 1) := by decide +kernel
theorem dX12_execute_119 : decode cX12_execute 119 = .ok (.iconst 3, 1) := by decide +kernel
theorem dX12_execute_120 : decode cX12_execute 120 = .ok (.iadd, 1) := by decide +kernel
theorem dX12_execute_121 : decode cX12_execute 121 = .ok (.iaload, 1) := by decide +kernel
theorem dX12_execute_122 : decode cX12_execute 122 = .ok (.i2c, 1) := by decide +kernel
theorem dX12_execute_123 : decode cX12_execute 123 = .ok (.invokevirtual 255, 3) := by decide +kernel
theorem dX12_execute_126 : decode cX12_execute 126 = .ok (.pop, 1) := by decide +kernel
theorem dX12_execute_127 : decode cX12_execute 127 = .ok (.goto 62, 3) := by decide +kernel
theorem dX12_execute_130 : decode cX12_execute 130 = .ok (.aload_n 0, 1) := by decide +kernel
theorem dX12_execute_131 : decode cX12_execute 131 = .ok (.iload_n 2, 1) := by decide +kernel
theorem dX12_execute_132 : decode cX12_execute 132 = .ok (.invokevirtual 259, 3) := by decide +kernel
theorem dX12_execute_135 : decode cX12_execute 135 = .ok (.pop, 1) := by decide +kernel
theorem dX12_execute_136 : decode cX12_execute 136 = .ok (.goto 53, 3) := by decide +kernel
theorem dX12_execute_139 : decode cX12_execute 139 = .ok (.aload_n 0, 1) := by decide +kernel
theorem dX12_execute_140 : decode cX12_execute 140 = .ok (.iload_n 2, 1) := by decide +kernel
theorem dX12_execute_141 : decode cX12_execute 141 = .ok (.invokevirtual 262, 3) := by decide +kernel
theorem dX12_execute_144 : decode cX12_execute 144 = .ok (.pop, 1) := by decide +kernel
theorem dX12_execute_145 : decode cX12_execute 145 = .ok (.goto 44, 3) := by decide +kernel
theorem dX12_execute_148 : decode cX12_execute 148 = .ok (.aload_n 0, 1) := by decide +kernel
theorem dX12_execute_149 : decode cX12_execute 149 = .ok (.iload_n 2, 1) := by decide +kernel
theorem dX12_execute_150 : decode cX12_execute 150 = .ok (.invokevirtual 265, 3) := by decide +kernel
theorem dX12_execute_153 : decode cX12_execute 153 = .ok (.pop, 1) := by decide +kernel
theorem dX12_execute_154 : decode cX12_execute 154 = .ok (.goto 35, 3) := by decide +kernel
theorem dX12_execute_157 : decode cX12_execute 157 = .ok (.aload_n 0, 1) := by decide +kernel
theorem dX12_execute_158 : decode cX12_execute 158 = .ok (.iload_n 2, 1) := by decide +kernel
theorem dX12_execute_159 : decode cX12_execute 159 = .ok (.aload_n 0, 1) := by decide +kernel
theorem dX12_execute_160 : decode cX12_execute 160 = .ok (.getfield 35, 3) := by decide +kernel
theorem dX12_execute_163 : decode cX12_execute 163 = .ok (.iload_n 1, 1) := by decide +kernel
theorem dX12_execute_164 : decode cX12_execute 164 = .ok (.iconst 2, 1) := by decide +kernel
theorem dX12_execute_165 : decode cX12_execute 165 = .ok (.iadd, 1) := by decide +kernel
theorem dX12_execute_166 : decode cX12_execute 166 = .ok (.iaload, 1) := by decide +kernel
theorem dX12_execute_167 : decode cX12_execute 167 = .ok (.invokevirtual 268, 3) := by decide +kernel
theorem dX12_execute_170 : decode cX12_execute 170 = .ok (.pop, 1) := by decide +kernel
theorem dX12_execute_171 : decode cX12_execute 171 = .ok (.goto 18, 3) := by decide +kernel
theorem dX12_execute_174 : decode cX12_execute 174 = .ok (.aload_n 0, 1) := by decide +kernel
theorem dX12_execute_175 : decode cX12_execute 175 = .ok (.iload_n 2, 1) := by decide +kernel
theorem dX12_execute_176 : decode cX12_execute 176 = .ok (.invokevirtual 271, 3) := by decide +kernel
theorem dX12_execute_179 : decode cX12_execute 179 = .ok (.pop, 1) := by decide +kernel
theorem dX12_execute_180 : decode cX12_execute 180 = .ok (.goto 9, 3) := by decide +kernel
theorem dX12_execute_183 : decode cX12_execute 183 = .ok (.aload_n 0, 1) := by decide +kernel
theorem dX12_execute_184 : decode cX12_execute 184 = .ok (.iload_n 2, 1) := by decide +kernel
theorem dX12_execute_185 : decode cX12_execute 185 = .ok (.invokevirtual 274, 3) := by decide +kernel
theorem dX12_execute_188 : decode cX12_execute 188 = .ok (.pop, 1) := by decide +kernel
theorem dX12_execute_189 : decode cX12_execute 189 = .ok (.return_, 1) := by decide +kernel
theorem dX12_run_0 : decode cX12_run 0 = .ok (.aload_n 0, 1) := by decide +kernel
theorem dX12_run_1 : decode cX12_run 1 = .ok (.iconst 0, 1) := by decide +kernel
theorem dX12_run_2 : decode cX12_run 2 = .ok (.putfield 41, 3) := by decide +kernel
theorem dX12_run_5 : decode cX12_run 5 = .ok (.aload_n 0, 1) := by decide +kernel
theorem dX12_run_6 : decode cX12_run 6 = .ok (.invokevirtual 277, 3) := by decide +kernel
theorem dX12_run_9 : decode cX12_run 9 = .ok (.istore_n 1, 1) := by decide +kernel
theorem dX12_run_10 : decode cX12_run 10 = .ok (.aload_n 0, 1) := by decide +kernel
theorem dX12_run_11 : decode cX12_run 11 = .ok (.iconst 0, 1) := by decide +kernel
theorem dX12_run_12 : decode cX12_run 12 = .ok (.putfield 59, 3) := by decide +kernel
theorem dX12_run_15 : decode cX12_run 15 = .ok (.aload_n 0, 1) := by decide +kernel
theorem dX12_run_16 : decode cX12_run 16 = .ok (.iload_n 1, 1) := by decide +kernel
theorem dX12_run_17 : decode cX12_run 17 = .ok (.ifCond .ne 7, 3) := by decide +kernel
theorem dX12_run_20 : decode cX12_run 20 = .ok (.iconst 1, 1) := by decide +kernel
theorem dX12_run_21 : decode cX12_run 21 = .ok (.goto 4, 3) := by decide +kernel
theorem dX12_run_24 : decode cX12_run 24 = .ok (.iconst 0, 1) := by decide +kernel
theorem dX12_run_25 : decode cX12_run 25 = .ok (.iconst 1, 1) := by decide +kernel
theorem dX12_run_26 : decode cX12_run 26 = .ok (.invokevirtual 55, 3) := by decide +kernel
theorem dX12_run_29 : decode cX12_run 29 = .ok (.ifCond .eq 13, 3) := by decide +kernel
theorem dX12_run_32 : decode cX12_run 32 = .ok (.aload_n 0, 1) := by decide +kernel
theorem dX12_run_33 : decode cX12_run 33 = .ok (.aload_n 0, 1) := by decide +kernel
theorem dX12_run_34 : decode cX12_run 34 = .ok (.getfield 224, 3) := by decide +kernel
theorem dX12_run_37 : decode cX12_run 37 = .ok (.putfield 25, 3) := by decide +kernel
theorem dX12_run_40 : decode cX12_run 40 = .ok (.iconst 0, 1) := by decide +kernel
theorem dX12_run_41 : decode cX12_run 41 = .ok (.ireturn, 1) := by decide +kernel
theorem dX12_run_42 : decode cX12_run 42 = .ok (.iconst 0, 1) := by decide +kernel
theorem dX12_run_43 : decode cX12_run 43 = .ok (.istore_n 2, 1) := by decide +kernel
theorem dX12_run_44 : decode cX12_run 44 = .ok (.iload_n 2, 1) := by decide +kernel
theorem dX12_run_45 : decode cX12_run 45 = .ok (.sipush 787, 3) := by decide +kernel
theorem dX12_run_48 : decode cX12_run 48 = .ok (.if_icmp .ge 21, 3) := by decide +kernel
theorem dX12_run_51 : decode cX12_run 51 = .ok (.aload_n 0, 1) := by decide +kernel
theorem dX12_run_52 : decode cX12_run 52 = .ok (.getfield 13, 3) := by decide +kernel
theorem dX12_run_55 : decode cX12_run 55 = .ok (.iload_n 2, 1) := by decide +kernel
theorem dX12_run_56 : decode cX12_run 56 = .ok (.aload_n 0, 1) := by decide +kernel
theorem dX12_run_57 : decode cX12_run 57 = .ok (.getfield 9, 3) := by decide +kernel
theorem dX12_run_60 : decode cX12_run 60 = .ok (.iload_n 2, 1) := by decide +kernel
theorem dX12_run_61 : decode cX12_run 61 = .ok (.iaload, 1) := by decide +kernel
theorem dX12_run_62 : decode cX12_run 62 = .ok (.iastore, 1) := by decide +kernel
theorem dX12_run_63 : decode cX12_run 63 = .ok (.iinc 2 1, 3) := by decide +kernel
theorem dX12_run_66 : decode cX12_run 66 = .ok (.goto (-22), 3) := by decide +kernel
theorem dX12_run_69 : decode cX12_run 69 = .ok (.aload_n 0, 1) := by decide +kernel
theorem dX12_run_70 : decode cX12_run 70 = .ok (.iconst 1, 1) := by decide +kernel
theorem dX12_run_71 : decode cX12_run 71 = .ok (.putfield 47, 3) := by decide +kernel
theorem dX12_run_74 : decode cX12_run 74 = .ok (.iconst 0, 1) := by decide +kernel
theorem dX12_run_75 : decode cX12_run 75 = .ok (.istore_n 2, 1) := by decide +kernel
theorem dX12_run_76 : decode cX12_run 76 = .ok (.iload_n 2, 1) := by decide +kernel
theorem dX12_run_77 : decode cX12_run 77 = .ok (.aload_n 0, 1) := by decide +kernel
theorem dX12_run_78 : decode cX12_run 78 = .ok (.getfield 242, 3) := by decide +kernel
theorem dX12_run_81 : decode cX12_run 81 = .ok (.if_icmp .ge 35, 3) := by decide +kernel
theorem dX12_run_84 : decode cX12_run 84 = .ok (.aload_n 0, 1) := by decide +kernel
theorem dX12_run_85 : decode cX12_run 85 = .ok (.getfield 41, 3) := by decide +kernel
theorem dX12_run_88 : decode cX12_run 88 = .ok (.ifCond .ne 28, 3) := by decide +kernel
theorem dX12_run_91 : decode cX12_run 91 = .ok (.aload_n 0, 1) := by decide +kernel
theorem dX12_run_92 : decode cX12_run 92 = .ok (.iconst 4, 1) := by decide +kernel
theorem dX12_run_93 : decode cX12_run 93 = .ok (.iload_n 2, 1) := by decide +kernel
theorem dX12_run_94 : decode cX12_run 94 = .ok (.imul, 1) := by decide +kernel
theorem dX12_run_95 : decode cX12_run 95 = .ok (.invokevirtual 280, 3) := by decide +kernel
theorem dX12_run_98 : decode cX12_run 98 = .ok (.iload_n 2, 1) := by decide +kernel
theorem dX12_run_99 : decode cX12_run 99 = .ok (.aload_n 0, 1) := by decide +kernel
theorem dX12_run_100 : decode cX12_run 100 = .ok (.getfield 41, 3) := by decide +kernel
theorem dX12_run_103 : decode cX12_run 103 = .ok (.ifCond .ne 7, 3) := by decide +kernel
theorem dX12_run_106 : decode cX12_run 106 = .ok (.iconst 1, 1) := by decide +kernel
theorem dX12_run_107 : decode cX12_run 107 = .ok (.goto 4, 3) := by decide +kernel
theorem dX12_run_110 : decode cX12_run 110 = .ok (.iconst 0, 1) := by decide +kernel
theorem dX12_run_111 : decode cX12_run 111 = .ok (.iadd, 1) := by decide +kernel
theorem dX12_run_112 : decode cX12_run 112 = .ok (.istore_n 2, 1) := by decide +kernel
theorem dX12_run_113 : decode cX12_run 113 = .ok (.goto (-37), 3) := by decide +kernel
theorem dX12_run_116 : decode cX12_run 116 = .ok (.aload_n 0, 1) := by decide +kernel
theorem dX12_run_117 : decode cX12_run 117 = .ok (.iconst 0, 1) := by decide +kernel
theorem dX12_run_118 : decode cX12_run 118 = .ok (.putfield 47, 3) := by decide +kernel
theorem dX12_run_121 : decode cX12_run 121 = .ok (.aload_n 0, 1) := by decide +kernel
theorem dX12_run_122 : decode cX12_run 122 = .ok (.getfield 41, 3) := by decide +kernel
theorem dX12_run_125 : decode cX12_run 125 = .ok (.ifCond .eq 42, 3) := by decide +kernel
theorem dX12_run_128 : decode cX12_run 128 = .ok (.iconst 0, 1) := by decide +kernel
theorem dX12_run_129 : decode cX12_run 129 = .ok (.istore_n 3, 1) := by decide +kernel
theorem dX12_run_130 : decode cX12_run 130 = .ok (.iload_n 3, 1) := by decide +kernel
theorem dX12_run_131 : decode cX12_run 131 = .ok (.sipush 787, 3) := by decide +kernel
theorem dX12_run_134 : decode cX12_run 134 = .ok (.if_icmp .ge 21, 3) := by decide +kernel
theorem dX12_run_137 : decode cX12_run 137 = .ok (.aload_n 0, 1) := by decide +kernel
theorem dX12_run_138 : decode cX12_run 138 = .ok (.getfield 9, 3) := by decide +kernel
theorem dX12_run_141 : decode cX12_run 141 = .ok (.iload_n 3, 1) := by decide +kernel
theorem dX12_run_142 : decode cX12_run 142 = .ok (.aload_n 0, 1) := by decide +kernel
theorem dX12_run_143 : decode cX12_run 143 = .ok (.getfield 13, 3) := by decide +kernel
theorem dX12_run_146 : decode cX12_run 146 = .ok (.iload_n 3, 1) := by decide +kernel
theorem dX12_run_147 : decode cX12_run 147 = .ok (.iaload, 1) := by decide +kernel
theorem dX12_run_148 : decode cX12_run 148 = .ok (.iastore, 1) := by decide +kernel
theorem dX12_run_149 : decode cX12_run 149 = .ok (.iinc 3 1, 3) := by decide +kernel
theorem dX12_run_152 : decode cX12_run 152 = .ok (.goto (-22), 3) := by decide +kernel
theorem dX12_run_155 : decode cX12_run 155 = .ok (.aload_n 0, 1) := by decide +kernel
theorem dX12_run_156 : decode cX12_run 156 = .ok (.iload_n 2, 1) := by decide +kernel
theorem dX12_run_157 : decode cX12_run 157 = .ok (.putfield 29, 3) := by decide +kernel
theorem dX12_run_160 : decode cX12_run 160 = .ok (.aload_n 0, 1) := by decide +kernel
theorem dX12_run_161 : decode cX12_run 161 = .ok (.iconst 2, 1) := by decide +kernel
theorem dX12_run_162 : decode cX12_run 162 = .ok (.putfield 41, 3) := by decide +kernel
theorem dX12_run_165 : decode cX12_run 165 = .ok (.iconst 0, 1) := by decide +kernel
theorem dX12_run_166 : decode cX12_run 166 = .ok (.ireturn, 1) := by decide +kernel
theorem dX12_run_167 : decode cX12_run 167 = .ok (.aload_n 0, 1) := by decide +kernel
theorem dX12_run_168 : decode cX12_run 168 = .ok (.aload_n 0, 1) := by decide +kernel
theorem dX12_run_169 : decode cX12_run 169 = .ok (.getfield 13, 3) := by decide +kernel
theorem dX12_run_172 : decode cX12_run 172 = .ok (.invokevirtual 51, 3) := by decide +kernel
theorem dX12_run_175 : decode cX12_run 175 = .ok (.iload_n 2, 1) := by decide +kernel
theorem dX12_run_176 : decode cX12_run 176 = .ok (.ireturn, 1) := by decide +kernel
theorem dX12_errorPosition_0 : decode cX12_errorPosition 0 = .ok (.aload_n 0, 1) := by decide +kernel
theorem dX12_errorPosition_1 : decode cX12_errorPosition 1 = .ok (.iconst 0, 1) := by decide +kernel
theorem dX12_errorPosition_2 : decode cX12_errorPosition 2 = .ok (.putfield 41, 3) := by decide +kernel
theorem dX12_errorPosition_5 : decode cX12_errorPosition 5 = .ok (.aload_n 0, 1) := by decide +kernel
theorem dX12_errorPosition_6 : decode cX12_errorPosition 6 = .ok (.aload_n 0, 1) := by decide +kernel
theorem dX12_errorPosition_7 : decode cX12_errorPosition 7 = .ok (.getfield 25, 3) := by decide +kernel
theorem dX12_errorPosition_10 : decode cX12_errorPosition 10 = .ok (.iconst (-1), 1) := by decide +kernel
theorem dX12_errorPosition_11 : decode cX12_errorPosition 11 = .ok (.if_icmp .ne 7, 3) := by decide +kernel
theorem dX12_errorPosition_14 : decode cX12_errorPosition 14 = .ok (.iconst 1, 1) := by decide +kernel
theorem dX12_errorPosition_15 : decode cX12_errorPosition 15 = .ok (.goto 4, 3) := by decide +kernel
theorem dX12_errorPosition_18 : decode cX12_errorPosition 18 = .ok (.iconst 0, 1) := by decide +kernel
theorem dX12_errorPosition_19 : decode cX12_errorPosition 19 = .ok (.iconst 1, 1) := by decide +kernel
theorem dX12_errorPosition_20 : decode cX12_errorPosition 20 = .ok (.invokevirtual 55, 3) := by decide +kernel
theorem dX12_errorPosition_23 : decode cX12_errorPosition 23 = .ok (.ifCond .eq 7, 3) := by decide +kernel
theorem dX12_errorPosition_26 : decode cX12_errorPosition 26 = .ok (.iconst 0, 1) := by decide +kernel
theorem dX12_errorPosition_27 : decode cX12_errorPosition 27 = .ok (.goto 7, 3) := by decide +kernel
theorem dX12_errorPosition_30 : decode cX12_errorPosition 30 = .ok (.aload_n 0, 1) := by decide +kernel
theorem dX12_errorPosition_31 : decode cX12_errorPosition 31 = .ok (.getfield 25, 3) := by decide +kernel
theorem dX12_errorPosition_34 : decode cX12_errorPosition 34 = .ok (.ireturn, 1) := by decide +kernel
theorem dX12_failedCommand_0 : decode cX12_failedCommand 0 = .ok (.aload_n 0, 1) := by decide +kernel
theorem dX12_failedCommand_1 : decode cX12_failedCommand 1 = .ok (.iconst 0, 1) := by decide +kernel
theorem dX12_failedCommand_2 : decode cX12_failedCommand 2 = .ok (.putfield 41, 3) := by decide +kernel
theorem dX12_failedCommand_5 : decode cX12_failedCommand 5 = .ok (.aload_n 0, 1) := by decide +kernel
theorem dX12_failedCommand_6 : decode cX12_failedCommand 6 = .ok (.aload_n 0, 1) := by decide +kernel
theorem dX12_failedCommand_7 : decode cX12_failedCommand 7 = .ok (.getfield 29, 3) := by decide +kernel
theorem dX12_failedCommand_10 : decode cX12_failedCommand 10 = .ok (.iconst (-1), 1) := by decide +kernel
theorem dX12_failedCommand_11 : decode cX12_failedCommand 11 = .ok (.if_icmp .ne 7, 3) := by decide +kernel
theorem dX12_failedCommand_14 : decode cX12_failedCommand 14 = .ok (.iconst 1, 1) := by decide +kernel
theorem dX12_failedCommand_15 : decode cX12_failedCommand 15 = .ok (.goto 4, 3) := by decide +kernel
theorem dX12_failedCommand_18 : decode cX12_failedCommand 18 = .ok (.iconst 0, 1) := by decide +kernel
theorem dX12_failedCommand_19 : decode cX12_failedCommand 19 = .ok (.iconst 1, 1) := by decide +kernel
theorem dX12_failedCommand_20 : decode cX12_failedCommand 20 = .ok (.invokevirtual 55, 3) := by decide +kernel
theorem dX12_failedCommand_23 : decode cX12_failedCommand 23 = .ok (.ifCond .eq 7, 3) := by decide +kernel
theorem dX12_failedCommand_26 : decode cX12_failedCommand 26 = .ok (.iconst 0, 1) := by decide +kernel
theorem dX12_failedCommand_27 : decode cX12_failedCommand 27 = .ok (.goto 7, 3) := by decide +kernel
theorem dX12_failedCommand_30 : decode cX12_failedCommand 30 = .ok (.aload_n 0, 1) := by decide +kernel
theorem dX12_failedCommand_31 : decode cX12_failedCommand 31 = .ok (.getfield 29, 3) := by decide +kernel
theorem dX12_failedCommand_34 : decode cX12_failedCommand 34 = .ok (.ireturn, 1) := by decide +kernel
theorem dJx00060_init_a7421_0 : decode cJx00060_init_a7421 0 = .ok (.aload_n 0, 1) := by decide +kernel
theorem dJx00060_init_a7421_1 : decode cJx00060_init_a7421 1 = .ok (.aload_n 1, 1) := by decide +kernel
theorem dJx00060_init_a7421_2 : decode cJx00060_init_a7421 2 = .ok (.invokespecial 7, 3) := by decide +kernel
theorem dJx00060_init_a7421_5 : decode cJx00060_init_a7421 5 = .ok (.return_, 1) := by decide +kernel
theorem dJ9_max_7cf53_0 : decode cJ9_max_7cf53 0 = .ok (.iload_n 0, 1) := by decide +kernel
theorem dJ9_max_7cf53_1 : decode cJ9_max_7cf53 1 = .ok (.iload_n 1, 1) := by decide +kernel
theorem dJ9_max_7cf53_2 : decode cJ9_max_7cf53 2 = .ok (.if_icmp .lt 7, 3) := by decide +kernel
theorem dJ9_max_7cf53_5 : decode cJ9_max_7cf53 5 = .ok (.iload_n 0, 1) := by decide +kernel
theorem dJ9_max_7cf53_6 : decode cJ9_max_7cf53 6 = .ok (.goto 4, 3) := by decide +kernel
theorem dJ9_max_7cf53_9 : decode cJ9_max_7cf53 9 = .ok (.iload_n 1, 1) := by decide +kernel
theorem dJ9_max_7cf53_10 : decode cJ9_max_7cf53 10 = .ok (.ireturn, 1) := by decide +kernel
theorem dJ9_min_7cf53_0 : decode cJ9_min_7cf53 0 = .ok (.iload_n 0, 1) := by decide +kernel
theorem dJ9_min_7cf53_1 : decode cJ9_min_7cf53 1 = .ok (.iload_n 1, 1) := by decide +kernel
theorem dJ9_min_7cf53_2 : decode cJ9_min_7cf53 2 = .ok (.if_icmp .gt 7, 3) := by decide +kernel
theorem dJ9_min_7cf53_5 : decode cJ9_min_7cf53 5 = .ok (.iload_n 0, 1) := by decide +kernel
theorem dJ9_min_7cf53_6 : decode cJ9_min_7cf53 6 = .ok (.goto 4, 3) := by decide +kernel
theorem dJ9_min_7cf53_9 : decode cJ9_min_7cf53 9 = .ok (.iload_n 1, 1) := by decide +kernel
theorem dJ9_min_7cf53_10 : decode cJ9_min_7cf53 10 = .ok (.ireturn, 1) := by decide +kernel
theorem dJ0_length_8abf5_0 : decode cJ0_length_8abf5 0 = .ok (.aload_n 0, 1) := by decide +kernel
theorem dJ0_length_8abf5_1 : decode cJ0_length_8abf5 1 = .ok (.getfield 9, 3) := by decide +kernel
theorem dJ0_length_8abf5_4 : decode cJ0_length_8abf5 4 = .ok (.arraylength, 1) := by decide +kernel
theorem dJ0_length_8abf5_5 : decode cJ0_length_8abf5 5 = .ok (.aload_n 0, 1) := by decide +kernel
theorem dJ0_length_8abf5_6 : decode cJ0_length_8abf5 6 = .ok (.invokevirtual 335, 3) := by decide +kernel
theorem dJ0_length_8abf5_9 : decode cJ0_length_8abf5 9 = .ok (.ishr, 1) := by decide +kernel
theorem dJ0_length_8abf5_10 : decode cJ0_length_8abf5 10 = .ok (.ireturn, 1) := by decide +kernel
theorem dJ0_charAt_5068e_0 : decode cJ0_charAt_5068e 0 = .ok (.aload_n 0, 1) := by decide +kernel
theorem dJ0_charAt_5068e_1 : decode cJ0_charAt_5068e 1 = .ok (.invokevirtual 492, 3) := by decide +kernel
theorem dJ0_charAt_5068e_4 : decode cJ0_charAt_5068e 4 = .ok (.ifCond .eq 12, 3) := by decide +kernel
theorem dJ0_charAt_5068e_7 : decode cJ0_charAt_5068e 7 = .ok (.aload_n 0, 1) := by decide +kernel
theorem dJ0_charAt_5068e_8 : decode cJ0_charAt_5068e 8 = .ok (.getfield 9, 3) := by decide +kernel
theorem dJ0_charAt_5068e_11 : decode cJ0_charAt_5068e 11 = .ok (.iload_n 1, 1) := by decide +kernel
theorem dJ0_charAt_5068e_12 : decode cJ0_charAt_5068e 12 = .ok (.invokestatic 495, 3) := by decide +kernel
theorem dJ0_charAt_5068e_15 : decode cJ0_charAt_5068e 15 = .ok (.ireturn, 1) := by decide +kernel
theorem dJ0_charAt_5068e_16 : decode cJ0_charAt_5068e 16 = .ok (.aload_n 0, 1) := by decide +kernel
theorem dJ0_charAt_5068e_17 : decode cJ0_charAt_5068e 17 = .ok (.getfield 9, 3) := by decide +kernel
theorem dJ0_charAt_5068e_20 : decode cJ0_charAt_5068e 20 = .ok (.iload_n 1, 1) := by decide +kernel
theorem dJ0_charAt_5068e_21 : decode cJ0_charAt_5068e 21 = .ok (.invokestatic 498, 3) := by decide +kernel
theorem dJ0_charAt_5068e_24 : decode cJ0_charAt_5068e 24 = .ok (.ireturn, 1) := by decide +kernel
theorem dJ0_coder_7d493_0 : decode cJ0_coder_7d493 0 = .ok (.getstatic 38, 3) := by decide +kernel
theorem dJ0_coder_7d493_3 : decode cJ0_coder_7d493 3 = .ok (.ifCond .eq 10, 3) := by decide +kernel
theorem dJ0_coder_7d493_6 : decode cJ0_coder_7d493 6 = .ok (.aload_n 0, 1) := by decide +kernel
theorem dJ0_coder_7d493_7 : decode cJ0_coder_7d493 7 = .ok (.getfield 15, 3) := by decide +kernel
theorem dJ0_coder_7d493_10 : decode cJ0_coder_7d493 10 = .ok (.goto 4, 3) := by decide +kernel
theorem dJ0_coder_7d493_13 : decode cJ0_coder_7d493 13 = .ok (.iconst 1, 1) := by decide +kernel
theorem dJ0_coder_7d493_14 : decode cJ0_coder_7d493 14 = .ok (.ireturn, 1) := by decide +kernel
theorem dJ0_isLatin1_aae02_0 : decode cJ0_isLatin1_aae02 0 = .ok (.getstatic 38, 3) := by decide +kernel
theorem dJ0_isLatin1_aae02_3 : decode cJ0_isLatin1_aae02 3 = .ok (.ifCond .eq 14, 3) := by decide +kernel
theorem dJ0_isLatin1_aae02_6 : decode cJ0_isLatin1_aae02 6 = .ok (.aload_n 0, 1) := by decide +kernel
theorem dJ0_isLatin1_aae02_7 : decode cJ0_isLatin1_aae02 7 = .ok (.getfield 15, 3) := by decide +kernel
theorem dJ0_isLatin1_aae02_10 : decode cJ0_isLatin1_aae02 10 = .ok (.ifCond .ne 7, 3) := by decide +kernel
theorem dJ0_isLatin1_aae02_13 : decode cJ0_isLatin1_aae02 13 = .ok (.iconst 1, 1) := by decide +kernel
theorem dJ0_isLatin1_aae02_14 : decode cJ0_isLatin1_aae02 14 = .ok (.goto 4, 3) := by decide +kernel
theorem dJ0_isLatin1_aae02_17 : decode cJ0_isLatin1_aae02 17 = .ok (.iconst 0, 1) := by decide +kernel
theorem dJ0_isLatin1_aae02_18 : decode cJ0_isLatin1_aae02 18 = .ok (.ireturn, 1) := by decide +kernel
theorem dJ0_checkIndex_df160_0 : decode cJ0_checkIndex_df160 0 = .ok (.iload_n 0, 1) := by decide +kernel
theorem dJ0_checkIndex_df160_1 : decode cJ0_checkIndex_df160 1 = .ok (.iload_n 1, 1) := by decide +kernel
theorem dJ0_checkIndex_df160_2 : decode cJ0_checkIndex_df160 2 = .ok (.getstatic 1053, 3) := by decide +kernel
theorem dJ0_checkIndex_df160_5 : decode cJ0_checkIndex_df160 5 = .ok (.invokestatic 1059, 3) := by decide +kernel
theorem dJ0_checkIndex_df160_8 : decode cJ0_checkIndex_df160 8 = .ok (.pop, 1) := by decide +kernel
theorem dJ0_checkIndex_df160_9 : decode cJ0_checkIndex_df160 9 = .ok (.return_, 1) := by decide +kernel
theorem dJ1_charAt_3b067_0 : decode cJ1_charAt_3b067 0 = .ok (.iload_n 1, 1) := by decide +kernel
theorem dJ1_charAt_3b067_1 : decode cJ1_charAt_3b067 1 = .ok (.aload_n 0, 1) := by decide +kernel
theorem dJ1_charAt_3b067_2 : decode cJ1_charAt_3b067 2 = .ok (.arraylength, 1) := by decide +kernel
theorem dJ1_charAt_3b067_3 : decode cJ1_charAt_3b067 3 = .ok (.invokestatic 9, 3) := by decide +kernel
theorem dJ1_charAt_3b067_6 : decode cJ1_charAt_3b067 6 = .ok (.aload_n 0, 1) := by decide +kernel
theorem dJ1_charAt_3b067_7 : decode cJ1_charAt_3b067 7 = .ok (.iload_n 1, 1) := by decide +kernel
theorem dJ1_charAt_3b067_8 : decode cJ1_charAt_3b067 8 = .ok (.baload, 1) := by decide +kernel
theorem dJ1_charAt_3b067_9 : decode cJ1_charAt_3b067 9 = .ok (.sipush 255, 3) := by decide +kernel
theorem dJ1_charAt_3b067_12 : decode cJ1_charAt_3b067 12 = .ok (.iand, 1) := by decide +kernel
theorem dJ1_charAt_3b067_13 : decode cJ1_charAt_3b067 13 = .ok (.i2c, 1) := by decide +kernel
theorem dJ1_charAt_3b067_14 : decode cJ1_charAt_3b067 14 = .ok (.ireturn, 1) := by decide +kernel
theorem dJ2_getChar_3b067_0 : decode cJ2_getChar_3b067 0 = .ok (.getstatic 44, 3) := by decide +kernel
theorem dJ2_getChar_3b067_3 : decode cJ2_getChar_3b067 3 = .ok (.ifCond .ne 25, 3) := by decide +kernel
theorem dJ2_getChar_3b067_6 : decode cJ2_getChar_3b067 6 = .ok (.iload_n 1, 1) := by decide +kernel
theorem dJ2_getChar_3b067_7 : decode cJ2_getChar_3b067 7 = .ok (.ifCond .lt 11, 3) := by decide +kernel
theorem dJ2_getChar_3b067_10 : decode cJ2_getChar_3b067 10 = .ok (.iload_n 1, 1) := by decide +kernel
theorem dJ2_getChar_3b067_11 : decode cJ2_getChar_3b067 11 = .ok (.aload_n 0, 1) := by decide +kernel
theorem dJ2_getChar_3b067_12 : decode cJ2_getChar_3b067 12 = .ok (.invokestatic 48, 3) := by decide +kernel
theorem dJ2_getChar_3b067_15 : decode cJ2_getChar_3b067 15 = .ok (.if_icmp .lt 13, 3) := by decide +kernel
theorem dJ2_getChar_3b067_18 : decode cJ2_getChar_3b067 18 = .ok (.new 52, 3) := by decide +kernel
theorem dJ2_getChar_3b067_21 : decode cJ2_getChar_3b067 21 = .ok (.dup, 1) := by decide +kernel
theorem dJ2_getChar_3b067_22 : decode cJ2_getChar_3b067 22 = .ok (.ldc 54, 2) := by decide +kernel
theorem dJ2_getChar_3b067_24 : decode cJ2_getChar_3b067 24 = .ok (.invokespecial 56, 3) := by decide +kernel
theorem dJ2_getChar_3b067_27 : decode cJ2_getChar_3b067 27 = .ok (.athrow, 1) := by decide +kernel
theorem dJ2_getChar_3b067_28 : decode cJ2_getChar_3b067 28 = .ok (.iload_n 1, 1) := by decide +kernel
theorem dJ2_getChar_3b067_29 : decode cJ2_getChar_3b067 29 = .ok (.iconst 1, 1) := by decide +kernel
theorem dJ2_getChar_3b067_30 : decode cJ2_getChar_3b067 30 = .ok (.ishl, 1) := by decide +kernel
theorem dJ2_getChar_3b067_31 : decode cJ2_getChar_3b067 31 = .ok (.istore_n 1, 1) := by decide +kernel
theorem dJ2_getChar_3b067_32 : decode cJ2_getChar_3b067 32 = .ok (.aload_n 0, 1) := by decide +kernel
theorem dJ2_getChar_3b067_33 : decode cJ2_getChar_3b067 33 = .ok (.iload_n 1, 1) := by decide +kernel
theorem dJ2_getChar_3b067_34 : decode cJ2_getChar_3b067 34 = .ok (.iinc 1 1, 3) := by decide +kernel
theorem dJ2_getChar_3b067_37 : decode cJ2_getChar_3b067 37 = .ok (.baload, 1) := by decide +kernel
theorem dJ2_getChar_3b067_38 : decode cJ2_getChar_3b067 38 = .ok (.sipush 255, 3) := by decide +kernel
theorem dJ2_getChar_3b067_41 : decode cJ2_getChar_3b067 41 = .ok (.iand, 1) := by decide +kernel
theorem dJ2_getChar_3b067_42 : decode cJ2_getChar_3b067 42 = .ok (.getstatic 59, 3) := by decide +kernel
theorem dJ2_getChar_3b067_45 : decode cJ2_getChar_3b067 45 = .ok (.ishl, 1) := by decide +kernel
theorem dJ2_getChar_3b067_46 : decode cJ2_getChar_3b067 46 = .ok (.aload_n 0, 1) := by decide +kernel
theorem dJ2_getChar_3b067_47 : decode cJ2_getChar_3b067 47 = .ok (.iload_n 1, 1) := by decide +kernel
theorem dJ2_getChar_3b067_48 : decode cJ2_getChar_3b067 48 = .ok (.baload, 1) := by decide +kernel
theorem dJ2_getChar_3b067_49 : decode cJ2_getChar_3b067 49 = .ok (.sipush 255, 3) := by decide +kernel
theorem dJ2_getChar_3b067_52 : decode cJ2_getChar_3b067 52 = .ok (.iand, 1) := by decide +kernel
theorem dJ2_getChar_3b067_53 : decode cJ2_getChar_3b067 53 = .ok (.getstatic 63, 3) := by decide +kernel
theorem dJ2_getChar_3b067_56 : decode cJ2_getChar_3b067 56 = .ok (.ishl, 1) := by decide +kernel
theorem dJ2_getChar_3b067_57 : decode cJ2_getChar_3b067 57 = .ok (.ior, 1) := by decide +kernel
theorem dJ2_getChar_3b067_58 : decode cJ2_getChar_3b067 58 = .ok (.i2c, 1) := by decide +kernel
theorem dJ2_getChar_3b067_59 : decode cJ2_getChar_3b067 59 = .ok (.ireturn, 1) := by decide +kernel
theorem dJ2_length_9d52b_0 : decode cJ2_length_9d52b 0 = .ok (.aload_n 0, 1) := by decide +kernel
theorem dJ2_length_9d52b_1 : decode cJ2_length_9d52b 1 = .ok (.arraylength, 1) := by decide +kernel
theorem dJ2_length_9d52b_2 : decode cJ2_length_9d52b 2 = .ok (.iconst 1, 1) := by decide +kernel
theorem dJ2_length_9d52b_3 : decode cJ2_length_9d52b 3 = .ok (.ishr, 1) := by decide +kernel
theorem dJ2_length_9d52b_4 : decode cJ2_length_9d52b 4 = .ok (.ireturn, 1) := by decide +kernel
theorem dJ2_charAt_3b067_0 : decode cJ2_charAt_3b067 0 = .ok (.iload_n 1, 1) := by decide +kernel
theorem dJ2_charAt_3b067_1 : decode cJ2_charAt_3b067 1 = .ok (.aload_n 0, 1) := by decide +kernel
theorem dJ2_charAt_3b067_2 : decode cJ2_charAt_3b067 2 = .ok (.invokestatic 67, 3) := by decide +kernel
theorem dJ2_charAt_3b067_5 : decode cJ2_charAt_3b067 5 = .ok (.aload_n 0, 1) := by decide +kernel
theorem dJ2_charAt_3b067_6 : decode cJ2_charAt_3b067 6 = .ok (.iload_n 1, 1) := by decide +kernel
theorem dJ2_charAt_3b067_7 : decode cJ2_charAt_3b067 7 = .ok (.invokestatic 71, 3) := by decide +kernel
theorem dJ2_charAt_3b067_10 : decode cJ2_charAt_3b067 10 = .ok (.ireturn, 1) := by decide +kernel
theorem dJ2_checkIndex_2214a_0 : decode cJ2_checkIndex_2214a 0 = .ok (.iload_n 0, 1) := by decide +kernel
theorem dJ2_checkIndex_2214a_1 : decode cJ2_checkIndex_2214a 1 = .ok (.aload_n 1, 1) := by decide +kernel
theorem dJ2_checkIndex_2214a_2 : decode cJ2_checkIndex_2214a 2 = .ok (.invokestatic 48, 3) := by decide +kernel
theorem dJ2_checkIndex_2214a_5 : decode cJ2_checkIndex_2214a 5 = .ok (.invokestatic 414, 3) := by decide +kernel
theorem dJ2_checkIndex_2214a_8 : decode cJ2_checkIndex_2214a 8 = .ok (.return_, 1) := by decide +kernel
theorem dJ3_checkIndex_8e157_0 : decode cJ3_checkIndex_8e157 0 = .ok (.iload_n 0, 1) := by decide +kernel
theorem dJ3_checkIndex_8e157_1 : decode cJ3_checkIndex_8e157 1 = .ok (.ifCond .lt 8, 3) := by decide +kernel
theorem dJ3_checkIndex_8e157_4 : decode cJ3_checkIndex_8e157 4 = .ok (.iload_n 0, 1) := by decide +kernel
theorem dJ3_checkIndex_8e157_5 : decode cJ3_checkIndex_8e157 5 = .ok (.iload_n 1, 1) := by decide +kernel
theorem dJ3_checkIndex_8e157_6 : decode cJ3_checkIndex_8e157 6 = .ok (.if_icmp .lt 10, 3) := by decide +kernel
theorem dJ3_checkIndex_8e157_9 : decode cJ3_checkIndex_8e157 9 = .ok (.aload_n 2, 1) := by decide +kernel
theorem dJ3_checkIndex_8e157_10 : decode cJ3_checkIndex_8e157 10 = .ok (.iload_n 0, 1) := by decide +kernel
theorem dJ3_checkIndex_8e157_11 : decode cJ3_checkIndex_8e157 11 = .ok (.iload_n 1, 1) := by decide +kernel
theorem dJ3_checkIndex_8e157_12 : decode cJ3_checkIndex_8e157 12 = .ok (.invokestatic 95, 3) := by decide +kernel
theorem dJ3_checkIndex_8e157_15 : decode cJ3_checkIndex_8e157 15 = .ok (.athrow, 1) := by decide +kernel
theorem dJ3_checkIndex_8e157_16 : decode cJ3_checkIndex_8e157 16 = .ok (.iload_n 0, 1) := by decide +kernel
theorem dJ3_checkIndex_8e157_17 : decode cJ3_checkIndex_8e157 17 = .ok (.ireturn, 1) := by decide +kernel
theorem dL_type_0 : decode cL_type 0 = .ok (.aload_n 2, 1) := by decide +kernel
theorem dL_type_1 : decode cL_type 1 = .ok (.iconst 0, 1) := by decide +kernel
theorem dL_type_2 : decode cL_type 2 = .ok (.aload_n 0, 1) := by decide +kernel
theorem dL_type_3 : decode cL_type 3 = .ok (.iload_n 1, 1) := by decide +kernel
theorem dL_type_4 : decode cL_type 4 = .ok (.invokevirtual 7, 3) := by decide +kernel
theorem dL_type_7 : decode cL_type 7 = .ok (.i2l, 1) := by decide +kernel
theorem dL_type_8 : decode cL_type 8 = .ok (.lastore, 1) := by decide +kernel
theorem dL_type_9 : decode cL_type 9 = .ok (.goto 6, 3) := by decide +kernel
theorem dL_type_12 : decode cL_type 12 = .ok (.astore_n 3, 1) := by decide +kernel
theorem dL_type_13 : decode cL_type 13 = .ok (.iconst 1, 1) := by decide +kernel
theorem dL_type_14 : decode cL_type 14 = .ok (.ireturn, 1) := by decide +kernel
theorem dL_type_15 : decode cL_type 15 = .ok (.iconst 0, 1) := by decide +kernel
theorem dL_type_16 : decode cL_type 16 = .ok (.ireturn, 1) := by decide +kernel
theorem dL_addParty_0 : decode cL_addParty 0 = .ok (.aload_n 1, 1) := by decide +kernel
theorem dL_addParty_1 : decode cL_addParty 1 = .ok (.iconst 0, 1) := by decide +kernel
theorem dL_addParty_2 : decode cL_addParty 2 = .ok (.aload_n 0, 1) := by decide +kernel
theorem dL_addParty_3 : decode cL_addParty 3 = .ok (.invokevirtual 15, 3) := by decide +kernel
theorem dL_addParty_6 : decode cL_addParty 6 = .ok (.i2l, 1) := by decide +kernel
theorem dL_addParty_7 : decode cL_addParty 7 = .ok (.lastore, 1) := by decide +kernel
theorem dL_addParty_8 : decode cL_addParty 8 = .ok (.goto 9, 3) := by decide +kernel
theorem dL_addParty_11 : decode cL_addParty 11 = .ok (.astore_n 2, 1) := by decide +kernel
theorem dL_addParty_12 : decode cL_addParty 12 = .ok (.iconst 1, 1) := by decide +kernel
theorem dL_addParty_13 : decode cL_addParty 13 = .ok (.ireturn, 1) := by decide +kernel
theorem dL_addParty_14 : decode cL_addParty 14 = .ok (.astore_n 2, 1) := by decide +kernel
theorem dL_addParty_15 : decode cL_addParty 15 = .ok (.iconst 2, 1) := by decide +kernel
theorem dL_addParty_16 : decode cL_addParty 16 = .ok (.ireturn, 1) := by decide +kernel
theorem dL_addParty_17 : decode cL_addParty 17 = .ok (.iconst 0, 1) := by decide +kernel
theorem dL_addParty_18 : decode cL_addParty 18 = .ok (.ireturn, 1) := by decide +kernel
theorem dL_findParty_0 : decode cL_findParty 0 = .ok (.aload_n 1, 1) := by decide +kernel
theorem dL_findParty_1 : decode cL_findParty 1 = .ok (.iconst 0, 1) := by decide +kernel
theorem dL_findParty_2 : decode cL_findParty 2 = .ok (.aload_n 0, 1) := by decide +kernel
theorem dL_findParty_3 : decode cL_findParty 3 = .ok (.invokevirtual 21, 3) := by decide +kernel
theorem dL_findParty_6 : decode cL_findParty 6 = .ok (.i2l, 1) := by decide +kernel
theorem dL_findParty_7 : decode cL_findParty 7 = .ok (.lastore, 1) := by decide +kernel
theorem dL_findParty_8 : decode cL_findParty 8 = .ok (.goto 6, 3) := by decide +kernel
theorem dL_findParty_11 : decode cL_findParty 11 = .ok (.astore_n 2, 1) := by decide +kernel
theorem dL_findParty_12 : decode cL_findParty 12 = .ok (.iconst 1, 1) := by decide +kernel
theorem dL_findParty_13 : decode cL_findParty 13 = .ok (.ireturn, 1) := by decide +kernel
theorem dL_findParty_14 : decode cL_findParty 14 = .ok (.iconst 0, 1) := by decide +kernel
theorem dL_findParty_15 : decode cL_findParty 15 = .ok (.ireturn, 1) := by decide +kernel
theorem dL_nameLength_0 : decode cL_nameLength 0 = .ok (.aload_n 2, 1) := by decide +kernel
theorem dL_nameLength_1 : decode cL_nameLength 1 = .ok (.iconst 0, 1) := by decide +kernel
theorem dL_nameLength_2 : decode cL_nameLength 2 = .ok (.aload_n 0, 1) := by decide +kernel
theorem dL_nameLength_3 : decode cL_nameLength 3 = .ok (.iload_n 1, 1) := by decide +kernel
theorem dL_nameLength_4 : decode cL_nameLength 4 = .ok (.invokevirtual 26, 3) := by decide +kernel
theorem dL_nameLength_7 : decode cL_nameLength 7 = .ok (.i2l, 1) := by decide +kernel
theorem dL_nameLength_8 : decode cL_nameLength 8 = .ok (.lastore, 1) := by decide +kernel
theorem dL_nameLength_9 : decode cL_nameLength 9 = .ok (.goto 6, 3) := by decide +kernel
theorem dL_nameLength_12 : decode cL_nameLength 12 = .ok (.astore_n 3, 1) := by decide +kernel
theorem dL_nameLength_13 : decode cL_nameLength 13 = .ok (.iconst 1, 1) := by decide +kernel
theorem dL_nameLength_14 : decode cL_nameLength 14 = .ok (.ireturn, 1) := by decide +kernel
theorem dL_nameLength_15 : decode cL_nameLength 15 = .ok (.iconst 0, 1) := by decide +kernel
theorem dL_nameLength_16 : decode cL_nameLength 16 = .ok (.ireturn, 1) := by decide +kernel
theorem dL_nameCodePoint_0 : decode cL_nameCodePoint 0 = .ok (.aload_n 3, 1) := by decide +kernel
theorem dL_nameCodePoint_1 : decode cL_nameCodePoint 1 = .ok (.iconst 0, 1) := by decide +kernel
theorem dL_nameCodePoint_2 : decode cL_nameCodePoint 2 = .ok (.aload_n 0, 1) := by decide +kernel
theorem dL_nameCodePoint_3 : decode cL_nameCodePoint 3 = .ok (.iload_n 1, 1) := by decide +kernel
theorem dL_nameCodePoint_4 : decode cL_nameCodePoint 4 = .ok (.iload_n 2, 1) := by decide +kernel
theorem dL_nameCodePoint_5 : decode cL_nameCodePoint 5 = .ok (.invokevirtual 32, 3) := by decide +kernel
theorem dL_nameCodePoint_8 : decode cL_nameCodePoint 8 = .ok (.i2l, 1) := by decide +kernel
theorem dL_nameCodePoint_9 : decode cL_nameCodePoint 9 = .ok (.lastore, 1) := by decide +kernel
theorem dL_nameCodePoint_10 : decode cL_nameCodePoint 10 = .ok (.goto 7, 3) := by decide +kernel
theorem dL_nameCodePoint_13 : decode cL_nameCodePoint 13 = .ok (.astore 4, 2) := by decide +kernel
theorem dL_nameCodePoint_15 : decode cL_nameCodePoint 15 = .ok (.iconst 1, 1) := by decide +kernel
theorem dL_nameCodePoint_16 : decode cL_nameCodePoint 16 = .ok (.ireturn, 1) := by decide +kernel
theorem dL_nameCodePoint_17 : decode cL_nameCodePoint 17 = .ok (.iconst 0, 1) := by decide +kernel
theorem dL_nameCodePoint_18 : decode cL_nameCodePoint 18 = .ok (.ireturn, 1) := by decide +kernel
theorem dL_writeNameReversed_0 : decode cL_writeNameReversed 0 = .ok (.aload_n 2, 1) := by decide +kernel
theorem dL_writeNameReversed_1 : decode cL_writeNameReversed 1 = .ok (.iconst 0, 1) := by decide +kernel
theorem dL_writeNameReversed_2 : decode cL_writeNameReversed 2 = .ok (.aload_n 0, 1) := by decide +kernel
theorem dL_writeNameReversed_3 : decode cL_writeNameReversed 3 = .ok (.iload_n 1, 1) := by decide +kernel
theorem dL_writeNameReversed_4 : decode cL_writeNameReversed 4 = .ok (.invokevirtual 36, 3) := by decide +kernel
theorem dL_writeNameReversed_7 : decode cL_writeNameReversed 7 = .ok (.i2l, 1) := by decide +kernel
theorem dL_writeNameReversed_8 : decode cL_writeNameReversed 8 = .ok (.lastore, 1) := by decide +kernel
theorem dL_writeNameReversed_9 : decode cL_writeNameReversed 9 = .ok (.goto 6, 3) := by decide +kernel
theorem dL_writeNameReversed_12 : decode cL_writeNameReversed 12 = .ok (.astore_n 3, 1) := by decide +kernel
theorem dL_writeNameReversed_13 : decode cL_writeNameReversed 13 = .ok (.iconst 1, 1) := by decide +kernel
theorem dL_writeNameReversed_14 : decode cL_writeNameReversed 14 = .ok (.ireturn, 1) := by decide +kernel
theorem dL_writeNameReversed_15 : decode cL_writeNameReversed 15 = .ok (.iconst 0, 1) := by decide +kernel
theorem dL_writeNameReversed_16 : decode cL_writeNameReversed 16 = .ok (.ireturn, 1) := by decide +kernel
theorem dL_advance_0 : decode cL_advance 0 = .ok (.aload_n 2, 1) := by decide +kernel
theorem dL_advance_1 : decode cL_advance 1 = .ok (.iconst 0, 1) := by decide +kernel
theorem dL_advance_2 : decode cL_advance 2 = .ok (.aload_n 0, 1) := by decide +kernel
theorem dL_advance_3 : decode cL_advance 3 = .ok (.iload_n 1, 1) := by decide +kernel
theorem dL_advance_4 : decode cL_advance 4 = .ok (.invokevirtual 39, 3) := by decide +kernel
theorem dL_advance_7 : decode cL_advance 7 = .ok (.i2l, 1) := by decide +kernel
theorem dL_advance_8 : decode cL_advance 8 = .ok (.lastore, 1) := by decide +kernel
theorem dL_advance_9 : decode cL_advance 9 = .ok (.goto 9, 3) := by decide +kernel
theorem dL_advance_12 : decode cL_advance 12 = .ok (.astore_n 3, 1) := by decide +kernel
theorem dL_advance_13 : decode cL_advance 13 = .ok (.iconst 1, 1) := by decide +kernel
theorem dL_advance_14 : decode cL_advance 14 = .ok (.ireturn, 1) := by decide +kernel
theorem dL_advance_15 : decode cL_advance 15 = .ok (.astore_n 3, 1) := by decide +kernel
theorem dL_advance_16 : decode cL_advance 16 = .ok (.iconst 2, 1) := by decide +kernel
theorem dL_advance_17 : decode cL_advance 17 = .ok (.ireturn, 1) := by decide +kernel
theorem dL_advance_18 : decode cL_advance 18 = .ok (.iconst 0, 1) := by decide +kernel
theorem dL_advance_19 : decode cL_advance 19 = .ok (.ireturn, 1) := by decide +kernel
theorem dL_weekday_0 : decode cL_weekday 0 = .ok (.aload_n 2, 1) := by decide +kernel
theorem dL_weekday_1 : decode cL_weekday 1 = .ok (.iconst 0, 1) := by decide +kernel
theorem dL_weekday_2 : decode cL_weekday 2 = .ok (.aload_n 0, 1) := by decide +kernel
theorem dL_weekday_3 : decode cL_weekday 3 = .ok (.iload_n 1, 1) := by decide +kernel
theorem dL_weekday_4 : decode cL_weekday 4 = .ok (.invokevirtual 42, 3) := by decide +kernel
theorem dL_weekday_7 : decode cL_weekday 7 = .ok (.i2l, 1) := by decide +kernel
theorem dL_weekday_8 : decode cL_weekday 8 = .ok (.lastore, 1) := by decide +kernel
theorem dL_weekday_9 : decode cL_weekday 9 = .ok (.goto 6, 3) := by decide +kernel
theorem dL_weekday_12 : decode cL_weekday 12 = .ok (.astore_n 3, 1) := by decide +kernel
theorem dL_weekday_13 : decode cL_weekday 13 = .ok (.iconst 1, 1) := by decide +kernel
theorem dL_weekday_14 : decode cL_weekday 14 = .ok (.ireturn, 1) := by decide +kernel
theorem dL_weekday_15 : decode cL_weekday 15 = .ok (.iconst 0, 1) := by decide +kernel
theorem dL_weekday_16 : decode cL_weekday 16 = .ok (.ireturn, 1) := by decide +kernel
theorem dL_isCourtDay_0 : decode cL_isCourtDay 0 = .ok (.aload_n 2, 1) := by decide +kernel
theorem dL_isCourtDay_1 : decode cL_isCourtDay 1 = .ok (.iconst 0, 1) := by decide +kernel
theorem dL_isCourtDay_2 : decode cL_isCourtDay 2 = .ok (.aload_n 0, 1) := by decide +kernel
theorem dL_isCourtDay_3 : decode cL_isCourtDay 3 = .ok (.iload_n 1, 1) := by decide +kernel
theorem dL_isCourtDay_4 : decode cL_isCourtDay 4 = .ok (.invokevirtual 45, 3) := by decide +kernel
theorem dL_isCourtDay_7 : decode cL_isCourtDay 7 = .ok (.ifCond .eq 7, 3) := by decide +kernel
theorem dL_isCourtDay_10 : decode cL_isCourtDay 10 = .ok (.lconst 1, 1) := by decide +kernel
theorem dL_isCourtDay_11 : decode cL_isCourtDay 11 = .ok (.goto 4, 3) := by decide +kernel
theorem dL_isCourtDay_14 : decode cL_isCourtDay 14 = .ok (.lconst 0, 1) := by decide +kernel
theorem dL_isCourtDay_15 : decode cL_isCourtDay 15 = .ok (.lastore, 1) := by decide +kernel
theorem dL_isCourtDay_16 : decode cL_isCourtDay 16 = .ok (.goto 6, 3) := by decide +kernel
theorem dL_isCourtDay_19 : decode cL_isCourtDay 19 = .ok (.astore_n 3, 1) := by decide +kernel
theorem dL_isCourtDay_20 : decode cL_isCourtDay 20 = .ok (.iconst 1, 1) := by decide +kernel
theorem dL_isCourtDay_21 : decode cL_isCourtDay 21 = .ok (.ireturn, 1) := by decide +kernel
theorem dL_isCourtDay_22 : decode cL_isCourtDay 22 = .ok (.iconst 0, 1) := by decide +kernel
theorem dL_isCourtDay_23 : decode cL_isCourtDay 23 = .ok (.ireturn, 1) := by decide +kernel
theorem dL_addHoliday_0 : decode cL_addHoliday 0 = .ok (.aload_n 2, 1) := by decide +kernel
theorem dL_addHoliday_1 : decode cL_addHoliday 1 = .ok (.iconst 0, 1) := by decide +kernel
theorem dL_addHoliday_2 : decode cL_addHoliday 2 = .ok (.aload_n 0, 1) := by decide +kernel
theorem dL_addHoliday_3 : decode cL_addHoliday 3 = .ok (.iload_n 1, 1) := by decide +kernel
theorem dL_addHoliday_4 : decode cL_addHoliday 4 = .ok (.invokevirtual 49, 3) := by decide +kernel
theorem dL_addHoliday_7 : decode cL_addHoliday 7 = .ok (.i2l, 1) := by decide +kernel
theorem dL_addHoliday_8 : decode cL_addHoliday 8 = .ok (.lastore, 1) := by decide +kernel
theorem dL_addHoliday_9 : decode cL_addHoliday 9 = .ok (.goto 9, 3) := by decide +kernel
theorem dL_addHoliday_12 : decode cL_addHoliday 12 = .ok (.astore_n 3, 1) := by decide +kernel
theorem dL_addHoliday_13 : decode cL_addHoliday 13 = .ok (.iconst 1, 1) := by decide +kernel
theorem dL_addHoliday_14 : decode cL_addHoliday 14 = .ok (.ireturn, 1) := by decide +kernel
theorem dL_addHoliday_15 : decode cL_addHoliday 15 = .ok (.astore_n 3, 1) := by decide +kernel
theorem dL_addHoliday_16 : decode cL_addHoliday 16 = .ok (.iconst 2, 1) := by decide +kernel
theorem dL_addHoliday_17 : decode cL_addHoliday 17 = .ok (.ireturn, 1) := by decide +kernel
theorem dL_addHoliday_18 : decode cL_addHoliday 18 = .ok (.iconst 0, 1) := by decide +kernel
theorem dL_addHoliday_19 : decode cL_addHoliday 19 = .ok (.ireturn, 1) := by decide +kernel
theorem dL_removeHoliday_0 : decode cL_removeHoliday 0 = .ok (.aload_n 2, 1) := by decide +kernel
theorem dL_removeHoliday_1 : decode cL_removeHoliday 1 = .ok (.iconst 0, 1) := by decide +kernel
theorem dL_removeHoliday_2 : decode cL_removeHoliday 2 = .ok (.aload_n 0, 1) := by decide +kernel
theorem dL_removeHoliday_3 : decode cL_removeHoliday 3 = .ok (.iload_n 1, 1) := by decide +kernel
theorem dL_removeHoliday_4 : decode cL_removeHoliday 4 = .ok (.invokevirtual 52, 3) := by decide +kernel
theorem dL_removeHoliday_7 : decode cL_removeHoliday 7 = .ok (.i2l, 1) := by decide +kernel
theorem dL_removeHoliday_8 : decode cL_removeHoliday 8 = .ok (.lastore, 1) := by decide +kernel
theorem dL_removeHoliday_9 : decode cL_removeHoliday 9 = .ok (.goto 9, 3) := by decide +kernel
theorem dL_removeHoliday_12 : decode cL_removeHoliday 12 = .ok (.astore_n 3, 1) := by decide +kernel
theorem dL_removeHoliday_13 : decode cL_removeHoliday 13 = .ok (.iconst 1, 1) := by decide +kernel
theorem dL_removeHoliday_14 : decode cL_removeHoliday 14 = .ok (.ireturn, 1) := by decide +kernel
theorem dL_removeHoliday_15 : decode cL_removeHoliday 15 = .ok (.astore_n 3, 1) := by decide +kernel
theorem dL_removeHoliday_16 : decode cL_removeHoliday 16 = .ok (.iconst 2, 1) := by decide +kernel
theorem dL_removeHoliday_17 : decode cL_removeHoliday 17 = .ok (.ireturn, 1) := by decide +kernel
theorem dL_removeHoliday_18 : decode cL_removeHoliday 18 = .ok (.iconst 0, 1) := by decide +kernel
theorem dL_removeHoliday_19 : decode cL_removeHoliday 19 = .ok (.ireturn, 1) := by decide +kernel
theorem dL_courtDays_0 : decode cL_courtDays 0 = .ok (.aload_n 3, 1) := by decide +kernel
theorem dL_courtDays_1 : decode cL_courtDays 1 = .ok (.iconst 0, 1) := by decide +kernel
theorem dL_courtDays_2 : decode cL_courtDays 2 = .ok (.aload_n 0, 1) := by decide +kernel
theorem dL_courtDays_3 : decode cL_courtDays 3 = .ok (.iload_n 1, 1) := by decide +kernel
theorem dL_courtDays_4 : decode cL_courtDays 4 = .ok (.iload_n 2, 1) := by decide +kernel
theorem dL_courtDays_5 : decode cL_courtDays 5 = .ok (.invokevirtual 55, 3) := by decide +kernel
theorem dL_courtDays_8 : decode cL_courtDays 8 = .ok (.i2l, 1) := by decide +kernel
theorem dL_courtDays_9 : decode cL_courtDays 9 = .ok (.lastore, 1) := by decide +kernel
theorem dL_courtDays_10 : decode cL_courtDays 10 = .ok (.goto 7, 3) := by decide +kernel
theorem dL_courtDays_13 : decode cL_courtDays 13 = .ok (.astore 4, 2) := by decide +kernel
theorem dL_courtDays_15 : decode cL_courtDays 15 = .ok (.iconst 1, 1) := by decide +kernel
theorem dL_courtDays_16 : decode cL_courtDays 16 = .ok (.ireturn, 1) := by decide +kernel
theorem dL_courtDays_17 : decode cL_courtDays 17 = .ok (.iconst 0, 1) := by decide +kernel
theorem dL_courtDays_18 : decode cL_courtDays 18 = .ok (.ireturn, 1) := by decide +kernel
theorem dL_courtDaysByMarking_0 : decode cL_courtDaysByMarking 0 = .ok (.aload_n 3, 1) := by decide +kernel
theorem dL_courtDaysByMarking_1 : decode cL_courtDaysByMarking 1 = .ok (.iconst 0, 1) := by decide +kernel
theorem dL_courtDaysByMarking_2 : decode cL_courtDaysByMarking 2 = .ok (.aload_n 0, 1) := by decide +kernel
theorem dL_courtDaysByMarking_3 : decode cL_courtDaysByMarking 3 = .ok (.iload_n 1, 1) := by decide +kernel
theorem dL_courtDaysByMarking_4 : decode cL_courtDaysByMarking 4 = .ok (.iload_n 2, 1) := by decide +kernel
theorem dL_courtDaysByMarking_5 : decode cL_courtDaysByMarking 5 = .ok (.invokevirtual 58, 3) := by decide +kernel
theorem dL_courtDaysByMarking_8 : decode cL_courtDaysByMarking 8 = .ok (.i2l, 1) := by decide +kernel
theorem dL_courtDaysByMarking_9 : decode cL_courtDaysByMarking 9 = .ok (.lastore, 1) := by decide +kernel
theorem dL_courtDaysByMarking_10 : decode cL_courtDaysByMarking 10 = .ok (.goto 7, 3) := by decide +kernel
theorem dL_courtDaysByMarking_13 : decode cL_courtDaysByMarking 13 = .ok (.astore 4, 2) := by decide +kernel
theorem dL_courtDaysByMarking_15 : decode cL_courtDaysByMarking 15 = .ok (.iconst 1, 1) := by decide +kernel
theorem dL_courtDaysByMarking_16 : decode cL_courtDaysByMarking 16 = .ok (.ireturn, 1) := by decide +kernel
theorem dL_courtDaysByMarking_17 : decode cL_courtDaysByMarking 17 = .ok (.iconst 0, 1) := by decide +kernel
theorem dL_courtDaysByMarking_18 : decode cL_courtDaysByMarking 18 = .ok (.ireturn, 1) := by decide +kernel
theorem dL_setRule_0 : decode cL_setRule 0 = .ok (.aload 4, 2) := by decide +kernel
theorem dL_setRule_2 : decode cL_setRule 2 = .ok (.iconst 0, 1) := by decide +kernel
theorem dL_setRule_3 : decode cL_setRule 3 = .ok (.aload_n 0, 1) := by decide +kernel
theorem dL_setRule_4 : decode cL_setRule 4 = .ok (.iload_n 1, 1) := by decide +kernel
theorem dL_setRule_5 : decode cL_setRule 5 = .ok (.iload_n 2, 1) := by decide +kernel
theorem dL_setRule_6 : decode cL_setRule 6 = .ok (.iload_n 3, 1) := by decide +kernel
theorem dL_setRule_7 : decode cL_setRule 7 = .ok (.invokevirtual 61, 3) := by decide +kernel
theorem dL_setRule_10 : decode cL_setRule 10 = .ok (.i2l, 1) := by decide +kernel
theorem dL_setRule_11 : decode cL_setRule 11 = .ok (.lastore, 1) := by decide +kernel
theorem dL_setRule_12 : decode cL_setRule 12 = .ok (.goto 11, 3) := by decide +kernel
theorem dL_setRule_15 : decode cL_setRule 15 = .ok (.astore 5, 2) := by decide +kernel
theorem dL_setRule_17 : decode cL_setRule 17 = .ok (.iconst 1, 1) := by decide +kernel
theorem dL_setRule_18 : decode cL_setRule 18 = .ok (.ireturn, 1) := by decide +kernel
theorem dL_setRule_19 : decode cL_setRule 19 = .ok (.astore 5, 2) := by decide +kernel
theorem dL_setRule_21 : decode cL_setRule 21 = .ok (.iconst 2, 1) := by decide +kernel
theorem dL_setRule_22 : decode cL_setRule 22 = .ok (.ireturn, 1) := by decide +kernel
theorem dL_setRule_23 : decode cL_setRule 23 = .ok (.iconst 0, 1) := by decide +kernel
theorem dL_setRule_24 : decode cL_setRule 24 = .ok (.ireturn, 1) := by decide +kernel
theorem dL_ruleLength_0 : decode cL_ruleLength 0 = .ok (.aload_n 2, 1) := by decide +kernel
theorem dL_ruleLength_1 : decode cL_ruleLength 1 = .ok (.iconst 0, 1) := by decide +kernel
theorem dL_ruleLength_2 : decode cL_ruleLength 2 = .ok (.aload_n 0, 1) := by decide +kernel
theorem dL_ruleLength_3 : decode cL_ruleLength 3 = .ok (.iload_n 1, 1) := by decide +kernel
theorem dL_ruleLength_4 : decode cL_ruleLength 4 = .ok (.invokevirtual 65, 3) := by decide +kernel
theorem dL_ruleLength_7 : decode cL_ruleLength 7 = .ok (.i2l, 1) := by decide +kernel
theorem dL_ruleLength_8 : decode cL_ruleLength 8 = .ok (.lastore, 1) := by decide +kernel
theorem dL_ruleLength_9 : decode cL_ruleLength 9 = .ok (.goto 6, 3) := by decide +kernel
theorem dL_ruleLength_12 : decode cL_ruleLength 12 = .ok (.astore_n 3, 1) := by decide +kernel
theorem dL_ruleLength_13 : decode cL_ruleLength 13 = .ok (.iconst 1, 1) := by decide +kernel
theorem dL_ruleLength_14 : decode cL_ruleLength 14 = .ok (.ireturn, 1) := by decide +kernel
theorem dL_ruleLength_15 : decode cL_ruleLength 15 = .ok (.iconst 0, 1) := by decide +kernel
theorem dL_ruleLength_16 : decode cL_ruleLength 16 = .ok (.ireturn, 1) := by decide +kernel
theorem dL_countsCourtDays_0 : decode cL_countsCourtDays 0 = .ok (.aload_n 2, 1) := by decide +kernel
theorem dL_countsCourtDays_1 : decode cL_countsCourtDays 1 = .ok (.iconst 0, 1) := by decide +kernel
theorem dL_countsCourtDays_2 : decode cL_countsCourtDays 2 = .ok (.aload_n 0, 1) := by decide +kernel
theorem dL_countsCourtDays_3 : decode cL_countsCourtDays 3 = .ok (.iload_n 1, 1) := by decide +kernel
theorem dL_countsCourtDays_4 : decode cL_countsCourtDays 4 = .ok (.invokevirtual 68, 3) := by decide +kernel
theorem dL_countsCourtDays_7 : decode cL_countsCourtDays 7 = .ok (.ifCond .eq 7, 3) := by decide +kernel
theorem dL_countsCourtDays_10 : decode cL_countsCourtDays 10 = .ok (.lconst 1, 1) := by decide +kernel
theorem dL_countsCourtDays_11 : decode cL_countsCourtDays 11 = .ok (.goto 4, 3) := by decide +kernel
theorem dL_countsCourtDays_14 : decode cL_countsCourtDays 14 = .ok (.lconst 0, 1) := by decide +kernel
theorem dL_countsCourtDays_15 : decode cL_countsCourtDays 15 = .ok (.lastore, 1) := by decide +kernel
theorem dL_countsCourtDays_16 : decode cL_countsCourtDays 16 = .ok (.goto 6, 3) := by decide +kernel
theorem dL_countsCourtDays_19 : decode cL_countsCourtDays 19 = .ok (.astore_n 3, 1) := by decide +kernel
theorem dL_countsCourtDays_20 : decode cL_countsCourtDays 20 = .ok (.iconst 1, 1) := by decide +kernel
theorem dL_countsCourtDays_21 : decode cL_countsCourtDays 21 = .ok (.ireturn, 1) := by decide +kernel
theorem dL_countsCourtDays_22 : decode cL_countsCourtDays 22 = .ok (.iconst 0, 1) := by decide +kernel
theorem dL_countsCourtDays_23 : decode cL_countsCourtDays 23 = .ok (.ireturn, 1) := by decide +kernel
theorem dL_setServiceDays_0 : decode cL_setServiceDays 0 = .ok (.aload_n 3, 1) := by decide +kernel
theorem dL_setServiceDays_1 : decode cL_setServiceDays 1 = .ok (.iconst 0, 1) := by decide +kernel
theorem dL_setServiceDays_2 : decode cL_setServiceDays 2 = .ok (.aload_n 0, 1) := by decide +kernel
theorem dL_setServiceDays_3 : decode cL_setServiceDays 3 = .ok (.iload_n 1, 1) := by decide +kernel
theorem dL_setServiceDays_4 : decode cL_setServiceDays 4 = .ok (.iload_n 2, 1) := by decide +kernel
theorem dL_setServiceDays_5 : decode cL_setServiceDays 5 = .ok (.invokevirtual 71, 3) := by decide +kernel
theorem dL_setServiceDays_8 : decode cL_setServiceDays 8 = .ok (.i2l, 1) := by decide +kernel
theorem dL_setServiceDays_9 : decode cL_setServiceDays 9 = .ok (.lastore, 1) := by decide +kernel
theorem dL_setServiceDays_10 : decode cL_setServiceDays 10 = .ok (.goto 7, 3) := by decide +kernel
theorem dL_setServiceDays_13 : decode cL_setServiceDays 13 = .ok (.astore 4, 2) := by decide +kernel
theorem dL_setServiceDays_15 : decode cL_setServiceDays 15 = .ok (.iconst 1, 1) := by decide +kernel
theorem dL_setServiceDays_16 : decode cL_setServiceDays 16 = .ok (.ireturn, 1) := by decide +kernel
theorem dL_setServiceDays_17 : decode cL_setServiceDays 17 = .ok (.iconst 0, 1) := by decide +kernel
theorem dL_setServiceDays_18 : decode cL_setServiceDays 18 = .ok (.ireturn, 1) := by decide +kernel
theorem dL_serviceDays_0 : decode cL_serviceDays 0 = .ok (.aload_n 2, 1) := by decide +kernel
theorem dL_serviceDays_1 : decode cL_serviceDays 1 = .ok (.iconst 0, 1) := by decide +kernel
theorem dL_serviceDays_2 : decode cL_serviceDays 2 = .ok (.aload_n 0, 1) := by decide +kernel
theorem dL_serviceDays_3 : decode cL_serviceDays 3 = .ok (.iload_n 1, 1) := by decide +kernel
theorem dL_serviceDays_4 : decode cL_serviceDays 4 = .ok (.invokevirtual 75, 3) := by decide +kernel
theorem dL_serviceDays_7 : decode cL_serviceDays 7 = .ok (.i2l, 1) := by decide +kernel
theorem dL_serviceDays_8 : decode cL_serviceDays 8 = .ok (.lastore, 1) := by decide +kernel
theorem dL_serviceDays_9 : decode cL_serviceDays 9 = .ok (.goto 6, 3) := by decide +kernel
theorem dL_serviceDays_12 : decode cL_serviceDays 12 = .ok (.astore_n 3, 1) := by decide +kernel
theorem dL_serviceDays_13 : decode cL_serviceDays 13 = .ok (.iconst 1, 1) := by decide +kernel
theorem dL_serviceDays_14 : decode cL_serviceDays 14 = .ok (.ireturn, 1) := by decide +kernel
theorem dL_serviceDays_15 : decode cL_serviceDays 15 = .ok (.iconst 0, 1) := by decide +kernel
theorem dL_serviceDays_16 : decode cL_serviceDays 16 = .ok (.ireturn, 1) := by decide +kernel
theorem dL_lastDayBefore_0 : decode cL_lastDayBefore 0 = .ok (.aload_n 3, 1) := by decide +kernel
theorem dL_lastDayBefore_1 : decode cL_lastDayBefore 1 = .ok (.iconst 0, 1) := by decide +kernel
theorem dL_lastDayBefore_2 : decode cL_lastDayBefore 2 = .ok (.aload_n 0, 1) := by decide +kernel
theorem dL_lastDayBefore_3 : decode cL_lastDayBefore 3 = .ok (.iload_n 1, 1) := by decide +kernel
theorem dL_lastDayBefore_4 : decode cL_lastDayBefore 4 = .ok (.iload_n 2, 1) := by decide +kernel
theorem dL_lastDayBefore_5 : decode cL_lastDayBefore 5 = .ok (.invokevirtual 78, 3) := by decide +kernel
theorem dL_lastDayBefore_8 : decode cL_lastDayBefore 8 = .ok (.i2l, 1) := by decide +kernel
theorem dL_lastDayBefore_9 : decode cL_lastDayBefore 9 = .ok (.lastore, 1) := by decide +kernel
theorem dL_lastDayBefore_10 : decode cL_lastDayBefore 10 = .ok (.goto 15, 3) := by decide +kernel
theorem dL_lastDayBefore_13 : decode cL_lastDayBefore 13 = .ok (.astore 4, 2) := by decide +kernel
theorem dL_lastDayBefore_15 : decode cL_lastDayBefore 15 = .ok (.iconst 1, 1) := by decide +kernel
theorem dL_lastDayBefore_16 : decode cL_lastDayBefore 16 = .ok (.ireturn, 1) := by decide +kernel
theorem dL_lastDayBefore_17 : decode cL_lastDayBefore 17 = .ok (.astore 4, 2) := by decide +kernel
theorem dL_lastDayBefore_19 : decode cL_lastDayBefore 19 = .ok (.iconst 2, 1) := by decide +kernel
theorem dL_lastDayBefore_20 : decode cL_lastDayBefore 20 = .ok (.ireturn, 1) := by decide +kernel
theorem dL_lastDayBefore_21 : decode cL_lastDayBefore 21 = .ok (.astore 4, 2) := by decide +kernel
theorem dL_lastDayBefore_23 : decode cL_lastDayBefore 23 = .ok (.iconst 3, 1) := by decide +kernel
theorem dL_lastDayBefore_24 : decode cL_lastDayBefore 24 = .ok (.ireturn, 1) := by decide +kernel
theorem dL_lastDayBefore_25 : decode cL_lastDayBefore 25 = .ok (.iconst 0, 1) := by decide +kernel
theorem dL_lastDayBefore_26 : decode cL_lastDayBefore 26 = .ok (.ireturn, 1) := by decide +kernel
theorem dL_lastDayBeforeByMarking_0 : decode cL_lastDayBeforeByMarking 0 = .ok (.aload_n 3, 1) := by decide +kernel
theorem dL_lastDayBeforeByMarking_1 : decode cL_lastDayBeforeByMarking 1 = .ok (.iconst 0, 1) := by decide +kernel
theorem dL_lastDayBeforeByMarking_2 : decode cL_lastDayBeforeByMarking 2 = .ok (.aload_n 0, 1) := by decide +kernel
theorem dL_lastDayBeforeByMarking_3 : decode cL_lastDayBeforeByMarking 3 = .ok (.iload_n 1, 1) := by decide +kernel
theorem dL_lastDayBeforeByMarking_4 : decode cL_lastDayBeforeByMarking 4 = .ok (.iload_n 2, 1) := by decide +kernel
theorem dL_lastDayBeforeByMarking_5 : decode cL_lastDayBeforeByMarking 5 = .ok (.invokevirtual 81, 3) := by decide +kernel
theorem dL_lastDayBeforeByMarking_8 : decode cL_lastDayBeforeByMarking 8 = .ok (.i2l, 1) := by decide +kernel
theorem dL_lastDayBeforeByMarking_9 : decode cL_lastDayBeforeByMarking 9 = .ok (.lastore, 1) := by decide +kernel
theorem dL_lastDayBeforeByMarking_10 : decode cL_lastDayBeforeByMarking 10 = .ok (.goto 15, 3) := by decide +kernel
theorem dL_lastDayBeforeByMarking_13 : decode cL_lastDayBeforeByMarking 13 = .ok (.astore 4, 2) := by decide +kernel
theorem dL_lastDayBeforeByMarking_15 : decode cL_lastDayBeforeByMarking 15 = .ok (.iconst 1, 1) := by decide +kernel
theorem dL_lastDayBeforeByMarking_16 : decode cL_lastDayBeforeByMarking 16 = .ok (.ireturn, 1) := by decide +kernel
theorem dL_lastDayBeforeByMarking_17 : decode cL_lastDayBeforeByMarking 17 = .ok (.astore 4, 2) := by decide +kernel
theorem dL_lastDayBeforeByMarking_19 : decode cL_lastDayBeforeByMarking 19 = .ok (.iconst 2, 1) := by decide +kernel
theorem dL_lastDayBeforeByMarking_20 : decode cL_lastDayBeforeByMarking 20 = .ok (.ireturn, 1) := by decide +kernel
theorem dL_lastDayBeforeByMarking_21 : decode cL_lastDayBeforeByMarking 21 = .ok (.astore 4, 2) := by decide +kernel
theorem dL_lastDayBeforeByMarking_23 : decode cL_lastDayBeforeByMarking 23 = .ok (.iconst 3, 1) := by decide +kernel
theorem dL_lastDayBeforeByMarking_24 : decode cL_lastDayBeforeByMarking 24 = .ok (.ireturn, 1) := by decide +kernel
theorem dL_lastDayBeforeByMarking_25 : decode cL_lastDayBeforeByMarking 25 = .ok (.iconst 0, 1) := by decide +kernel
theorem dL_lastDayBeforeByMarking_26 : decode cL_lastDayBeforeByMarking 26 = .ok (.ireturn, 1) := by decide +kernel
theorem dL_serve_0 : decode cL_serve 0 = .ok (.aload 4, 2) := by decide +kernel
theorem dL_serve_2 : decode cL_serve 2 = .ok (.iconst 0, 1) := by decide +kernel
theorem dL_serve_3 : decode cL_serve 3 = .ok (.aload_n 0, 1) := by decide +kernel
theorem dL_serve_4 : decode cL_serve 4 = .ok (.iload_n 1, 1) := by decide +kernel
theorem dL_serve_5 : decode cL_serve 5 = .ok (.iload_n 2, 1) := by decide +kernel
theorem dL_serve_6 : decode cL_serve 6 = .ok (.iload_n 3, 1) := by decide +kernel
theorem dL_serve_7 : decode cL_serve 7 = .ok (.invokevirtual 84, 3) := by decide +kernel
theorem dL_serve_10 : decode cL_serve 10 = .ok (.i2l, 1) := by decide +kernel
theorem dL_serve_11 : decode cL_serve 11 = .ok (.lastore, 1) := by decide +kernel
theorem dL_serve_12 : decode cL_serve 12 = .ok (.goto 15, 3) := by decide +kernel
theorem dL_serve_15 : decode cL_serve 15 = .ok (.astore 5, 2) := by decide +kernel
theorem dL_serve_17 : decode cL_serve 17 = .ok (.iconst 1, 1) := by decide +kernel
theorem dL_serve_18 : decode cL_serve 18 = .ok (.ireturn, 1) := by decide +kernel
theorem dL_serve_19 : decode cL_serve 19 = .ok (.astore 5, 2) := by decide +kernel
theorem dL_serve_21 : decode cL_serve 21 = .ok (.iconst 2, 1) := by decide +kernel
theorem dL_serve_22 : decode cL_serve 22 = .ok (.ireturn, 1) := by decide +kernel
theorem dL_serve_23 : decode cL_serve 23 = .ok (.astore 5, 2) := by decide +kernel
theorem dL_serve_25 : decode cL_serve 25 = .ok (.iconst 3, 1) := by decide +kernel
theorem dL_serve_26 : decode cL_serve 26 = .ok (.ireturn, 1) := by decide +kernel
theorem dL_serve_27 : decode cL_serve 27 = .ok (.iconst 0, 1) := by decide +kernel
theorem dL_serve_28 : decode cL_serve 28 = .ok (.ireturn, 1) := by decide +kernel
theorem dL_due_0 : decode cL_due 0 = .ok (.aload_n 2, 1) := by decide +kernel
theorem dL_due_1 : decode cL_due 1 = .ok (.iconst 0, 1) := by decide +kernel
theorem dL_due_2 : decode cL_due 2 = .ok (.aload_n 0, 1) := by decide +kernel
theorem dL_due_3 : decode cL_due 3 = .ok (.iload_n 1, 1) := by decide +kernel
theorem dL_due_4 : decode cL_due 4 = .ok (.invokevirtual 88, 3) := by decide +kernel
theorem dL_due_7 : decode cL_due 7 = .ok (.i2l, 1) := by decide +kernel
theorem dL_due_8 : decode cL_due 8 = .ok (.lastore, 1) := by decide +kernel
theorem dL_due_9 : decode cL_due 9 = .ok (.goto 9, 3) := by decide +kernel
theorem dL_due_12 : decode cL_due 12 = .ok (.astore_n 3, 1) := by decide +kernel
theorem dL_due_13 : decode cL_due 13 = .ok (.iconst 1, 1) := by decide +kernel
theorem dL_due_14 : decode cL_due 14 = .ok (.ireturn, 1) := by decide +kernel
theorem dL_due_15 : decode cL_due 15 = .ok (.astore_n 3, 1) := by decide +kernel
theorem dL_due_16 : decode cL_due 16 = .ok (.iconst 2, 1) := by decide +kernel
theorem dL_due_17 : decode cL_due 17 = .ok (.ireturn, 1) := by decide +kernel
theorem dL_due_18 : decode cL_due 18 = .ok (.iconst 0, 1) := by decide +kernel
theorem dL_due_19 : decode cL_due 19 = .ok (.ireturn, 1) := by decide +kernel
theorem dL_dueByMarking_0 : decode cL_dueByMarking 0 = .ok (.aload_n 2, 1) := by decide +kernel
theorem dL_dueByMarking_1 : decode cL_dueByMarking 1 = .ok (.iconst 0, 1) := by decide +kernel
theorem dL_dueByMarking_2 : decode cL_dueByMarking 2 = .ok (.aload_n 0, 1) := by decide +kernel
theorem dL_dueByMarking_3 : decode cL_dueByMarking 3 = .ok (.iload_n 1, 1) := by decide +kernel
theorem dL_dueByMarking_4 : decode cL_dueByMarking 4 = .ok (.invokevirtual 91, 3) := by decide +kernel
theorem dL_dueByMarking_7 : decode cL_dueByMarking 7 = .ok (.i2l, 1) := by decide +kernel
theorem dL_dueByMarking_8 : decode cL_dueByMarking 8 = .ok (.lastore, 1) := by decide +kernel
theorem dL_dueByMarking_9 : decode cL_dueByMarking 9 = .ok (.goto 9, 3) := by decide +kernel
theorem dL_dueByMarking_12 : decode cL_dueByMarking 12 = .ok (.astore_n 3, 1) := by decide +kernel
theorem dL_dueByMarking_13 : decode cL_dueByMarking 13 = .ok (.iconst 1, 1) := by decide +kernel
theorem dL_dueByMarking_14 : decode cL_dueByMarking 14 = .ok (.ireturn, 1) := by decide +kernel
theorem dL_dueByMarking_15 : decode cL_dueByMarking 15 = .ok (.astore_n 3, 1) := by decide +kernel
theorem dL_dueByMarking_16 : decode cL_dueByMarking 16 = .ok (.iconst 2, 1) := by decide +kernel
theorem dL_dueByMarking_17 : decode cL_dueByMarking 17 = .ok (.ireturn, 1) := by decide +kernel
theorem dL_dueByMarking_18 : decode cL_dueByMarking 18 = .ok (.iconst 0, 1) := by decide +kernel
theorem dL_dueByMarking_19 : decode cL_dueByMarking 19 = .ok (.ireturn, 1) := by decide +kernel
theorem dL_daysLeft_0 : decode cL_daysLeft 0 = .ok (.aload_n 2, 1) := by decide +kernel
theorem dL_daysLeft_1 : decode cL_daysLeft 1 = .ok (.iconst 0, 1) := by decide +kernel
theorem dL_daysLeft_2 : decode cL_daysLeft 2 = .ok (.aload_n 0, 1) := by decide +kernel
theorem dL_daysLeft_3 : decode cL_daysLeft 3 = .ok (.iload_n 1, 1) := by decide +kernel
theorem dL_daysLeft_4 : decode cL_daysLeft 4 = .ok (.invokevirtual 94, 3) := by decide +kernel
theorem dL_daysLeft_7 : decode cL_daysLeft 7 = .ok (.i2l, 1) := by decide +kernel
theorem dL_daysLeft_8 : decode cL_daysLeft 8 = .ok (.lastore, 1) := by decide +kernel
theorem dL_daysLeft_9 : decode cL_daysLeft 9 = .ok (.goto 6, 3) := by decide +kernel
theorem dL_daysLeft_12 : decode cL_daysLeft 12 = .ok (.astore_n 3, 1) := by decide +kernel
theorem dL_daysLeft_13 : decode cL_daysLeft 13 = .ok (.iconst 1, 1) := by decide +kernel
theorem dL_daysLeft_14 : decode cL_daysLeft 14 = .ok (.ireturn, 1) := by decide +kernel
theorem dL_daysLeft_15 : decode cL_daysLeft 15 = .ok (.iconst 0, 1) := by decide +kernel
theorem dL_daysLeft_16 : decode cL_daysLeft 16 = .ok (.ireturn, 1) := by decide +kernel
theorem dL_daysLeftByMarking_0 : decode cL_daysLeftByMarking 0 = .ok (.aload_n 2, 1) := by decide +kernel
theorem dL_daysLeftByMarking_1 : decode cL_daysLeftByMarking 1 = .ok (.iconst 0, 1) := by decide +kernel
theorem dL_daysLeftByMarking_2 : decode cL_daysLeftByMarking 2 = .ok (.aload_n 0, 1) := by decide +kernel
theorem dL_daysLeftByMarking_3 : decode cL_daysLeftByMarking 3 = .ok (.iload_n 1, 1) := by decide +kernel
theorem dL_daysLeftByMarking_4 : decode cL_daysLeftByMarking 4 = .ok (.invokevirtual 97, 3) := by decide +kernel
theorem dL_daysLeftByMarking_7 : decode cL_daysLeftByMarking 7 = .ok (.i2l, 1) := by decide +kernel
theorem dL_daysLeftByMarking_8 : decode cL_daysLeftByMarking 8 = .ok (.lastore, 1) := by decide +kernel
theorem dL_daysLeftByMarking_9 : decode cL_daysLeftByMarking 9 = .ok (.goto 6, 3) := by decide +kernel
theorem dL_daysLeftByMarking_12 : decode cL_daysLeftByMarking 12 = .ok (.astore_n 3, 1) := by decide +kernel
theorem dL_daysLeftByMarking_13 : decode cL_daysLeftByMarking 13 = .ok (.iconst 1, 1) := by decide +kernel
theorem dL_daysLeftByMarking_14 : decode cL_daysLeftByMarking 14 = .ok (.ireturn, 1) := by decide +kernel
theorem dL_daysLeftByMarking_15 : decode cL_daysLeftByMarking 15 = .ok (.iconst 0, 1) := by decide +kernel
theorem dL_daysLeftByMarking_16 : decode cL_daysLeftByMarking 16 = .ok (.ireturn, 1) := by decide +kernel
theorem dL_extendByConsent_0 : decode cL_extendByConsent 0 = .ok (.aload_n 3, 1) := by decide +kernel
theorem dL_extendByConsent_1 : decode cL_extendByConsent 1 = .ok (.iconst 0, 1) := by decide +kernel
theorem dL_extendByConsent_2 : decode cL_extendByConsent 2 = .ok (.aload_n 0, 1) := by decide +kernel
theorem dL_extendByConsent_3 : decode cL_extendByConsent 3 = .ok (.iload_n 1, 1) := by decide +kernel
theorem dL_extendByConsent_4 : decode cL_extendByConsent 4 = .ok (.iload_n 2, 1) := by decide +kernel
theorem dL_extendByConsent_5 : decode cL_extendByConsent 5 = .ok (.invokevirtual 100, 3) := by decide +kernel
theorem dL_extendByConsent_8 : decode cL_extendByConsent 8 = .ok (.i2l, 1) := by decide +kernel
theorem dL_extendByConsent_9 : decode cL_extendByConsent 9 = .ok (.lastore, 1) := by decide +kernel
theorem dL_extendByConsent_10 : decode cL_extendByConsent 10 = .ok (.goto 19, 3) := by decide +kernel
theorem dL_extendByConsent_13 : decode cL_extendByConsent 13 = .ok (.astore 4, 2) := by decide +kernel
theorem dL_extendByConsent_15 : decode cL_extendByConsent 15 = .ok (.iconst 1, 1) := by decide +kernel
theorem dL_extendByConsent_16 : decode cL_extendByConsent 16 = .ok (.ireturn, 1) := by decide +kernel
theorem dL_extendByConsent_17 : decode cL_extendByConsent 17 = .ok (.astore 4, 2) := by decide +kernel
theorem dL_extendByConsent_19 : decode cL_extendByConsent 19 = .ok (.iconst 2, 1) := by decide +kernel
theorem dL_extendByConsent_20 : decode cL_extendByConsent 20 = .ok (.ireturn, 1) := by decide +kernel
theorem dL_extendByConsent_21 : decode cL_extendByConsent 21 = .ok (.astore 4, 2) := by decide +kernel
theorem dL_extendByConsent_23 : decode cL_extendByConsent 23 = .ok (.iconst 3, 1) := by decide +kernel
theorem dL_extendByConsent_24 : decode cL_extendByConsent 24 = .ok (.ireturn, 1) := by decide +kernel
theorem dL_extendByConsent_25 : decode cL_extendByConsent 25 = .ok (.astore 4, 2) := by decide +kernel
theorem dL_extendByConsent_27 : decode cL_extendByConsent 27 = .ok (.iconst 4, 1) := by decide +kernel
theorem dL_extendByConsent_28 : decode cL_extendByConsent 28 = .ok (.ireturn, 1) := by decide +kernel
theorem dL_extendByConsent_29 : decode cL_extendByConsent 29 = .ok (.iconst 0, 1) := by decide +kernel
theorem dL_extendByConsent_30 : decode cL_extendByConsent 30 = .ok (.ireturn, 1) := by decide +kernel
theorem dL_extendByOrder_0 : decode cL_extendByOrder 0 = .ok (.aload_n 3, 1) := by decide +kernel
theorem dL_extendByOrder_1 : decode cL_extendByOrder 1 = .ok (.iconst 0, 1) := by decide +kernel
theorem dL_extendByOrder_2 : decode cL_extendByOrder 2 = .ok (.aload_n 0, 1) := by decide +kernel
theorem dL_extendByOrder_3 : decode cL_extendByOrder 3 = .ok (.iload_n 1, 1) := by decide +kernel
theorem dL_extendByOrder_4 : decode cL_extendByOrder 4 = .ok (.iload_n 2, 1) := by decide +kernel
theorem dL_extendByOrder_5 : decode cL_extendByOrder 5 = .ok (.invokevirtual 105, 3) := by decide +kernel
theorem dL_extendByOrder_8 : decode cL_extendByOrder 8 = .ok (.i2l, 1) := by decide +kernel
theorem dL_extendByOrder_9 : decode cL_extendByOrder 9 = .ok (.lastore, 1) := by decide +kernel
theorem dL_extendByOrder_10 : decode cL_extendByOrder 10 = .ok (.goto 15, 3) := by decide +kernel
theorem dL_extendByOrder_13 : decode cL_extendByOrder 13 = .ok (.astore 4, 2) := by decide +kernel
theorem dL_extendByOrder_15 : decode cL_extendByOrder 15 = .ok (.iconst 1, 1) := by decide +kernel
theorem dL_extendByOrder_16 : decode cL_extendByOrder 16 = .ok (.ireturn, 1) := by decide +kernel
theorem dL_extendByOrder_17 : decode cL_extendByOrder 17 = .ok (.astore 4, 2) := by decide +kernel
theorem dL_extendByOrder_19 : decode cL_extendByOrder 19 = .ok (.iconst 2, 1) := by decide +kernel
theorem dL_extendByOrder_20 : decode cL_extendByOrder 20 = .ok (.ireturn, 1) := by decide +kernel
theorem dL_extendByOrder_21 : decode cL_extendByOrder 21 = .ok (.astore 4, 2) := by decide +kernel
theorem dL_extendByOrder_23 : decode cL_extendByOrder 23 = .ok (.iconst 3, 1) := by decide +kernel
theorem dL_extendByOrder_24 : decode cL_extendByOrder 24 = .ok (.ireturn, 1) := by decide +kernel
theorem dL_extendByOrder_25 : decode cL_extendByOrder 25 = .ok (.iconst 0, 1) := by decide +kernel
theorem dL_extendByOrder_26 : decode cL_extendByOrder 26 = .ok (.ireturn, 1) := by decide +kernel
theorem dL_extensionDays_0 : decode cL_extensionDays 0 = .ok (.aload_n 2, 1) := by decide +kernel
theorem dL_extensionDays_1 : decode cL_extensionDays 1 = .ok (.iconst 0, 1) := by decide +kernel
theorem dL_extensionDays_2 : decode cL_extensionDays 2 = .ok (.aload_n 0, 1) := by decide +kernel
theorem dL_extensionDays_3 : decode cL_extensionDays 3 = .ok (.iload_n 1, 1) := by decide +kernel
theorem dL_extensionDays_4 : decode cL_extensionDays 4 = .ok (.invokevirtual 108, 3) := by decide +kernel
theorem dL_extensionDays_7 : decode cL_extensionDays 7 = .ok (.i2l, 1) := by decide +kernel
theorem dL_extensionDays_8 : decode cL_extensionDays 8 = .ok (.lastore, 1) := by decide +kernel
theorem dL_extensionDays_9 : decode cL_extensionDays 9 = .ok (.goto 6, 3) := by decide +kernel
theorem dL_extensionDays_12 : decode cL_extensionDays 12 = .ok (.astore_n 3, 1) := by decide +kernel
theorem dL_extensionDays_13 : decode cL_extensionDays 13 = .ok (.iconst 1, 1) := by decide +kernel
theorem dL_extensionDays_14 : decode cL_extensionDays 14 = .ok (.ireturn, 1) := by decide +kernel
theorem dL_extensionDays_15 : decode cL_extensionDays 15 = .ok (.iconst 0, 1) := by decide +kernel
theorem dL_extensionDays_16 : decode cL_extensionDays 16 = .ok (.ireturn, 1) := by decide +kernel
theorem dL_file_0 : decode cL_file 0 = .ok (.aload_n 2, 1) := by decide +kernel
theorem dL_file_1 : decode cL_file 1 = .ok (.iconst 0, 1) := by decide +kernel
theorem dL_file_2 : decode cL_file 2 = .ok (.aload_n 0, 1) := by decide +kernel
theorem dL_file_3 : decode cL_file 3 = .ok (.iload_n 1, 1) := by decide +kernel
theorem dL_file_4 : decode cL_file 4 = .ok (.invokevirtual 111, 3) := by decide +kernel
theorem dL_file_7 : decode cL_file 7 = .ok (.ifCond .eq 7, 3) := by decide +kernel
theorem dL_file_10 : decode cL_file 10 = .ok (.lconst 1, 1) := by decide +kernel
theorem dL_file_11 : decode cL_file 11 = .ok (.goto 4, 3) := by decide +kernel
theorem dL_file_14 : decode cL_file 14 = .ok (.lconst 0, 1) := by decide +kernel
theorem dL_file_15 : decode cL_file 15 = .ok (.lastore, 1) := by decide +kernel
theorem dL_file_16 : decode cL_file 16 = .ok (.goto 9, 3) := by decide +kernel
theorem dL_file_19 : decode cL_file 19 = .ok (.astore_n 3, 1) := by decide +kernel
theorem dL_file_20 : decode cL_file 20 = .ok (.iconst 1, 1) := by decide +kernel
theorem dL_file_21 : decode cL_file 21 = .ok (.ireturn, 1) := by decide +kernel
theorem dL_file_22 : decode cL_file 22 = .ok (.astore_n 3, 1) := by decide +kernel
theorem dL_file_23 : decode cL_file 23 = .ok (.iconst 2, 1) := by decide +kernel
theorem dL_file_24 : decode cL_file 24 = .ok (.ireturn, 1) := by decide +kernel
theorem dL_file_25 : decode cL_file 25 = .ok (.iconst 0, 1) := by decide +kernel
theorem dL_file_26 : decode cL_file 26 = .ok (.ireturn, 1) := by decide +kernel
theorem dL_strike_0 : decode cL_strike 0 = .ok (.aload_n 2, 1) := by decide +kernel
theorem dL_strike_1 : decode cL_strike 1 = .ok (.iconst 0, 1) := by decide +kernel
theorem dL_strike_2 : decode cL_strike 2 = .ok (.aload_n 0, 1) := by decide +kernel
theorem dL_strike_3 : decode cL_strike 3 = .ok (.iload_n 1, 1) := by decide +kernel
theorem dL_strike_4 : decode cL_strike 4 = .ok (.invokevirtual 114, 3) := by decide +kernel
theorem dL_strike_7 : decode cL_strike 7 = .ok (.i2l, 1) := by decide +kernel
theorem dL_strike_8 : decode cL_strike 8 = .ok (.lastore, 1) := by decide +kernel
theorem dL_strike_9 : decode cL_strike 9 = .ok (.goto 9, 3) := by decide +kernel
theorem dL_strike_12 : decode cL_strike 12 = .ok (.astore_n 3, 1) := by decide +kernel
theorem dL_strike_13 : decode cL_strike 13 = .ok (.iconst 1, 1) := by decide +kernel
theorem dL_strike_14 : decode cL_strike 14 = .ok (.ireturn, 1) := by decide +kernel
theorem dL_strike_15 : decode cL_strike 15 = .ok (.astore_n 3, 1) := by decide +kernel
theorem dL_strike_16 : decode cL_strike 16 = .ok (.iconst 2, 1) := by decide +kernel
theorem dL_strike_17 : decode cL_strike 17 = .ok (.ireturn, 1) := by decide +kernel
theorem dL_strike_18 : decode cL_strike 18 = .ok (.iconst 0, 1) := by decide +kernel
theorem dL_strike_19 : decode cL_strike 19 = .ok (.ireturn, 1) := by decide +kernel
theorem dL_status_0 : decode cL_status 0 = .ok (.aload_n 2, 1) := by decide +kernel
theorem dL_status_1 : decode cL_status 1 = .ok (.iconst 0, 1) := by decide +kernel
theorem dL_status_2 : decode cL_status 2 = .ok (.aload_n 0, 1) := by decide +kernel
theorem dL_status_3 : decode cL_status 3 = .ok (.iload_n 1, 1) := by decide +kernel
theorem dL_status_4 : decode cL_status 4 = .ok (.invokevirtual 117, 3) := by decide +kernel
theorem dL_status_7 : decode cL_status 7 = .ok (.i2l, 1) := by decide +kernel
theorem dL_status_8 : decode cL_status 8 = .ok (.lastore, 1) := by decide +kernel
theorem dL_status_9 : decode cL_status 9 = .ok (.goto 6, 3) := by decide +kernel
theorem dL_status_12 : decode cL_status 12 = .ok (.astore_n 3, 1) := by decide +kernel
theorem dL_status_13 : decode cL_status 13 = .ok (.iconst 1, 1) := by decide +kernel
theorem dL_status_14 : decode cL_status 14 = .ok (.ireturn, 1) := by decide +kernel
theorem dL_status_15 : decode cL_status 15 = .ok (.iconst 0, 1) := by decide +kernel
theorem dL_status_16 : decode cL_status 16 = .ok (.ireturn, 1) := by decide +kernel
theorem dL_openAt_0 : decode cL_openAt 0 = .ok (.aload_n 2, 1) := by decide +kernel
theorem dL_openAt_1 : decode cL_openAt 1 = .ok (.iconst 0, 1) := by decide +kernel
theorem dL_openAt_2 : decode cL_openAt 2 = .ok (.aload_n 0, 1) := by decide +kernel
theorem dL_openAt_3 : decode cL_openAt 3 = .ok (.iload_n 1, 1) := by decide +kernel
theorem dL_openAt_4 : decode cL_openAt 4 = .ok (.invokevirtual 121, 3) := by decide +kernel
theorem dL_openAt_7 : decode cL_openAt 7 = .ok (.i2l, 1) := by decide +kernel
theorem dL_openAt_8 : decode cL_openAt 8 = .ok (.lastore, 1) := by decide +kernel
theorem dL_openAt_9 : decode cL_openAt 9 = .ok (.goto 6, 3) := by decide +kernel
theorem dL_openAt_12 : decode cL_openAt 12 = .ok (.astore_n 3, 1) := by decide +kernel
theorem dL_openAt_13 : decode cL_openAt 13 = .ok (.iconst 1, 1) := by decide +kernel
theorem dL_openAt_14 : decode cL_openAt 14 = .ok (.ireturn, 1) := by decide +kernel
theorem dL_openAt_15 : decode cL_openAt 15 = .ok (.iconst 0, 1) := by decide +kernel
theorem dL_openAt_16 : decode cL_openAt 16 = .ok (.ireturn, 1) := by decide +kernel
theorem dL_busiestDay_0 : decode cL_busiestDay 0 = .ok (.aload_n 1, 1) := by decide +kernel
theorem dL_busiestDay_1 : decode cL_busiestDay 1 = .ok (.iconst 0, 1) := by decide +kernel
theorem dL_busiestDay_2 : decode cL_busiestDay 2 = .ok (.aload_n 0, 1) := by decide +kernel
theorem dL_busiestDay_3 : decode cL_busiestDay 3 = .ok (.invokevirtual 124, 3) := by decide +kernel
theorem dL_busiestDay_6 : decode cL_busiestDay 6 = .ok (.i2l, 1) := by decide +kernel
theorem dL_busiestDay_7 : decode cL_busiestDay 7 = .ok (.lastore, 1) := by decide +kernel
theorem dL_busiestDay_8 : decode cL_busiestDay 8 = .ok (.goto 6, 3) := by decide +kernel
theorem dL_busiestDay_11 : decode cL_busiestDay 11 = .ok (.astore_n 2, 1) := by decide +kernel
theorem dL_busiestDay_12 : decode cL_busiestDay 12 = .ok (.iconst 1, 1) := by decide +kernel
theorem dL_busiestDay_13 : decode cL_busiestDay 13 = .ok (.ireturn, 1) := by decide +kernel
theorem dL_busiestDay_14 : decode cL_busiestDay 14 = .ok (.iconst 0, 1) := by decide +kernel
theorem dL_busiestDay_15 : decode cL_busiestDay 15 = .ok (.ireturn, 1) := by decide +kernel
theorem dL_meanDaysLeft_0 : decode cL_meanDaysLeft 0 = .ok (.aload_n 1, 1) := by decide +kernel
theorem dL_meanDaysLeft_1 : decode cL_meanDaysLeft 1 = .ok (.iconst 0, 1) := by decide +kernel
theorem dL_meanDaysLeft_2 : decode cL_meanDaysLeft 2 = .ok (.aload_n 0, 1) := by decide +kernel
theorem dL_meanDaysLeft_3 : decode cL_meanDaysLeft 3 = .ok (.invokevirtual 127, 3) := by decide +kernel
theorem dL_meanDaysLeft_6 : decode cL_meanDaysLeft 6 = .ok (.dastore, 1) := by decide +kernel
theorem dL_meanDaysLeft_7 : decode cL_meanDaysLeft 7 = .ok (.goto 6, 3) := by decide +kernel
theorem dL_meanDaysLeft_10 : decode cL_meanDaysLeft 10 = .ok (.astore_n 2, 1) := by decide +kernel
theorem dL_meanDaysLeft_11 : decode cL_meanDaysLeft 11 = .ok (.iconst 1, 1) := by decide +kernel
theorem dL_meanDaysLeft_12 : decode cL_meanDaysLeft 12 = .ok (.ireturn, 1) := by decide +kernel
theorem dL_meanDaysLeft_13 : decode cL_meanDaysLeft 13 = .ok (.iconst 0, 1) := by decide +kernel
theorem dL_meanDaysLeft_14 : decode cL_meanDaysLeft 14 = .ok (.ireturn, 1) := by decide +kernel
theorem dL_stayParty_0 : decode cL_stayParty 0 = .ok (.aload_n 3, 1) := by decide +kernel
theorem dL_stayParty_1 : decode cL_stayParty 1 = .ok (.iconst 0, 1) := by decide +kernel
theorem dL_stayParty_2 : decode cL_stayParty 2 = .ok (.aload_n 0, 1) := by decide +kernel
theorem dL_stayParty_3 : decode cL_stayParty 3 = .ok (.iload_n 1, 1) := by decide +kernel
theorem dL_stayParty_4 : decode cL_stayParty 4 = .ok (.iload_n 2, 1) := by decide +kernel
theorem dL_stayParty_5 : decode cL_stayParty 5 = .ok (.invokevirtual 133, 3) := by decide +kernel
theorem dL_stayParty_8 : decode cL_stayParty 8 = .ok (.i2l, 1) := by decide +kernel
theorem dL_stayParty_9 : decode cL_stayParty 9 = .ok (.lastore, 1) := by decide +kernel
theorem dL_stayParty_10 : decode cL_stayParty 10 = .ok (.goto 15, 3) := by decide +kernel
theorem dL_stayParty_13 : decode cL_stayParty 13 = .ok (.astore 4, 2) := by decide +kernel
theorem dL_stayParty_15 : decode cL_stayParty 15 = .ok (.iconst 1, 1) := by decide +kernel
theorem dL_stayParty_16 : decode cL_stayParty 16 = .ok (.ireturn, 1) := by decide +kernel
theorem dL_stayParty_17 : decode cL_stayParty 17 = .ok (.astore 4, 2) := by decide +kernel
theorem dL_stayParty_19 : decode cL_stayParty 19 = .ok (.iconst 2, 1) := by decide +kernel
theorem dL_stayParty_20 : decode cL_stayParty 20 = .ok (.ireturn, 1) := by decide +kernel
theorem dL_stayParty_21 : decode cL_stayParty 21 = .ok (.astore 4, 2) := by decide +kernel
theorem dL_stayParty_23 : decode cL_stayParty 23 = .ok (.iconst 3, 1) := by decide +kernel
theorem dL_stayParty_24 : decode cL_stayParty 24 = .ok (.ireturn, 1) := by decide +kernel
theorem dL_stayParty_25 : decode cL_stayParty 25 = .ok (.iconst 0, 1) := by decide +kernel
theorem dL_stayParty_26 : decode cL_stayParty 26 = .ok (.ireturn, 1) := by decide +kernel
theorem dL_stayAll_0 : decode cL_stayAll 0 = .ok (.aload_n 2, 1) := by decide +kernel
theorem dL_stayAll_1 : decode cL_stayAll 1 = .ok (.iconst 0, 1) := by decide +kernel
theorem dL_stayAll_2 : decode cL_stayAll 2 = .ok (.aload_n 0, 1) := by decide +kernel
theorem dL_stayAll_3 : decode cL_stayAll 3 = .ok (.iload_n 1, 1) := by decide +kernel
theorem dL_stayAll_4 : decode cL_stayAll 4 = .ok (.invokevirtual 136, 3) := by decide +kernel
theorem dL_stayAll_7 : decode cL_stayAll 7 = .ok (.i2l, 1) := by decide +kernel
theorem dL_stayAll_8 : decode cL_stayAll 8 = .ok (.lastore, 1) := by decide +kernel
theorem dL_stayAll_9 : decode cL_stayAll 9 = .ok (.goto 9, 3) := by decide +kernel
theorem dL_stayAll_12 : decode cL_stayAll 12 = .ok (.astore_n 3, 1) := by decide +kernel
theorem dL_stayAll_13 : decode cL_stayAll 13 = .ok (.iconst 1, 1) := by decide +kernel
theorem dL_stayAll_14 : decode cL_stayAll 14 = .ok (.ireturn, 1) := by decide +kernel
theorem dL_stayAll_15 : decode cL_stayAll 15 = .ok (.astore_n 3, 1) := by decide +kernel
theorem dL_stayAll_16 : decode cL_stayAll 16 = .ok (.iconst 2, 1) := by decide +kernel
theorem dL_stayAll_17 : decode cL_stayAll 17 = .ok (.ireturn, 1) := by decide +kernel
theorem dL_stayAll_18 : decode cL_stayAll 18 = .ok (.iconst 0, 1) := by decide +kernel
theorem dL_stayAll_19 : decode cL_stayAll 19 = .ok (.ireturn, 1) := by decide +kernel
theorem dL_lift_0 : decode cL_lift 0 = .ok (.aload_n 2, 1) := by decide +kernel
theorem dL_lift_1 : decode cL_lift 1 = .ok (.iconst 0, 1) := by decide +kernel
theorem dL_lift_2 : decode cL_lift 2 = .ok (.aload_n 0, 1) := by decide +kernel
theorem dL_lift_3 : decode cL_lift 3 = .ok (.iload_n 1, 1) := by decide +kernel
theorem dL_lift_4 : decode cL_lift 4 = .ok (.invokevirtual 139, 3) := by decide +kernel
theorem dL_lift_7 : decode cL_lift 7 = .ok (.i2l, 1) := by decide +kernel
theorem dL_lift_8 : decode cL_lift 8 = .ok (.lastore, 1) := by decide +kernel
theorem dL_lift_9 : decode cL_lift 9 = .ok (.goto 9, 3) := by decide +kernel
theorem dL_lift_12 : decode cL_lift 12 = .ok (.astore_n 3, 1) := by decide +kernel
theorem dL_lift_13 : decode cL_lift 13 = .ok (.iconst 1, 1) := by decide +kernel
theorem dL_lift_14 : decode cL_lift 14 = .ok (.ireturn, 1) := by decide +kernel
theorem dL_lift_15 : decode cL_lift 15 = .ok (.astore_n 3, 1) := by decide +kernel
theorem dL_lift_16 : decode cL_lift 16 = .ok (.iconst 2, 1) := by decide +kernel
theorem dL_lift_17 : decode cL_lift 17 = .ok (.ireturn, 1) := by decide +kernel
theorem dL_lift_18 : decode cL_lift 18 = .ok (.iconst 0, 1) := by decide +kernel
theorem dL_lift_19 : decode cL_lift 19 = .ok (.ireturn, 1) := by decide +kernel
theorem dL_isStopped_0 : decode cL_isStopped 0 = .ok (.aload_n 3, 1) := by decide +kernel
theorem dL_isStopped_1 : decode cL_isStopped 1 = .ok (.iconst 0, 1) := by decide +kernel
theorem dL_isStopped_2 : decode cL_isStopped 2 = .ok (.aload_n 0, 1) := by decide +kernel
theorem dL_isStopped_3 : decode cL_isStopped 3 = .ok (.iload_n 1, 1) := by decide +kernel
theorem dL_isStopped_4 : decode cL_isStopped 4 = .ok (.iload_n 2, 1) := by decide +kernel
theorem dL_isStopped_5 : decode cL_isStopped 5 = .ok (.invokevirtual 142, 3) := by decide +kernel
theorem dL_isStopped_8 : decode cL_isStopped 8 = .ok (.ifCond .eq 7, 3) := by decide +kernel
theorem dL_isStopped_11 : decode cL_isStopped 11 = .ok (.lconst 1, 1) := by decide +kernel
theorem dL_isStopped_12 : decode cL_isStopped 12 = .ok (.goto 4, 3) := by decide +kernel
theorem dL_isStopped_15 : decode cL_isStopped 15 = .ok (.lconst 0, 1) := by decide +kernel
theorem dL_isStopped_16 : decode cL_isStopped 16 = .ok (.lastore, 1) := by decide +kernel
theorem dL_isStopped_17 : decode cL_isStopped 17 = .ok (.goto 11, 3) := by decide +kernel
theorem dL_isStopped_20 : decode cL_isStopped 20 = .ok (.astore 4, 2) := by decide +kernel
theorem dL_isStopped_22 : decode cL_isStopped 22 = .ok (.iconst 1, 1) := by decide +kernel
theorem dL_isStopped_23 : decode cL_isStopped 23 = .ok (.ireturn, 1) := by decide +kernel
theorem dL_isStopped_24 : decode cL_isStopped 24 = .ok (.astore 4, 2) := by decide +kernel
theorem dL_isStopped_26 : decode cL_isStopped 26 = .ok (.iconst 2, 1) := by decide +kernel
theorem dL_isStopped_27 : decode cL_isStopped 27 = .ok (.ireturn, 1) := by decide +kernel
theorem dL_isStopped_28 : decode cL_isStopped 28 = .ok (.iconst 0, 1) := by decide +kernel
theorem dL_isStopped_29 : decode cL_isStopped 29 = .ok (.ireturn, 1) := by decide +kernel
theorem dL_stoppedDays_0 : decode cL_stoppedDays 0 = .ok (.aload 4, 2) := by decide +kernel
theorem dL_stoppedDays_2 : decode cL_stoppedDays 2 = .ok (.iconst 0, 1) := by decide +kernel
theorem dL_stoppedDays_3 : decode cL_stoppedDays 3 = .ok (.aload_n 0, 1) := by decide +kernel
theorem dL_stoppedDays_4 : decode cL_stoppedDays 4 = .ok (.iload_n 1, 1) := by decide +kernel
theorem dL_stoppedDays_5 : decode cL_stoppedDays 5 = .ok (.iload_n 2, 1) := by decide +kernel
theorem dL_stoppedDays_6 : decode cL_stoppedDays 6 = .ok (.iload_n 3, 1) := by decide +kernel
theorem dL_stoppedDays_7 : decode cL_stoppedDays 7 = .ok (.invokevirtual 146, 3) := by decide +kernel
theorem dL_stoppedDays_10 : decode cL_stoppedDays 10 = .ok (.i2l, 1) := by decide +kernel
theorem dL_stoppedDays_11 : decode cL_stoppedDays 11 = .ok (.lastore, 1) := by decide +kernel
theorem dL_stoppedDays_12 : decode cL_stoppedDays 12 = .ok (.goto 11, 3) := by decide +kernel
theorem dL_stoppedDays_15 : decode cL_stoppedDays 15 = .ok (.astore 5, 2) := by decide +kernel
theorem dL_stoppedDays_17 : decode cL_stoppedDays 17 = .ok (.iconst 1, 1) := by decide +kernel
theorem dL_stoppedDays_18 : decode cL_stoppedDays 18 = .ok (.ireturn, 1) := by decide +kernel
theorem dL_stoppedDays_19 : decode cL_stoppedDays 19 = .ok (.astore 5, 2) := by decide +kernel
theorem dL_stoppedDays_21 : decode cL_stoppedDays 21 = .ok (.iconst 2, 1) := by decide +kernel
theorem dL_stoppedDays_22 : decode cL_stoppedDays 22 = .ok (.ireturn, 1) := by decide +kernel
theorem dL_stoppedDays_23 : decode cL_stoppedDays 23 = .ok (.iconst 0, 1) := by decide +kernel
theorem dL_stoppedDays_24 : decode cL_stoppedDays 24 = .ok (.ireturn, 1) := by decide +kernel
theorem dL_stoppedDaysByMarking_0 : decode cL_stoppedDaysByMarking 0 = .ok (.aload 4, 2) := by decide +kernel
theorem dL_stoppedDaysByMarking_2 : decode cL_stoppedDaysByMarking 2 = .ok (.iconst 0, 1) := by decide +kernel
theorem dL_stoppedDaysByMarking_3 : decode cL_stoppedDaysByMarking 3 = .ok (.aload_n 0, 1) := by decide +kernel
theorem dL_stoppedDaysByMarking_4 : decode cL_stoppedDaysByMarking 4 = .ok (.iload_n 1, 1) := by decide +kernel
theorem dL_stoppedDaysByMarking_5 : decode cL_stoppedDaysByMarking 5 = .ok (.iload_n 2, 1) := by decide +kernel
theorem dL_stoppedDaysByMarking_6 : decode cL_stoppedDaysByMarking 6 = .ok (.iload_n 3, 1) := by decide +kernel
theorem dL_stoppedDaysByMarking_7 : decode cL_stoppedDaysByMarking 7 = .ok (.invokevirtual 150, 3) := by decide +kernel
theorem dL_stoppedDaysByMarking_10 : decode cL_stoppedDaysByMarking 10 = .ok (.i2l, 1) := by decide +kernel
theorem dL_stoppedDaysByMarking_11 : decode cL_stoppedDaysByMarking 11 = .ok (.lastore, 1) := by decide +kernel
theorem dL_stoppedDaysByMarking_12 : decode cL_stoppedDaysByMarking 12 = .ok (.goto 11, 3) := by decide +kernel
theorem dL_stoppedDaysByMarking_15 : decode cL_stoppedDaysByMarking 15 = .ok (.astore 5, 2) := by decide +kernel
theorem dL_stoppedDaysByMarking_17 : decode cL_stoppedDaysByMarking 17 = .ok (.iconst 1, 1) := by decide +kernel
theorem dL_stoppedDaysByMarking_18 : decode cL_stoppedDaysByMarking 18 = .ok (.ireturn, 1) := by decide +kernel
theorem dL_stoppedDaysByMarking_19 : decode cL_stoppedDaysByMarking 19 = .ok (.astore 5, 2) := by decide +kernel
theorem dL_stoppedDaysByMarking_21 : decode cL_stoppedDaysByMarking 21 = .ok (.iconst 2, 1) := by decide +kernel
theorem dL_stoppedDaysByMarking_22 : decode cL_stoppedDaysByMarking 22 = .ok (.ireturn, 1) := by decide +kernel
theorem dL_stoppedDaysByMarking_23 : decode cL_stoppedDaysByMarking 23 = .ok (.iconst 0, 1) := by decide +kernel
theorem dL_stoppedDaysByMarking_24 : decode cL_stoppedDaysByMarking 24 = .ok (.ireturn, 1) := by decide +kernel
theorem dL_addOccurrence_0 : decode cL_addOccurrence 0 = .ok (.aload_n 3, 1) := by decide +kernel
theorem dL_addOccurrence_1 : decode cL_addOccurrence 1 = .ok (.iconst 0, 1) := by decide +kernel
theorem dL_addOccurrence_2 : decode cL_addOccurrence 2 = .ok (.aload_n 0, 1) := by decide +kernel
theorem dL_addOccurrence_3 : decode cL_addOccurrence 3 = .ok (.iload_n 1, 1) := by decide +kernel
theorem dL_addOccurrence_4 : decode cL_addOccurrence 4 = .ok (.iload_n 2, 1) := by decide +kernel
theorem dL_addOccurrence_5 : decode cL_addOccurrence 5 = .ok (.invokevirtual 153, 3) := by decide +kernel
theorem dL_addOccurrence_8 : decode cL_addOccurrence 8 = .ok (.i2l, 1) := by decide +kernel
theorem dL_addOccurrence_9 : decode cL_addOccurrence 9 = .ok (.lastore, 1) := by decide +kernel
theorem dL_addOccurrence_10 : decode cL_addOccurrence 10 = .ok (.goto 15, 3) := by decide +kernel
theorem dL_addOccurrence_13 : decode cL_addOccurrence 13 = .ok (.astore 4, 2) := by decide +kernel
theorem dL_addOccurrence_15 : decode cL_addOccurrence 15 = .ok (.iconst 1, 1) := by decide +kernel
theorem dL_addOccurrence_16 : decode cL_addOccurrence 16 = .ok (.ireturn, 1) := by decide +kernel
theorem dL_addOccurrence_17 : decode cL_addOccurrence 17 = .ok (.astore 4, 2) := by decide +kernel
theorem dL_addOccurrence_19 : decode cL_addOccurrence 19 = .ok (.iconst 2, 1) := by decide +kernel
theorem dL_addOccurrence_20 : decode cL_addOccurrence 20 = .ok (.ireturn, 1) := by decide +kernel
theorem dL_addOccurrence_21 : decode cL_addOccurrence 21 = .ok (.astore 4, 2) := by decide +kernel
theorem dL_addOccurrence_23 : decode cL_addOccurrence 23 = .ok (.iconst 3, 1) := by decide +kernel
theorem dL_addOccurrence_24 : decode cL_addOccurrence 24 = .ok (.ireturn, 1) := by decide +kernel
theorem dL_addOccurrence_25 : decode cL_addOccurrence 25 = .ok (.iconst 0, 1) := by decide +kernel
theorem dL_addOccurrence_26 : decode cL_addOccurrence 26 = .ok (.ireturn, 1) := by decide +kernel
theorem dL_linkOccurrences_0 : decode cL_linkOccurrences 0 = .ok (.aload_n 3, 1) := by decide +kernel
theorem dL_linkOccurrences_1 : decode cL_linkOccurrences 1 = .ok (.iconst 0, 1) := by decide +kernel
theorem dL_linkOccurrences_2 : decode cL_linkOccurrences 2 = .ok (.aload_n 0, 1) := by decide +kernel
theorem dL_linkOccurrences_3 : decode cL_linkOccurrences 3 = .ok (.iload_n 1, 1) := by decide +kernel
theorem dL_linkOccurrences_4 : decode cL_linkOccurrences 4 = .ok (.iload_n 2, 1) := by decide +kernel
theorem dL_linkOccurrences_5 : decode cL_linkOccurrences 5 = .ok (.invokevirtual 156, 3) := by decide +kernel
theorem dL_linkOccurrences_8 : decode cL_linkOccurrences 8 = .ok (.i2l, 1) := by decide +kernel
theorem dL_linkOccurrences_9 : decode cL_linkOccurrences 9 = .ok (.lastore, 1) := by decide +kernel
theorem dL_linkOccurrences_10 : decode cL_linkOccurrences 10 = .ok (.goto 15, 3) := by decide +kernel
theorem dL_linkOccurrences_13 : decode cL_linkOccurrences 13 = .ok (.astore 4, 2) := by decide +kernel
theorem dL_linkOccurrences_15 : decode cL_linkOccurrences 15 = .ok (.iconst 1, 1) := by decide +kernel
theorem dL_linkOccurrences_16 : decode cL_linkOccurrences 16 = .ok (.ireturn, 1) := by decide +kernel
theorem dL_linkOccurrences_17 : decode cL_linkOccurrences 17 = .ok (.astore 4, 2) := by decide +kernel
theorem dL_linkOccurrences_19 : decode cL_linkOccurrences 19 = .ok (.iconst 2, 1) := by decide +kernel
theorem dL_linkOccurrences_20 : decode cL_linkOccurrences 20 = .ok (.ireturn, 1) := by decide +kernel
theorem dL_linkOccurrences_21 : decode cL_linkOccurrences 21 = .ok (.astore 4, 2) := by decide +kernel
theorem dL_linkOccurrences_23 : decode cL_linkOccurrences 23 = .ok (.iconst 3, 1) := by decide +kernel
theorem dL_linkOccurrences_24 : decode cL_linkOccurrences 24 = .ok (.ireturn, 1) := by decide +kernel
theorem dL_linkOccurrences_25 : decode cL_linkOccurrences 25 = .ok (.iconst 0, 1) := by decide +kernel
theorem dL_linkOccurrences_26 : decode cL_linkOccurrences 26 = .ok (.ireturn, 1) := by decide +kernel
theorem dL_sameConduct_0 : decode cL_sameConduct 0 = .ok (.aload_n 3, 1) := by decide +kernel
theorem dL_sameConduct_1 : decode cL_sameConduct 1 = .ok (.iconst 0, 1) := by decide +kernel
theorem dL_sameConduct_2 : decode cL_sameConduct 2 = .ok (.aload_n 0, 1) := by decide +kernel
theorem dL_sameConduct_3 : decode cL_sameConduct 3 = .ok (.iload_n 1, 1) := by decide +kernel
theorem dL_sameConduct_4 : decode cL_sameConduct 4 = .ok (.iload_n 2, 1) := by decide +kernel
theorem dL_sameConduct_5 : decode cL_sameConduct 5 = .ok (.invokevirtual 159, 3) := by decide +kernel
theorem dL_sameConduct_8 : decode cL_sameConduct 8 = .ok (.ifCond .eq 7, 3) := by decide +kernel
theorem dL_sameConduct_11 : decode cL_sameConduct 11 = .ok (.lconst 1, 1) := by decide +kernel
theorem dL_sameConduct_12 : decode cL_sameConduct 12 = .ok (.goto 4, 3) := by decide +kernel
theorem dL_sameConduct_15 : decode cL_sameConduct 15 = .ok (.lconst 0, 1) := by decide +kernel
theorem dL_sameConduct_16 : decode cL_sameConduct 16 = .ok (.lastore, 1) := by decide +kernel
theorem dL_sameConduct_17 : decode cL_sameConduct 17 = .ok (.goto 7, 3) := by decide +kernel
theorem dL_sameConduct_20 : decode cL_sameConduct 20 = .ok (.astore 4, 2) := by decide +kernel
theorem dL_sameConduct_22 : decode cL_sameConduct 22 = .ok (.iconst 1, 1) := by decide +kernel
theorem dL_sameConduct_23 : decode cL_sameConduct 23 = .ok (.ireturn, 1) := by decide +kernel
theorem dL_sameConduct_24 : decode cL_sameConduct 24 = .ok (.iconst 0, 1) := by decide +kernel
theorem dL_sameConduct_25 : decode cL_sameConduct 25 = .ok (.ireturn, 1) := by decide +kernel
theorem dL_sameConductBySearch_0 : decode cL_sameConductBySearch 0 = .ok (.aload_n 3, 1) := by decide +kernel
theorem dL_sameConductBySearch_1 : decode cL_sameConductBySearch 1 = .ok (.iconst 0, 1) := by decide +kernel
theorem dL_sameConductBySearch_2 : decode cL_sameConductBySearch 2 = .ok (.aload_n 0, 1) := by decide +kernel
theorem dL_sameConductBySearch_3 : decode cL_sameConductBySearch 3 = .ok (.iload_n 1, 1) := by decide +kernel
theorem dL_sameConductBySearch_4 : decode cL_sameConductBySearch 4 = .ok (.iload_n 2, 1) := by decide +kernel
theorem dL_sameConductBySearch_5 : decode cL_sameConductBySearch 5 = .ok (.invokevirtual 162, 3) := by decide +kernel
theorem dL_sameConductBySearch_8 : decode cL_sameConductBySearch 8 = .ok (.ifCond .eq 7, 3) := by decide +kernel
theorem dL_sameConductBySearch_11 : decode cL_sameConductBySearch 11 = .ok (.lconst 1, 1) := by decide +kernel
theorem dL_sameConductBySearch_12 : decode cL_sameConductBySearch 12 = .ok (.goto 4, 3) := by decide +kernel
theorem dL_sameConductBySearch_15 : decode cL_sameConductBySearch 15 = .ok (.lconst 0, 1) := by decide +kernel
theorem dL_sameConductBySearch_16 : decode cL_sameConductBySearch 16 = .ok (.lastore, 1) := by decide +kernel
theorem dL_sameConductBySearch_17 : decode cL_sameConductBySearch 17 = .ok (.goto 7, 3) := by decide +kernel
theorem dL_sameConductBySearch_20 : decode cL_sameConductBySearch 20 = .ok (.astore 4, 2) := by decide +kernel
theorem dL_sameConductBySearch_22 : decode cL_sameConductBySearch 22 = .ok (.iconst 1, 1) := by decide +kernel
theorem dL_sameConductBySearch_23 : decode cL_sameConductBySearch 23 = .ok (.ireturn, 1) := by decide +kernel
theorem dL_sameConductBySearch_24 : decode cL_sameConductBySearch 24 = .ok (.iconst 0, 1) := by decide +kernel
theorem dL_sameConductBySearch_25 : decode cL_sameConductBySearch 25 = .ok (.ireturn, 1) := by decide +kernel
theorem dL_barDay_0 : decode cL_barDay 0 = .ok (.aload_n 2, 1) := by decide +kernel
theorem dL_barDay_1 : decode cL_barDay 1 = .ok (.iconst 0, 1) := by decide +kernel
theorem dL_barDay_2 : decode cL_barDay 2 = .ok (.aload_n 0, 1) := by decide +kernel
theorem dL_barDay_3 : decode cL_barDay 3 = .ok (.iload_n 1, 1) := by decide +kernel
theorem dL_barDay_4 : decode cL_barDay 4 = .ok (.invokevirtual 165, 3) := by decide +kernel
theorem dL_barDay_7 : decode cL_barDay 7 = .ok (.i2l, 1) := by decide +kernel
theorem dL_barDay_8 : decode cL_barDay 8 = .ok (.lastore, 1) := by decide +kernel
theorem dL_barDay_9 : decode cL_barDay 9 = .ok (.goto 9, 3) := by decide +kernel
theorem dL_barDay_12 : decode cL_barDay 12 = .ok (.astore_n 3, 1) := by decide +kernel
theorem dL_barDay_13 : decode cL_barDay 13 = .ok (.iconst 1, 1) := by decide +kernel
theorem dL_barDay_14 : decode cL_barDay 14 = .ok (.ireturn, 1) := by decide +kernel
theorem dL_barDay_15 : decode cL_barDay 15 = .ok (.astore_n 3, 1) := by decide +kernel
theorem dL_barDay_16 : decode cL_barDay 16 = .ok (.iconst 2, 1) := by decide +kernel
theorem dL_barDay_17 : decode cL_barDay 17 = .ok (.ireturn, 1) := by decide +kernel
theorem dL_barDay_18 : decode cL_barDay 18 = .ok (.iconst 0, 1) := by decide +kernel
theorem dL_barDay_19 : decode cL_barDay 19 = .ok (.ireturn, 1) := by decide +kernel
theorem dL_fileClaim_0 : decode cL_fileClaim 0 = .ok (.aload_n 3, 1) := by decide +kernel
theorem dL_fileClaim_1 : decode cL_fileClaim 1 = .ok (.iconst 0, 1) := by decide +kernel
theorem dL_fileClaim_2 : decode cL_fileClaim 2 = .ok (.aload_n 0, 1) := by decide +kernel
theorem dL_fileClaim_3 : decode cL_fileClaim 3 = .ok (.iload_n 1, 1) := by decide +kernel
theorem dL_fileClaim_4 : decode cL_fileClaim 4 = .ok (.iload_n 2, 1) := by decide +kernel
theorem dL_fileClaim_5 : decode cL_fileClaim 5 = .ok (.invokevirtual 168, 3) := by decide +kernel
theorem dL_fileClaim_8 : decode cL_fileClaim 8 = .ok (.i2l, 1) := by decide +kernel
theorem dL_fileClaim_9 : decode cL_fileClaim 9 = .ok (.lastore, 1) := by decide +kernel
theorem dL_fileClaim_10 : decode cL_fileClaim 10 = .ok (.goto 11, 3) := by decide +kernel
theorem dL_fileClaim_13 : decode cL_fileClaim 13 = .ok (.astore 4, 2) := by decide +kernel
theorem dL_fileClaim_15 : decode cL_fileClaim 15 = .ok (.iconst 1, 1) := by decide +kernel
theorem dL_fileClaim_16 : decode cL_fileClaim 16 = .ok (.ireturn, 1) := by decide +kernel
theorem dL_fileClaim_17 : decode cL_fileClaim 17 = .ok (.astore 4, 2) := by decide +kernel
theorem dL_fileClaim_19 : decode cL_fileClaim 19 = .ok (.iconst 2, 1) := by decide +kernel
theorem dL_fileClaim_20 : decode cL_fileClaim 20 = .ok (.ireturn, 1) := by decide +kernel
theorem dL_fileClaim_21 : decode cL_fileClaim 21 = .ok (.iconst 0, 1) := by decide +kernel
theorem dL_fileClaim_22 : decode cL_fileClaim 22 = .ok (.ireturn, 1) := by decide +kernel
theorem dL_amendClaim_0 : decode cL_amendClaim 0 = .ok (.aload_n 3, 1) := by decide +kernel
theorem dL_amendClaim_1 : decode cL_amendClaim 1 = .ok (.iconst 0, 1) := by decide +kernel
theorem dL_amendClaim_2 : decode cL_amendClaim 2 = .ok (.aload_n 0, 1) := by decide +kernel
theorem dL_amendClaim_3 : decode cL_amendClaim 3 = .ok (.iload_n 1, 1) := by decide +kernel
theorem dL_amendClaim_4 : decode cL_amendClaim 4 = .ok (.iload_n 2, 1) := by decide +kernel
theorem dL_amendClaim_5 : decode cL_amendClaim 5 = .ok (.invokevirtual 171, 3) := by decide +kernel
theorem dL_amendClaim_8 : decode cL_amendClaim 8 = .ok (.i2l, 1) := by decide +kernel
theorem dL_amendClaim_9 : decode cL_amendClaim 9 = .ok (.lastore, 1) := by decide +kernel
theorem dL_amendClaim_10 : decode cL_amendClaim 10 = .ok (.goto 11, 3) := by decide +kernel
theorem dL_amendClaim_13 : decode cL_amendClaim 13 = .ok (.astore 4, 2) := by decide +kernel
theorem dL_amendClaim_15 : decode cL_amendClaim 15 = .ok (.iconst 1, 1) := by decide +kernel
theorem dL_amendClaim_16 : decode cL_amendClaim 16 = .ok (.ireturn, 1) := by decide +kernel
theorem dL_amendClaim_17 : decode cL_amendClaim 17 = .ok (.astore 4, 2) := by decide +kernel
theorem dL_amendClaim_19 : decode cL_amendClaim 19 = .ok (.iconst 2, 1) := by decide +kernel
theorem dL_amendClaim_20 : decode cL_amendClaim 20 = .ok (.ireturn, 1) := by decide +kernel
theorem dL_amendClaim_21 : decode cL_amendClaim 21 = .ok (.iconst 0, 1) := by decide +kernel
theorem dL_amendClaim_22 : decode cL_amendClaim 22 = .ok (.ireturn, 1) := by decide +kernel
theorem dL_effectiveDay_0 : decode cL_effectiveDay 0 = .ok (.aload_n 2, 1) := by decide +kernel
theorem dL_effectiveDay_1 : decode cL_effectiveDay 1 = .ok (.iconst 0, 1) := by decide +kernel
theorem dL_effectiveDay_2 : decode cL_effectiveDay 2 = .ok (.aload_n 0, 1) := by decide +kernel
theorem dL_effectiveDay_3 : decode cL_effectiveDay 3 = .ok (.iload_n 1, 1) := by decide +kernel
theorem dL_effectiveDay_4 : decode cL_effectiveDay 4 = .ok (.invokevirtual 174, 3) := by decide +kernel
theorem dL_effectiveDay_7 : decode cL_effectiveDay 7 = .ok (.i2l, 1) := by decide +kernel
theorem dL_effectiveDay_8 : decode cL_effectiveDay 8 = .ok (.lastore, 1) := by decide +kernel
theorem dL_effectiveDay_9 : decode cL_effectiveDay 9 = .ok (.goto 6, 3) := by decide +kernel
theorem dL_effectiveDay_12 : decode cL_effectiveDay 12 = .ok (.astore_n 3, 1) := by decide +kernel
theorem dL_effectiveDay_13 : decode cL_effectiveDay 13 = .ok (.iconst 1, 1) := by decide +kernel
theorem dL_effectiveDay_14 : decode cL_effectiveDay 14 = .ok (.ireturn, 1) := by decide +kernel
theorem dL_effectiveDay_15 : decode cL_effectiveDay 15 = .ok (.iconst 0, 1) := by decide +kernel
theorem dL_effectiveDay_16 : decode cL_effectiveDay 16 = .ok (.ireturn, 1) := by decide +kernel
theorem dL_isTimely_0 : decode cL_isTimely 0 = .ok (.aload_n 2, 1) := by decide +kernel
theorem dL_isTimely_1 : decode cL_isTimely 1 = .ok (.iconst 0, 1) := by decide +kernel
theorem dL_isTimely_2 : decode cL_isTimely 2 = .ok (.aload_n 0, 1) := by decide +kernel
theorem dL_isTimely_3 : decode cL_isTimely 3 = .ok (.iload_n 1, 1) := by decide +kernel
theorem dL_isTimely_4 : decode cL_isTimely 4 = .ok (.invokevirtual 177, 3) := by decide +kernel
theorem dL_isTimely_7 : decode cL_isTimely 7 = .ok (.ifCond .eq 7, 3) := by decide +kernel
theorem dL_isTimely_10 : decode cL_isTimely 10 = .ok (.lconst 1, 1) := by decide +kernel
theorem dL_isTimely_11 : decode cL_isTimely 11 = .ok (.goto 4, 3) := by decide +kernel
