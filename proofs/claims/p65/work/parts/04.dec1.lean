theorem dX11_stoppedDays_5 : decode cX11_stoppedDays 5 = .ok (.iload_n 2, 1) := by decide +kernel
theorem dX11_stoppedDays_6 : decode cX11_stoppedDays 6 = .ok (.iload_n 3, 1) := by decide +kernel
theorem dX11_stoppedDays_7 : decode cX11_stoppedDays 7 = .ok (.invokestatic 172, 3) := by decide +kernel
theorem dX11_stoppedDays_10 : decode cX11_stoppedDays 10 = .ok (.aload_n 0, 1) := by decide +kernel
theorem dX11_stoppedDays_11 : decode cX11_stoppedDays 11 = .ok (.getfield 47, 3) := by decide +kernel
theorem dX11_stoppedDays_14 : decode cX11_stoppedDays 14 = .ok (.aload_n 0, 1) := by decide +kernel
theorem dX11_stoppedDays_15 : decode cX11_stoppedDays 15 = .ok (.getfield 26, 3) := by decide +kernel
theorem dX11_stoppedDays_18 : decode cX11_stoppedDays 18 = .ok (.getfield 252, 3) := by decide +kernel
theorem dX11_stoppedDays_21 : decode cX11_stoppedDays 21 = .ok (.iload_n 1, 1) := by decide +kernel
theorem dX11_stoppedDays_22 : decode cX11_stoppedDays 22 = .ok (.iload_n 2, 1) := by decide +kernel
theorem dX11_stoppedDays_23 : decode cX11_stoppedDays 23 = .ok (.iload_n 3, 1) := by decide +kernel
theorem dX11_stoppedDays_24 : decode cX11_stoppedDays 24 = .ok (.invokevirtual 356, 3) := by decide +kernel
theorem dX11_stoppedDays_27 : decode cX11_stoppedDays 27 = .ok (.ireturn, 1) := by decide +kernel
theorem dX11_stoppedDaysByMarking_0 : decode cX11_stoppedDaysByMarking 0 = .ok (.aload_n 0, 1) := by decide +kernel
theorem dX11_stoppedDaysByMarking_1 : decode cX11_stoppedDaysByMarking 1 = .ok (.iload_n 1, 1) := by decide +kernel
theorem dX11_stoppedDaysByMarking_2 : decode cX11_stoppedDaysByMarking 2 = .ok (.invokevirtual 259, 3) := by decide +kernel
theorem dX11_stoppedDaysByMarking_5 : decode cX11_stoppedDaysByMarking 5 = .ok (.iload_n 2, 1) := by decide +kernel
theorem dX11_stoppedDaysByMarking_6 : decode cX11_stoppedDaysByMarking 6 = .ok (.iload_n 3, 1) := by decide +kernel
theorem dX11_stoppedDaysByMarking_7 : decode cX11_stoppedDaysByMarking 7 = .ok (.invokestatic 172, 3) := by decide +kernel
theorem dX11_stoppedDaysByMarking_10 : decode cX11_stoppedDaysByMarking 10 = .ok (.aload_n 0, 1) := by decide +kernel
theorem dX11_stoppedDaysByMarking_11 : decode cX11_stoppedDaysByMarking 11 = .ok (.getfield 54, 3) := by decide +kernel
theorem dX11_stoppedDaysByMarking_14 : decode cX11_stoppedDaysByMarking 14 = .ok (.aload_n 0, 1) := by decide +kernel
theorem dX11_stoppedDaysByMarking_15 : decode cX11_stoppedDaysByMarking 15 = .ok (.getfield 26, 3) := by decide +kernel
theorem dX11_stoppedDaysByMarking_18 : decode cX11_stoppedDaysByMarking 18 = .ok (.getfield 252, 3) := by decide +kernel
theorem dX11_stoppedDaysByMarking_21 : decode cX11_stoppedDaysByMarking 21 = .ok (.iload_n 1, 1) := by decide +kernel
theorem dX11_stoppedDaysByMarking_22 : decode cX11_stoppedDaysByMarking 22 = .ok (.iload_n 2, 1) := by decide +kernel
theorem dX11_stoppedDaysByMarking_23 : decode cX11_stoppedDaysByMarking 23 = .ok (.iload_n 3, 1) := by decide +kernel
theorem dX11_stoppedDaysByMarking_24 : decode cX11_stoppedDaysByMarking 24 = .ok (.invokevirtual 360, 3) := by decide +kernel
theorem dX11_stoppedDaysByMarking_27 : decode cX11_stoppedDaysByMarking 27 = .ok (.ireturn, 1) := by decide +kernel
theorem dX11_tryStayParty_0 : decode cX11_tryStayParty 0 = .ok (.aload_n 0, 1) := by decide +kernel
theorem dX11_tryStayParty_1 : decode cX11_tryStayParty 1 = .ok (.getfield 26, 3) := by decide +kernel
theorem dX11_tryStayParty_4 : decode cX11_tryStayParty 4 = .ok (.getfield 107, 3) := by decide +kernel
theorem dX11_tryStayParty_7 : decode cX11_tryStayParty 7 = .ok (.iload_n 1, 1) := by decide +kernel
theorem dX11_tryStayParty_8 : decode cX11_tryStayParty 8 = .ok (.invokevirtual 146, 3) := by decide +kernel
theorem dX11_tryStayParty_11 : decode cX11_tryStayParty 11 = .ok (.ifCond .eq 12, 3) := by decide +kernel
theorem dX11_tryStayParty_14 : decode cX11_tryStayParty 14 = .ok (.aload_n 0, 1) := by decide +kernel
theorem dX11_tryStayParty_15 : decode cX11_tryStayParty 15 = .ok (.iload_n 1, 1) := by decide +kernel
theorem dX11_tryStayParty_16 : decode cX11_tryStayParty 16 = .ok (.iload_n 2, 1) := by decide +kernel
theorem dX11_tryStayParty_17 : decode cX11_tryStayParty 17 = .ok (.invokevirtual 345, 3) := by decide +kernel
theorem dX11_tryStayParty_20 : decode cX11_tryStayParty 20 = .ok (.goto 4, 3) := by decide +kernel
theorem dX11_tryStayParty_23 : decode cX11_tryStayParty 23 = .ok (.iconst (-1), 1) := by decide +kernel
theorem dX11_tryStayParty_24 : decode cX11_tryStayParty 24 = .ok (.ireturn, 1) := by decide +kernel
theorem dX11_tryStay_0 : decode cX11_tryStay 0 = .ok (.iload_n 2, 1) := by decide +kernel
theorem dX11_tryStay_1 : decode cX11_tryStay 1 = .ok (.iconst 1, 1) := by decide +kernel
theorem dX11_tryStay_2 : decode cX11_tryStay 2 = .ok (.if_icmp .lt 10, 3) := by decide +kernel
theorem dX11_tryStay_5 : decode cX11_tryStay 5 = .ok (.iload_n 2, 1) := by decide +kernel
theorem dX11_tryStay_6 : decode cX11_tryStay 6 = .ok (.sipush 255, 3) := by decide +kernel
theorem dX11_tryStay_9 : decode cX11_tryStay 9 = .ok (.if_icmp .le 6, 3) := by decide +kernel
theorem dX11_tryStay_12 : decode cX11_tryStay 12 = .ok (.bipush (-2), 2) := by decide +kernel
theorem dX11_tryStay_14 : decode cX11_tryStay 14 = .ok (.ireturn, 1) := by decide +kernel
theorem dX11_tryStay_15 : decode cX11_tryStay 15 = .ok (.aload_n 0, 1) := by decide +kernel
theorem dX11_tryStay_16 : decode cX11_tryStay 16 = .ok (.getfield 26, 3) := by decide +kernel
theorem dX11_tryStay_19 : decode cX11_tryStay 19 = .ok (.getfield 40, 3) := by decide +kernel
theorem dX11_tryStay_22 : decode cX11_tryStay 22 = .ok (.getfield 361, 3) := by decide +kernel
theorem dX11_tryStay_25 : decode cX11_tryStay 25 = .ok (.bipush 12, 2) := by decide +kernel
theorem dX11_tryStay_27 : decode cX11_tryStay 27 = .ok (.if_icmp .lt 6, 3) := by decide +kernel
theorem dX11_tryStay_30 : decode cX11_tryStay 30 = .ok (.bipush (-3), 2) := by decide +kernel
theorem dX11_tryStay_32 : decode cX11_tryStay 32 = .ok (.ireturn, 1) := by decide +kernel
theorem dX11_tryStay_33 : decode cX11_tryStay 33 = .ok (.aload_n 0, 1) := by decide +kernel
theorem dX11_tryStay_34 : decode cX11_tryStay 34 = .ok (.getfield 26, 3) := by decide +kernel
theorem dX11_tryStay_37 : decode cX11_tryStay 37 = .ok (.getfield 40, 3) := by decide +kernel
theorem dX11_tryStay_40 : decode cX11_tryStay 40 = .ok (.iload_n 1, 1) := by decide +kernel
theorem dX11_tryStay_41 : decode cX11_tryStay 41 = .ok (.iload_n 2, 1) := by decide +kernel
theorem dX11_tryStay_42 : decode cX11_tryStay 42 = .ok (.aload_n 0, 1) := by decide +kernel
theorem dX11_tryStay_43 : decode cX11_tryStay 43 = .ok (.getfield 26, 3) := by decide +kernel
theorem dX11_tryStay_46 : decode cX11_tryStay 46 = .ok (.getfield 36, 3) := by decide +kernel
theorem dX11_tryStay_49 : decode cX11_tryStay 49 = .ok (.getfield 152, 3) := by decide +kernel
theorem dX11_tryStay_52 : decode cX11_tryStay 52 = .ok (.invokevirtual 362, 3) := by decide +kernel
theorem dX11_tryStay_55 : decode cX11_tryStay 55 = .ok (.ireturn, 1) := by decide +kernel
theorem dX11_tryLift_0 : decode cX11_tryLift 0 = .ok (.aload_n 0, 1) := by decide +kernel
theorem dX11_tryLift_1 : decode cX11_tryLift 1 = .ok (.getfield 26, 3) := by decide +kernel
theorem dX11_tryLift_4 : decode cX11_tryLift 4 = .ok (.getfield 40, 3) := by decide +kernel
theorem dX11_tryLift_7 : decode cX11_tryLift 7 = .ok (.iload_n 1, 1) := by decide +kernel
theorem dX11_tryLift_8 : decode cX11_tryLift 8 = .ok (.invokevirtual 365, 3) := by decide +kernel
theorem dX11_tryLift_11 : decode cX11_tryLift 11 = .ok (.ifCond .ne 5, 3) := by decide +kernel
theorem dX11_tryLift_14 : decode cX11_tryLift 14 = .ok (.iconst (-1), 1) := by decide +kernel
theorem dX11_tryLift_15 : decode cX11_tryLift 15 = .ok (.ireturn, 1) := by decide +kernel
theorem dX11_tryLift_16 : decode cX11_tryLift 16 = .ok (.aload_n 0, 1) := by decide +kernel
theorem dX11_tryLift_17 : decode cX11_tryLift 17 = .ok (.getfield 26, 3) := by decide +kernel
theorem dX11_tryLift_20 : decode cX11_tryLift 20 = .ok (.getfield 40, 3) := by decide +kernel
theorem dX11_tryLift_23 : decode cX11_tryLift 23 = .ok (.iload_n 1, 1) := by decide +kernel
theorem dX11_tryLift_24 : decode cX11_tryLift 24 = .ok (.invokevirtual 366, 3) := by decide +kernel
theorem dX11_tryLift_27 : decode cX11_tryLift 27 = .ok (.ifCond .ne 6, 3) := by decide +kernel
theorem dX11_tryLift_30 : decode cX11_tryLift 30 = .ok (.bipush (-3), 2) := by decide +kernel
theorem dX11_tryLift_32 : decode cX11_tryLift 32 = .ok (.ireturn, 1) := by decide +kernel
theorem dX11_tryLift_33 : decode cX11_tryLift 33 = .ok (.aload_n 0, 1) := by decide +kernel
theorem dX11_tryLift_34 : decode cX11_tryLift 34 = .ok (.getfield 26, 3) := by decide +kernel
theorem dX11_tryLift_37 : decode cX11_tryLift 37 = .ok (.getfield 40, 3) := by decide +kernel
theorem dX11_tryLift_40 : decode cX11_tryLift 40 = .ok (.getfield 369, 3) := by decide +kernel
theorem dX11_tryLift_43 : decode cX11_tryLift 43 = .ok (.iload_n 1, 1) := by decide +kernel
theorem dX11_tryLift_44 : decode cX11_tryLift 44 = .ok (.aload_n 0, 1) := by decide +kernel
theorem dX11_tryLift_45 : decode cX11_tryLift 45 = .ok (.getfield 26, 3) := by decide +kernel
theorem dX11_tryLift_48 : decode cX11_tryLift 48 = .ok (.getfield 36, 3) := by decide +kernel
theorem dX11_tryLift_51 : decode cX11_tryLift 51 = .ok (.getfield 152, 3) := by decide +kernel
theorem dX11_tryLift_54 : decode cX11_tryLift 54 = .ok (.iastore, 1) := by decide +kernel
theorem dX11_tryLift_55 : decode cX11_tryLift 55 = .ok (.aload_n 0, 1) := by decide +kernel
theorem dX11_tryLift_56 : decode cX11_tryLift 56 = .ok (.getfield 26, 3) := by decide +kernel
theorem dX11_tryLift_59 : decode cX11_tryLift 59 = .ok (.getfield 36, 3) := by decide +kernel
theorem dX11_tryLift_62 : decode cX11_tryLift 62 = .ok (.getfield 152, 3) := by decide +kernel
theorem dX11_tryLift_65 : decode cX11_tryLift 65 = .ok (.aload_n 0, 1) := by decide +kernel
theorem dX11_tryLift_66 : decode cX11_tryLift 66 = .ok (.getfield 26, 3) := by decide +kernel
theorem dX11_tryLift_69 : decode cX11_tryLift 69 = .ok (.getfield 40, 3) := by decide +kernel
theorem dX11_tryLift_72 : decode cX11_tryLift 72 = .ok (.getfield 372, 3) := by decide +kernel
theorem dX11_tryLift_75 : decode cX11_tryLift 75 = .ok (.iload_n 1, 1) := by decide +kernel
theorem dX11_tryLift_76 : decode cX11_tryLift 76 = .ok (.iaload, 1) := by decide +kernel
theorem dX11_tryLift_77 : decode cX11_tryLift 77 = .ok (.isub, 1) := by decide +kernel
theorem dX11_tryLift_78 : decode cX11_tryLift 78 = .ok (.ireturn, 1) := by decide +kernel
theorem dX11_addOccurrence_0 : decode cX11_addOccurrence 0 = .ok (.aload_n 0, 1) := by decide +kernel
theorem dX11_addOccurrence_1 : decode cX11_addOccurrence 1 = .ok (.invokevirtual 89, 3) := by decide +kernel
theorem dX11_addOccurrence_4 : decode cX11_addOccurrence 4 = .ok (.aload_n 0, 1) := by decide +kernel
theorem dX11_addOccurrence_5 : decode cX11_addOccurrence 5 = .ok (.aload_n 0, 1) := by decide +kernel
theorem dX11_addOccurrence_6 : decode cX11_addOccurrence 6 = .ok (.iload_n 1, 1) := by decide +kernel
theorem dX11_addOccurrence_7 : decode cX11_addOccurrence 7 = .ok (.iload_n 2, 1) := by decide +kernel
theorem dX11_addOccurrence_8 : decode cX11_addOccurrence 8 = .ok (.invokevirtual 375, 3) := by decide +kernel
theorem dX11_addOccurrence_11 : decode cX11_addOccurrence 11 = .ok (.invokevirtual 96, 3) := by decide +kernel
theorem dX11_addOccurrence_14 : decode cX11_addOccurrence 14 = .ok (.ireturn, 1) := by decide +kernel
theorem dX11_linkOccurrences_0 : decode cX11_linkOccurrences 0 = .ok (.aload_n 0, 1) := by decide +kernel
theorem dX11_linkOccurrences_1 : decode cX11_linkOccurrences 1 = .ok (.invokevirtual 89, 3) := by decide +kernel
theorem dX11_linkOccurrences_4 : decode cX11_linkOccurrences 4 = .ok (.aload_n 0, 1) := by decide +kernel
theorem dX11_linkOccurrences_5 : decode cX11_linkOccurrences 5 = .ok (.aload_n 0, 1) := by decide +kernel
theorem dX11_linkOccurrences_6 : decode cX11_linkOccurrences 6 = .ok (.iload_n 1, 1) := by decide +kernel
theorem dX11_linkOccurrences_7 : decode cX11_linkOccurrences 7 = .ok (.iload_n 2, 1) := by decide +kernel
theorem dX11_linkOccurrences_8 : decode cX11_linkOccurrences 8 = .ok (.invokevirtual 378, 3) := by decide +kernel
theorem dX11_linkOccurrences_11 : decode cX11_linkOccurrences 11 = .ok (.invokevirtual 96, 3) := by decide +kernel
theorem dX11_linkOccurrences_14 : decode cX11_linkOccurrences 14 = .ok (.ireturn, 1) := by decide +kernel
theorem dX11_sameConduct_0 : decode cX11_sameConduct 0 = .ok (.aload_n 0, 1) := by decide +kernel
theorem dX11_sameConduct_1 : decode cX11_sameConduct 1 = .ok (.iload_n 1, 1) := by decide +kernel
theorem dX11_sameConduct_2 : decode cX11_sameConduct 2 = .ok (.invokevirtual 381, 3) := by decide +kernel
theorem dX11_sameConduct_5 : decode cX11_sameConduct 5 = .ok (.aload_n 0, 1) := by decide +kernel
theorem dX11_sameConduct_6 : decode cX11_sameConduct 6 = .ok (.iload_n 2, 1) := by decide +kernel
theorem dX11_sameConduct_7 : decode cX11_sameConduct 7 = .ok (.invokevirtual 381, 3) := by decide +kernel
theorem dX11_sameConduct_10 : decode cX11_sameConduct 10 = .ok (.aload_n 0, 1) := by decide +kernel
theorem dX11_sameConduct_11 : decode cX11_sameConduct 11 = .ok (.getfield 26, 3) := by decide +kernel
theorem dX11_sameConduct_14 : decode cX11_sameConduct 14 = .ok (.getfield 384, 3) := by decide +kernel
theorem dX11_sameConduct_17 : decode cX11_sameConduct 17 = .ok (.iload_n 1, 1) := by decide +kernel
theorem dX11_sameConduct_18 : decode cX11_sameConduct 18 = .ok (.iload_n 2, 1) := by decide +kernel
theorem dX11_sameConduct_19 : decode cX11_sameConduct 19 = .ok (.invokevirtual 388, 3) := by decide +kernel
theorem dX11_sameConduct_22 : decode cX11_sameConduct 22 = .ok (.ireturn, 1) := by decide +kernel
theorem dX11_sameConductBySearch_0 : decode cX11_sameConductBySearch 0 = .ok (.aload_n 0, 1) := by decide +kernel
theorem dX11_sameConductBySearch_1 : decode cX11_sameConductBySearch 1 = .ok (.iload_n 1, 1) := by decide +kernel
theorem dX11_sameConductBySearch_2 : decode cX11_sameConductBySearch 2 = .ok (.invokevirtual 381, 3) := by decide +kernel
theorem dX11_sameConductBySearch_5 : decode cX11_sameConductBySearch 5 = .ok (.aload_n 0, 1) := by decide +kernel
theorem dX11_sameConductBySearch_6 : decode cX11_sameConductBySearch 6 = .ok (.iload_n 2, 1) := by decide +kernel
theorem dX11_sameConductBySearch_7 : decode cX11_sameConductBySearch 7 = .ok (.invokevirtual 381, 3) := by decide +kernel
theorem dX11_sameConductBySearch_10 : decode cX11_sameConductBySearch 10 = .ok (.aload_n 0, 1) := by decide +kernel
theorem dX11_sameConductBySearch_11 : decode cX11_sameConductBySearch 11 = .ok (.getfield 26, 3) := by decide +kernel
theorem dX11_sameConductBySearch_14 : decode cX11_sameConductBySearch 14 = .ok (.getfield 384, 3) := by decide +kernel
theorem dX11_sameConductBySearch_17 : decode cX11_sameConductBySearch 17 = .ok (.iload_n 1, 1) := by decide +kernel
theorem dX11_sameConductBySearch_18 : decode cX11_sameConductBySearch 18 = .ok (.iload_n 2, 1) := by decide +kernel
theorem dX11_sameConductBySearch_19 : decode cX11_sameConductBySearch 19 = .ok (.invokevirtual 394, 3) := by decide +kernel
theorem dX11_sameConductBySearch_22 : decode cX11_sameConductBySearch 22 = .ok (.ireturn, 1) := by decide +kernel
theorem dX11_fileClaim_0 : decode cX11_fileClaim 0 = .ok (.aload_n 0, 1) := by decide +kernel
theorem dX11_fileClaim_1 : decode cX11_fileClaim 1 = .ok (.invokevirtual 89, 3) := by decide +kernel
theorem dX11_fileClaim_4 : decode cX11_fileClaim 4 = .ok (.aload_n 0, 1) := by decide +kernel
theorem dX11_fileClaim_5 : decode cX11_fileClaim 5 = .ok (.aload_n 0, 1) := by decide +kernel
theorem dX11_fileClaim_6 : decode cX11_fileClaim 6 = .ok (.iload_n 1, 1) := by decide +kernel
theorem dX11_fileClaim_7 : decode cX11_fileClaim 7 = .ok (.iload_n 2, 1) := by decide +kernel
theorem dX11_fileClaim_8 : decode cX11_fileClaim 8 = .ok (.invokevirtual 400, 3) := by decide +kernel
theorem dX11_fileClaim_11 : decode cX11_fileClaim 11 = .ok (.invokevirtual 96, 3) := by decide +kernel
theorem dX11_fileClaim_14 : decode cX11_fileClaim 14 = .ok (.ireturn, 1) := by decide +kernel
theorem dX11_amendClaim_0 : decode cX11_amendClaim 0 = .ok (.aload_n 0, 1) := by decide +kernel
theorem dX11_amendClaim_1 : decode cX11_amendClaim 1 = .ok (.invokevirtual 89, 3) := by decide +kernel
theorem dX11_amendClaim_4 : decode cX11_amendClaim 4 = .ok (.aload_n 0, 1) := by decide +kernel
theorem dX11_amendClaim_5 : decode cX11_amendClaim 5 = .ok (.aload_n 0, 1) := by decide +kernel
theorem dX11_amendClaim_6 : decode cX11_amendClaim 6 = .ok (.iload_n 1, 1) := by decide +kernel
theorem dX11_amendClaim_7 : decode cX11_amendClaim 7 = .ok (.iload_n 2, 1) := by decide +kernel
theorem dX11_amendClaim_8 : decode cX11_amendClaim 8 = .ok (.invokevirtual 403, 3) := by decide +kernel
theorem dX11_amendClaim_11 : decode cX11_amendClaim 11 = .ok (.invokevirtual 96, 3) := by decide +kernel
theorem dX11_amendClaim_14 : decode cX11_amendClaim 14 = .ok (.ireturn, 1) := by decide +kernel
theorem dX11_tryAddOccurrence_0 : decode cX11_tryAddOccurrence 0 = .ok (.iload_n 1, 1) := by decide +kernel
theorem dX11_tryAddOccurrence_1 : decode cX11_tryAddOccurrence 1 = .ok (.ifCond .lt 17, 3) := by decide +kernel
theorem dX11_tryAddOccurrence_4 : decode cX11_tryAddOccurrence 4 = .ok (.iload_n 1, 1) := by decide +kernel
theorem dX11_tryAddOccurrence_5 : decode cX11_tryAddOccurrence 5 = .ok (.aload_n 0, 1) := by decide +kernel
theorem dX11_tryAddOccurrence_6 : decode cX11_tryAddOccurrence 6 = .ok (.getfield 26, 3) := by decide +kernel
theorem dX11_tryAddOccurrence_9 : decode cX11_tryAddOccurrence 9 = .ok (.getfield 36, 3) := by decide +kernel
theorem dX11_tryAddOccurrence_12 : decode cX11_tryAddOccurrence 12 = .ok (.getfield 152, 3) := by decide +kernel
theorem dX11_tryAddOccurrence_15 : decode cX11_tryAddOccurrence 15 = .ok (.if_icmp .le 6, 3) := by decide +kernel
theorem dX11_tryAddOccurrence_18 : decode cX11_tryAddOccurrence 18 = .ok (.bipush (-2), 2) := by decide +kernel
theorem dX11_tryAddOccurrence_20 : decode cX11_tryAddOccurrence 20 = .ok (.ireturn, 1) := by decide +kernel
theorem dX11_tryAddOccurrence_21 : decode cX11_tryAddOccurrence 21 = .ok (.iload_n 2, 1) := by decide +kernel
theorem dX11_tryAddOccurrence_22 : decode cX11_tryAddOccurrence 22 = .ok (.invokestatic 241, 3) := by decide +kernel
theorem dX11_tryAddOccurrence_25 : decode cX11_tryAddOccurrence 25 = .ok (.ifCond .ne 5, 3) := by decide +kernel
theorem dX11_tryAddOccurrence_28 : decode cX11_tryAddOccurrence 28 = .ok (.iconst (-1), 1) := by decide +kernel
theorem dX11_tryAddOccurrence_29 : decode cX11_tryAddOccurrence 29 = .ok (.ireturn, 1) := by decide +kernel
theorem dX11_tryAddOccurrence_30 : decode cX11_tryAddOccurrence 30 = .ok (.aload_n 0, 1) := by decide +kernel
theorem dX11_tryAddOccurrence_31 : decode cX11_tryAddOccurrence 31 = .ok (.getfield 26, 3) := by decide +kernel
theorem dX11_tryAddOccurrence_34 : decode cX11_tryAddOccurrence 34 = .ok (.getfield 384, 3) := by decide +kernel
theorem dX11_tryAddOccurrence_37 : decode cX11_tryAddOccurrence 37 = .ok (.getfield 397, 3) := by decide +kernel
theorem dX11_tryAddOccurrence_40 : decode cX11_tryAddOccurrence 40 = .ok (.getfield 256, 3) := by decide +kernel
theorem dX11_tryAddOccurrence_43 : decode cX11_tryAddOccurrence 43 = .ok (.bipush 8, 2) := by decide +kernel
theorem dX11_tryAddOccurrence_45 : decode cX11_tryAddOccurrence 45 = .ok (.if_icmp .lt 6, 3) := by decide +kernel
theorem dX11_tryAddOccurrence_48 : decode cX11_tryAddOccurrence 48 = .ok (.bipush (-3), 2) := by decide +kernel
theorem dX11_tryAddOccurrence_50 : decode cX11_tryAddOccurrence 50 = .ok (.ireturn, 1) := by decide +kernel
theorem dX11_tryAddOccurrence_51 : decode cX11_tryAddOccurrence 51 = .ok (.aload_n 0, 1) := by decide +kernel
theorem dX11_tryAddOccurrence_52 : decode cX11_tryAddOccurrence 52 = .ok (.getfield 26, 3) := by decide +kernel
theorem dX11_tryAddOccurrence_55 : decode cX11_tryAddOccurrence 55 = .ok (.getfield 384, 3) := by decide +kernel
theorem dX11_tryAddOccurrence_58 : decode cX11_tryAddOccurrence 58 = .ok (.iload_n 2, 1) := by decide +kernel
theorem dX11_tryAddOccurrence_59 : decode cX11_tryAddOccurrence 59 = .ok (.iload_n 1, 1) := by decide +kernel
theorem dX11_tryAddOccurrence_60 : decode cX11_tryAddOccurrence 60 = .ok (.aload_n 0, 1) := by decide +kernel
theorem dX11_tryAddOccurrence_61 : decode cX11_tryAddOccurrence 61 = .ok (.getfield 26, 3) := by decide +kernel
theorem dX11_tryAddOccurrence_64 : decode cX11_tryAddOccurrence 64 = .ok (.getfield 210, 3) := by decide +kernel
theorem dX11_tryAddOccurrence_67 : decode cX11_tryAddOccurrence 67 = .ok (.invokevirtual 418, 3) := by decide +kernel
theorem dX11_tryAddOccurrence_70 : decode cX11_tryAddOccurrence 70 = .ok (.ireturn, 1) := by decide +kernel
theorem dX11_tryLinkOccurrences_0 : decode cX11_tryLinkOccurrences 0 = .ok (.aload_n 0, 1) := by decide +kernel
theorem dX11_tryLinkOccurrences_1 : decode cX11_tryLinkOccurrences 1 = .ok (.getfield 26, 3) := by decide +kernel
theorem dX11_tryLinkOccurrences_4 : decode cX11_tryLinkOccurrences 4 = .ok (.getfield 384, 3) := by decide +kernel
theorem dX11_tryLinkOccurrences_7 : decode cX11_tryLinkOccurrences 7 = .ok (.getfield 397, 3) := by decide +kernel
theorem dX11_tryLinkOccurrences_10 : decode cX11_tryLinkOccurrences 10 = .ok (.iload_n 1, 1) := by decide +kernel
theorem dX11_tryLinkOccurrences_11 : decode cX11_tryLinkOccurrences 11 = .ok (.invokevirtual 322, 3) := by decide +kernel
theorem dX11_tryLinkOccurrences_14 : decode cX11_tryLinkOccurrences 14 = .ok (.ifCond .eq 20, 3) := by decide +kernel
theorem dX11_tryLinkOccurrences_17 : decode cX11_tryLinkOccurrences 17 = .ok (.aload_n 0, 1) := by decide +kernel
theorem dX11_tryLinkOccurrences_18 : decode cX11_tryLinkOccurrences 18 = .ok (.getfield 26, 3) := by decide +kernel
theorem dX11_tryLinkOccurrences_21 : decode cX11_tryLinkOccurrences 21 = .ok (.getfield 384, 3) := by decide +kernel
theorem dX11_tryLinkOccurrences_24 : decode cX11_tryLinkOccurrences 24 = .ok (.getfield 397, 3) := by decide +kernel
theorem dX11_tryLinkOccurrences_27 : decode cX11_tryLinkOccurrences 27 = .ok (.iload_n 2, 1) := by decide +kernel
theorem dX11_tryLinkOccurrences_28 : decode cX11_tryLinkOccurrences 28 = .ok (.invokevirtual 322, 3) := by decide +kernel
theorem dX11_tryLinkOccurrences_31 : decode cX11_tryLinkOccurrences 31 = .ok (.ifCond .ne 5, 3) := by decide +kernel
theorem dX11_tryLinkOccurrences_34 : decode cX11_tryLinkOccurrences 34 = .ok (.iconst (-1), 1) := by decide +kernel
theorem dX11_tryLinkOccurrences_35 : decode cX11_tryLinkOccurrences 35 = .ok (.ireturn, 1) := by decide +kernel
theorem dX11_tryLinkOccurrences_36 : decode cX11_tryLinkOccurrences 36 = .ok (.iload_n 1, 1) := by decide +kernel
theorem dX11_tryLinkOccurrences_37 : decode cX11_tryLinkOccurrences 37 = .ok (.iload_n 2, 1) := by decide +kernel
theorem dX11_tryLinkOccurrences_38 : decode cX11_tryLinkOccurrences 38 = .ok (.if_icmp .ne 6, 3) := by decide +kernel
theorem dX11_tryLinkOccurrences_41 : decode cX11_tryLinkOccurrences 41 = .ok (.bipush (-2), 2) := by decide +kernel
theorem dX11_tryLinkOccurrences_43 : decode cX11_tryLinkOccurrences 43 = .ok (.ireturn, 1) := by decide +kernel
theorem dX11_tryLinkOccurrences_44 : decode cX11_tryLinkOccurrences 44 = .ok (.aload_n 0, 1) := by decide +kernel
theorem dX11_tryLinkOccurrences_45 : decode cX11_tryLinkOccurrences 45 = .ok (.getfield 26, 3) := by decide +kernel
theorem dX11_tryLinkOccurrences_48 : decode cX11_tryLinkOccurrences 48 = .ok (.getfield 384, 3) := by decide +kernel
theorem dX11_tryLinkOccurrences_51 : decode cX11_tryLinkOccurrences 51 = .ok (.iload_n 1, 1) := by decide +kernel
theorem dX11_tryLinkOccurrences_52 : decode cX11_tryLinkOccurrences 52 = .ok (.iload_n 2, 1) := by decide +kernel
theorem dX11_tryLinkOccurrences_53 : decode cX11_tryLinkOccurrences 53 = .ok (.invokevirtual 422, 3) := by decide +kernel
theorem dX11_tryLinkOccurrences_56 : decode cX11_tryLinkOccurrences 56 = .ok (.ifCond .eq 6, 3) := by decide +kernel
theorem dX11_tryLinkOccurrences_59 : decode cX11_tryLinkOccurrences 59 = .ok (.bipush (-3), 2) := by decide +kernel
theorem dX11_tryLinkOccurrences_61 : decode cX11_tryLinkOccurrences 61 = .ok (.ireturn, 1) := by decide +kernel
theorem dX11_tryLinkOccurrences_62 : decode cX11_tryLinkOccurrences 62 = .ok (.aload_n 0, 1) := by decide +kernel
theorem dX11_tryLinkOccurrences_63 : decode cX11_tryLinkOccurrences 63 = .ok (.getfield 26, 3) := by decide +kernel
theorem dX11_tryLinkOccurrences_66 : decode cX11_tryLinkOccurrences 66 = .ok (.getfield 384, 3) := by decide +kernel
theorem dX11_tryLinkOccurrences_69 : decode cX11_tryLinkOccurrences 69 = .ok (.iload_n 1, 1) := by decide +kernel
theorem dX11_tryLinkOccurrences_70 : decode cX11_tryLinkOccurrences 70 = .ok (.iload_n 2, 1) := by decide +kernel
theorem dX11_tryLinkOccurrences_71 : decode cX11_tryLinkOccurrences 71 = .ok (.invokevirtual 425, 3) := by decide +kernel
theorem dX11_tryLinkOccurrences_74 : decode cX11_tryLinkOccurrences 74 = .ok (.aload_n 0, 1) := by decide +kernel
theorem dX11_tryLinkOccurrences_75 : decode cX11_tryLinkOccurrences 75 = .ok (.getfield 26, 3) := by decide +kernel
theorem dX11_tryLinkOccurrences_78 : decode cX11_tryLinkOccurrences 78 = .ok (.getfield 384, 3) := by decide +kernel
theorem dX11_tryLinkOccurrences_81 : decode cX11_tryLinkOccurrences 81 = .ok (.invokevirtual 428, 3) := by decide +kernel
theorem dX11_tryLinkOccurrences_84 : decode cX11_tryLinkOccurrences 84 = .ok (.ireturn, 1) := by decide +kernel
theorem dX11_tryFileClaim_0 : decode cX11_tryFileClaim 0 = .ok (.aload_n 0, 1) := by decide +kernel
theorem dX11_tryFileClaim_1 : decode cX11_tryFileClaim 1 = .ok (.getfield 26, 3) := by decide +kernel
theorem dX11_tryFileClaim_4 : decode cX11_tryFileClaim 4 = .ok (.getfield 107, 3) := by decide +kernel
theorem dX11_tryFileClaim_7 : decode cX11_tryFileClaim 7 = .ok (.iload_n 1, 1) := by decide +kernel
theorem dX11_tryFileClaim_8 : decode cX11_tryFileClaim 8 = .ok (.invokevirtual 146, 3) := by decide +kernel
theorem dX11_tryFileClaim_11 : decode cX11_tryFileClaim 11 = .ok (.ifCond .eq 20, 3) := by decide +kernel
theorem dX11_tryFileClaim_14 : decode cX11_tryFileClaim 14 = .ok (.aload_n 0, 1) := by decide +kernel
theorem dX11_tryFileClaim_15 : decode cX11_tryFileClaim 15 = .ok (.getfield 26, 3) := by decide +kernel
theorem dX11_tryFileClaim_18 : decode cX11_tryFileClaim 18 = .ok (.getfield 384, 3) := by decide +kernel
theorem dX11_tryFileClaim_21 : decode cX11_tryFileClaim 21 = .ok (.getfield 397, 3) := by decide +kernel
theorem dX11_tryFileClaim_24 : decode cX11_tryFileClaim 24 = .ok (.iload_n 2, 1) := by decide +kernel
theorem dX11_tryFileClaim_25 : decode cX11_tryFileClaim 25 = .ok (.invokevirtual 322, 3) := by decide +kernel
theorem dX11_tryFileClaim_28 : decode cX11_tryFileClaim 28 = .ok (.ifCond .ne 5, 3) := by decide +kernel
theorem dX11_tryFileClaim_31 : decode cX11_tryFileClaim 31 = .ok (.iconst (-1), 1) := by decide +kernel
theorem dX11_tryFileClaim_32 : decode cX11_tryFileClaim 32 = .ok (.ireturn, 1) := by decide +kernel
theorem dX11_tryFileClaim_33 : decode cX11_tryFileClaim 33 = .ok (.aload_n 0, 1) := by decide +kernel
theorem dX11_tryFileClaim_34 : decode cX11_tryFileClaim 34 = .ok (.getfield 26, 3) := by decide +kernel
theorem dX11_tryFileClaim_37 : decode cX11_tryFileClaim 37 = .ok (.getfield 384, 3) := by decide +kernel
theorem dX11_tryFileClaim_40 : decode cX11_tryFileClaim 40 = .ok (.getfield 415, 3) := by decide +kernel
theorem dX11_tryFileClaim_43 : decode cX11_tryFileClaim 43 = .ok (.bipush 20, 2) := by decide +kernel
theorem dX11_tryFileClaim_45 : decode cX11_tryFileClaim 45 = .ok (.if_icmp .lt 6, 3) := by decide +kernel
theorem dX11_tryFileClaim_48 : decode cX11_tryFileClaim 48 = .ok (.bipush (-3), 2) := by decide +kernel
theorem dX11_tryFileClaim_50 : decode cX11_tryFileClaim 50 = .ok (.ireturn, 1) := by decide +kernel
theorem dX11_tryFileClaim_51 : decode cX11_tryFileClaim 51 = .ok (.aload_n 0, 1) := by decide +kernel
theorem dX11_tryFileClaim_52 : decode cX11_tryFileClaim 52 = .ok (.getfield 26, 3) := by decide +kernel
theorem dX11_tryFileClaim_55 : decode cX11_tryFileClaim 55 = .ok (.getfield 384, 3) := by decide +kernel
theorem dX11_tryFileClaim_58 : decode cX11_tryFileClaim 58 = .ok (.iload_n 1, 1) := by decide +kernel
theorem dX11_tryFileClaim_59 : decode cX11_tryFileClaim 59 = .ok (.iload_n 2, 1) := by decide +kernel
theorem dX11_tryFileClaim_60 : decode cX11_tryFileClaim 60 = .ok (.aload_n 0, 1) := by decide +kernel
theorem dX11_tryFileClaim_61 : decode cX11_tryFileClaim 61 = .ok (.getfield 26, 3) := by decide +kernel
theorem dX11_tryFileClaim_64 : decode cX11_tryFileClaim 64 = .ok (.getfield 36, 3) := by decide +kernel
theorem dX11_tryFileClaim_67 : decode cX11_tryFileClaim 67 = .ok (.getfield 152, 3) := by decide +kernel
theorem dX11_tryFileClaim_70 : decode cX11_tryFileClaim 70 = .ok (.iconst (-1), 1) := by decide +kernel
theorem dX11_tryFileClaim_71 : decode cX11_tryFileClaim 71 = .ok (.invokevirtual 431, 3) := by decide +kernel
theorem dX11_tryFileClaim_74 : decode cX11_tryFileClaim 74 = .ok (.ireturn, 1) := by decide +kernel
theorem dX11_tryAmendClaim_0 : decode cX11_tryAmendClaim 0 = .ok (.aload_n 0, 1) := by decide +kernel
theorem dX11_tryAmendClaim_1 : decode cX11_tryAmendClaim 1 = .ok (.getfield 26, 3) := by decide +kernel
theorem dX11_tryAmendClaim_4 : decode cX11_tryAmendClaim 4 = .ok (.getfield 384, 3) := by decide +kernel
theorem dX11_tryAmendClaim_7 : decode cX11_tryAmendClaim 7 = .ok (.iload_n 1, 1) := by decide +kernel
theorem dX11_tryAmendClaim_8 : decode cX11_tryAmendClaim 8 = .ok (.invokevirtual 435, 3) := by decide +kernel
theorem dX11_tryAmendClaim_11 : decode cX11_tryAmendClaim 11 = .ok (.ifCond .eq 20, 3) := by decide +kernel
theorem dX11_tryAmendClaim_14 : decode cX11_tryAmendClaim 14 = .ok (.aload_n 0, 1) := by decide +kernel
theorem dX11_tryAmendClaim_15 : decode cX11_tryAmendClaim 15 = .ok (.getfield 26, 3) := by decide +kernel
theorem dX11_tryAmendClaim_18 : decode cX11_tryAmendClaim 18 = .ok (.getfield 384, 3) := by decide +kernel
theorem dX11_tryAmendClaim_21 : decode cX11_tryAmendClaim 21 = .ok (.getfield 397, 3) := by decide +kernel
theorem dX11_tryAmendClaim_24 : decode cX11_tryAmendClaim 24 = .ok (.iload_n 2, 1) := by decide +kernel
theorem dX11_tryAmendClaim_25 : decode cX11_tryAmendClaim 25 = .ok (.invokevirtual 322, 3) := by decide +kernel
theorem dX11_tryAmendClaim_28 : decode cX11_tryAmendClaim 28 = .ok (.ifCond .ne 5, 3) := by decide +kernel
theorem dX11_tryAmendClaim_31 : decode cX11_tryAmendClaim 31 = .ok (.iconst (-1), 1) := by decide +kernel
theorem dX11_tryAmendClaim_32 : decode cX11_tryAmendClaim 32 = .ok (.ireturn, 1) := by decide +kernel
theorem dX11_tryAmendClaim_33 : decode cX11_tryAmendClaim 33 = .ok (.aload_n 0, 1) := by decide +kernel
theorem dX11_tryAmendClaim_34 : decode cX11_tryAmendClaim 34 = .ok (.getfield 26, 3) := by decide +kernel
theorem dX11_tryAmendClaim_37 : decode cX11_tryAmendClaim 37 = .ok (.getfield 384, 3) := by decide +kernel
theorem dX11_tryAmendClaim_40 : decode cX11_tryAmendClaim 40 = .ok (.getfield 415, 3) := by decide +kernel
theorem dX11_tryAmendClaim_43 : decode cX11_tryAmendClaim 43 = .ok (.bipush 20, 2) := by decide +kernel
theorem dX11_tryAmendClaim_45 : decode cX11_tryAmendClaim 45 = .ok (.if_icmp .lt 6, 3) := by decide +kernel
theorem dX11_tryAmendClaim_48 : decode cX11_tryAmendClaim 48 = .ok (.bipush (-3), 2) := by decide +kernel
theorem dX11_tryAmendClaim_50 : decode cX11_tryAmendClaim 50 = .ok (.ireturn, 1) := by decide +kernel
theorem dX11_tryAmendClaim_51 : decode cX11_tryAmendClaim 51 = .ok (.aload_n 0, 1) := by decide +kernel
theorem dX11_tryAmendClaim_52 : decode cX11_tryAmendClaim 52 = .ok (.getfield 26, 3) := by decide +kernel
theorem dX11_tryAmendClaim_55 : decode cX11_tryAmendClaim 55 = .ok (.getfield 384, 3) := by decide +kernel
theorem dX11_tryAmendClaim_58 : decode cX11_tryAmendClaim 58 = .ok (.aload_n 0, 1) := by decide +kernel
theorem dX11_tryAmendClaim_59 : decode cX11_tryAmendClaim 59 = .ok (.getfield 26, 3) := by decide +kernel
theorem dX11_tryAmendClaim_62 : decode cX11_tryAmendClaim 62 = .ok (.getfield 384, 3) := by decide +kernel
theorem dX11_tryAmendClaim_65 : decode cX11_tryAmendClaim 65 = .ok (.getfield 416, 3) := by decide +kernel
theorem dX11_tryAmendClaim_68 : decode cX11_tryAmendClaim 68 = .ok (.iload_n 1, 1) := by decide +kernel
theorem dX11_tryAmendClaim_69 : decode cX11_tryAmendClaim 69 = .ok (.iaload, 1) := by decide +kernel
theorem dX11_tryAmendClaim_70 : decode cX11_tryAmendClaim 70 = .ok (.iload_n 2, 1) := by decide +kernel
theorem dX11_tryAmendClaim_71 : decode cX11_tryAmendClaim 71 = .ok (.aload_n 0, 1) := by decide +kernel
theorem dX11_tryAmendClaim_72 : decode cX11_tryAmendClaim 72 = .ok (.getfield 26, 3) := by decide +kernel
theorem dX11_tryAmendClaim_75 : decode cX11_tryAmendClaim 75 = .ok (.getfield 36, 3) := by decide +kernel
theorem dX11_tryAmendClaim_78 : decode cX11_tryAmendClaim 78 = .ok (.getfield 152, 3) := by decide +kernel
theorem dX11_tryAmendClaim_81 : decode cX11_tryAmendClaim 81 = .ok (.iload_n 1, 1) := by decide +kernel
theorem dX11_tryAmendClaim_82 : decode cX11_tryAmendClaim 82 = .ok (.invokevirtual 431, 3) := by decide +kernel
theorem dX11_tryAmendClaim_85 : decode cX11_tryAmendClaim 85 = .ok (.ireturn, 1) := by decide +kernel
theorem dX11_needOccurrence_0 : decode cX11_needOccurrence 0 = .ok (.aload_n 0, 1) := by decide +kernel
theorem dX11_needOccurrence_1 : decode cX11_needOccurrence 1 = .ok (.getfield 26, 3) := by decide +kernel
theorem dX11_needOccurrence_4 : decode cX11_needOccurrence 4 = .ok (.getfield 384, 3) := by decide +kernel
theorem dX11_needOccurrence_7 : decode cX11_needOccurrence 7 = .ok (.getfield 397, 3) := by decide +kernel
theorem dX11_needOccurrence_10 : decode cX11_needOccurrence 10 = .ok (.iload_n 1, 1) := by decide +kernel
theorem dX11_needOccurrence_11 : decode cX11_needOccurrence 11 = .ok (.invokevirtual 322, 3) := by decide +kernel
theorem dX11_needOccurrence_14 : decode cX11_needOccurrence 14 = .ok (.ifCond .ne 14, 3) := by decide +kernel
theorem dX11_needOccurrence_17 : decode cX11_needOccurrence 17 = .ok (.new 132, 3) := by decide +kernel
theorem dX11_needOccurrence_20 : decode cX11_needOccurrence 20 = .ok (.dup, 1) := by decide +kernel
theorem dX11_needOccurrence_21 : decode cX11_needOccurrence 21 = .ok (.ldc_w 436, 3) := by decide +kernel
theorem dX11_needOccurrence_24 : decode cX11_needOccurrence 24 = .ok (.invokespecial 136, 3) := by decide +kernel
theorem dX11_needOccurrence_27 : decode cX11_needOccurrence 27 = .ok (.athrow, 1) := by decide +kernel
theorem dX11_needOccurrence_28 : decode cX11_needOccurrence 28 = .ok (.return_, 1) := by decide +kernel
theorem dX11_isConsistent_0 : decode cX11_isConsistent 0 = .ok (.iconst 0, 1) := by decide +kernel
theorem dX11_isConsistent_1 : decode cX11_isConsistent 1 = .ok (.istore_n 1, 1) := by decide +kernel
theorem dX11_isConsistent_2 : decode cX11_isConsistent 2 = .ok (.iload_n 1, 1) := by decide +kernel
theorem dX11_isConsistent_3 : decode cX11_isConsistent 3 = .ok (.aload_n 0, 1) := by decide +kernel
theorem dX11_isConsistent_4 : decode cX11_isConsistent 4 = .ok (.getfield 26, 3) := by decide +kernel
theorem dX11_isConsistent_7 : decode cX11_isConsistent 7 = .ok (.getfield 252, 3) := by decide +kernel
theorem dX11_isConsistent_10 : decode cX11_isConsistent 10 = .ok (.getfield 256, 3) := by decide +kernel
theorem dX11_isConsistent_13 : decode cX11_isConsistent 13 = .ok (.if_icmp .ge 19, 3) := by decide +kernel
theorem dX11_isConsistent_16 : decode cX11_isConsistent 16 = .ok (.aload_n 0, 1) := by decide +kernel
theorem dX11_isConsistent_17 : decode cX11_isConsistent 17 = .ok (.iload_n 1, 1) := by decide +kernel
theorem dX11_isConsistent_18 : decode cX11_isConsistent 18 = .ok (.invokevirtual 453, 3) := by decide +kernel
theorem dX11_isConsistent_21 : decode cX11_isConsistent 21 = .ok (.ifCond .ne 5, 3) := by decide +kernel
theorem dX11_isConsistent_24 : decode cX11_isConsistent 24 = .ok (.iconst 0, 1) := by decide +kernel
theorem dX11_isConsistent_25 : decode cX11_isConsistent 25 = .ok (.ireturn, 1) := by decide +kernel
theorem dX11_isConsistent_26 : decode cX11_isConsistent 26 = .ok (.iinc 1 1, 3) := by decide +kernel
theorem dX11_isConsistent_29 : decode cX11_isConsistent 29 = .ok (.goto (-27), 3) := by decide +kernel
theorem dX11_isConsistent_32 : decode cX11_isConsistent 32 = .ok (.aload_n 0, 1) := by decide +kernel
theorem dX11_isConsistent_33 : decode cX11_isConsistent 33 = .ok (.invokevirtual 456, 3) := by decide +kernel
theorem dX11_isConsistent_36 : decode cX11_isConsistent 36 = .ok (.ifCond .eq 14, 3) := by decide +kernel
theorem dX11_isConsistent_39 : decode cX11_isConsistent 39 = .ok (.aload_n 0, 1) := by decide +kernel
theorem dX11_isConsistent_40 : decode cX11_isConsistent 40 = .ok (.invokevirtual 460, 3) := by decide +kernel
theorem dX11_isConsistent_43 : decode cX11_isConsistent 43 = .ok (.ifCond .eq 7, 3) := by decide +kernel
theorem dX11_isConsistent_46 : decode cX11_isConsistent 46 = .ok (.iconst 1, 1) := by decide +kernel
theorem dX11_isConsistent_47 : decode cX11_isConsistent 47 = .ok (.goto 4, 3) := by decide +kernel
theorem dX11_isConsistent_50 : decode cX11_isConsistent 50 = .ok (.iconst 0, 1) := by decide +kernel
theorem dX11_isConsistent_51 : decode cX11_isConsistent 51 = .ok (.ireturn, 1) := by decide +kernel
theorem dX11_deadlineAgrees_0 : decode cX11_deadlineAgrees 0 = .ok (.aload_n 0, 1) := by decide +kernel
theorem dX11_deadlineAgrees_1 : decode cX11_deadlineAgrees 1 = .ok (.getfield 26, 3) := by decide +kernel
theorem dX11_deadlineAgrees_4 : decode cX11_deadlineAgrees 4 = .ok (.getfield 36, 3) := by decide +kernel
theorem dX11_deadlineAgrees_7 : decode cX11_deadlineAgrees 7 = .ok (.getfield 152, 3) := by decide +kernel
theorem dX11_deadlineAgrees_10 : decode cX11_deadlineAgrees 10 = .ok (.istore_n 2, 1) := by decide +kernel
theorem dX11_deadlineAgrees_11 : decode cX11_deadlineAgrees 11 = .ok (.aload_n 0, 1) := by decide +kernel
theorem dX11_deadlineAgrees_12 : decode cX11_deadlineAgrees 12 = .ok (.getfield 26, 3) := by decide +kernel
theorem dX11_deadlineAgrees_15 : decode cX11_deadlineAgrees 15 = .ok (.getfield 252, 3) := by decide +kernel
theorem dX11_deadlineAgrees_18 : decode cX11_deadlineAgrees 18 = .ok (.astore_n 3, 1) := by decide +kernel
theorem dX11_deadlineAgrees_19 : decode cX11_deadlineAgrees 19 = .ok (.aload_n 0, 1) := by decide +kernel
theorem dX11_deadlineAgrees_20 : decode cX11_deadlineAgrees 20 = .ok (.getfield 47, 3) := by decide +kernel
theorem dX11_deadlineAgrees_23 : decode cX11_deadlineAgrees 23 = .ok (.aload_n 3, 1) := by decide +kernel
theorem dX11_deadlineAgrees_24 : decode cX11_deadlineAgrees 24 = .ok (.iload_n 1, 1) := by decide +kernel
theorem dX11_deadlineAgrees_25 : decode cX11_deadlineAgrees 25 = .ok (.invokevirtual 262, 3) := by decide +kernel
theorem dX11_deadlineAgrees_28 : decode cX11_deadlineAgrees 28 = .ok (.aload_n 0, 1) := by decide +kernel
theorem dX11_deadlineAgrees_29 : decode cX11_deadlineAgrees 29 = .ok (.getfield 54, 3) := by decide +kernel
theorem dX11_deadlineAgrees_32 : decode cX11_deadlineAgrees 32 = .ok (.aload_n 3, 1) := by decide +kernel
theorem dX11_deadlineAgrees_33 : decode cX11_deadlineAgrees 33 = .ok (.iload_n 1, 1) := by decide +kernel
theorem dX11_deadlineAgrees_34 : decode cX11_deadlineAgrees 34 = .ok (.invokevirtual 269, 3) := by decide +kernel
theorem dX11_deadlineAgrees_37 : decode cX11_deadlineAgrees 37 = .ok (.if_icmp .ne 55, 3) := by decide +kernel
theorem dX11_deadlineAgrees_40 : decode cX11_deadlineAgrees 40 = .ok (.aload_n 0, 1) := by decide +kernel
theorem dX11_deadlineAgrees_41 : decode cX11_deadlineAgrees 41 = .ok (.getfield 47, 3) := by decide +kernel
theorem dX11_deadlineAgrees_44 : decode cX11_deadlineAgrees 44 = .ok (.aload_n 3, 1) := by decide +kernel
theorem dX11_deadlineAgrees_45 : decode cX11_deadlineAgrees 45 = .ok (.iload_n 1, 1) := by decide +kernel
theorem dX11_deadlineAgrees_46 : decode cX11_deadlineAgrees 46 = .ok (.iload_n 2, 1) := by decide +kernel
theorem dX11_deadlineAgrees_47 : decode cX11_deadlineAgrees 47 = .ok (.invokevirtual 273, 3) := by decide +kernel
theorem dX11_deadlineAgrees_50 : decode cX11_deadlineAgrees 50 = .ok (.aload_n 0, 1) := by decide +kernel
theorem dX11_deadlineAgrees_51 : decode cX11_deadlineAgrees 51 = .ok (.getfield 54, 3) := by decide +kernel
theorem dX11_deadlineAgrees_54 : decode cX11_deadlineAgrees 54 = .ok (.aload_n 3, 1) := by decide +kernel
theorem dX11_deadlineAgrees_55 : decode cX11_deadlineAgrees 55 = .ok (.iload_n 1, 1) := by decide +kernel
theorem dX11_deadlineAgrees_56 : decode cX11_deadlineAgrees 56 = .ok (.iload_n 2, 1) := by decide +kernel
theorem dX11_deadlineAgrees_57 : decode cX11_deadlineAgrees 57 = .ok (.invokevirtual 277, 3) := by decide +kernel
theorem dX11_deadlineAgrees_60 : decode cX11_deadlineAgrees 60 = .ok (.if_icmp .ne 32, 3) := by decide +kernel
theorem dX11_deadlineAgrees_63 : decode cX11_deadlineAgrees 63 = .ok (.aload_n 0, 1) := by decide +kernel
theorem dX11_deadlineAgrees_64 : decode cX11_deadlineAgrees 64 = .ok (.getfield 47, 3) := by decide +kernel
theorem dX11_deadlineAgrees_67 : decode cX11_deadlineAgrees 67 = .ok (.aload_n 3, 1) := by decide +kernel
theorem dX11_deadlineAgrees_68 : decode cX11_deadlineAgrees 68 = .ok (.iload_n 1, 1) := by decide +kernel
theorem dX11_deadlineAgrees_69 : decode cX11_deadlineAgrees 69 = .ok (.iconst 0, 1) := by decide +kernel
theorem dX11_deadlineAgrees_70 : decode cX11_deadlineAgrees 70 = .ok (.iload_n 2, 1) := by decide +kernel
theorem dX11_deadlineAgrees_71 : decode cX11_deadlineAgrees 71 = .ok (.invokevirtual 356, 3) := by decide +kernel
theorem dX11_deadlineAgrees_74 : decode cX11_deadlineAgrees 74 = .ok (.aload_n 0, 1) := by decide +kernel
theorem dX11_deadlineAgrees_75 : decode cX11_deadlineAgrees 75 = .ok (.getfield 54, 3) := by decide +kernel
theorem dX11_deadlineAgrees_78 : decode cX11_deadlineAgrees 78 = .ok (.aload_n 3, 1) := by decide +kernel
theorem dX11_deadlineAgrees_79 : decode cX11_deadlineAgrees 79 = .ok (.iload_n 1, 1) := by decide +kernel
theorem dX11_deadlineAgrees_80 : decode cX11_deadlineAgrees 80 = .ok (.iconst 0, 1) := by decide +kernel
theorem dX11_deadlineAgrees_81 : decode cX11_deadlineAgrees 81 = .ok (.iload_n 2, 1) := by decide +kernel
theorem dX11_deadlineAgrees_82 : decode cX11_deadlineAgrees 82 = .ok (.invokevirtual 360, 3) := by decide +kernel
theorem dX11_deadlineAgrees_85 : decode cX11_deadlineAgrees 85 = .ok (.if_icmp .ne 7, 3) := by decide +kernel
theorem dX11_deadlineAgrees_88 : decode cX11_deadlineAgrees 88 = .ok (.iconst 1, 1) := by decide +kernel
theorem dX11_deadlineAgrees_89 : decode cX11_deadlineAgrees 89 = .ok (.goto 4, 3) := by decide +kernel
theorem dX11_deadlineAgrees_92 : decode cX11_deadlineAgrees 92 = .ok (.iconst 0, 1) := by decide +kernel
theorem dX11_deadlineAgrees_93 : decode cX11_deadlineAgrees 93 = .ok (.ireturn, 1) := by decide +kernel
theorem dX11_conductAgrees_0 : decode cX11_conductAgrees 0 = .ok (.iconst 0, 1) := by decide +kernel
theorem dX11_conductAgrees_1 : decode cX11_conductAgrees 1 = .ok (.istore_n 1, 1) := by decide +kernel
theorem dX11_conductAgrees_2 : decode cX11_conductAgrees 2 = .ok (.iload_n 1, 1) := by decide +kernel
theorem dX11_conductAgrees_3 : decode cX11_conductAgrees 3 = .ok (.aload_n 0, 1) := by decide +kernel
theorem dX11_conductAgrees_4 : decode cX11_conductAgrees 4 = .ok (.getfield 26, 3) := by decide +kernel
theorem dX11_conductAgrees_7 : decode cX11_conductAgrees 7 = .ok (.getfield 384, 3) := by decide +kernel
theorem dX11_conductAgrees_10 : decode cX11_conductAgrees 10 = .ok (.getfield 397, 3) := by decide +kernel
theorem dX11_conductAgrees_13 : decode cX11_conductAgrees 13 = .ok (.getfield 256, 3) := by decide +kernel
theorem dX11_conductAgrees_16 : decode cX11_conductAgrees 16 = .ok (.if_icmp .ge 63, 3) := by decide +kernel
theorem dX11_conductAgrees_19 : decode cX11_conductAgrees 19 = .ok (.iconst 0, 1) := by decide +kernel
theorem dX11_conductAgrees_20 : decode cX11_conductAgrees 20 = .ok (.istore_n 2, 1) := by decide +kernel
theorem dX11_conductAgrees_21 : decode cX11_conductAgrees 21 = .ok (.iload_n 2, 1) := by decide +kernel
theorem dX11_conductAgrees_22 : decode cX11_conductAgrees 22 = .ok (.aload_n 0, 1) := by decide +kernel
theorem dX11_conductAgrees_23 : decode cX11_conductAgrees 23 = .ok (.getfield 26, 3) := by decide +kernel
theorem dX11_conductAgrees_26 : decode cX11_conductAgrees 26 = .ok (.getfield 384, 3) := by decide +kernel
theorem dX11_conductAgrees_29 : decode cX11_conductAgrees 29 = .ok (.getfield 397, 3) := by decide +kernel
theorem dX11_conductAgrees_32 : decode cX11_conductAgrees 32 = .ok (.getfield 256, 3) := by decide +kernel
theorem dX11_conductAgrees_35 : decode cX11_conductAgrees 35 = .ok (.if_icmp .ge 38, 3) := by decide +kernel
theorem dX11_conductAgrees_38 : decode cX11_conductAgrees 38 = .ok (.aload_n 0, 1) := by decide +kernel
theorem dX11_conductAgrees_39 : decode cX11_conductAgrees 39 = .ok (.getfield 26, 3) := by decide +kernel
theorem dX11_conductAgrees_42 : decode cX11_conductAgrees 42 = .ok (.getfield 384, 3) := by decide +kernel
theorem dX11_conductAgrees_45 : decode cX11_conductAgrees 45 = .ok (.iload_n 1, 1) := by decide +kernel
theorem dX11_conductAgrees_46 : decode cX11_conductAgrees 46 = .ok (.iload_n 2, 1) := by decide +kernel
theorem dX11_conductAgrees_47 : decode cX11_conductAgrees 47 = .ok (.invokevirtual 388, 3) := by decide +kernel
theorem dX11_conductAgrees_50 : decode cX11_conductAgrees 50 = .ok (.aload_n 0, 1) := by decide +kernel
theorem dX11_conductAgrees_51 : decode cX11_conductAgrees 51 = .ok (.getfield 26, 3) := by decide +kernel
theorem dX11_conductAgrees_54 : decode cX11_conductAgrees 54 = .ok (.getfield 384, 3) := by decide +kernel
theorem dX11_conductAgrees_57 : decode cX11_conductAgrees 57 = .ok (.iload_n 1, 1) := by decide +kernel
theorem dX11_conductAgrees_58 : decode cX11_conductAgrees 58 = .ok (.iload_n 2, 1) := by decide +kernel
theorem dX11_conductAgrees_59 : decode cX11_conductAgrees 59 = .ok (.invokevirtual 394, 3) := by decide +kernel
theorem dX11_conductAgrees_62 : decode cX11_conductAgrees 62 = .ok (.if_icmp .eq 5, 3) := by decide +kernel
theorem dX11_conductAgrees_65 : decode cX11_conductAgrees 65 = .ok (.iconst 0, 1) := by decide +kernel
theorem dX11_conductAgrees_66 : decode cX11_conductAgrees 66 = .ok (.ireturn, 1) := by decide +kernel
theorem dX11_conductAgrees_67 : decode cX11_conductAgrees 67 = .ok (.iinc 2 1, 3) := by decide +kernel
theorem dX11_conductAgrees_70 : decode cX11_conductAgrees 70 = .ok (.goto (-49), 3) := by decide +kernel
theorem dX11_conductAgrees_73 : decode cX11_conductAgrees 73 = .ok (.iinc 1 1, 3) := by decide +kernel
theorem dX11_conductAgrees_76 : decode cX11_conductAgrees 76 = .ok (.goto (-74), 3) := by decide +kernel
theorem dX11_conductAgrees_79 : decode cX11_conductAgrees 79 = .ok (.iconst 1, 1) := by decide +kernel
theorem dX11_conductAgrees_80 : decode cX11_conductAgrees 80 = .ok (.ireturn, 1) := by decide +kernel
theorem dX11_courtDaysAgree_0 : decode cX11_courtDaysAgree 0 = .ok (.aload_n 0, 1) := by decide +kernel
theorem dX11_courtDaysAgree_1 : decode cX11_courtDaysAgree 1 = .ok (.getfield 26, 3) := by decide +kernel
theorem dX11_courtDaysAgree_4 : decode cX11_courtDaysAgree 4 = .ok (.getfield 36, 3) := by decide +kernel
theorem dX11_courtDaysAgree_7 : decode cX11_courtDaysAgree 7 = .ok (.getfield 152, 3) := by decide +kernel
theorem dX11_courtDaysAgree_10 : decode cX11_courtDaysAgree 10 = .ok (.istore_n 1, 1) := by decide +kernel
theorem dX11_courtDaysAgree_11 : decode cX11_courtDaysAgree 11 = .ok (.aload_n 0, 1) := by decide +kernel
theorem dX11_courtDaysAgree_12 : decode cX11_courtDaysAgree 12 = .ok (.getfield 26, 3) := by decide +kernel
theorem dX11_courtDaysAgree_15 : decode cX11_courtDaysAgree 15 = .ok (.getfield 36, 3) := by decide +kernel
theorem dX11_courtDaysAgree_18 : decode cX11_courtDaysAgree 18 = .ok (.iconst 0, 1) := by decide +kernel
theorem dX11_courtDaysAgree_19 : decode cX11_courtDaysAgree 19 = .ok (.iload_n 1, 1) := by decide +kernel
theorem dX11_courtDaysAgree_20 : decode cX11_courtDaysAgree 20 = .ok (.invokevirtual 176, 3) := by decide +kernel
theorem dX11_courtDaysAgree_23 : decode cX11_courtDaysAgree 23 = .ok (.aload_n 0, 1) := by decide +kernel
theorem dX11_courtDaysAgree_24 : decode cX11_courtDaysAgree 24 = .ok (.getfield 54, 3) := by decide +kernel
theorem dX11_courtDaysAgree_27 : decode cX11_courtDaysAgree 27 = .ok (.iconst 0, 1) := by decide +kernel
theorem dX11_courtDaysAgree_28 : decode cX11_courtDaysAgree 28 = .ok (.iload_n 1, 1) := by decide +kernel
theorem dX11_courtDaysAgree_29 : decode cX11_courtDaysAgree 29 = .ok (.invokevirtual 180, 3) := by decide +kernel
theorem dX11_courtDaysAgree_32 : decode cX11_courtDaysAgree 32 = .ok (.if_icmp .ne 7, 3) := by decide +kernel
theorem dX11_courtDaysAgree_35 : decode cX11_courtDaysAgree 35 = .ok (.iconst 1, 1) := by decide +kernel
theorem dX11_courtDaysAgree_36 : decode cX11_courtDaysAgree 36 = .ok (.goto 4, 3) := by decide +kernel
theorem dX11_courtDaysAgree_39 : decode cX11_courtDaysAgree 39 = .ok (.iconst 0, 1) := by decide +kernel
theorem dX11_courtDaysAgree_40 : decode cX11_courtDaysAgree 40 = .ok (.ireturn, 1) := by decide +kernel
theorem dX11_undo_0 : decode cX11_undo 0 = .ok (.aload_n 0, 1) := by decide +kernel
theorem dX11_undo_1 : decode cX11_undo 1 = .ok (.getfield 485, 3) := by decide +kernel
theorem dX11_undo_4 : decode cX11_undo 4 = .ok (.ifCond .ne 14, 3) := by decide +kernel
theorem dX11_undo_7 : decode cX11_undo 7 = .ok (.new 78, 3) := by decide +kernel
theorem dX11_undo_10 : decode cX11_undo 10 = .ok (.dup, 1) := by decide +kernel
theorem dX11_undo_11 : decode cX11_undo 11 = .ok (.ldc_w 488, 3) := by decide +kernel
theorem dX11_undo_14 : decode cX11_undo 14 = .ok (.invokespecial 82, 3) := by decide +kernel
theorem dX11_undo_17 : decode cX11_undo 17 = .ok (.athrow, 1) := by decide +kernel
theorem dX11_undo_18 : decode cX11_undo 18 = .ok (.aload_n 0, 1) := by decide +kernel
theorem dX11_undo_19 : decode cX11_undo 19 = .ok (.aload_n 0, 1) := by decide +kernel
theorem dX11_undo_20 : decode cX11_undo 20 = .ok (.getfield 490, 3) := by decide +kernel
theorem dX11_undo_23 : decode cX11_undo 23 = .ok (.ifCond .ne 8, 3) := by decide +kernel
theorem dX11_undo_26 : decode cX11_undo 26 = .ok (.bipush 8, 2) := by decide +kernel
theorem dX11_undo_28 : decode cX11_undo 28 = .ok (.goto 9, 3) := by decide +kernel
theorem dX11_undo_31 : decode cX11_undo 31 = .ok (.aload_n 0, 1) := by decide +kernel
theorem dX11_undo_32 : decode cX11_undo 32 = .ok (.getfield 490, 3) := by decide +kernel
theorem dX11_undo_35 : decode cX11_undo 35 = .ok (.iconst 1, 1) := by decide +kernel
theorem dX11_undo_36 : decode cX11_undo 36 = .ok (.isub, 1) := by decide +kernel
theorem dX11_undo_37 : decode cX11_undo 37 = .ok (.putfield 490, 3) := by decide +kernel
theorem dX11_undo_40 : decode cX11_undo 40 = .ok (.aload_n 0, 1) := by decide +kernel
theorem dX11_undo_41 : decode cX11_undo 41 = .ok (.invokevirtual 473, 3) := by decide +kernel
theorem dX11_undo_44 : decode cX11_undo 44 = .ok (.aload_n 0, 1) := by decide +kernel
theorem dX11_undo_45 : decode cX11_undo 45 = .ok (.dup, 1) := by decide +kernel
theorem dX11_undo_46 : decode cX11_undo 46 = .ok (.getfield 485, 3) := by decide +kernel
theorem dX11_undo_49 : decode cX11_undo 49 = .ok (.iconst 1, 1) := by decide +kernel
theorem dX11_undo_50 : decode cX11_undo 50 = .ok (.isub, 1) := by decide +kernel
theorem dX11_undo_51 : decode cX11_undo 51 = .ok (.putfield 485, 3) := by decide +kernel
theorem dX11_undo_54 : decode cX11_undo 54 = .ok (.aload_n 0, 1) := by decide +kernel
theorem dX11_undo_55 : decode cX11_undo 55 = .ok (.getfield 485, 3) := by decide +kernel
theorem dX11_undo_58 : decode cX11_undo 58 = .ok (.ireturn, 1) := by decide +kernel
theorem dX11_setAside_0 : decode cX11_setAside 0 = .ok (.aload_n 0, 1) := by decide +kernel
theorem dX11_setAside_1 : decode cX11_setAside 1 = .ok (.getfield 30, 3) := by decide +kernel
theorem dX11_setAside_4 : decode cX11_setAside 4 = .ok (.aload_n 0, 1) := by decide +kernel
theorem dX11_setAside_5 : decode cX11_setAside 5 = .ok (.getfield 490, 3) := by decide +kernel
theorem dX11_setAside_8 : decode cX11_setAside 8 = .ok (.aaload, 1) := by decide +kernel
theorem dX11_setAside_9 : decode cX11_setAside 9 = .ok (.astore_n 1, 1) := by decide +kernel
theorem dX11_setAside_10 : decode cX11_setAside 10 = .ok (.aload_n 1, 1) := by decide +kernel
theorem dX11_setAside_11 : decode cX11_setAside 11 = .ok (.ifnonnull 21, 3) := by decide +kernel
theorem dX11_setAside_14 : decode cX11_setAside 14 = .ok (.new 23, 3) := by decide +kernel
theorem dX11_setAside_17 : decode cX11_setAside 17 = .ok (.dup, 1) := by decide +kernel
theorem dX11_setAside_18 : decode cX11_setAside 18 = .ok (.invokespecial 25, 3) := by decide +kernel
theorem dX11_setAside_21 : decode cX11_setAside 21 = .ok (.astore_n 1, 1) := by decide +kernel
theorem dX11_setAside_22 : decode cX11_setAside 22 = .ok (.aload_n 0, 1) := by decide +kernel
theorem dX11_setAside_23 : decode cX11_setAside 23 = .ok (.getfield 30, 3) := by decide +kernel
theorem dX11_setAside_26 : decode cX11_setAside 26 = .ok (.aload_n 0, 1) := by decide +kernel
theorem dX11_setAside_27 : decode cX11_setAside 27 = .ok (.getfield 490, 3) := by decide +kernel
theorem dX11_setAside_30 : decode cX11_setAside 30 = .ok (.aload_n 1, 1) := by decide +kernel
theorem dX11_setAside_31 : decode cX11_setAside 31 = .ok (.aastore, 1) := by decide +kernel
theorem dX11_setAside_32 : decode cX11_setAside 32 = .ok (.aload_n 1, 1) := by decide +kernel
theorem dX11_setAside_33 : decode cX11_setAside 33 = .ok (.aload_n 0, 1) := by decide +kernel
theorem dX11_setAside_34 : decode cX11_setAside 34 = .ok (.getfield 26, 3) := by decide +kernel
theorem dX11_setAside_37 : decode cX11_setAside 37 = .ok (.invokevirtual 505, 3) := by decide +kernel
theorem dX11_setAside_40 : decode cX11_setAside 40 = .ok (.return_, 1) := by decide +kernel
theorem dX11_takeBack_0 : decode cX11_takeBack 0 = .ok (.aload_n 0, 1) := by decide +kernel
theorem dX11_takeBack_1 : decode cX11_takeBack 1 = .ok (.getfield 30, 3) := by decide +kernel
theorem dX11_takeBack_4 : decode cX11_takeBack 4 = .ok (.aload_n 0, 1) := by decide +kernel
theorem dX11_takeBack_5 : decode cX11_takeBack 5 = .ok (.getfield 490, 3) := by decide +kernel
theorem dX11_takeBack_8 : decode cX11_takeBack 8 = .ok (.aaload, 1) := by decide +kernel
theorem dX11_takeBack_9 : decode cX11_takeBack 9 = .ok (.astore_n 1, 1) := by decide +kernel
theorem dX11_takeBack_10 : decode cX11_takeBack 10 = .ok (.aload_n 1, 1) := by decide +kernel
theorem dX11_takeBack_11 : decode cX11_takeBack 11 = .ok (.ifnull 11, 3) := by decide +kernel
theorem dX11_takeBack_14 : decode cX11_takeBack 14 = .ok (.aload_n 0, 1) := by decide +kernel
theorem dX11_takeBack_15 : decode cX11_takeBack 15 = .ok (.getfield 26, 3) := by decide +kernel
theorem dX11_takeBack_18 : decode cX11_takeBack 18 = .ok (.aload_n 1, 1) := by decide +kernel
theorem dX11_takeBack_19 : decode cX11_takeBack 19 = .ok (.invokevirtual 505, 3) := by decide +kernel
theorem dX11_takeBack_22 : decode cX11_takeBack 22 = .ok (.return_, 1) := by decide +kernel
theorem dX11_settle_0 : decode cX11_settle 0 = .ok (.iload_n 1, 1) := by decide +kernel
theorem dX11_settle_1 : decode cX11_settle 1 = .ok (.tableswitch 90 (-5) (-1) #[79, 68, 57, 46, 35], 35) := by decide +kernel
theorem dX11_settle_36 : decode cX11_settle 36 = .ok (.new 132, 3) := by decide +kernel
theorem dX11_settle_39 : decode cX11_settle 39 = .ok (.dup, 1) := by decide +kernel
theorem dX11_settle_40 : decode cX11_settle 40 = .ok (.ldc_w 509, 3) := by decide +kernel
theorem dX11_settle_43 : decode cX11_settle 43 = .ok (.invokespecial 136, 3) := by decide +kernel
theorem dX11_settle_46 : decode cX11_settle 46 = .ok (.athrow, 1) := by decide +kernel
theorem dX11_settle_47 : decode cX11_settle 47 = .ok (.new 196, 3) := by decide +kernel
theorem dX11_settle_50 : decode cX11_settle 50 = .ok (.dup, 1) := by decide +kernel
theorem dX11_settle_51 : decode cX11_settle 51 = .ok (.ldc_w 511, 3) := by decide +kernel
theorem dX11_settle_54 : decode cX11_settle 54 = .ok (.invokespecial 200, 3) := by decide +kernel
theorem dX11_settle_57 : decode cX11_settle 57 = .ok (.athrow, 1) := by decide +kernel
theorem dX11_settle_58 : decode cX11_settle 58 = .ok (.new 78, 3) := by decide +kernel
theorem dX11_settle_61 : decode cX11_settle 61 = .ok (.dup, 1) := by decide +kernel
theorem dX11_settle_62 : decode cX11_settle 62 = .ok (.ldc_w 513, 3) := by decide +kernel
theorem dX11_settle_65 : decode cX11_settle 65 = .ok (.invokespecial 82, 3) := by decide +kernel
theorem dX11_settle_68 : decode cX11_settle 68 = .ok (.athrow, 1) := by decide +kernel
theorem dX11_settle_69 : decode cX11_settle 69 = .ok (.new 476, 3) := by decide +kernel
theorem dX11_settle_72 : decode cX11_settle 72 = .ok (.dup, 1) := by decide +kernel
theorem dX11_settle_73 : decode cX11_settle 73 = .ok (.ldc_w 515, 3) := by decide +kernel
theorem dX11_settle_76 : decode cX11_settle 76 = .ok (.invokespecial 480, 3) := by decide +kernel
theorem dX11_settle_79 : decode cX11_settle 79 = .ok (.athrow, 1) := by decide +kernel
theorem dX11_settle_80 : decode cX11_settle 80 = .ok (.new 117, 3) := by decide +kernel
theorem dX11_settle_83 : decode cX11_settle 83 = .ok (.dup, 1) := by decide +kernel
theorem dX11_settle_84 : decode cX11_settle 84 = .ok (.ldc_w 517, 3) := by decide +kernel
theorem dX11_settle_87 : decode cX11_settle 87 = .ok (.invokespecial 121, 3) := by decide +kernel
theorem dX11_settle_90 : decode cX11_settle 90 = .ok (.athrow, 1) := by decide +kernel
theorem dX11_settle_91 : decode cX11_settle 91 = .ok (.aload_n 0, 1) := by decide +kernel
theorem dX11_settle_92 : decode cX11_settle 92 = .ok (.aload_n 0, 1) := by decide +kernel
theorem dX11_settle_93 : decode cX11_settle 93 = .ok (.getfield 490, 3) := by decide +kernel
theorem dX11_settle_96 : decode cX11_settle 96 = .ok (.bipush 8, 2) := by decide +kernel
theorem dX11_settle_98 : decode cX11_settle 98 = .ok (.if_icmp .ne 7, 3) := by decide +kernel
theorem dX11_settle_101 : decode cX11_settle 101 = .ok (.iconst 0, 1) := by decide +kernel
theorem dX11_settle_102 : decode cX11_settle 102 = .ok (.goto 9, 3) := by decide +kernel
theorem dX11_settle_105 : decode cX11_settle 105 = .ok (.aload_n 0, 1) := by decide +kernel
theorem dX11_settle_106 : decode cX11_settle 106 = .ok (.getfield 490, 3) := by decide +kernel
theorem dX11_settle_109 : decode cX11_settle 109 = .ok (.iconst 1, 1) := by decide +kernel
theorem dX11_settle_110 : decode cX11_settle 110 = .ok (.iadd, 1) := by decide +kernel
theorem dX11_settle_111 : decode cX11_settle 111 = .ok (.putfield 490, 3) := by decide +kernel
theorem dX11_settle_114 : decode cX11_settle 114 = .ok (.aload_n 0, 1) := by decide +kernel
theorem dX11_settle_115 : decode cX11_settle 115 = .ok (.bipush 8, 2) := by decide +kernel
theorem dX11_settle_117 : decode cX11_settle 117 = .ok (.aload_n 0, 1) := by decide +kernel
theorem dX11_settle_118 : decode cX11_settle 118 = .ok (.getfield 485, 3) := by decide +kernel
theorem dX11_settle_121 : decode cX11_settle 121 = .ok (.iconst 1, 1) := by decide +kernel
theorem dX11_settle_122 : decode cX11_settle 122 = .ok (.iadd, 1) := by decide +kernel
theorem dX11_settle_123 : decode cX11_settle 123 = .ok (.invokestatic 519, 3) := by decide +kernel
theorem dX11_settle_126 : decode cX11_settle 126 = .ok (.putfield 485, 3) := by decide +kernel
theorem dX11_settle_129 : decode cX11_settle 129 = .ok (.iload_n 1, 1) := by decide +kernel
theorem dX11_settle_130 : decode cX11_settle 130 = .ok (.ireturn, 1) := by decide +kernel
theorem dJx00060_init_a7421_0 : decode cJx00060_init_a7421 0 = .ok (.aload_n 0, 1) := by decide +kernel
theorem dJx00060_init_a7421_1 : decode cJx00060_init_a7421 1 = .ok (.aload_n 1, 1) := by decide +kernel
theorem dJx00060_init_a7421_2 : decode cJx00060_init_a7421 2 = .ok (.invokespecial 7, 3) := by decide +kernel
theorem dJx00060_init_a7421_5 : decode cJx00060_init_a7421 5 = .ok (.return_, 1) := by decide +kernel
theorem dJ9_max_7cf53_0 : decode cJ9_max_7cf53 0 = .ok (.iload_n 0, 1) := by decide +kernel
theorem dJ9_max_7cf53_1 : decode cJ9_max_7cf53 1 = .ok (.iload_n 1, 1) := by decide +kernel
theorem dJ9_max_7cf53_2 : decode cJ9_max_7cf53 2 = .ok (.if_icmp .lt 7, 3) := by decide +kernel
theorem dJ9_max_7cf53_5 : decode cJ9_max_7cf53 5 = .ok (.iload_n 0, 1) := by decide +kernel
theorem dJ9_max_7cf53_6 : decode cJ9_max_7cf53 6 = .ok (.goto 4, 3) := by decide +kernel
theorem dJ9_max_7cf53_9 : decode cJ9_max_7cf53 9 = .ok (.iload_n 1, 1) := by decide +kernel
theorem dJ9_max_7cf53_10 : decode cJ9_max_7cf53 10 = .ok (.ireturn, 1) := by decide +kernel
theorem dJ9_min_7cf53_0 : decode cJ9_min_7cf53 0 = .ok (.iload_n 0, 1) := by decide +kernel
theorem dJ9_min_7cf53_1 : decode cJ9_min_7cf53 1 = .ok (.iload_n 1, 1) := by decide +kernel
theorem dJ9_min_7cf53_2 : decode cJ9_min_7cf53 2 = .ok (.if_icmp .gt 7, 3) := by decide +kernel
theorem dJ9_min_7cf53_5 : decode cJ9_min_7cf53 5 = .ok (.iload_n 0, 1) := by decide +kernel
theorem dJ9_min_7cf53_6 : decode cJ9_min_7cf53 6 = .ok (.goto 4, 3) := by decide +kernel
theorem dJ9_min_7cf53_9 : decode cJ9_min_7cf53 9 = .ok (.iload_n 1, 1) := by decide +kernel
theorem dJ9_min_7cf53_10 : decode cJ9_min_7cf53 10 = .ok (.ireturn, 1) := by decide +kernel
theorem dJ0_length_8abf5_0 : decode cJ0_length_8abf5 0 = .ok (.aload_n 0, 1) := by decide +kernel
theorem dJ0_length_8abf5_1 : decode cJ0_length_8abf5 1 = .ok (.getfield 9, 3) := by decide +kernel
theorem dJ0_length_8abf5_4 : decode cJ0_length_8abf5 4 = .ok (.arraylength, 1) := by decide +kernel
theorem dJ0_length_8abf5_5 : decode cJ0_length_8abf5 5 = .ok (.aload_n 0, 1) := by decide +kernel
theorem dJ0_length_8abf5_6 : decode cJ0_length_8abf5 6 = .ok (.invokevirtual 335, 3) := by decide +kernel
theorem dJ0_length_8abf5_9 : decode cJ0_length_8abf5 9 = .ok (.ishr, 1) := by decide +kernel
theorem dJ0_length_8abf5_10 : decode cJ0_length_8abf5 10 = .ok (.ireturn, 1) := by decide +kernel
theorem dJ0_charAt_5068e_0 : decode cJ0_charAt_5068e 0 = .ok (.aload_n 0, 1) := by decide +kernel
theorem dJ0_charAt_5068e_1 : decode cJ0_charAt_5068e 1 = .ok (.invokevirtual 492, 3) := by decide +kernel
theorem dJ0_charAt_5068e_4 : decode cJ0_charAt_5068e 4 = .ok (.ifCond .eq 12, 3) := by decide +kernel
theorem dJ0_charAt_5068e_7 : decode cJ0_charAt_5068e 7 = .ok (.aload_n 0, 1) := by decide +kernel
theorem dJ0_charAt_5068e_8 : decode cJ0_charAt_5068e 8 = .ok (.getfield 9, 3) := by decide +kernel
theorem dJ0_charAt_5068e_11 : decode cJ0_charAt_5068e 11 = .ok (.iload_n 1, 1) := by decide +kernel
theorem dJ0_charAt_5068e_12 : decode cJ0_charAt_5068e 12 = .ok (.invokestatic 495, 3) := by decide +kernel
theorem dJ0_charAt_5068e_15 : decode cJ0_charAt_5068e 15 = .ok (.ireturn, 1) := by decide +kernel
theorem dJ0_charAt_5068e_16 : decode cJ0_charAt_5068e 16 = .ok (.aload_n 0, 1) := by decide +kernel
theorem dJ0_charAt_5068e_17 : decode cJ0_charAt_5068e 17 = .ok (.getfield 9, 3) := by decide +kernel
theorem dJ0_charAt_5068e_20 : decode cJ0_charAt_5068e 20 = .ok (.iload_n 1, 1) := by decide +kernel
theorem dJ0_charAt_5068e_21 : decode cJ0_charAt_5068e 21 = .ok (.invokestatic 498, 3) := by decide +kernel
theorem dJ0_charAt_5068e_24 : decode cJ0_charAt_5068e 24 = .ok (.ireturn, 1) := by decide +kernel
theorem dJ0_coder_7d493_0 : decode cJ0_coder_7d493 0 = .ok (.getstatic 38, 3) := by decide +kernel
theorem dJ0_coder_7d493_3 : decode cJ0_coder_7d493 3 = .ok (.ifCond .eq 10, 3) := by decide +kernel
theorem dJ0_coder_7d493_6 : decode cJ0_coder_7d493 6 = .ok (.aload_n 0, 1) := by decide +kernel
theorem dJ0_coder_7d493_7 : decode cJ0_coder_7d493 7 = .ok (.getfield 15, 3) := by decide +kernel
theorem dJ0_coder_7d493_10 : decode cJ0_coder_7d493 10 = .ok (.goto 4, 3) := by decide +kernel
theorem dJ0_coder_7d493_13 : decode cJ0_coder_7d493 13 = .ok (.iconst 1, 1) := by decide +kernel
theorem dJ0_coder_7d493_14 : decode cJ0_coder_7d493 14 = .ok (.ireturn, 1) := by decide +kernel
theorem dJ0_isLatin1_aae02_0 : decode cJ0_isLatin1_aae02 0 = .ok (.getstatic 38, 3) := by decide +kernel
theorem dJ0_isLatin1_aae02_3 : decode cJ0_isLatin1_aae02 3 = .ok (.ifCond .eq 14, 3) := by decide +kernel
theorem dJ0_isLatin1_aae02_6 : decode cJ0_isLatin1_aae02 6 = .ok (.aload_n 0, 1) := by decide +kernel
theorem dJ0_isLatin1_aae02_7 : decode cJ0_isLatin1_aae02 7 = .ok (.getfield 15, 3) := by decide +kernel
theorem dJ0_isLatin1_aae02_10 : decode cJ0_isLatin1_aae02 10 = .ok (.ifCond .ne 7, 3) := by decide +kernel
theorem dJ0_isLatin1_aae02_13 : decode cJ0_isLatin1_aae02 13 = .ok (.iconst 1, 1) := by decide +kernel
theorem dJ0_isLatin1_aae02_14 : decode cJ0_isLatin1_aae02 14 = .ok (.goto 4, 3) := by decide +kernel
theorem dJ0_isLatin1_aae02_17 : decode cJ0_isLatin1_aae02 17 = .ok (.iconst 0, 1) := by decide +kernel
theorem dJ0_isLatin1_aae02_18 : decode cJ0_isLatin1_aae02 18 = .ok (.ireturn, 1) := by decide +kernel
theorem dJ0_checkIndex_df160_0 : decode cJ0_checkIndex_df160 0 = .ok (.iload_n 0, 1) := by decide +kernel
theorem dJ0_checkIndex_df160_1 : decode cJ0_checkIndex_df160 1 = .ok (.iload_n 1, 1) := by decide +kernel
theorem dJ0_checkIndex_df160_2 : decode cJ0_checkIndex_df160 2 = .ok (.getstatic 1053, 3) := by decide +kernel
theorem dJ0_checkIndex_df160_5 : decode cJ0_checkIndex_df160 5 = .ok (.invokestatic 1059, 3) := by decide +kernel
theorem dJ0_checkIndex_df160_8 : decode cJ0_checkIndex_df160 8 = .ok (.pop, 1) := by decide +kernel
theorem dJ0_checkIndex_df160_9 : decode cJ0_checkIndex_df160 9 = .ok (.return_, 1) := by decide +kernel
theorem dJ1_charAt_3b067_0 : decode cJ1_charAt_3b067 0 = .ok (.iload_n 1, 1) := by decide +kernel
theorem dJ1_charAt_3b067_1 : decode cJ1_charAt_3b067 1 = .ok (.aload_n 0, 1) := by decide +kernel
theorem dJ1_charAt_3b067_2 : decode cJ1_charAt_3b067 2 = .ok (.arraylength, 1) := by decide +kernel
theorem dJ1_charAt_3b067_3 : decode cJ1_charAt_3b067 3 = .ok (.invokestatic 9, 3) := by decide +kernel
theorem dJ1_charAt_3b067_6 : decode cJ1_charAt_3b067 6 = .ok (.aload_n 0, 1) := by decide +kernel
theorem dJ1_charAt_3b067_7 : decode cJ1_charAt_3b067 7 = .ok (.iload_n 1, 1) := by decide +kernel
theorem dJ1_charAt_3b067_8 : decode cJ1_charAt_3b067 8 = .ok (.baload, 1) := by decide +kernel
theorem dJ1_charAt_3b067_9 : decode cJ1_charAt_3b067 9 = .ok (.sipush 255, 3) := by decide +kernel
theorem dJ1_charAt_3b067_12 : decode cJ1_charAt_3b067 12 = .ok (.iand, 1) := by decide +kernel
theorem dJ1_charAt_3b067_13 : decode cJ1_charAt_3b067 13 = .ok (.i2c, 1) := by decide +kernel
theorem dJ1_charAt_3b067_14 : decode cJ1_charAt_3b067 14 = .ok (.ireturn, 1) := by decide +kernel
theorem dJ2_getChar_3b067_0 : decode cJ2_getChar_3b067 0 = .ok (.getstatic 44, 3) := by decide +kernel
theorem dJ2_getChar_3b067_3 : decode cJ2_getChar_3b067 3 = .ok (.ifCond .ne 25, 3) := by decide +kernel
theorem dJ2_getChar_3b067_6 : decode cJ2_getChar_3b067 6 = .ok (.iload_n 1, 1) := by decide +kernel
theorem dJ2_getChar_3b067_7 : decode cJ2_getChar_3b067 7 = .ok (.ifCond .lt 11, 3) := by decide +kernel
theorem dJ2_getChar_3b067_10 : decode cJ2_getChar_3b067 10 = .ok (.iload_n 1, 1) := by decide +kernel
theorem dJ2_getChar_3b067_11 : decode cJ2_getChar_3b067 11 = .ok (.aload_n 0, 1) := by decide +kernel
theorem dJ2_getChar_3b067_12 : decode cJ2_getChar_3b067 12 = .ok (.invokestatic 48, 3) := by decide +kernel
theorem dJ2_getChar_3b067_15 : decode cJ2_getChar_3b067 15 = .ok (.if_icmp .lt 13, 3) := by decide +kernel
theorem dJ2_getChar_3b067_18 : decode cJ2_getChar_3b067 18 = .ok (.new 52, 3) := by decide +kernel
theorem dJ2_getChar_3b067_21 : decode cJ2_getChar_3b067 21 = .ok (.dup, 1) := by decide +kernel
theorem dJ2_getChar_3b067_22 : decode cJ2_getChar_3b067 22 = .ok (.ldc 54, 2) := by decide +kernel
theorem dJ2_getChar_3b067_24 : decode cJ2_getChar_3b067 24 = .ok (.invokespecial 56, 3) := by decide +kernel
theorem dJ2_getChar_3b067_27 : decode cJ2_getChar_3b067 27 = .ok (.athrow, 1) := by decide +kernel
theorem dJ2_getChar_3b067_28 : decode cJ2_getChar_3b067 28 = .ok (.iload_n 1, 1) := by decide +kernel
theorem dJ2_getChar_3b067_29 : decode cJ2_getChar_3b067 29 = .ok (.iconst 1, 1) := by decide +kernel
theorem dJ2_getChar_3b067_30 : decode cJ2_getChar_3b067 30 = .ok (.ishl, 1) := by decide +kernel
theorem dJ2_getChar_3b067_31 : decode cJ2_getChar_3b067 31 = .ok (.istore_n 1, 1) := by decide +kernel
theorem dJ2_getChar_3b067_32 : decode cJ2_getChar_3b067 32 = .ok (.aload_n 0, 1) := by decide +kernel
theorem dJ2_getChar_3b067_33 : decode cJ2_getChar_3b067 33 = .ok (.iload_n 1, 1) := by decide +kernel
theorem dJ2_getChar_3b067_34 : decode cJ2_getChar_3b067 34 = .ok (.iinc 1 1, 3) := by decide +kernel
theorem dJ2_getChar_3b067_37 : decode cJ2_getChar_3b067 37 = .ok (.baload, 1) := by decide +kernel
theorem dJ2_getChar_3b067_38 : decode cJ2_getChar_3b067 38 = .ok (.sipush 255, 3) := by decide +kernel
theorem dJ2_getChar_3b067_41 : decode cJ2_getChar_3b067 41 = .ok (.iand, 1) := by decide +kernel
theorem dJ2_getChar_3b067_42 : decode cJ2_getChar_3b067 42 = .ok (.getstatic 59, 3) := by decide +kernel
theorem dJ2_getChar_3b067_45 : decode cJ2_getChar_3b067 45 = .ok (.ishl, 1) := by decide +kernel
theorem dJ2_getChar_3b067_46 : decode cJ2_getChar_3b067 46 = .ok (.aload_n 0, 1) := by decide +kernel
theorem dJ2_getChar_3b067_47 : decode cJ2_getChar_3b067 47 = .ok (.iload_n 1, 1) := by decide +kernel
theorem dJ2_getChar_3b067_48 : decode cJ2_getChar_3b067 48 = .ok (.baload, 1) := by decide +kernel
theorem dJ2_getChar_3b067_49 : decode cJ2_getChar_3b067 49 = .ok (.sipush 255, 3) := by decide +kernel
theorem dJ2_getChar_3b067_52 : decode cJ2_getChar_3b067 52 = .ok (.iand, 1) := by decide +kernel
theorem dJ2_getChar_3b067_53 : decode cJ2_getChar_3b067 53 = .ok (.getstatic 63, 3) := by decide +kernel
theorem dJ2_getChar_3b067_56 : decode cJ2_getChar_3b067 56 = .ok (.ishl, 1) := by decide +kernel
theorem dJ2_getChar_3b067_57 : decode cJ2_getChar_3b067 57 = .ok (.ior, 1) := by decide +kernel
theorem dJ2_getChar_3b067_58 : decode cJ2_getChar_3b067 58 = .ok (.i2c, 1) := by decide +kernel
theorem dJ2_getChar_3b067_59 : decode cJ2_getChar_3b067 59 = .ok (.ireturn, 1) := by decide +kernel
theorem dJ2_length_9d52b_0 : decode cJ2_length_9d52b 0 = .ok (.aload_n 0, 1) := by decide +kernel
theorem dJ2_length_9d52b_1 : decode cJ2_length_9d52b 1 = .ok (.arraylength, 1) := by decide +kernel
theorem dJ2_length_9d52b_2 : decode cJ2_length_9d52b 2 = .ok (.iconst 1, 1) := by decide +kernel
theorem dJ2_length_9d52b_3 : decode cJ2_length_9d52b 3 = .ok (.ishr, 1) := by decide +kernel
theorem dJ2_length_9d52b_4 : decode cJ2_length_9d52b 4 = .ok (.ireturn, 1) := by decide +kernel
theorem dJ2_charAt_3b067_0 : decode cJ2_charAt_3b067 0 = .ok (.iload_n 1, 1) := by decide +kernel
theorem dJ2_charAt_3b067_1 : decode cJ2_charAt_3b067 1 = .ok (.aload_n 0, 1) := by decide +kernel
theorem dJ2_charAt_3b067_2 : decode cJ2_charAt_3b067 2 = .ok (.invokestatic 67, 3) := by decide +kernel
theorem dJ2_charAt_3b067_5 : decode cJ2_charAt_3b067 5 = .ok (.aload_n 0, 1) := by decide +kernel
theorem dJ2_charAt_3b067_6 : decode cJ2_charAt_3b067 6 = .ok (.iload_n 1, 1) := by decide +kernel
theorem dJ2_charAt_3b067_7 : decode cJ2_charAt_3b067 7 = .ok (.invokestatic 71, 3) := by decide +kernel
theorem dJ2_charAt_3b067_10 : decode cJ2_charAt_3b067 10 = .ok (.ireturn, 1) := by decide +kernel
theorem dJ2_checkIndex_2214a_0 : decode cJ2_checkIndex_2214a 0 = .ok (.iload_n 0, 1) := by decide +kernel
theorem dJ2_checkIndex_2214a_1 : decode cJ2_checkIndex_2214a 1 = .ok (.aload_n 1, 1) := by decide +kernel
theorem dJ2_checkIndex_2214a_2 : decode cJ2_checkIndex_2214a 2 = .ok (.invokestatic 48, 3) := by decide +kernel
theorem dJ2_checkIndex_2214a_5 : decode cJ2_checkIndex_2214a 5 = .ok (.invokestatic 414, 3) := by decide +kernel
theorem dJ2_checkIndex_2214a_8 : decode cJ2_checkIndex_2214a 8 = .ok (.return_, 1) := by decide +kernel
theorem dJ3_checkIndex_8e157_0 : decode cJ3_checkIndex_8e157 0 = .ok (.iload_n 0, 1) := by decide +kernel
theorem dJ3_checkIndex_8e157_1 : decode cJ3_checkIndex_8e157 1 = .ok (.ifCond .lt 8, 3) := by decide +kernel
theorem dJ3_checkIndex_8e157_4 : decode cJ3_checkIndex_8e157 4 = .ok (.iload_n 0, 1) := by decide +kernel
theorem dJ3_checkIndex_8e157_5 : decode cJ3_checkIndex_8e157 5 = .ok (.iload_n 1, 1) := by decide +kernel
theorem dJ3_checkIndex_8e157_6 : decode cJ3_checkIndex_8e157 6 = .ok (.if_icmp .lt 10, 3) := by decide +kernel
theorem dJ3_checkIndex_8e157_9 : decode cJ3_checkIndex_8e157 9 = .ok (.aload_n 2, 1) := by decide +kernel
theorem dJ3_checkIndex_8e157_10 : decode cJ3_checkIndex_8e157 10 = .ok (.iload_n 0, 1) := by decide +kernel
theorem dJ3_checkIndex_8e157_11 : decode cJ3_checkIndex_8e157 11 = .ok (.iload_n 1, 1) := by decide +kernel
theorem dJ3_checkIndex_8e157_12 : decode cJ3_checkIndex_8e157 12 = .ok (.invokestatic 95, 3) := by decide +kernel
theorem dJ3_checkIndex_8e157_15 : decode cJ3_checkIndex_8e157 15 = .ok (.athrow, 1) := by decide +kernel
theorem dJ3_checkIndex_8e157_16 : decode cJ3_checkIndex_8e157 16 = .ok (.iload_n 0, 1) := by decide +kernel
theorem dJ3_checkIndex_8e157_17 : decode cJ3_checkIndex_8e157 17 = .ok (.ireturn, 1) := by decide +kernel
theorem dL_cell_0 : decode cL_cell 0 = .ok (.ldc 7, 2) := by decide +kernel
theorem dL_cell_2 : decode cL_cell 2 = .ok (.iload_n 1, 1) := by decide +kernel
theorem dL_cell_3 : decode cL_cell 3 = .ok (.aload_n 0, 1) := by decide +kernel
theorem dL_cell_4 : decode cL_cell 4 = .ok (.arraylength, 1) := by decide +kernel
theorem dL_cell_5 : decode cL_cell 5 = .ok (.if_icmp .ge 9, 3) := by decide +kernel
theorem dL_cell_8 : decode cL_cell 8 = .ok (.aload_n 0, 1) := by decide +kernel
theorem dL_cell_9 : decode cL_cell 9 = .ok (.iload_n 1, 1) := by decide +kernel
theorem dL_cell_10 : decode cL_cell 10 = .ok (.iaload, 1) := by decide +kernel
theorem dL_cell_11 : decode cL_cell 11 = .ok (.goto 4, 3) := by decide +kernel
theorem dL_cell_14 : decode cL_cell 14 = .ok (.iconst 0, 1) := by decide +kernel
theorem dL_cell_15 : decode cL_cell 15 = .ok (.sipush 1009, 3) := by decide +kernel
theorem dL_cell_18 : decode cL_cell 18 = .ok (.iload_n 1, 1) := by decide +kernel
theorem dL_cell_19 : decode cL_cell 19 = .ok (.imul, 1) := by decide +kernel
theorem dL_cell_20 : decode cL_cell 20 = .ok (.iadd, 1) := by decide +kernel
theorem dL_cell_21 : decode cL_cell 21 = .ok (.imul, 1) := by decide +kernel
theorem dL_cell_22 : decode cL_cell 22 = .ok (.sipush 12345, 3) := by decide +kernel
theorem dL_cell_25 : decode cL_cell 25 = .ok (.iadd, 1) := by decide +kernel
theorem dL_cell_26 : decode cL_cell 26 = .ok (.istore_n 2, 1) := by decide +kernel
theorem dL_cell_27 : decode cL_cell 27 = .ok (.iload_n 2, 1) := by decide +kernel
theorem dL_cell_28 : decode cL_cell 28 = .ok (.iload_n 2, 1) := by decide +kernel
theorem dL_cell_29 : decode cL_cell 29 = .ok (.bipush 13, 2) := by decide +kernel
theorem dL_cell_31 : decode cL_cell 31 = .ok (.iushr, 1) := by decide +kernel
theorem dL_cell_32 : decode cL_cell 32 = .ok (.ixor, 1) := by decide +kernel
theorem dL_cell_33 : decode cL_cell 33 = .ok (.ldc 8, 2) := by decide +kernel
theorem dL_cell_35 : decode cL_cell 35 = .ok (.imul, 1) := by decide +kernel
theorem dL_cell_36 : decode cL_cell 36 = .ok (.istore_n 2, 1) := by decide +kernel
theorem dL_cell_37 : decode cL_cell 37 = .ok (.iload_n 2, 1) := by decide +kernel
theorem dL_cell_38 : decode cL_cell 38 = .ok (.iload_n 2, 1) := by decide +kernel
theorem dL_cell_39 : decode cL_cell 39 = .ok (.bipush 16, 2) := by decide +kernel
theorem dL_cell_41 : decode cL_cell 41 = .ok (.iushr, 1) := by decide +kernel
theorem dL_cell_42 : decode cL_cell 42 = .ok (.ixor, 1) := by decide +kernel
theorem dL_cell_43 : decode cL_cell 43 = .ok (.ireturn, 1) := by decide +kernel
theorem dL_pick_0 : decode cL_pick 0 = .ok (.aload_n 0, 1) := by decide +kernel
theorem dL_pick_1 : decode cL_pick 1 = .ok (.iload_n 1, 1) := by decide +kernel
theorem dL_pick_2 : decode cL_pick 2 = .ok (.invokestatic 9, 3) := by decide +kernel
theorem dL_pick_5 : decode cL_pick 5 = .ok (.bipush 8, 2) := by decide +kernel
theorem dL_pick_7 : decode cL_pick 7 = .ok (.iushr, 1) := by decide +kernel
theorem dL_pick_8 : decode cL_pick 8 = .ok (.iload_n 2, 1) := by decide +kernel
theorem dL_pick_9 : decode cL_pick 9 = .ok (.irem, 1) := by decide +kernel
theorem dL_pick_10 : decode cL_pick 10 = .ok (.ireturn, 1) := by decide +kernel
theorem dL_told_0 : decode cL_told 0 = .ok (.iload_n 0, 1) := by decide +kernel
theorem dL_told_1 : decode cL_told 1 = .ok (.ifCond .eq 7, 3) := by decide +kernel
theorem dL_told_4 : decode cL_told 4 = .ok (.iconst 1, 1) := by decide +kernel
theorem dL_told_5 : decode cL_told 5 = .ok (.goto 4, 3) := by decide +kernel
theorem dL_told_8 : decode cL_told 8 = .ok (.iconst 0, 1) := by decide +kernel
theorem dL_told_9 : decode cL_told 9 = .ok (.ireturn, 1) := by decide +kernel
theorem dL_way_0 : decode cL_way 0 = .ok (.iload_n 0, 1) := by decide +kernel
theorem dL_way_1 : decode cL_way 1 = .ok (.ifCond .ne 8, 3) := by decide +kernel
theorem dL_way_4 : decode cL_way 4 = .ok (.bipush 112, 2) := by decide +kernel
theorem dL_way_6 : decode cL_way 6 = .ok (.goto 25, 3) := by decide +kernel
theorem dL_way_9 : decode cL_way 9 = .ok (.iload_n 0, 1) := by decide +kernel
theorem dL_way_10 : decode cL_way 10 = .ok (.iconst 1, 1) := by decide +kernel
theorem dL_way_11 : decode cL_way 11 = .ok (.if_icmp .ne 8, 3) := by decide +kernel
theorem dL_way_14 : decode cL_way 14 = .ok (.bipush 101, 2) := by decide +kernel
theorem dL_way_16 : decode cL_way 16 = .ok (.goto 15, 3) := by decide +kernel
theorem dL_way_19 : decode cL_way 19 = .ok (.iload_n 0, 1) := by decide +kernel
theorem dL_way_20 : decode cL_way 20 = .ok (.iconst 2, 1) := by decide +kernel
theorem dL_way_21 : decode cL_way 21 = .ok (.if_icmp .ne 8, 3) := by decide +kernel
theorem dL_way_24 : decode cL_way 24 = .ok (.bipush 109, 2) := by decide +kernel
theorem dL_way_26 : decode cL_way 26 = .ok (.goto 5, 3) := by decide +kernel
theorem dL_way_29 : decode cL_way 29 = .ok (.bipush 97, 2) := by decide +kernel
theorem dL_way_31 : decode cL_way 31 = .ok (.ireturn, 1) := by decide +kernel
theorem dL_plain_0 : decode cL_plain 0 = .ok (.iload_n 1, 1) := by decide +kernel
theorem dL_plain_1 : decode cL_plain 1 = .ok (.tableswitch 251 0 20 #[99, 105, 111, 117, 135, 143, 153, 160, 167, 176, 182, 189, 195, 201, 208, 215, 222, 229, 234, 239, 246], 99) := by decide +kernel
theorem dL_plain_100 : decode cL_plain 100 = .ok (.aload_n 0, 1) := by decide +kernel
theorem dL_plain_101 : decode cL_plain 101 = .ok (.iload_n 2, 1) := by decide +kernel
theorem dL_plain_102 : decode cL_plain 102 = .ok (.invokevirtual 15, 3) := by decide +kernel
theorem dL_plain_105 : decode cL_plain 105 = .ok (.ireturn, 1) := by decide +kernel
theorem dL_plain_106 : decode cL_plain 106 = .ok (.aload_n 0, 1) := by decide +kernel
theorem dL_plain_107 : decode cL_plain 107 = .ok (.iload_n 2, 1) := by decide +kernel
theorem dL_plain_108 : decode cL_plain 108 = .ok (.invokevirtual 21, 3) := by decide +kernel
theorem dL_plain_111 : decode cL_plain 111 = .ok (.ireturn, 1) := by decide +kernel
theorem dL_plain_112 : decode cL_plain 112 = .ok (.aload_n 0, 1) := by decide +kernel
theorem dL_plain_113 : decode cL_plain 113 = .ok (.iload_n 2, 1) := by decide +kernel
theorem dL_plain_114 : decode cL_plain 114 = .ok (.invokevirtual 24, 3) := by decide +kernel
theorem dL_plain_117 : decode cL_plain 117 = .ok (.ireturn, 1) := by decide +kernel
theorem dL_plain_118 : decode cL_plain 118 = .ok (.aload_n 0, 1) := by decide +kernel
theorem dL_plain_119 : decode cL_plain 119 = .ok (.iload_n 2, 1) := by decide +kernel
theorem dL_plain_120 : decode cL_plain 120 = .ok (.iload_n 3, 1) := by decide +kernel
theorem dL_plain_121 : decode cL_plain 121 = .ok (.iload 4, 2) := by decide +kernel
theorem dL_plain_123 : decode cL_plain 123 = .ok (.iconst 1, 1) := by decide +kernel
theorem dL_plain_124 : decode cL_plain 124 = .ok (.if_icmp .ne 7, 3) := by decide +kernel
theorem dL_plain_127 : decode cL_plain 127 = .ok (.iconst 1, 1) := by decide +kernel
theorem dL_plain_128 : decode cL_plain 128 = .ok (.goto 4, 3) := by decide +kernel
theorem dL_plain_131 : decode cL_plain 131 = .ok (.iconst 0, 1) := by decide +kernel
theorem dL_plain_132 : decode cL_plain 132 = .ok (.invokevirtual 27, 3) := by decide +kernel
theorem dL_plain_135 : decode cL_plain 135 = .ok (.ireturn, 1) := by decide +kernel
theorem dL_plain_136 : decode cL_plain 136 = .ok (.aload_n 0, 1) := by decide +kernel
theorem dL_plain_137 : decode cL_plain 137 = .ok (.iload_n 2, 1) := by decide +kernel
theorem dL_plain_138 : decode cL_plain 138 = .ok (.i2c, 1) := by decide +kernel
theorem dL_plain_139 : decode cL_plain 139 = .ok (.iload_n 3, 1) := by decide +kernel
theorem dL_plain_140 : decode cL_plain 140 = .ok (.invokevirtual 31, 3) := by decide +kernel
theorem dL_plain_143 : decode cL_plain 143 = .ok (.ireturn, 1) := by decide +kernel
theorem dL_plain_144 : decode cL_plain 144 = .ok (.aload_n 0, 1) := by decide +kernel
theorem dL_plain_145 : decode cL_plain 145 = .ok (.iload_n 2, 1) := by decide +kernel
theorem dL_plain_146 : decode cL_plain 146 = .ok (.iload_n 3, 1) := by decide +kernel
theorem dL_plain_147 : decode cL_plain 147 = .ok (.iload 4, 2) := by decide +kernel
theorem dL_plain_149 : decode cL_plain 149 = .ok (.i2c, 1) := by decide +kernel
theorem dL_plain_150 : decode cL_plain 150 = .ok (.invokevirtual 35, 3) := by decide +kernel
theorem dL_plain_153 : decode cL_plain 153 = .ok (.ireturn, 1) := by decide +kernel
theorem dL_plain_154 : decode cL_plain 154 = .ok (.aload_n 0, 1) := by decide +kernel
theorem dL_plain_155 : decode cL_plain 155 = .ok (.iload_n 2, 1) := by decide +kernel
theorem dL_plain_156 : decode cL_plain 156 = .ok (.iload_n 3, 1) := by decide +kernel
theorem dL_plain_157 : decode cL_plain 157 = .ok (.invokevirtual 39, 3) := by decide +kernel
theorem dL_plain_160 : decode cL_plain 160 = .ok (.ireturn, 1) := by decide +kernel
theorem dL_plain_161 : decode cL_plain 161 = .ok (.aload_n 0, 1) := by decide +kernel
theorem dL_plain_162 : decode cL_plain 162 = .ok (.iload_n 2, 1) := by decide +kernel
theorem dL_plain_163 : decode cL_plain 163 = .ok (.iload_n 3, 1) := by decide +kernel
theorem dL_plain_164 : decode cL_plain 164 = .ok (.invokevirtual 43, 3) := by decide +kernel
theorem dL_plain_167 : decode cL_plain 167 = .ok (.ireturn, 1) := by decide +kernel
theorem dL_plain_168 : decode cL_plain 168 = .ok (.aload_n 0, 1) := by decide +kernel
theorem dL_plain_169 : decode cL_plain 169 = .ok (.iload_n 2, 1) := by decide +kernel
theorem dL_plain_170 : decode cL_plain 170 = .ok (.invokevirtual 46, 3) := by decide +kernel
theorem dL_plain_173 : decode cL_plain 173 = .ok (.invokestatic 50, 3) := by decide +kernel
theorem dL_plain_176 : decode cL_plain 176 = .ok (.ireturn, 1) := by decide +kernel
theorem dL_plain_177 : decode cL_plain 177 = .ok (.aload_n 0, 1) := by decide +kernel
theorem dL_plain_178 : decode cL_plain 178 = .ok (.iload_n 2, 1) := by decide +kernel
theorem dL_plain_179 : decode cL_plain 179 = .ok (.invokevirtual 54, 3) := by decide +kernel
theorem dL_plain_182 : decode cL_plain 182 = .ok (.ireturn, 1) := by decide +kernel
theorem dL_plain_183 : decode cL_plain 183 = .ok (.aload_n 0, 1) := by decide +kernel
theorem dL_plain_184 : decode cL_plain 184 = .ok (.iload_n 2, 1) := by decide +kernel
theorem dL_plain_185 : decode cL_plain 185 = .ok (.iload_n 3, 1) := by decide +kernel
theorem dL_plain_186 : decode cL_plain 186 = .ok (.invokevirtual 57, 3) := by decide +kernel
theorem dL_plain_189 : decode cL_plain 189 = .ok (.ireturn, 1) := by decide +kernel
theorem dL_plain_190 : decode cL_plain 190 = .ok (.aload_n 0, 1) := by decide +kernel
theorem dL_plain_191 : decode cL_plain 191 = .ok (.iload_n 2, 1) := by decide +kernel
theorem dL_plain_192 : decode cL_plain 192 = .ok (.invokevirtual 60, 3) := by decide +kernel
theorem dL_plain_195 : decode cL_plain 195 = .ok (.ireturn, 1) := by decide +kernel
theorem dL_plain_196 : decode cL_plain 196 = .ok (.aload_n 0, 1) := by decide +kernel
theorem dL_plain_197 : decode cL_plain 197 = .ok (.iload_n 2, 1) := by decide +kernel
theorem dL_plain_198 : decode cL_plain 198 = .ok (.invokevirtual 63, 3) := by decide +kernel
theorem dL_plain_201 : decode cL_plain 201 = .ok (.ireturn, 1) := by decide +kernel
theorem dL_plain_202 : decode cL_plain 202 = .ok (.aload_n 0, 1) := by decide +kernel
theorem dL_plain_203 : decode cL_plain 203 = .ok (.iload_n 2, 1) := by decide +kernel
theorem dL_plain_204 : decode cL_plain 204 = .ok (.iload_n 3, 1) := by decide +kernel
theorem dL_plain_205 : decode cL_plain 205 = .ok (.invokevirtual 66, 3) := by decide +kernel
theorem dL_plain_208 : decode cL_plain 208 = .ok (.ireturn, 1) := by decide +kernel
theorem dL_plain_209 : decode cL_plain 209 = .ok (.aload_n 0, 1) := by decide +kernel
theorem dL_plain_210 : decode cL_plain 210 = .ok (.iload_n 2, 1) := by decide +kernel
theorem dL_plain_211 : decode cL_plain 211 = .ok (.iload_n 3, 1) := by decide +kernel
theorem dL_plain_212 : decode cL_plain 212 = .ok (.invokevirtual 69, 3) := by decide +kernel
theorem dL_plain_215 : decode cL_plain 215 = .ok (.ireturn, 1) := by decide +kernel
theorem dL_plain_216 : decode cL_plain 216 = .ok (.aload_n 0, 1) := by decide +kernel
theorem dL_plain_217 : decode cL_plain 217 = .ok (.iload_n 2, 1) := by decide +kernel
theorem dL_plain_218 : decode cL_plain 218 = .ok (.iload_n 3, 1) := by decide +kernel
theorem dL_plain_219 : decode cL_plain 219 = .ok (.invokevirtual 72, 3) := by decide +kernel
theorem dL_plain_222 : decode cL_plain 222 = .ok (.ireturn, 1) := by decide +kernel
theorem dL_plain_223 : decode cL_plain 223 = .ok (.aload_n 0, 1) := by decide +kernel
theorem dL_plain_224 : decode cL_plain 224 = .ok (.iload_n 2, 1) := by decide +kernel
theorem dL_plain_225 : decode cL_plain 225 = .ok (.iload_n 3, 1) := by decide +kernel
theorem dL_plain_226 : decode cL_plain 226 = .ok (.invokevirtual 75, 3) := by decide +kernel
theorem dL_plain_229 : decode cL_plain 229 = .ok (.ireturn, 1) := by decide +kernel
theorem dL_plain_230 : decode cL_plain 230 = .ok (.aload_n 0, 1) := by decide +kernel
theorem dL_plain_231 : decode cL_plain 231 = .ok (.invokevirtual 78, 3) := by decide +kernel
theorem dL_plain_234 : decode cL_plain 234 = .ok (.ireturn, 1) := by decide +kernel
theorem dL_plain_235 : decode cL_plain 235 = .ok (.aload_n 0, 1) := by decide +kernel
theorem dL_plain_236 : decode cL_plain 236 = .ok (.invokevirtual 82, 3) := by decide +kernel
theorem dL_plain_239 : decode cL_plain 239 = .ok (.ireturn, 1) := by decide +kernel
theorem dL_plain_240 : decode cL_plain 240 = .ok (.aload_n 0, 1) := by decide +kernel
theorem dL_plain_241 : decode cL_plain 241 = .ok (.iload_n 2, 1) := by decide +kernel
theorem dL_plain_242 : decode cL_plain 242 = .ok (.i2c, 1) := by decide +kernel
theorem dL_plain_243 : decode cL_plain 243 = .ok (.invokevirtual 85, 3) := by decide +kernel
theorem dL_plain_246 : decode cL_plain 246 = .ok (.ireturn, 1) := by decide +kernel
theorem dL_plain_247 : decode cL_plain 247 = .ok (.aload_n 0, 1) := by decide +kernel
theorem dL_plain_248 : decode cL_plain 248 = .ok (.invokevirtual 89, 3) := by decide +kernel
theorem dL_plain_251 : decode cL_plain 251 = .ok (.ireturn, 1) := by decide +kernel
theorem dL_plain_252 : decode cL_plain 252 = .ok (.aload_n 0, 1) := by decide +kernel
theorem dL_plain_253 : decode cL_plain 253 = .ok (.invokevirtual 92, 3) := by decide +kernel
theorem dL_plain_256 : decode cL_plain 256 = .ok (.ireturn, 1) := by decide +kernel
theorem dL_deed_0 : decode cL_deed 0 = .ok (.aload_n 0, 1) := by decide +kernel
theorem dL_deed_1 : decode cL_deed 1 = .ok (.iload_n 1, 1) := by decide +kernel
theorem dL_deed_2 : decode cL_deed 2 = .ok (.iload_n 2, 1) := by decide +kernel
theorem dL_deed_3 : decode cL_deed 3 = .ok (.iload_n 3, 1) := by decide +kernel
theorem dL_deed_4 : decode cL_deed 4 = .ok (.iload 4, 2) := by decide +kernel
theorem dL_deed_6 : decode cL_deed 6 = .ok (.invokestatic 95, 3) := by decide +kernel
theorem dL_deed_9 : decode cL_deed 9 = .ok (.ireturn, 1) := by decide +kernel
theorem dL_deed_10 : decode cL_deed 10 = .ok (.astore 5, 2) := by decide +kernel
theorem dL_deed_12 : decode cL_deed 12 = .ok (.sipush (-2001), 3) := by decide +kernel
theorem dL_deed_15 : decode cL_deed 15 = .ok (.ireturn, 1) := by decide +kernel
theorem dL_deed_16 : decode cL_deed 16 = .ok (.astore 5, 2) := by decide +kernel
theorem dL_deed_18 : decode cL_deed 18 = .ok (.sipush (-2002), 3) := by decide +kernel
theorem dL_deed_21 : decode cL_deed 21 = .ok (.ireturn, 1) := by decide +kernel
theorem dL_deed_22 : decode cL_deed 22 = .ok (.astore 5, 2) := by decide +kernel
theorem dL_deed_24 : decode cL_deed 24 = .ok (.sipush (-2003), 3) := by decide +kernel
theorem dL_deed_27 : decode cL_deed 27 = .ok (.ireturn, 1) := by decide +kernel
theorem dL_deed_28 : decode cL_deed 28 = .ok (.astore 5, 2) := by decide +kernel
theorem dL_deed_30 : decode cL_deed 30 = .ok (.sipush (-2004), 3) := by decide +kernel
theorem dL_deed_33 : decode cL_deed 33 = .ok (.ireturn, 1) := by decide +kernel
theorem dL_deed_34 : decode cL_deed 34 = .ok (.astore 5, 2) := by decide +kernel
theorem dL_deed_36 : decode cL_deed 36 = .ok (.sipush (-2005), 3) := by decide +kernel
theorem dL_deed_39 : decode cL_deed 39 = .ok (.ireturn, 1) := by decide +kernel
theorem dL_asked_0 : decode cL_asked 0 = .ok (.iload_n 1, 1) := by decide +kernel
theorem dL_asked_1 : decode cL_asked 1 = .ok (.tableswitch 365 0 31 #[143, 149, 155, 161, 167, 176, 185, 192, 199, 206, 213, 223, 232, 238, 243, 249, 255, 264, 274, 284, 290, 296, 302, 307, 312, 318, 324, 331, 337, 346, 352, 359], 143) := by decide +kernel
theorem dL_asked_144 : decode cL_asked 144 = .ok (.aload_n 0, 1) := by decide +kernel
theorem dL_asked_145 : decode cL_asked 145 = .ok (.iload_n 2, 1) := by decide +kernel
theorem dL_asked_146 : decode cL_asked 146 = .ok (.invokevirtual 109, 3) := by decide +kernel
theorem dL_asked_149 : decode cL_asked 149 = .ok (.ireturn, 1) := by decide +kernel
theorem dL_asked_150 : decode cL_asked 150 = .ok (.aload_n 0, 1) := by decide +kernel
theorem dL_asked_151 : decode cL_asked 151 = .ok (.iload_n 2, 1) := by decide +kernel
theorem dL_asked_152 : decode cL_asked 152 = .ok (.invokevirtual 112, 3) := by decide +kernel
theorem dL_asked_155 : decode cL_asked 155 = .ok (.ireturn, 1) := by decide +kernel
theorem dL_asked_156 : decode cL_asked 156 = .ok (.aload_n 0, 1) := by decide +kernel
theorem dL_asked_157 : decode cL_asked 157 = .ok (.iload_n 2, 1) := by decide +kernel
theorem dL_asked_158 : decode cL_asked 158 = .ok (.invokevirtual 115, 3) := by decide +kernel
theorem dL_asked_161 : decode cL_asked 161 = .ok (.ireturn, 1) := by decide +kernel
theorem dL_asked_162 : decode cL_asked 162 = .ok (.aload_n 0, 1) := by decide +kernel
theorem dL_asked_163 : decode cL_asked 163 = .ok (.iload_n 2, 1) := by decide +kernel
theorem dL_asked_164 : decode cL_asked 164 = .ok (.invokevirtual 118, 3) := by decide +kernel
theorem dL_asked_167 : decode cL_asked 167 = .ok (.ireturn, 1) := by decide +kernel
theorem dL_asked_168 : decode cL_asked 168 = .ok (.aload_n 0, 1) := by decide +kernel
theorem dL_asked_169 : decode cL_asked 169 = .ok (.iload_n 2, 1) := by decide +kernel
theorem dL_asked_170 : decode cL_asked 170 = .ok (.iload_n 3, 1) := by decide +kernel
theorem dL_asked_171 : decode cL_asked 171 = .ok (.iload 4, 2) := by decide +kernel
theorem dL_asked_173 : decode cL_asked 173 = .ok (.invokevirtual 121, 3) := by decide +kernel
theorem dL_asked_176 : decode cL_asked 176 = .ok (.ireturn, 1) := by decide +kernel
theorem dL_asked_177 : decode cL_asked 177 = .ok (.aload_n 0, 1) := by decide +kernel
theorem dL_asked_178 : decode cL_asked 178 = .ok (.iload_n 2, 1) := by decide +kernel
theorem dL_asked_179 : decode cL_asked 179 = .ok (.iload_n 3, 1) := by decide +kernel
theorem dL_asked_180 : decode cL_asked 180 = .ok (.iload 4, 2) := by decide +kernel
theorem dL_asked_182 : decode cL_asked 182 = .ok (.invokevirtual 125, 3) := by decide +kernel
theorem dL_asked_185 : decode cL_asked 185 = .ok (.ireturn, 1) := by decide +kernel
theorem dL_asked_186 : decode cL_asked 186 = .ok (.aload_n 0, 1) := by decide +kernel
theorem dL_asked_187 : decode cL_asked 187 = .ok (.iload_n 2, 1) := by decide +kernel
theorem dL_asked_188 : decode cL_asked 188 = .ok (.iload_n 3, 1) := by decide +kernel
theorem dL_asked_189 : decode cL_asked 189 = .ok (.invokevirtual 128, 3) := by decide +kernel
theorem dL_asked_192 : decode cL_asked 192 = .ok (.ireturn, 1) := by decide +kernel
theorem dL_asked_193 : decode cL_asked 193 = .ok (.aload_n 0, 1) := by decide +kernel
theorem dL_asked_194 : decode cL_asked 194 = .ok (.iload_n 2, 1) := by decide +kernel
theorem dL_asked_195 : decode cL_asked 195 = .ok (.iload_n 3, 1) := by decide +kernel
theorem dL_asked_196 : decode cL_asked 196 = .ok (.invokevirtual 131, 3) := by decide +kernel
theorem dL_asked_199 : decode cL_asked 199 = .ok (.ireturn, 1) := by decide +kernel
theorem dL_asked_200 : decode cL_asked 200 = .ok (.aload_n 0, 1) := by decide +kernel
theorem dL_asked_201 : decode cL_asked 201 = .ok (.iload_n 2, 1) := by decide +kernel
theorem dL_asked_202 : decode cL_asked 202 = .ok (.iload_n 3, 1) := by decide +kernel
theorem dL_asked_203 : decode cL_asked 203 = .ok (.invokevirtual 134, 3) := by decide +kernel
theorem dL_asked_206 : decode cL_asked 206 = .ok (.ireturn, 1) := by decide +kernel
theorem dL_asked_207 : decode cL_asked 207 = .ok (.aload_n 0, 1) := by decide +kernel
theorem dL_asked_208 : decode cL_asked 208 = .ok (.iload_n 2, 1) := by decide +kernel
theorem dL_asked_209 : decode cL_asked 209 = .ok (.iload_n 3, 1) := by decide +kernel
theorem dL_asked_210 : decode cL_asked 210 = .ok (.invokevirtual 137, 3) := by decide +kernel
theorem dL_asked_213 : decode cL_asked 213 = .ok (.ireturn, 1) := by decide +kernel
theorem dL_asked_214 : decode cL_asked 214 = .ok (.aload_n 0, 1) := by decide +kernel
theorem dL_asked_215 : decode cL_asked 215 = .ok (.iload_n 2, 1) := by decide +kernel
theorem dL_asked_216 : decode cL_asked 216 = .ok (.iload_n 3, 1) := by decide +kernel
theorem dL_asked_217 : decode cL_asked 217 = .ok (.invokevirtual 140, 3) := by decide +kernel
theorem dL_asked_220 : decode cL_asked 220 = .ok (.invokestatic 50, 3) := by decide +kernel
theorem dL_asked_223 : decode cL_asked 223 = .ok (.ireturn, 1) := by decide +kernel
theorem dL_asked_224 : decode cL_asked 224 = .ok (.aload_n 0, 1) := by decide +kernel
theorem dL_asked_225 : decode cL_asked 225 = .ok (.iload_n 2, 1) := by decide +kernel
theorem dL_asked_226 : decode cL_asked 226 = .ok (.invokevirtual 144, 3) := by decide +kernel
theorem dL_asked_229 : decode cL_asked 229 = .ok (.invokestatic 50, 3) := by decide +kernel
theorem dL_asked_232 : decode cL_asked 232 = .ok (.ireturn, 1) := by decide +kernel
theorem dL_asked_233 : decode cL_asked 233 = .ok (.aload_n 0, 1) := by decide +kernel
theorem dL_asked_234 : decode cL_asked 234 = .ok (.iload_n 2, 1) := by decide +kernel
theorem dL_asked_235 : decode cL_asked 235 = .ok (.invokevirtual 147, 3) := by decide +kernel
theorem dL_asked_238 : decode cL_asked 238 = .ok (.ireturn, 1) := by decide +kernel
theorem dL_asked_239 : decode cL_asked 239 = .ok (.aload_n 0, 1) := by decide +kernel
theorem dL_asked_240 : decode cL_asked 240 = .ok (.invokevirtual 150, 3) := by decide +kernel
theorem dL_asked_243 : decode cL_asked 243 = .ok (.ireturn, 1) := by decide +kernel
theorem dL_asked_244 : decode cL_asked 244 = .ok (.aload_n 0, 1) := by decide +kernel
theorem dL_asked_245 : decode cL_asked 245 = .ok (.iload_n 2, 1) := by decide +kernel
theorem dL_asked_246 : decode cL_asked 246 = .ok (.invokevirtual 153, 3) := by decide +kernel
theorem dL_asked_249 : decode cL_asked 249 = .ok (.ireturn, 1) := by decide +kernel
theorem dL_asked_250 : decode cL_asked 250 = .ok (.aload_n 0, 1) := by decide +kernel
theorem dL_asked_251 : decode cL_asked 251 = .ok (.iload_n 2, 1) := by decide +kernel
theorem dL_asked_252 : decode cL_asked 252 = .ok (.invokevirtual 156, 3) := by decide +kernel
theorem dL_asked_255 : decode cL_asked 255 = .ok (.ireturn, 1) := by decide +kernel
theorem dL_asked_256 : decode cL_asked 256 = .ok (.aload_n 0, 1) := by decide +kernel
theorem dL_asked_257 : decode cL_asked 257 = .ok (.iload_n 2, 1) := by decide +kernel
theorem dL_asked_258 : decode cL_asked 258 = .ok (.invokevirtual 159, 3) := by decide +kernel
theorem dL_asked_261 : decode cL_asked 261 = .ok (.invokestatic 50, 3) := by decide +kernel
theorem dL_asked_264 : decode cL_asked 264 = .ok (.ireturn, 1) := by decide +kernel
theorem dL_asked_265 : decode cL_asked 265 = .ok (.aload_n 0, 1) := by decide +kernel
theorem dL_asked_266 : decode cL_asked 266 = .ok (.iload_n 2, 1) := by decide +kernel
theorem dL_asked_267 : decode cL_asked 267 = .ok (.iload_n 3, 1) := by decide +kernel
theorem dL_asked_268 : decode cL_asked 268 = .ok (.invokevirtual 162, 3) := by decide +kernel
theorem dL_asked_271 : decode cL_asked 271 = .ok (.invokestatic 50, 3) := by decide +kernel
theorem dL_asked_274 : decode cL_asked 274 = .ok (.ireturn, 1) := by decide +kernel
theorem dL_asked_275 : decode cL_asked 275 = .ok (.aload_n 0, 1) := by decide +kernel
theorem dL_asked_276 : decode cL_asked 276 = .ok (.iload_n 2, 1) := by decide +kernel
theorem dL_asked_277 : decode cL_asked 277 = .ok (.iload_n 3, 1) := by decide +kernel
theorem dL_asked_278 : decode cL_asked 278 = .ok (.invokevirtual 165, 3) := by decide +kernel
theorem dL_asked_281 : decode cL_asked 281 = .ok (.invokestatic 50, 3) := by decide +kernel
theorem dL_asked_284 : decode cL_asked 284 = .ok (.ireturn, 1) := by decide +kernel
theorem dL_asked_285 : decode cL_asked 285 = .ok (.aload_n 0, 1) := by decide +kernel
theorem dL_asked_286 : decode cL_asked 286 = .ok (.iload_n 2, 1) := by decide +kernel
theorem dL_asked_287 : decode cL_asked 287 = .ok (.invokevirtual 168, 3) := by decide +kernel
theorem dL_asked_290 : decode cL_asked 290 = .ok (.ireturn, 1) := by decide +kernel
theorem dL_asked_291 : decode cL_asked 291 = .ok (.aload_n 0, 1) := by decide +kernel
theorem dL_asked_292 : decode cL_asked 292 = .ok (.iload_n 2, 1) := by decide +kernel
theorem dL_asked_293 : decode cL_asked 293 = .ok (.invokevirtual 171, 3) := by decide +kernel
theorem dL_asked_296 : decode cL_asked 296 = .ok (.ireturn, 1) := by decide +kernel
theorem dL_asked_297 : decode cL_asked 297 = .ok (.aload_n 0, 1) := by decide +kernel
theorem dL_asked_298 : decode cL_asked 298 = .ok (.iload_n 2, 1) := by decide +kernel
theorem dL_asked_299 : decode cL_asked 299 = .ok (.invokevirtual 175, 3) := by decide +kernel
theorem dL_asked_302 : decode cL_asked 302 = .ok (.ireturn, 1) := by decide +kernel
theorem dL_asked_303 : decode cL_asked 303 = .ok (.aload_n 0, 1) := by decide +kernel
theorem dL_asked_304 : decode cL_asked 304 = .ok (.invokevirtual 178, 3) := by decide +kernel
theorem dL_asked_307 : decode cL_asked 307 = .ok (.ireturn, 1) := by decide +kernel
theorem dL_asked_308 : decode cL_asked 308 = .ok (.aload_n 0, 1) := by decide +kernel
theorem dL_asked_309 : decode cL_asked 309 = .ok (.invokevirtual 181, 3) := by decide +kernel
theorem dL_asked_312 : decode cL_asked 312 = .ok (.ireturn, 1) := by decide +kernel
theorem dL_asked_313 : decode cL_asked 313 = .ok (.aload_n 0, 1) := by decide +kernel
theorem dL_asked_314 : decode cL_asked 314 = .ok (.iload_n 2, 1) := by decide +kernel
theorem dL_asked_315 : decode cL_asked 315 = .ok (.invokevirtual 184, 3) := by decide +kernel
theorem dL_asked_318 : decode cL_asked 318 = .ok (.ireturn, 1) := by decide +kernel
theorem dL_asked_319 : decode cL_asked 319 = .ok (.aload_n 0, 1) := by decide +kernel
theorem dL_asked_320 : decode cL_asked 320 = .ok (.iload_n 2, 1) := by decide +kernel
theorem dL_asked_321 : decode cL_asked 321 = .ok (.invokevirtual 187, 3) := by decide +kernel
theorem dL_asked_324 : decode cL_asked 324 = .ok (.ireturn, 1) := by decide +kernel
theorem dL_asked_325 : decode cL_asked 325 = .ok (.aload_n 0, 1) := by decide +kernel
theorem dL_asked_326 : decode cL_asked 326 = .ok (.iload_n 2, 1) := by decide +kernel
theorem dL_asked_327 : decode cL_asked 327 = .ok (.i2c, 1) := by decide +kernel
theorem dL_asked_328 : decode cL_asked 328 = .ok (.invokevirtual 190, 3) := by decide +kernel
theorem dL_asked_331 : decode cL_asked 331 = .ok (.ireturn, 1) := by decide +kernel
theorem dL_asked_332 : decode cL_asked 332 = .ok (.aload_n 0, 1) := by decide +kernel
theorem dL_asked_333 : decode cL_asked 333 = .ok (.iload_n 2, 1) := by decide +kernel
theorem dL_asked_334 : decode cL_asked 334 = .ok (.invokevirtual 193, 3) := by decide +kernel
theorem dL_asked_337 : decode cL_asked 337 = .ok (.ireturn, 1) := by decide +kernel
theorem dL_asked_338 : decode cL_asked 338 = .ok (.aload_n 0, 1) := by decide +kernel
theorem dL_asked_339 : decode cL_asked 339 = .ok (.iload_n 2, 1) := by decide +kernel
theorem dL_asked_340 : decode cL_asked 340 = .ok (.invokevirtual 196, 3) := by decide +kernel
theorem dL_asked_343 : decode cL_asked 343 = .ok (.invokestatic 50, 3) := by decide +kernel
theorem dL_asked_346 : decode cL_asked 346 = .ok (.ireturn, 1) := by decide +kernel
theorem dL_asked_347 : decode cL_asked 347 = .ok (.aload_n 0, 1) := by decide +kernel
theorem dL_asked_348 : decode cL_asked 348 = .ok (.iload_n 2, 1) := by decide +kernel
theorem dL_asked_349 : decode cL_asked 349 = .ok (.invokevirtual 199, 3) := by decide +kernel
theorem dL_asked_352 : decode cL_asked 352 = .ok (.ireturn, 1) := by decide +kernel
theorem dL_asked_353 : decode cL_asked 353 = .ok (.aload_n 0, 1) := by decide +kernel
theorem dL_asked_354 : decode cL_asked 354 = .ok (.iload_n 2, 1) := by decide +kernel
theorem dL_asked_355 : decode cL_asked 355 = .ok (.iload_n 3, 1) := by decide +kernel
theorem dL_asked_356 : decode cL_asked 356 = .ok (.invokevirtual 202, 3) := by decide +kernel
theorem dL_asked_359 : decode cL_asked 359 = .ok (.ireturn, 1) := by decide +kernel
theorem dL_asked_360 : decode cL_asked 360 = .ok (.aload_n 0, 1) := by decide +kernel
theorem dL_asked_361 : decode cL_asked 361 = .ok (.iload_n 2, 1) := by decide +kernel
theorem dL_asked_362 : decode cL_asked 362 = .ok (.invokevirtual 205, 3) := by decide +kernel
theorem dL_asked_365 : decode cL_asked 365 = .ok (.ireturn, 1) := by decide +kernel
theorem dL_asked_366 : decode cL_asked 366 = .ok (.aload_n 0, 1) := by decide +kernel
theorem dL_asked_367 : decode cL_asked 367 = .ok (.iload_n 2, 1) := by decide +kernel
theorem dL_asked_368 : decode cL_asked 368 = .ok (.invokevirtual 208, 3) := by decide +kernel
theorem dL_asked_371 : decode cL_asked 371 = .ok (.ireturn, 1) := by decide +kernel
theorem dL_ask_0 : decode cL_ask 0 = .ok (.aload_n 0, 1) := by decide +kernel
theorem dL_ask_1 : decode cL_ask 1 = .ok (.iload_n 1, 1) := by decide +kernel
theorem dL_ask_2 : decode cL_ask 2 = .ok (.iload_n 2, 1) := by decide +kernel
theorem dL_ask_3 : decode cL_ask 3 = .ok (.iload_n 3, 1) := by decide +kernel
theorem dL_ask_4 : decode cL_ask 4 = .ok (.iload 4, 2) := by decide +kernel
theorem dL_ask_6 : decode cL_ask 6 = .ok (.invokestatic 211, 3) := by decide +kernel
theorem dL_ask_9 : decode cL_ask 9 = .ok (.ireturn, 1) := by decide +kernel
theorem dL_ask_10 : decode cL_ask 10 = .ok (.astore 5, 2) := by decide +kernel
theorem dL_ask_12 : decode cL_ask 12 = .ok (.sipush (-2001), 3) := by decide +kernel
theorem dL_ask_15 : decode cL_ask 15 = .ok (.ireturn, 1) := by decide +kernel
theorem dL_ask_16 : decode cL_ask 16 = .ok (.astore 5, 2) := by decide +kernel
theorem dL_ask_18 : decode cL_ask 18 = .ok (.sipush (-2002), 3) := by decide +kernel
theorem dL_ask_21 : decode cL_ask 21 = .ok (.ireturn, 1) := by decide +kernel
theorem dL_ask_22 : decode cL_ask 22 = .ok (.astore 5, 2) := by decide +kernel
theorem dL_ask_24 : decode cL_ask 24 = .ok (.sipush (-2005), 3) := by decide +kernel
theorem dL_ask_27 : decode cL_ask 27 = .ok (.ireturn, 1) := by decide +kernel
theorem dL_lay_0 : decode cL_lay 0 = .ok (.iconst 0, 1) := by decide +kernel
theorem dL_lay_1 : decode cL_lay 1 = .ok (.istore_n 2, 1) := by decide +kernel
theorem dL_lay_2 : decode cL_lay 2 = .ok (.iconst 0, 1) := by decide +kernel
theorem dL_lay_3 : decode cL_lay 3 = .ok (.istore_n 3, 1) := by decide +kernel
theorem dL_lay_4 : decode cL_lay 4 = .ok (.iload_n 3, 1) := by decide +kernel
theorem dL_lay_5 : decode cL_lay 5 = .ok (.iconst 1, 1) := by decide +kernel
theorem dL_lay_6 : decode cL_lay 6 = .ok (.aload_n 1, 1) := by decide +kernel
theorem dL_lay_7 : decode cL_lay 7 = .ok (.iconst 0, 1) := by decide +kernel
theorem dL_lay_8 : decode cL_lay 8 = .ok (.iconst 3, 1) := by decide +kernel
theorem dL_lay_9 : decode cL_lay 9 = .ok (.invokestatic 223, 3) := by decide +kernel
theorem dL_lay_12 : decode cL_lay 12 = .ok (.iadd, 1) := by decide +kernel
theorem dL_lay_13 : decode cL_lay 13 = .ok (.if_icmp .ge 34, 3) := by decide +kernel
theorem dL_lay_16 : decode cL_lay 16 = .ok (.iload_n 2, 1) := by decide +kernel
theorem dL_lay_17 : decode cL_lay 17 = .ok (.aload_n 0, 1) := by decide +kernel
theorem dL_lay_18 : decode cL_lay 18 = .ok (.bipush 19, 2) := by decide +kernel
theorem dL_lay_20 : decode cL_lay 20 = .ok (.bipush 97, 2) := by decide +kernel
theorem dL_lay_22 : decode cL_lay 22 = .ok (.iload_n 3, 1) := by decide +kernel
theorem dL_lay_23 : decode cL_lay 23 = .ok (.iadd, 1) := by decide +kernel
theorem dL_lay_24 : decode cL_lay 24 = .ok (.iconst 0, 1) := by decide +kernel
theorem dL_lay_25 : decode cL_lay 25 = .ok (.iconst 0, 1) := by decide +kernel
theorem dL_lay_26 : decode cL_lay 26 = .ok (.invokestatic 220, 3) := by decide +kernel
theorem dL_lay_29 : decode cL_lay 29 = .ok (.aload_n 0, 1) := by decide +kernel
theorem dL_lay_30 : decode cL_lay 30 = .ok (.bipush 17, 2) := by decide +kernel
theorem dL_lay_32 : decode cL_lay 32 = .ok (.iconst 0, 1) := by decide +kernel
theorem dL_lay_33 : decode cL_lay 33 = .ok (.iconst 0, 1) := by decide +kernel
theorem dL_lay_34 : decode cL_lay 34 = .ok (.iconst 0, 1) := by decide +kernel
theorem dL_lay_35 : decode cL_lay 35 = .ok (.invokestatic 220, 3) := by decide +kernel
theorem dL_lay_38 : decode cL_lay 38 = .ok (.iadd, 1) := by decide +kernel
theorem dL_lay_39 : decode cL_lay 39 = .ok (.iadd, 1) := by decide +kernel
theorem dL_lay_40 : decode cL_lay 40 = .ok (.istore_n 2, 1) := by decide +kernel
theorem dL_lay_41 : decode cL_lay 41 = .ok (.iinc 3 1, 3) := by decide +kernel
theorem dL_lay_44 : decode cL_lay 44 = .ok (.goto (-40), 3) := by decide +kernel
theorem dL_lay_47 : decode cL_lay 47 = .ok (.iconst 0, 1) := by decide +kernel
theorem dL_lay_48 : decode cL_lay 48 = .ok (.istore_n 3, 1) := by decide +kernel
theorem dL_lay_49 : decode cL_lay 49 = .ok (.iload_n 3, 1) := by decide +kernel
theorem dL_lay_50 : decode cL_lay 50 = .ok (.aload_n 1, 1) := by decide +kernel
theorem dL_lay_51 : decode cL_lay 51 = .ok (.iconst 1, 1) := by decide +kernel
theorem dL_lay_52 : decode cL_lay 52 = .ok (.iconst 4, 1) := by decide +kernel
theorem dL_lay_53 : decode cL_lay 53 = .ok (.invokestatic 223, 3) := by decide +kernel
theorem dL_lay_56 : decode cL_lay 56 = .ok (.if_icmp .ge 66, 3) := by decide +kernel
theorem dL_lay_59 : decode cL_lay 59 = .ok (.iload_n 2, 1) := by decide +kernel
theorem dL_lay_60 : decode cL_lay 60 = .ok (.aload_n 0, 1) := by decide +kernel
theorem dL_lay_61 : decode cL_lay 61 = .ok (.iconst 3, 1) := by decide +kernel
theorem dL_lay_62 : decode cL_lay 62 = .ok (.aload_n 1, 1) := by decide +kernel
theorem dL_lay_63 : decode cL_lay 63 = .ok (.bipush 10, 2) := by decide +kernel
theorem dL_lay_65 : decode cL_lay 65 = .ok (.iload_n 3, 1) := by decide +kernel
theorem dL_lay_66 : decode cL_lay 66 = .ok (.iadd, 1) := by decide +kernel
theorem dL_lay_67 : decode cL_lay 67 = .ok (.bipush 8, 2) := by decide +kernel
theorem dL_lay_69 : decode cL_lay 69 = .ok (.invokestatic 223, 3) := by decide +kernel
theorem dL_lay_72 : decode cL_lay 72 = .ok (.iconst 1, 1) := by decide +kernel
theorem dL_lay_73 : decode cL_lay 73 = .ok (.aload_n 1, 1) := by decide +kernel
theorem dL_lay_74 : decode cL_lay 74 = .ok (.bipush 20, 2) := by decide +kernel
theorem dL_lay_76 : decode cL_lay 76 = .ok (.iload_n 3, 1) := by decide +kernel
theorem dL_lay_77 : decode cL_lay 77 = .ok (.iadd, 1) := by decide +kernel
theorem dL_lay_78 : decode cL_lay 78 = .ok (.aload_n 1, 1) := by decide +kernel
theorem dL_lay_79 : decode cL_lay 79 = .ok (.bipush 30, 2) := by decide +kernel
theorem dL_lay_81 : decode cL_lay 81 = .ok (.iload_n 3, 1) := by decide +kernel
theorem dL_lay_82 : decode cL_lay 82 = .ok (.iadd, 1) := by decide +kernel
theorem dL_lay_83 : decode cL_lay 83 = .ok (.iconst 3, 1) := by decide +kernel
theorem dL_lay_84 : decode cL_lay 84 = .ok (.invokestatic 223, 3) := by decide +kernel
theorem dL_lay_87 : decode cL_lay 87 = .ok (.ifCond .ne 9, 3) := by decide +kernel
theorem dL_lay_90 : decode cL_lay 90 = .ok (.sipush 200, 3) := by decide +kernel
theorem dL_lay_93 : decode cL_lay 93 = .ok (.goto 5, 3) := by decide +kernel
theorem dL_lay_96 : decode cL_lay 96 = .ok (.bipush 20, 2) := by decide +kernel
theorem dL_lay_98 : decode cL_lay 98 = .ok (.invokestatic 223, 3) := by decide +kernel
theorem dL_lay_101 : decode cL_lay 101 = .ok (.iadd, 1) := by decide +kernel
theorem dL_lay_102 : decode cL_lay 102 = .ok (.aload_n 1, 1) := by decide +kernel
theorem dL_lay_103 : decode cL_lay 103 = .ok (.bipush 40, 2) := by decide +kernel
theorem dL_lay_105 : decode cL_lay 105 = .ok (.iload_n 3, 1) := by decide +kernel
theorem dL_lay_106 : decode cL_lay 106 = .ok (.iadd, 1) := by decide +kernel
theorem dL_lay_107 : decode cL_lay 107 = .ok (.iconst 2, 1) := by decide +kernel
theorem dL_lay_108 : decode cL_lay 108 = .ok (.invokestatic 223, 3) := by decide +kernel
theorem dL_lay_111 : decode cL_lay 111 = .ok (.invokestatic 220, 3) := by decide +kernel
theorem dL_lay_114 : decode cL_lay 114 = .ok (.iadd, 1) := by decide +kernel
theorem dL_lay_115 : decode cL_lay 115 = .ok (.istore_n 2, 1) := by decide +kernel
theorem dL_lay_116 : decode cL_lay 116 = .ok (.iinc 3 1, 3) := by decide +kernel
theorem dL_lay_119 : decode cL_lay 119 = .ok (.goto (-70), 3) := by decide +kernel
theorem dL_lay_122 : decode cL_lay 122 = .ok (.iload_n 2, 1) := by decide +kernel
theorem dL_lay_123 : decode cL_lay 123 = .ok (.aload_n 0, 1) := by decide +kernel
theorem dL_lay_124 : decode cL_lay 124 = .ok (.iconst 4, 1) := by decide +kernel
theorem dL_lay_125 : decode cL_lay 125 = .ok (.aload_n 1, 1) := by decide +kernel
theorem dL_lay_126 : decode cL_lay 126 = .ok (.iconst 2, 1) := by decide +kernel
theorem dL_lay_127 : decode cL_lay 127 = .ok (.iconst 4, 1) := by decide +kernel
theorem dL_lay_128 : decode cL_lay 128 = .ok (.invokestatic 223, 3) := by decide +kernel
theorem dL_lay_131 : decode cL_lay 131 = .ok (.invokestatic 227, 3) := by decide +kernel
theorem dL_lay_134 : decode cL_lay 134 = .ok (.aload_n 1, 1) := by decide +kernel
theorem dL_lay_135 : decode cL_lay 135 = .ok (.iconst 3, 1) := by decide +kernel
theorem dL_lay_136 : decode cL_lay 136 = .ok (.bipush 31, 2) := by decide +kernel
theorem dL_lay_138 : decode cL_lay 138 = .ok (.invokestatic 223, 3) := by decide +kernel
theorem dL_lay_141 : decode cL_lay 141 = .ok (.iconst 0, 1) := by decide +kernel
theorem dL_lay_142 : decode cL_lay 142 = .ok (.invokestatic 220, 3) := by decide +kernel
theorem dL_lay_145 : decode cL_lay 145 = .ok (.iadd, 1) := by decide +kernel
theorem dL_lay_146 : decode cL_lay 146 = .ok (.istore_n 2, 1) := by decide +kernel
theorem dL_lay_147 : decode cL_lay 147 = .ok (.iconst 0, 1) := by decide +kernel
theorem dL_lay_148 : decode cL_lay 148 = .ok (.istore_n 3, 1) := by decide +kernel
theorem dL_lay_149 : decode cL_lay 149 = .ok (.iload_n 3, 1) := by decide +kernel
theorem dL_lay_150 : decode cL_lay 150 = .ok (.aload_n 1, 1) := by decide +kernel
theorem dL_lay_151 : decode cL_lay 151 = .ok (.iconst 4, 1) := by decide +kernel
theorem dL_lay_152 : decode cL_lay 152 = .ok (.bipush 9, 2) := by decide +kernel
theorem dL_lay_154 : decode cL_lay 154 = .ok (.invokestatic 223, 3) := by decide +kernel
theorem dL_lay_157 : decode cL_lay 157 = .ok (.if_icmp .ge 29, 3) := by decide +kernel
theorem dL_lay_160 : decode cL_lay 160 = .ok (.iload_n 2, 1) := by decide +kernel
theorem dL_lay_161 : decode cL_lay 161 = .ok (.aload_n 0, 1) := by decide +kernel
theorem dL_lay_162 : decode cL_lay 162 = .ok (.iconst 1, 1) := by decide +kernel
theorem dL_lay_163 : decode cL_lay 163 = .ok (.aload_n 1, 1) := by decide +kernel
theorem dL_lay_164 : decode cL_lay 164 = .ok (.bipush 50, 2) := by decide +kernel
theorem dL_lay_166 : decode cL_lay 166 = .ok (.iload_n 3, 1) := by decide +kernel
theorem dL_lay_167 : decode cL_lay 167 = .ok (.iadd, 1) := by decide +kernel
theorem dL_lay_168 : decode cL_lay 168 = .ok (.bipush 60, 2) := by decide +kernel
theorem dL_lay_170 : decode cL_lay 170 = .ok (.invokestatic 223, 3) := by decide +kernel
theorem dL_lay_173 : decode cL_lay 173 = .ok (.iconst 0, 1) := by decide +kernel
theorem dL_lay_174 : decode cL_lay 174 = .ok (.iconst 0, 1) := by decide +kernel
theorem dL_lay_175 : decode cL_lay 175 = .ok (.invokestatic 220, 3) := by decide +kernel
theorem dL_lay_178 : decode cL_lay 178 = .ok (.iadd, 1) := by decide +kernel
theorem dL_lay_179 : decode cL_lay 179 = .ok (.istore_n 2, 1) := by decide +kernel
theorem dL_lay_180 : decode cL_lay 180 = .ok (.iinc 3 1, 3) := by decide +kernel
theorem dL_lay_183 : decode cL_lay 183 = .ok (.goto (-34), 3) := by decide +kernel
theorem dL_lay_186 : decode cL_lay 186 = .ok (.iconst 0, 1) := by decide +kernel
theorem dL_lay_187 : decode cL_lay 187 = .ok (.istore_n 3, 1) := by decide +kernel
theorem dL_lay_188 : decode cL_lay 188 = .ok (.iload_n 3, 1) := by decide +kernel
theorem dL_lay_189 : decode cL_lay 189 = .ok (.aload_n 1, 1) := by decide +kernel
theorem dL_lay_190 : decode cL_lay 190 = .ok (.iconst 5, 1) := by decide +kernel
theorem dL_lay_191 : decode cL_lay 191 = .ok (.bipush 6, 2) := by decide +kernel
theorem dL_lay_193 : decode cL_lay 193 = .ok (.invokestatic 223, 3) := by decide +kernel
theorem dL_lay_196 : decode cL_lay 196 = .ok (.if_icmp .ge 48, 3) := by decide +kernel
theorem dL_lay_199 : decode cL_lay 199 = .ok (.iload_n 2, 1) := by decide +kernel
theorem dL_lay_200 : decode cL_lay 200 = .ok (.aload_n 0, 1) := by decide +kernel
theorem dL_lay_201 : decode cL_lay 201 = .ok (.iconst 5, 1) := by decide +kernel
theorem dL_lay_202 : decode cL_lay 202 = .ok (.aload_n 1, 1) := by decide +kernel
theorem dL_lay_203 : decode cL_lay 203 = .ok (.bipush 60, 2) := by decide +kernel
theorem dL_lay_205 : decode cL_lay 205 = .ok (.iload_n 3, 1) := by decide +kernel
theorem dL_lay_206 : decode cL_lay 206 = .ok (.iadd, 1) := by decide +kernel
theorem dL_lay_207 : decode cL_lay 207 = .ok (.iconst 2, 1) := by decide +kernel
theorem dL_lay_208 : decode cL_lay 208 = .ok (.invokestatic 223, 3) := by decide +kernel
theorem dL_lay_211 : decode cL_lay 211 = .ok (.aload_n 1, 1) := by decide +kernel
theorem dL_lay_212 : decode cL_lay 212 = .ok (.bipush 70, 2) := by decide +kernel
theorem dL_lay_214 : decode cL_lay 214 = .ok (.iload_n 3, 1) := by decide +kernel
theorem dL_lay_215 : decode cL_lay 215 = .ok (.iadd, 1) := by decide +kernel
theorem dL_lay_216 : decode cL_lay 216 = .ok (.bipush 8, 2) := by decide +kernel
theorem dL_lay_218 : decode cL_lay 218 = .ok (.invokestatic 223, 3) := by decide +kernel
theorem dL_lay_221 : decode cL_lay 221 = .ok (.aload_n 1, 1) := by decide +kernel
theorem dL_lay_222 : decode cL_lay 222 = .ok (.bipush 80, 2) := by decide +kernel
theorem dL_lay_224 : decode cL_lay 224 = .ok (.iload_n 3, 1) := by decide +kernel
theorem dL_lay_225 : decode cL_lay 225 = .ok (.iadd, 1) := by decide +kernel
theorem dL_lay_226 : decode cL_lay 226 = .ok (.iconst 4, 1) := by decide +kernel
theorem dL_lay_227 : decode cL_lay 227 = .ok (.invokestatic 223, 3) := by decide +kernel
theorem dL_lay_230 : decode cL_lay 230 = .ok (.invokestatic 227, 3) := by decide +kernel
theorem dL_lay_233 : decode cL_lay 233 = .ok (.invokestatic 220, 3) := by decide +kernel
theorem dL_lay_236 : decode cL_lay 236 = .ok (.iadd, 1) := by decide +kernel
theorem dL_lay_237 : decode cL_lay 237 = .ok (.istore_n 2, 1) := by decide +kernel
theorem dL_lay_238 : decode cL_lay 238 = .ok (.iinc 3 1, 3) := by decide +kernel
theorem dL_lay_241 : decode cL_lay 241 = .ok (.goto (-53), 3) := by decide +kernel
theorem dL_lay_244 : decode cL_lay 244 = .ok (.return_, 1) := by decide +kernel
theorem dL_any_0 : decode cL_any 0 = .ok (.aload_n 0, 1) := by decide +kernel
theorem dL_any_1 : decode cL_any 1 = .ok (.invokevirtual 230, 3) := by decide +kernel
theorem dL_any_4 : decode cL_any 4 = .ok (.iconst 1, 1) := by decide +kernel
theorem dL_any_5 : decode cL_any 5 = .ok (.iadd, 1) := by decide +kernel
theorem dL_any_6 : decode cL_any 6 = .ok (.istore_n 3, 1) := by decide +kernel
theorem dL_any_7 : decode cL_any 7 = .ok (.aload_n 1, 1) := by decide +kernel
theorem dL_any_8 : decode cL_any 8 = .ok (.iload_n 2, 1) := by decide +kernel
theorem dL_any_9 : decode cL_any 9 = .ok (.bipush 22, 2) := by decide +kernel
theorem dL_any_11 : decode cL_any 11 = .ok (.invokestatic 223, 3) := by decide +kernel
theorem dL_any_14 : decode cL_any 14 = .ok (.tableswitch 423 0 20 #[98, 98, 98, 98, 132, 132, 132, 168, 195, 222, 239, 256, 256, 284, 305, 305, 305, 323, 345, 375, 399], 98) := by decide +kernel
theorem dL_any_112 : decode cL_any 112 = .ok (.aload_n 0, 1) := by decide +kernel
theorem dL_any_113 : decode cL_any 113 = .ok (.iconst 5, 1) := by decide +kernel
theorem dL_any_114 : decode cL_any 114 = .ok (.aload_n 1, 1) := by decide +kernel
theorem dL_any_115 : decode cL_any 115 = .ok (.iload_n 2, 1) := by decide +kernel
theorem dL_any_116 : decode cL_any 116 = .ok (.iconst 1, 1) := by decide +kernel
theorem dL_any_117 : decode cL_any 117 = .ok (.iadd, 1) := by decide +kernel
theorem dL_any_118 : decode cL_any 118 = .ok (.iconst 3, 1) := by decide +kernel
theorem dL_any_119 : decode cL_any 119 = .ok (.invokestatic 223, 3) := by decide +kernel
theorem dL_any_122 : decode cL_any 122 = .ok (.aload_n 1, 1) := by decide +kernel
theorem dL_any_123 : decode cL_any 123 = .ok (.iload_n 2, 1) := by decide +kernel
theorem dL_any_124 : decode cL_any 124 = .ok (.iconst 2, 1) := by decide +kernel
theorem dL_any_125 : decode cL_any 125 = .ok (.iadd, 1) := by decide +kernel
theorem dL_any_126 : decode cL_any 126 = .ok (.bipush 8, 2) := by decide +kernel
theorem dL_any_128 : decode cL_any 128 = .ok (.invokestatic 223, 3) := by decide +kernel
theorem dL_any_131 : decode cL_any 131 = .ok (.aload_n 1, 1) := by decide +kernel
theorem dL_any_132 : decode cL_any 132 = .ok (.iload_n 2, 1) := by decide +kernel
theorem dL_any_133 : decode cL_any 133 = .ok (.iconst 3, 1) := by decide +kernel
theorem dL_any_134 : decode cL_any 134 = .ok (.iadd, 1) := by decide +kernel
theorem dL_any_135 : decode cL_any 135 = .ok (.iconst 4, 1) := by decide +kernel
theorem dL_any_136 : decode cL_any 136 = .ok (.invokestatic 223, 3) := by decide +kernel
theorem dL_any_139 : decode cL_any 139 = .ok (.invokestatic 227, 3) := by decide +kernel
theorem dL_any_142 : decode cL_any 142 = .ok (.invokestatic 220, 3) := by decide +kernel
theorem dL_any_145 : decode cL_any 145 = .ok (.ireturn, 1) := by decide +kernel
theorem dL_any_146 : decode cL_any 146 = .ok (.aload_n 0, 1) := by decide +kernel
theorem dL_any_147 : decode cL_any 147 = .ok (.iconst 0, 1) := by decide +kernel
theorem dL_any_148 : decode cL_any 148 = .ok (.iconst 1, 1) := by decide +kernel
theorem dL_any_149 : decode cL_any 149 = .ok (.aload_n 1, 1) := by decide +kernel
theorem dL_any_150 : decode cL_any 150 = .ok (.iload_n 2, 1) := by decide +kernel
theorem dL_any_151 : decode cL_any 151 = .ok (.iconst 1, 1) := by decide +kernel
theorem dL_any_152 : decode cL_any 152 = .ok (.iadd, 1) := by decide +kernel
theorem dL_any_153 : decode cL_any 153 = .ok (.aload_n 1, 1) := by decide +kernel
theorem dL_any_154 : decode cL_any 154 = .ok (.iload_n 2, 1) := by decide +kernel
theorem dL_any_155 : decode cL_any 155 = .ok (.iconst 2, 1) := by decide +kernel
theorem dL_any_156 : decode cL_any 156 = .ok (.iadd, 1) := by decide +kernel
theorem dL_any_157 : decode cL_any 157 = .ok (.iconst 4, 1) := by decide +kernel
theorem dL_any_158 : decode cL_any 158 = .ok (.invokestatic 223, 3) := by decide +kernel
theorem dL_any_161 : decode cL_any 161 = .ok (.ifCond .ne 9, 3) := by decide +kernel
theorem dL_any_164 : decode cL_any 164 = .ok (.sipush 200, 3) := by decide +kernel
theorem dL_any_167 : decode cL_any 167 = .ok (.goto 5, 3) := by decide +kernel
theorem dL_any_170 : decode cL_any 170 = .ok (.bipush 12, 2) := by decide +kernel
theorem dL_any_172 : decode cL_any 172 = .ok (.invokestatic 223, 3) := by decide +kernel
theorem dL_any_175 : decode cL_any 175 = .ok (.iadd, 1) := by decide +kernel
theorem dL_any_176 : decode cL_any 176 = .ok (.iconst 0, 1) := by decide +kernel
theorem dL_any_177 : decode cL_any 177 = .ok (.iconst 0, 1) := by decide +kernel
theorem dL_any_178 : decode cL_any 178 = .ok (.invokestatic 220, 3) := by decide +kernel
theorem dL_any_181 : decode cL_any 181 = .ok (.ireturn, 1) := by decide +kernel
theorem dL_any_182 : decode cL_any 182 = .ok (.aload_n 0, 1) := by decide +kernel
theorem dL_any_183 : decode cL_any 183 = .ok (.bipush 6, 2) := by decide +kernel
theorem dL_any_185 : decode cL_any 185 = .ok (.aload_n 1, 1) := by decide +kernel
theorem dL_any_186 : decode cL_any 186 = .ok (.iload_n 2, 1) := by decide +kernel
theorem dL_any_187 : decode cL_any 187 = .ok (.iconst 1, 1) := by decide +kernel
theorem dL_any_188 : decode cL_any 188 = .ok (.iadd, 1) := by decide +kernel
theorem dL_any_189 : decode cL_any 189 = .ok (.iload_n 3, 1) := by decide +kernel
theorem dL_any_190 : decode cL_any 190 = .ok (.invokestatic 223, 3) := by decide +kernel
theorem dL_any_193 : decode cL_any 193 = .ok (.iconst 1, 1) := by decide +kernel
theorem dL_any_194 : decode cL_any 194 = .ok (.aload_n 1, 1) := by decide +kernel
theorem dL_any_195 : decode cL_any 195 = .ok (.iload_n 2, 1) := by decide +kernel
theorem dL_any_196 : decode cL_any 196 = .ok (.iconst 2, 1) := by decide +kernel
theorem dL_any_197 : decode cL_any 197 = .ok (.iadd, 1) := by decide +kernel
theorem dL_any_198 : decode cL_any 198 = .ok (.bipush 28, 2) := by decide +kernel
theorem dL_any_200 : decode cL_any 200 = .ok (.invokestatic 223, 3) := by decide +kernel
theorem dL_any_203 : decode cL_any 203 = .ok (.iadd, 1) := by decide +kernel
theorem dL_any_204 : decode cL_any 204 = .ok (.iconst 0, 1) := by decide +kernel
theorem dL_any_205 : decode cL_any 205 = .ok (.invokestatic 220, 3) := by decide +kernel
theorem dL_any_208 : decode cL_any 208 = .ok (.ireturn, 1) := by decide +kernel
theorem dL_any_209 : decode cL_any 209 = .ok (.aload_n 0, 1) := by decide +kernel
theorem dL_any_210 : decode cL_any 210 = .ok (.bipush 7, 2) := by decide +kernel
theorem dL_any_212 : decode cL_any 212 = .ok (.aload_n 1, 1) := by decide +kernel
theorem dL_any_213 : decode cL_any 213 = .ok (.iload_n 2, 1) := by decide +kernel
theorem dL_any_214 : decode cL_any 214 = .ok (.iconst 1, 1) := by decide +kernel
theorem dL_any_215 : decode cL_any 215 = .ok (.iadd, 1) := by decide +kernel
theorem dL_any_216 : decode cL_any 216 = .ok (.iload_n 3, 1) := by decide +kernel
theorem dL_any_217 : decode cL_any 217 = .ok (.invokestatic 223, 3) := by decide +kernel
theorem dL_any_220 : decode cL_any 220 = .ok (.iconst 1, 1) := by decide +kernel
theorem dL_any_221 : decode cL_any 221 = .ok (.aload_n 1, 1) := by decide +kernel
theorem dL_any_222 : decode cL_any 222 = .ok (.iload_n 2, 1) := by decide +kernel
theorem dL_any_223 : decode cL_any 223 = .ok (.iconst 2, 1) := by decide +kernel
theorem dL_any_224 : decode cL_any 224 = .ok (.iadd, 1) := by decide +kernel
theorem dL_any_225 : decode cL_any 225 = .ok (.bipush 100, 2) := by decide +kernel
theorem dL_any_227 : decode cL_any 227 = .ok (.invokestatic 223, 3) := by decide +kernel
theorem dL_any_230 : decode cL_any 230 = .ok (.iadd, 1) := by decide +kernel
theorem dL_any_231 : decode cL_any 231 = .ok (.iconst 0, 1) := by decide +kernel
theorem dL_any_232 : decode cL_any 232 = .ok (.invokestatic 220, 3) := by decide +kernel
theorem dL_any_235 : decode cL_any 235 = .ok (.ireturn, 1) := by decide +kernel
theorem dL_any_236 : decode cL_any 236 = .ok (.aload_n 0, 1) := by decide +kernel
theorem dL_any_237 : decode cL_any 237 = .ok (.bipush 8, 2) := by decide +kernel
theorem dL_any_239 : decode cL_any 239 = .ok (.aload_n 1, 1) := by decide +kernel
theorem dL_any_240 : decode cL_any 240 = .ok (.iload_n 2, 1) := by decide +kernel
theorem dL_any_241 : decode cL_any 241 = .ok (.iconst 1, 1) := by decide +kernel
theorem dL_any_242 : decode cL_any 242 = .ok (.iadd, 1) := by decide +kernel
theorem dL_any_243 : decode cL_any 243 = .ok (.iload_n 3, 1) := by decide +kernel
theorem dL_any_244 : decode cL_any 244 = .ok (.invokestatic 223, 3) := by decide +kernel
theorem dL_any_247 : decode cL_any 247 = .ok (.iconst 0, 1) := by decide +kernel
theorem dL_any_248 : decode cL_any 248 = .ok (.iconst 0, 1) := by decide +kernel
theorem dL_any_249 : decode cL_any 249 = .ok (.invokestatic 220, 3) := by decide +kernel
theorem dL_any_252 : decode cL_any 252 = .ok (.ireturn, 1) := by decide +kernel
theorem dL_any_253 : decode cL_any 253 = .ok (.aload_n 0, 1) := by decide +kernel
theorem dL_any_254 : decode cL_any 254 = .ok (.bipush 9, 2) := by decide +kernel
theorem dL_any_256 : decode cL_any 256 = .ok (.aload_n 1, 1) := by decide +kernel
theorem dL_any_257 : decode cL_any 257 = .ok (.iload_n 2, 1) := by decide +kernel
theorem dL_any_258 : decode cL_any 258 = .ok (.iconst 1, 1) := by decide +kernel
theorem dL_any_259 : decode cL_any 259 = .ok (.iadd, 1) := by decide +kernel
theorem dL_any_260 : decode cL_any 260 = .ok (.iload_n 3, 1) := by decide +kernel
theorem dL_any_261 : decode cL_any 261 = .ok (.invokestatic 223, 3) := by decide +kernel
theorem dL_any_264 : decode cL_any 264 = .ok (.iconst 0, 1) := by decide +kernel
theorem dL_any_265 : decode cL_any 265 = .ok (.iconst 0, 1) := by decide +kernel
theorem dL_any_266 : decode cL_any 266 = .ok (.invokestatic 220, 3) := by decide +kernel
theorem dL_any_269 : decode cL_any 269 = .ok (.ireturn, 1) := by decide +kernel
theorem dL_any_270 : decode cL_any 270 = .ok (.aload_n 0, 1) := by decide +kernel
theorem dL_any_271 : decode cL_any 271 = .ok (.bipush 10, 2) := by decide +kernel
theorem dL_any_273 : decode cL_any 273 = .ok (.aload_n 1, 1) := by decide +kernel
theorem dL_any_274 : decode cL_any 274 = .ok (.iload_n 2, 1) := by decide +kernel
theorem dL_any_275 : decode cL_any 275 = .ok (.iconst 1, 1) := by decide +kernel
theorem dL_any_276 : decode cL_any 276 = .ok (.iadd, 1) := by decide +kernel
theorem dL_any_277 : decode cL_any 277 = .ok (.iconst 3, 1) := by decide +kernel
theorem dL_any_278 : decode cL_any 278 = .ok (.invokestatic 223, 3) := by decide +kernel
theorem dL_any_281 : decode cL_any 281 = .ok (.iconst 1, 1) := by decide +kernel
theorem dL_any_282 : decode cL_any 282 = .ok (.aload_n 1, 1) := by decide +kernel
theorem dL_any_283 : decode cL_any 283 = .ok (.iload_n 2, 1) := by decide +kernel
theorem dL_any_284 : decode cL_any 284 = .ok (.iconst 2, 1) := by decide +kernel
theorem dL_any_285 : decode cL_any 285 = .ok (.iadd, 1) := by decide +kernel
theorem dL_any_286 : decode cL_any 286 = .ok (.sipush 255, 3) := by decide +kernel
theorem dL_any_289 : decode cL_any 289 = .ok (.invokestatic 223, 3) := by decide +kernel
theorem dL_any_292 : decode cL_any 292 = .ok (.iadd, 1) := by decide +kernel
theorem dL_any_293 : decode cL_any 293 = .ok (.iconst 0, 1) := by decide +kernel
theorem dL_any_294 : decode cL_any 294 = .ok (.invokestatic 220, 3) := by decide +kernel
theorem dL_any_297 : decode cL_any 297 = .ok (.ireturn, 1) := by decide +kernel
theorem dL_any_298 : decode cL_any 298 = .ok (.aload_n 0, 1) := by decide +kernel
theorem dL_any_299 : decode cL_any 299 = .ok (.bipush 11, 2) := by decide +kernel
theorem dL_any_301 : decode cL_any 301 = .ok (.iconst 1, 1) := by decide +kernel
theorem dL_any_302 : decode cL_any 302 = .ok (.aload_n 1, 1) := by decide +kernel
theorem dL_any_303 : decode cL_any 303 = .ok (.iload_n 2, 1) := by decide +kernel
theorem dL_any_304 : decode cL_any 304 = .ok (.iconst 1, 1) := by decide +kernel
theorem dL_any_305 : decode cL_any 305 = .ok (.iadd, 1) := by decide +kernel
theorem dL_any_306 : decode cL_any 306 = .ok (.sipush 255, 3) := by decide +kernel
theorem dL_any_309 : decode cL_any 309 = .ok (.invokestatic 223, 3) := by decide +kernel
theorem dL_any_312 : decode cL_any 312 = .ok (.iadd, 1) := by decide +kernel
theorem dL_any_313 : decode cL_any 313 = .ok (.iconst 0, 1) := by decide +kernel
theorem dL_any_314 : decode cL_any 314 = .ok (.iconst 0, 1) := by decide +kernel
theorem dL_any_315 : decode cL_any 315 = .ok (.invokestatic 220, 3) := by decide +kernel
theorem dL_any_318 : decode cL_any 318 = .ok (.ireturn, 1) := by decide +kernel
theorem dL_any_319 : decode cL_any 319 = .ok (.aload_n 0, 1) := by decide +kernel
theorem dL_any_320 : decode cL_any 320 = .ok (.bipush 12, 2) := by decide +kernel
theorem dL_any_322 : decode cL_any 322 = .ok (.aload_n 1, 1) := by decide +kernel
theorem dL_any_323 : decode cL_any 323 = .ok (.iload_n 2, 1) := by decide +kernel
theorem dL_any_324 : decode cL_any 324 = .ok (.iconst 1, 1) := by decide +kernel
theorem dL_any_325 : decode cL_any 325 = .ok (.iadd, 1) := by decide +kernel
theorem dL_any_326 : decode cL_any 326 = .ok (.bipush 6, 2) := by decide +kernel
theorem dL_any_328 : decode cL_any 328 = .ok (.invokestatic 223, 3) := by decide +kernel
theorem dL_any_331 : decode cL_any 331 = .ok (.iconst 0, 1) := by decide +kernel
theorem dL_any_332 : decode cL_any 332 = .ok (.iconst 0, 1) := by decide +kernel
theorem dL_any_333 : decode cL_any 333 = .ok (.invokestatic 220, 3) := by decide +kernel
theorem dL_any_336 : decode cL_any 336 = .ok (.ireturn, 1) := by decide +kernel
theorem dL_any_337 : decode cL_any 337 = .ok (.aload_n 0, 1) := by decide +kernel
theorem dL_any_338 : decode cL_any 338 = .ok (.iconst 1, 1) := by decide +kernel
theorem dL_any_339 : decode cL_any 339 = .ok (.aload_n 0, 1) := by decide +kernel
theorem dL_any_340 : decode cL_any 340 = .ok (.invokevirtual 233, 3) := by decide +kernel
theorem dL_any_343 : decode cL_any 343 = .ok (.aload_n 1, 1) := by decide +kernel
theorem dL_any_344 : decode cL_any 344 = .ok (.iload_n 2, 1) := by decide +kernel
theorem dL_any_345 : decode cL_any 345 = .ok (.iconst 1, 1) := by decide +kernel
theorem dL_any_346 : decode cL_any 346 = .ok (.iadd, 1) := by decide +kernel
theorem dL_any_347 : decode cL_any 347 = .ok (.bipush 40, 2) := by decide +kernel
theorem dL_any_349 : decode cL_any 349 = .ok (.invokestatic 223, 3) := by decide +kernel
theorem dL_any_352 : decode cL_any 352 = .ok (.iadd, 1) := by decide +kernel
theorem dL_any_353 : decode cL_any 353 = .ok (.iconst 0, 1) := by decide +kernel
theorem dL_any_354 : decode cL_any 354 = .ok (.iconst 0, 1) := by decide +kernel
theorem dL_any_355 : decode cL_any 355 = .ok (.invokestatic 220, 3) := by decide +kernel
theorem dL_any_358 : decode cL_any 358 = .ok (.ireturn, 1) := by decide +kernel
theorem dL_any_359 : decode cL_any 359 = .ok (.aload_n 0, 1) := by decide +kernel
theorem dL_any_360 : decode cL_any 360 = .ok (.bipush 13, 2) := by decide +kernel
theorem dL_any_362 : decode cL_any 362 = .ok (.aload_n 1, 1) := by decide +kernel
theorem dL_any_363 : decode cL_any 363 = .ok (.iload_n 2, 1) := by decide +kernel
theorem dL_any_364 : decode cL_any 364 = .ok (.iconst 1, 1) := by decide +kernel
theorem dL_any_365 : decode cL_any 365 = .ok (.iadd, 1) := by decide +kernel
theorem dL_any_366 : decode cL_any 366 = .ok (.iconst 1, 1) := by decide +kernel
theorem dL_any_367 : decode cL_any 367 = .ok (.aload_n 0, 1) := by decide +kernel
theorem dL_any_368 : decode cL_any 368 = .ok (.invokevirtual 233, 3) := by decide +kernel
theorem dL_any_371 : decode cL_any 371 = .ok (.iadd, 1) := by decide +kernel
theorem dL_any_372 : decode cL_any 372 = .ok (.invokestatic 223, 3) := by decide +kernel
theorem dL_any_375 : decode cL_any 375 = .ok (.aload_n 1, 1) := by decide +kernel
theorem dL_any_376 : decode cL_any 376 = .ok (.iload_n 2, 1) := by decide +kernel
theorem dL_any_377 : decode cL_any 377 = .ok (.iconst 2, 1) := by decide +kernel
theorem dL_any_378 : decode cL_any 378 = .ok (.iadd, 1) := by decide +kernel
theorem dL_any_379 : decode cL_any 379 = .ok (.bipush 8, 2) := by decide +kernel
theorem dL_any_381 : decode cL_any 381 = .ok (.invokestatic 223, 3) := by decide +kernel
theorem dL_any_384 : decode cL_any 384 = .ok (.iconst 0, 1) := by decide +kernel
theorem dL_any_385 : decode cL_any 385 = .ok (.invokestatic 220, 3) := by decide +kernel
theorem dL_any_388 : decode cL_any 388 = .ok (.ireturn, 1) := by decide +kernel
theorem dL_any_389 : decode cL_any 389 = .ok (.aload_n 0, 1) := by decide +kernel
theorem dL_any_390 : decode cL_any 390 = .ok (.bipush 14, 2) := by decide +kernel
theorem dL_any_392 : decode cL_any 392 = .ok (.aload_n 1, 1) := by decide +kernel
theorem dL_any_393 : decode cL_any 393 = .ok (.iload_n 2, 1) := by decide +kernel
theorem dL_any_394 : decode cL_any 394 = .ok (.iconst 1, 1) := by decide +kernel
theorem dL_any_395 : decode cL_any 395 = .ok (.iadd, 1) := by decide +kernel
theorem dL_any_396 : decode cL_any 396 = .ok (.iconst 5, 1) := by decide +kernel
theorem dL_any_397 : decode cL_any 397 = .ok (.invokestatic 223, 3) := by decide +kernel
theorem dL_any_400 : decode cL_any 400 = .ok (.aload_n 1, 1) := by decide +kernel
theorem dL_any_401 : decode cL_any 401 = .ok (.iload_n 2, 1) := by decide +kernel
theorem dL_any_402 : decode cL_any 402 = .ok (.iconst 2, 1) := by decide +kernel
theorem dL_any_403 : decode cL_any 403 = .ok (.iadd, 1) := by decide +kernel
theorem dL_any_404 : decode cL_any 404 = .ok (.iconst 5, 1) := by decide +kernel
theorem dL_any_405 : decode cL_any 405 = .ok (.invokestatic 223, 3) := by decide +kernel
theorem dL_any_408 : decode cL_any 408 = .ok (.iconst 0, 1) := by decide +kernel
theorem dL_any_409 : decode cL_any 409 = .ok (.invokestatic 220, 3) := by decide +kernel
theorem dL_any_412 : decode cL_any 412 = .ok (.ireturn, 1) := by decide +kernel
theorem dL_any_413 : decode cL_any 413 = .ok (.aload_n 0, 1) := by decide +kernel
theorem dL_any_414 : decode cL_any 414 = .ok (.bipush 15, 2) := by decide +kernel
theorem dL_any_416 : decode cL_any 416 = .ok (.aload_n 1, 1) := by decide +kernel
theorem dL_any_417 : decode cL_any 417 = .ok (.iload_n 2, 1) := by decide +kernel
theorem dL_any_418 : decode cL_any 418 = .ok (.iconst 1, 1) := by decide +kernel
theorem dL_any_419 : decode cL_any 419 = .ok (.iadd, 1) := by decide +kernel
theorem dL_any_420 : decode cL_any 420 = .ok (.iconst 3, 1) := by decide +kernel
theorem dL_any_421 : decode cL_any 421 = .ok (.invokestatic 223, 3) := by decide +kernel
theorem dL_any_424 : decode cL_any 424 = .ok (.aload_n 1, 1) := by decide +kernel
theorem dL_any_425 : decode cL_any 425 = .ok (.iload_n 2, 1) := by decide +kernel
theorem dL_any_426 : decode cL_any 426 = .ok (.iconst 2, 1) := by decide +kernel
theorem dL_any_427 : decode cL_any 427 = .ok (.iadd, 1) := by decide +kernel
theorem dL_any_428 : decode cL_any 428 = .ok (.iconst 5, 1) := by decide +kernel
theorem dL_any_429 : decode cL_any 429 = .ok (.invokestatic 223, 3) := by decide +kernel
theorem dL_any_432 : decode cL_any 432 = .ok (.iconst 0, 1) := by decide +kernel
theorem dL_any_433 : decode cL_any 433 = .ok (.invokestatic 220, 3) := by decide +kernel
theorem dL_any_436 : decode cL_any 436 = .ok (.ireturn, 1) := by decide +kernel
theorem dL_any_437 : decode cL_any 437 = .ok (.aload_n 0, 1) := by decide +kernel
theorem dL_any_438 : decode cL_any 438 = .ok (.bipush 16, 2) := by decide +kernel
theorem dL_any_440 : decode cL_any 440 = .ok (.aload_n 1, 1) := by decide +kernel
theorem dL_any_441 : decode cL_any 441 = .ok (.iload_n 2, 1) := by decide +kernel
theorem dL_any_442 : decode cL_any 442 = .ok (.iconst 1, 1) := by decide +kernel
theorem dL_any_443 : decode cL_any 443 = .ok (.iadd, 1) := by decide +kernel
theorem dL_any_444 : decode cL_any 444 = .ok (.iconst 5, 1) := by decide +kernel
theorem dL_any_445 : decode cL_any 445 = .ok (.invokestatic 223, 3) := by decide +kernel
theorem dL_any_448 : decode cL_any 448 = .ok (.aload_n 1, 1) := by decide +kernel
theorem dL_any_449 : decode cL_any 449 = .ok (.iload_n 2, 1) := by decide +kernel
theorem dL_any_450 : decode cL_any 450 = .ok (.iconst 2, 1) := by decide +kernel
theorem dL_any_451 : decode cL_any 451 = .ok (.iadd, 1) := by decide +kernel
theorem dL_any_452 : decode cL_any 452 = .ok (.iconst 5, 1) := by decide +kernel
theorem dL_any_453 : decode cL_any 453 = .ok (.invokestatic 223, 3) := by decide +kernel
theorem dL_any_456 : decode cL_any 456 = .ok (.iconst 0, 1) := by decide +kernel
theorem dL_any_457 : decode cL_any 457 = .ok (.invokestatic 220, 3) := by decide +kernel
theorem dL_any_460 : decode cL_any 460 = .ok (.ireturn, 1) := by decide +kernel
theorem dL_areDeadlines_0 : decode cL_areDeadlines 0 = .ok (.iconst 1, 1) := by decide +kernel
theorem dL_areDeadlines_1 : decode cL_areDeadlines 1 = .ok (.istore_n 1, 1) := by decide +kernel
theorem dL_areDeadlines_2 : decode cL_areDeadlines 2 = .ok (.iconst 0, 1) := by decide +kernel
theorem dL_areDeadlines_3 : decode cL_areDeadlines 3 = .ok (.istore_n 2, 1) := by decide +kernel
theorem dL_areDeadlines_4 : decode cL_areDeadlines 4 = .ok (.iload_n 2, 1) := by decide +kernel
theorem dL_areDeadlines_5 : decode cL_areDeadlines 5 = .ok (.aload_n 0, 1) := by decide +kernel
theorem dL_areDeadlines_6 : decode cL_areDeadlines 6 = .ok (.invokevirtual 230, 3) := by decide +kernel
theorem dL_areDeadlines_9 : decode cL_areDeadlines 9 = .ok (.if_icmp .ge 138, 3) := by decide +kernel
theorem dL_areDeadlines_12 : decode cL_areDeadlines 12 = .ok (.iload_n 1, 1) := by decide +kernel
theorem dL_areDeadlines_13 : decode cL_areDeadlines 13 = .ok (.ifCond .eq 134, 3) := by decide +kernel
theorem dL_areDeadlines_16 : decode cL_areDeadlines 16 = .ok (.aload_n 0, 1) := by decide +kernel
theorem dL_areDeadlines_17 : decode cL_areDeadlines 17 = .ok (.iconst 0, 1) := by decide +kernel
theorem dL_areDeadlines_18 : decode cL_areDeadlines 18 = .ok (.iload_n 2, 1) := by decide +kernel
theorem dL_areDeadlines_19 : decode cL_areDeadlines 19 = .ok (.iconst 0, 1) := by decide +kernel
theorem dL_areDeadlines_20 : decode cL_areDeadlines 20 = .ok (.iconst 0, 1) := by decide +kernel
theorem dL_areDeadlines_21 : decode cL_areDeadlines 21 = .ok (.invokestatic 236, 3) := by decide +kernel
theorem dL_areDeadlines_24 : decode cL_areDeadlines 24 = .ok (.istore_n 3, 1) := by decide +kernel
theorem dL_areDeadlines_25 : decode cL_areDeadlines 25 = .ok (.aload_n 0, 1) := by decide +kernel
theorem dL_areDeadlines_26 : decode cL_areDeadlines 26 = .ok (.iconst 2, 1) := by decide +kernel
theorem dL_areDeadlines_27 : decode cL_areDeadlines 27 = .ok (.iload_n 2, 1) := by decide +kernel
theorem dL_areDeadlines_28 : decode cL_areDeadlines 28 = .ok (.iconst 0, 1) := by decide +kernel
theorem dL_areDeadlines_29 : decode cL_areDeadlines 29 = .ok (.iconst 0, 1) := by decide +kernel
theorem dL_areDeadlines_30 : decode cL_areDeadlines 30 = .ok (.invokestatic 236, 3) := by decide +kernel
theorem dL_areDeadlines_33 : decode cL_areDeadlines 33 = .ok (.istore 4, 2) := by decide +kernel
theorem dL_areDeadlines_35 : decode cL_areDeadlines 35 = .ok (.iload_n 3, 1) := by decide +kernel
theorem dL_areDeadlines_36 : decode cL_areDeadlines 36 = .ok (.aload_n 0, 1) := by decide +kernel
theorem dL_areDeadlines_37 : decode cL_areDeadlines 37 = .ok (.iconst 1, 1) := by decide +kernel
theorem dL_areDeadlines_38 : decode cL_areDeadlines 38 = .ok (.iload_n 2, 1) := by decide +kernel
theorem dL_areDeadlines_39 : decode cL_areDeadlines 39 = .ok (.iconst 0, 1) := by decide +kernel
theorem dL_areDeadlines_40 : decode cL_areDeadlines 40 = .ok (.iconst 0, 1) := by decide +kernel
theorem dL_areDeadlines_41 : decode cL_areDeadlines 41 = .ok (.invokestatic 236, 3) := by decide +kernel
theorem dL_areDeadlines_44 : decode cL_areDeadlines 44 = .ok (.if_icmp .ne 43, 3) := by decide +kernel
theorem dL_areDeadlines_47 : decode cL_areDeadlines 47 = .ok (.iload 4, 2) := by decide +kernel
theorem dL_areDeadlines_49 : decode cL_areDeadlines 49 = .ok (.aload_n 0, 1) := by decide +kernel
theorem dL_areDeadlines_50 : decode cL_areDeadlines 50 = .ok (.iconst 3, 1) := by decide +kernel
theorem dL_areDeadlines_51 : decode cL_areDeadlines 51 = .ok (.iload_n 2, 1) := by decide +kernel
theorem dL_areDeadlines_52 : decode cL_areDeadlines 52 = .ok (.iconst 0, 1) := by decide +kernel
theorem dL_areDeadlines_53 : decode cL_areDeadlines 53 = .ok (.iconst 0, 1) := by decide +kernel
theorem dL_areDeadlines_54 : decode cL_areDeadlines 54 = .ok (.invokestatic 236, 3) := by decide +kernel
theorem dL_areDeadlines_57 : decode cL_areDeadlines 57 = .ok (.if_icmp .ne 30, 3) := by decide +kernel
theorem dL_areDeadlines_60 : decode cL_areDeadlines 60 = .ok (.iload 4, 2) := by decide +kernel
theorem dL_areDeadlines_62 : decode cL_areDeadlines 62 = .ok (.ifCond .lt 25, 3) := by decide +kernel
theorem dL_areDeadlines_65 : decode cL_areDeadlines 65 = .ok (.iload_n 3, 1) := by decide +kernel
theorem dL_areDeadlines_66 : decode cL_areDeadlines 66 = .ok (.sipush (-2005), 3) := by decide +kernel
theorem dL_areDeadlines_69 : decode cL_areDeadlines 69 = .ok (.if_icmp .eq 14, 3) := by decide +kernel
theorem dL_areDeadlines_72 : decode cL_areDeadlines 72 = .ok (.iload_n 3, 1) := by decide +kernel
theorem dL_areDeadlines_73 : decode cL_areDeadlines 73 = .ok (.ifCond .le 14, 3) := by decide +kernel
theorem dL_areDeadlines_76 : decode cL_areDeadlines 76 = .ok (.iload_n 3, 1) := by decide +kernel
theorem dL_areDeadlines_77 : decode cL_areDeadlines 77 = .ok (.sipush 4999, 3) := by decide +kernel
theorem dL_areDeadlines_80 : decode cL_areDeadlines 80 = .ok (.if_icmp .gt 7, 3) := by decide +kernel
theorem dL_areDeadlines_83 : decode cL_areDeadlines 83 = .ok (.iconst 1, 1) := by decide +kernel
theorem dL_areDeadlines_84 : decode cL_areDeadlines 84 = .ok (.goto 4, 3) := by decide +kernel
theorem dL_areDeadlines_87 : decode cL_areDeadlines 87 = .ok (.iconst 0, 1) := by decide +kernel
theorem dL_areDeadlines_88 : decode cL_areDeadlines 88 = .ok (.istore_n 1, 1) := by decide +kernel
theorem dL_areDeadlines_89 : decode cL_areDeadlines 89 = .ok (.iload_n 1, 1) := by decide +kernel
theorem dL_areDeadlines_90 : decode cL_areDeadlines 90 = .ok (.ifCond .eq 49, 3) := by decide +kernel
theorem dL_areDeadlines_93 : decode cL_areDeadlines 93 = .ok (.iload_n 3, 1) := by decide +kernel
theorem dL_areDeadlines_94 : decode cL_areDeadlines 94 = .ok (.ifCond .lt 41, 3) := by decide +kernel
theorem dL_areDeadlines_97 : decode cL_areDeadlines 97 = .ok (.aload_n 0, 1) := by decide +kernel
theorem dL_areDeadlines_98 : decode cL_areDeadlines 98 = .ok (.bipush 11, 2) := by decide +kernel
theorem dL_areDeadlines_100 : decode cL_areDeadlines 100 = .ok (.iload_n 3, 1) := by decide +kernel
theorem dL_areDeadlines_101 : decode cL_areDeadlines 101 = .ok (.iconst 0, 1) := by decide +kernel
theorem dL_areDeadlines_102 : decode cL_areDeadlines 102 = .ok (.iconst 0, 1) := by decide +kernel
theorem dL_areDeadlines_103 : decode cL_areDeadlines 103 = .ok (.invokestatic 236, 3) := by decide +kernel
theorem dL_areDeadlines_106 : decode cL_areDeadlines 106 = .ok (.iconst 1, 1) := by decide +kernel
theorem dL_areDeadlines_107 : decode cL_areDeadlines 107 = .ok (.if_icmp .ne 32, 3) := by decide +kernel
theorem dL_areDeadlines_110 : decode cL_areDeadlines 110 = .ok (.aload_n 0, 1) := by decide +kernel
theorem dL_areDeadlines_111 : decode cL_areDeadlines 111 = .ok (.bipush 10, 2) := by decide +kernel
theorem dL_areDeadlines_113 : decode cL_areDeadlines 113 = .ok (.iload_n 2, 1) := by decide +kernel
theorem dL_areDeadlines_114 : decode cL_areDeadlines 114 = .ok (.iload_n 3, 1) := by decide +kernel
theorem dL_areDeadlines_115 : decode cL_areDeadlines 115 = .ok (.iconst 0, 1) := by decide +kernel
theorem dL_areDeadlines_116 : decode cL_areDeadlines 116 = .ok (.invokestatic 236, 3) := by decide +kernel
theorem dL_areDeadlines_119 : decode cL_areDeadlines 119 = .ok (.ifCond .ne 20, 3) := by decide +kernel
theorem dL_areDeadlines_122 : decode cL_areDeadlines 122 = .ok (.iload_n 3, 1) := by decide +kernel
theorem dL_areDeadlines_123 : decode cL_areDeadlines 123 = .ok (.aload_n 0, 1) := by decide +kernel
theorem dL_areDeadlines_124 : decode cL_areDeadlines 124 = .ok (.invokevirtual 233, 3) := by decide +kernel
theorem dL_areDeadlines_127 : decode cL_areDeadlines 127 = .ok (.if_icmp .gt 8, 3) := by decide +kernel
theorem dL_areDeadlines_130 : decode cL_areDeadlines 130 = .ok (.iload 4, 2) := by decide +kernel
theorem dL_areDeadlines_132 : decode cL_areDeadlines 132 = .ok (.ifCond .ne 7, 3) := by decide +kernel
theorem dL_areDeadlines_135 : decode cL_areDeadlines 135 = .ok (.iconst 1, 1) := by decide +kernel
theorem dL_areDeadlines_136 : decode cL_areDeadlines 136 = .ok (.goto 4, 3) := by decide +kernel
theorem dL_areDeadlines_139 : decode cL_areDeadlines 139 = .ok (.iconst 0, 1) := by decide +kernel
theorem dL_areDeadlines_140 : decode cL_areDeadlines 140 = .ok (.istore_n 1, 1) := by decide +kernel
theorem dL_areDeadlines_141 : decode cL_areDeadlines 141 = .ok (.iinc 2 1, 3) := by decide +kernel
theorem dL_areDeadlines_144 : decode cL_areDeadlines 144 = .ok (.goto (-140), 3) := by decide +kernel
theorem dL_areDeadlines_147 : decode cL_areDeadlines 147 = .ok (.iload_n 1, 1) := by decide +kernel
theorem dL_areDeadlines_148 : decode cL_areDeadlines 148 = .ok (.ifCond .eq 38, 3) := by decide +kernel
theorem dL_areDeadlines_151 : decode cL_areDeadlines 151 = .ok (.aload_n 0, 1) := by decide +kernel
theorem dL_areDeadlines_152 : decode cL_areDeadlines 152 = .ok (.iconst 0, 1) := by decide +kernel
theorem dL_areDeadlines_153 : decode cL_areDeadlines 153 = .ok (.aload_n 0, 1) := by decide +kernel
theorem dL_areDeadlines_154 : decode cL_areDeadlines 154 = .ok (.invokevirtual 230, 3) := by decide +kernel
theorem dL_areDeadlines_157 : decode cL_areDeadlines 157 = .ok (.iconst 0, 1) := by decide +kernel
theorem dL_areDeadlines_158 : decode cL_areDeadlines 158 = .ok (.iconst 0, 1) := by decide +kernel
theorem dL_areDeadlines_159 : decode cL_areDeadlines 159 = .ok (.invokestatic 236, 3) := by decide +kernel
theorem dL_areDeadlines_162 : decode cL_areDeadlines 162 = .ok (.sipush (-2001), 3) := by decide +kernel
theorem dL_areDeadlines_165 : decode cL_areDeadlines 165 = .ok (.if_icmp .ne 21, 3) := by decide +kernel
theorem dL_areDeadlines_168 : decode cL_areDeadlines 168 = .ok (.aload_n 0, 1) := by decide +kernel
theorem dL_areDeadlines_169 : decode cL_areDeadlines 169 = .ok (.iconst 3, 1) := by decide +kernel
theorem dL_areDeadlines_170 : decode cL_areDeadlines 170 = .ok (.iconst (-1), 1) := by decide +kernel
theorem dL_areDeadlines_171 : decode cL_areDeadlines 171 = .ok (.iconst 0, 1) := by decide +kernel
theorem dL_areDeadlines_172 : decode cL_areDeadlines 172 = .ok (.iconst 0, 1) := by decide +kernel
theorem dL_areDeadlines_173 : decode cL_areDeadlines 173 = .ok (.invokestatic 236, 3) := by decide +kernel
theorem dL_areDeadlines_176 : decode cL_areDeadlines 176 = .ok (.sipush (-2001), 3) := by decide +kernel
theorem dL_areDeadlines_179 : decode cL_areDeadlines 179 = .ok (.if_icmp .ne 7, 3) := by decide +kernel
theorem dL_areDeadlines_182 : decode cL_areDeadlines 182 = .ok (.iconst 1, 1) := by decide +kernel
theorem dL_areDeadlines_183 : decode cL_areDeadlines 183 = .ok (.goto 4, 3) := by decide +kernel
theorem dL_areDeadlines_186 : decode cL_areDeadlines 186 = .ok (.iconst 0, 1) := by decide +kernel
theorem dL_areDeadlines_187 : decode cL_areDeadlines 187 = .ok (.ireturn, 1) := by decide +kernel
theorem dL_isOrdered_0 : decode cL_isOrdered 0 = .ok (.iconst (-1), 1) := by decide +kernel
theorem dL_isOrdered_1 : decode cL_isOrdered 1 = .ok (.istore_n 1, 1) := by decide +kernel
theorem dL_isOrdered_2 : decode cL_isOrdered 2 = .ok (.iconst 0, 1) := by decide +kernel
theorem dL_isOrdered_3 : decode cL_isOrdered 3 = .ok (.istore_n 2, 1) := by decide +kernel
theorem dL_isOrdered_4 : decode cL_isOrdered 4 = .ok (.iconst 0, 1) := by decide +kernel
theorem dL_isOrdered_5 : decode cL_isOrdered 5 = .ok (.istore_n 3, 1) := by decide +kernel
theorem dL_isOrdered_6 : decode cL_isOrdered 6 = .ok (.aload_n 0, 1) := by decide +kernel
theorem dL_isOrdered_7 : decode cL_isOrdered 7 = .ok (.bipush 12, 2) := by decide +kernel
theorem dL_isOrdered_9 : decode cL_isOrdered 9 = .ok (.iconst 0, 1) := by decide +kernel
theorem dL_isOrdered_10 : decode cL_isOrdered 10 = .ok (.iconst 0, 1) := by decide +kernel
theorem dL_isOrdered_11 : decode cL_isOrdered 11 = .ok (.iconst 0, 1) := by decide +kernel
theorem dL_isOrdered_12 : decode cL_isOrdered 12 = .ok (.invokestatic 236, 3) := by decide +kernel
theorem dL_isOrdered_15 : decode cL_isOrdered 15 = .ok (.istore 4, 2) := by decide +kernel
theorem dL_isOrdered_17 : decode cL_isOrdered 17 = .ok (.iconst 1, 1) := by decide +kernel
theorem dL_isOrdered_18 : decode cL_isOrdered 18 = .ok (.istore 5, 2) := by decide +kernel
theorem dL_isOrdered_20 : decode cL_isOrdered 20 = .ok (.iload 4, 2) := by decide +kernel
theorem dL_isOrdered_22 : decode cL_isOrdered 22 = .ok (.ifCond .lt 102, 3) := by decide +kernel
theorem dL_isOrdered_25 : decode cL_isOrdered 25 = .ok (.iload 5, 2) := by decide +kernel
theorem dL_isOrdered_27 : decode cL_isOrdered 27 = .ok (.ifCond .eq 97, 3) := by decide +kernel
theorem dL_isOrdered_30 : decode cL_isOrdered 30 = .ok (.aload_n 0, 1) := by decide +kernel
theorem dL_isOrdered_31 : decode cL_isOrdered 31 = .ok (.iconst 0, 1) := by decide +kernel
theorem dL_isOrdered_32 : decode cL_isOrdered 32 = .ok (.iload 4, 2) := by decide +kernel
theorem dL_isOrdered_34 : decode cL_isOrdered 34 = .ok (.iconst 0, 1) := by decide +kernel
theorem dL_isOrdered_35 : decode cL_isOrdered 35 = .ok (.iconst 0, 1) := by decide +kernel
theorem dL_isOrdered_36 : decode cL_isOrdered 36 = .ok (.invokestatic 236, 3) := by decide +kernel
theorem dL_isOrdered_39 : decode cL_isOrdered 39 = .ok (.istore 6, 2) := by decide +kernel
theorem dL_isOrdered_41 : decode cL_isOrdered 41 = .ok (.iload 6, 2) := by decide +kernel
theorem dL_isOrdered_43 : decode cL_isOrdered 43 = .ok (.sipush (-2005), 3) := by decide +kernel
theorem dL_isOrdered_46 : decode cL_isOrdered 46 = .ok (.if_icmp .ne 9, 3) := by decide +kernel
theorem dL_isOrdered_49 : decode cL_isOrdered 49 = .ok (.sipush 5000, 3) := by decide +kernel
theorem dL_isOrdered_52 : decode cL_isOrdered 52 = .ok (.goto 5, 3) := by decide +kernel
theorem dL_isOrdered_55 : decode cL_isOrdered 55 = .ok (.iload 6, 2) := by decide +kernel
theorem dL_isOrdered_57 : decode cL_isOrdered 57 = .ok (.istore 7, 2) := by decide +kernel
theorem dL_isOrdered_59 : decode cL_isOrdered 59 = .ok (.iload 7, 2) := by decide +kernel
theorem dL_isOrdered_61 : decode cL_isOrdered 61 = .ok (.iload_n 1, 1) := by decide +kernel
theorem dL_isOrdered_62 : decode cL_isOrdered 62 = .ok (.if_icmp .lt 22, 3) := by decide +kernel
theorem dL_isOrdered_65 : decode cL_isOrdered 65 = .ok (.aload_n 0, 1) := by decide +kernel
theorem dL_isOrdered_66 : decode cL_isOrdered 66 = .ok (.bipush 21, 2) := by decide +kernel
theorem dL_isOrdered_68 : decode cL_isOrdered 68 = .ok (.iload 4, 2) := by decide +kernel
theorem dL_isOrdered_70 : decode cL_isOrdered 70 = .ok (.iconst 0, 1) := by decide +kernel
theorem dL_isOrdered_71 : decode cL_isOrdered 71 = .ok (.iconst 0, 1) := by decide +kernel
theorem dL_isOrdered_72 : decode cL_isOrdered 72 = .ok (.invokestatic 236, 3) := by decide +kernel
theorem dL_isOrdered_75 : decode cL_isOrdered 75 = .ok (.bipush 111, 2) := by decide +kernel
theorem dL_isOrdered_77 : decode cL_isOrdered 77 = .ok (.if_icmp .ne 7, 3) := by decide +kernel
theorem dL_isOrdered_80 : decode cL_isOrdered 80 = .ok (.iconst 1, 1) := by decide +kernel
theorem dL_isOrdered_81 : decode cL_isOrdered 81 = .ok (.goto 4, 3) := by decide +kernel
theorem dL_isOrdered_84 : decode cL_isOrdered 84 = .ok (.iconst 0, 1) := by decide +kernel
theorem dL_isOrdered_85 : decode cL_isOrdered 85 = .ok (.istore 5, 2) := by decide +kernel
theorem dL_isOrdered_87 : decode cL_isOrdered 87 = .ok (.iload_n 2, 1) := by decide +kernel
theorem dL_isOrdered_88 : decode cL_isOrdered 88 = .ok (.iload 7, 2) := by decide +kernel
theorem dL_isOrdered_90 : decode cL_isOrdered 90 = .ok (.aload_n 0, 1) := by decide +kernel
theorem dL_isOrdered_91 : decode cL_isOrdered 91 = .ok (.invokevirtual 233, 3) := by decide +kernel
theorem dL_isOrdered_94 : decode cL_isOrdered 94 = .ok (.if_icmp .ge 7, 3) := by decide +kernel
theorem dL_isOrdered_97 : decode cL_isOrdered 97 = .ok (.iconst 1, 1) := by decide +kernel
theorem dL_isOrdered_98 : decode cL_isOrdered 98 = .ok (.goto 4, 3) := by decide +kernel
theorem dL_isOrdered_101 : decode cL_isOrdered 101 = .ok (.iconst 0, 1) := by decide +kernel
theorem dL_isOrdered_102 : decode cL_isOrdered 102 = .ok (.iadd, 1) := by decide +kernel
theorem dL_isOrdered_103 : decode cL_isOrdered 103 = .ok (.istore_n 2, 1) := by decide +kernel
theorem dL_isOrdered_104 : decode cL_isOrdered 104 = .ok (.iload 7, 2) := by decide +kernel
theorem dL_isOrdered_106 : decode cL_isOrdered 106 = .ok (.istore_n 1, 1) := by decide +kernel
theorem dL_isOrdered_107 : decode cL_isOrdered 107 = .ok (.iinc 3 1, 3) := by decide +kernel
theorem dL_isOrdered_110 : decode cL_isOrdered 110 = .ok (.aload_n 0, 1) := by decide +kernel
theorem dL_isOrdered_111 : decode cL_isOrdered 111 = .ok (.bipush 12, 2) := by decide +kernel
theorem dL_isOrdered_113 : decode cL_isOrdered 113 = .ok (.iload_n 3, 1) := by decide +kernel
theorem dL_isOrdered_114 : decode cL_isOrdered 114 = .ok (.iconst 0, 1) := by decide +kernel
theorem dL_isOrdered_115 : decode cL_isOrdered 115 = .ok (.iconst 0, 1) := by decide +kernel
theorem dL_isOrdered_116 : decode cL_isOrdered 116 = .ok (.invokestatic 236, 3) := by decide +kernel
theorem dL_isOrdered_119 : decode cL_isOrdered 119 = .ok (.istore 4, 2) := by decide +kernel
theorem dL_isOrdered_121 : decode cL_isOrdered 121 = .ok (.goto (-101), 3) := by decide +kernel
theorem dL_isOrdered_124 : decode cL_isOrdered 124 = .ok (.iload 5, 2) := by decide +kernel
theorem dL_isOrdered_126 : decode cL_isOrdered 126 = .ok (.ifCond .eq 23, 3) := by decide +kernel
theorem dL_isOrdered_129 : decode cL_isOrdered 129 = .ok (.iload 4, 2) := by decide +kernel
theorem dL_isOrdered_131 : decode cL_isOrdered 131 = .ok (.sipush (-2005), 3) := by decide +kernel
theorem dL_isOrdered_134 : decode cL_isOrdered 134 = .ok (.if_icmp .ne 15, 3) := by decide +kernel
theorem dL_isOrdered_137 : decode cL_isOrdered 137 = .ok (.iload_n 2, 1) := by decide +kernel
theorem dL_isOrdered_138 : decode cL_isOrdered 138 = .ok (.aload_n 0, 1) := by decide +kernel
theorem dL_isOrdered_139 : decode cL_isOrdered 139 = .ok (.invokevirtual 239, 3) := by decide +kernel
theorem dL_isOrdered_142 : decode cL_isOrdered 142 = .ok (.if_icmp .ne 7, 3) := by decide +kernel
theorem dL_isOrdered_145 : decode cL_isOrdered 145 = .ok (.iconst 1, 1) := by decide +kernel
theorem dL_isOrdered_146 : decode cL_isOrdered 146 = .ok (.goto 4, 3) := by decide +kernel
theorem dL_isOrdered_149 : decode cL_isOrdered 149 = .ok (.iconst 0, 1) := by decide +kernel
theorem dL_isOrdered_150 : decode cL_isOrdered 150 = .ok (.ireturn, 1) := by decide +kernel
theorem dL_areRanges_0 : decode cL_areRanges 0 = .ok (.aload_n 1, 1) := by decide +kernel
theorem dL_areRanges_1 : decode cL_areRanges 1 = .ok (.iload_n 2, 1) := by decide +kernel
theorem dL_areRanges_2 : decode cL_areRanges 2 = .ok (.aload_n 1, 1) := by decide +kernel
theorem dL_areRanges_3 : decode cL_areRanges 3 = .ok (.iload_n 2, 1) := by decide +kernel
theorem dL_areRanges_4 : decode cL_areRanges 4 = .ok (.iconst 1, 1) := by decide +kernel
theorem dL_areRanges_5 : decode cL_areRanges 5 = .ok (.iadd, 1) := by decide +kernel
theorem dL_areRanges_6 : decode cL_areRanges 6 = .ok (.iconst 2, 1) := by decide +kernel
theorem dL_areRanges_7 : decode cL_areRanges 7 = .ok (.invokestatic 223, 3) := by decide +kernel
theorem dL_areRanges_10 : decode cL_areRanges 10 = .ok (.ifCond .ne 8, 3) := by decide +kernel
theorem dL_areRanges_13 : decode cL_areRanges 13 = .ok (.bipush 60, 2) := by decide +kernel
theorem dL_areRanges_15 : decode cL_areRanges 15 = .ok (.goto 6, 3) := by decide +kernel
theorem dL_areRanges_18 : decode cL_areRanges 18 = .ok (.sipush 5000, 3) := by decide +kernel
theorem dL_areRanges_21 : decode cL_areRanges 21 = .ok (.invokestatic 223, 3) := by decide +kernel
theorem dL_areRanges_24 : decode cL_areRanges 24 = .ok (.istore_n 3, 1) := by decide +kernel
theorem dL_areRanges_25 : decode cL_areRanges 25 = .ok (.iload_n 3, 1) := by decide +kernel
theorem dL_areRanges_26 : decode cL_areRanges 26 = .ok (.aload_n 1, 1) := by decide +kernel
theorem dL_areRanges_27 : decode cL_areRanges 27 = .ok (.iload_n 2, 1) := by decide +kernel
theorem dL_areRanges_28 : decode cL_areRanges 28 = .ok (.iconst 2, 1) := by decide +kernel
theorem dL_areRanges_29 : decode cL_areRanges 29 = .ok (.iadd, 1) := by decide +kernel
theorem dL_areRanges_30 : decode cL_areRanges 30 = .ok (.aload_n 1, 1) := by decide +kernel
theorem dL_areRanges_31 : decode cL_areRanges 31 = .ok (.iload_n 2, 1) := by decide +kernel
theorem dL_areRanges_32 : decode cL_areRanges 32 = .ok (.iconst 3, 1) := by decide +kernel
theorem dL_areRanges_33 : decode cL_areRanges 33 = .ok (.iadd, 1) := by decide +kernel
theorem dL_areRanges_34 : decode cL_areRanges 34 = .ok (.iconst 2, 1) := by decide +kernel
theorem dL_areRanges_35 : decode cL_areRanges 35 = .ok (.invokestatic 223, 3) := by decide +kernel
theorem dL_areRanges_38 : decode cL_areRanges 38 = .ok (.ifCond .ne 8, 3) := by decide +kernel
theorem dL_areRanges_41 : decode cL_areRanges 41 = .ok (.bipush 30, 2) := by decide +kernel
theorem dL_areRanges_43 : decode cL_areRanges 43 = .ok (.goto 6, 3) := by decide +kernel
theorem dL_areRanges_46 : decode cL_areRanges 46 = .ok (.sipush 5000, 3) := by decide +kernel
theorem dL_areRanges_49 : decode cL_areRanges 49 = .ok (.invokestatic 223, 3) := by decide +kernel
theorem dL_areRanges_52 : decode cL_areRanges 52 = .ok (.iadd, 1) := by decide +kernel
theorem dL_areRanges_53 : decode cL_areRanges 53 = .ok (.istore 4, 2) := by decide +kernel
theorem dL_areRanges_55 : decode cL_areRanges 55 = .ok (.aload_n 1, 1) := by decide +kernel
theorem dL_areRanges_56 : decode cL_areRanges 56 = .ok (.iload_n 2, 1) := by decide +kernel
theorem dL_areRanges_57 : decode cL_areRanges 57 = .ok (.iconst 4, 1) := by decide +kernel
theorem dL_areRanges_58 : decode cL_areRanges 58 = .ok (.iadd, 1) := by decide +kernel
theorem dL_areRanges_59 : decode cL_areRanges 59 = .ok (.bipush 8, 2) := by decide +kernel
theorem dL_areRanges_61 : decode cL_areRanges 61 = .ok (.invokestatic 223, 3) := by decide +kernel
theorem dL_areRanges_64 : decode cL_areRanges 64 = .ok (.istore 5, 2) := by decide +kernel
theorem dL_areRanges_66 : decode cL_areRanges 66 = .ok (.aload_n 1, 1) := by decide +kernel
theorem dL_areRanges_67 : decode cL_areRanges 67 = .ok (.iload_n 2, 1) := by decide +kernel
theorem dL_areRanges_68 : decode cL_areRanges 68 = .ok (.iconst 5, 1) := by decide +kernel
theorem dL_areRanges_69 : decode cL_areRanges 69 = .ok (.iadd, 1) := by decide +kernel
theorem dL_areRanges_70 : decode cL_areRanges 70 = .ok (.aload_n 0, 1) := by decide +kernel
theorem dL_areRanges_71 : decode cL_areRanges 71 = .ok (.invokevirtual 230, 3) := by decide +kernel
theorem dL_areRanges_74 : decode cL_areRanges 74 = .ok (.iconst 1, 1) := by decide +kernel
theorem dL_areRanges_75 : decode cL_areRanges 75 = .ok (.iadd, 1) := by decide +kernel
theorem dL_areRanges_76 : decode cL_areRanges 76 = .ok (.invokestatic 223, 3) := by decide +kernel
theorem dL_areRanges_79 : decode cL_areRanges 79 = .ok (.istore 6, 2) := by decide +kernel
theorem dL_areRanges_81 : decode cL_areRanges 81 = .ok (.aload_n 0, 1) := by decide +kernel
theorem dL_areRanges_82 : decode cL_areRanges 82 = .ok (.bipush 6, 2) := by decide +kernel
theorem dL_areRanges_84 : decode cL_areRanges 84 = .ok (.iload_n 3, 1) := by decide +kernel
theorem dL_areRanges_85 : decode cL_areRanges 85 = .ok (.iload 4, 2) := by decide +kernel
theorem dL_areRanges_87 : decode cL_areRanges 87 = .ok (.iconst 0, 1) := by decide +kernel
theorem dL_areRanges_88 : decode cL_areRanges 88 = .ok (.invokestatic 236, 3) := by decide +kernel
theorem dL_areRanges_91 : decode cL_areRanges 91 = .ok (.istore 7, 2) := by decide +kernel
theorem dL_areRanges_93 : decode cL_areRanges 93 = .ok (.iload 7, 2) := by decide +kernel
theorem dL_areRanges_95 : decode cL_areRanges 95 = .ok (.aload_n 0, 1) := by decide +kernel
theorem dL_areRanges_96 : decode cL_areRanges 96 = .ok (.bipush 7, 2) := by decide +kernel
theorem dL_areRanges_98 : decode cL_areRanges 98 = .ok (.iload_n 3, 1) := by decide +kernel
theorem dL_areRanges_99 : decode cL_areRanges 99 = .ok (.iload 4, 2) := by decide +kernel
theorem dL_areRanges_101 : decode cL_areRanges 101 = .ok (.iconst 0, 1) := by decide +kernel
theorem dL_areRanges_102 : decode cL_areRanges 102 = .ok (.invokestatic 236, 3) := by decide +kernel
theorem dL_areRanges_105 : decode cL_areRanges 105 = .ok (.if_icmp .ne 65, 3) := by decide +kernel
theorem dL_areRanges_108 : decode cL_areRanges 108 = .ok (.iload 4, 2) := by decide +kernel
theorem dL_areRanges_110 : decode cL_areRanges 110 = .ok (.sipush 4999, 3) := by decide +kernel
theorem dL_areRanges_113 : decode cL_areRanges 113 = .ok (.if_icmp .le 14, 3) := by decide +kernel
theorem dL_areRanges_116 : decode cL_areRanges 116 = .ok (.iload 7, 2) := by decide +kernel
theorem dL_areRanges_118 : decode cL_areRanges 118 = .ok (.sipush (-2002), 3) := by decide +kernel
theorem dL_areRanges_121 : decode cL_areRanges 121 = .ok (.if_icmp .ne 49, 3) := by decide +kernel
theorem dL_areRanges_124 : decode cL_areRanges 124 = .ok (.goto 19, 3) := by decide +kernel
theorem dL_areRanges_127 : decode cL_areRanges 127 = .ok (.iload 7, 2) := by decide +kernel
theorem dL_areRanges_129 : decode cL_areRanges 129 = .ok (.ifCond .lt 41, 3) := by decide +kernel
theorem dL_areRanges_132 : decode cL_areRanges 132 = .ok (.iload 7, 2) := by decide +kernel
theorem dL_areRanges_134 : decode cL_areRanges 134 = .ok (.iload 4, 2) := by decide +kernel
theorem dL_areRanges_136 : decode cL_areRanges 136 = .ok (.iload_n 3, 1) := by decide +kernel
theorem dL_areRanges_137 : decode cL_areRanges 137 = .ok (.isub, 1) := by decide +kernel
theorem dL_areRanges_138 : decode cL_areRanges 138 = .ok (.iconst 1, 1) := by decide +kernel
theorem dL_areRanges_139 : decode cL_areRanges 139 = .ok (.iadd, 1) := by decide +kernel
theorem dL_areRanges_140 : decode cL_areRanges 140 = .ok (.if_icmp .gt 30, 3) := by decide +kernel
theorem dL_areRanges_143 : decode cL_areRanges 143 = .ok (.aload_n 0, 1) := by decide +kernel
theorem dL_areRanges_144 : decode cL_areRanges 144 = .ok (.iconst 4, 1) := by decide +kernel
theorem dL_areRanges_145 : decode cL_areRanges 145 = .ok (.iload 6, 2) := by decide +kernel
theorem dL_areRanges_147 : decode cL_areRanges 147 = .ok (.iload_n 3, 1) := by decide +kernel
theorem dL_areRanges_148 : decode cL_areRanges 148 = .ok (.iload 4, 2) := by decide +kernel
theorem dL_areRanges_150 : decode cL_areRanges 150 = .ok (.invokestatic 236, 3) := by decide +kernel
theorem dL_areRanges_153 : decode cL_areRanges 153 = .ok (.aload_n 0, 1) := by decide +kernel
theorem dL_areRanges_154 : decode cL_areRanges 154 = .ok (.iconst 5, 1) := by decide +kernel
theorem dL_areRanges_155 : decode cL_areRanges 155 = .ok (.iload 6, 2) := by decide +kernel
theorem dL_areRanges_157 : decode cL_areRanges 157 = .ok (.iload_n 3, 1) := by decide +kernel
theorem dL_areRanges_158 : decode cL_areRanges 158 = .ok (.iload 4, 2) := by decide +kernel
theorem dL_areRanges_160 : decode cL_areRanges 160 = .ok (.invokestatic 236, 3) := by decide +kernel
theorem dL_areRanges_163 : decode cL_areRanges 163 = .ok (.if_icmp .ne 7, 3) := by decide +kernel
theorem dL_areRanges_166 : decode cL_areRanges 166 = .ok (.iconst 1, 1) := by decide +kernel
theorem dL_areRanges_167 : decode cL_areRanges 167 = .ok (.goto 4, 3) := by decide +kernel
theorem dL_areRanges_170 : decode cL_areRanges 170 = .ok (.iconst 0, 1) := by decide +kernel
theorem dL_areRanges_171 : decode cL_areRanges 171 = .ok (.istore 8, 2) := by decide +kernel
theorem dL_areRanges_173 : decode cL_areRanges 173 = .ok (.aload_n 0, 1) := by decide +kernel
theorem dL_areRanges_174 : decode cL_areRanges 174 = .ok (.bipush 8, 2) := by decide +kernel
theorem dL_areRanges_176 : decode cL_areRanges 176 = .ok (.iload 5, 2) := by decide +kernel
theorem dL_areRanges_178 : decode cL_areRanges 178 = .ok (.iload_n 3, 1) := by decide +kernel
theorem dL_areRanges_179 : decode cL_areRanges 179 = .ok (.iconst 0, 1) := by decide +kernel
theorem dL_areRanges_180 : decode cL_areRanges 180 = .ok (.invokestatic 236, 3) := by decide +kernel
theorem dL_areRanges_183 : decode cL_areRanges 183 = .ok (.istore 9, 2) := by decide +kernel
theorem dL_areRanges_185 : decode cL_areRanges 185 = .ok (.iload 8, 2) := by decide +kernel
theorem dL_areRanges_187 : decode cL_areRanges 187 = .ok (.ifCond .eq 55, 3) := by decide +kernel
theorem dL_areRanges_190 : decode cL_areRanges 190 = .ok (.iload 9, 2) := by decide +kernel
theorem dL_areRanges_192 : decode cL_areRanges 192 = .ok (.aload_n 0, 1) := by decide +kernel
theorem dL_areRanges_193 : decode cL_areRanges 193 = .ok (.bipush 9, 2) := by decide +kernel
theorem dL_areRanges_195 : decode cL_areRanges 195 = .ok (.iload 5, 2) := by decide +kernel
theorem dL_areRanges_197 : decode cL_areRanges 197 = .ok (.iload_n 3, 1) := by decide +kernel
theorem dL_areRanges_198 : decode cL_areRanges 198 = .ok (.iconst 0, 1) := by decide +kernel
theorem dL_areRanges_199 : decode cL_areRanges 199 = .ok (.invokestatic 236, 3) := by decide +kernel
theorem dL_areRanges_202 : decode cL_areRanges 202 = .ok (.if_icmp .ne 40, 3) := by decide +kernel
theorem dL_areRanges_205 : decode cL_areRanges 205 = .ok (.iload 9, 2) := by decide +kernel
theorem dL_areRanges_207 : decode cL_areRanges 207 = .ok (.sipush (-2005), 3) := by decide +kernel
theorem dL_areRanges_210 : decode cL_areRanges 210 = .ok (.if_icmp .eq 28, 3) := by decide +kernel
theorem dL_areRanges_213 : decode cL_areRanges 213 = .ok (.iload 9, 2) := by decide +kernel
theorem dL_areRanges_215 : decode cL_areRanges 215 = .ok (.ifCond .lt 27, 3) := by decide +kernel
theorem dL_areRanges_218 : decode cL_areRanges 218 = .ok (.iload 9, 2) := by decide +kernel
theorem dL_areRanges_220 : decode cL_areRanges 220 = .ok (.iload_n 3, 1) := by decide +kernel
theorem dL_areRanges_221 : decode cL_areRanges 221 = .ok (.if_icmp .ge 21, 3) := by decide +kernel
theorem dL_areRanges_224 : decode cL_areRanges 224 = .ok (.aload_n 0, 1) := by decide +kernel
theorem dL_areRanges_225 : decode cL_areRanges 225 = .ok (.bipush 11, 2) := by decide +kernel
theorem dL_areRanges_227 : decode cL_areRanges 227 = .ok (.iload 9, 2) := by decide +kernel
theorem dL_areRanges_229 : decode cL_areRanges 229 = .ok (.iconst 0, 1) := by decide +kernel
theorem dL_areRanges_230 : decode cL_areRanges 230 = .ok (.iconst 0, 1) := by decide +kernel
theorem dL_areRanges_231 : decode cL_areRanges 231 = .ok (.invokestatic 236, 3) := by decide +kernel
theorem dL_areRanges_234 : decode cL_areRanges 234 = .ok (.iconst 1, 1) := by decide +kernel
theorem dL_areRanges_235 : decode cL_areRanges 235 = .ok (.if_icmp .ne 7, 3) := by decide +kernel
theorem dL_areRanges_238 : decode cL_areRanges 238 = .ok (.iconst 1, 1) := by decide +kernel
theorem dL_areRanges_239 : decode cL_areRanges 239 = .ok (.goto 4, 3) := by decide +kernel
theorem dL_areRanges_242 : decode cL_areRanges 242 = .ok (.iconst 0, 1) := by decide +kernel
theorem dL_areRanges_243 : decode cL_areRanges 243 = .ok (.istore 8, 2) := by decide +kernel
theorem dL_areRanges_245 : decode cL_areRanges 245 = .ok (.iload 8, 2) := by decide +kernel
theorem dL_areRanges_247 : decode cL_areRanges 247 = .ok (.ifCond .eq 59, 3) := by decide +kernel
theorem dL_areRanges_250 : decode cL_areRanges 250 = .ok (.aload_n 0, 1) := by decide +kernel
theorem dL_areRanges_251 : decode cL_areRanges 251 = .ok (.bipush 6, 2) := by decide +kernel
theorem dL_areRanges_253 : decode cL_areRanges 253 = .ok (.iload 4, 2) := by decide +kernel
theorem dL_areRanges_255 : decode cL_areRanges 255 = .ok (.iload_n 3, 1) := by decide +kernel
theorem dL_areRanges_256 : decode cL_areRanges 256 = .ok (.iconst 1, 1) := by decide +kernel
theorem dL_areRanges_257 : decode cL_areRanges 257 = .ok (.isub, 1) := by decide +kernel
theorem dL_areRanges_258 : decode cL_areRanges 258 = .ok (.iconst 0, 1) := by decide +kernel
theorem dL_areRanges_259 : decode cL_areRanges 259 = .ok (.invokestatic 236, 3) := by decide +kernel
theorem dL_areRanges_262 : decode cL_areRanges 262 = .ok (.sipush (-2002), 3) := by decide +kernel
theorem dL_areRanges_265 : decode cL_areRanges 265 = .ok (.if_icmp .ne 41, 3) := by decide +kernel
theorem dL_areRanges_268 : decode cL_areRanges 268 = .ok (.aload_n 0, 1) := by decide +kernel
theorem dL_areRanges_269 : decode cL_areRanges 269 = .ok (.bipush 8, 2) := by decide +kernel
theorem dL_areRanges_271 : decode cL_areRanges 271 = .ok (.bipush 8, 2) := by decide +kernel
theorem dL_areRanges_273 : decode cL_areRanges 273 = .ok (.iload_n 3, 1) := by decide +kernel
theorem dL_areRanges_274 : decode cL_areRanges 274 = .ok (.iconst 0, 1) := by decide +kernel
theorem dL_areRanges_275 : decode cL_areRanges 275 = .ok (.invokestatic 236, 3) := by decide +kernel
theorem dL_areRanges_278 : decode cL_areRanges 278 = .ok (.sipush (-2001), 3) := by decide +kernel
theorem dL_areRanges_281 : decode cL_areRanges 281 = .ok (.if_icmp .ne 25, 3) := by decide +kernel
theorem dL_areRanges_284 : decode cL_areRanges 284 = .ok (.aload_n 0, 1) := by decide +kernel
theorem dL_areRanges_285 : decode cL_areRanges 285 = .ok (.bipush 9, 2) := by decide +kernel
theorem dL_areRanges_287 : decode cL_areRanges 287 = .ok (.iload 5, 2) := by decide +kernel
theorem dL_areRanges_289 : decode cL_areRanges 289 = .ok (.sipush 5000, 3) := by decide +kernel
theorem dL_areRanges_292 : decode cL_areRanges 292 = .ok (.iconst 0, 1) := by decide +kernel
theorem dL_areRanges_293 : decode cL_areRanges 293 = .ok (.invokestatic 236, 3) := by decide +kernel
theorem dL_areRanges_296 : decode cL_areRanges 296 = .ok (.sipush (-2002), 3) := by decide +kernel
theorem dL_areRanges_299 : decode cL_areRanges 299 = .ok (.if_icmp .ne 7, 3) := by decide +kernel
theorem dL_areRanges_302 : decode cL_areRanges 302 = .ok (.iconst 1, 1) := by decide +kernel
theorem dL_areRanges_303 : decode cL_areRanges 303 = .ok (.goto 4, 3) := by decide +kernel
theorem dL_areRanges_306 : decode cL_areRanges 306 = .ok (.iconst 0, 1) := by decide +kernel
theorem dL_areRanges_307 : decode cL_areRanges 307 = .ok (.ireturn, 1) := by decide +kernel
theorem dL_isConduct_0 : decode cL_isConduct 0 = .ok (.iconst 1, 1) := by decide +kernel
theorem dL_isConduct_1 : decode cL_isConduct 1 = .ok (.istore_n 1, 1) := by decide +kernel
theorem dL_isConduct_2 : decode cL_isConduct 2 = .ok (.iconst 0, 1) := by decide +kernel
theorem dL_isConduct_3 : decode cL_isConduct 3 = .ok (.istore_n 2, 1) := by decide +kernel
theorem dL_isConduct_4 : decode cL_isConduct 4 = .ok (.iload_n 2, 1) := by decide +kernel
theorem dL_isConduct_5 : decode cL_isConduct 5 = .ok (.bipush 36, 2) := by decide +kernel
theorem dL_isConduct_7 : decode cL_isConduct 7 = .ok (.if_icmp .ge 88, 3) := by decide +kernel
theorem dL_isConduct_10 : decode cL_isConduct 10 = .ok (.iload_n 1, 1) := by decide +kernel
theorem dL_isConduct_11 : decode cL_isConduct 11 = .ok (.ifCond .eq 84, 3) := by decide +kernel
theorem dL_isConduct_14 : decode cL_isConduct 14 = .ok (.aload_n 0, 1) := by decide +kernel
theorem dL_isConduct_15 : decode cL_isConduct 15 = .ok (.bipush 17, 2) := by decide +kernel
theorem dL_isConduct_17 : decode cL_isConduct 17 = .ok (.iload_n 2, 1) := by decide +kernel
theorem dL_isConduct_18 : decode cL_isConduct 18 = .ok (.bipush 6, 2) := by decide +kernel
theorem dL_isConduct_20 : decode cL_isConduct 20 = .ok (.idiv, 1) := by decide +kernel
theorem dL_isConduct_21 : decode cL_isConduct 21 = .ok (.iload_n 2, 1) := by decide +kernel
theorem dL_isConduct_22 : decode cL_isConduct 22 = .ok (.bipush 6, 2) := by decide +kernel
theorem dL_isConduct_24 : decode cL_isConduct 24 = .ok (.irem, 1) := by decide +kernel
theorem dL_isConduct_25 : decode cL_isConduct 25 = .ok (.iconst 0, 1) := by decide +kernel
theorem dL_isConduct_26 : decode cL_isConduct 26 = .ok (.invokestatic 236, 3) := by decide +kernel
theorem dL_isConduct_29 : decode cL_isConduct 29 = .ok (.istore_n 3, 1) := by decide +kernel
theorem dL_isConduct_30 : decode cL_isConduct 30 = .ok (.iload_n 3, 1) := by decide +kernel
theorem dL_isConduct_31 : decode cL_isConduct 31 = .ok (.aload_n 0, 1) := by decide +kernel
theorem dL_isConduct_32 : decode cL_isConduct 32 = .ok (.bipush 18, 2) := by decide +kernel
theorem dL_isConduct_34 : decode cL_isConduct 34 = .ok (.iload_n 2, 1) := by decide +kernel
theorem dL_isConduct_35 : decode cL_isConduct 35 = .ok (.bipush 6, 2) := by decide +kernel
theorem dL_isConduct_37 : decode cL_isConduct 37 = .ok (.idiv, 1) := by decide +kernel
theorem dL_isConduct_38 : decode cL_isConduct 38 = .ok (.iload_n 2, 1) := by decide +kernel
theorem dL_isConduct_39 : decode cL_isConduct 39 = .ok (.bipush 6, 2) := by decide +kernel
theorem dL_isConduct_41 : decode cL_isConduct 41 = .ok (.irem, 1) := by decide +kernel
theorem dL_isConduct_42 : decode cL_isConduct 42 = .ok (.iconst 0, 1) := by decide +kernel
theorem dL_isConduct_43 : decode cL_isConduct 43 = .ok (.invokestatic 236, 3) := by decide +kernel
theorem dL_isConduct_46 : decode cL_isConduct 46 = .ok (.if_icmp .ne 41, 3) := by decide +kernel
theorem dL_isConduct_49 : decode cL_isConduct 49 = .ok (.iload_n 3, 1) := by decide +kernel
theorem dL_isConduct_50 : decode cL_isConduct 50 = .ok (.aload_n 0, 1) := by decide +kernel
theorem dL_isConduct_51 : decode cL_isConduct 51 = .ok (.bipush 17, 2) := by decide +kernel
theorem dL_isConduct_53 : decode cL_isConduct 53 = .ok (.iload_n 2, 1) := by decide +kernel
theorem dL_isConduct_54 : decode cL_isConduct 54 = .ok (.bipush 6, 2) := by decide +kernel
theorem dL_isConduct_56 : decode cL_isConduct 56 = .ok (.irem, 1) := by decide +kernel
theorem dL_isConduct_57 : decode cL_isConduct 57 = .ok (.iload_n 2, 1) := by decide +kernel
theorem dL_isConduct_58 : decode cL_isConduct 58 = .ok (.bipush 6, 2) := by decide +kernel
theorem dL_isConduct_60 : decode cL_isConduct 60 = .ok (.idiv, 1) := by decide +kernel
theorem dL_isConduct_61 : decode cL_isConduct 61 = .ok (.iconst 0, 1) := by decide +kernel
theorem dL_isConduct_62 : decode cL_isConduct 62 = .ok (.invokestatic 236, 3) := by decide +kernel
theorem dL_isConduct_65 : decode cL_isConduct 65 = .ok (.if_icmp .ne 22, 3) := by decide +kernel
theorem dL_isConduct_68 : decode cL_isConduct 68 = .ok (.iload_n 2, 1) := by decide +kernel
theorem dL_isConduct_69 : decode cL_isConduct 69 = .ok (.bipush 6, 2) := by decide +kernel
theorem dL_isConduct_71 : decode cL_isConduct 71 = .ok (.idiv, 1) := by decide +kernel
theorem dL_isConduct_72 : decode cL_isConduct 72 = .ok (.iload_n 2, 1) := by decide +kernel
theorem dL_isConduct_73 : decode cL_isConduct 73 = .ok (.bipush 6, 2) := by decide +kernel
theorem dL_isConduct_75 : decode cL_isConduct 75 = .ok (.irem, 1) := by decide +kernel
theorem dL_isConduct_76 : decode cL_isConduct 76 = .ok (.if_icmp .ne 7, 3) := by decide +kernel
theorem dL_isConduct_79 : decode cL_isConduct 79 = .ok (.iload_n 3, 1) := by decide +kernel
theorem dL_isConduct_80 : decode cL_isConduct 80 = .ok (.ifCond .eq 7, 3) := by decide +kernel
theorem dL_isConduct_83 : decode cL_isConduct 83 = .ok (.iconst 1, 1) := by decide +kernel
theorem dL_isConduct_84 : decode cL_isConduct 84 = .ok (.goto 4, 3) := by decide +kernel
theorem dL_isConduct_87 : decode cL_isConduct 87 = .ok (.iconst 0, 1) := by decide +kernel
theorem dL_isConduct_88 : decode cL_isConduct 88 = .ok (.istore_n 1, 1) := by decide +kernel
theorem dL_isConduct_89 : decode cL_isConduct 89 = .ok (.iinc 2 1, 3) := by decide +kernel
theorem dL_isConduct_92 : decode cL_isConduct 92 = .ok (.goto (-88), 3) := by decide +kernel
theorem dL_isConduct_95 : decode cL_isConduct 95 = .ok (.iload_n 1, 1) := by decide +kernel
theorem dL_isConduct_96 : decode cL_isConduct 96 = .ok (.ireturn, 1) := by decide +kernel
theorem dL_print_0 : decode cL_print 0 = .ok (.aload_n 0, 1) := by decide +kernel
theorem dL_print_1 : decode cL_print 1 = .ok (.invokevirtual 233, 3) := by decide +kernel
theorem dL_print_4 : decode cL_print 4 = .ok (.istore_n 1, 1) := by decide +kernel
theorem dL_print_5 : decode cL_print 5 = .ok (.iconst 0, 1) := by decide +kernel
theorem dL_print_6 : decode cL_print 6 = .ok (.istore_n 2, 1) := by decide +kernel
theorem dL_print_7 : decode cL_print 7 = .ok (.iload_n 2, 1) := by decide +kernel
theorem dL_print_8 : decode cL_print 8 = .ok (.aload_n 0, 1) := by decide +kernel
theorem dL_print_9 : decode cL_print 9 = .ok (.invokevirtual 230, 3) := by decide +kernel
theorem dL_print_12 : decode cL_print 12 = .ok (.if_icmp .ge 48, 3) := by decide +kernel
theorem dL_print_15 : decode cL_print 15 = .ok (.bipush 31, 2) := by decide +kernel
theorem dL_print_17 : decode cL_print 17 = .ok (.bipush 31, 2) := by decide +kernel
theorem dL_print_19 : decode cL_print 19 = .ok (.bipush 31, 2) := by decide +kernel
theorem dL_print_21 : decode cL_print 21 = .ok (.iload_n 1, 1) := by decide +kernel
theorem dL_print_22 : decode cL_print 22 = .ok (.imul, 1) := by decide +kernel
theorem dL_print_23 : decode cL_print 23 = .ok (.aload_n 0, 1) := by decide +kernel
theorem dL_print_24 : decode cL_print 24 = .ok (.iconst 0, 1) := by decide +kernel
theorem dL_print_25 : decode cL_print 25 = .ok (.iload_n 2, 1) := by decide +kernel
theorem dL_print_26 : decode cL_print 26 = .ok (.iconst 0, 1) := by decide +kernel
theorem dL_print_27 : decode cL_print 27 = .ok (.iconst 0, 1) := by decide +kernel
theorem dL_print_28 : decode cL_print 28 = .ok (.invokestatic 236, 3) := by decide +kernel
theorem dL_print_31 : decode cL_print 31 = .ok (.iadd, 1) := by decide +kernel
theorem dL_print_32 : decode cL_print 32 = .ok (.imul, 1) := by decide +kernel
theorem dL_print_33 : decode cL_print 33 = .ok (.aload_n 0, 1) := by decide +kernel
theorem dL_print_34 : decode cL_print 34 = .ok (.iconst 2, 1) := by decide +kernel
theorem dL_print_35 : decode cL_print 35 = .ok (.iload_n 2, 1) := by decide +kernel
theorem dL_print_36 : decode cL_print 36 = .ok (.iconst 0, 1) := by decide +kernel
theorem dL_print_37 : decode cL_print 37 = .ok (.iconst 0, 1) := by decide +kernel
theorem dL_print_38 : decode cL_print 38 = .ok (.invokestatic 236, 3) := by decide +kernel
theorem dL_print_41 : decode cL_print 41 = .ok (.iadd, 1) := by decide +kernel
theorem dL_print_42 : decode cL_print 42 = .ok (.imul, 1) := by decide +kernel
theorem dL_print_43 : decode cL_print 43 = .ok (.aload_n 0, 1) := by decide +kernel
theorem dL_print_44 : decode cL_print 44 = .ok (.bipush 21, 2) := by decide +kernel
theorem dL_print_46 : decode cL_print 46 = .ok (.iload_n 2, 1) := by decide +kernel
theorem dL_print_47 : decode cL_print 47 = .ok (.iconst 0, 1) := by decide +kernel
theorem dL_print_48 : decode cL_print 48 = .ok (.iconst 0, 1) := by decide +kernel
theorem dL_print_49 : decode cL_print 49 = .ok (.invokestatic 236, 3) := by decide +kernel
theorem dL_print_52 : decode cL_print 52 = .ok (.iadd, 1) := by decide +kernel
theorem dL_print_53 : decode cL_print 53 = .ok (.istore_n 1, 1) := by decide +kernel
theorem dL_print_54 : decode cL_print 54 = .ok (.iinc 2 1, 3) := by decide +kernel
theorem dL_print_57 : decode cL_print 57 = .ok (.goto (-50), 3) := by decide +kernel
theorem dL_print_60 : decode cL_print 60 = .ok (.bipush 31, 2) := by decide +kernel
theorem dL_print_62 : decode cL_print 62 = .ok (.iload_n 1, 1) := by decide +kernel
theorem dL_print_63 : decode cL_print 63 = .ok (.imul, 1) := by decide +kernel
theorem dL_print_64 : decode cL_print 64 = .ok (.aload_n 0, 1) := by decide +kernel
theorem dL_print_65 : decode cL_print 65 = .ok (.invokevirtual 242, 3) := by decide +kernel
theorem dL_print_68 : decode cL_print 68 = .ok (.iadd, 1) := by decide +kernel
theorem dL_print_69 : decode cL_print 69 = .ok (.ireturn, 1) := by decide +kernel
theorem dL_isStayed_0 : decode cL_isStayed 0 = .ok (.aload_n 0, 1) := by decide +kernel
theorem dL_isStayed_1 : decode cL_isStayed 1 = .ok (.invokestatic 245, 3) := by decide +kernel
theorem dL_isStayed_4 : decode cL_isStayed 4 = .ok (.istore_n 2, 1) := by decide +kernel
theorem dL_isStayed_5 : decode cL_isStayed 5 = .ok (.aload_n 0, 1) := by decide +kernel
theorem dL_isStayed_6 : decode cL_isStayed 6 = .ok (.bipush 11, 2) := by decide +kernel
theorem dL_isStayed_8 : decode cL_isStayed 8 = .ok (.sipush 255, 3) := by decide +kernel
theorem dL_isStayed_11 : decode cL_isStayed 11 = .ok (.iconst 0, 1) := by decide +kernel
theorem dL_isStayed_12 : decode cL_isStayed 12 = .ok (.iconst 0, 1) := by decide +kernel
theorem dL_isStayed_13 : decode cL_isStayed 13 = .ok (.invokestatic 220, 3) := by decide +kernel
theorem dL_isStayed_16 : decode cL_isStayed 16 = .ok (.istore_n 3, 1) := by decide +kernel
theorem dL_isStayed_17 : decode cL_isStayed 17 = .ok (.iload_n 3, 1) := by decide +kernel
theorem dL_isStayed_18 : decode cL_isStayed 18 = .ok (.ifCond .ge 24, 3) := by decide +kernel
theorem dL_isStayed_21 : decode cL_isStayed 21 = .ok (.iload_n 3, 1) := by decide +kernel
theorem dL_isStayed_22 : decode cL_isStayed 22 = .ok (.sipush (-2003), 3) := by decide +kernel
theorem dL_isStayed_25 : decode cL_isStayed 25 = .ok (.if_icmp .ne 15, 3) := by decide +kernel
theorem dL_isStayed_28 : decode cL_isStayed 28 = .ok (.aload_n 0, 1) := by decide +kernel
theorem dL_isStayed_29 : decode cL_isStayed 29 = .ok (.invokestatic 245, 3) := by decide +kernel
theorem dL_isStayed_32 : decode cL_isStayed 32 = .ok (.iload_n 2, 1) := by decide +kernel
theorem dL_isStayed_33 : decode cL_isStayed 33 = .ok (.if_icmp .ne 7, 3) := by decide +kernel
theorem dL_isStayed_36 : decode cL_isStayed 36 = .ok (.iconst 1, 1) := by decide +kernel
theorem dL_isStayed_37 : decode cL_isStayed 37 = .ok (.goto 4, 3) := by decide +kernel
theorem dL_isStayed_40 : decode cL_isStayed 40 = .ok (.iconst 0, 1) := by decide +kernel
theorem dL_isStayed_41 : decode cL_isStayed 41 = .ok (.ireturn, 1) := by decide +kernel
theorem dL_isStayed_42 : decode cL_isStayed 42 = .ok (.bipush 31, 2) := by decide +kernel
theorem dL_isStayed_44 : decode cL_isStayed 44 = .ok (.newarray .int, 2) := by decide +kernel
theorem dL_isStayed_46 : decode cL_isStayed 46 = .ok (.astore 4, 2) := by decide +kernel
theorem dL_isStayed_48 : decode cL_isStayed 48 = .ok (.iconst 0, 1) := by decide +kernel
theorem dL_isStayed_49 : decode cL_isStayed 49 = .ok (.istore 5, 2) := by decide +kernel
theorem dL_isStayed_51 : decode cL_isStayed 51 = .ok (.iload 5, 2) := by decide +kernel
theorem dL_isStayed_53 : decode cL_isStayed 53 = .ok (.aload_n 0, 1) := by decide +kernel
theorem dL_isStayed_54 : decode cL_isStayed 54 = .ok (.invokevirtual 230, 3) := by decide +kernel
theorem dL_isStayed_57 : decode cL_isStayed 57 = .ok (.if_icmp .ge 23, 3) := by decide +kernel
theorem dL_isStayed_60 : decode cL_isStayed 60 = .ok (.aload 4, 2) := by decide +kernel
theorem dL_isStayed_62 : decode cL_isStayed 62 = .ok (.iload 5, 2) := by decide +kernel
theorem dL_isStayed_64 : decode cL_isStayed 64 = .ok (.aload_n 0, 1) := by decide +kernel
theorem dL_isStayed_65 : decode cL_isStayed 65 = .ok (.iconst 2, 1) := by decide +kernel
theorem dL_isStayed_66 : decode cL_isStayed 66 = .ok (.iload 5, 2) := by decide +kernel
theorem dL_isStayed_68 : decode cL_isStayed 68 = .ok (.iconst 0, 1) := by decide +kernel
theorem dL_isStayed_69 : decode cL_isStayed 69 = .ok (.iconst 0, 1) := by decide +kernel
theorem dL_isStayed_70 : decode cL_isStayed 70 = .ok (.invokestatic 236, 3) := by decide +kernel
theorem dL_isStayed_73 : decode cL_isStayed 73 = .ok (.iastore, 1) := by decide +kernel
theorem dL_isStayed_74 : decode cL_isStayed 74 = .ok (.iinc 5 1, 3) := by decide +kernel
theorem dL_isStayed_77 : decode cL_isStayed 77 = .ok (.goto (-26), 3) := by decide +kernel
theorem dL_isStayed_80 : decode cL_isStayed 80 = .ok (.aload_n 0, 1) := by decide +kernel
theorem dL_isStayed_81 : decode cL_isStayed 81 = .ok (.invokevirtual 233, 3) := by decide +kernel
theorem dL_isStayed_84 : decode cL_isStayed 84 = .ok (.istore 5, 2) := by decide +kernel
theorem dL_isStayed_86 : decode cL_isStayed 86 = .ok (.aload_n 0, 1) := by decide +kernel
theorem dL_isStayed_87 : decode cL_isStayed 87 = .ok (.iconst 0, 1) := by decide +kernel
theorem dL_isStayed_88 : decode cL_isStayed 88 = .ok (.iload_n 1, 1) := by decide +kernel
theorem dL_isStayed_89 : decode cL_isStayed 89 = .ok (.iconst 0, 1) := by decide +kernel
theorem dL_isStayed_90 : decode cL_isStayed 90 = .ok (.iconst 0, 1) := by decide +kernel
theorem dL_isStayed_91 : decode cL_isStayed 91 = .ok (.invokestatic 220, 3) := by decide +kernel
theorem dL_isStayed_94 : decode cL_isStayed 94 = .ok (.istore 6, 2) := by decide +kernel
theorem dL_isStayed_96 : decode cL_isStayed 96 = .ok (.iload 6, 2) := by decide +kernel
theorem dL_isStayed_98 : decode cL_isStayed 98 = .ok (.iload 5, 2) := by decide +kernel
theorem dL_isStayed_100 : decode cL_isStayed 100 = .ok (.iload_n 1, 1) := by decide +kernel
theorem dL_isStayed_101 : decode cL_isStayed 101 = .ok (.iadd, 1) := by decide +kernel
theorem dL_isStayed_102 : decode cL_isStayed 102 = .ok (.if_icmp .eq 21, 3) := by decide +kernel
theorem dL_isStayed_105 : decode cL_isStayed 105 = .ok (.iload 6, 2) := by decide +kernel
theorem dL_isStayed_107 : decode cL_isStayed 107 = .ok (.sipush (-2003), 3) := by decide +kernel
theorem dL_isStayed_110 : decode cL_isStayed 110 = .ok (.if_icmp .ne 17, 3) := by decide +kernel
theorem dL_isStayed_113 : decode cL_isStayed 113 = .ok (.iload 5, 2) := by decide +kernel
theorem dL_isStayed_115 : decode cL_isStayed 115 = .ok (.iload_n 1, 1) := by decide +kernel
theorem dL_isStayed_116 : decode cL_isStayed 116 = .ok (.iadd, 1) := by decide +kernel
theorem dL_isStayed_117 : decode cL_isStayed 117 = .ok (.sipush 1500, 3) := by decide +kernel
theorem dL_isStayed_120 : decode cL_isStayed 120 = .ok (.if_icmp .le 7, 3) := by decide +kernel
theorem dL_isStayed_123 : decode cL_isStayed 123 = .ok (.iconst 1, 1) := by decide +kernel
theorem dL_isStayed_124 : decode cL_isStayed 124 = .ok (.goto 4, 3) := by decide +kernel
theorem dL_isStayed_127 : decode cL_isStayed 127 = .ok (.iconst 0, 1) := by decide +kernel
theorem dL_isStayed_128 : decode cL_isStayed 128 = .ok (.istore 7, 2) := by decide +kernel
theorem dL_isStayed_130 : decode cL_isStayed 130 = .ok (.iconst 0, 1) := by decide +kernel
theorem dL_isStayed_131 : decode cL_isStayed 131 = .ok (.istore 8, 2) := by decide +kernel
theorem dL_isStayed_133 : decode cL_isStayed 133 = .ok (.iload 8, 2) := by decide +kernel
theorem dL_isStayed_135 : decode cL_isStayed 135 = .ok (.aload_n 0, 1) := by decide +kernel
theorem dL_isStayed_136 : decode cL_isStayed 136 = .ok (.invokevirtual 230, 3) := by decide +kernel
theorem dL_isStayed_139 : decode cL_isStayed 139 = .ok (.if_icmp .ge 55, 3) := by decide +kernel
theorem dL_isStayed_142 : decode cL_isStayed 142 = .ok (.iload 7, 2) := by decide +kernel
theorem dL_isStayed_144 : decode cL_isStayed 144 = .ok (.ifCond .eq 41, 3) := by decide +kernel
theorem dL_isStayed_147 : decode cL_isStayed 147 = .ok (.aload_n 0, 1) := by decide +kernel
theorem dL_isStayed_148 : decode cL_isStayed 148 = .ok (.iconst 2, 1) := by decide +kernel
theorem dL_isStayed_149 : decode cL_isStayed 149 = .ok (.iload 8, 2) := by decide +kernel
theorem dL_isStayed_151 : decode cL_isStayed 151 = .ok (.iconst 0, 1) := by decide +kernel
theorem dL_isStayed_152 : decode cL_isStayed 152 = .ok (.iconst 0, 1) := by decide +kernel
theorem dL_isStayed_153 : decode cL_isStayed 153 = .ok (.invokestatic 236, 3) := by decide +kernel
theorem dL_isStayed_156 : decode cL_isStayed 156 = .ok (.aload 4, 2) := by decide +kernel
theorem dL_isStayed_158 : decode cL_isStayed 158 = .ok (.iload 8, 2) := by decide +kernel
theorem dL_isStayed_160 : decode cL_isStayed 160 = .ok (.iaload, 1) := by decide +kernel
theorem dL_isStayed_161 : decode cL_isStayed 161 = .ok (.if_icmp .ne 24, 3) := by decide +kernel
theorem dL_isStayed_164 : decode cL_isStayed 164 = .ok (.aload_n 0, 1) := by decide +kernel
theorem dL_isStayed_165 : decode cL_isStayed 165 = .ok (.bipush 10, 2) := by decide +kernel
theorem dL_isStayed_167 : decode cL_isStayed 167 = .ok (.iload 8, 2) := by decide +kernel
theorem dL_isStayed_169 : decode cL_isStayed 169 = .ok (.iload 5, 2) := by decide +kernel
theorem dL_isStayed_171 : decode cL_isStayed 171 = .ok (.iconst 1, 1) := by decide +kernel
theorem dL_isStayed_172 : decode cL_isStayed 172 = .ok (.iadd, 1) := by decide +kernel
theorem dL_isStayed_173 : decode cL_isStayed 173 = .ok (.iconst 0, 1) := by decide +kernel
theorem dL_isStayed_174 : decode cL_isStayed 174 = .ok (.invokestatic 236, 3) := by decide +kernel
theorem dL_isStayed_177 : decode cL_isStayed 177 = .ok (.iconst 1, 1) := by decide +kernel
theorem dL_isStayed_178 : decode cL_isStayed 178 = .ok (.if_icmp .ne 7, 3) := by decide +kernel
theorem dL_isStayed_181 : decode cL_isStayed 181 = .ok (.iconst 1, 1) := by decide +kernel
theorem dL_isStayed_182 : decode cL_isStayed 182 = .ok (.goto 4, 3) := by decide +kernel
theorem dL_isStayed_185 : decode cL_isStayed 185 = .ok (.iconst 0, 1) := by decide +kernel
theorem dL_isStayed_186 : decode cL_isStayed 186 = .ok (.istore 7, 2) := by decide +kernel
theorem dL_isStayed_188 : decode cL_isStayed 188 = .ok (.iinc 8 1, 3) := by decide +kernel
theorem dL_isStayed_191 : decode cL_isStayed 191 = .ok (.goto (-58), 3) := by decide +kernel
theorem dL_isStayed_194 : decode cL_isStayed 194 = .ok (.iload 7, 2) := by decide +kernel
theorem dL_isStayed_196 : decode cL_isStayed 196 = .ok (.ifCond .eq 40, 3) := by decide +kernel
theorem dL_isStayed_199 : decode cL_isStayed 199 = .ok (.iload 6, 2) := by decide +kernel
theorem dL_isStayed_201 : decode cL_isStayed 201 = .ok (.ifCond .lt 31, 3) := by decide +kernel
theorem dL_isStayed_204 : decode cL_isStayed 204 = .ok (.aload_n 0, 1) := by decide +kernel
theorem dL_isStayed_205 : decode cL_isStayed 205 = .ok (.bipush 12, 2) := by decide +kernel
theorem dL_isStayed_207 : decode cL_isStayed 207 = .ok (.iload_n 3, 1) := by decide +kernel
theorem dL_isStayed_208 : decode cL_isStayed 208 = .ok (.iconst 0, 1) := by decide +kernel
theorem dL_isStayed_209 : decode cL_isStayed 209 = .ok (.iconst 0, 1) := by decide +kernel
theorem dL_isStayed_210 : decode cL_isStayed 210 = .ok (.invokestatic 220, 3) := by decide +kernel
theorem dL_isStayed_213 : decode cL_isStayed 213 = .ok (.iload_n 1, 1) := by decide +kernel
theorem dL_isStayed_214 : decode cL_isStayed 214 = .ok (.if_icmp .ne 22, 3) := by decide +kernel
theorem dL_isStayed_217 : decode cL_isStayed 217 = .ok (.aload_n 0, 1) := by decide +kernel
theorem dL_isStayed_218 : decode cL_isStayed 218 = .ok (.bipush 12, 2) := by decide +kernel
theorem dL_isStayed_220 : decode cL_isStayed 220 = .ok (.iload_n 3, 1) := by decide +kernel
theorem dL_isStayed_221 : decode cL_isStayed 221 = .ok (.iconst 0, 1) := by decide +kernel
theorem dL_isStayed_222 : decode cL_isStayed 222 = .ok (.iconst 0, 1) := by decide +kernel
theorem dL_isStayed_223 : decode cL_isStayed 223 = .ok (.invokestatic 220, 3) := by decide +kernel
theorem dL_isStayed_226 : decode cL_isStayed 226 = .ok (.sipush (-2003), 3) := by decide +kernel
theorem dL_isStayed_229 : decode cL_isStayed 229 = .ok (.if_icmp .ne 7, 3) := by decide +kernel
theorem dL_isStayed_232 : decode cL_isStayed 232 = .ok (.iconst 1, 1) := by decide +kernel
theorem dL_isStayed_233 : decode cL_isStayed 233 = .ok (.goto 4, 3) := by decide +kernel
theorem dL_isStayed_236 : decode cL_isStayed 236 = .ok (.iconst 0, 1) := by decide +kernel
theorem dL_isStayed_237 : decode cL_isStayed 237 = .ok (.istore 7, 2) := by decide +kernel
theorem dL_isStayed_239 : decode cL_isStayed 239 = .ok (.iload 7, 2) := by decide +kernel
theorem dL_isStayed_241 : decode cL_isStayed 241 = .ok (.ifCond .eq 48, 3) := by decide +kernel
theorem dL_isStayed_244 : decode cL_isStayed 244 = .ok (.aload_n 0, 1) := by decide +kernel
theorem dL_isStayed_245 : decode cL_isStayed 245 = .ok (.bipush 21, 2) := by decide +kernel
theorem dL_isStayed_247 : decode cL_isStayed 247 = .ok (.iconst 0, 1) := by decide +kernel
theorem dL_isStayed_248 : decode cL_isStayed 248 = .ok (.iconst 0, 1) := by decide +kernel
theorem dL_isStayed_249 : decode cL_isStayed 249 = .ok (.iconst 0, 1) := by decide +kernel
theorem dL_isStayed_250 : decode cL_isStayed 250 = .ok (.invokestatic 220, 3) := by decide +kernel
theorem dL_isStayed_253 : decode cL_isStayed 253 = .ok (.ifCond .lt 36, 3) := by decide +kernel
theorem dL_isStayed_256 : decode cL_isStayed 256 = .ok (.iload 6, 2) := by decide +kernel
theorem dL_isStayed_258 : decode cL_isStayed 258 = .ok (.ifCond .lt 27, 3) := by decide +kernel
theorem dL_isStayed_261 : decode cL_isStayed 261 = .ok (.aload_n 0, 1) := by decide +kernel
theorem dL_isStayed_262 : decode cL_isStayed 262 = .ok (.bipush 21, 2) := by decide +kernel
theorem dL_isStayed_264 : decode cL_isStayed 264 = .ok (.iconst 0, 1) := by decide +kernel
theorem dL_isStayed_265 : decode cL_isStayed 265 = .ok (.iconst 0, 1) := by decide +kernel
theorem dL_isStayed_266 : decode cL_isStayed 266 = .ok (.iconst 0, 1) := by decide +kernel
theorem dL_isStayed_267 : decode cL_isStayed 267 = .ok (.invokestatic 220, 3) := by decide +kernel
theorem dL_isStayed_270 : decode cL_isStayed 270 = .ok (.ifCond .lt 19, 3) := by decide +kernel
theorem dL_isStayed_273 : decode cL_isStayed 273 = .ok (.aload_n 0, 1) := by decide +kernel
theorem dL_isStayed_274 : decode cL_isStayed 274 = .ok (.bipush 21, 2) := by decide +kernel
theorem dL_isStayed_276 : decode cL_isStayed 276 = .ok (.iconst 0, 1) := by decide +kernel
theorem dL_isStayed_277 : decode cL_isStayed 277 = .ok (.iconst 0, 1) := by decide +kernel
theorem dL_isStayed_278 : decode cL_isStayed 278 = .ok (.iconst 0, 1) := by decide +kernel
theorem dL_isStayed_279 : decode cL_isStayed 279 = .ok (.invokestatic 220, 3) := by decide +kernel
theorem dL_isStayed_282 : decode cL_isStayed 282 = .ok (.ifCond .lt 7, 3) := by decide +kernel
theorem dL_isStayed_285 : decode cL_isStayed 285 = .ok (.iconst 1, 1) := by decide +kernel
theorem dL_isStayed_286 : decode cL_isStayed 286 = .ok (.goto 4, 3) := by decide +kernel
theorem dL_isStayed_289 : decode cL_isStayed 289 = .ok (.iconst 0, 1) := by decide +kernel
theorem dL_isStayed_290 : decode cL_isStayed 290 = .ok (.istore 7, 2) := by decide +kernel
theorem dL_isStayed_292 : decode cL_isStayed 292 = .ok (.iload 7, 2) := by decide +kernel
theorem dL_isStayed_294 : decode cL_isStayed 294 = .ok (.ifCond .eq 15, 3) := by decide +kernel
theorem dL_isStayed_297 : decode cL_isStayed 297 = .ok (.aload_n 0, 1) := by decide +kernel
theorem dL_isStayed_298 : decode cL_isStayed 298 = .ok (.invokestatic 245, 3) := by decide +kernel
theorem dL_isStayed_301 : decode cL_isStayed 301 = .ok (.iload_n 2, 1) := by decide +kernel
theorem dL_isStayed_302 : decode cL_isStayed 302 = .ok (.if_icmp .ne 7, 3) := by decide +kernel
theorem dL_isStayed_305 : decode cL_isStayed 305 = .ok (.iconst 1, 1) := by decide +kernel
theorem dL_isStayed_306 : decode cL_isStayed 306 = .ok (.goto 4, 3) := by decide +kernel
theorem dL_isStayed_309 : decode cL_isStayed 309 = .ok (.iconst 0, 1) := by decide +kernel
theorem dL_isStayed_310 : decode cL_isStayed 310 = .ok (.ireturn, 1) := by decide +kernel
theorem dL_law_0 : decode cL_law 0 = .ok (.new 16, 3) := by decide +kernel
theorem dL_law_3 : decode cL_law 3 = .ok (.dup, 1) := by decide +kernel
theorem dL_law_4 : decode cL_law 4 = .ok (.invokespecial 249, 3) := by decide +kernel
theorem dL_law_7 : decode cL_law 7 = .ok (.astore_n 1, 1) := by decide +kernel
theorem dL_law_8 : decode cL_law 8 = .ok (.aload_n 1, 1) := by decide +kernel
theorem dL_law_9 : decode cL_law 9 = .ok (.aload_n 0, 1) := by decide +kernel
theorem dL_law_10 : decode cL_law 10 = .ok (.invokestatic 250, 3) := by decide +kernel
theorem dL_law_13 : decode cL_law 13 = .ok (.aload_n 1, 1) := by decide +kernel
theorem dL_law_14 : decode cL_law 14 = .ok (.invokestatic 254, 3) := by decide +kernel
theorem dL_law_17 : decode cL_law 17 = .ok (.ifCond .eq 21, 3) := by decide +kernel
theorem dL_law_20 : decode cL_law 20 = .ok (.aload_n 1, 1) := by decide +kernel
theorem dL_law_21 : decode cL_law 21 = .ok (.invokestatic 258, 3) := by decide +kernel
theorem dL_law_24 : decode cL_law 24 = .ok (.ifCond .eq 14, 3) := by decide +kernel
theorem dL_law_27 : decode cL_law 27 = .ok (.aload_n 1, 1) := by decide +kernel
theorem dL_law_28 : decode cL_law 28 = .ok (.invokevirtual 261, 3) := by decide +kernel
theorem dL_law_31 : decode cL_law 31 = .ok (.ifCond .eq 7, 3) := by decide +kernel
theorem dL_law_34 : decode cL_law 34 = .ok (.iconst 1, 1) := by decide +kernel
theorem dL_law_35 : decode cL_law 35 = .ok (.goto 4, 3) := by decide +kernel
theorem dL_law_38 : decode cL_law 38 = .ok (.iconst 0, 1) := by decide +kernel
theorem dL_law_39 : decode cL_law 39 = .ok (.istore_n 2, 1) := by decide +kernel
theorem dL_law_40 : decode cL_law 40 = .ok (.iconst 0, 1) := by decide +kernel
theorem dL_law_41 : decode cL_law 41 = .ok (.istore_n 3, 1) := by decide +kernel
theorem dL_law_42 : decode cL_law 42 = .ok (.iload_n 3, 1) := by decide +kernel
theorem dL_law_43 : decode cL_law 43 = .ok (.bipush 8, 2) := by decide +kernel
theorem dL_law_45 : decode cL_law 45 = .ok (.if_icmp .ge 169, 3) := by decide +kernel
theorem dL_law_48 : decode cL_law 48 = .ok (.iload_n 2, 1) := by decide +kernel
theorem dL_law_49 : decode cL_law 49 = .ok (.ifCond .eq 165, 3) := by decide +kernel
theorem dL_law_52 : decode cL_law 52 = .ok (.aload_n 1, 1) := by decide +kernel
theorem dL_law_53 : decode cL_law 53 = .ok (.invokestatic 245, 3) := by decide +kernel
theorem dL_law_56 : decode cL_law 56 = .ok (.istore 4, 2) := by decide +kernel
theorem dL_law_58 : decode cL_law 58 = .ok (.aload_n 1, 1) := by decide +kernel
theorem dL_law_59 : decode cL_law 59 = .ok (.aload_n 0, 1) := by decide +kernel
theorem dL_law_60 : decode cL_law 60 = .ok (.bipush 100, 2) := by decide +kernel
theorem dL_law_62 : decode cL_law 62 = .ok (.iconst 5, 1) := by decide +kernel
theorem dL_law_63 : decode cL_law 63 = .ok (.iload_n 3, 1) := by decide +kernel
theorem dL_law_64 : decode cL_law 64 = .ok (.imul, 1) := by decide +kernel
theorem dL_law_65 : decode cL_law 65 = .ok (.iadd, 1) := by decide +kernel
theorem dL_law_66 : decode cL_law 66 = .ok (.invokestatic 265, 3) := by decide +kernel
theorem dL_law_69 : decode cL_law 69 = .ok (.istore 5, 2) := by decide +kernel
theorem dL_law_71 : decode cL_law 71 = .ok (.aload_n 1, 1) := by decide +kernel
theorem dL_law_72 : decode cL_law 72 = .ok (.invokestatic 254, 3) := by decide +kernel
theorem dL_law_75 : decode cL_law 75 = .ok (.ifCond .eq 34, 3) := by decide +kernel
theorem dL_law_78 : decode cL_law 78 = .ok (.iload_n 3, 1) := by decide +kernel
theorem dL_law_79 : decode cL_law 79 = .ok (.iconst 3, 1) := by decide +kernel
theorem dL_law_80 : decode cL_law 80 = .ok (.irem, 1) := by decide +kernel
theorem dL_law_81 : decode cL_law 81 = .ok (.ifCond .gt 10, 3) := by decide +kernel
theorem dL_law_84 : decode cL_law 84 = .ok (.aload_n 1, 1) := by decide +kernel
theorem dL_law_85 : decode cL_law 85 = .ok (.invokestatic 258, 3) := by decide +kernel
theorem dL_law_88 : decode cL_law 88 = .ok (.ifCond .eq 21, 3) := by decide +kernel
theorem dL_law_91 : decode cL_law 91 = .ok (.iload 5, 2) := by decide +kernel
theorem dL_law_93 : decode cL_law 93 = .ok (.ifCond .ge 12, 3) := by decide +kernel
theorem dL_law_96 : decode cL_law 96 = .ok (.aload_n 1, 1) := by decide +kernel
theorem dL_law_97 : decode cL_law 97 = .ok (.invokestatic 245, 3) := by decide +kernel
theorem dL_law_100 : decode cL_law 100 = .ok (.iload 4, 2) := by decide +kernel
theorem dL_law_102 : decode cL_law 102 = .ok (.if_icmp .ne 7, 3) := by decide +kernel
theorem dL_law_105 : decode cL_law 105 = .ok (.iconst 1, 1) := by decide +kernel
theorem dL_law_106 : decode cL_law 106 = .ok (.goto 4, 3) := by decide +kernel
theorem dL_law_109 : decode cL_law 109 = .ok (.iconst 0, 1) := by decide +kernel
theorem dL_law_110 : decode cL_law 110 = .ok (.istore_n 2, 1) := by decide +kernel
theorem dL_law_111 : decode cL_law 111 = .ok (.iload_n 2, 1) := by decide +kernel
theorem dL_law_112 : decode cL_law 112 = .ok (.ifCond .eq 49, 3) := by decide +kernel
theorem dL_law_115 : decode cL_law 115 = .ok (.aload_n 1, 1) := by decide +kernel
theorem dL_law_116 : decode cL_law 116 = .ok (.aload_n 0, 1) := by decide +kernel
theorem dL_law_117 : decode cL_law 117 = .ok (.sipush 200, 3) := by decide +kernel
theorem dL_law_120 : decode cL_law 120 = .ok (.bipush 7, 2) := by decide +kernel
theorem dL_law_122 : decode cL_law 122 = .ok (.iload_n 3, 1) := by decide +kernel
theorem dL_law_123 : decode cL_law 123 = .ok (.imul, 1) := by decide +kernel
theorem dL_law_124 : decode cL_law 124 = .ok (.iadd, 1) := by decide +kernel
theorem dL_law_125 : decode cL_law 125 = .ok (.invokestatic 269, 3) := by decide +kernel
theorem dL_law_128 : decode cL_law 128 = .ok (.ifCond .eq 33, 3) := by decide +kernel
theorem dL_law_131 : decode cL_law 131 = .ok (.iload_n 3, 1) := by decide +kernel
theorem dL_law_132 : decode cL_law 132 = .ok (.iconst 3, 1) := by decide +kernel
theorem dL_law_133 : decode cL_law 133 = .ok (.irem, 1) := by decide +kernel
theorem dL_law_134 : decode cL_law 134 = .ok (.ifCond .gt 23, 3) := by decide +kernel
theorem dL_law_137 : decode cL_law 137 = .ok (.aload_n 1, 1) := by decide +kernel
theorem dL_law_138 : decode cL_law 138 = .ok (.iconst 1, 1) := by decide +kernel
theorem dL_law_139 : decode cL_law 139 = .ok (.aload_n 0, 1) := by decide +kernel
theorem dL_law_140 : decode cL_law 140 = .ok (.sipush 400, 3) := by decide +kernel
theorem dL_law_143 : decode cL_law 143 = .ok (.iload_n 3, 1) := by decide +kernel
theorem dL_law_144 : decode cL_law 144 = .ok (.iadd, 1) := by decide +kernel
theorem dL_law_145 : decode cL_law 145 = .ok (.bipush 40, 2) := by decide +kernel
theorem dL_law_147 : decode cL_law 147 = .ok (.invokestatic 223, 3) := by decide +kernel
theorem dL_law_150 : decode cL_law 150 = .ok (.iadd, 1) := by decide +kernel
theorem dL_law_151 : decode cL_law 151 = .ok (.invokestatic 273, 3) := by decide +kernel
theorem dL_law_154 : decode cL_law 154 = .ok (.ifCond .eq 7, 3) := by decide +kernel
theorem dL_law_157 : decode cL_law 157 = .ok (.iconst 1, 1) := by decide +kernel
theorem dL_law_158 : decode cL_law 158 = .ok (.goto 4, 3) := by decide +kernel
theorem dL_law_161 : decode cL_law 161 = .ok (.iconst 0, 1) := by decide +kernel
theorem dL_law_162 : decode cL_law 162 = .ok (.istore_n 2, 1) := by decide +kernel
theorem dL_law_163 : decode cL_law 163 = .ok (.aload_n 1, 1) := by decide +kernel
theorem dL_law_164 : decode cL_law 164 = .ok (.invokestatic 245, 3) := by decide +kernel
theorem dL_law_167 : decode cL_law 167 = .ok (.istore 6, 2) := by decide +kernel
theorem dL_law_169 : decode cL_law 169 = .ok (.iload_n 2, 1) := by decide +kernel
theorem dL_law_170 : decode cL_law 170 = .ok (.ifCond .eq 36, 3) := by decide +kernel
theorem dL_law_173 : decode cL_law 173 = .ok (.iload_n 3, 1) := by decide +kernel
theorem dL_law_174 : decode cL_law 174 = .ok (.iconst 4, 1) := by decide +kernel
theorem dL_law_175 : decode cL_law 175 = .ok (.irem, 1) := by decide +kernel
theorem dL_law_176 : decode cL_law 176 = .ok (.ifCond .gt 26, 3) := by decide +kernel
theorem dL_law_179 : decode cL_law 179 = .ok (.iload 5, 2) := by decide +kernel
theorem dL_law_181 : decode cL_law 181 = .ok (.ifCond .lt 21, 3) := by decide +kernel
theorem dL_law_184 : decode cL_law 184 = .ok (.aload_n 1, 1) := by decide +kernel
theorem dL_law_185 : decode cL_law 185 = .ok (.aload_n 0, 1) := by decide +kernel
theorem dL_law_186 : decode cL_law 186 = .ok (.sipush 500, 3) := by decide +kernel
theorem dL_law_189 : decode cL_law 189 = .ok (.bipush 6, 2) := by decide +kernel
theorem dL_law_191 : decode cL_law 191 = .ok (.iload_n 3, 1) := by decide +kernel
theorem dL_law_192 : decode cL_law 192 = .ok (.imul, 1) := by decide +kernel
theorem dL_law_193 : decode cL_law 193 = .ok (.iadd, 1) := by decide +kernel
theorem dL_law_194 : decode cL_law 194 = .ok (.iload 6, 2) := by decide +kernel
theorem dL_law_196 : decode cL_law 196 = .ok (.invokestatic 277, 3) := by decide +kernel
theorem dL_law_199 : decode cL_law 199 = .ok (.ifCond .eq 7, 3) := by decide +kernel
theorem dL_law_202 : decode cL_law 202 = .ok (.iconst 1, 1) := by decide +kernel
theorem dL_law_203 : decode cL_law 203 = .ok (.goto 4, 3) := by decide +kernel
theorem dL_law_206 : decode cL_law 206 = .ok (.iconst 0, 1) := by decide +kernel
theorem dL_law_207 : decode cL_law 207 = .ok (.istore_n 2, 1) := by decide +kernel
theorem dL_law_208 : decode cL_law 208 = .ok (.iinc 3 1, 3) := by decide +kernel
theorem dL_law_211 : decode cL_law 211 = .ok (.goto (-169), 3) := by decide +kernel
theorem dL_law_214 : decode cL_law 214 = .ok (.iload_n 2, 1) := by decide +kernel
theorem dL_law_215 : decode cL_law 215 = .ok (.ifCond .eq 21, 3) := by decide +kernel
theorem dL_law_218 : decode cL_law 218 = .ok (.aload_n 1, 1) := by decide +kernel
theorem dL_law_219 : decode cL_law 219 = .ok (.invokestatic 281, 3) := by decide +kernel
theorem dL_law_222 : decode cL_law 222 = .ok (.ifCond .eq 14, 3) := by decide +kernel
theorem dL_law_225 : decode cL_law 225 = .ok (.aload_n 1, 1) := by decide +kernel
theorem dL_law_226 : decode cL_law 226 = .ok (.invokevirtual 261, 3) := by decide +kernel
theorem dL_law_229 : decode cL_law 229 = .ok (.ifCond .eq 7, 3) := by decide +kernel
theorem dL_law_232 : decode cL_law 232 = .ok (.iconst 1, 1) := by decide +kernel
theorem dL_law_233 : decode cL_law 233 = .ok (.goto 4, 3) := by decide +kernel
theorem dL_law_236 : decode cL_law 236 = .ok (.iconst 0, 1) := by decide +kernel
theorem dL_law_237 : decode cL_law 237 = .ok (.ireturn, 1) := by decide +kernel
theorem dL_isUndone_0 : decode cL_isUndone 0 = .ok (.aload_n 0, 1) := by decide +kernel
theorem dL_isUndone_1 : decode cL_isUndone 1 = .ok (.aload_n 1, 1) := by decide +kernel
theorem dL_isUndone_2 : decode cL_isUndone 2 = .ok (.iload_n 2, 1) := by decide +kernel
theorem dL_isUndone_3 : decode cL_isUndone 3 = .ok (.invokestatic 265, 3) := by decide +kernel
theorem dL_isUndone_6 : decode cL_isUndone 6 = .ok (.istore 4, 2) := by decide +kernel
theorem dL_isUndone_8 : decode cL_isUndone 8 = .ok (.iload 4, 2) := by decide +kernel
theorem dL_isUndone_10 : decode cL_isUndone 10 = .ok (.ifCond .ge 19, 3) := by decide +kernel
theorem dL_isUndone_13 : decode cL_isUndone 13 = .ok (.aload_n 0, 1) := by decide +kernel
theorem dL_isUndone_14 : decode cL_isUndone 14 = .ok (.invokestatic 245, 3) := by decide +kernel
theorem dL_isUndone_17 : decode cL_isUndone 17 = .ok (.iload_n 3, 1) := by decide +kernel
theorem dL_isUndone_18 : decode cL_isUndone 18 = .ok (.if_icmp .ne 7, 3) := by decide +kernel
theorem dL_isUndone_21 : decode cL_isUndone 21 = .ok (.iconst 1, 1) := by decide +kernel
theorem dL_isUndone_22 : decode cL_isUndone 22 = .ok (.goto 32, 3) := by decide +kernel
theorem dL_isUndone_25 : decode cL_isUndone 25 = .ok (.iconst 0, 1) := by decide +kernel
theorem dL_isUndone_26 : decode cL_isUndone 26 = .ok (.goto 28, 3) := by decide +kernel
theorem dL_isUndone_29 : decode cL_isUndone 29 = .ok (.aload_n 0, 1) := by decide +kernel
theorem dL_isUndone_30 : decode cL_isUndone 30 = .ok (.bipush 21, 2) := by decide +kernel
theorem dL_isUndone_32 : decode cL_isUndone 32 = .ok (.iconst 0, 1) := by decide +kernel
theorem dL_isUndone_33 : decode cL_isUndone 33 = .ok (.iconst 0, 1) := by decide +kernel
theorem dL_isUndone_34 : decode cL_isUndone 34 = .ok (.iconst 0, 1) := by decide +kernel
theorem dL_isUndone_35 : decode cL_isUndone 35 = .ok (.invokestatic 220, 3) := by decide +kernel
theorem dL_isUndone_38 : decode cL_isUndone 38 = .ok (.ifCond .lt 15, 3) := by decide +kernel
theorem dL_isUndone_41 : decode cL_isUndone 41 = .ok (.aload_n 0, 1) := by decide +kernel
theorem dL_isUndone_42 : decode cL_isUndone 42 = .ok (.invokestatic 245, 3) := by decide +kernel
theorem dL_isUndone_45 : decode cL_isUndone 45 = .ok (.iload_n 3, 1) := by decide +kernel
theorem dL_isUndone_46 : decode cL_isUndone 46 = .ok (.if_icmp .ne 7, 3) := by decide +kernel
theorem dL_isUndone_49 : decode cL_isUndone 49 = .ok (.iconst 1, 1) := by decide +kernel
theorem dL_isUndone_50 : decode cL_isUndone 50 = .ok (.goto 4, 3) := by decide +kernel
theorem dL_isUndone_53 : decode cL_isUndone 53 = .ok (.iconst 0, 1) := by decide +kernel
theorem dL_isUndone_54 : decode cL_isUndone 54 = .ok (.ireturn, 1) := by decide +kernel
