theorem dX11_trySetRule_42 : decode cX11_trySetRule 42 = .ok (.getfield 210, 3) := by decide +kernel
theorem dX11_trySetRule_45 : decode cX11_trySetRule 45 = .ok (.getfield 214, 3) := by decide +kernel
theorem dX11_trySetRule_48 : decode cX11_trySetRule 48 = .ok (.iload_n 1, 1) := by decide +kernel
theorem dX11_trySetRule_49 : decode cX11_trySetRule 49 = .ok (.iload_n 2, 1) := by decide +kernel
theorem dX11_trySetRule_50 : decode cX11_trySetRule 50 = .ok (.iastore, 1) := by decide +kernel
theorem dX11_trySetRule_51 : decode cX11_trySetRule 51 = .ok (.aload_n 0, 1) := by decide +kernel
theorem dX11_trySetRule_52 : decode cX11_trySetRule 52 = .ok (.getfield 26, 3) := by decide +kernel
theorem dX11_trySetRule_55 : decode cX11_trySetRule 55 = .ok (.getfield 210, 3) := by decide +kernel
theorem dX11_trySetRule_58 : decode cX11_trySetRule 58 = .ok (.getfield 217, 3) := by decide +kernel
theorem dX11_trySetRule_61 : decode cX11_trySetRule 61 = .ok (.iload_n 1, 1) := by decide +kernel
theorem dX11_trySetRule_62 : decode cX11_trySetRule 62 = .ok (.iload_n 3, 1) := by decide +kernel
theorem dX11_trySetRule_63 : decode cX11_trySetRule 63 = .ok (.bastore, 1) := by decide +kernel
theorem dX11_trySetRule_64 : decode cX11_trySetRule 64 = .ok (.iload 4, 2) := by decide +kernel
theorem dX11_trySetRule_66 : decode cX11_trySetRule 66 = .ok (.ireturn, 1) := by decide +kernel
theorem dX11_trySetServiceDays_0 : decode cX11_trySetServiceDays 0 = .ok (.iload_n 1, 1) := by decide +kernel
theorem dX11_trySetServiceDays_1 : decode cX11_trySetServiceDays 1 = .ok (.invokestatic 225, 3) := by decide +kernel
theorem dX11_trySetServiceDays_4 : decode cX11_trySetServiceDays 4 = .ok (.istore_n 3, 1) := by decide +kernel
theorem dX11_trySetServiceDays_5 : decode cX11_trySetServiceDays 5 = .ok (.iload_n 3, 1) := by decide +kernel
theorem dX11_trySetServiceDays_6 : decode cX11_trySetServiceDays 6 = .ok (.iconst (-1), 1) := by decide +kernel
theorem dX11_trySetServiceDays_7 : decode cX11_trySetServiceDays 7 = .ok (.if_icmp .eq 13, 3) := by decide +kernel
theorem dX11_trySetServiceDays_10 : decode cX11_trySetServiceDays 10 = .ok (.iload_n 2, 1) := by decide +kernel
theorem dX11_trySetServiceDays_11 : decode cX11_trySetServiceDays 11 = .ok (.ifCond .lt 9, 3) := by decide +kernel
theorem dX11_trySetServiceDays_14 : decode cX11_trySetServiceDays 14 = .ok (.iload_n 2, 1) := by decide +kernel
theorem dX11_trySetServiceDays_15 : decode cX11_trySetServiceDays 15 = .ok (.bipush 30, 2) := by decide +kernel
theorem dX11_trySetServiceDays_17 : decode cX11_trySetServiceDays 17 = .ok (.if_icmp .le 6, 3) := by decide +kernel
theorem dX11_trySetServiceDays_20 : decode cX11_trySetServiceDays 20 = .ok (.bipush (-2), 2) := by decide +kernel
theorem dX11_trySetServiceDays_22 : decode cX11_trySetServiceDays 22 = .ok (.ireturn, 1) := by decide +kernel
theorem dX11_trySetServiceDays_23 : decode cX11_trySetServiceDays 23 = .ok (.aload_n 0, 1) := by decide +kernel
theorem dX11_trySetServiceDays_24 : decode cX11_trySetServiceDays 24 = .ok (.getfield 26, 3) := by decide +kernel
theorem dX11_trySetServiceDays_27 : decode cX11_trySetServiceDays 27 = .ok (.getfield 210, 3) := by decide +kernel
theorem dX11_trySetServiceDays_30 : decode cX11_trySetServiceDays 30 = .ok (.getfield 231, 3) := by decide +kernel
theorem dX11_trySetServiceDays_33 : decode cX11_trySetServiceDays 33 = .ok (.iload_n 3, 1) := by decide +kernel
theorem dX11_trySetServiceDays_34 : decode cX11_trySetServiceDays 34 = .ok (.iaload, 1) := by decide +kernel
theorem dX11_trySetServiceDays_35 : decode cX11_trySetServiceDays 35 = .ok (.istore 4, 2) := by decide +kernel
theorem dX11_trySetServiceDays_37 : decode cX11_trySetServiceDays 37 = .ok (.aload_n 0, 1) := by decide +kernel
theorem dX11_trySetServiceDays_38 : decode cX11_trySetServiceDays 38 = .ok (.getfield 26, 3) := by decide +kernel
theorem dX11_trySetServiceDays_41 : decode cX11_trySetServiceDays 41 = .ok (.getfield 210, 3) := by decide +kernel
theorem dX11_trySetServiceDays_44 : decode cX11_trySetServiceDays 44 = .ok (.getfield 231, 3) := by decide +kernel
theorem dX11_trySetServiceDays_47 : decode cX11_trySetServiceDays 47 = .ok (.iload_n 3, 1) := by decide +kernel
theorem dX11_trySetServiceDays_48 : decode cX11_trySetServiceDays 48 = .ok (.iload_n 2, 1) := by decide +kernel
theorem dX11_trySetServiceDays_49 : decode cX11_trySetServiceDays 49 = .ok (.iastore, 1) := by decide +kernel
theorem dX11_trySetServiceDays_50 : decode cX11_trySetServiceDays 50 = .ok (.iload 4, 2) := by decide +kernel
theorem dX11_trySetServiceDays_52 : decode cX11_trySetServiceDays 52 = .ok (.ireturn, 1) := by decide +kernel
theorem dX11_isRule_0 : decode cX11_isRule 0 = .ok (.iload_n 0, 1) := by decide +kernel
theorem dX11_isRule_1 : decode cX11_isRule 1 = .ok (.ifCond .lt 13, 3) := by decide +kernel
theorem dX11_isRule_4 : decode cX11_isRule 4 = .ok (.iload_n 0, 1) := by decide +kernel
theorem dX11_isRule_5 : decode cX11_isRule 5 = .ok (.bipush 8, 2) := by decide +kernel
theorem dX11_isRule_7 : decode cX11_isRule 7 = .ok (.if_icmp .ge 7, 3) := by decide +kernel
theorem dX11_isRule_10 : decode cX11_isRule 10 = .ok (.iconst 1, 1) := by decide +kernel
theorem dX11_isRule_11 : decode cX11_isRule 11 = .ok (.goto 4, 3) := by decide +kernel
theorem dX11_isRule_14 : decode cX11_isRule 14 = .ok (.iconst 0, 1) := by decide +kernel
theorem dX11_isRule_15 : decode cX11_isRule 15 = .ok (.ireturn, 1) := by decide +kernel
theorem dX11_needRule_0 : decode cX11_needRule 0 = .ok (.iload_n 0, 1) := by decide +kernel
theorem dX11_needRule_1 : decode cX11_needRule 1 = .ok (.invokestatic 241, 3) := by decide +kernel
theorem dX11_needRule_4 : decode cX11_needRule 4 = .ok (.ifCond .ne 13, 3) := by decide +kernel
theorem dX11_needRule_7 : decode cX11_needRule 7 = .ok (.new 132, 3) := by decide +kernel
theorem dX11_needRule_10 : decode cX11_needRule 10 = .ok (.dup, 1) := by decide +kernel
theorem dX11_needRule_11 : decode cX11_needRule 11 = .ok (.ldc 244, 2) := by decide +kernel
theorem dX11_needRule_13 : decode cX11_needRule 13 = .ok (.invokespecial 136, 3) := by decide +kernel
theorem dX11_needRule_16 : decode cX11_needRule 16 = .ok (.athrow, 1) := by decide +kernel
theorem dX11_needRule_17 : decode cX11_needRule 17 = .ok (.return_, 1) := by decide +kernel
theorem dX11_needNotBeforeDayZero_0 : decode cX11_needNotBeforeDayZero 0 = .ok (.iload_n 0, 1) := by decide +kernel
theorem dX11_needNotBeforeDayZero_1 : decode cX11_needNotBeforeDayZero 1 = .ok (.ifCond .ge 13, 3) := by decide +kernel
theorem dX11_needNotBeforeDayZero_4 : decode cX11_needNotBeforeDayZero 4 = .ok (.new 117, 3) := by decide +kernel
theorem dX11_needNotBeforeDayZero_7 : decode cX11_needNotBeforeDayZero 7 = .ok (.dup, 1) := by decide +kernel
theorem dX11_needNotBeforeDayZero_8 : decode cX11_needNotBeforeDayZero 8 = .ok (.ldc 246, 2) := by decide +kernel
theorem dX11_needNotBeforeDayZero_10 : decode cX11_needNotBeforeDayZero 10 = .ok (.invokespecial 121, 3) := by decide +kernel
theorem dX11_needNotBeforeDayZero_13 : decode cX11_needNotBeforeDayZero 13 = .ok (.athrow, 1) := by decide +kernel
theorem dX11_needNotBeforeDayZero_14 : decode cX11_needNotBeforeDayZero 14 = .ok (.iload_n 0, 1) := by decide +kernel
theorem dX11_needNotBeforeDayZero_15 : decode cX11_needNotBeforeDayZero 15 = .ok (.ireturn, 1) := by decide +kernel
theorem dX11_serve_0 : decode cX11_serve 0 = .ok (.aload_n 0, 1) := by decide +kernel
theorem dX11_serve_1 : decode cX11_serve 1 = .ok (.invokevirtual 89, 3) := by decide +kernel
theorem dX11_serve_4 : decode cX11_serve 4 = .ok (.aload_n 0, 1) := by decide +kernel
theorem dX11_serve_5 : decode cX11_serve 5 = .ok (.aload_n 0, 1) := by decide +kernel
theorem dX11_serve_6 : decode cX11_serve 6 = .ok (.iload_n 1, 1) := by decide +kernel
theorem dX11_serve_7 : decode cX11_serve 7 = .ok (.iload_n 2, 1) := by decide +kernel
theorem dX11_serve_8 : decode cX11_serve 8 = .ok (.iload_n 3, 1) := by decide +kernel
theorem dX11_serve_9 : decode cX11_serve 9 = .ok (.invokevirtual 248, 3) := by decide +kernel
theorem dX11_serve_12 : decode cX11_serve 12 = .ok (.invokevirtual 96, 3) := by decide +kernel
theorem dX11_serve_15 : decode cX11_serve 15 = .ok (.ireturn, 1) := by decide +kernel
theorem dX11_deadlines_0 : decode cX11_deadlines 0 = .ok (.aload_n 0, 1) := by decide +kernel
theorem dX11_deadlines_1 : decode cX11_deadlines 1 = .ok (.getfield 26, 3) := by decide +kernel
theorem dX11_deadlines_4 : decode cX11_deadlines 4 = .ok (.getfield 252, 3) := by decide +kernel
theorem dX11_deadlines_7 : decode cX11_deadlines 7 = .ok (.getfield 256, 3) := by decide +kernel
theorem dX11_deadlines_10 : decode cX11_deadlines 10 = .ok (.ireturn, 1) := by decide +kernel
theorem dX11_due_0 : decode cX11_due 0 = .ok (.aload_n 0, 1) := by decide +kernel
theorem dX11_due_1 : decode cX11_due 1 = .ok (.iload_n 1, 1) := by decide +kernel
theorem dX11_due_2 : decode cX11_due 2 = .ok (.invokevirtual 259, 3) := by decide +kernel
theorem dX11_due_5 : decode cX11_due 5 = .ok (.aload_n 0, 1) := by decide +kernel
theorem dX11_due_6 : decode cX11_due 6 = .ok (.getfield 47, 3) := by decide +kernel
theorem dX11_due_9 : decode cX11_due 9 = .ok (.aload_n 0, 1) := by decide +kernel
theorem dX11_due_10 : decode cX11_due 10 = .ok (.getfield 26, 3) := by decide +kernel
theorem dX11_due_13 : decode cX11_due 13 = .ok (.getfield 252, 3) := by decide +kernel
theorem dX11_due_16 : decode cX11_due 16 = .ok (.iload_n 1, 1) := by decide +kernel
theorem dX11_due_17 : decode cX11_due 17 = .ok (.invokevirtual 262, 3) := by decide +kernel
theorem dX11_due_20 : decode cX11_due 20 = .ok (.invokestatic 266, 3) := by decide +kernel
theorem dX11_due_23 : decode cX11_due 23 = .ok (.ireturn, 1) := by decide +kernel
theorem dX11_dueByMarking_0 : decode cX11_dueByMarking 0 = .ok (.aload_n 0, 1) := by decide +kernel
theorem dX11_dueByMarking_1 : decode cX11_dueByMarking 1 = .ok (.iload_n 1, 1) := by decide +kernel
theorem dX11_dueByMarking_2 : decode cX11_dueByMarking 2 = .ok (.invokevirtual 259, 3) := by decide +kernel
theorem dX11_dueByMarking_5 : decode cX11_dueByMarking 5 = .ok (.aload_n 0, 1) := by decide +kernel
theorem dX11_dueByMarking_6 : decode cX11_dueByMarking 6 = .ok (.getfield 54, 3) := by decide +kernel
theorem dX11_dueByMarking_9 : decode cX11_dueByMarking 9 = .ok (.aload_n 0, 1) := by decide +kernel
theorem dX11_dueByMarking_10 : decode cX11_dueByMarking 10 = .ok (.getfield 26, 3) := by decide +kernel
theorem dX11_dueByMarking_13 : decode cX11_dueByMarking 13 = .ok (.getfield 252, 3) := by decide +kernel
theorem dX11_dueByMarking_16 : decode cX11_dueByMarking 16 = .ok (.iload_n 1, 1) := by decide +kernel
theorem dX11_dueByMarking_17 : decode cX11_dueByMarking 17 = .ok (.invokevirtual 269, 3) := by decide +kernel
theorem dX11_dueByMarking_20 : decode cX11_dueByMarking 20 = .ok (.invokestatic 266, 3) := by decide +kernel
theorem dX11_dueByMarking_23 : decode cX11_dueByMarking 23 = .ok (.ireturn, 1) := by decide +kernel
theorem dX11_daysLeft_0 : decode cX11_daysLeft 0 = .ok (.aload_n 0, 1) := by decide +kernel
theorem dX11_daysLeft_1 : decode cX11_daysLeft 1 = .ok (.iload_n 1, 1) := by decide +kernel
theorem dX11_daysLeft_2 : decode cX11_daysLeft 2 = .ok (.invokevirtual 259, 3) := by decide +kernel
theorem dX11_daysLeft_5 : decode cX11_daysLeft 5 = .ok (.aload_n 0, 1) := by decide +kernel
theorem dX11_daysLeft_6 : decode cX11_daysLeft 6 = .ok (.getfield 26, 3) := by decide +kernel
theorem dX11_daysLeft_9 : decode cX11_daysLeft 9 = .ok (.getfield 252, 3) := by decide +kernel
theorem dX11_daysLeft_12 : decode cX11_daysLeft 12 = .ok (.iload_n 1, 1) := by decide +kernel
theorem dX11_daysLeft_13 : decode cX11_daysLeft 13 = .ok (.invokevirtual 270, 3) := by decide +kernel
theorem dX11_daysLeft_16 : decode cX11_daysLeft 16 = .ok (.aload_n 0, 1) := by decide +kernel
theorem dX11_daysLeft_17 : decode cX11_daysLeft 17 = .ok (.getfield 47, 3) := by decide +kernel
theorem dX11_daysLeft_20 : decode cX11_daysLeft 20 = .ok (.aload_n 0, 1) := by decide +kernel
theorem dX11_daysLeft_21 : decode cX11_daysLeft 21 = .ok (.getfield 26, 3) := by decide +kernel
theorem dX11_daysLeft_24 : decode cX11_daysLeft 24 = .ok (.getfield 252, 3) := by decide +kernel
theorem dX11_daysLeft_27 : decode cX11_daysLeft 27 = .ok (.iload_n 1, 1) := by decide +kernel
theorem dX11_daysLeft_28 : decode cX11_daysLeft 28 = .ok (.aload_n 0, 1) := by decide +kernel
theorem dX11_daysLeft_29 : decode cX11_daysLeft 29 = .ok (.getfield 26, 3) := by decide +kernel
theorem dX11_daysLeft_32 : decode cX11_daysLeft 32 = .ok (.getfield 36, 3) := by decide +kernel
theorem dX11_daysLeft_35 : decode cX11_daysLeft 35 = .ok (.getfield 152, 3) := by decide +kernel
theorem dX11_daysLeft_38 : decode cX11_daysLeft 38 = .ok (.invokevirtual 273, 3) := by decide +kernel
theorem dX11_daysLeft_41 : decode cX11_daysLeft 41 = .ok (.isub, 1) := by decide +kernel
theorem dX11_daysLeft_42 : decode cX11_daysLeft 42 = .ok (.ireturn, 1) := by decide +kernel
theorem dX11_daysLeftByMarking_0 : decode cX11_daysLeftByMarking 0 = .ok (.aload_n 0, 1) := by decide +kernel
theorem dX11_daysLeftByMarking_1 : decode cX11_daysLeftByMarking 1 = .ok (.iload_n 1, 1) := by decide +kernel
theorem dX11_daysLeftByMarking_2 : decode cX11_daysLeftByMarking 2 = .ok (.invokevirtual 259, 3) := by decide +kernel
theorem dX11_daysLeftByMarking_5 : decode cX11_daysLeftByMarking 5 = .ok (.aload_n 0, 1) := by decide +kernel
theorem dX11_daysLeftByMarking_6 : decode cX11_daysLeftByMarking 6 = .ok (.getfield 26, 3) := by decide +kernel
theorem dX11_daysLeftByMarking_9 : decode cX11_daysLeftByMarking 9 = .ok (.getfield 252, 3) := by decide +kernel
theorem dX11_daysLeftByMarking_12 : decode cX11_daysLeftByMarking 12 = .ok (.iload_n 1, 1) := by decide +kernel
theorem dX11_daysLeftByMarking_13 : decode cX11_daysLeftByMarking 13 = .ok (.invokevirtual 270, 3) := by decide +kernel
theorem dX11_daysLeftByMarking_16 : decode cX11_daysLeftByMarking 16 = .ok (.aload_n 0, 1) := by decide +kernel
theorem dX11_daysLeftByMarking_17 : decode cX11_daysLeftByMarking 17 = .ok (.getfield 54, 3) := by decide +kernel
theorem dX11_daysLeftByMarking_20 : decode cX11_daysLeftByMarking 20 = .ok (.aload_n 0, 1) := by decide +kernel
theorem dX11_daysLeftByMarking_21 : decode cX11_daysLeftByMarking 21 = .ok (.getfield 26, 3) := by decide +kernel
theorem dX11_daysLeftByMarking_24 : decode cX11_daysLeftByMarking 24 = .ok (.getfield 252, 3) := by decide +kernel
theorem dX11_daysLeftByMarking_27 : decode cX11_daysLeftByMarking 27 = .ok (.iload_n 1, 1) := by decide +kernel
theorem dX11_daysLeftByMarking_28 : decode cX11_daysLeftByMarking 28 = .ok (.aload_n 0, 1) := by decide +kernel
theorem dX11_daysLeftByMarking_29 : decode cX11_daysLeftByMarking 29 = .ok (.getfield 26, 3) := by decide +kernel
theorem dX11_daysLeftByMarking_32 : decode cX11_daysLeftByMarking 32 = .ok (.getfield 36, 3) := by decide +kernel
theorem dX11_daysLeftByMarking_35 : decode cX11_daysLeftByMarking 35 = .ok (.getfield 152, 3) := by decide +kernel
theorem dX11_daysLeftByMarking_38 : decode cX11_daysLeftByMarking 38 = .ok (.invokevirtual 277, 3) := by decide +kernel
theorem dX11_daysLeftByMarking_41 : decode cX11_daysLeftByMarking 41 = .ok (.isub, 1) := by decide +kernel
theorem dX11_daysLeftByMarking_42 : decode cX11_daysLeftByMarking 42 = .ok (.ireturn, 1) := by decide +kernel
theorem dX11_extendByConsent_0 : decode cX11_extendByConsent 0 = .ok (.aload_n 0, 1) := by decide +kernel
theorem dX11_extendByConsent_1 : decode cX11_extendByConsent 1 = .ok (.invokevirtual 89, 3) := by decide +kernel
theorem dX11_extendByConsent_4 : decode cX11_extendByConsent 4 = .ok (.aload_n 0, 1) := by decide +kernel
theorem dX11_extendByConsent_5 : decode cX11_extendByConsent 5 = .ok (.aload_n 0, 1) := by decide +kernel
theorem dX11_extendByConsent_6 : decode cX11_extendByConsent 6 = .ok (.iload_n 1, 1) := by decide +kernel
theorem dX11_extendByConsent_7 : decode cX11_extendByConsent 7 = .ok (.iload_n 2, 1) := by decide +kernel
theorem dX11_extendByConsent_8 : decode cX11_extendByConsent 8 = .ok (.invokevirtual 278, 3) := by decide +kernel
theorem dX11_extendByConsent_11 : decode cX11_extendByConsent 11 = .ok (.invokevirtual 96, 3) := by decide +kernel
theorem dX11_extendByConsent_14 : decode cX11_extendByConsent 14 = .ok (.ireturn, 1) := by decide +kernel
theorem dX11_extendByOrder_0 : decode cX11_extendByOrder 0 = .ok (.aload_n 0, 1) := by decide +kernel
theorem dX11_extendByOrder_1 : decode cX11_extendByOrder 1 = .ok (.invokevirtual 89, 3) := by decide +kernel
theorem dX11_extendByOrder_4 : decode cX11_extendByOrder 4 = .ok (.aload_n 0, 1) := by decide +kernel
theorem dX11_extendByOrder_5 : decode cX11_extendByOrder 5 = .ok (.aload_n 0, 1) := by decide +kernel
theorem dX11_extendByOrder_6 : decode cX11_extendByOrder 6 = .ok (.iload_n 1, 1) := by decide +kernel
theorem dX11_extendByOrder_7 : decode cX11_extendByOrder 7 = .ok (.iload_n 2, 1) := by decide +kernel
theorem dX11_extendByOrder_8 : decode cX11_extendByOrder 8 = .ok (.invokevirtual 281, 3) := by decide +kernel
theorem dX11_extendByOrder_11 : decode cX11_extendByOrder 11 = .ok (.invokevirtual 96, 3) := by decide +kernel
theorem dX11_extendByOrder_14 : decode cX11_extendByOrder 14 = .ok (.ireturn, 1) := by decide +kernel
theorem dX11_extensionDays_0 : decode cX11_extensionDays 0 = .ok (.aload_n 0, 1) := by decide +kernel
theorem dX11_extensionDays_1 : decode cX11_extensionDays 1 = .ok (.iload_n 1, 1) := by decide +kernel
theorem dX11_extensionDays_2 : decode cX11_extensionDays 2 = .ok (.invokevirtual 259, 3) := by decide +kernel
theorem dX11_extensionDays_5 : decode cX11_extensionDays 5 = .ok (.aload_n 0, 1) := by decide +kernel
theorem dX11_extensionDays_6 : decode cX11_extensionDays 6 = .ok (.getfield 26, 3) := by decide +kernel
theorem dX11_extensionDays_9 : decode cX11_extensionDays 9 = .ok (.getfield 252, 3) := by decide +kernel
theorem dX11_extensionDays_12 : decode cX11_extensionDays 12 = .ok (.getfield 284, 3) := by decide +kernel
theorem dX11_extensionDays_15 : decode cX11_extensionDays 15 = .ok (.iload_n 1, 1) := by decide +kernel
theorem dX11_extensionDays_16 : decode cX11_extensionDays 16 = .ok (.iaload, 1) := by decide +kernel
theorem dX11_extensionDays_17 : decode cX11_extensionDays 17 = .ok (.ireturn, 1) := by decide +kernel
theorem dX11_file_0 : decode cX11_file 0 = .ok (.aload_n 0, 1) := by decide +kernel
theorem dX11_file_1 : decode cX11_file 1 = .ok (.invokevirtual 89, 3) := by decide +kernel
theorem dX11_file_4 : decode cX11_file 4 = .ok (.aload_n 0, 1) := by decide +kernel
theorem dX11_file_5 : decode cX11_file 5 = .ok (.aload_n 0, 1) := by decide +kernel
theorem dX11_file_6 : decode cX11_file 6 = .ok (.iload_n 1, 1) := by decide +kernel
theorem dX11_file_7 : decode cX11_file 7 = .ok (.invokevirtual 287, 3) := by decide +kernel
theorem dX11_file_10 : decode cX11_file 10 = .ok (.invokevirtual 96, 3) := by decide +kernel
theorem dX11_file_13 : decode cX11_file 13 = .ok (.iconst 1, 1) := by decide +kernel
theorem dX11_file_14 : decode cX11_file 14 = .ok (.if_icmp .ne 7, 3) := by decide +kernel
theorem dX11_file_17 : decode cX11_file 17 = .ok (.iconst 1, 1) := by decide +kernel
theorem dX11_file_18 : decode cX11_file 18 = .ok (.goto 4, 3) := by decide +kernel
theorem dX11_file_21 : decode cX11_file 21 = .ok (.iconst 0, 1) := by decide +kernel
theorem dX11_file_22 : decode cX11_file 22 = .ok (.ireturn, 1) := by decide +kernel
theorem dX11_strike_0 : decode cX11_strike 0 = .ok (.aload_n 0, 1) := by decide +kernel
theorem dX11_strike_1 : decode cX11_strike 1 = .ok (.invokevirtual 89, 3) := by decide +kernel
theorem dX11_strike_4 : decode cX11_strike 4 = .ok (.aload_n 0, 1) := by decide +kernel
theorem dX11_strike_5 : decode cX11_strike 5 = .ok (.aload_n 0, 1) := by decide +kernel
theorem dX11_strike_6 : decode cX11_strike 6 = .ok (.iload_n 1, 1) := by decide +kernel
theorem dX11_strike_7 : decode cX11_strike 7 = .ok (.invokevirtual 290, 3) := by decide +kernel
theorem dX11_strike_10 : decode cX11_strike 10 = .ok (.invokevirtual 96, 3) := by decide +kernel
theorem dX11_strike_13 : decode cX11_strike 13 = .ok (.ireturn, 1) := by decide +kernel
theorem dX11_status_0 : decode cX11_status 0 = .ok (.aload_n 0, 1) := by decide +kernel
theorem dX11_status_1 : decode cX11_status 1 = .ok (.iload_n 1, 1) := by decide +kernel
theorem dX11_status_2 : decode cX11_status 2 = .ok (.invokevirtual 259, 3) := by decide +kernel
theorem dX11_status_5 : decode cX11_status 5 = .ok (.aload_n 0, 1) := by decide +kernel
theorem dX11_status_6 : decode cX11_status 6 = .ok (.getfield 26, 3) := by decide +kernel
theorem dX11_status_9 : decode cX11_status 9 = .ok (.getfield 252, 3) := by decide +kernel
theorem dX11_status_12 : decode cX11_status 12 = .ok (.getfield 293, 3) := by decide +kernel
theorem dX11_status_15 : decode cX11_status 15 = .ok (.iload_n 1, 1) := by decide +kernel
theorem dX11_status_16 : decode cX11_status 16 = .ok (.caload, 1) := by decide +kernel
theorem dX11_status_17 : decode cX11_status 17 = .ok (.ireturn, 1) := by decide +kernel
theorem dX11_openAt_0 : decode cX11_openAt 0 = .ok (.aload_n 0, 1) := by decide +kernel
theorem dX11_openAt_1 : decode cX11_openAt 1 = .ok (.invokevirtual 297, 3) := by decide +kernel
theorem dX11_openAt_4 : decode cX11_openAt 4 = .ok (.iconst 0, 1) := by decide +kernel
theorem dX11_openAt_5 : decode cX11_openAt 5 = .ok (.istore_n 2, 1) := by decide +kernel
theorem dX11_openAt_6 : decode cX11_openAt 6 = .ok (.iload_n 2, 1) := by decide +kernel
theorem dX11_openAt_7 : decode cX11_openAt 7 = .ok (.aload_n 0, 1) := by decide +kernel
theorem dX11_openAt_8 : decode cX11_openAt 8 = .ok (.getfield 26, 3) := by decide +kernel
theorem dX11_openAt_11 : decode cX11_openAt 11 = .ok (.getfield 252, 3) := by decide +kernel
theorem dX11_openAt_14 : decode cX11_openAt 14 = .ok (.getfield 256, 3) := by decide +kernel
theorem dX11_openAt_17 : decode cX11_openAt 17 = .ok (.if_icmp .ge 34, 3) := by decide +kernel
theorem dX11_openAt_20 : decode cX11_openAt 20 = .ok (.aload_n 0, 1) := by decide +kernel
theorem dX11_openAt_21 : decode cX11_openAt 21 = .ok (.getfield 26, 3) := by decide +kernel
theorem dX11_openAt_24 : decode cX11_openAt 24 = .ok (.getfield 252, 3) := by decide +kernel
theorem dX11_openAt_27 : decode cX11_openAt 27 = .ok (.iload_n 2, 1) := by decide +kernel
theorem dX11_openAt_28 : decode cX11_openAt 28 = .ok (.invokevirtual 300, 3) := by decide +kernel
theorem dX11_openAt_31 : decode cX11_openAt 31 = .ok (.ifCond .eq 14, 3) := by decide +kernel
theorem dX11_openAt_34 : decode cX11_openAt 34 = .ok (.aload_n 0, 1) := by decide +kernel
theorem dX11_openAt_35 : decode cX11_openAt 35 = .ok (.iload_n 2, 1) := by decide +kernel
theorem dX11_openAt_36 : decode cX11_openAt 36 = .ok (.invokevirtual 303, 3) := by decide +kernel
theorem dX11_openAt_39 : decode cX11_openAt 39 = .ok (.iload_n 1, 1) := by decide +kernel
theorem dX11_openAt_40 : decode cX11_openAt 40 = .ok (.if_icmp .ne 5, 3) := by decide +kernel
theorem dX11_openAt_43 : decode cX11_openAt 43 = .ok (.iload_n 2, 1) := by decide +kernel
theorem dX11_openAt_44 : decode cX11_openAt 44 = .ok (.ireturn, 1) := by decide +kernel
theorem dX11_openAt_45 : decode cX11_openAt 45 = .ok (.iinc 2 1, 3) := by decide +kernel
theorem dX11_openAt_48 : decode cX11_openAt 48 = .ok (.goto (-42), 3) := by decide +kernel
theorem dX11_openAt_51 : decode cX11_openAt 51 = .ok (.new 117, 3) := by decide +kernel
theorem dX11_openAt_54 : decode cX11_openAt 54 = .ok (.dup, 1) := by decide +kernel
theorem dX11_openAt_55 : decode cX11_openAt 55 = .ok (.ldc_w 306, 3) := by decide +kernel
theorem dX11_openAt_58 : decode cX11_openAt 58 = .ok (.invokespecial 121, 3) := by decide +kernel
theorem dX11_openAt_61 : decode cX11_openAt 61 = .ok (.athrow, 1) := by decide +kernel
theorem dX11_overdue_0 : decode cX11_overdue 0 = .ok (.aload_n 0, 1) := by decide +kernel
theorem dX11_overdue_1 : decode cX11_overdue 1 = .ok (.invokevirtual 297, 3) := by decide +kernel
theorem dX11_overdue_4 : decode cX11_overdue 4 = .ok (.iconst 0, 1) := by decide +kernel
theorem dX11_overdue_5 : decode cX11_overdue 5 = .ok (.istore_n 1, 1) := by decide +kernel
theorem dX11_overdue_6 : decode cX11_overdue 6 = .ok (.iconst 0, 1) := by decide +kernel
theorem dX11_overdue_7 : decode cX11_overdue 7 = .ok (.istore_n 2, 1) := by decide +kernel
theorem dX11_overdue_8 : decode cX11_overdue 8 = .ok (.iload_n 2, 1) := by decide +kernel
theorem dX11_overdue_9 : decode cX11_overdue 9 = .ok (.aload_n 0, 1) := by decide +kernel
theorem dX11_overdue_10 : decode cX11_overdue 10 = .ok (.getfield 26, 3) := by decide +kernel
theorem dX11_overdue_13 : decode cX11_overdue 13 = .ok (.getfield 252, 3) := by decide +kernel
theorem dX11_overdue_16 : decode cX11_overdue 16 = .ok (.getfield 256, 3) := by decide +kernel
theorem dX11_overdue_19 : decode cX11_overdue 19 = .ok (.if_icmp .ge 45, 3) := by decide +kernel
theorem dX11_overdue_22 : decode cX11_overdue 22 = .ok (.aload_n 0, 1) := by decide +kernel
theorem dX11_overdue_23 : decode cX11_overdue 23 = .ok (.getfield 26, 3) := by decide +kernel
theorem dX11_overdue_26 : decode cX11_overdue 26 = .ok (.getfield 252, 3) := by decide +kernel
theorem dX11_overdue_29 : decode cX11_overdue 29 = .ok (.iload_n 2, 1) := by decide +kernel
theorem dX11_overdue_30 : decode cX11_overdue 30 = .ok (.invokevirtual 300, 3) := by decide +kernel
theorem dX11_overdue_33 : decode cX11_overdue 33 = .ok (.ifCond .eq 25, 3) := by decide +kernel
theorem dX11_overdue_36 : decode cX11_overdue 36 = .ok (.aload_n 0, 1) := by decide +kernel
theorem dX11_overdue_37 : decode cX11_overdue 37 = .ok (.getfield 58, 3) := by decide +kernel
theorem dX11_overdue_40 : decode cX11_overdue 40 = .ok (.iload_n 2, 1) := by decide +kernel
theorem dX11_overdue_41 : decode cX11_overdue 41 = .ok (.iaload, 1) := by decide +kernel
theorem dX11_overdue_42 : decode cX11_overdue 42 = .ok (.aload_n 0, 1) := by decide +kernel
theorem dX11_overdue_43 : decode cX11_overdue 43 = .ok (.getfield 26, 3) := by decide +kernel
theorem dX11_overdue_46 : decode cX11_overdue 46 = .ok (.getfield 36, 3) := by decide +kernel
theorem dX11_overdue_49 : decode cX11_overdue 49 = .ok (.getfield 152, 3) := by decide +kernel
theorem dX11_overdue_52 : decode cX11_overdue 52 = .ok (.if_icmp .ge 6, 3) := by decide +kernel
theorem dX11_overdue_55 : decode cX11_overdue 55 = .ok (.iinc 1 1, 3) := by decide +kernel
theorem dX11_overdue_58 : decode cX11_overdue 58 = .ok (.iinc 2 1, 3) := by decide +kernel
theorem dX11_overdue_61 : decode cX11_overdue 61 = .ok (.goto (-53), 3) := by decide +kernel
theorem dX11_overdue_64 : decode cX11_overdue 64 = .ok (.iload_n 1, 1) := by decide +kernel
theorem dX11_overdue_65 : decode cX11_overdue 65 = .ok (.ireturn, 1) := by decide +kernel
theorem dX11_busiestDay_0 : decode cX11_busiestDay 0 = .ok (.aload_n 0, 1) := by decide +kernel
theorem dX11_busiestDay_1 : decode cX11_busiestDay 1 = .ok (.invokevirtual 297, 3) := by decide +kernel
theorem dX11_busiestDay_4 : decode cX11_busiestDay 4 = .ok (.sipush 5000, 3) := by decide +kernel
theorem dX11_busiestDay_7 : decode cX11_busiestDay 7 = .ok (.istore_n 1, 1) := by decide +kernel
theorem dX11_busiestDay_8 : decode cX11_busiestDay 8 = .ok (.iconst 0, 1) := by decide +kernel
theorem dX11_busiestDay_9 : decode cX11_busiestDay 9 = .ok (.istore_n 2, 1) := by decide +kernel
theorem dX11_busiestDay_10 : decode cX11_busiestDay 10 = .ok (.iconst 0, 1) := by decide +kernel
theorem dX11_busiestDay_11 : decode cX11_busiestDay 11 = .ok (.istore_n 3, 1) := by decide +kernel
theorem dX11_busiestDay_12 : decode cX11_busiestDay 12 = .ok (.iload_n 3, 1) := by decide +kernel
theorem dX11_busiestDay_13 : decode cX11_busiestDay 13 = .ok (.aload_n 0, 1) := by decide +kernel
theorem dX11_busiestDay_14 : decode cX11_busiestDay 14 = .ok (.getfield 26, 3) := by decide +kernel
theorem dX11_busiestDay_17 : decode cX11_busiestDay 17 = .ok (.getfield 252, 3) := by decide +kernel
theorem dX11_busiestDay_20 : decode cX11_busiestDay 20 = .ok (.getfield 256, 3) := by decide +kernel
theorem dX11_busiestDay_23 : decode cX11_busiestDay 23 = .ok (.if_icmp .ge 80, 3) := by decide +kernel
theorem dX11_busiestDay_26 : decode cX11_busiestDay 26 = .ok (.aload_n 0, 1) := by decide +kernel
theorem dX11_busiestDay_27 : decode cX11_busiestDay 27 = .ok (.getfield 58, 3) := by decide +kernel
theorem dX11_busiestDay_30 : decode cX11_busiestDay 30 = .ok (.iload_n 3, 1) := by decide +kernel
theorem dX11_busiestDay_31 : decode cX11_busiestDay 31 = .ok (.iaload, 1) := by decide +kernel
theorem dX11_busiestDay_32 : decode cX11_busiestDay 32 = .ok (.istore 4, 2) := by decide +kernel
theorem dX11_busiestDay_34 : decode cX11_busiestDay 34 = .ok (.aload_n 0, 1) := by decide +kernel
theorem dX11_busiestDay_35 : decode cX11_busiestDay 35 = .ok (.getfield 26, 3) := by decide +kernel
theorem dX11_busiestDay_38 : decode cX11_busiestDay 38 = .ok (.getfield 252, 3) := by decide +kernel
theorem dX11_busiestDay_41 : decode cX11_busiestDay 41 = .ok (.iload_n 3, 1) := by decide +kernel
theorem dX11_busiestDay_42 : decode cX11_busiestDay 42 = .ok (.invokevirtual 300, 3) := by decide +kernel
theorem dX11_busiestDay_45 : decode cX11_busiestDay 45 = .ok (.ifCond .eq 20, 3) := by decide +kernel
theorem dX11_busiestDay_48 : decode cX11_busiestDay 48 = .ok (.iload 4, 2) := by decide +kernel
theorem dX11_busiestDay_50 : decode cX11_busiestDay 50 = .ok (.sipush 5000, 3) := by decide +kernel
theorem dX11_busiestDay_53 : decode cX11_busiestDay 53 = .ok (.if_icmp .eq 12, 3) := by decide +kernel
theorem dX11_busiestDay_56 : decode cX11_busiestDay 56 = .ok (.aload_n 0, 1) := by decide +kernel
theorem dX11_busiestDay_57 : decode cX11_busiestDay 57 = .ok (.iload 4, 2) := by decide +kernel
theorem dX11_busiestDay_59 : decode cX11_busiestDay 59 = .ok (.invokevirtual 308, 3) := by decide +kernel
theorem dX11_busiestDay_62 : decode cX11_busiestDay 62 = .ok (.goto 4, 3) := by decide +kernel
theorem dX11_busiestDay_65 : decode cX11_busiestDay 65 = .ok (.iconst 0, 1) := by decide +kernel
theorem dX11_busiestDay_66 : decode cX11_busiestDay 66 = .ok (.istore 5, 2) := by decide +kernel
theorem dX11_busiestDay_68 : decode cX11_busiestDay 68 = .ok (.iload 5, 2) := by decide +kernel
theorem dX11_busiestDay_70 : decode cX11_busiestDay 70 = .ok (.iload_n 2, 1) := by decide +kernel
theorem dX11_busiestDay_71 : decode cX11_busiestDay 71 = .ok (.if_icmp .gt 20, 3) := by decide +kernel
theorem dX11_busiestDay_74 : decode cX11_busiestDay 74 = .ok (.iload 5, 2) := by decide +kernel
theorem dX11_busiestDay_76 : decode cX11_busiestDay 76 = .ok (.iload_n 2, 1) := by decide +kernel
theorem dX11_busiestDay_77 : decode cX11_busiestDay 77 = .ok (.if_icmp .ne 20, 3) := by decide +kernel
theorem dX11_busiestDay_80 : decode cX11_busiestDay 80 = .ok (.iload 5, 2) := by decide +kernel
theorem dX11_busiestDay_82 : decode cX11_busiestDay 82 = .ok (.ifCond .le 15, 3) := by decide +kernel
theorem dX11_busiestDay_85 : decode cX11_busiestDay 85 = .ok (.iload 4, 2) := by decide +kernel
theorem dX11_busiestDay_87 : decode cX11_busiestDay 87 = .ok (.iload_n 1, 1) := by decide +kernel
theorem dX11_busiestDay_88 : decode cX11_busiestDay 88 = .ok (.if_icmp .ge 9, 3) := by decide +kernel
theorem dX11_busiestDay_91 : decode cX11_busiestDay 91 = .ok (.iload 5, 2) := by decide +kernel
theorem dX11_busiestDay_93 : decode cX11_busiestDay 93 = .ok (.istore_n 2, 1) := by decide +kernel
theorem dX11_busiestDay_94 : decode cX11_busiestDay 94 = .ok (.iload 4, 2) := by decide +kernel
theorem dX11_busiestDay_96 : decode cX11_busiestDay 96 = .ok (.istore_n 1, 1) := by decide +kernel
theorem dX11_busiestDay_97 : decode cX11_busiestDay 97 = .ok (.iinc 3 1, 3) := by decide +kernel
theorem dX11_busiestDay_100 : decode cX11_busiestDay 100 = .ok (.goto (-88), 3) := by decide +kernel
theorem dX11_busiestDay_103 : decode cX11_busiestDay 103 = .ok (.iload_n 1, 1) := by decide +kernel
theorem dX11_busiestDay_104 : decode cX11_busiestDay 104 = .ok (.invokestatic 266, 3) := by decide +kernel
theorem dX11_busiestDay_107 : decode cX11_busiestDay 107 = .ok (.ireturn, 1) := by decide +kernel
theorem dX11_meanDaysLeft_0 : decode cX11_meanDaysLeft 0 = .ok (.iconst 0, 1) := by decide +kernel
theorem dX11_meanDaysLeft_1 : decode cX11_meanDaysLeft 1 = .ok (.istore_n 1, 1) := by decide +kernel
theorem dX11_meanDaysLeft_2 : decode cX11_meanDaysLeft 2 = .ok (.iconst 0, 1) := by decide +kernel
theorem dX11_meanDaysLeft_3 : decode cX11_meanDaysLeft 3 = .ok (.istore_n 2, 1) := by decide +kernel
theorem dX11_meanDaysLeft_4 : decode cX11_meanDaysLeft 4 = .ok (.iconst 0, 1) := by decide +kernel
theorem dX11_meanDaysLeft_5 : decode cX11_meanDaysLeft 5 = .ok (.istore_n 3, 1) := by decide +kernel
theorem dX11_meanDaysLeft_6 : decode cX11_meanDaysLeft 6 = .ok (.iload_n 3, 1) := by decide +kernel
theorem dX11_meanDaysLeft_7 : decode cX11_meanDaysLeft 7 = .ok (.aload_n 0, 1) := by decide +kernel
theorem dX11_meanDaysLeft_8 : decode cX11_meanDaysLeft 8 = .ok (.getfield 26, 3) := by decide +kernel
theorem dX11_meanDaysLeft_11 : decode cX11_meanDaysLeft 11 = .ok (.getfield 252, 3) := by decide +kernel
theorem dX11_meanDaysLeft_14 : decode cX11_meanDaysLeft 14 = .ok (.getfield 256, 3) := by decide +kernel
theorem dX11_meanDaysLeft_17 : decode cX11_meanDaysLeft 17 = .ok (.if_icmp .ge 66, 3) := by decide +kernel
theorem dX11_meanDaysLeft_20 : decode cX11_meanDaysLeft 20 = .ok (.aload_n 0, 1) := by decide +kernel
theorem dX11_meanDaysLeft_21 : decode cX11_meanDaysLeft 21 = .ok (.getfield 26, 3) := by decide +kernel
theorem dX11_meanDaysLeft_24 : decode cX11_meanDaysLeft 24 = .ok (.getfield 252, 3) := by decide +kernel
theorem dX11_meanDaysLeft_27 : decode cX11_meanDaysLeft 27 = .ok (.iload_n 3, 1) := by decide +kernel
theorem dX11_meanDaysLeft_28 : decode cX11_meanDaysLeft 28 = .ok (.invokevirtual 300, 3) := by decide +kernel
theorem dX11_meanDaysLeft_31 : decode cX11_meanDaysLeft 31 = .ok (.ifCond .eq 46, 3) := by decide +kernel
theorem dX11_meanDaysLeft_34 : decode cX11_meanDaysLeft 34 = .ok (.iload_n 1, 1) := by decide +kernel
theorem dX11_meanDaysLeft_35 : decode cX11_meanDaysLeft 35 = .ok (.aload_n 0, 1) := by decide +kernel
theorem dX11_meanDaysLeft_36 : decode cX11_meanDaysLeft 36 = .ok (.getfield 26, 3) := by decide +kernel
theorem dX11_meanDaysLeft_39 : decode cX11_meanDaysLeft 39 = .ok (.getfield 252, 3) := by decide +kernel
theorem dX11_meanDaysLeft_42 : decode cX11_meanDaysLeft 42 = .ok (.iload_n 3, 1) := by decide +kernel
theorem dX11_meanDaysLeft_43 : decode cX11_meanDaysLeft 43 = .ok (.invokevirtual 270, 3) := by decide +kernel
theorem dX11_meanDaysLeft_46 : decode cX11_meanDaysLeft 46 = .ok (.aload_n 0, 1) := by decide +kernel
theorem dX11_meanDaysLeft_47 : decode cX11_meanDaysLeft 47 = .ok (.getfield 47, 3) := by decide +kernel
theorem dX11_meanDaysLeft_50 : decode cX11_meanDaysLeft 50 = .ok (.aload_n 0, 1) := by decide +kernel
theorem dX11_meanDaysLeft_51 : decode cX11_meanDaysLeft 51 = .ok (.getfield 26, 3) := by decide +kernel
theorem dX11_meanDaysLeft_54 : decode cX11_meanDaysLeft 54 = .ok (.getfield 252, 3) := by decide +kernel
theorem dX11_meanDaysLeft_57 : decode cX11_meanDaysLeft 57 = .ok (.iload_n 3, 1) := by decide +kernel
theorem dX11_meanDaysLeft_58 : decode cX11_meanDaysLeft 58 = .ok (.aload_n 0, 1) := by decide +kernel
theorem dX11_meanDaysLeft_59 : decode cX11_meanDaysLeft 59 = .ok (.getfield 26, 3) := by decide +kernel
theorem dX11_meanDaysLeft_62 : decode cX11_meanDaysLeft 62 = .ok (.getfield 36, 3) := by decide +kernel
theorem dX11_meanDaysLeft_65 : decode cX11_meanDaysLeft 65 = .ok (.getfield 152, 3) := by decide +kernel
theorem dX11_meanDaysLeft_68 : decode cX11_meanDaysLeft 68 = .ok (.invokevirtual 273, 3) := by decide +kernel
theorem dX11_meanDaysLeft_71 : decode cX11_meanDaysLeft 71 = .ok (.isub, 1) := by decide +kernel
theorem dX11_meanDaysLeft_72 : decode cX11_meanDaysLeft 72 = .ok (.iadd, 1) := by decide +kernel
theorem dX11_meanDaysLeft_73 : decode cX11_meanDaysLeft 73 = .ok (.istore_n 1, 1) := by decide +kernel
theorem dX11_meanDaysLeft_74 : decode cX11_meanDaysLeft 74 = .ok (.iinc 2 1, 3) := by decide +kernel
theorem dX11_meanDaysLeft_77 : decode cX11_meanDaysLeft 77 = .ok (.iinc 3 1, 3) := by decide +kernel
theorem dX11_meanDaysLeft_80 : decode cX11_meanDaysLeft 80 = .ok (.goto (-74), 3) := by decide +kernel
theorem dX11_meanDaysLeft_83 : decode cX11_meanDaysLeft 83 = .ok (.iload_n 2, 1) := by decide +kernel
theorem dX11_meanDaysLeft_84 : decode cX11_meanDaysLeft 84 = .ok (.ifCond .ne 14, 3) := by decide +kernel
theorem dX11_meanDaysLeft_87 : decode cX11_meanDaysLeft 87 = .ok (.new 311, 3) := by decide +kernel
theorem dX11_meanDaysLeft_90 : decode cX11_meanDaysLeft 90 = .ok (.dup, 1) := by decide +kernel
theorem dX11_meanDaysLeft_91 : decode cX11_meanDaysLeft 91 = .ok (.ldc_w 313, 3) := by decide +kernel
theorem dX11_meanDaysLeft_94 : decode cX11_meanDaysLeft 94 = .ok (.invokespecial 315, 3) := by decide +kernel
theorem dX11_meanDaysLeft_97 : decode cX11_meanDaysLeft 97 = .ok (.athrow, 1) := by decide +kernel
theorem dX11_meanDaysLeft_98 : decode cX11_meanDaysLeft 98 = .ok (.iload_n 1, 1) := by decide +kernel
theorem dX11_meanDaysLeft_99 : decode cX11_meanDaysLeft 99 = .ok (.i2d, 1) := by decide +kernel
theorem dX11_meanDaysLeft_100 : decode cX11_meanDaysLeft 100 = .ok (.iload_n 2, 1) := by decide +kernel
theorem dX11_meanDaysLeft_101 : decode cX11_meanDaysLeft 101 = .ok (.i2d, 1) := by decide +kernel
theorem dX11_meanDaysLeft_102 : decode cX11_meanDaysLeft 102 = .ok (.ddiv, 1) := by decide +kernel
theorem dX11_meanDaysLeft_103 : decode cX11_meanDaysLeft 103 = .ok (.dreturn, 1) := by decide +kernel
theorem dX11_tryServe_0 : decode cX11_tryServe 0 = .ok (.aload_n 0, 1) := by decide +kernel
theorem dX11_tryServe_1 : decode cX11_tryServe 1 = .ok (.getfield 26, 3) := by decide +kernel
theorem dX11_tryServe_4 : decode cX11_tryServe 4 = .ok (.getfield 107, 3) := by decide +kernel
theorem dX11_tryServe_7 : decode cX11_tryServe 7 = .ok (.iload_n 1, 1) := by decide +kernel
theorem dX11_tryServe_8 : decode cX11_tryServe 8 = .ok (.invokevirtual 146, 3) := by decide +kernel
theorem dX11_tryServe_11 : decode cX11_tryServe 11 = .ok (.ifCond .eq 10, 3) := by decide +kernel
theorem dX11_tryServe_14 : decode cX11_tryServe 14 = .ok (.iload_n 2, 1) := by decide +kernel
theorem dX11_tryServe_15 : decode cX11_tryServe 15 = .ok (.invokestatic 241, 3) := by decide +kernel
theorem dX11_tryServe_18 : decode cX11_tryServe 18 = .ok (.ifCond .ne 5, 3) := by decide +kernel
theorem dX11_tryServe_21 : decode cX11_tryServe 21 = .ok (.iconst (-1), 1) := by decide +kernel
theorem dX11_tryServe_22 : decode cX11_tryServe 22 = .ok (.ireturn, 1) := by decide +kernel
theorem dX11_tryServe_23 : decode cX11_tryServe 23 = .ok (.iload_n 3, 1) := by decide +kernel
theorem dX11_tryServe_24 : decode cX11_tryServe 24 = .ok (.invokestatic 225, 3) := by decide +kernel
theorem dX11_tryServe_27 : decode cX11_tryServe 27 = .ok (.istore 4, 2) := by decide +kernel
theorem dX11_tryServe_29 : decode cX11_tryServe 29 = .ok (.iload 4, 2) := by decide +kernel
theorem dX11_tryServe_31 : decode cX11_tryServe 31 = .ok (.iconst (-1), 1) := by decide +kernel
theorem dX11_tryServe_32 : decode cX11_tryServe 32 = .ok (.if_icmp .ne 6, 3) := by decide +kernel
theorem dX11_tryServe_35 : decode cX11_tryServe 35 = .ok (.bipush (-2), 2) := by decide +kernel
theorem dX11_tryServe_37 : decode cX11_tryServe 37 = .ok (.ireturn, 1) := by decide +kernel
theorem dX11_tryServe_38 : decode cX11_tryServe 38 = .ok (.aload_n 0, 1) := by decide +kernel
theorem dX11_tryServe_39 : decode cX11_tryServe 39 = .ok (.getfield 26, 3) := by decide +kernel
theorem dX11_tryServe_42 : decode cX11_tryServe 42 = .ok (.getfield 252, 3) := by decide +kernel
theorem dX11_tryServe_45 : decode cX11_tryServe 45 = .ok (.getfield 256, 3) := by decide +kernel
theorem dX11_tryServe_48 : decode cX11_tryServe 48 = .ok (.bipush 30, 2) := by decide +kernel
theorem dX11_tryServe_50 : decode cX11_tryServe 50 = .ok (.if_icmp .lt 6, 3) := by decide +kernel
theorem dX11_tryServe_53 : decode cX11_tryServe 53 = .ok (.bipush (-3), 2) := by decide +kernel
theorem dX11_tryServe_55 : decode cX11_tryServe 55 = .ok (.ireturn, 1) := by decide +kernel
theorem dX11_tryServe_56 : decode cX11_tryServe 56 = .ok (.aload_n 0, 1) := by decide +kernel
theorem dX11_tryServe_57 : decode cX11_tryServe 57 = .ok (.getfield 26, 3) := by decide +kernel
theorem dX11_tryServe_60 : decode cX11_tryServe 60 = .ok (.getfield 252, 3) := by decide +kernel
theorem dX11_tryServe_63 : decode cX11_tryServe 63 = .ok (.iload_n 1, 1) := by decide +kernel
theorem dX11_tryServe_64 : decode cX11_tryServe 64 = .ok (.iload_n 2, 1) := by decide +kernel
theorem dX11_tryServe_65 : decode cX11_tryServe 65 = .ok (.aload_n 0, 1) := by decide +kernel
theorem dX11_tryServe_66 : decode cX11_tryServe 66 = .ok (.getfield 26, 3) := by decide +kernel
theorem dX11_tryServe_69 : decode cX11_tryServe 69 = .ok (.getfield 36, 3) := by decide +kernel
theorem dX11_tryServe_72 : decode cX11_tryServe 72 = .ok (.getfield 152, 3) := by decide +kernel
theorem dX11_tryServe_75 : decode cX11_tryServe 75 = .ok (.aload_n 0, 1) := by decide +kernel
theorem dX11_tryServe_76 : decode cX11_tryServe 76 = .ok (.getfield 26, 3) := by decide +kernel
theorem dX11_tryServe_79 : decode cX11_tryServe 79 = .ok (.getfield 210, 3) := by decide +kernel
theorem dX11_tryServe_82 : decode cX11_tryServe 82 = .ok (.invokevirtual 316, 3) := by decide +kernel
theorem dX11_tryServe_85 : decode cX11_tryServe 85 = .ok (.istore 5, 2) := by decide +kernel
theorem dX11_tryServe_87 : decode cX11_tryServe 87 = .ok (.aload_n 0, 1) := by decide +kernel
theorem dX11_tryServe_88 : decode cX11_tryServe 88 = .ok (.getfield 26, 3) := by decide +kernel
theorem dX11_tryServe_91 : decode cX11_tryServe 91 = .ok (.getfield 210, 3) := by decide +kernel
theorem dX11_tryServe_94 : decode cX11_tryServe 94 = .ok (.getfield 231, 3) := by decide +kernel
theorem dX11_tryServe_97 : decode cX11_tryServe 97 = .ok (.iload 4, 2) := by decide +kernel
theorem dX11_tryServe_99 : decode cX11_tryServe 99 = .ok (.iaload, 1) := by decide +kernel
theorem dX11_tryServe_100 : decode cX11_tryServe 100 = .ok (.ifCond .le 28, 3) := by decide +kernel
theorem dX11_tryServe_103 : decode cX11_tryServe 103 = .ok (.aload_n 0, 1) := by decide +kernel
theorem dX11_tryServe_104 : decode cX11_tryServe 104 = .ok (.getfield 26, 3) := by decide +kernel
theorem dX11_tryServe_107 : decode cX11_tryServe 107 = .ok (.getfield 252, 3) := by decide +kernel
theorem dX11_tryServe_110 : decode cX11_tryServe 110 = .ok (.iload 5, 2) := by decide +kernel
theorem dX11_tryServe_112 : decode cX11_tryServe 112 = .ok (.aload_n 0, 1) := by decide +kernel
theorem dX11_tryServe_113 : decode cX11_tryServe 113 = .ok (.getfield 26, 3) := by decide +kernel
theorem dX11_tryServe_116 : decode cX11_tryServe 116 = .ok (.getfield 210, 3) := by decide +kernel
theorem dX11_tryServe_119 : decode cX11_tryServe 119 = .ok (.getfield 231, 3) := by decide +kernel
theorem dX11_tryServe_122 : decode cX11_tryServe 122 = .ok (.iload 4, 2) := by decide +kernel
theorem dX11_tryServe_124 : decode cX11_tryServe 124 = .ok (.iaload, 1) := by decide +kernel
theorem dX11_tryServe_125 : decode cX11_tryServe 125 = .ok (.invokevirtual 319, 3) := by decide +kernel
theorem dX11_tryServe_128 : decode cX11_tryServe 128 = .ok (.iload 5, 2) := by decide +kernel
theorem dX11_tryServe_130 : decode cX11_tryServe 130 = .ok (.ireturn, 1) := by decide +kernel
theorem dX11_tryExtendByConsent_0 : decode cX11_tryExtendByConsent 0 = .ok (.aload_n 0, 1) := by decide +kernel
theorem dX11_tryExtendByConsent_1 : decode cX11_tryExtendByConsent 1 = .ok (.getfield 26, 3) := by decide +kernel
theorem dX11_tryExtendByConsent_4 : decode cX11_tryExtendByConsent 4 = .ok (.getfield 252, 3) := by decide +kernel
theorem dX11_tryExtendByConsent_7 : decode cX11_tryExtendByConsent 7 = .ok (.iload_n 1, 1) := by decide +kernel
theorem dX11_tryExtendByConsent_8 : decode cX11_tryExtendByConsent 8 = .ok (.invokevirtual 322, 3) := by decide +kernel
theorem dX11_tryExtendByConsent_11 : decode cX11_tryExtendByConsent 11 = .ok (.ifCond .ne 5, 3) := by decide +kernel
theorem dX11_tryExtendByConsent_14 : decode cX11_tryExtendByConsent 14 = .ok (.iconst (-1), 1) := by decide +kernel
theorem dX11_tryExtendByConsent_15 : decode cX11_tryExtendByConsent 15 = .ok (.ireturn, 1) := by decide +kernel
theorem dX11_tryExtendByConsent_16 : decode cX11_tryExtendByConsent 16 = .ok (.iload_n 2, 1) := by decide +kernel
theorem dX11_tryExtendByConsent_17 : decode cX11_tryExtendByConsent 17 = .ok (.iconst 1, 1) := by decide +kernel
theorem dX11_tryExtendByConsent_18 : decode cX11_tryExtendByConsent 18 = .ok (.if_icmp .lt 9, 3) := by decide +kernel
theorem dX11_tryExtendByConsent_21 : decode cX11_tryExtendByConsent 21 = .ok (.iload_n 2, 1) := by decide +kernel
theorem dX11_tryExtendByConsent_22 : decode cX11_tryExtendByConsent 22 = .ok (.bipush 28, 2) := by decide +kernel
theorem dX11_tryExtendByConsent_24 : decode cX11_tryExtendByConsent 24 = .ok (.if_icmp .le 6, 3) := by decide +kernel
theorem dX11_tryExtendByConsent_27 : decode cX11_tryExtendByConsent 27 = .ok (.bipush (-2), 2) := by decide +kernel
theorem dX11_tryExtendByConsent_29 : decode cX11_tryExtendByConsent 29 = .ok (.ireturn, 1) := by decide +kernel
theorem dX11_tryExtendByConsent_30 : decode cX11_tryExtendByConsent 30 = .ok (.aload_n 0, 1) := by decide +kernel
theorem dX11_tryExtendByConsent_31 : decode cX11_tryExtendByConsent 31 = .ok (.getfield 26, 3) := by decide +kernel
theorem dX11_tryExtendByConsent_34 : decode cX11_tryExtendByConsent 34 = .ok (.getfield 252, 3) := by decide +kernel
theorem dX11_tryExtendByConsent_37 : decode cX11_tryExtendByConsent 37 = .ok (.iload_n 1, 1) := by decide +kernel
theorem dX11_tryExtendByConsent_38 : decode cX11_tryExtendByConsent 38 = .ok (.invokevirtual 300, 3) := by decide +kernel
theorem dX11_tryExtendByConsent_41 : decode cX11_tryExtendByConsent 41 = .ok (.ifCond .eq 47, 3) := by decide +kernel
theorem dX11_tryExtendByConsent_44 : decode cX11_tryExtendByConsent 44 = .ok (.aload_n 0, 1) := by decide +kernel
theorem dX11_tryExtendByConsent_45 : decode cX11_tryExtendByConsent 45 = .ok (.getfield 47, 3) := by decide +kernel
theorem dX11_tryExtendByConsent_48 : decode cX11_tryExtendByConsent 48 = .ok (.aload_n 0, 1) := by decide +kernel
theorem dX11_tryExtendByConsent_49 : decode cX11_tryExtendByConsent 49 = .ok (.getfield 26, 3) := by decide +kernel
theorem dX11_tryExtendByConsent_52 : decode cX11_tryExtendByConsent 52 = .ok (.getfield 252, 3) := by decide +kernel
theorem dX11_tryExtendByConsent_55 : decode cX11_tryExtendByConsent 55 = .ok (.iload_n 1, 1) := by decide +kernel
theorem dX11_tryExtendByConsent_56 : decode cX11_tryExtendByConsent 56 = .ok (.invokevirtual 262, 3) := by decide +kernel
theorem dX11_tryExtendByConsent_59 : decode cX11_tryExtendByConsent 59 = .ok (.aload_n 0, 1) := by decide +kernel
theorem dX11_tryExtendByConsent_60 : decode cX11_tryExtendByConsent 60 = .ok (.getfield 26, 3) := by decide +kernel
theorem dX11_tryExtendByConsent_63 : decode cX11_tryExtendByConsent 63 = .ok (.getfield 36, 3) := by decide +kernel
theorem dX11_tryExtendByConsent_66 : decode cX11_tryExtendByConsent 66 = .ok (.getfield 152, 3) := by decide +kernel
theorem dX11_tryExtendByConsent_69 : decode cX11_tryExtendByConsent 69 = .ok (.if_icmp .lt 19, 3) := by decide +kernel
theorem dX11_tryExtendByConsent_72 : decode cX11_tryExtendByConsent 72 = .ok (.aload_n 0, 1) := by decide +kernel
theorem dX11_tryExtendByConsent_73 : decode cX11_tryExtendByConsent 73 = .ok (.getfield 26, 3) := by decide +kernel
theorem dX11_tryExtendByConsent_76 : decode cX11_tryExtendByConsent 76 = .ok (.getfield 252, 3) := by decide +kernel
theorem dX11_tryExtendByConsent_79 : decode cX11_tryExtendByConsent 79 = .ok (.getfield 323, 3) := by decide +kernel
theorem dX11_tryExtendByConsent_82 : decode cX11_tryExtendByConsent 82 = .ok (.iload_n 1, 1) := by decide +kernel
theorem dX11_tryExtendByConsent_83 : decode cX11_tryExtendByConsent 83 = .ok (.iaload, 1) := by decide +kernel
theorem dX11_tryExtendByConsent_84 : decode cX11_tryExtendByConsent 84 = .ok (.iconst 2, 1) := by decide +kernel
theorem dX11_tryExtendByConsent_85 : decode cX11_tryExtendByConsent 85 = .ok (.if_icmp .lt 6, 3) := by decide +kernel
theorem dX11_tryExtendByConsent_88 : decode cX11_tryExtendByConsent 88 = .ok (.bipush (-3), 2) := by decide +kernel
theorem dX11_tryExtendByConsent_90 : decode cX11_tryExtendByConsent 90 = .ok (.ireturn, 1) := by decide +kernel
theorem dX11_tryExtendByConsent_91 : decode cX11_tryExtendByConsent 91 = .ok (.aload_n 0, 1) := by decide +kernel
theorem dX11_tryExtendByConsent_92 : decode cX11_tryExtendByConsent 92 = .ok (.getfield 26, 3) := by decide +kernel
theorem dX11_tryExtendByConsent_95 : decode cX11_tryExtendByConsent 95 = .ok (.getfield 252, 3) := by decide +kernel
theorem dX11_tryExtendByConsent_98 : decode cX11_tryExtendByConsent 98 = .ok (.getfield 326, 3) := by decide +kernel
theorem dX11_tryExtendByConsent_101 : decode cX11_tryExtendByConsent 101 = .ok (.iload_n 1, 1) := by decide +kernel
theorem dX11_tryExtendByConsent_102 : decode cX11_tryExtendByConsent 102 = .ok (.iaload, 1) := by decide +kernel
theorem dX11_tryExtendByConsent_103 : decode cX11_tryExtendByConsent 103 = .ok (.iload_n 2, 1) := by decide +kernel
theorem dX11_tryExtendByConsent_104 : decode cX11_tryExtendByConsent 104 = .ok (.iadd, 1) := by decide +kernel
theorem dX11_tryExtendByConsent_105 : decode cX11_tryExtendByConsent 105 = .ok (.bipush 28, 2) := by decide +kernel
theorem dX11_tryExtendByConsent_107 : decode cX11_tryExtendByConsent 107 = .ok (.if_icmp .le 6, 3) := by decide +kernel
theorem dX11_tryExtendByConsent_110 : decode cX11_tryExtendByConsent 110 = .ok (.bipush (-4), 2) := by decide +kernel
theorem dX11_tryExtendByConsent_112 : decode cX11_tryExtendByConsent 112 = .ok (.ireturn, 1) := by decide +kernel
theorem dX11_tryExtendByConsent_113 : decode cX11_tryExtendByConsent 113 = .ok (.aload_n 0, 1) := by decide +kernel
theorem dX11_tryExtendByConsent_114 : decode cX11_tryExtendByConsent 114 = .ok (.getfield 26, 3) := by decide +kernel
theorem dX11_tryExtendByConsent_117 : decode cX11_tryExtendByConsent 117 = .ok (.getfield 252, 3) := by decide +kernel
theorem dX11_tryExtendByConsent_120 : decode cX11_tryExtendByConsent 120 = .ok (.getfield 323, 3) := by decide +kernel
theorem dX11_tryExtendByConsent_123 : decode cX11_tryExtendByConsent 123 = .ok (.iload_n 1, 1) := by decide +kernel
theorem dX11_tryExtendByConsent_124 : decode cX11_tryExtendByConsent 124 = .ok (.dup2, 1) := by decide +kernel
theorem dX11_tryExtendByConsent_125 : decode cX11_tryExtendByConsent 125 = .ok (.iaload, 1) := by decide +kernel
theorem dX11_tryExtendByConsent_126 : decode cX11_tryExtendByConsent 126 = .ok (.iconst 1, 1) := by decide +kernel
theorem dX11_tryExtendByConsent_127 : decode cX11_tryExtendByConsent 127 = .ok (.iadd, 1) := by decide +kernel
theorem dX11_tryExtendByConsent_128 : decode cX11_tryExtendByConsent 128 = .ok (.iastore, 1) := by decide +kernel
theorem dX11_tryExtendByConsent_129 : decode cX11_tryExtendByConsent 129 = .ok (.aload_n 0, 1) := by decide +kernel
theorem dX11_tryExtendByConsent_130 : decode cX11_tryExtendByConsent 130 = .ok (.getfield 26, 3) := by decide +kernel
theorem dX11_tryExtendByConsent_133 : decode cX11_tryExtendByConsent 133 = .ok (.getfield 252, 3) := by decide +kernel
theorem dX11_tryExtendByConsent_136 : decode cX11_tryExtendByConsent 136 = .ok (.getfield 326, 3) := by decide +kernel
theorem dX11_tryExtendByConsent_139 : decode cX11_tryExtendByConsent 139 = .ok (.iload_n 1, 1) := by decide +kernel
theorem dX11_tryExtendByConsent_140 : decode cX11_tryExtendByConsent 140 = .ok (.dup2, 1) := by decide +kernel
theorem dX11_tryExtendByConsent_141 : decode cX11_tryExtendByConsent 141 = .ok (.iaload, 1) := by decide +kernel
theorem dX11_tryExtendByConsent_142 : decode cX11_tryExtendByConsent 142 = .ok (.iload_n 2, 1) := by decide +kernel
theorem dX11_tryExtendByConsent_143 : decode cX11_tryExtendByConsent 143 = .ok (.iadd, 1) := by decide +kernel
theorem dX11_tryExtendByConsent_144 : decode cX11_tryExtendByConsent 144 = .ok (.iastore, 1) := by decide +kernel
theorem dX11_tryExtendByConsent_145 : decode cX11_tryExtendByConsent 145 = .ok (.aload_n 0, 1) := by decide +kernel
theorem dX11_tryExtendByConsent_146 : decode cX11_tryExtendByConsent 146 = .ok (.getfield 26, 3) := by decide +kernel
theorem dX11_tryExtendByConsent_149 : decode cX11_tryExtendByConsent 149 = .ok (.getfield 252, 3) := by decide +kernel
theorem dX11_tryExtendByConsent_152 : decode cX11_tryExtendByConsent 152 = .ok (.iload_n 1, 1) := by decide +kernel
theorem dX11_tryExtendByConsent_153 : decode cX11_tryExtendByConsent 153 = .ok (.iload_n 2, 1) := by decide +kernel
theorem dX11_tryExtendByConsent_154 : decode cX11_tryExtendByConsent 154 = .ok (.invokevirtual 329, 3) := by decide +kernel
theorem dX11_tryExtendByConsent_157 : decode cX11_tryExtendByConsent 157 = .ok (.ireturn, 1) := by decide +kernel
theorem dX11_tryExtendByOrder_0 : decode cX11_tryExtendByOrder 0 = .ok (.aload_n 0, 1) := by decide +kernel
theorem dX11_tryExtendByOrder_1 : decode cX11_tryExtendByOrder 1 = .ok (.getfield 26, 3) := by decide +kernel
theorem dX11_tryExtendByOrder_4 : decode cX11_tryExtendByOrder 4 = .ok (.getfield 252, 3) := by decide +kernel
theorem dX11_tryExtendByOrder_7 : decode cX11_tryExtendByOrder 7 = .ok (.iload_n 1, 1) := by decide +kernel
theorem dX11_tryExtendByOrder_8 : decode cX11_tryExtendByOrder 8 = .ok (.invokevirtual 322, 3) := by decide +kernel
theorem dX11_tryExtendByOrder_11 : decode cX11_tryExtendByOrder 11 = .ok (.ifCond .ne 5, 3) := by decide +kernel
theorem dX11_tryExtendByOrder_14 : decode cX11_tryExtendByOrder 14 = .ok (.iconst (-1), 1) := by decide +kernel
theorem dX11_tryExtendByOrder_15 : decode cX11_tryExtendByOrder 15 = .ok (.ireturn, 1) := by decide +kernel
theorem dX11_tryExtendByOrder_16 : decode cX11_tryExtendByOrder 16 = .ok (.iload_n 2, 1) := by decide +kernel
theorem dX11_tryExtendByOrder_17 : decode cX11_tryExtendByOrder 17 = .ok (.iconst 1, 1) := by decide +kernel
theorem dX11_tryExtendByOrder_18 : decode cX11_tryExtendByOrder 18 = .ok (.if_icmp .lt 9, 3) := by decide +kernel
theorem dX11_tryExtendByOrder_21 : decode cX11_tryExtendByOrder 21 = .ok (.iload_n 2, 1) := by decide +kernel
theorem dX11_tryExtendByOrder_22 : decode cX11_tryExtendByOrder 22 = .ok (.bipush 100, 2) := by decide +kernel
theorem dX11_tryExtendByOrder_24 : decode cX11_tryExtendByOrder 24 = .ok (.if_icmp .le 6, 3) := by decide +kernel
theorem dX11_tryExtendByOrder_27 : decode cX11_tryExtendByOrder 27 = .ok (.bipush (-2), 2) := by decide +kernel
theorem dX11_tryExtendByOrder_29 : decode cX11_tryExtendByOrder 29 = .ok (.ireturn, 1) := by decide +kernel
theorem dX11_tryExtendByOrder_30 : decode cX11_tryExtendByOrder 30 = .ok (.aload_n 0, 1) := by decide +kernel
theorem dX11_tryExtendByOrder_31 : decode cX11_tryExtendByOrder 31 = .ok (.getfield 26, 3) := by decide +kernel
theorem dX11_tryExtendByOrder_34 : decode cX11_tryExtendByOrder 34 = .ok (.getfield 252, 3) := by decide +kernel
theorem dX11_tryExtendByOrder_37 : decode cX11_tryExtendByOrder 37 = .ok (.iload_n 1, 1) := by decide +kernel
theorem dX11_tryExtendByOrder_38 : decode cX11_tryExtendByOrder 38 = .ok (.invokevirtual 300, 3) := by decide +kernel
theorem dX11_tryExtendByOrder_41 : decode cX11_tryExtendByOrder 41 = .ok (.ifCond .eq 19, 3) := by decide +kernel
theorem dX11_tryExtendByOrder_44 : decode cX11_tryExtendByOrder 44 = .ok (.aload_n 0, 1) := by decide +kernel
theorem dX11_tryExtendByOrder_45 : decode cX11_tryExtendByOrder 45 = .ok (.getfield 26, 3) := by decide +kernel
theorem dX11_tryExtendByOrder_48 : decode cX11_tryExtendByOrder 48 = .ok (.getfield 252, 3) := by decide +kernel
theorem dX11_tryExtendByOrder_51 : decode cX11_tryExtendByOrder 51 = .ok (.getfield 332, 3) := by decide +kernel
theorem dX11_tryExtendByOrder_54 : decode cX11_tryExtendByOrder 54 = .ok (.iload_n 1, 1) := by decide +kernel
theorem dX11_tryExtendByOrder_55 : decode cX11_tryExtendByOrder 55 = .ok (.iaload, 1) := by decide +kernel
theorem dX11_tryExtendByOrder_56 : decode cX11_tryExtendByOrder 56 = .ok (.iconst 3, 1) := by decide +kernel
theorem dX11_tryExtendByOrder_57 : decode cX11_tryExtendByOrder 57 = .ok (.if_icmp .lt 6, 3) := by decide +kernel
theorem dX11_tryExtendByOrder_60 : decode cX11_tryExtendByOrder 60 = .ok (.bipush (-3), 2) := by decide +kernel
theorem dX11_tryExtendByOrder_62 : decode cX11_tryExtendByOrder 62 = .ok (.ireturn, 1) := by decide +kernel
theorem dX11_tryExtendByOrder_63 : decode cX11_tryExtendByOrder 63 = .ok (.aload_n 0, 1) := by decide +kernel
theorem dX11_tryExtendByOrder_64 : decode cX11_tryExtendByOrder 64 = .ok (.getfield 26, 3) := by decide +kernel
theorem dX11_tryExtendByOrder_67 : decode cX11_tryExtendByOrder 67 = .ok (.getfield 252, 3) := by decide +kernel
theorem dX11_tryExtendByOrder_70 : decode cX11_tryExtendByOrder 70 = .ok (.getfield 332, 3) := by decide +kernel
theorem dX11_tryExtendByOrder_73 : decode cX11_tryExtendByOrder 73 = .ok (.iload_n 1, 1) := by decide +kernel
theorem dX11_tryExtendByOrder_74 : decode cX11_tryExtendByOrder 74 = .ok (.dup2, 1) := by decide +kernel
theorem dX11_tryExtendByOrder_75 : decode cX11_tryExtendByOrder 75 = .ok (.iaload, 1) := by decide +kernel
theorem dX11_tryExtendByOrder_76 : decode cX11_tryExtendByOrder 76 = .ok (.iconst 1, 1) := by decide +kernel
theorem dX11_tryExtendByOrder_77 : decode cX11_tryExtendByOrder 77 = .ok (.iadd, 1) := by decide +kernel
theorem dX11_tryExtendByOrder_78 : decode cX11_tryExtendByOrder 78 = .ok (.iastore, 1) := by decide +kernel
theorem dX11_tryExtendByOrder_79 : decode cX11_tryExtendByOrder 79 = .ok (.aload_n 0, 1) := by decide +kernel
theorem dX11_tryExtendByOrder_80 : decode cX11_tryExtendByOrder 80 = .ok (.getfield 26, 3) := by decide +kernel
theorem dX11_tryExtendByOrder_83 : decode cX11_tryExtendByOrder 83 = .ok (.getfield 252, 3) := by decide +kernel
theorem dX11_tryExtendByOrder_86 : decode cX11_tryExtendByOrder 86 = .ok (.iload_n 1, 1) := by decide +kernel
theorem dX11_tryExtendByOrder_87 : decode cX11_tryExtendByOrder 87 = .ok (.iload_n 2, 1) := by decide +kernel
theorem dX11_tryExtendByOrder_88 : decode cX11_tryExtendByOrder 88 = .ok (.invokevirtual 329, 3) := by decide +kernel
theorem dX11_tryExtendByOrder_91 : decode cX11_tryExtendByOrder 91 = .ok (.ireturn, 1) := by decide +kernel
theorem dX11_tryFile_0 : decode cX11_tryFile 0 = .ok (.aload_n 0, 1) := by decide +kernel
theorem dX11_tryFile_1 : decode cX11_tryFile 1 = .ok (.getfield 26, 3) := by decide +kernel
theorem dX11_tryFile_4 : decode cX11_tryFile 4 = .ok (.getfield 252, 3) := by decide +kernel
theorem dX11_tryFile_7 : decode cX11_tryFile 7 = .ok (.iload_n 1, 1) := by decide +kernel
theorem dX11_tryFile_8 : decode cX11_tryFile 8 = .ok (.invokevirtual 322, 3) := by decide +kernel
theorem dX11_tryFile_11 : decode cX11_tryFile 11 = .ok (.ifCond .ne 5, 3) := by decide +kernel
theorem dX11_tryFile_14 : decode cX11_tryFile 14 = .ok (.iconst (-1), 1) := by decide +kernel
theorem dX11_tryFile_15 : decode cX11_tryFile 15 = .ok (.ireturn, 1) := by decide +kernel
theorem dX11_tryFile_16 : decode cX11_tryFile 16 = .ok (.aload_n 0, 1) := by decide +kernel
theorem dX11_tryFile_17 : decode cX11_tryFile 17 = .ok (.getfield 26, 3) := by decide +kernel
theorem dX11_tryFile_20 : decode cX11_tryFile 20 = .ok (.getfield 252, 3) := by decide +kernel
theorem dX11_tryFile_23 : decode cX11_tryFile 23 = .ok (.iload_n 1, 1) := by decide +kernel
theorem dX11_tryFile_24 : decode cX11_tryFile 24 = .ok (.invokevirtual 300, 3) := by decide +kernel
theorem dX11_tryFile_27 : decode cX11_tryFile 27 = .ok (.ifCond .ne 6, 3) := by decide +kernel
theorem dX11_tryFile_30 : decode cX11_tryFile 30 = .ok (.bipush (-3), 2) := by decide +kernel
theorem dX11_tryFile_32 : decode cX11_tryFile 32 = .ok (.ireturn, 1) := by decide +kernel
theorem dX11_tryFile_33 : decode cX11_tryFile 33 = .ok (.aload_n 0, 1) := by decide +kernel
theorem dX11_tryFile_34 : decode cX11_tryFile 34 = .ok (.getfield 47, 3) := by decide +kernel
theorem dX11_tryFile_37 : decode cX11_tryFile 37 = .ok (.aload_n 0, 1) := by decide +kernel
theorem dX11_tryFile_38 : decode cX11_tryFile 38 = .ok (.getfield 26, 3) := by decide +kernel
theorem dX11_tryFile_41 : decode cX11_tryFile 41 = .ok (.getfield 252, 3) := by decide +kernel
theorem dX11_tryFile_44 : decode cX11_tryFile 44 = .ok (.iload_n 1, 1) := by decide +kernel
theorem dX11_tryFile_45 : decode cX11_tryFile 45 = .ok (.invokevirtual 262, 3) := by decide +kernel
theorem dX11_tryFile_48 : decode cX11_tryFile 48 = .ok (.aload_n 0, 1) := by decide +kernel
theorem dX11_tryFile_49 : decode cX11_tryFile 49 = .ok (.getfield 26, 3) := by decide +kernel
theorem dX11_tryFile_52 : decode cX11_tryFile 52 = .ok (.getfield 36, 3) := by decide +kernel
theorem dX11_tryFile_55 : decode cX11_tryFile 55 = .ok (.getfield 152, 3) := by decide +kernel
theorem dX11_tryFile_58 : decode cX11_tryFile 58 = .ok (.if_icmp .ge 7, 3) := by decide +kernel
theorem dX11_tryFile_61 : decode cX11_tryFile 61 = .ok (.iconst 1, 1) := by decide +kernel
theorem dX11_tryFile_62 : decode cX11_tryFile 62 = .ok (.goto 4, 3) := by decide +kernel
theorem dX11_tryFile_65 : decode cX11_tryFile 65 = .ok (.iconst 0, 1) := by decide +kernel
theorem dX11_tryFile_66 : decode cX11_tryFile 66 = .ok (.istore_n 2, 1) := by decide +kernel
theorem dX11_tryFile_67 : decode cX11_tryFile 67 = .ok (.aload_n 0, 1) := by decide +kernel
theorem dX11_tryFile_68 : decode cX11_tryFile 68 = .ok (.getfield 26, 3) := by decide +kernel
theorem dX11_tryFile_71 : decode cX11_tryFile 71 = .ok (.getfield 252, 3) := by decide +kernel
theorem dX11_tryFile_74 : decode cX11_tryFile 74 = .ok (.getfield 293, 3) := by decide +kernel
theorem dX11_tryFile_77 : decode cX11_tryFile 77 = .ok (.iload_n 1, 1) := by decide +kernel
theorem dX11_tryFile_78 : decode cX11_tryFile 78 = .ok (.iload_n 2, 1) := by decide +kernel
theorem dX11_tryFile_79 : decode cX11_tryFile 79 = .ok (.ifCond .eq 8, 3) := by decide +kernel
theorem dX11_tryFile_82 : decode cX11_tryFile 82 = .ok (.bipush 108, 2) := by decide +kernel
theorem dX11_tryFile_84 : decode cX11_tryFile 84 = .ok (.goto 5, 3) := by decide +kernel
theorem dX11_tryFile_87 : decode cX11_tryFile 87 = .ok (.bipush 116, 2) := by decide +kernel
theorem dX11_tryFile_89 : decode cX11_tryFile 89 = .ok (.castore, 1) := by decide +kernel
theorem dX11_tryFile_90 : decode cX11_tryFile 90 = .ok (.iload_n 2, 1) := by decide +kernel
theorem dX11_tryFile_91 : decode cX11_tryFile 91 = .ok (.ifCond .eq 7, 3) := by decide +kernel
theorem dX11_tryFile_94 : decode cX11_tryFile 94 = .ok (.iconst 0, 1) := by decide +kernel
theorem dX11_tryFile_95 : decode cX11_tryFile 95 = .ok (.goto 4, 3) := by decide +kernel
theorem dX11_tryFile_98 : decode cX11_tryFile 98 = .ok (.iconst 1, 1) := by decide +kernel
theorem dX11_tryFile_99 : decode cX11_tryFile 99 = .ok (.ireturn, 1) := by decide +kernel
theorem dX11_tryStrike_0 : decode cX11_tryStrike 0 = .ok (.aload_n 0, 1) := by decide +kernel
theorem dX11_tryStrike_1 : decode cX11_tryStrike 1 = .ok (.getfield 26, 3) := by decide +kernel
theorem dX11_tryStrike_4 : decode cX11_tryStrike 4 = .ok (.getfield 252, 3) := by decide +kernel
theorem dX11_tryStrike_7 : decode cX11_tryStrike 7 = .ok (.iload_n 1, 1) := by decide +kernel
theorem dX11_tryStrike_8 : decode cX11_tryStrike 8 = .ok (.invokevirtual 322, 3) := by decide +kernel
theorem dX11_tryStrike_11 : decode cX11_tryStrike 11 = .ok (.ifCond .ne 5, 3) := by decide +kernel
theorem dX11_tryStrike_14 : decode cX11_tryStrike 14 = .ok (.iconst (-1), 1) := by decide +kernel
theorem dX11_tryStrike_15 : decode cX11_tryStrike 15 = .ok (.ireturn, 1) := by decide +kernel
theorem dX11_tryStrike_16 : decode cX11_tryStrike 16 = .ok (.aload_n 0, 1) := by decide +kernel
theorem dX11_tryStrike_17 : decode cX11_tryStrike 17 = .ok (.getfield 26, 3) := by decide +kernel
theorem dX11_tryStrike_20 : decode cX11_tryStrike 20 = .ok (.getfield 252, 3) := by decide +kernel
theorem dX11_tryStrike_23 : decode cX11_tryStrike 23 = .ok (.iload_n 1, 1) := by decide +kernel
theorem dX11_tryStrike_24 : decode cX11_tryStrike 24 = .ok (.invokevirtual 300, 3) := by decide +kernel
theorem dX11_tryStrike_27 : decode cX11_tryStrike 27 = .ok (.ifCond .ne 6, 3) := by decide +kernel
theorem dX11_tryStrike_30 : decode cX11_tryStrike 30 = .ok (.bipush (-3), 2) := by decide +kernel
theorem dX11_tryStrike_32 : decode cX11_tryStrike 32 = .ok (.ireturn, 1) := by decide +kernel
theorem dX11_tryStrike_33 : decode cX11_tryStrike 33 = .ok (.aload_n 0, 1) := by decide +kernel
theorem dX11_tryStrike_34 : decode cX11_tryStrike 34 = .ok (.getfield 26, 3) := by decide +kernel
theorem dX11_tryStrike_37 : decode cX11_tryStrike 37 = .ok (.getfield 252, 3) := by decide +kernel
theorem dX11_tryStrike_40 : decode cX11_tryStrike 40 = .ok (.getfield 293, 3) := by decide +kernel
theorem dX11_tryStrike_43 : decode cX11_tryStrike 43 = .ok (.iload_n 1, 1) := by decide +kernel
theorem dX11_tryStrike_44 : decode cX11_tryStrike 44 = .ok (.bipush 115, 2) := by decide +kernel
theorem dX11_tryStrike_46 : decode cX11_tryStrike 46 = .ok (.castore, 1) := by decide +kernel
theorem dX11_tryStrike_47 : decode cX11_tryStrike 47 = .ok (.aload_n 0, 1) := by decide +kernel
theorem dX11_tryStrike_48 : decode cX11_tryStrike 48 = .ok (.getfield 26, 3) := by decide +kernel
theorem dX11_tryStrike_51 : decode cX11_tryStrike 51 = .ok (.getfield 252, 3) := by decide +kernel
theorem dX11_tryStrike_54 : decode cX11_tryStrike 54 = .ok (.invokevirtual 335, 3) := by decide +kernel
theorem dX11_tryStrike_57 : decode cX11_tryStrike 57 = .ok (.ireturn, 1) := by decide +kernel
theorem dX11_needDeadline_0 : decode cX11_needDeadline 0 = .ok (.aload_n 0, 1) := by decide +kernel
theorem dX11_needDeadline_1 : decode cX11_needDeadline 1 = .ok (.getfield 26, 3) := by decide +kernel
theorem dX11_needDeadline_4 : decode cX11_needDeadline 4 = .ok (.getfield 252, 3) := by decide +kernel
theorem dX11_needDeadline_7 : decode cX11_needDeadline 7 = .ok (.iload_n 1, 1) := by decide +kernel
theorem dX11_needDeadline_8 : decode cX11_needDeadline 8 = .ok (.invokevirtual 322, 3) := by decide +kernel
theorem dX11_needDeadline_11 : decode cX11_needDeadline 11 = .ok (.ifCond .ne 14, 3) := by decide +kernel
theorem dX11_needDeadline_14 : decode cX11_needDeadline 14 = .ok (.new 132, 3) := by decide +kernel
theorem dX11_needDeadline_17 : decode cX11_needDeadline 17 = .ok (.dup, 1) := by decide +kernel
theorem dX11_needDeadline_18 : decode cX11_needDeadline 18 = .ok (.ldc_w 338, 3) := by decide +kernel
theorem dX11_needDeadline_21 : decode cX11_needDeadline 21 = .ok (.invokespecial 136, 3) := by decide +kernel
theorem dX11_needDeadline_24 : decode cX11_needDeadline 24 = .ok (.athrow, 1) := by decide +kernel
theorem dX11_needDeadline_25 : decode cX11_needDeadline 25 = .ok (.return_, 1) := by decide +kernel
theorem dX11_needSomeDay_0 : decode cX11_needSomeDay 0 = .ok (.iload_n 0, 1) := by decide +kernel
theorem dX11_needSomeDay_1 : decode cX11_needSomeDay 1 = .ok (.sipush 5000, 3) := by decide +kernel
theorem dX11_needSomeDay_4 : decode cX11_needSomeDay 4 = .ok (.if_icmp .ne 14, 3) := by decide +kernel
theorem dX11_needSomeDay_7 : decode cX11_needSomeDay 7 = .ok (.new 117, 3) := by decide +kernel
theorem dX11_needSomeDay_10 : decode cX11_needSomeDay 10 = .ok (.dup, 1) := by decide +kernel
theorem dX11_needSomeDay_11 : decode cX11_needSomeDay 11 = .ok (.ldc_w 340, 3) := by decide +kernel
theorem dX11_needSomeDay_14 : decode cX11_needSomeDay 14 = .ok (.invokespecial 121, 3) := by decide +kernel
theorem dX11_needSomeDay_17 : decode cX11_needSomeDay 17 = .ok (.athrow, 1) := by decide +kernel
theorem dX11_needSomeDay_18 : decode cX11_needSomeDay 18 = .ok (.iload_n 0, 1) := by decide +kernel
theorem dX11_needSomeDay_19 : decode cX11_needSomeDay 19 = .ok (.ireturn, 1) := by decide +kernel
theorem dX11_findOpenDues_0 : decode cX11_findOpenDues 0 = .ok (.iconst 0, 1) := by decide +kernel
theorem dX11_findOpenDues_1 : decode cX11_findOpenDues 1 = .ok (.istore_n 1, 1) := by decide +kernel
theorem dX11_findOpenDues_2 : decode cX11_findOpenDues 2 = .ok (.iload_n 1, 1) := by decide +kernel
theorem dX11_findOpenDues_3 : decode cX11_findOpenDues 3 = .ok (.aload_n 0, 1) := by decide +kernel
theorem dX11_findOpenDues_4 : decode cX11_findOpenDues 4 = .ok (.getfield 26, 3) := by decide +kernel
theorem dX11_findOpenDues_7 : decode cX11_findOpenDues 7 = .ok (.getfield 252, 3) := by decide +kernel
theorem dX11_findOpenDues_10 : decode cX11_findOpenDues 10 = .ok (.getfield 256, 3) := by decide +kernel
theorem dX11_findOpenDues_13 : decode cX11_findOpenDues 13 = .ok (.if_icmp .ge 50, 3) := by decide +kernel
theorem dX11_findOpenDues_16 : decode cX11_findOpenDues 16 = .ok (.aload_n 0, 1) := by decide +kernel
theorem dX11_findOpenDues_17 : decode cX11_findOpenDues 17 = .ok (.getfield 58, 3) := by decide +kernel
theorem dX11_findOpenDues_20 : decode cX11_findOpenDues 20 = .ok (.iload_n 1, 1) := by decide +kernel
theorem dX11_findOpenDues_21 : decode cX11_findOpenDues 21 = .ok (.aload_n 0, 1) := by decide +kernel
theorem dX11_findOpenDues_22 : decode cX11_findOpenDues 22 = .ok (.getfield 26, 3) := by decide +kernel
theorem dX11_findOpenDues_25 : decode cX11_findOpenDues 25 = .ok (.getfield 252, 3) := by decide +kernel
theorem dX11_findOpenDues_28 : decode cX11_findOpenDues 28 = .ok (.iload_n 1, 1) := by decide +kernel
theorem dX11_findOpenDues_29 : decode cX11_findOpenDues 29 = .ok (.invokevirtual 300, 3) := by decide +kernel
theorem dX11_findOpenDues_32 : decode cX11_findOpenDues 32 = .ok (.ifCond .eq 21, 3) := by decide +kernel
theorem dX11_findOpenDues_35 : decode cX11_findOpenDues 35 = .ok (.aload_n 0, 1) := by decide +kernel
theorem dX11_findOpenDues_36 : decode cX11_findOpenDues 36 = .ok (.getfield 47, 3) := by decide +kernel
theorem dX11_findOpenDues_39 : decode cX11_findOpenDues 39 = .ok (.aload_n 0, 1) := by decide +kernel
theorem dX11_findOpenDues_40 : decode cX11_findOpenDues 40 = .ok (.getfield 26, 3) := by decide +kernel
theorem dX11_findOpenDues_43 : decode cX11_findOpenDues 43 = .ok (.getfield 252, 3) := by decide +kernel
theorem dX11_findOpenDues_46 : decode cX11_findOpenDues 46 = .ok (.iload_n 1, 1) := by decide +kernel
theorem dX11_findOpenDues_47 : decode cX11_findOpenDues 47 = .ok (.invokevirtual 262, 3) := by decide +kernel
theorem dX11_findOpenDues_50 : decode cX11_findOpenDues 50 = .ok (.goto 6, 3) := by decide +kernel
theorem dX11_findOpenDues_53 : decode cX11_findOpenDues 53 = .ok (.sipush 5000, 3) := by decide +kernel
theorem dX11_findOpenDues_56 : decode cX11_findOpenDues 56 = .ok (.iastore, 1) := by decide +kernel
theorem dX11_findOpenDues_57 : decode cX11_findOpenDues 57 = .ok (.iinc 1 1, 3) := by decide +kernel
theorem dX11_findOpenDues_60 : decode cX11_findOpenDues 60 = .ok (.goto (-58), 3) := by decide +kernel
theorem dX11_findOpenDues_63 : decode cX11_findOpenDues 63 = .ok (.return_, 1) := by decide +kernel
theorem dX11_countOpenAhead_0 : decode cX11_countOpenAhead 0 = .ok (.iconst 0, 1) := by decide +kernel
theorem dX11_countOpenAhead_1 : decode cX11_countOpenAhead 1 = .ok (.istore_n 2, 1) := by decide +kernel
theorem dX11_countOpenAhead_2 : decode cX11_countOpenAhead 2 = .ok (.iconst 0, 1) := by decide +kernel
theorem dX11_countOpenAhead_3 : decode cX11_countOpenAhead 3 = .ok (.istore_n 3, 1) := by decide +kernel
theorem dX11_countOpenAhead_4 : decode cX11_countOpenAhead 4 = .ok (.iload_n 3, 1) := by decide +kernel
theorem dX11_countOpenAhead_5 : decode cX11_countOpenAhead 5 = .ok (.aload_n 0, 1) := by decide +kernel
theorem dX11_countOpenAhead_6 : decode cX11_countOpenAhead 6 = .ok (.getfield 26, 3) := by decide +kernel
theorem dX11_countOpenAhead_9 : decode cX11_countOpenAhead 9 = .ok (.getfield 252, 3) := by decide +kernel
theorem dX11_countOpenAhead_12 : decode cX11_countOpenAhead 12 = .ok (.getfield 256, 3) := by decide +kernel
theorem dX11_countOpenAhead_15 : decode cX11_countOpenAhead 15 = .ok (.if_icmp .ge 73, 3) := by decide +kernel
theorem dX11_countOpenAhead_18 : decode cX11_countOpenAhead 18 = .ok (.aload_n 0, 1) := by decide +kernel
theorem dX11_countOpenAhead_19 : decode cX11_countOpenAhead 19 = .ok (.getfield 58, 3) := by decide +kernel
theorem dX11_countOpenAhead_22 : decode cX11_countOpenAhead 22 = .ok (.iload_n 3, 1) := by decide +kernel
theorem dX11_countOpenAhead_23 : decode cX11_countOpenAhead 23 = .ok (.iaload, 1) := by decide +kernel
theorem dX11_countOpenAhead_24 : decode cX11_countOpenAhead 24 = .ok (.aload_n 0, 1) := by decide +kernel
theorem dX11_countOpenAhead_25 : decode cX11_countOpenAhead 25 = .ok (.getfield 58, 3) := by decide +kernel
theorem dX11_countOpenAhead_28 : decode cX11_countOpenAhead 28 = .ok (.iload_n 1, 1) := by decide +kernel
theorem dX11_countOpenAhead_29 : decode cX11_countOpenAhead 29 = .ok (.iaload, 1) := by decide +kernel
theorem dX11_countOpenAhead_30 : decode cX11_countOpenAhead 30 = .ok (.if_icmp .lt 23, 3) := by decide +kernel
theorem dX11_countOpenAhead_33 : decode cX11_countOpenAhead 33 = .ok (.aload_n 0, 1) := by decide +kernel
theorem dX11_countOpenAhead_34 : decode cX11_countOpenAhead 34 = .ok (.getfield 58, 3) := by decide +kernel
theorem dX11_countOpenAhead_37 : decode cX11_countOpenAhead 37 = .ok (.iload_n 3, 1) := by decide +kernel
theorem dX11_countOpenAhead_38 : decode cX11_countOpenAhead 38 = .ok (.iaload, 1) := by decide +kernel
theorem dX11_countOpenAhead_39 : decode cX11_countOpenAhead 39 = .ok (.aload_n 0, 1) := by decide +kernel
theorem dX11_countOpenAhead_40 : decode cX11_countOpenAhead 40 = .ok (.getfield 58, 3) := by decide +kernel
theorem dX11_countOpenAhead_43 : decode cX11_countOpenAhead 43 = .ok (.iload_n 1, 1) := by decide +kernel
theorem dX11_countOpenAhead_44 : decode cX11_countOpenAhead 44 = .ok (.iaload, 1) := by decide +kernel
theorem dX11_countOpenAhead_45 : decode cX11_countOpenAhead 45 = .ok (.if_icmp .ne 12, 3) := by decide +kernel
theorem dX11_countOpenAhead_48 : decode cX11_countOpenAhead 48 = .ok (.iload_n 3, 1) := by decide +kernel
theorem dX11_countOpenAhead_49 : decode cX11_countOpenAhead 49 = .ok (.iload_n 1, 1) := by decide +kernel
theorem dX11_countOpenAhead_50 : decode cX11_countOpenAhead 50 = .ok (.if_icmp .ge 7, 3) := by decide +kernel
theorem dX11_countOpenAhead_53 : decode cX11_countOpenAhead 53 = .ok (.iconst 1, 1) := by decide +kernel
theorem dX11_countOpenAhead_54 : decode cX11_countOpenAhead 54 = .ok (.goto 4, 3) := by decide +kernel
theorem dX11_countOpenAhead_57 : decode cX11_countOpenAhead 57 = .ok (.iconst 0, 1) := by decide +kernel
theorem dX11_countOpenAhead_58 : decode cX11_countOpenAhead 58 = .ok (.istore 4, 2) := by decide +kernel
theorem dX11_countOpenAhead_60 : decode cX11_countOpenAhead 60 = .ok (.aload_n 0, 1) := by decide +kernel
theorem dX11_countOpenAhead_61 : decode cX11_countOpenAhead 61 = .ok (.getfield 26, 3) := by decide +kernel
theorem dX11_countOpenAhead_64 : decode cX11_countOpenAhead 64 = .ok (.getfield 252, 3) := by decide +kernel
theorem dX11_countOpenAhead_67 : decode cX11_countOpenAhead 67 = .ok (.iload_n 3, 1) := by decide +kernel
theorem dX11_countOpenAhead_68 : decode cX11_countOpenAhead 68 = .ok (.invokevirtual 300, 3) := by decide +kernel
theorem dX11_countOpenAhead_71 : decode cX11_countOpenAhead 71 = .ok (.ifCond .eq 11, 3) := by decide +kernel
theorem dX11_countOpenAhead_74 : decode cX11_countOpenAhead 74 = .ok (.iload 4, 2) := by decide +kernel
theorem dX11_countOpenAhead_76 : decode cX11_countOpenAhead 76 = .ok (.ifCond .eq 6, 3) := by decide +kernel
theorem dX11_countOpenAhead_79 : decode cX11_countOpenAhead 79 = .ok (.iinc 2 1, 3) := by decide +kernel
theorem dX11_countOpenAhead_82 : decode cX11_countOpenAhead 82 = .ok (.iinc 3 1, 3) := by decide +kernel
theorem dX11_countOpenAhead_85 : decode cX11_countOpenAhead 85 = .ok (.goto (-81), 3) := by decide +kernel
theorem dX11_countOpenAhead_88 : decode cX11_countOpenAhead 88 = .ok (.iload_n 2, 1) := by decide +kernel
theorem dX11_countOpenAhead_89 : decode cX11_countOpenAhead 89 = .ok (.ireturn, 1) := by decide +kernel
theorem dX11_countOpenDueOn_0 : decode cX11_countOpenDueOn 0 = .ok (.iconst 0, 1) := by decide +kernel
theorem dX11_countOpenDueOn_1 : decode cX11_countOpenDueOn 1 = .ok (.istore_n 2, 1) := by decide +kernel
theorem dX11_countOpenDueOn_2 : decode cX11_countOpenDueOn 2 = .ok (.iconst 0, 1) := by decide +kernel
theorem dX11_countOpenDueOn_3 : decode cX11_countOpenDueOn 3 = .ok (.istore_n 3, 1) := by decide +kernel
theorem dX11_countOpenDueOn_4 : decode cX11_countOpenDueOn 4 = .ok (.iload_n 3, 1) := by decide +kernel
theorem dX11_countOpenDueOn_5 : decode cX11_countOpenDueOn 5 = .ok (.aload_n 0, 1) := by decide +kernel
theorem dX11_countOpenDueOn_6 : decode cX11_countOpenDueOn 6 = .ok (.getfield 26, 3) := by decide +kernel
theorem dX11_countOpenDueOn_9 : decode cX11_countOpenDueOn 9 = .ok (.getfield 252, 3) := by decide +kernel
theorem dX11_countOpenDueOn_12 : decode cX11_countOpenDueOn 12 = .ok (.getfield 256, 3) := by decide +kernel
theorem dX11_countOpenDueOn_15 : decode cX11_countOpenDueOn 15 = .ok (.if_icmp .ge 36, 3) := by decide +kernel
theorem dX11_countOpenDueOn_18 : decode cX11_countOpenDueOn 18 = .ok (.aload_n 0, 1) := by decide +kernel
theorem dX11_countOpenDueOn_19 : decode cX11_countOpenDueOn 19 = .ok (.getfield 26, 3) := by decide +kernel
theorem dX11_countOpenDueOn_22 : decode cX11_countOpenDueOn 22 = .ok (.getfield 252, 3) := by decide +kernel
theorem dX11_countOpenDueOn_25 : decode cX11_countOpenDueOn 25 = .ok (.iload_n 3, 1) := by decide +kernel
theorem dX11_countOpenDueOn_26 : decode cX11_countOpenDueOn 26 = .ok (.invokevirtual 300, 3) := by decide +kernel
theorem dX11_countOpenDueOn_29 : decode cX11_countOpenDueOn 29 = .ok (.ifCond .eq 16, 3) := by decide +kernel
theorem dX11_countOpenDueOn_32 : decode cX11_countOpenDueOn 32 = .ok (.aload_n 0, 1) := by decide +kernel
theorem dX11_countOpenDueOn_33 : decode cX11_countOpenDueOn 33 = .ok (.getfield 58, 3) := by decide +kernel
theorem dX11_countOpenDueOn_36 : decode cX11_countOpenDueOn 36 = .ok (.iload_n 3, 1) := by decide +kernel
theorem dX11_countOpenDueOn_37 : decode cX11_countOpenDueOn 37 = .ok (.iaload, 1) := by decide +kernel
theorem dX11_countOpenDueOn_38 : decode cX11_countOpenDueOn 38 = .ok (.iload_n 1, 1) := by decide +kernel
theorem dX11_countOpenDueOn_39 : decode cX11_countOpenDueOn 39 = .ok (.if_icmp .ne 6, 3) := by decide +kernel
theorem dX11_countOpenDueOn_42 : decode cX11_countOpenDueOn 42 = .ok (.iinc 2 1, 3) := by decide +kernel
theorem dX11_countOpenDueOn_45 : decode cX11_countOpenDueOn 45 = .ok (.iinc 3 1, 3) := by decide +kernel
theorem dX11_countOpenDueOn_48 : decode cX11_countOpenDueOn 48 = .ok (.goto (-44), 3) := by decide +kernel
theorem dX11_countOpenDueOn_51 : decode cX11_countOpenDueOn 51 = .ok (.iload_n 2, 1) := by decide +kernel
theorem dX11_countOpenDueOn_52 : decode cX11_countOpenDueOn 52 = .ok (.ireturn, 1) := by decide +kernel
theorem dX11_stayParty_0 : decode cX11_stayParty 0 = .ok (.aload_n 0, 1) := by decide +kernel
theorem dX11_stayParty_1 : decode cX11_stayParty 1 = .ok (.invokevirtual 89, 3) := by decide +kernel
theorem dX11_stayParty_4 : decode cX11_stayParty 4 = .ok (.aload_n 0, 1) := by decide +kernel
theorem dX11_stayParty_5 : decode cX11_stayParty 5 = .ok (.aload_n 0, 1) := by decide +kernel
theorem dX11_stayParty_6 : decode cX11_stayParty 6 = .ok (.iload_n 1, 1) := by decide +kernel
theorem dX11_stayParty_7 : decode cX11_stayParty 7 = .ok (.iload_n 2, 1) := by decide +kernel
theorem dX11_stayParty_8 : decode cX11_stayParty 8 = .ok (.invokevirtual 342, 3) := by decide +kernel
theorem dX11_stayParty_11 : decode cX11_stayParty 11 = .ok (.invokevirtual 96, 3) := by decide +kernel
theorem dX11_stayParty_14 : decode cX11_stayParty 14 = .ok (.ireturn, 1) := by decide +kernel
theorem dX11_stayAll_0 : decode cX11_stayAll 0 = .ok (.aload_n 0, 1) := by decide +kernel
theorem dX11_stayAll_1 : decode cX11_stayAll 1 = .ok (.invokevirtual 89, 3) := by decide +kernel
theorem dX11_stayAll_4 : decode cX11_stayAll 4 = .ok (.aload_n 0, 1) := by decide +kernel
theorem dX11_stayAll_5 : decode cX11_stayAll 5 = .ok (.aload_n 0, 1) := by decide +kernel
theorem dX11_stayAll_6 : decode cX11_stayAll 6 = .ok (.iconst (-1), 1) := by decide +kernel
theorem dX11_stayAll_7 : decode cX11_stayAll 7 = .ok (.iload_n 1, 1) := by decide +kernel
theorem dX11_stayAll_8 : decode cX11_stayAll 8 = .ok (.invokevirtual 345, 3) := by decide +kernel
theorem dX11_stayAll_11 : decode cX11_stayAll 11 = .ok (.invokevirtual 96, 3) := by decide +kernel
theorem dX11_stayAll_14 : decode cX11_stayAll 14 = .ok (.ireturn, 1) := by decide +kernel
theorem dX11_lift_0 : decode cX11_lift 0 = .ok (.aload_n 0, 1) := by decide +kernel
theorem dX11_lift_1 : decode cX11_lift 1 = .ok (.invokevirtual 89, 3) := by decide +kernel
theorem dX11_lift_4 : decode cX11_lift 4 = .ok (.aload_n 0, 1) := by decide +kernel
theorem dX11_lift_5 : decode cX11_lift 5 = .ok (.aload_n 0, 1) := by decide +kernel
theorem dX11_lift_6 : decode cX11_lift 6 = .ok (.iload_n 1, 1) := by decide +kernel
theorem dX11_lift_7 : decode cX11_lift 7 = .ok (.invokevirtual 348, 3) := by decide +kernel
theorem dX11_lift_10 : decode cX11_lift 10 = .ok (.invokevirtual 96, 3) := by decide +kernel
theorem dX11_lift_13 : decode cX11_lift 13 = .ok (.ireturn, 1) := by decide +kernel
theorem dX11_staysInForce_0 : decode cX11_staysInForce 0 = .ok (.aload_n 0, 1) := by decide +kernel
theorem dX11_staysInForce_1 : decode cX11_staysInForce 1 = .ok (.getfield 26, 3) := by decide +kernel
theorem dX11_staysInForce_4 : decode cX11_staysInForce 4 = .ok (.getfield 40, 3) := by decide +kernel
theorem dX11_staysInForce_7 : decode cX11_staysInForce 7 = .ok (.invokevirtual 351, 3) := by decide +kernel
theorem dX11_staysInForce_10 : decode cX11_staysInForce 10 = .ok (.ireturn, 1) := by decide +kernel
theorem dX11_isStopped_0 : decode cX11_isStopped 0 = .ok (.aload_n 0, 1) := by decide +kernel
theorem dX11_isStopped_1 : decode cX11_isStopped 1 = .ok (.iload_n 1, 1) := by decide +kernel
theorem dX11_isStopped_2 : decode cX11_isStopped 2 = .ok (.invokevirtual 259, 3) := by decide +kernel
theorem dX11_isStopped_5 : decode cX11_isStopped 5 = .ok (.iload_n 2, 1) := by decide +kernel
theorem dX11_isStopped_6 : decode cX11_isStopped 6 = .ok (.invokestatic 160, 3) := by decide +kernel
theorem dX11_isStopped_9 : decode cX11_isStopped 9 = .ok (.aload_n 0, 1) := by decide +kernel
theorem dX11_isStopped_10 : decode cX11_isStopped 10 = .ok (.getfield 47, 3) := by decide +kernel
theorem dX11_isStopped_13 : decode cX11_isStopped 13 = .ok (.aload_n 0, 1) := by decide +kernel
theorem dX11_isStopped_14 : decode cX11_isStopped 14 = .ok (.getfield 26, 3) := by decide +kernel
theorem dX11_isStopped_17 : decode cX11_isStopped 17 = .ok (.getfield 252, 3) := by decide +kernel
theorem dX11_isStopped_20 : decode cX11_isStopped 20 = .ok (.iload_n 1, 1) := by decide +kernel
theorem dX11_isStopped_21 : decode cX11_isStopped 21 = .ok (.iload_n 2, 1) := by decide +kernel
theorem dX11_isStopped_22 : decode cX11_isStopped 22 = .ok (.iload_n 2, 1) := by decide +kernel
theorem dX11_isStopped_23 : decode cX11_isStopped 23 = .ok (.invokevirtual 356, 3) := by decide +kernel
theorem dX11_isStopped_26 : decode cX11_isStopped 26 = .ok (.iconst 1, 1) := by decide +kernel
theorem dX11_isStopped_27 : decode cX11_isStopped 27 = .ok (.if_icmp .ne 7, 3) := by decide +kernel
theorem dX11_isStopped_30 : decode cX11_isStopped 30 = .ok (.iconst 1, 1) := by decide +kernel
theorem dX11_isStopped_31 : decode cX11_isStopped 31 = .ok (.goto 4, 3) := by decide +kernel
theorem dX11_isStopped_34 : decode cX11_isStopped 34 = .ok (.iconst 0, 1) := by decide +kernel
theorem dX11_isStopped_35 : decode cX11_isStopped 35 = .ok (.ireturn, 1) := by decide +kernel
theorem dX11_stoppedDays_0 : decode cX11_stoppedDays 0 = .ok (.aload_n 0, 1) := by decide +kernel
theorem dX11_stoppedDays_1 : decode cX11_stoppedDays 1 = .ok (.iload_n 1, 1) := by decide +kernel
theorem dX11_stoppedDays_2 : decode cX11_stoppedDays 2 = .ok (.invokevirtual 259, 3) := by decide +kernel
theorem dX11_stoppedDays_5 : decode cX11_stoppedDays 5 = .ok (.iload_n 2, 1) := by decide +kernel
theorem dX11_stoppedDays_6 : decode cX11_stoppedDays 6 = .ok (.iload_n 3, 1) := by decide +kernel
theorem dX11_stoppedDays_7 : decode cX11_stoppedDays 7 = .ok (.invokestatic 172, 3) := by decide +kernel
theorem dX11_stoppedDays_10 : decode cX11_stoppedDays 10 = .ok (.aload_n 0, 1) := by decide +kernel
theorem dX11_stoppedDays_11 : decode cX11_stoppedDays 11 = .ok (.getfield 47, 3) := by decide +kernel
theorem dX11_stoppedDays_14 : decode cX11_stoppedDays 14 = .ok (.aload_n 0, 1) := by decide +kernel
theorem dX11_stoppedDays_15 : decode cX11_stoppedDays 15 = .ok (.getfield 26, 3) := by decide +kernel
theorem dX11_stoppedDays_18 : decode cX11_stoppedDays 18 = .ok (.getfield 252, 3) := by decide +kernel
theorem dX11_stoppedDays_21 : decode cX11_stoppedDays 21 = .ok (.iload_n 1, 1) := by decide +kernel
theorem dX11_stoppedDays_22 : decode cX11_stoppedDays 22 = .ok (.iload_n 2, 1) := by decide +kernel
theorem dX11_stoppedDays_23 : decode cX11_stoppedDays 23 = .ok (.iload_n 3, 1) := by decide +kernel
theorem dX11_stoppedDays_24 : decode cX11_stoppedDays 24 = .ok (.invokevirtual 356, 3) := by decide +kernel
theorem dX11_stoppedDays_27 : decode cX11_stoppedDays 27 = .ok (.ireturn, 1) := by decide +kernel
theorem dX11_stoppedDaysByMarking_0 : decode cX11_stoppedDaysByMarking 0 = .ok (.aload_n 0, 1) := by decide +kernel
theorem dX11_stoppedDaysByMarking_1 : decode cX11_stoppedDaysByMarking 1 = .ok (.iload_n 1, 1) := by decide +kernel
theorem dX11_stoppedDaysByMarking_2 : decode cX11_stoppedDaysByMarking 2 = .ok (.invokevirtual 259, 3) := by decide +kernel
theorem dX11_stoppedDaysByMarking_5 : decode cX11_stoppedDaysByMarking 5 = .ok (.iload_n 2, 1) := by decide +kernel
theorem dX11_stoppedDaysByMarking_6 : decode cX11_stoppedDaysByMarking 6 = .ok (.iload_n 3, 1) := by decide +kernel
theorem dX11_stoppedDaysByMarking_7 : decode cX11_stoppedDaysByMarking 7 = .ok (.invokestatic 172, 3) := by decide +kernel
theorem dX11_stoppedDaysByMarking_10 : decode cX11_stoppedDaysByMarking 10 = .ok (.aload_n 0, 1) := by decide +kernel
theorem dX11_stoppedDaysByMarking_11 : decode cX11_stoppedDaysByMarking 11 = .ok (.getfield 54, 3) := by decide +kernel
theorem dX11_stoppedDaysByMarking_14 : decode cX11_stoppedDaysByMarking 14 = .ok (.aload_n 0, 1) := by decide +kernel
theorem dX11_stoppedDaysByMarking_15 : decode cX11_stoppedDaysByMarking 15 = .ok (.getfield 26, 3) := by decide +kernel
theorem dX11_stoppedDaysByMarking_18 : decode cX11_stoppedDaysByMarking 18 = .ok (.getfield 252, 3) := by decide +kernel
theorem dX11_stoppedDaysByMarking_21 : decode cX11_stoppedDaysByMarking 21 = .ok (.iload_n 1, 1) := by decide +kernel
theorem dX11_stoppedDaysByMarking_22 : decode cX11_stoppedDaysByMarking 22 = .ok (.iload_n 2, 1) := by decide +kernel
theorem dX11_stoppedDaysByMarking_23 : decode cX11_stoppedDaysByMarking 23 = .ok (.iload_n 3, 1) := by decide +kernel
theorem dX11_stoppedDaysByMarking_24 : decode cX11_stoppedDaysByMarking 24 = .ok (.invokevirtual 360, 3) := by decide +kernel
theorem dX11_stoppedDaysByMarking_27 : decode cX11_stoppedDaysByMarking 27 = .ok (.ireturn, 1) := by decide +kernel
theorem dX11_tryStayParty_0 : decode cX11_tryStayParty 0 = .ok (.aload_n 0, 1) := by decide +kernel
theorem dX11_tryStayParty_1 : decode cX11_tryStayParty 1 = .ok (.getfield 26, 3) := by decide +kernel
theorem dX11_tryStayParty_4 : decode cX11_tryStayParty 4 = .ok (.getfield 107, 3) := by decide +kernel
theorem dX11_tryStayParty_7 : decode cX11_tryStayParty 7 = .ok (.iload_n 1, 1) := by decide +kernel
theorem dX11_tryStayParty_8 : decode cX11_tryStayParty 8 = .ok (.invokevirtual 146, 3) := by decide +kernel
theorem dX11_tryStayParty_11 : decode cX11_tryStayParty 11 = .ok (.ifCond .eq 12, 3) := by decide +kernel
theorem dX11_tryStayParty_14 : decode cX11_tryStayParty 14 = .ok (.aload_n 0, 1) := by decide +kernel
theorem dX11_tryStayParty_15 : decode cX11_tryStayParty 15 = .ok (.iload_n 1, 1) := by decide +kernel
theorem dX11_tryStayParty_16 : decode cX11_tryStayParty 16 = .ok (.iload_n 2, 1) := by decide +kernel
theorem dX11_tryStayParty_17 : decode cX11_tryStayParty 17 = .ok (.invokevirtual 345, 3) := by decide +kernel
theorem dX11_tryStayParty_20 : decode cX11_tryStayParty 20 = .ok (.goto 4, 3) := by decide +kernel
theorem dX11_tryStayParty_23 : decode cX11_tryStayParty 23 = .ok (.iconst (-1), 1) := by decide +kernel
theorem dX11_tryStayParty_24 : decode cX11_tryStayParty 24 = .ok (.ireturn, 1) := by decide +kernel
theorem dX11_tryStay_0 : decode cX11_tryStay 0 = .ok (.iload_n 2, 1) := by decide +kernel
theorem dX11_tryStay_1 : decode cX11_tryStay 1 = .ok (.iconst 1, 1) := by decide +kernel
theorem dX11_tryStay_2 : decode cX11_tryStay 2 = .ok (.if_icmp .lt 10, 3) := by decide +kernel
theorem dX11_tryStay_5 : decode cX11_tryStay 5 = .ok (.iload_n 2, 1) := by decide +kernel
theorem dX11_tryStay_6 : decode cX11_tryStay 6 = .ok (.sipush 255, 3) := by decide +kernel
theorem dX11_tryStay_9 : decode cX11_tryStay 9 = .ok (.if_icmp .le 6, 3) := by decide +kernel
theorem dX11_tryStay_12 : decode cX11_tryStay 12 = .ok (.bipush (-2), 2) := by decide +kernel
theorem dX11_tryStay_14 : decode cX11_tryStay 14 = .ok (.ireturn, 1) := by decide +kernel
theorem dX11_tryStay_15 : decode cX11_tryStay 15 = .ok (.aload_n 0, 1) := by decide +kernel
theorem dX11_tryStay_16 : decode cX11_tryStay 16 = .ok (.getfield 26, 3) := by decide +kernel
theorem dX11_tryStay_19 : decode cX11_tryStay 19 = .ok (.getfield 40, 3) := by decide +kernel
theorem dX11_tryStay_22 : decode cX11_tryStay 22 = .ok (.getfield 361, 3) := by decide +kernel
theorem dX11_tryStay_25 : decode cX11_tryStay 25 = .ok (.bipush 12, 2) := by decide +kernel
theorem dX11_tryStay_27 : decode cX11_tryStay 27 = .ok (.if_icmp .lt 6, 3) := by decide +kernel
theorem dX11_tryStay_30 : decode cX11_tryStay 30 = .ok (.bipush (-3), 2) := by decide +kernel
theorem dX11_tryStay_32 : decode cX11_tryStay 32 = .ok (.ireturn, 1) := by decide +kernel
theorem dX11_tryStay_33 : decode cX11_tryStay 33 = .ok (.aload_n 0, 1) := by decide +kernel
theorem dX11_tryStay_34 : decode cX11_tryStay 34 = .ok (.getfield 26, 3) := by decide +kernel
theorem dX11_tryStay_37 : decode cX11_tryStay 37 = .ok (.getfield 40, 3) := by decide +kernel
theorem dX11_tryStay_40 : decode cX11_tryStay 40 = .ok (.iload_n 1, 1) := by decide +kernel
theorem dX11_tryStay_41 : decode cX11_tryStay 41 = .ok (.iload_n 2, 1) := by decide +kernel
theorem dX11_tryStay_42 : decode cX11_tryStay 42 = .ok (.aload_n 0, 1) := by decide +kernel
theorem dX11_tryStay_43 : decode cX11_tryStay 43 = .ok (.getfield 26, 3) := by decide +kernel
theorem dX11_tryStay_46 : decode cX11_tryStay 46 = .ok (.getfield 36, 3) := by decide +kernel
theorem dX11_tryStay_49 : decode cX11_tryStay 49 = .ok (.getfield 152, 3) := by decide +kernel
theorem dX11_tryStay_52 : decode cX11_tryStay 52 = .ok (.invokevirtual 362, 3) := by decide +kernel
theorem dX11_tryStay_55 : decode cX11_tryStay 55 = .ok (.ireturn, 1) := by decide +kernel
theorem dX11_tryLift_0 : decode cX11_tryLift 0 = .ok (.aload_n 0, 1) := by decide +kernel
theorem dX11_tryLift_1 : decode cX11_tryLift 1 = .ok (.getfield 26, 3) := by decide +kernel
theorem dX11_tryLift_4 : decode cX11_tryLift 4 = .ok (.getfield 40, 3) := by decide +kernel
theorem dX11_tryLift_7 : decode cX11_tryLift 7 = .ok (.iload_n 1, 1) := by decide +kernel
theorem dX11_tryLift_8 : decode cX11_tryLift 8 = .ok (.invokevirtual 365, 3) := by decide +kernel
theorem dX11_tryLift_11 : decode cX11_tryLift 11 = .ok (.ifCond .ne 5, 3) := by decide +kernel
theorem dX11_tryLift_14 : decode cX11_tryLift 14 = .ok (.iconst (-1), 1) := by decide +kernel
theorem dX11_tryLift_15 : decode cX11_tryLift 15 = .ok (.ireturn, 1) := by decide +kernel
theorem dX11_tryLift_16 : decode cX11_tryLift 16 = .ok (.aload_n 0, 1) := by decide +kernel
theorem dX11_tryLift_17 : decode cX11_tryLift 17 = .ok (.getfield 26, 3) := by decide +kernel
theorem dX11_tryLift_20 : decode cX11_tryLift 20 = .ok (.getfield 40, 3) := by decide +kernel
theorem dX11_tryLift_23 : decode cX11_tryLift 23 = .ok (.iload_n 1, 1) := by decide +kernel
theorem dX11_tryLift_24 : decode cX11_tryLift 24 = .ok (.invokevirtual 366, 3) := by decide +kernel
theorem dX11_tryLift_27 : decode cX11_tryLift 27 = .ok (.ifCond .ne 6, 3) := by decide +kernel
theorem dX11_tryLift_30 : decode cX11_tryLift 30 = .ok (.bipush (-3), 2) := by decide +kernel
theorem dX11_tryLift_32 : decode cX11_tryLift 32 = .ok (.ireturn, 1) := by decide +kernel
theorem dX11_tryLift_33 : decode cX11_tryLift 33 = .ok (.aload_n 0, 1) := by decide +kernel
theorem dX11_tryLift_34 : decode cX11_tryLift 34 = .ok (.getfield 26, 3) := by decide +kernel
theorem dX11_tryLift_37 : decode cX11_tryLift 37 = .ok (.getfield 40, 3) := by decide +kernel
theorem dX11_tryLift_40 : decode cX11_tryLift 40 = .ok (.getfield 369, 3) := by decide +kernel
theorem dX11_tryLift_43 : decode cX11_tryLift 43 = .ok (.iload_n 1, 1) := by decide +kernel
theorem dX11_tryLift_44 : decode cX11_tryLift 44 = .ok (.aload_n 0, 1) := by decide +kernel
theorem dX11_tryLift_45 : decode cX11_tryLift 45 = .ok (.getfield 26, 3) := by decide +kernel
theorem dX11_tryLift_48 : decode cX11_tryLift 48 = .ok (.getfield 36, 3) := by decide +kernel
theorem dX11_tryLift_51 : decode cX11_tryLift 51 = .ok (.getfield 152, 3) := by decide +kernel
theorem dX11_tryLift_54 : decode cX11_tryLift 54 = .ok (.iastore, 1) := by decide +kernel
theorem dX11_tryLift_55 : decode cX11_tryLift 55 = .ok (.aload_n 0, 1) := by decide +kernel
theorem dX11_tryLift_56 : decode cX11_tryLift 56 = .ok (.getfield 26, 3) := by decide +kernel
theorem dX11_tryLift_59 : decode cX11_tryLift 59 = .ok (.getfield 36, 3) := by decide +kernel
theorem dX11_tryLift_62 : decode cX11_tryLift 62 = .ok (.getfield 152, 3) := by decide +kernel
theorem dX11_tryLift_65 : decode cX11_tryLift 65 = .ok (.aload_n 0, 1) := by decide +kernel
theorem dX11_tryLift_66 : decode cX11_tryLift 66 = .ok (.getfield 26, 3) := by decide +kernel
theorem dX11_tryLift_69 : decode cX11_tryLift 69 = .ok (.getfield 40, 3) := by decide +kernel
theorem dX11_tryLift_72 : decode cX11_tryLift 72 = .ok (.getfield 372, 3) := by decide +kernel
theorem dX11_tryLift_75 : decode cX11_tryLift 75 = .ok (.iload_n 1, 1) := by decide +kernel
theorem dX11_tryLift_76 : decode cX11_tryLift 76 = .ok (.iaload, 1) := by decide +kernel
theorem dX11_tryLift_77 : decode cX11_tryLift 77 = .ok (.isub, 1) := by decide +kernel
theorem dX11_tryLift_78 : decode cX11_tryLift 78 = .ok (.ireturn, 1) := by decide +kernel
theorem dX11_addOccurrence_0 : decode cX11_addOccurrence 0 = .ok (.aload_n 0, 1) := by decide +kernel
theorem dX11_addOccurrence_1 : decode cX11_addOccurrence 1 = .ok (.invokevirtual 89, 3) := by decide +kernel
theorem dX11_addOccurrence_4 : decode cX11_addOccurrence 4 = .ok (.aload_n 0, 1) := by decide +kernel
theorem dX11_addOccurrence_5 : decode cX11_addOccurrence 5 = .ok (.aload_n 0, 1) := by decide +kernel
theorem dX11_addOccurrence_6 : decode cX11_addOccurrence 6 = .ok (.iload_n 1, 1) := by decide +kernel
theorem dX11_addOccurrence_7 : decode cX11_addOccurrence 7 = .ok (.iload_n 2, 1) := by decide +kernel
theorem dX11_addOccurrence_8 : decode cX11_addOccurrence 8 = .ok (.invokevirtual 375, 3) := by decide +kernel
theorem dX11_addOccurrence_11 : decode cX11_addOccurrence 11 = .ok (.invokevirtual 96, 3) := by decide +kernel
theorem dX11_addOccurrence_14 : decode cX11_addOccurrence 14 = .ok (.ireturn, 1) := by decide +kernel
theorem dX11_linkOccurrences_0 : decode cX11_linkOccurrences 0 = .ok (.aload_n 0, 1) := by decide +kernel
theorem dX11_linkOccurrences_1 : decode cX11_linkOccurrences 1 = .ok (.invokevirtual 89, 3) := by decide +kernel
theorem dX11_linkOccurrences_4 : decode cX11_linkOccurrences 4 = .ok (.aload_n 0, 1) := by decide +kernel
theorem dX11_linkOccurrences_5 : decode cX11_linkOccurrences 5 = .ok (.aload_n 0, 1) := by decide +kernel
theorem dX11_linkOccurrences_6 : decode cX11_linkOccurrences 6 = .ok (.iload_n 1, 1) := by decide +kernel
theorem dX11_linkOccurrences_7 : decode cX11_linkOccurrences 7 = .ok (.iload_n 2, 1) := by decide +kernel
theorem dX11_linkOccurrences_8 : decode cX11_linkOccurrences 8 = .ok (.invokevirtual 378, 3) := by decide +kernel
theorem dX11_linkOccurrences_11 : decode cX11_linkOccurrences 11 = .ok (.invokevirtual 96, 3) := by decide +kernel
theorem dX11_linkOccurrences_14 : decode cX11_linkOccurrences 14 = .ok (.ireturn, 1) := by decide +kernel
theorem dX11_sameConduct_0 : decode cX11_sameConduct 0 = .ok (.aload_n 0, 1) := by decide +kernel
theorem dX11_sameConduct_1 : decode cX11_sameConduct 1 = .ok (.iload_n 1, 1) := by decide +kernel
theorem dX11_sameConduct_2 : decode cX11_sameConduct 2 = .ok (.invokevirtual 381, 3) := by decide +kernel
theorem dX11_sameConduct_5 : decode cX11_sameConduct 5 = .ok (.aload_n 0, 1) := by decide +kernel
theorem dX11_sameConduct_6 : decode cX11_sameConduct 6 = .ok (.iload_n 2, 1) := by decide +kernel
theorem dX11_sameConduct_7 : decode cX11_sameConduct 7 = .ok (.invokevirtual 381, 3) := by decide +kernel
theorem dX11_sameConduct_10 : decode cX11_sameConduct 10 = .ok (.aload_n 0, 1) := by decide +kernel
theorem dX11_sameConduct_11 : decode cX11_sameConduct 11 = .ok (.getfield 26, 3) := by decide +kernel
theorem dX11_sameConduct_14 : decode cX11_sameConduct 14 = .ok (.getfield 384, 3) := by decide +kernel
theorem dX11_sameConduct_17 : decode cX11_sameConduct 17 = .ok (.iload_n 1, 1) := by decide +kernel
theorem dX11_sameConduct_18 : decode cX11_sameConduct 18 = .ok (.iload_n 2, 1) := by decide +kernel
theorem dX11_sameConduct_19 : decode cX11_sameConduct 19 = .ok (.invokevirtual 388, 3) := by decide +kernel
theorem dX11_sameConduct_22 : decode cX11_sameConduct 22 = .ok (.ireturn, 1) := by decide +kernel
theorem dX11_sameConductBySearch_0 : decode cX11_sameConductBySearch 0 = .ok (.aload_n 0, 1) := by decide +kernel
theorem dX11_sameConductBySearch_1 : decode cX11_sameConductBySearch 1 = .ok (.iload_n 1, 1) := by decide +kernel
theorem dX11_sameConductBySearch_2 : decode cX11_sameConductBySearch 2 = .ok (.invokevirtual 381, 3) := by decide +kernel
theorem dX11_sameConductBySearch_5 : decode cX11_sameConductBySearch 5 = .ok (.aload_n 0, 1) := by decide +kernel
theorem dX11_sameConductBySearch_6 : decode cX11_sameConductBySearch 6 = .ok (.iload_n 2, 1) := by decide +kernel
theorem dX11_sameConductBySearch_7 : decode cX11_sameConductBySearch 7 = .ok (.invokevirtual 381, 3) := by decide +kernel
theorem dX11_sameConductBySearch_10 : decode cX11_sameConductBySearch 10 = .ok (.aload_n 0, 1) := by decide +kernel
theorem dX11_sameConductBySearch_11 : decode cX11_sameConductBySearch 11 = .ok (.getfield 26, 3) := by decide +kernel
theorem dX11_sameConductBySearch_14 : decode cX11_sameConductBySearch 14 = .ok (.getfield 384, 3) := by decide +kernel
theorem dX11_sameConductBySearch_17 : decode cX11_sameConductBySearch 17 = .ok (.iload_n 1, 1) := by decide +kernel
theorem dX11_sameConductBySearch_18 : decode cX11_sameConductBySearch 18 = .ok (.iload_n 2, 1) := by decide +kernel
theorem dX11_sameConductBySearch_19 : decode cX11_sameConductBySearch 19 = .ok (.invokevirtual 394, 3) := by decide +kernel
theorem dX11_sameConductBySearch_22 : decode cX11_sameConductBySearch 22 = .ok (.ireturn, 1) := by decide +kernel
theorem dX11_barDay_0 : decode cX11_barDay 0 = .ok (.aload_n 0, 1) := by decide +kernel
theorem dX11_barDay_1 : decode cX11_barDay 1 = .ok (.iload_n 1, 1) := by decide +kernel
theorem dX11_barDay_2 : decode cX11_barDay 2 = .ok (.invokevirtual 381, 3) := by decide +kernel
theorem dX11_barDay_5 : decode cX11_barDay 5 = .ok (.aload_n 0, 1) := by decide +kernel
theorem dX11_barDay_6 : decode cX11_barDay 6 = .ok (.getfield 47, 3) := by decide +kernel
theorem dX11_barDay_9 : decode cX11_barDay 9 = .ok (.aload_n 0, 1) := by decide +kernel
theorem dX11_barDay_10 : decode cX11_barDay 10 = .ok (.getfield 26, 3) := by decide +kernel
theorem dX11_barDay_13 : decode cX11_barDay 13 = .ok (.getfield 384, 3) := by decide +kernel
theorem dX11_barDay_16 : decode cX11_barDay 16 = .ok (.getfield 397, 3) := by decide +kernel
theorem dX11_barDay_19 : decode cX11_barDay 19 = .ok (.iload_n 1, 1) := by decide +kernel
theorem dX11_barDay_20 : decode cX11_barDay 20 = .ok (.invokevirtual 262, 3) := by decide +kernel
theorem dX11_barDay_23 : decode cX11_barDay 23 = .ok (.invokestatic 266, 3) := by decide +kernel
theorem dX11_barDay_26 : decode cX11_barDay 26 = .ok (.ireturn, 1) := by decide +kernel
theorem dX11_fileClaim_0 : decode cX11_fileClaim 0 = .ok (.aload_n 0, 1) := by decide +kernel
theorem dX11_fileClaim_1 : decode cX11_fileClaim 1 = .ok (.invokevirtual 89, 3) := by decide +kernel
theorem dX11_fileClaim_4 : decode cX11_fileClaim 4 = .ok (.aload_n 0, 1) := by decide +kernel
theorem dX11_fileClaim_5 : decode cX11_fileClaim 5 = .ok (.aload_n 0, 1) := by decide +kernel
theorem dX11_fileClaim_6 : decode cX11_fileClaim 6 = .ok (.iload_n 1, 1) := by decide +kernel
theorem dX11_fileClaim_7 : decode cX11_fileClaim 7 = .ok (.iload_n 2, 1) := by decide +kernel
theorem dX11_fileClaim_8 : decode cX11_fileClaim 8 = .ok (.invokevirtual 400, 3) := by decide +kernel
theorem dX11_fileClaim_11 : decode cX11_fileClaim 11 = .ok (.invokevirtual 96, 3) := by decide +kernel
theorem dX11_fileClaim_14 : decode cX11_fileClaim 14 = .ok (.ireturn, 1) := by decide +kernel
theorem dX11_amendClaim_0 : decode cX11_amendClaim 0 = .ok (.aload_n 0, 1) := by decide +kernel
theorem dX11_amendClaim_1 : decode cX11_amendClaim 1 = .ok (.invokevirtual 89, 3) := by decide +kernel
theorem dX11_amendClaim_4 : decode cX11_amendClaim 4 = .ok (.aload_n 0, 1) := by decide +kernel
theorem dX11_amendClaim_5 : decode cX11_amendClaim 5 = .ok (.aload_n 0, 1) := by decide +kernel
theorem dX11_amendClaim_6 : decode cX11_amendClaim 6 = .ok (.iload_n 1, 1) := by decide +kernel
theorem dX11_amendClaim_7 : decode cX11_amendClaim 7 = .ok (.iload_n 2, 1) := by decide +kernel
theorem dX11_amendClaim_8 : decode cX11_amendClaim 8 = .ok (.invokevirtual 403, 3) := by decide +kernel
theorem dX11_amendClaim_11 : decode cX11_amendClaim 11 = .ok (.invokevirtual 96, 3) := by decide +kernel
theorem dX11_amendClaim_14 : decode cX11_amendClaim 14 = .ok (.ireturn, 1) := by decide +kernel
theorem dX11_effectiveDay_0 : decode cX11_effectiveDay 0 = .ok (.aload_n 0, 1) := by decide +kernel
theorem dX11_effectiveDay_1 : decode cX11_effectiveDay 1 = .ok (.iload_n 1, 1) := by decide +kernel
theorem dX11_effectiveDay_2 : decode cX11_effectiveDay 2 = .ok (.invokevirtual 406, 3) := by decide +kernel
theorem dX11_effectiveDay_5 : decode cX11_effectiveDay 5 = .ok (.aload_n 0, 1) := by decide +kernel
theorem dX11_effectiveDay_6 : decode cX11_effectiveDay 6 = .ok (.getfield 26, 3) := by decide +kernel
theorem dX11_effectiveDay_9 : decode cX11_effectiveDay 9 = .ok (.getfield 384, 3) := by decide +kernel
theorem dX11_effectiveDay_12 : decode cX11_effectiveDay 12 = .ok (.iload_n 1, 1) := by decide +kernel
theorem dX11_effectiveDay_13 : decode cX11_effectiveDay 13 = .ok (.invokevirtual 409, 3) := by decide +kernel
theorem dX11_effectiveDay_16 : decode cX11_effectiveDay 16 = .ok (.ireturn, 1) := by decide +kernel
theorem dX11_isTimely_0 : decode cX11_isTimely 0 = .ok (.aload_n 0, 1) := by decide +kernel
theorem dX11_isTimely_1 : decode cX11_isTimely 1 = .ok (.iload_n 1, 1) := by decide +kernel
theorem dX11_isTimely_2 : decode cX11_isTimely 2 = .ok (.invokevirtual 406, 3) := by decide +kernel
theorem dX11_isTimely_5 : decode cX11_isTimely 5 = .ok (.aload_n 0, 1) := by decide +kernel
theorem dX11_isTimely_6 : decode cX11_isTimely 6 = .ok (.iload_n 1, 1) := by decide +kernel
theorem dX11_isTimely_7 : decode cX11_isTimely 7 = .ok (.invokevirtual 412, 3) := by decide +kernel
theorem dX11_isTimely_10 : decode cX11_isTimely 10 = .ok (.ireturn, 1) := by decide +kernel
theorem dX11_timelyClaims_0 : decode cX11_timelyClaims 0 = .ok (.aload_n 0, 1) := by decide +kernel
theorem dX11_timelyClaims_1 : decode cX11_timelyClaims 1 = .ok (.iload_n 1, 1) := by decide +kernel
theorem dX11_timelyClaims_2 : decode cX11_timelyClaims 2 = .ok (.invokevirtual 125, 3) := by decide +kernel
theorem dX11_timelyClaims_5 : decode cX11_timelyClaims 5 = .ok (.iconst 0, 1) := by decide +kernel
theorem dX11_timelyClaims_6 : decode cX11_timelyClaims 6 = .ok (.istore_n 2, 1) := by decide +kernel
theorem dX11_timelyClaims_7 : decode cX11_timelyClaims 7 = .ok (.iconst 0, 1) := by decide +kernel
theorem dX11_timelyClaims_8 : decode cX11_timelyClaims 8 = .ok (.istore_n 3, 1) := by decide +kernel
theorem dX11_timelyClaims_9 : decode cX11_timelyClaims 9 = .ok (.iload_n 3, 1) := by decide +kernel
theorem dX11_timelyClaims_10 : decode cX11_timelyClaims 10 = .ok (.aload_n 0, 1) := by decide +kernel
theorem dX11_timelyClaims_11 : decode cX11_timelyClaims 11 = .ok (.getfield 26, 3) := by decide +kernel
theorem dX11_timelyClaims_14 : decode cX11_timelyClaims 14 = .ok (.getfield 384, 3) := by decide +kernel
theorem dX11_timelyClaims_17 : decode cX11_timelyClaims 17 = .ok (.getfield 415, 3) := by decide +kernel
theorem dX11_timelyClaims_20 : decode cX11_timelyClaims 20 = .ok (.if_icmp .ge 36, 3) := by decide +kernel
theorem dX11_timelyClaims_23 : decode cX11_timelyClaims 23 = .ok (.aload_n 0, 1) := by decide +kernel
theorem dX11_timelyClaims_24 : decode cX11_timelyClaims 24 = .ok (.getfield 26, 3) := by decide +kernel
theorem dX11_timelyClaims_27 : decode cX11_timelyClaims 27 = .ok (.getfield 384, 3) := by decide +kernel
theorem dX11_timelyClaims_30 : decode cX11_timelyClaims 30 = .ok (.getfield 416, 3) := by decide +kernel
theorem dX11_timelyClaims_33 : decode cX11_timelyClaims 33 = .ok (.iload_n 3, 1) := by decide +kernel
theorem dX11_timelyClaims_34 : decode cX11_timelyClaims 34 = .ok (.iaload, 1) := by decide +kernel
theorem dX11_timelyClaims_35 : decode cX11_timelyClaims 35 = .ok (.iload_n 1, 1) := by decide +kernel
theorem dX11_timelyClaims_36 : decode cX11_timelyClaims 36 = .ok (.if_icmp .ne 14, 3) := by decide +kernel
theorem dX11_timelyClaims_39 : decode cX11_timelyClaims 39 = .ok (.aload_n 0, 1) := by decide +kernel
theorem dX11_timelyClaims_40 : decode cX11_timelyClaims 40 = .ok (.iload_n 3, 1) := by decide +kernel
theorem dX11_timelyClaims_41 : decode cX11_timelyClaims 41 = .ok (.invokevirtual 412, 3) := by decide +kernel
theorem dX11_timelyClaims_44 : decode cX11_timelyClaims 44 = .ok (.ifCond .eq 6, 3) := by decide +kernel
theorem dX11_timelyClaims_47 : decode cX11_timelyClaims 47 = .ok (.iinc 2 1, 3) := by decide +kernel
theorem dX11_timelyClaims_50 : decode cX11_timelyClaims 50 = .ok (.iinc 3 1, 3) := by decide +kernel
theorem dX11_timelyClaims_53 : decode cX11_timelyClaims 53 = .ok (.goto (-44), 3) := by decide +kernel
theorem dX11_timelyClaims_56 : decode cX11_timelyClaims 56 = .ok (.iload_n 2, 1) := by decide +kernel
theorem dX11_timelyClaims_57 : decode cX11_timelyClaims 57 = .ok (.ireturn, 1) := by decide +kernel
theorem dX11_tryAddOccurrence_0 : decode cX11_tryAddOccurrence 0 = .ok (.iload_n 1, 1) := by decide +kernel
theorem dX11_tryAddOccurrence_1 : decode cX11_tryAddOccurrence 1 = .ok (.ifCond .lt 17, 3) := by decide +kernel
theorem dX11_tryAddOccurrence_4 : decode cX11_tryAddOccurrence 4 = .ok (.iload_n 1, 1) := by decide +kernel
theorem dX11_tryAddOccurrence_5 : decode cX11_tryAddOccurrence 5 = .ok (.aload_n 0, 1) := by decide +kernel
theorem dX11_tryAddOccurrence_6 : decode cX11_tryAddOccurrence 6 = .ok (.getfield 26, 3) := by decide +kernel
theorem dX11_tryAddOccurrence_9 : decode cX11_tryAddOccurrence 9 = .ok (.getfield 36, 3) := by decide +kernel
theorem dX11_tryAddOccurrence_12 : decode cX11_tryAddOccurrence 12 = .ok (.getfield 152, 3) := by decide +kernel
theorem dX11_tryAddOccurrence_15 : decode cX11_tryAddOccurrence 15 = .ok (.if_icmp .le 6, 3) := by decide +kernel
theorem dX11_tryAddOccurrence_18 : decode cX11_tryAddOccurrence 18 = .ok (.bipush (-2), 2) := by decide +kernel
theorem dX11_tryAddOccurrence_20 : decode cX11_tryAddOccurrence 20 = .ok (.ireturn, 1) := by decide +kernel
theorem dX11_tryAddOccurrence_21 : decode cX11_tryAddOccurrence 21 = .ok (.iload_n 2, 1) := by decide +kernel
theorem dX11_tryAddOccurrence_22 : decode cX11_tryAddOccurrence 22 = .ok (.invokestatic 241, 3) := by decide +kernel
theorem dX11_tryAddOccurrence_25 : decode cX11_tryAddOccurrence 25 = .ok (.ifCond .ne 5, 3) := by decide +kernel
theorem dX11_tryAddOccurrence_28 : decode cX11_tryAddOccurrence 28 = .ok (.iconst (-1), 1) := by decide +kernel
theorem dX11_tryAddOccurrence_29 : decode cX11_tryAddOccurrence 29 = .ok (.ireturn, 1) := by decide +kernel
theorem dX11_tryAddOccurrence_30 : decode cX11_tryAddOccurrence 30 = .ok (.aload_n 0, 1) := by decide +kernel
theorem dX11_tryAddOccurrence_31 : decode cX11_tryAddOccurrence 31 = .ok (.getfield 26, 3) := by decide +kernel
theorem dX11_tryAddOccurrence_34 : decode cX11_tryAddOccurrence 34 = .ok (.getfield 384, 3) := by decide +kernel
theorem dX11_tryAddOccurrence_37 : decode cX11_tryAddOccurrence 37 = .ok (.getfield 397, 3) := by decide +kernel
theorem dX11_tryAddOccurrence_40 : decode cX11_tryAddOccurrence 40 = .ok (.getfield 256, 3) := by decide +kernel
theorem dX11_tryAddOccurrence_43 : decode cX11_tryAddOccurrence 43 = .ok (.bipush 8, 2) := by decide +kernel
theorem dX11_tryAddOccurrence_45 : decode cX11_tryAddOccurrence 45 = .ok (.if_icmp .lt 6, 3) := by decide +kernel
theorem dX11_tryAddOccurrence_48 : decode cX11_tryAddOccurrence 48 = .ok (.bipush (-3), 2) := by decide +kernel
theorem dX11_tryAddOccurrence_50 : decode cX11_tryAddOccurrence 50 = .ok (.ireturn, 1) := by decide +kernel
theorem dX11_tryAddOccurrence_51 : decode cX11_tryAddOccurrence 51 = .ok (.aload_n 0, 1) := by decide +kernel
theorem dX11_tryAddOccurrence_52 : decode cX11_tryAddOccurrence 52 = .ok (.getfield 26, 3) := by decide +kernel
theorem dX11_tryAddOccurrence_55 : decode cX11_tryAddOccurrence 55 = .ok (.getfield 384, 3) := by decide +kernel
theorem dX11_tryAddOccurrence_58 : decode cX11_tryAddOccurrence 58 = .ok (.iload_n 2, 1) := by decide +kernel
theorem dX11_tryAddOccurrence_59 : decode cX11_tryAddOccurrence 59 = .ok (.iload_n 1, 1) := by decide +kernel
theorem dX11_tryAddOccurrence_60 : decode cX11_tryAddOccurrence 60 = .ok (.aload_n 0, 1) := by decide +kernel
theorem dX11_tryAddOccurrence_61 : decode cX11_tryAddOccurrence 61 = .ok (.getfield 26, 3) := by decide +kernel
theorem dX11_tryAddOccurrence_64 : decode cX11_tryAddOccurrence 64 = .ok (.getfield 210, 3) := by decide +kernel
theorem dX11_tryAddOccurrence_67 : decode cX11_tryAddOccurrence 67 = .ok (.invokevirtual 418, 3) := by decide +kernel
theorem dX11_tryAddOccurrence_70 : decode cX11_tryAddOccurrence 70 = .ok (.ireturn, 1) := by decide +kernel
theorem dX11_tryLinkOccurrences_0 : decode cX11_tryLinkOccurrences 0 = .ok (.aload_n 0, 1) := by decide +kernel
theorem dX11_tryLinkOccurrences_1 : decode cX11_tryLinkOccurrences 1 = .ok (.getfield 26, 3) := by decide +kernel
theorem dX11_tryLinkOccurrences_4 : decode cX11_tryLinkOccurrences 4 = .ok (.getfield 384, 3) := by decide +kernel
theorem dX11_tryLinkOccurrences_7 : decode cX11_tryLinkOccurrences 7 = .ok (.getfield 397, 3) := by decide +kernel
theorem dX11_tryLinkOccurrences_10 : decode cX11_tryLinkOccurrences 10 = .ok (.iload_n 1, 1) := by decide +kernel
theorem dX11_tryLinkOccurrences_11 : decode cX11_tryLinkOccurrences 11 = .ok (.invokevirtual 322, 3) := by decide +kernel
theorem dX11_tryLinkOccurrences_14 : decode cX11_tryLinkOccurrences 14 = .ok (.ifCond .eq 20, 3) := by decide +kernel
theorem dX11_tryLinkOccurrences_17 : decode cX11_tryLinkOccurrences 17 = .ok (.aload_n 0, 1) := by decide +kernel
theorem dX11_tryLinkOccurrences_18 : decode cX11_tryLinkOccurrences 18 = .ok (.getfield 26, 3) := by decide +kernel
theorem dX11_tryLinkOccurrences_21 : decode cX11_tryLinkOccurrences 21 = .ok (.getfield 384, 3) := by decide +kernel
theorem dX11_tryLinkOccurrences_24 : decode cX11_tryLinkOccurrences 24 = .ok (.getfield 397, 3) := by decide +kernel
theorem dX11_tryLinkOccurrences_27 : decode cX11_tryLinkOccurrences 27 = .ok (.iload_n 2, 1) := by decide +kernel
theorem dX11_tryLinkOccurrences_28 : decode cX11_tryLinkOccurrences 28 = .ok (.invokevirtual 322, 3) := by decide +kernel
theorem dX11_tryLinkOccurrences_31 : decode cX11_tryLinkOccurrences 31 = .ok (.ifCond .ne 5, 3) := by decide +kernel
theorem dX11_tryLinkOccurrences_34 : decode cX11_tryLinkOccurrences 34 = .ok (.iconst (-1), 1) := by decide +kernel
theorem dX11_tryLinkOccurrences_35 : decode cX11_tryLinkOccurrences 35 = .ok (.ireturn, 1) := by decide +kernel
theorem dX11_tryLinkOccurrences_36 : decode cX11_tryLinkOccurrences 36 = .ok (.iload_n 1, 1) := by decide +kernel
theorem dX11_tryLinkOccurrences_37 : decode cX11_tryLinkOccurrences 37 = .ok (.iload_n 2, 1) := by decide +kernel
theorem dX11_tryLinkOccurrences_38 : decode cX11_tryLinkOccurrences 38 = .ok (.if_icmp .ne 6, 3) := by decide +kernel
theorem dX11_tryLinkOccurrences_41 : decode cX11_tryLinkOccurrences 41 = .ok (.bipush (-2), 2) := by decide +kernel
theorem dX11_tryLinkOccurrences_43 : decode cX11_tryLinkOccurrences 43 = .ok (.ireturn, 1) := by decide +kernel
theorem dX11_tryLinkOccurrences_44 : decode cX11_tryLinkOccurrences 44 = .ok (.aload_n 0, 1) := by decide +kernel
theorem dX11_tryLinkOccurrences_45 : decode cX11_tryLinkOccurrences 45 = .ok (.getfield 26, 3) := by decide +kernel
theorem dX11_tryLinkOccurrences_48 : decode cX11_tryLinkOccurrences 48 = .ok (.getfield 384, 3) := by decide +kernel
theorem dX11_tryLinkOccurrences_51 : decode cX11_tryLinkOccurrences 51 = .ok (.iload_n 1, 1) := by decide +kernel
theorem dX11_tryLinkOccurrences_52 : decode cX11_tryLinkOccurrences 52 = .ok (.iload_n 2, 1) := by decide +kernel
theorem dX11_tryLinkOccurrences_53 : decode cX11_tryLinkOccurrences 53 = .ok (.invokevirtual 422, 3) := by decide +kernel
theorem dX11_tryLinkOccurrences_56 : decode cX11_tryLinkOccurrences 56 = .ok (.ifCond .eq 6, 3) := by decide +kernel
theorem dX11_tryLinkOccurrences_59 : decode cX11_tryLinkOccurrences 59 = .ok (.bipush (-3), 2) := by decide +kernel
theorem dX11_tryLinkOccurrences_61 : decode cX11_tryLinkOccurrences 61 = .ok (.ireturn, 1) := by decide +kernel
theorem dX11_tryLinkOccurrences_62 : decode cX11_tryLinkOccurrences 62 = .ok (.aload_n 0, 1) := by decide +kernel
theorem dX11_tryLinkOccurrences_63 : decode cX11_tryLinkOccurrences 63 = .ok (.getfield 26, 3) := by decide +kernel
theorem dX11_tryLinkOccurrences_66 : decode cX11_tryLinkOccurrences 66 = .ok (.getfield 384, 3) := by decide +kernel
theorem dX11_tryLinkOccurrences_69 : decode cX11_tryLinkOccurrences 69 = .ok (.iload_n 1, 1) := by decide +kernel
theorem dX11_tryLinkOccurrences_70 : decode cX11_tryLinkOccurrences 70 = .ok (.iload_n 2, 1) := by decide +kernel
theorem dX11_tryLinkOccurrences_71 : decode cX11_tryLinkOccurrences 71 = .ok (.invokevirtual 425, 3) := by decide +kernel
theorem dX11_tryLinkOccurrences_74 : decode cX11_tryLinkOccurrences 74 = .ok (.aload_n 0, 1) := by decide +kernel
theorem dX11_tryLinkOccurrences_75 : decode cX11_tryLinkOccurrences 75 = .ok (.getfield 26, 3) := by decide +kernel
theorem dX11_tryLinkOccurrences_78 : decode cX11_tryLinkOccurrences 78 = .ok (.getfield 384, 3) := by decide +kernel
theorem dX11_tryLinkOccurrences_81 : decode cX11_tryLinkOccurrences 81 = .ok (.invokevirtual 428, 3) := by decide +kernel
theorem dX11_tryLinkOccurrences_84 : decode cX11_tryLinkOccurrences 84 = .ok (.ireturn, 1) := by decide +kernel
theorem dX11_tryFileClaim_0 : decode cX11_tryFileClaim 0 = .ok (.aload_n 0, 1) := by decide +kernel
theorem dX11_tryFileClaim_1 : decode cX11_tryFileClaim 1 = .ok (.getfield 26, 3) := by decide +kernel
theorem dX11_tryFileClaim_4 : decode cX11_tryFileClaim 4 = .ok (.getfield 107, 3) := by decide +kernel
theorem dX11_tryFileClaim_7 : decode cX11_tryFileClaim 7 = .ok (.iload_n 1, 1) := by decide +kernel
theorem dX11_tryFileClaim_8 : decode cX11_tryFileClaim 8 = .ok (.invokevirtual 146, 3) := by decide +kernel
theorem dX11_tryFileClaim_11 : decode cX11_tryFileClaim 11 = .ok (.ifCond .eq 20, 3) := by decide +kernel
theorem dX11_tryFileClaim_14 : decode cX11_tryFileClaim 14 = .ok (.aload_n 0, 1) := by decide +kernel
theorem dX11_tryFileClaim_15 : decode cX11_tryFileClaim 15 = .ok (.getfield 26, 3) := by decide +kernel
theorem dX11_tryFileClaim_18 : decode cX11_tryFileClaim 18 = .ok (.getfield 384, 3) := by decide +kernel
theorem dX11_tryFileClaim_21 : decode cX11_tryFileClaim 21 = .ok (.getfield 397, 3) := by decide +kernel
theorem dX11_tryFileClaim_24 : decode cX11_tryFileClaim 24 = .ok (.iload_n 2, 1) := by decide +kernel
theorem dX11_tryFileClaim_25 : decode cX11_tryFileClaim 25 = .ok (.invokevirtual 322, 3) := by decide +kernel
theorem dX11_tryFileClaim_28 : decode cX11_tryFileClaim 28 = .ok (.ifCond .ne 5, 3) := by decide +kernel
theorem dX11_tryFileClaim_31 : decode cX11_tryFileClaim 31 = .ok (.iconst (-1), 1) := by decide +kernel
theorem dX11_tryFileClaim_32 : decode cX11_tryFileClaim 32 = .ok (.ireturn, 1) := by decide +kernel
theorem dX11_tryFileClaim_33 : decode cX11_tryFileClaim 33 = .ok (.aload_n 0, 1) := by decide +kernel
theorem dX11_tryFileClaim_34 : decode cX11_tryFileClaim 34 = .ok (.getfield 26, 3) := by decide +kernel
theorem dX11_tryFileClaim_37 : decode cX11_tryFileClaim 37 = .ok (.getfield 384, 3) := by decide +kernel
theorem dX11_tryFileClaim_40 : decode cX11_tryFileClaim 40 = .ok (.getfield 415, 3) := by decide +kernel
theorem dX11_tryFileClaim_43 : decode cX11_tryFileClaim 43 = .ok (.bipush 20, 2) := by decide +kernel
theorem dX11_tryFileClaim_45 : decode cX11_tryFileClaim 45 = .ok (.if_icmp .lt 6, 3) := by decide +kernel
theorem dX11_tryFileClaim_48 : decode cX11_tryFileClaim 48 = .ok (.bipush (-3), 2) := by decide +kernel
theorem dX11_tryFileClaim_50 : decode cX11_tryFileClaim 50 = .ok (.ireturn, 1) := by decide +kernel
theorem dX11_tryFileClaim_51 : decode cX11_tryFileClaim 51 = .ok (.aload_n 0, 1) := by decide +kernel
theorem dX11_tryFileClaim_52 : decode cX11_tryFileClaim 52 = .ok (.getfield 26, 3) := by decide +kernel
theorem dX11_tryFileClaim_55 : decode cX11_tryFileClaim 55 = .ok (.getfield 384, 3) := by decide +kernel
theorem dX11_tryFileClaim_58 : decode cX11_tryFileClaim 58 = .ok (.iload_n 1, 1) := by decide +kernel
theorem dX11_tryFileClaim_59 : decode cX11_tryFileClaim 59 = .ok (.iload_n 2, 1) := by decide +kernel
theorem dX11_tryFileClaim_60 : decode cX11_tryFileClaim 60 = .ok (.aload_n 0, 1) := by decide +kernel
theorem dX11_tryFileClaim_61 : decode cX11_tryFileClaim 61 = .ok (.getfield 26, 3) := by decide +kernel
theorem dX11_tryFileClaim_64 : decode cX11_tryFileClaim 64 = .ok (.getfield 36, 3) := by decide +kernel
theorem dX11_tryFileClaim_67 : decode cX11_tryFileClaim 67 = .ok (.getfield 152, 3) := by decide +kernel
theorem dX11_tryFileClaim_70 : decode cX11_tryFileClaim 70 = .ok (.iconst (-1), 1) := by decide +kernel
theorem dX11_tryFileClaim_71 : decode cX11_tryFileClaim 71 = .ok (.invokevirtual 431, 3) := by decide +kernel
theorem dX11_tryFileClaim_74 : decode cX11_tryFileClaim 74 = .ok (.ireturn, 1) := by decide +kernel
theorem dX11_tryAmendClaim_0 : decode cX11_tryAmendClaim 0 = .ok (.aload_n 0, 1) := by decide +kernel
theorem dX11_tryAmendClaim_1 : decode cX11_tryAmendClaim 1 = .ok (.getfield 26, 3) := by decide +kernel
theorem dX11_tryAmendClaim_4 : decode cX11_tryAmendClaim 4 = .ok (.getfield 384, 3) := by decide +kernel
theorem dX11_tryAmendClaim_7 : decode cX11_tryAmendClaim 7 = .ok (.iload_n 1, 1) := by decide +kernel
theorem dX11_tryAmendClaim_8 : decode cX11_tryAmendClaim 8 = .ok (.invokevirtual 435, 3) := by decide +kernel
theorem dX11_tryAmendClaim_11 : decode cX11_tryAmendClaim 11 = .ok (.ifCond .eq 20, 3) := by decide +kernel
theorem dX11_tryAmendClaim_14 : decode cX11_tryAmendClaim 14 = .ok (.aload_n 0, 1) := by decide +kernel
theorem dX11_tryAmendClaim_15 : decode cX11_tryAmendClaim 15 = .ok (.getfield 26, 3) := by decide +kernel
theorem dX11_tryAmendClaim_18 : decode cX11_tryAmendClaim 18 = .ok (.getfield 384, 3) := by decide +kernel
theorem dX11_tryAmendClaim_21 : decode cX11_tryAmendClaim 21 = .ok (.getfield 397, 3) := by decide +kernel
theorem dX11_tryAmendClaim_24 : decode cX11_tryAmendClaim 24 = .ok (.iload_n 2, 1) := by decide +kernel
theorem dX11_tryAmendClaim_25 : decode cX11_tryAmendClaim 25 = .ok (.invokevirtual 322, 3) := by decide +kernel
theorem dX11_tryAmendClaim_28 : decode cX11_tryAmendClaim 28 = .ok (.ifCond .ne 5, 3) := by decide +kernel
theorem dX11_tryAmendClaim_31 : decode cX11_tryAmendClaim 31 = .ok (.iconst (-1), 1) := by decide +kernel
theorem dX11_tryAmendClaim_32 : decode cX11_tryAmendClaim 32 = .ok (.ireturn, 1) := by decide +kernel
theorem dX11_tryAmendClaim_33 : decode cX11_tryAmendClaim 33 = .ok (.aload_n 0, 1) := by decide +kernel
theorem dX11_tryAmendClaim_34 : decode cX11_tryAmendClaim 34 = .ok (.getfield 26, 3) := by decide +kernel
theorem dX11_tryAmendClaim_37 : decode cX11_tryAmendClaim 37 = .ok (.getfield 384, 3) := by decide +kernel
theorem dX11_tryAmendClaim_40 : decode cX11_tryAmendClaim 40 = .ok (.getfield 415, 3) := by decide +kernel
theorem dX11_tryAmendClaim_43 : decode cX11_tryAmendClaim 43 = .ok (.bipush 20, 2) := by decide +kernel
theorem dX11_tryAmendClaim_45 : decode cX11_tryAmendClaim 45 = .ok (.if_icmp .lt 6, 3) := by decide +kernel
theorem dX11_tryAmendClaim_48 : decode cX11_tryAmendClaim 48 = .ok (.bipush (-3), 2) := by decide +kernel
theorem dX11_tryAmendClaim_50 : decode cX11_tryAmendClaim 50 = .ok (.ireturn, 1) := by decide +kernel
theorem dX11_tryAmendClaim_51 : decode cX11_tryAmendClaim 51 = .ok (.aload_n 0, 1) := by decide +kernel
theorem dX11_tryAmendClaim_52 : decode cX11_tryAmendClaim 52 = .ok (.getfield 26, 3) := by decide +kernel
theorem dX11_tryAmendClaim_55 : decode cX11_tryAmendClaim 55 = .ok (.getfield 384, 3) := by decide +kernel
theorem dX11_tryAmendClaim_58 : decode cX11_tryAmendClaim 58 = .ok (.aload_n 0, 1) := by decide +kernel
theorem dX11_tryAmendClaim_59 : decode cX11_tryAmendClaim 59 = .ok (.getfield 26, 3) := by decide +kernel
theorem dX11_tryAmendClaim_62 : decode cX11_tryAmendClaim 62 = .ok (.getfield 384, 3) := by decide +kernel
theorem dX11_tryAmendClaim_65 : decode cX11_tryAmendClaim 65 = .ok (.getfield 416, 3) := by decide +kernel
theorem dX11_tryAmendClaim_68 : decode cX11_tryAmendClaim 68 = .ok (.iload_n 1, 1) := by decide +kernel
theorem dX11_tryAmendClaim_69 : decode cX11_tryAmendClaim 69 = .ok (.iaload, 1) := by decide +kernel
theorem dX11_tryAmendClaim_70 : decode cX11_tryAmendClaim 70 = .ok (.iload_n 2, 1) := by decide +kernel
theorem dX11_tryAmendClaim_71 : decode cX11_tryAmendClaim 71 = .ok (.aload_n 0, 1) := by decide +kernel
theorem dX11_tryAmendClaim_72 : decode cX11_tryAmendClaim 72 = .ok (.getfield 26, 3) := by decide +kernel
theorem dX11_tryAmendClaim_75 : decode cX11_tryAmendClaim 75 = .ok (.getfield 36, 3) := by decide +kernel
theorem dX11_tryAmendClaim_78 : decode cX11_tryAmendClaim 78 = .ok (.getfield 152, 3) := by decide +kernel
theorem dX11_tryAmendClaim_81 : decode cX11_tryAmendClaim 81 = .ok (.iload_n 1, 1) := by decide +kernel
theorem dX11_tryAmendClaim_82 : decode cX11_tryAmendClaim 82 = .ok (.invokevirtual 431, 3) := by decide +kernel
theorem dX11_tryAmendClaim_85 : decode cX11_tryAmendClaim 85 = .ok (.ireturn, 1) := by decide +kernel
theorem dX11_needOccurrence_0 : decode cX11_needOccurrence 0 = .ok (.aload_n 0, 1) := by decide +kernel
theorem dX11_needOccurrence_1 : decode cX11_needOccurrence 1 = .ok (.getfield 26, 3) := by decide +kernel
theorem dX11_needOccurrence_4 : decode cX11_needOccurrence 4 = .ok (.getfield 384, 3) := by decide +kernel
theorem dX11_needOccurrence_7 : decode cX11_needOccurrence 7 = .ok (.getfield 397, 3) := by decide +kernel
theorem dX11_needOccurrence_10 : decode cX11_needOccurrence 10 = .ok (.iload_n 1, 1) := by decide +kernel
theorem dX11_needOccurrence_11 : decode cX11_needOccurrence 11 = .ok (.invokevirtual 322, 3) := by decide +kernel
theorem dX11_needOccurrence_14 : decode cX11_needOccurrence 14 = .ok (.ifCond .ne 14, 3) := by decide +kernel
theorem dX11_needOccurrence_17 : decode cX11_needOccurrence 17 = .ok (.new 132, 3) := by decide +kernel
theorem dX11_needOccurrence_20 : decode cX11_needOccurrence 20 = .ok (.dup, 1) := by decide +kernel
theorem dX11_needOccurrence_21 : decode cX11_needOccurrence 21 = .ok (.ldc_w 436, 3) := by decide +kernel
theorem dX11_needOccurrence_24 : decode cX11_needOccurrence 24 = .ok (.invokespecial 136, 3) := by decide +kernel
theorem dX11_needOccurrence_27 : decode cX11_needOccurrence 27 = .ok (.athrow, 1) := by decide +kernel
theorem dX11_needOccurrence_28 : decode cX11_needOccurrence 28 = .ok (.return_, 1) := by decide +kernel
theorem dX11_needClaim_0 : decode cX11_needClaim 0 = .ok (.aload_n 0, 1) := by decide +kernel
theorem dX11_needClaim_1 : decode cX11_needClaim 1 = .ok (.getfield 26, 3) := by decide +kernel
theorem dX11_needClaim_4 : decode cX11_needClaim 4 = .ok (.getfield 384, 3) := by decide +kernel
theorem dX11_needClaim_7 : decode cX11_needClaim 7 = .ok (.iload_n 1, 1) := by decide +kernel
theorem dX11_needClaim_8 : decode cX11_needClaim 8 = .ok (.invokevirtual 435, 3) := by decide +kernel
theorem dX11_needClaim_11 : decode cX11_needClaim 11 = .ok (.ifCond .ne 14, 3) := by decide +kernel
theorem dX11_needClaim_14 : decode cX11_needClaim 14 = .ok (.new 132, 3) := by decide +kernel
theorem dX11_needClaim_17 : decode cX11_needClaim 17 = .ok (.dup, 1) := by decide +kernel
theorem dX11_needClaim_18 : decode cX11_needClaim 18 = .ok (.ldc_w 438, 3) := by decide +kernel
theorem dX11_needClaim_21 : decode cX11_needClaim 21 = .ok (.invokespecial 136, 3) := by decide +kernel
theorem dX11_needClaim_24 : decode cX11_needClaim 24 = .ok (.athrow, 1) := by decide +kernel
theorem dX11_needClaim_25 : decode cX11_needClaim 25 = .ok (.return_, 1) := by decide +kernel
theorem dX11_meetsBar_0 : decode cX11_meetsBar 0 = .ok (.aload_n 0, 1) := by decide +kernel
theorem dX11_meetsBar_1 : decode cX11_meetsBar 1 = .ok (.getfield 47, 3) := by decide +kernel
theorem dX11_meetsBar_4 : decode cX11_meetsBar 4 = .ok (.aload_n 0, 1) := by decide +kernel
theorem dX11_meetsBar_5 : decode cX11_meetsBar 5 = .ok (.getfield 26, 3) := by decide +kernel
theorem dX11_meetsBar_8 : decode cX11_meetsBar 8 = .ok (.getfield 384, 3) := by decide +kernel
theorem dX11_meetsBar_11 : decode cX11_meetsBar 11 = .ok (.getfield 397, 3) := by decide +kernel
theorem dX11_meetsBar_14 : decode cX11_meetsBar 14 = .ok (.aload_n 0, 1) := by decide +kernel
theorem dX11_meetsBar_15 : decode cX11_meetsBar 15 = .ok (.getfield 26, 3) := by decide +kernel
theorem dX11_meetsBar_18 : decode cX11_meetsBar 18 = .ok (.getfield 384, 3) := by decide +kernel
theorem dX11_meetsBar_21 : decode cX11_meetsBar 21 = .ok (.getfield 440, 3) := by decide +kernel
theorem dX11_meetsBar_24 : decode cX11_meetsBar 24 = .ok (.iload_n 1, 1) := by decide +kernel
theorem dX11_meetsBar_25 : decode cX11_meetsBar 25 = .ok (.iaload, 1) := by decide +kernel
theorem dX11_meetsBar_26 : decode cX11_meetsBar 26 = .ok (.invokevirtual 262, 3) := by decide +kernel
theorem dX11_meetsBar_29 : decode cX11_meetsBar 29 = .ok (.istore_n 2, 1) := by decide +kernel
theorem dX11_meetsBar_30 : decode cX11_meetsBar 30 = .ok (.aload_n 0, 1) := by decide +kernel
theorem dX11_meetsBar_31 : decode cX11_meetsBar 31 = .ok (.getfield 26, 3) := by decide +kernel
theorem dX11_meetsBar_34 : decode cX11_meetsBar 34 = .ok (.getfield 384, 3) := by decide +kernel
theorem dX11_meetsBar_37 : decode cX11_meetsBar 37 = .ok (.iload_n 1, 1) := by decide +kernel
theorem dX11_meetsBar_38 : decode cX11_meetsBar 38 = .ok (.invokevirtual 409, 3) := by decide +kernel
theorem dX11_meetsBar_41 : decode cX11_meetsBar 41 = .ok (.iload_n 2, 1) := by decide +kernel
theorem dX11_meetsBar_42 : decode cX11_meetsBar 42 = .ok (.if_icmp .gt 7, 3) := by decide +kernel
theorem dX11_meetsBar_45 : decode cX11_meetsBar 45 = .ok (.iconst 1, 1) := by decide +kernel
theorem dX11_meetsBar_46 : decode cX11_meetsBar 46 = .ok (.goto 4, 3) := by decide +kernel
theorem dX11_meetsBar_49 : decode cX11_meetsBar 49 = .ok (.iconst 0, 1) := by decide +kernel
theorem dX11_meetsBar_50 : decode cX11_meetsBar 50 = .ok (.ireturn, 1) := by decide +kernel
theorem dX11_writeDeadline_0 : decode cX11_writeDeadline 0 = .ok (.aload_n 0, 1) := by decide +kernel
theorem dX11_writeDeadline_1 : decode cX11_writeDeadline 1 = .ok (.iload_n 1, 1) := by decide +kernel
theorem dX11_writeDeadline_2 : decode cX11_writeDeadline 2 = .ok (.invokevirtual 259, 3) := by decide +kernel
theorem dX11_writeDeadline_5 : decode cX11_writeDeadline 5 = .ok (.aload_n 0, 1) := by decide +kernel
theorem dX11_writeDeadline_6 : decode cX11_writeDeadline 6 = .ok (.getfield 47, 3) := by decide +kernel
theorem dX11_writeDeadline_9 : decode cX11_writeDeadline 9 = .ok (.aload_n 0, 1) := by decide +kernel
theorem dX11_writeDeadline_10 : decode cX11_writeDeadline 10 = .ok (.getfield 26, 3) := by decide +kernel
theorem dX11_writeDeadline_13 : decode cX11_writeDeadline 13 = .ok (.getfield 252, 3) := by decide +kernel
theorem dX11_writeDeadline_16 : decode cX11_writeDeadline 16 = .ok (.iload_n 1, 1) := by decide +kernel
theorem dX11_writeDeadline_17 : decode cX11_writeDeadline 17 = .ok (.invokevirtual 262, 3) := by decide +kernel
theorem dX11_writeDeadline_20 : decode cX11_writeDeadline 20 = .ok (.istore_n 2, 1) := by decide +kernel
theorem dX11_writeDeadline_21 : decode cX11_writeDeadline 21 = .ok (.aload_n 0, 1) := by decide +kernel
theorem dX11_writeDeadline_22 : decode cX11_writeDeadline 22 = .ok (.getfield 16, 3) := by decide +kernel
theorem dX11_writeDeadline_25 : decode cX11_writeDeadline 25 = .ok (.invokevirtual 104, 3) := by decide +kernel
theorem dX11_writeDeadline_28 : decode cX11_writeDeadline 28 = .ok (.aload_n 0, 1) := by decide +kernel
theorem dX11_writeDeadline_29 : decode cX11_writeDeadline 29 = .ok (.getfield 16, 3) := by decide +kernel
theorem dX11_writeDeadline_32 : decode cX11_writeDeadline 32 = .ok (.iload_n 1, 1) := by decide +kernel
theorem dX11_writeDeadline_33 : decode cX11_writeDeadline 33 = .ok (.invokevirtual 443, 3) := by decide +kernel
theorem dX11_writeDeadline_36 : decode cX11_writeDeadline 36 = .ok (.aload_n 0, 1) := by decide +kernel
theorem dX11_writeDeadline_37 : decode cX11_writeDeadline 37 = .ok (.getfield 16, 3) := by decide +kernel
theorem dX11_writeDeadline_40 : decode cX11_writeDeadline 40 = .ok (.bipush 58, 2) := by decide +kernel
theorem dX11_writeDeadline_42 : decode cX11_writeDeadline 42 = .ok (.invokevirtual 85, 3) := by decide +kernel
theorem dX11_writeDeadline_45 : decode cX11_writeDeadline 45 = .ok (.aload_n 0, 1) := by decide +kernel
theorem dX11_writeDeadline_46 : decode cX11_writeDeadline 46 = .ok (.getfield 16, 3) := by decide +kernel
theorem dX11_writeDeadline_49 : decode cX11_writeDeadline 49 = .ok (.aload_n 0, 1) := by decide +kernel
theorem dX11_writeDeadline_50 : decode cX11_writeDeadline 50 = .ok (.getfield 26, 3) := by decide +kernel
theorem dX11_writeDeadline_53 : decode cX11_writeDeadline 53 = .ok (.getfield 252, 3) := by decide +kernel
theorem dX11_writeDeadline_56 : decode cX11_writeDeadline 56 = .ok (.getfield 293, 3) := by decide +kernel
theorem dX11_writeDeadline_59 : decode cX11_writeDeadline 59 = .ok (.iload_n 1, 1) := by decide +kernel
theorem dX11_writeDeadline_60 : decode cX11_writeDeadline 60 = .ok (.caload, 1) := by decide +kernel
theorem dX11_writeDeadline_61 : decode cX11_writeDeadline 61 = .ok (.invokevirtual 85, 3) := by decide +kernel
theorem dX11_writeDeadline_64 : decode cX11_writeDeadline 64 = .ok (.aload_n 0, 1) := by decide +kernel
theorem dX11_writeDeadline_65 : decode cX11_writeDeadline 65 = .ok (.getfield 16, 3) := by decide +kernel
theorem dX11_writeDeadline_68 : decode cX11_writeDeadline 68 = .ok (.aload_n 0, 1) := by decide +kernel
theorem dX11_writeDeadline_69 : decode cX11_writeDeadline 69 = .ok (.getfield 26, 3) := by decide +kernel
theorem dX11_writeDeadline_72 : decode cX11_writeDeadline 72 = .ok (.getfield 252, 3) := by decide +kernel
theorem dX11_writeDeadline_75 : decode cX11_writeDeadline 75 = .ok (.getfield 446, 3) := by decide +kernel
theorem dX11_writeDeadline_78 : decode cX11_writeDeadline 78 = .ok (.iload_n 1, 1) := by decide +kernel
theorem dX11_writeDeadline_79 : decode cX11_writeDeadline 79 = .ok (.iaload, 1) := by decide +kernel
theorem dX11_writeDeadline_80 : decode cX11_writeDeadline 80 = .ok (.invokevirtual 443, 3) := by decide +kernel
theorem dX11_writeDeadline_83 : decode cX11_writeDeadline 83 = .ok (.aload_n 0, 1) := by decide +kernel
theorem dX11_writeDeadline_84 : decode cX11_writeDeadline 84 = .ok (.getfield 16, 3) := by decide +kernel
theorem dX11_writeDeadline_87 : decode cX11_writeDeadline 87 = .ok (.bipush 62, 2) := by decide +kernel
theorem dX11_writeDeadline_89 : decode cX11_writeDeadline 89 = .ok (.invokevirtual 85, 3) := by decide +kernel
theorem dX11_writeDeadline_92 : decode cX11_writeDeadline 92 = .ok (.iload_n 2, 1) := by decide +kernel
theorem dX11_writeDeadline_93 : decode cX11_writeDeadline 93 = .ok (.sipush 5000, 3) := by decide +kernel
theorem dX11_writeDeadline_96 : decode cX11_writeDeadline 96 = .ok (.if_icmp .ne 15, 3) := by decide +kernel
theorem dX11_writeDeadline_99 : decode cX11_writeDeadline 99 = .ok (.aload_n 0, 1) := by decide +kernel
theorem dX11_writeDeadline_100 : decode cX11_writeDeadline 100 = .ok (.getfield 16, 3) := by decide +kernel
theorem dX11_writeDeadline_103 : decode cX11_writeDeadline 103 = .ok (.bipush 45, 2) := by decide +kernel
theorem dX11_writeDeadline_105 : decode cX11_writeDeadline 105 = .ok (.invokevirtual 85, 3) := by decide +kernel
theorem dX11_writeDeadline_108 : decode cX11_writeDeadline 108 = .ok (.goto 11, 3) := by decide +kernel
theorem dX11_writeDeadline_111 : decode cX11_writeDeadline 111 = .ok (.aload_n 0, 1) := by decide +kernel
theorem dX11_writeDeadline_112 : decode cX11_writeDeadline 112 = .ok (.getfield 16, 3) := by decide +kernel
theorem dX11_writeDeadline_115 : decode cX11_writeDeadline 115 = .ok (.iload_n 2, 1) := by decide +kernel
theorem dX11_writeDeadline_116 : decode cX11_writeDeadline 116 = .ok (.invokevirtual 443, 3) := by decide +kernel
theorem dX11_writeDeadline_119 : decode cX11_writeDeadline 119 = .ok (.aload_n 0, 1) := by decide +kernel
theorem dX11_writeDeadline_120 : decode cX11_writeDeadline 120 = .ok (.getfield 26, 3) := by decide +kernel
theorem dX11_writeDeadline_123 : decode cX11_writeDeadline 123 = .ok (.getfield 252, 3) := by decide +kernel
theorem dX11_writeDeadline_126 : decode cX11_writeDeadline 126 = .ok (.getfield 284, 3) := by decide +kernel
theorem dX11_writeDeadline_129 : decode cX11_writeDeadline 129 = .ok (.iload_n 1, 1) := by decide +kernel
theorem dX11_writeDeadline_130 : decode cX11_writeDeadline 130 = .ok (.iaload, 1) := by decide +kernel
theorem dX11_writeDeadline_131 : decode cX11_writeDeadline 131 = .ok (.ifCond .le 31, 3) := by decide +kernel
theorem dX11_writeDeadline_134 : decode cX11_writeDeadline 134 = .ok (.aload_n 0, 1) := by decide +kernel
theorem dX11_writeDeadline_135 : decode cX11_writeDeadline 135 = .ok (.getfield 16, 3) := by decide +kernel
theorem dX11_writeDeadline_138 : decode cX11_writeDeadline 138 = .ok (.bipush 43, 2) := by decide +kernel
theorem dX11_writeDeadline_140 : decode cX11_writeDeadline 140 = .ok (.invokevirtual 85, 3) := by decide +kernel
theorem dX11_writeDeadline_143 : decode cX11_writeDeadline 143 = .ok (.aload_n 0, 1) := by decide +kernel
theorem dX11_writeDeadline_144 : decode cX11_writeDeadline 144 = .ok (.getfield 16, 3) := by decide +kernel
theorem dX11_writeDeadline_147 : decode cX11_writeDeadline 147 = .ok (.aload_n 0, 1) := by decide +kernel
theorem dX11_writeDeadline_148 : decode cX11_writeDeadline 148 = .ok (.getfield 26, 3) := by decide +kernel
theorem dX11_writeDeadline_151 : decode cX11_writeDeadline 151 = .ok (.getfield 252, 3) := by decide +kernel
theorem dX11_writeDeadline_154 : decode cX11_writeDeadline 154 = .ok (.getfield 284, 3) := by decide +kernel
theorem dX11_writeDeadline_157 : decode cX11_writeDeadline 157 = .ok (.iload_n 1, 1) := by decide +kernel
theorem dX11_writeDeadline_158 : decode cX11_writeDeadline 158 = .ok (.iaload, 1) := by decide +kernel
theorem dX11_writeDeadline_159 : decode cX11_writeDeadline 159 = .ok (.invokevirtual 443, 3) := by decide +kernel
theorem dX11_writeDeadline_162 : decode cX11_writeDeadline 162 = .ok (.aload_n 0, 1) := by decide +kernel
theorem dX11_writeDeadline_163 : decode cX11_writeDeadline 163 = .ok (.getfield 16, 3) := by decide +kernel
theorem dX11_writeDeadline_166 : decode cX11_writeDeadline 166 = .ok (.getfield 75, 3) := by decide +kernel
theorem dX11_writeDeadline_169 : decode cX11_writeDeadline 169 = .ok (.ireturn, 1) := by decide +kernel
theorem dX11_charAt_0 : decode cX11_charAt 0 = .ok (.iload_n 1, 1) := by decide +kernel
theorem dX11_charAt_1 : decode cX11_charAt 1 = .ok (.ifCond .lt 14, 3) := by decide +kernel
theorem dX11_charAt_4 : decode cX11_charAt 4 = .ok (.iload_n 1, 1) := by decide +kernel
theorem dX11_charAt_5 : decode cX11_charAt 5 = .ok (.aload_n 0, 1) := by decide +kernel
theorem dX11_charAt_6 : decode cX11_charAt 6 = .ok (.getfield 16, 3) := by decide +kernel
theorem dX11_charAt_9 : decode cX11_charAt 9 = .ok (.getfield 75, 3) := by decide +kernel
theorem dX11_charAt_12 : decode cX11_charAt 12 = .ok (.if_icmp .lt 14, 3) := by decide +kernel
theorem dX11_charAt_15 : decode cX11_charAt 15 = .ok (.new 132, 3) := by decide +kernel
theorem dX11_charAt_18 : decode cX11_charAt 18 = .ok (.dup, 1) := by decide +kernel
theorem dX11_charAt_19 : decode cX11_charAt 19 = .ok (.ldc_w 447, 3) := by decide +kernel
theorem dX11_charAt_22 : decode cX11_charAt 22 = .ok (.invokespecial 136, 3) := by decide +kernel
theorem dX11_charAt_25 : decode cX11_charAt 25 = .ok (.athrow, 1) := by decide +kernel
theorem dX11_charAt_26 : decode cX11_charAt 26 = .ok (.aload_n 0, 1) := by decide +kernel
theorem dX11_charAt_27 : decode cX11_charAt 27 = .ok (.getfield 16, 3) := by decide +kernel
theorem dX11_charAt_30 : decode cX11_charAt 30 = .ok (.iload_n 1, 1) := by decide +kernel
theorem dX11_charAt_31 : decode cX11_charAt 31 = .ok (.invokevirtual 449, 3) := by decide +kernel
theorem dX11_charAt_34 : decode cX11_charAt 34 = .ok (.ireturn, 1) := by decide +kernel
theorem dX11_isConsistent_0 : decode cX11_isConsistent 0 = .ok (.iconst 0, 1) := by decide +kernel
theorem dX11_isConsistent_1 : decode cX11_isConsistent 1 = .ok (.istore_n 1, 1) := by decide +kernel
theorem dX11_isConsistent_2 : decode cX11_isConsistent 2 = .ok (.iload_n 1, 1) := by decide +kernel
theorem dX11_isConsistent_3 : decode cX11_isConsistent 3 = .ok (.aload_n 0, 1) := by decide +kernel
theorem dX11_isConsistent_4 : decode cX11_isConsistent 4 = .ok (.getfield 26, 3) := by decide +kernel
theorem dX11_isConsistent_7 : decode cX11_isConsistent 7 = .ok (.getfield 252, 3) := by decide +kernel
theorem dX11_isConsistent_10 : decode cX11_isConsistent 10 = .ok (.getfield 256, 3) := by decide +kernel
theorem dX11_isConsistent_13 : decode cX11_isConsistent 13 = .ok (.if_icmp .ge 19, 3) := by decide +kernel
theorem dX11_isConsistent_16 : decode cX11_isConsistent 16 = .ok (.aload_n 0, 1) := by decide +kernel
theorem dX11_isConsistent_17 : decode cX11_isConsistent 17 = .ok (.iload_n 1, 1) := by decide +kernel
theorem dX11_isConsistent_18 : decode cX11_isConsistent 18 = .ok (.invokevirtual 453, 3) := by decide +kernel
theorem dX11_isConsistent_21 : decode cX11_isConsistent 21 = .ok (.ifCond .ne 5, 3) := by decide +kernel
theorem dX11_isConsistent_24 : decode cX11_isConsistent 24 = .ok (.iconst 0, 1) := by decide +kernel
theorem dX11_isConsistent_25 : decode cX11_isConsistent 25 = .ok (.ireturn, 1) := by decide +kernel
theorem dX11_isConsistent_26 : decode cX11_isConsistent 26 = .ok (.iinc 1 1, 3) := by decide +kernel
theorem dX11_isConsistent_29 : decode cX11_isConsistent 29 = .ok (.goto (-27), 3) := by decide +kernel
theorem dX11_isConsistent_32 : decode cX11_isConsistent 32 = .ok (.aload_n 0, 1) := by decide +kernel
theorem dX11_isConsistent_33 : decode cX11_isConsistent 33 = .ok (.invokevirtual 456, 3) := by decide +kernel
theorem dX11_isConsistent_36 : decode cX11_isConsistent 36 = .ok (.ifCond .eq 14, 3) := by decide +kernel
theorem dX11_isConsistent_39 : decode cX11_isConsistent 39 = .ok (.aload_n 0, 1) := by decide +kernel
theorem dX11_isConsistent_40 : decode cX11_isConsistent 40 = .ok (.invokevirtual 460, 3) := by decide +kernel
theorem dX11_isConsistent_43 : decode cX11_isConsistent 43 = .ok (.ifCond .eq 7, 3) := by decide +kernel
theorem dX11_isConsistent_46 : decode cX11_isConsistent 46 = .ok (.iconst 1, 1) := by decide +kernel
theorem dX11_isConsistent_47 : decode cX11_isConsistent 47 = .ok (.goto 4, 3) := by decide +kernel
theorem dX11_isConsistent_50 : decode cX11_isConsistent 50 = .ok (.iconst 0, 1) := by decide +kernel
theorem dX11_isConsistent_51 : decode cX11_isConsistent 51 = .ok (.ireturn, 1) := by decide +kernel
theorem dX11_deadlineAgrees_0 : decode cX11_deadlineAgrees 0 = .ok (.aload_n 0, 1) := by decide +kernel
theorem dX11_deadlineAgrees_1 : decode cX11_deadlineAgrees 1 = .ok (.getfield 26, 3) := by decide +kernel
theorem dX11_deadlineAgrees_4 : decode cX11_deadlineAgrees 4 = .ok (.getfield 36, 3) := by decide +kernel
theorem dX11_deadlineAgrees_7 : decode cX11_deadlineAgrees 7 = .ok (.getfield 152, 3) := by decide +kernel
theorem dX11_deadlineAgrees_10 : decode cX11_deadlineAgrees 10 = .ok (.istore_n 2, 1) := by decide +kernel
theorem dX11_deadlineAgrees_11 : decode cX11_deadlineAgrees 11 = .ok (.aload_n 0, 1) := by decide +kernel
theorem dX11_deadlineAgrees_12 : decode cX11_deadlineAgrees 12 = .ok (.getfield 26, 3) := by decide +kernel
theorem dX11_deadlineAgrees_15 : decode cX11_deadlineAgrees 15 = .ok (.getfield 252, 3) := by decide +kernel
theorem dX11_deadlineAgrees_18 : decode cX11_deadlineAgrees 18 = .ok (.astore_n 3, 1) := by decide +kernel
theorem dX11_deadlineAgrees_19 : decode cX11_deadlineAgrees 19 = .ok (.aload_n 0, 1) := by decide +kernel
theorem dX11_deadlineAgrees_20 : decode cX11_deadlineAgrees 20 = .ok (.getfield 47, 3) := by decide +kernel
theorem dX11_deadlineAgrees_23 : decode cX11_deadlineAgrees 23 = .ok (.aload_n 3, 1) := by decide +kernel
theorem dX11_deadlineAgrees_24 : decode cX11_deadlineAgrees 24 = .ok (.iload_n 1, 1) := by decide +kernel
theorem dX11_deadlineAgrees_25 : decode cX11_deadlineAgrees 25 = .ok (.invokevirtual 262, 3) := by decide +kernel
theorem dX11_deadlineAgrees_28 : decode cX11_deadlineAgrees 28 = .ok (.aload_n 0, 1) := by decide +kernel
theorem dX11_deadlineAgrees_29 : decode cX11_deadlineAgrees 29 = .ok (.getfield 54, 3) := by decide +kernel
theorem dX11_deadlineAgrees_32 : decode cX11_deadlineAgrees 32 = .ok (.aload_n 3, 1) := by decide +kernel
theorem dX11_deadlineAgrees_33 : decode cX11_deadlineAgrees 33 = .ok (.iload_n 1, 1) := by decide +kernel
theorem dX11_deadlineAgrees_34 : decode cX11_deadlineAgrees 34 = .ok (.invokevirtual 269, 3) := by decide +kernel
theorem dX11_deadlineAgrees_37 : decode cX11_deadlineAgrees 37 = .ok (.if_icmp .ne 55, 3) := by decide +kernel
theorem dX11_deadlineAgrees_40 : decode cX11_deadlineAgrees 40 = .ok (.aload_n 0, 1) := by decide +kernel
theorem dX11_deadlineAgrees_41 : decode cX11_deadlineAgrees 41 = .ok (.getfield 47, 3) := by decide +kernel
theorem dX11_deadlineAgrees_44 : decode cX11_deadlineAgrees 44 = .ok (.aload_n 3, 1) := by decide +kernel
theorem dX11_deadlineAgrees_45 : decode cX11_deadlineAgrees 45 = .ok (.iload_n 1, 1) := by decide +kernel
theorem dX11_deadlineAgrees_46 : decode cX11_deadlineAgrees 46 = .ok (.iload_n 2, 1) := by decide +kernel
theorem dX11_deadlineAgrees_47 : decode cX11_deadlineAgrees 47 = .ok (.invokevirtual 273, 3) := by decide +kernel
theorem dX11_deadlineAgrees_50 : decode cX11_deadlineAgrees 50 = .ok (.aload_n 0, 1) := by decide +kernel
theorem dX11_deadlineAgrees_51 : decode cX11_deadlineAgrees 51 = .ok (.getfield 54, 3) := by decide +kernel
theorem dX11_deadlineAgrees_54 : decode cX11_deadlineAgrees 54 = .ok (.aload_n 3, 1) := by decide +kernel
theorem dX11_deadlineAgrees_55 : decode cX11_deadlineAgrees 55 = .ok (.iload_n 1, 1) := by decide +kernel
theorem dX11_deadlineAgrees_56 : decode cX11_deadlineAgrees 56 = .ok (.iload_n 2, 1) := by decide +kernel
theorem dX11_deadlineAgrees_57 : decode cX11_deadlineAgrees 57 = .ok (.invokevirtual 277, 3) := by decide +kernel
theorem dX11_deadlineAgrees_60 : decode cX11_deadlineAgrees 60 = .ok (.if_icmp .ne 32, 3) := by decide +kernel
theorem dX11_deadlineAgrees_63 : decode cX11_deadlineAgrees 63 = .ok (.aload_n 0, 1) := by decide +kernel
theorem dX11_deadlineAgrees_64 : decode cX11_deadlineAgrees 64 = .ok (.getfield 47, 3) := by decide +kernel
theorem dX11_deadlineAgrees_67 : decode cX11_deadlineAgrees 67 = .ok (.aload_n 3, 1) := by decide +kernel
theorem dX11_deadlineAgrees_68 : decode cX11_deadlineAgrees 68 = .ok (.iload_n 1, 1) := by decide +kernel
theorem dX11_deadlineAgrees_69 : decode cX11_deadlineAgrees 69 = .ok (.iconst 0, 1) := by decide +kernel
theorem dX11_deadlineAgrees_70 : decode cX11_deadlineAgrees 70 = .ok (.iload_n 2, 1) := by decide +kernel
theorem dX11_deadlineAgrees_71 : decode cX11_deadlineAgrees 71 = .ok (.invokevirtual 356, 3) := by decide +kernel
theorem dX11_deadlineAgrees_74 : decode cX11_deadlineAgrees 74 = .ok (.aload_n 0, 1) := by decide +kernel
theorem dX11_deadlineAgrees_75 : decode cX11_deadlineAgrees 75 = .ok (.getfield 54, 3) := by decide +kernel
theorem dX11_deadlineAgrees_78 : decode cX11_deadlineAgrees 78 = .ok (.aload_n 3, 1) := by decide +kernel
theorem dX11_deadlineAgrees_79 : decode cX11_deadlineAgrees 79 = .ok (.iload_n 1, 1) := by decide +kernel
theorem dX11_deadlineAgrees_80 : decode cX11_deadlineAgrees 80 = .ok (.iconst 0, 1) := by decide +kernel
theorem dX11_deadlineAgrees_81 : decode cX11_deadlineAgrees 81 = .ok (.iload_n 2, 1) := by decide +kernel
theorem dX11_deadlineAgrees_82 : decode cX11_deadlineAgrees 82 = .ok (.invokevirtual 360, 3) := by decide +kernel
theorem dX11_deadlineAgrees_85 : decode cX11_deadlineAgrees 85 = .ok (.if_icmp .ne 7, 3) := by decide +kernel
theorem dX11_deadlineAgrees_88 : decode cX11_deadlineAgrees 88 = .ok (.iconst 1, 1) := by decide +kernel
theorem dX11_deadlineAgrees_89 : decode cX11_deadlineAgrees 89 = .ok (.goto 4, 3) := by decide +kernel
theorem dX11_deadlineAgrees_92 : decode cX11_deadlineAgrees 92 = .ok (.iconst 0, 1) := by decide +kernel
theorem dX11_deadlineAgrees_93 : decode cX11_deadlineAgrees 93 = .ok (.ireturn, 1) := by decide +kernel
theorem dX11_conductAgrees_0 : decode cX11_conductAgrees 0 = .ok (.iconst 0, 1) := by decide +kernel
theorem dX11_conductAgrees_1 : decode cX11_conductAgrees 1 = .ok (.istore_n 1, 1) := by decide +kernel
theorem dX11_conductAgrees_2 : decode cX11_conductAgrees 2 = .ok (.iload_n 1, 1) := by decide +kernel
theorem dX11_conductAgrees_3 : decode cX11_conductAgrees 3 = .ok (.aload_n 0, 1) := by decide +kernel
theorem dX11_conductAgrees_4 : decode cX11_conductAgrees 4 = .ok (.getfield 26, 3) := by decide +kernel
theorem dX11_conductAgrees_7 : decode cX11_conductAgrees 7 = .ok (.getfield 384, 3) := by decide +kernel
theorem dX11_conductAgrees_10 : decode cX11_conductAgrees 10 = .ok (.getfield 397, 3) := by decide +kernel
theorem dX11_conductAgrees_13 : decode cX11_conductAgrees 13 = .ok (.getfield 256, 3) := by decide +kernel
theorem dX11_conductAgrees_16 : decode cX11_conductAgrees 16 = .ok (.if_icmp .ge 63, 3) := by decide +kernel
theorem dX11_conductAgrees_19 : decode cX11_conductAgrees 19 = .ok (.iconst 0, 1) := by decide +kernel
theorem dX11_conductAgrees_20 : decode cX11_conductAgrees 20 = .ok (.istore_n 2, 1) := by decide +kernel
theorem dX11_conductAgrees_21 : decode cX11_conductAgrees 21 = .ok (.iload_n 2, 1) := by decide +kernel
theorem dX11_conductAgrees_22 : decode cX11_conductAgrees 22 = .ok (.aload_n 0, 1) := by decide +kernel
theorem dX11_conductAgrees_23 : decode cX11_conductAgrees 23 = .ok (.getfield 26, 3) := by decide +kernel
theorem dX11_conductAgrees_26 : decode cX11_conductAgrees 26 = .ok (.getfield 384, 3) := by decide +kernel
theorem dX11_conductAgrees_29 : decode cX11_conductAgrees 29 = .ok (.getfield 397, 3) := by decide +kernel
theorem dX11_conductAgrees_32 : decode cX11_conductAgrees 32 = .ok (.getfield 256, 3) := by decide +kernel
theorem dX11_conductAgrees_35 : decode cX11_conductAgrees 35 = .ok (.if_icmp .ge 38, 3) := by decide +kernel
theorem dX11_conductAgrees_38 : decode cX11_conductAgrees 38 = .ok (.aload_n 0, 1) := by decide +kernel
theorem dX11_conductAgrees_39 : decode cX11_conductAgrees 39 = .ok (.getfield 26, 3) := by decide +kernel
theorem dX11_conductAgrees_42 : decode cX11_conductAgrees 42 = .ok (.getfield 384, 3) := by decide +kernel
theorem dX11_conductAgrees_45 : decode cX11_conductAgrees 45 = .ok (.iload_n 1, 1) := by decide +kernel
theorem dX11_conductAgrees_46 : decode cX11_conductAgrees 46 = .ok (.iload_n 2, 1) := by decide +kernel
theorem dX11_conductAgrees_47 : decode cX11_conductAgrees 47 = .ok (.invokevirtual 388, 3) := by decide +kernel
theorem dX11_conductAgrees_50 : decode cX11_conductAgrees 50 = .ok (.aload_n 0, 1) := by decide +kernel
theorem dX11_conductAgrees_51 : decode cX11_conductAgrees 51 = .ok (.getfield 26, 3) := by decide +kernel
theorem dX11_conductAgrees_54 : decode cX11_conductAgrees 54 = .ok (.getfield 384, 3) := by decide +kernel
theorem dX11_conductAgrees_57 : decode cX11_conductAgrees 57 = .ok (.iload_n 1, 1) := by decide +kernel
theorem dX11_conductAgrees_58 : decode cX11_conductAgrees 58 = .ok (.iload_n 2, 1) := by decide +kernel
theorem dX11_conductAgrees_59 : decode cX11_conductAgrees 59 = .ok (.invokevirtual 394, 3) := by decide +kernel
theorem dX11_conductAgrees_62 : decode cX11_conductAgrees 62 = .ok (.if_icmp .eq 5, 3) := by decide +kernel
theorem dX11_conductAgrees_65 : decode cX11_conductAgrees 65 = .ok (.iconst 0, 1) := by decide +kernel
theorem dX11_conductAgrees_66 : decode cX11_conductAgrees 66 = .ok (.ireturn, 1) := by decide +kernel
theorem dX11_conductAgrees_67 : decode cX11_conductAgrees 67 = .ok (.iinc 2 1, 3) := by decide +kernel
theorem dX11_conductAgrees_70 : decode cX11_conductAgrees 70 = .ok (.goto (-49), 3) := by decide +kernel
theorem dX11_conductAgrees_73 : decode cX11_conductAgrees 73 = .ok (.iinc 1 1, 3) := by decide +kernel
theorem dX11_conductAgrees_76 : decode cX11_conductAgrees 76 = .ok (.goto (-74), 3) := by decide +kernel
theorem dX11_conductAgrees_79 : decode cX11_conductAgrees 79 = .ok (.iconst 1, 1) := by decide +kernel
theorem dX11_conductAgrees_80 : decode cX11_conductAgrees 80 = .ok (.ireturn, 1) := by decide +kernel
theorem dX11_courtDaysAgree_0 : decode cX11_courtDaysAgree 0 = .ok (.aload_n 0, 1) := by decide +kernel
theorem dX11_courtDaysAgree_1 : decode cX11_courtDaysAgree 1 = .ok (.getfield 26, 3) := by decide +kernel
theorem dX11_courtDaysAgree_4 : decode cX11_courtDaysAgree 4 = .ok (.getfield 36, 3) := by decide +kernel
theorem dX11_courtDaysAgree_7 : decode cX11_courtDaysAgree 7 = .ok (.getfield 152, 3) := by decide +kernel
theorem dX11_courtDaysAgree_10 : decode cX11_courtDaysAgree 10 = .ok (.istore_n 1, 1) := by decide +kernel
theorem dX11_courtDaysAgree_11 : decode cX11_courtDaysAgree 11 = .ok (.aload_n 0, 1) := by decide +kernel
theorem dX11_courtDaysAgree_12 : decode cX11_courtDaysAgree 12 = .ok (.getfield 26, 3) := by decide +kernel
theorem dX11_courtDaysAgree_15 : decode cX11_courtDaysAgree 15 = .ok (.getfield 36, 3) := by decide +kernel
theorem dX11_courtDaysAgree_18 : decode cX11_courtDaysAgree 18 = .ok (.iconst 0, 1) := by decide +kernel
theorem dX11_courtDaysAgree_19 : decode cX11_courtDaysAgree 19 = .ok (.iload_n 1, 1) := by decide +kernel
theorem dX11_courtDaysAgree_20 : decode cX11_courtDaysAgree 20 = .ok (.invokevirtual 176, 3) := by decide +kernel
theorem dX11_courtDaysAgree_23 : decode cX11_courtDaysAgree 23 = .ok (.aload_n 0, 1) := by decide +kernel
theorem dX11_courtDaysAgree_24 : decode cX11_courtDaysAgree 24 = .ok (.getfield 54, 3) := by decide +kernel
theorem dX11_courtDaysAgree_27 : decode cX11_courtDaysAgree 27 = .ok (.iconst 0, 1) := by decide +kernel
theorem dX11_courtDaysAgree_28 : decode cX11_courtDaysAgree 28 = .ok (.iload_n 1, 1) := by decide +kernel
theorem dX11_courtDaysAgree_29 : decode cX11_courtDaysAgree 29 = .ok (.invokevirtual 180, 3) := by decide +kernel
theorem dX11_courtDaysAgree_32 : decode cX11_courtDaysAgree 32 = .ok (.if_icmp .ne 7, 3) := by decide +kernel
theorem dX11_courtDaysAgree_35 : decode cX11_courtDaysAgree 35 = .ok (.iconst 1, 1) := by decide +kernel
theorem dX11_courtDaysAgree_36 : decode cX11_courtDaysAgree 36 = .ok (.goto 4, 3) := by decide +kernel
theorem dX11_courtDaysAgree_39 : decode cX11_courtDaysAgree 39 = .ok (.iconst 0, 1) := by decide +kernel
theorem dX11_courtDaysAgree_40 : decode cX11_courtDaysAgree 40 = .ok (.ireturn, 1) := by decide +kernel
theorem dX11_run_0 : decode cX11_run 0 = .ok (.aload_n 0, 1) := by decide +kernel
theorem dX11_run_1 : decode cX11_run 1 = .ok (.getfield 64, 3) := by decide +kernel
theorem dX11_run_4 : decode cX11_run 4 = .ok (.aload_n 0, 1) := by decide +kernel
theorem dX11_run_5 : decode cX11_run 5 = .ok (.getfield 12, 3) := by decide +kernel
theorem dX11_run_8 : decode cX11_run 8 = .ok (.invokevirtual 463, 3) := by decide +kernel
theorem dX11_run_11 : decode cX11_run 11 = .ok (.istore_n 1, 1) := by decide +kernel
theorem dX11_run_12 : decode cX11_run 12 = .ok (.aload_n 0, 1) := by decide +kernel
theorem dX11_run_13 : decode cX11_run 13 = .ok (.getfield 12, 3) := by decide +kernel
theorem dX11_run_16 : decode cX11_run 16 = .ok (.invokevirtual 104, 3) := by decide +kernel
theorem dX11_run_19 : decode cX11_run 19 = .ok (.iload_n 1, 1) := by decide +kernel
theorem dX11_run_20 : decode cX11_run 20 = .ok (.iconst (-1), 1) := by decide +kernel
theorem dX11_run_21 : decode cX11_run 21 = .ok (.if_icmp .eq 19, 3) := by decide +kernel
theorem dX11_run_24 : decode cX11_run 24 = .ok (.aload_n 0, 1) := by decide +kernel
theorem dX11_run_25 : decode cX11_run 25 = .ok (.iload_n 1, 1) := by decide +kernel
theorem dX11_run_26 : decode cX11_run 26 = .ok (.putfield 68, 3) := by decide +kernel
theorem dX11_run_29 : decode cX11_run 29 = .ok (.new 196, 3) := by decide +kernel
theorem dX11_run_32 : decode cX11_run 32 = .ok (.dup, 1) := by decide +kernel
theorem dX11_run_33 : decode cX11_run 33 = .ok (.ldc_w 467, 3) := by decide +kernel
theorem dX11_run_36 : decode cX11_run 36 = .ok (.invokespecial 200, 3) := by decide +kernel
theorem dX11_run_39 : decode cX11_run 39 = .ok (.athrow, 1) := by decide +kernel
theorem dX11_run_40 : decode cX11_run 40 = .ok (.aload_n 0, 1) := by decide +kernel
theorem dX11_run_41 : decode cX11_run 41 = .ok (.invokevirtual 89, 3) := by decide +kernel
theorem dX11_run_44 : decode cX11_run 44 = .ok (.iconst 0, 1) := by decide +kernel
theorem dX11_run_45 : decode cX11_run 45 = .ok (.istore_n 2, 1) := by decide +kernel
theorem dX11_run_46 : decode cX11_run 46 = .ok (.iload_n 2, 1) := by decide +kernel
theorem dX11_run_47 : decode cX11_run 47 = .ok (.aload_n 0, 1) := by decide +kernel
theorem dX11_run_48 : decode cX11_run 48 = .ok (.getfield 64, 3) := by decide +kernel
theorem dX11_run_51 : decode cX11_run 51 = .ok (.getfield 469, 3) := by decide +kernel
theorem dX11_run_54 : decode cX11_run 54 = .ok (.if_icmp .ge 37, 3) := by decide +kernel
theorem dX11_run_57 : decode cX11_run 57 = .ok (.aload_n 0, 1) := by decide +kernel
theorem dX11_run_58 : decode cX11_run 58 = .ok (.iload_n 2, 1) := by decide +kernel
theorem dX11_run_59 : decode cX11_run 59 = .ok (.invokevirtual 470, 3) := by decide +kernel
theorem dX11_run_62 : decode cX11_run 62 = .ok (.ifCond .ge 23, 3) := by decide +kernel
theorem dX11_run_65 : decode cX11_run 65 = .ok (.aload_n 0, 1) := by decide +kernel
theorem dX11_run_66 : decode cX11_run 66 = .ok (.invokevirtual 473, 3) := by decide +kernel
theorem dX11_run_69 : decode cX11_run 69 = .ok (.aload_n 0, 1) := by decide +kernel
theorem dX11_run_70 : decode cX11_run 70 = .ok (.iload_n 2, 1) := by decide +kernel
theorem dX11_run_71 : decode cX11_run 71 = .ok (.putfield 72, 3) := by decide +kernel
theorem dX11_run_74 : decode cX11_run 74 = .ok (.new 476, 3) := by decide +kernel
theorem dX11_run_77 : decode cX11_run 77 = .ok (.dup, 1) := by decide +kernel
theorem dX11_run_78 : decode cX11_run 78 = .ok (.ldc_w 478, 3) := by decide +kernel
theorem dX11_run_81 : decode cX11_run 81 = .ok (.invokespecial 480, 3) := by decide +kernel
theorem dX11_run_84 : decode cX11_run 84 = .ok (.athrow, 1) := by decide +kernel
theorem dX11_run_85 : decode cX11_run 85 = .ok (.iinc 2 1, 3) := by decide +kernel
theorem dX11_run_88 : decode cX11_run 88 = .ok (.goto (-42), 3) := by decide +kernel
theorem dX11_run_91 : decode cX11_run 91 = .ok (.aload_n 0, 1) := by decide +kernel
theorem dX11_run_92 : decode cX11_run 92 = .ok (.aload_n 0, 1) := by decide +kernel
theorem dX11_run_93 : decode cX11_run 93 = .ok (.getfield 64, 3) := by decide +kernel
theorem dX11_run_96 : decode cX11_run 96 = .ok (.getfield 469, 3) := by decide +kernel
theorem dX11_run_99 : decode cX11_run 99 = .ok (.invokevirtual 96, 3) := by decide +kernel
theorem dX11_run_102 : decode cX11_run 102 = .ok (.ireturn, 1) := by decide +kernel
theorem dX11_errorPosition_0 : decode cX11_errorPosition 0 = .ok (.aload_n 0, 1) := by decide +kernel
theorem dX11_errorPosition_1 : decode cX11_errorPosition 1 = .ok (.getfield 68, 3) := by decide +kernel
theorem dX11_errorPosition_4 : decode cX11_errorPosition 4 = .ok (.iconst (-1), 1) := by decide +kernel
theorem dX11_errorPosition_5 : decode cX11_errorPosition 5 = .ok (.if_icmp .ne 14, 3) := by decide +kernel
theorem dX11_errorPosition_8 : decode cX11_errorPosition 8 = .ok (.new 117, 3) := by decide +kernel
theorem dX11_errorPosition_11 : decode cX11_errorPosition 11 = .ok (.dup, 1) := by decide +kernel
theorem dX11_errorPosition_12 : decode cX11_errorPosition 12 = .ok (.ldc_w 481, 3) := by decide +kernel
theorem dX11_errorPosition_15 : decode cX11_errorPosition 15 = .ok (.invokespecial 121, 3) := by decide +kernel
theorem dX11_errorPosition_18 : decode cX11_errorPosition 18 = .ok (.athrow, 1) := by decide +kernel
theorem dX11_errorPosition_19 : decode cX11_errorPosition 19 = .ok (.aload_n 0, 1) := by decide +kernel
theorem dX11_errorPosition_20 : decode cX11_errorPosition 20 = .ok (.getfield 68, 3) := by decide +kernel
theorem dX11_errorPosition_23 : decode cX11_errorPosition 23 = .ok (.ireturn, 1) := by decide +kernel
theorem dX11_failedCommand_0 : decode cX11_failedCommand 0 = .ok (.aload_n 0, 1) := by decide +kernel
theorem dX11_failedCommand_1 : decode cX11_failedCommand 1 = .ok (.getfield 72, 3) := by decide +kernel
theorem dX11_failedCommand_4 : decode cX11_failedCommand 4 = .ok (.iconst (-1), 1) := by decide +kernel
theorem dX11_failedCommand_5 : decode cX11_failedCommand 5 = .ok (.if_icmp .ne 14, 3) := by decide +kernel
theorem dX11_failedCommand_8 : decode cX11_failedCommand 8 = .ok (.new 117, 3) := by decide +kernel
theorem dX11_failedCommand_11 : decode cX11_failedCommand 11 = .ok (.dup, 1) := by decide +kernel
theorem dX11_failedCommand_12 : decode cX11_failedCommand 12 = .ok (.ldc_w 483, 3) := by decide +kernel
theorem dX11_failedCommand_15 : decode cX11_failedCommand 15 = .ok (.invokespecial 121, 3) := by decide +kernel
theorem dX11_failedCommand_18 : decode cX11_failedCommand 18 = .ok (.athrow, 1) := by decide +kernel
theorem dX11_failedCommand_19 : decode cX11_failedCommand 19 = .ok (.aload_n 0, 1) := by decide +kernel
theorem dX11_failedCommand_20 : decode cX11_failedCommand 20 = .ok (.getfield 72, 3) := by decide +kernel
theorem dX11_failedCommand_23 : decode cX11_failedCommand 23 = .ok (.ireturn, 1) := by decide +kernel
theorem dX11_undo_0 : decode cX11_undo 0 = .ok (.aload_n 0, 1) := by decide +kernel
theorem dX11_undo_1 : decode cX11_undo 1 = .ok (.getfield 485, 3) := by decide +kernel
theorem dX11_undo_4 : decode cX11_undo 4 = .ok (.ifCond .ne 14, 3) := by decide +kernel
theorem dX11_undo_7 : decode cX11_undo 7 = .ok (.new 78, 3) := by decide +kernel
theorem dX11_undo_10 : decode cX11_undo 10 = .ok (.dup, 1) := by decide +kernel
theorem dX11_undo_11 : decode cX11_undo 11 = .ok (.ldc_w 488, 3) := by decide +kernel
theorem dX11_undo_14 : decode cX11_undo 14 = .ok (.invokespecial 82, 3) := by decide +kernel
theorem dX11_undo_17 : decode cX11_undo 17 = .ok (.athrow, 1) := by decide +kernel
theorem dX11_undo_18 : decode cX11_undo 18 = .ok (.aload_n 0, 1) := by decide +kernel
theorem dX11_undo_19 : decode cX11_undo 19 = .ok (.aload_n 0, 1) := by decide +kernel
theorem dX11_undo_20 : decode cX11_undo 20 = .ok (.getfield 490, 3) := by decide +kernel
theorem dX11_undo_23 : decode cX11_undo 23 = .ok (.ifCond .ne 8, 3) := by decide +kernel
theorem dX11_undo_26 : decode cX11_undo 26 = .ok (.bipush 8, 2) := by decide +kernel
theorem dX11_undo_28 : decode cX11_undo 28 = .ok (.goto 9, 3) := by decide +kernel
theorem dX11_undo_31 : decode cX11_undo 31 = .ok (.aload_n 0, 1) := by decide +kernel
theorem dX11_undo_32 : decode cX11_undo 32 = .ok (.getfield 490, 3) := by decide +kernel
theorem dX11_undo_35 : decode cX11_undo 35 = .ok (.iconst 1, 1) := by decide +kernel
theorem dX11_undo_36 : decode cX11_undo 36 = .ok (.isub, 1) := by decide +kernel
theorem dX11_undo_37 : decode cX11_undo 37 = .ok (.putfield 490, 3) := by decide +kernel
theorem dX11_undo_40 : decode cX11_undo 40 = .ok (.aload_n 0, 1) := by decide +kernel
theorem dX11_undo_41 : decode cX11_undo 41 = .ok (.invokevirtual 473, 3) := by decide +kernel
theorem dX11_undo_44 : decode cX11_undo 44 = .ok (.aload_n 0, 1) := by decide +kernel
theorem dX11_undo_45 : decode cX11_undo 45 = .ok (.dup, 1) := by decide +kernel
theorem dX11_undo_46 : decode cX11_undo 46 = .ok (.getfield 485, 3) := by decide +kernel
theorem dX11_undo_49 : decode cX11_undo 49 = .ok (.iconst 1, 1) := by decide +kernel
theorem dX11_undo_50 : decode cX11_undo 50 = .ok (.isub, 1) := by decide +kernel
theorem dX11_undo_51 : decode cX11_undo 51 = .ok (.putfield 485, 3) := by decide +kernel
theorem dX11_undo_54 : decode cX11_undo 54 = .ok (.aload_n 0, 1) := by decide +kernel
theorem dX11_undo_55 : decode cX11_undo 55 = .ok (.getfield 485, 3) := by decide +kernel
theorem dX11_undo_58 : decode cX11_undo 58 = .ok (.ireturn, 1) := by decide +kernel
theorem dX11_execute_0 : decode cX11_execute 0 = .ok (.aload_n 0, 1) := by decide +kernel
theorem dX11_execute_1 : decode cX11_execute 1 = .ok (.getfield 64, 3) := by decide +kernel
theorem dX11_execute_4 : decode cX11_execute 4 = .ok (.getfield 493, 3) := by decide +kernel
theorem dX11_execute_7 : decode cX11_execute 7 = .ok (.iload_n 1, 1) := by decide +kernel
theorem dX11_execute_8 : decode cX11_execute 8 = .ok (.iaload, 1) := by decide +kernel
theorem dX11_execute_9 : decode cX11_execute 9 = .ok (.istore_n 2, 1) := by decide +kernel
theorem dX11_execute_10 : decode cX11_execute 10 = .ok (.aload_n 0, 1) := by decide +kernel
theorem dX11_execute_11 : decode cX11_execute 11 = .ok (.getfield 64, 3) := by decide +kernel
theorem dX11_execute_14 : decode cX11_execute 14 = .ok (.getfield 496, 3) := by decide +kernel
theorem dX11_execute_17 : decode cX11_execute 17 = .ok (.iload_n 1, 1) := by decide +kernel
theorem dX11_execute_18 : decode cX11_execute 18 = .ok (.iaload, 1) := by decide +kernel
theorem dX11_execute_19 : decode cX11_execute 19 = .ok (.istore_n 3, 1) := by decide +kernel
theorem dX11_execute_20 : decode cX11_execute 20 = .ok (.aload_n 0, 1) := by decide +kernel
theorem dX11_execute_21 : decode cX11_execute 21 = .ok (.getfield 64, 3) := by decide +kernel
theorem dX11_execute_24 : decode cX11_execute 24 = .ok (.getfield 499, 3) := by decide +kernel
theorem dX11_execute_27 : decode cX11_execute 27 = .ok (.iload_n 1, 1) := by decide +kernel
theorem dX11_execute_28 : decode cX11_execute 28 = .ok (.iaload, 1) := by decide +kernel
theorem dX11_execute_29 : decode cX11_execute 29 = .ok (.tableswitch 87 0 5 #[39, 55, 61, 68, 74, 81], 39) := by decide +kernel
theorem dX11_execute_68 : decode cX11_execute 68 = .ok (.aload_n 0, 1) := by decide +kernel
theorem dX11_execute_69 : decode cX11_execute 69 = .ok (.iload_n 2, 1) := by decide +kernel
theorem dX11_execute_70 : decode cX11_execute 70 = .ok (.iload_n 3, 1) := by decide +kernel
theorem dX11_execute_71 : decode cX11_execute 71 = .ok (.aload_n 0, 1) := by decide +kernel
theorem dX11_execute_72 : decode cX11_execute 72 = .ok (.getfield 64, 3) := by decide +kernel
theorem dX11_execute_75 : decode cX11_execute 75 = .ok (.getfield 502, 3) := by decide +kernel
theorem dX11_execute_78 : decode cX11_execute 78 = .ok (.iload_n 1, 1) := by decide +kernel
theorem dX11_execute_79 : decode cX11_execute 79 = .ok (.caload, 1) := by decide +kernel
theorem dX11_execute_80 : decode cX11_execute 80 = .ok (.invokevirtual 248, 3) := by decide +kernel
theorem dX11_execute_83 : decode cX11_execute 83 = .ok (.ireturn, 1) := by decide +kernel
theorem dX11_execute_84 : decode cX11_execute 84 = .ok (.aload_n 0, 1) := by decide +kernel
theorem dX11_execute_85 : decode cX11_execute 85 = .ok (.iload_n 2, 1) := by decide +kernel
theorem dX11_execute_86 : decode cX11_execute 86 = .ok (.invokevirtual 157, 3) := by decide +kernel
theorem dX11_execute_89 : decode cX11_execute 89 = .ok (.ireturn, 1) := by decide +kernel
theorem dX11_execute_90 : decode cX11_execute 90 = .ok (.aload_n 0, 1) := by decide +kernel
theorem dX11_execute_91 : decode cX11_execute 91 = .ok (.iconst (-1), 1) := by decide +kernel
theorem dX11_execute_92 : decode cX11_execute 92 = .ok (.iload_n 2, 1) := by decide +kernel
theorem dX11_execute_93 : decode cX11_execute 93 = .ok (.invokevirtual 345, 3) := by decide +kernel
theorem dX11_execute_96 : decode cX11_execute 96 = .ok (.ireturn, 1) := by decide +kernel
theorem dX11_execute_97 : decode cX11_execute 97 = .ok (.aload_n 0, 1) := by decide +kernel
theorem dX11_execute_98 : decode cX11_execute 98 = .ok (.iload_n 2, 1) := by decide +kernel
theorem dX11_execute_99 : decode cX11_execute 99 = .ok (.invokevirtual 348, 3) := by decide +kernel
theorem dX11_execute_102 : decode cX11_execute 102 = .ok (.ireturn, 1) := by decide +kernel
theorem dX11_execute_103 : decode cX11_execute 103 = .ok (.aload_n 0, 1) := by decide +kernel
theorem dX11_execute_104 : decode cX11_execute 104 = .ok (.iload_n 2, 1) := by decide +kernel
theorem dX11_execute_105 : decode cX11_execute 105 = .ok (.iload_n 3, 1) := by decide +kernel
theorem dX11_execute_106 : decode cX11_execute 106 = .ok (.invokevirtual 278, 3) := by decide +kernel
theorem dX11_execute_109 : decode cX11_execute 109 = .ok (.ireturn, 1) := by decide +kernel
theorem dX11_execute_110 : decode cX11_execute 110 = .ok (.aload_n 0, 1) := by decide +kernel
theorem dX11_execute_111 : decode cX11_execute 111 = .ok (.iload_n 2, 1) := by decide +kernel
theorem dX11_execute_112 : decode cX11_execute 112 = .ok (.invokevirtual 287, 3) := by decide +kernel
theorem dX11_execute_115 : decode cX11_execute 115 = .ok (.ireturn, 1) := by decide +kernel
theorem dX11_execute_116 : decode cX11_execute 116 = .ok (.aload_n 0, 1) := by decide +kernel
theorem dX11_execute_117 : decode cX11_execute 117 = .ok (.iload_n 2, 1) := by decide +kernel
theorem dX11_execute_118 : decode cX11_execute 118 = .ok (.invokevirtual 166, 3) := by decide +kernel
theorem dX11_execute_121 : decode cX11_execute 121 = .ok (.ireturn, 1) := by decide +kernel
theorem dX11_setAside_0 : decode cX11_setAside 0 = .ok (.aload_n 0, 1) := by decide +kernel
theorem dX11_setAside_1 : decode cX11_setAside 1 = .ok (.getfield 30, 3) := by decide +kernel
theorem dX11_setAside_4 : decode cX11_setAside 4 = .ok (.aload_n 0, 1) := by decide +kernel
theorem dX11_setAside_5 : decode cX11_setAside 5 = .ok (.getfield 490, 3) := by decide +kernel
theorem dX11_setAside_8 : decode cX11_setAside 8 = .ok (.aaload, 1) := by decide +kernel
theorem dX11_setAside_9 : decode cX11_setAside 9 = .ok (.astore_n 1, 1) := by decide +kernel
theorem dX11_setAside_10 : decode cX11_setAside 10 = .ok (.aload_n 1, 1) := by decide +kernel
theorem dX11_setAside_11 : decode cX11_setAside 11 = .ok (.ifnonnull 21, 3) := by decide +kernel
theorem dX11_setAside_14 : decode cX11_setAside 14 = .ok (.new 23, 3) := by decide +kernel
theorem dX11_setAside_17 : decode cX11_setAside 17 = .ok (.dup, 1) := by decide +kernel
theorem dX11_setAside_18 : decode cX11_setAside 18 = .ok (.invokespecial 25, 3) := by decide +kernel
theorem dX11_setAside_21 : decode cX11_setAside 21 = .ok (.astore_n 1, 1) := by decide +kernel
theorem dX11_setAside_22 : decode cX11_setAside 22 = .ok (.aload_n 0, 1) := by decide +kernel
theorem dX11_setAside_23 : decode cX11_setAside 23 = .ok (.getfield 30, 3) := by decide +kernel
theorem dX11_setAside_26 : decode cX11_setAside 26 = .ok (.aload_n 0, 1) := by decide +kernel
theorem dX11_setAside_27 : decode cX11_setAside 27 = .ok (.getfield 490, 3) := by decide +kernel
theorem dX11_setAside_30 : decode cX11_setAside 30 = .ok (.aload_n 1, 1) := by decide +kernel
theorem dX11_setAside_31 : decode cX11_setAside 31 = .ok (.aastore, 1) := by decide +kernel
theorem dX11_setAside_32 : decode cX11_setAside 32 = .ok (.aload_n 1, 1) := by decide +kernel
theorem dX11_setAside_33 : decode cX11_setAside 33 = .ok (.aload_n 0, 1) := by decide +kernel
theorem dX11_setAside_34 : decode cX11_setAside 34 = .ok (.getfield 26, 3) := by decide +kernel
theorem dX11_setAside_37 : decode cX11_setAside 37 = .ok (.invokevirtual 505, 3) := by decide +kernel
theorem dX11_setAside_40 : decode cX11_setAside 40 = .ok (.return_, 1) := by decide +kernel
theorem dX11_takeBack_0 : decode cX11_takeBack 0 = .ok (.aload_n 0, 1) := by decide +kernel
theorem dX11_takeBack_1 : decode cX11_takeBack 1 = .ok (.getfield 30, 3) := by decide +kernel
theorem dX11_takeBack_4 : decode cX11_takeBack 4 = .ok (.aload_n 0, 1) := by decide +kernel
theorem dX11_takeBack_5 : decode cX11_takeBack 5 = .ok (.getfield 490, 3) := by decide +kernel
theorem dX11_takeBack_8 : decode cX11_takeBack 8 = .ok (.aaload, 1) := by decide +kernel
theorem dX11_takeBack_9 : decode cX11_takeBack 9 = .ok (.astore_n 1, 1) := by decide +kernel
theorem dX11_takeBack_10 : decode cX11_takeBack 10 = .ok (.aload_n 1, 1) := by decide +kernel
theorem dX11_takeBack_11 : decode cX11_takeBack 11 = .ok (.ifnull 11, 3) := by decide +kernel
theorem dX11_takeBack_14 : decode cX11_takeBack 14 = .ok (.aload_n 0, 1) := by decide +kernel
theorem dX11_takeBack_15 : decode cX11_takeBack 15 = .ok (.getfield 26, 3) := by decide +kernel
theorem dX11_takeBack_18 : decode cX11_takeBack 18 = .ok (.aload_n 1, 1) := by decide +kernel
theorem dX11_takeBack_19 : decode cX11_takeBack 19 = .ok (.invokevirtual 505, 3) := by decide +kernel
theorem dX11_takeBack_22 : decode cX11_takeBack 22 = .ok (.return_, 1) := by decide +kernel
theorem dX11_settle_0 : decode cX11_settle 0 = .ok (.iload_n 1, 1) := by decide +kernel
theorem dX11_settle_1 : decode cX11_settle 1 = .ok (.tableswitch 90 (-5) (-1) #[79, 68, 57, 46, 35], 35) := by decide +kernel
theorem dX11_settle_36 : decode cX11_settle 36 = .ok (.new 132, 3) := by decide +kernel
theorem dX11_settle_39 : decode cX11_settle 39 = .ok (.dup, 1) := by decide +kernel
theorem dX11_settle_40 : decode cX11_settle 40 = .ok (.ldc_w 509, 3) := by decide +kernel
theorem dX11_settle_43 : decode cX11_settle 43 = .ok (.invokespecial 136, 3) := by decide +kernel
theorem dX11_settle_46 : decode cX11_settle 46 = .ok (.athrow, 1) := by decide +kernel
theorem dX11_settle_47 : decode cX11_settle 47 = .ok (.new 196, 3) := by decide +kernel
theorem dX11_settle_50 : decode cX11_settle 50 = .ok (.dup, 1) := by decide +kernel
theorem dX11_settle_51 : decode cX11_settle 51 = .ok (.ldc_w 511, 3) := by decide +kernel
theorem dX11_settle_54 : decode cX11_settle 54 = .ok (.invokespecial 200, 3) := by decide +kernel
theorem dX11_settle_57 : decode cX11_settle 57 = .ok (.athrow, 1) := by decide +kernel
theorem dX11_settle_58 : decode cX11_settle 58 = .ok (.new 78, 3) := by decide +kernel
theorem dX11_settle_61 : decode cX11_settle 61 = .ok (.dup, 1) := by decide +kernel
theorem dX11_settle_62 : decode cX11_settle 62 = .ok (.ldc_w 513, 3) := by decide +kernel
theorem dX11_settle_65 : decode cX11_settle 65 = .ok (.invokespecial 82, 3) := by decide +kernel
theorem dX11_settle_68 : decode cX11_settle 68 = .ok (.athrow, 1) := by decide +kernel
theorem dX11_settle_69 : decode cX11_settle 69 = .ok (.new 476, 3) := by decide +kernel
theorem dX11_settle_72 : decode cX11_settle 72 = .ok (.dup, 1) := by decide +kernel
theorem dX11_settle_73 : decode cX11_settle 73 = .ok (.ldc_w 515, 3) := by decide +kernel
theorem dX11_settle_76 : decode cX11_settle 76 = .ok (.invokespecial 480, 3) := by decide +kernel
theorem dX11_settle_79 : decode cX11_settle 79 = .ok (.athrow, 1) := by decide +kernel
theorem dX11_settle_80 : decode cX11_settle 80 = .ok (.new 117, 3) := by decide +kernel
theorem dX11_settle_83 : decode cX11_settle 83 = .ok (.dup, 1) := by decide +kernel
theorem dX11_settle_84 : decode cX11_settle 84 = .ok (.ldc_w 517, 3) := by decide +kernel
theorem dX11_settle_87 : decode cX11_settle 87 = .ok (.invokespecial 121, 3) := by decide +kernel
theorem dX11_settle_90 : decode cX11_settle 90 = .ok (.athrow, 1) := by decide +kernel
theorem dX11_settle_91 : decode cX11_settle 91 = .ok (.aload_n 0, 1) := by decide +kernel
theorem dX11_settle_92 : decode cX11_settle 92 = .ok (.aload_n 0, 1) := by decide +kernel
theorem dX11_settle_93 : decode cX11_settle 93 = .ok (.getfield 490, 3) := by decide +kernel
theorem dX11_settle_96 : decode cX11_settle 96 = .ok (.bipush 8, 2) := by decide +kernel
theorem dX11_settle_98 : decode cX11_settle 98 = .ok (.if_icmp .ne 7, 3) := by decide +kernel
theorem dX11_settle_101 : decode cX11_settle 101 = .ok (.iconst 0, 1) := by decide +kernel
theorem dX11_settle_102 : decode cX11_settle 102 = .ok (.goto 9, 3) := by decide +kernel
theorem dX11_settle_105 : decode cX11_settle 105 = .ok (.aload_n 0, 1) := by decide +kernel
theorem dX11_settle_106 : decode cX11_settle 106 = .ok (.getfield 490, 3) := by decide +kernel
theorem dX11_settle_109 : decode cX11_settle 109 = .ok (.iconst 1, 1) := by decide +kernel
theorem dX11_settle_110 : decode cX11_settle 110 = .ok (.iadd, 1) := by decide +kernel
theorem dX11_settle_111 : decode cX11_settle 111 = .ok (.putfield 490, 3) := by decide +kernel
theorem dX11_settle_114 : decode cX11_settle 114 = .ok (.aload_n 0, 1) := by decide +kernel
theorem dX11_settle_115 : decode cX11_settle 115 = .ok (.bipush 8, 2) := by decide +kernel
theorem dX11_settle_117 : decode cX11_settle 117 = .ok (.aload_n 0, 1) := by decide +kernel
theorem dX11_settle_118 : decode cX11_settle 118 = .ok (.getfield 485, 3) := by decide +kernel
theorem dX11_settle_121 : decode cX11_settle 121 = .ok (.iconst 1, 1) := by decide +kernel
theorem dX11_settle_122 : decode cX11_settle 122 = .ok (.iadd, 1) := by decide +kernel
theorem dX11_settle_123 : decode cX11_settle 123 = .ok (.invokestatic 519, 3) := by decide +kernel
theorem dX11_settle_126 : decode cX11_settle 126 = .ok (.putfield 485, 3) := by decide +kernel
theorem dX11_settle_129 : decode cX11_settle 129 = .ok (.iload_n 1, 1) := by decide +kernel
theorem dX11_settle_130 : decode cX11_settle 130 = .ok (.ireturn, 1) := by decide +kernel
theorem dX12_init_0 : decode cX12_init 0 = .ok (.aload_n 0, 1) := by decide +kernel
theorem dX12_init_1 : decode cX12_init 1 = .ok (.invokespecial 3, 3) := by decide +kernel
theorem dX12_init_4 : decode cX12_init 4 = .ok (.aload_n 0, 1) := by decide +kernel
theorem dX12_init_5 : decode cX12_init 5 = .ok (.sipush 787, 3) := by decide +kernel
theorem dX12_init_8 : decode cX12_init 8 = .ok (.newarray .int, 2) := by decide +kernel
theorem dX12_init_10 : decode cX12_init 10 = .ok (.putfield 9, 3) := by decide +kernel
theorem dX12_init_13 : decode cX12_init 13 = .ok (.aload_n 0, 1) := by decide +kernel
theorem dX12_init_14 : decode cX12_init 14 = .ok (.sipush 787, 3) := by decide +kernel
theorem dX12_init_17 : decode cX12_init 17 = .ok (.newarray .int, 2) := by decide +kernel
theorem dX12_init_19 : decode cX12_init 19 = .ok (.putfield 13, 3) := by decide +kernel
theorem dX12_init_22 : decode cX12_init 22 = .ok (.aload_n 0, 1) := by decide +kernel
theorem dX12_init_23 : decode cX12_init 23 = .ok (.sipush 6296, 3) := by decide +kernel
theorem dX12_init_26 : decode cX12_init 26 = .ok (.newarray .int, 2) := by decide +kernel
theorem dX12_init_28 : decode cX12_init 28 = .ok (.putfield 16, 3) := by decide +kernel
theorem dX12_init_31 : decode cX12_init 31 = .ok (.aload_n 0, 1) := by decide +kernel
theorem dX12_init_32 : decode cX12_init 32 = .ok (.bipush 60, 2) := by decide +kernel
theorem dX12_init_34 : decode cX12_init 34 = .ok (.newarray .int, 2) := by decide +kernel
theorem dX12_init_36 : decode cX12_init 36 = .ok (.putfield 19, 3) := by decide +kernel
theorem dX12_init_39 : decode cX12_init 39 = .ok (.aload_n 0, 1) := by decide +kernel
theorem dX12_init_40 : decode cX12_init 40 = .ok (.bipush 80, 2) := by decide +kernel
theorem dX12_init_42 : decode cX12_init 42 = .ok (.newarray .int, 2) := by decide +kernel
theorem dX12_init_44 : decode cX12_init 44 = .ok (.putfield 22, 3) := by decide +kernel
theorem dX12_init_47 : decode cX12_init 47 = .ok (.aload_n 0, 1) := by decide +kernel
theorem dX12_init_48 : decode cX12_init 48 = .ok (.iconst (-1), 1) := by decide +kernel
theorem dX12_init_49 : decode cX12_init 49 = .ok (.putfield 25, 3) := by decide +kernel
theorem dX12_init_52 : decode cX12_init 52 = .ok (.aload_n 0, 1) := by decide +kernel
theorem dX12_init_53 : decode cX12_init 53 = .ok (.iconst (-1), 1) := by decide +kernel
theorem dX12_init_54 : decode cX12_init 54 = .ok (.putfield 29, 3) := by decide +kernel
theorem dX12_init_57 : decode cX12_init 57 = .ok (.aload_n 0, 1) := by decide +kernel
theorem dX12_init_58 : decode cX12_init 58 = .ok (.bipush 8, 2) := by decide +kernel
theorem dX12_init_60 : decode cX12_init 60 = .ok (.newarray .int, 2) := by decide +kernel
theorem dX12_init_62 : decode cX12_init 62 = .ok (.putfield 32, 3) := by decide +kernel
theorem dX12_init_65 : decode cX12_init 65 = .ok (.aload_n 0, 1) := by decide +kernel
theorem dX12_init_66 : decode cX12_init 66 = .ok (.bipush 120, 2) := by decide +kernel
theorem dX12_init_68 : decode cX12_init 68 = .ok (.newarray .int, 2) := by decide +kernel
theorem dX12_init_70 : decode cX12_init 70 = .ok (.putfield 35, 3) := by decide +kernel
theorem dX12_init_73 : decode cX12_init 73 = .ok (.aload_n 0, 1) := by decide +kernel
theorem dX12_init_74 : decode cX12_init 74 = .ok (.bipush 30, 2) := by decide +kernel
theorem dX12_init_76 : decode cX12_init 76 = .ok (.newarray .int, 2) := by decide +kernel
theorem dX12_init_78 : decode cX12_init 78 = .ok (.putfield 38, 3) := by decide +kernel
theorem dX12_init_81 : decode cX12_init 81 = .ok (.iconst 0, 1) := by decide +kernel
theorem dX12_init_82 : decode cX12_init 82 = .ok (.istore_n 1, 1) := by decide +kernel
theorem dX12_init_83 : decode cX12_init 83 = .ok (.iload_n 1, 1) := by decide +kernel
theorem dX12_init_84 : decode cX12_init 84 = .ok (.bipush 8, 2) := by decide +kernel
theorem dX12_init_86 : decode cX12_init 86 = .ok (.if_icmp .ge 43, 3) := by decide +kernel
theorem dX12_init_89 : decode cX12_init 89 = .ok (.aload_n 0, 1) := by decide +kernel
theorem dX12_init_90 : decode cX12_init 90 = .ok (.getfield 9, 3) := by decide +kernel
theorem dX12_init_93 : decode cX12_init 93 = .ok (.bipush 119, 2) := by decide +kernel
theorem dX12_init_95 : decode cX12_init 95 = .ok (.iconst 2, 1) := by decide +kernel
theorem dX12_init_96 : decode cX12_init 96 = .ok (.iload_n 1, 1) := by decide +kernel
theorem dX12_init_97 : decode cX12_init 97 = .ok (.imul, 1) := by decide +kernel
theorem dX12_init_98 : decode cX12_init 98 = .ok (.iadd, 1) := by decide +kernel
theorem dX12_init_99 : decode cX12_init 99 = .ok (.bipush 10, 2) := by decide +kernel
theorem dX12_init_101 : decode cX12_init 101 = .ok (.bipush 10, 2) := by decide +kernel
theorem dX12_init_103 : decode cX12_init 103 = .ok (.iload_n 1, 1) := by decide +kernel
theorem dX12_init_104 : decode cX12_init 104 = .ok (.imul, 1) := by decide +kernel
theorem dX12_init_105 : decode cX12_init 105 = .ok (.iadd, 1) := by decide +kernel
theorem dX12_init_106 : decode cX12_init 106 = .ok (.iastore, 1) := by decide +kernel
theorem dX12_init_107 : decode cX12_init 107 = .ok (.aload_n 0, 1) := by decide +kernel
theorem dX12_init_108 : decode cX12_init 108 = .ok (.getfield 9, 3) := by decide +kernel
theorem dX12_init_111 : decode cX12_init 111 = .ok (.bipush 119, 2) := by decide +kernel
theorem dX12_init_113 : decode cX12_init 113 = .ok (.iconst 2, 1) := by decide +kernel
theorem dX12_init_114 : decode cX12_init 114 = .ok (.iload_n 1, 1) := by decide +kernel
theorem dX12_init_115 : decode cX12_init 115 = .ok (.imul, 1) := by decide +kernel
theorem dX12_init_116 : decode cX12_init 116 = .ok (.iadd, 1) := by decide +kernel
theorem dX12_init_117 : decode cX12_init 117 = .ok (.iconst 1, 1) := by decide +kernel
theorem dX12_init_118 : decode cX12_init 118 = .ok (.iadd, 1) := by decide +kernel
theorem dX12_init_119 : decode cX12_init 119 = .ok (.iload_n 1, 1) := by decide +kernel
theorem dX12_init_120 : decode cX12_init 120 = .ok (.iconst 2, 1) := by decide +kernel
theorem dX12_init_121 : decode cX12_init 121 = .ok (.irem, 1) := by decide +kernel
theorem dX12_init_122 : decode cX12_init 122 = .ok (.iastore, 1) := by decide +kernel
theorem dX12_init_123 : decode cX12_init 123 = .ok (.iinc 1 1, 3) := by decide +kernel
theorem dX12_init_126 : decode cX12_init 126 = .ok (.goto (-43), 3) := by decide +kernel
theorem dX12_init_129 : decode cX12_init 129 = .ok (.aload_n 0, 1) := by decide +kernel
theorem dX12_init_130 : decode cX12_init 130 = .ok (.getfield 9, 3) := by decide +kernel
theorem dX12_init_133 : decode cX12_init 133 = .ok (.sipush 136, 3) := by decide +kernel
theorem dX12_init_136 : decode cX12_init 136 = .ok (.iconst 1, 1) := by decide +kernel
theorem dX12_init_137 : decode cX12_init 137 = .ok (.iastore, 1) := by decide +kernel
theorem dX12_init_138 : decode cX12_init 138 = .ok (.aload_n 0, 1) := by decide +kernel
theorem dX12_init_139 : decode cX12_init 139 = .ok (.getfield 9, 3) := by decide +kernel
theorem dX12_init_142 : decode cX12_init 142 = .ok (.sipush 137, 3) := by decide +kernel
theorem dX12_init_145 : decode cX12_init 145 = .ok (.iconst 3, 1) := by decide +kernel
theorem dX12_init_146 : decode cX12_init 146 = .ok (.iastore, 1) := by decide +kernel
theorem dX12_init_147 : decode cX12_init 147 = .ok (.aload_n 0, 1) := by decide +kernel
theorem dX12_init_148 : decode cX12_init 148 = .ok (.getfield 9, 3) := by decide +kernel
theorem dX12_init_151 : decode cX12_init 151 = .ok (.sipush 138, 3) := by decide +kernel
theorem dX12_init_154 : decode cX12_init 154 = .ok (.bipush 14, 2) := by decide +kernel
theorem dX12_init_156 : decode cX12_init 156 = .ok (.iastore, 1) := by decide +kernel
theorem dX12_init_157 : decode cX12_init 157 = .ok (.return_, 1) := by decide +kernel
theorem dX12_thrown_0 : decode cX12_thrown 0 = .ok (.aload_n 0, 1) := by decide +kernel
theorem dX12_thrown_1 : decode cX12_thrown 1 = .ok (.getfield 41, 3) := by decide +kernel
theorem dX12_thrown_4 : decode cX12_thrown 4 = .ok (.ireturn, 1) := by decide +kernel
theorem dX12_in_0 : decode cX12_in 0 = .ok (.iload_n 0, 1) := by decide +kernel
theorem dX12_in_1 : decode cX12_in 1 = .ok (.iload_n 1, 1) := by decide +kernel
theorem dX12_in_2 : decode cX12_in 2 = .ok (.if_icmp .lt 12, 3) := by decide +kernel
theorem dX12_in_5 : decode cX12_in 5 = .ok (.iload_n 0, 1) := by decide +kernel
theorem dX12_in_6 : decode cX12_in 6 = .ok (.iload_n 2, 1) := by decide +kernel
theorem dX12_in_7 : decode cX12_in 7 = .ok (.if_icmp .gt 7, 3) := by decide +kernel
theorem dX12_in_10 : decode cX12_in 10 = .ok (.iconst 1, 1) := by decide +kernel
theorem dX12_in_11 : decode cX12_in 11 = .ok (.goto 4, 3) := by decide +kernel
theorem dX12_in_14 : decode cX12_in 14 = .ok (.iconst 0, 1) := by decide +kernel
theorem dX12_in_15 : decode cX12_in 15 = .ok (.ireturn, 1) := by decide +kernel
theorem dX12_fails_0 : decode cX12_fails 0 = .ok (.iload_n 1, 1) := by decide +kernel
theorem dX12_fails_1 : decode cX12_fails 1 = .ok (.ifCond .eq 15, 3) := by decide +kernel
theorem dX12_fails_4 : decode cX12_fails 4 = .ok (.aload_n 0, 1) := by decide +kernel
theorem dX12_fails_5 : decode cX12_fails 5 = .ok (.getfield 41, 3) := by decide +kernel
theorem dX12_fails_8 : decode cX12_fails 8 = .ok (.ifCond .ne 8, 3) := by decide +kernel
theorem dX12_fails_11 : decode cX12_fails 11 = .ok (.aload_n 0, 1) := by decide +kernel
theorem dX12_fails_12 : decode cX12_fails 12 = .ok (.iload_n 2, 1) := by decide +kernel
theorem dX12_fails_13 : decode cX12_fails 13 = .ok (.putfield 41, 3) := by decide +kernel
theorem dX12_fails_16 : decode cX12_fails 16 = .ok (.aload_n 0, 1) := by decide +kernel
theorem dX12_fails_17 : decode cX12_fails 17 = .ok (.getfield 41, 3) := by decide +kernel
theorem dX12_fails_20 : decode cX12_fails 20 = .ok (.ifCond .eq 7, 3) := by decide +kernel
theorem dX12_fails_23 : decode cX12_fails 23 = .ok (.iconst 1, 1) := by decide +kernel
theorem dX12_fails_24 : decode cX12_fails 24 = .ok (.goto 4, 3) := by decide +kernel
theorem dX12_fails_27 : decode cX12_fails 27 = .ok (.iconst 0, 1) := by decide +kernel
theorem dX12_fails_28 : decode cX12_fails 28 = .ok (.ireturn, 1) := by decide +kernel
theorem dX12_remember_0 : decode cX12_remember 0 = .ok (.aload_n 0, 1) := by decide +kernel
theorem dX12_remember_1 : decode cX12_remember 1 = .ok (.getfield 44, 3) := by decide +kernel
theorem dX12_remember_4 : decode cX12_remember 4 = .ok (.bipush 8, 2) := by decide +kernel
theorem dX12_remember_6 : decode cX12_remember 6 = .ok (.if_icmp .ne 44, 3) := by decide +kernel
theorem dX12_remember_9 : decode cX12_remember 9 = .ok (.iconst 0, 1) := by decide +kernel
theorem dX12_remember_10 : decode cX12_remember 10 = .ok (.istore_n 2, 1) := by decide +kernel
theorem dX12_remember_11 : decode cX12_remember 11 = .ok (.iload_n 2, 1) := by decide +kernel
theorem dX12_remember_12 : decode cX12_remember 12 = .ok (.sipush 5509, 3) := by decide +kernel
theorem dX12_remember_15 : decode cX12_remember 15 = .ok (.if_icmp .ge 25, 3) := by decide +kernel
theorem dX12_remember_18 : decode cX12_remember 18 = .ok (.aload_n 0, 1) := by decide +kernel
theorem dX12_remember_19 : decode cX12_remember 19 = .ok (.getfield 16, 3) := by decide +kernel
theorem dX12_remember_22 : decode cX12_remember 22 = .ok (.iload_n 2, 1) := by decide +kernel
theorem dX12_remember_23 : decode cX12_remember 23 = .ok (.aload_n 0, 1) := by decide +kernel
theorem dX12_remember_24 : decode cX12_remember 24 = .ok (.getfield 16, 3) := by decide +kernel
theorem dX12_remember_27 : decode cX12_remember 27 = .ok (.iload_n 2, 1) := by decide +kernel
theorem dX12_remember_28 : decode cX12_remember 28 = .ok (.sipush 787, 3) := by decide +kernel
theorem dX12_remember_31 : decode cX12_remember 31 = .ok (.iadd, 1) := by decide +kernel
theorem dX12_remember_32 : decode cX12_remember 32 = .ok (.iaload, 1) := by decide +kernel
theorem dX12_remember_33 : decode cX12_remember 33 = .ok (.iastore, 1) := by decide +kernel
theorem dX12_remember_34 : decode cX12_remember 34 = .ok (.iinc 2 1, 3) := by decide +kernel
theorem dX12_remember_37 : decode cX12_remember 37 = .ok (.goto (-26), 3) := by decide +kernel
theorem dX12_remember_40 : decode cX12_remember 40 = .ok (.aload_n 0, 1) := by decide +kernel
theorem dX12_remember_41 : decode cX12_remember 41 = .ok (.dup, 1) := by decide +kernel
theorem dX12_remember_42 : decode cX12_remember 42 = .ok (.getfield 44, 3) := by decide +kernel
theorem dX12_remember_45 : decode cX12_remember 45 = .ok (.iconst 1, 1) := by decide +kernel
theorem dX12_remember_46 : decode cX12_remember 46 = .ok (.isub, 1) := by decide +kernel
theorem dX12_remember_47 : decode cX12_remember 47 = .ok (.putfield 44, 3) := by decide +kernel
theorem dX12_remember_50 : decode cX12_remember 50 = .ok (.iconst 0, 1) := by decide +kernel
theorem dX12_remember_51 : decode cX12_remember 51 = .ok (.istore_n 2, 1) := by decide +kernel
theorem dX12_remember_52 : decode cX12_remember 52 = .ok (.iload_n 2, 1) := by decide +kernel
theorem dX12_remember_53 : decode cX12_remember 53 = .ok (.sipush 787, 3) := by decide +kernel
theorem dX12_remember_56 : decode cX12_remember 56 = .ok (.if_icmp .ge 27, 3) := by decide +kernel
theorem dX12_remember_59 : decode cX12_remember 59 = .ok (.aload_n 0, 1) := by decide +kernel
theorem dX12_remember_60 : decode cX12_remember 60 = .ok (.getfield 16, 3) := by decide +kernel
theorem dX12_remember_63 : decode cX12_remember 63 = .ok (.aload_n 0, 1) := by decide +kernel
theorem dX12_remember_64 : decode cX12_remember 64 = .ok (.getfield 44, 3) := by decide +kernel
theorem dX12_remember_67 : decode cX12_remember 67 = .ok (.sipush 787, 3) := by decide +kernel
theorem dX12_remember_70 : decode cX12_remember 70 = .ok (.imul, 1) := by decide +kernel
theorem dX12_remember_71 : decode cX12_remember 71 = .ok (.iload_n 2, 1) := by decide +kernel
theorem dX12_remember_72 : decode cX12_remember 72 = .ok (.iadd, 1) := by decide +kernel
theorem dX12_remember_73 : decode cX12_remember 73 = .ok (.aload_n 1, 1) := by decide +kernel
theorem dX12_remember_74 : decode cX12_remember 74 = .ok (.iload_n 2, 1) := by decide +kernel
theorem dX12_remember_75 : decode cX12_remember 75 = .ok (.iaload, 1) := by decide +kernel
theorem dX12_remember_76 : decode cX12_remember 76 = .ok (.iastore, 1) := by decide +kernel
theorem dX12_remember_77 : decode cX12_remember 77 = .ok (.iinc 2 1, 3) := by decide +kernel
theorem dX12_remember_80 : decode cX12_remember 80 = .ok (.goto (-28), 3) := by decide +kernel
theorem dX12_remember_83 : decode cX12_remember 83 = .ok (.aload_n 0, 1) := by decide +kernel
theorem dX12_remember_84 : decode cX12_remember 84 = .ok (.dup, 1) := by decide +kernel
theorem dX12_remember_85 : decode cX12_remember 85 = .ok (.getfield 44, 3) := by decide +kernel
theorem dX12_remember_88 : decode cX12_remember 88 = .ok (.iconst 1, 1) := by decide +kernel
theorem dX12_remember_89 : decode cX12_remember 89 = .ok (.iadd, 1) := by decide +kernel
theorem dX12_remember_90 : decode cX12_remember 90 = .ok (.putfield 44, 3) := by decide +kernel
theorem dX12_remember_93 : decode cX12_remember 93 = .ok (.return_, 1) := by decide +kernel
theorem dX12_change_0 : decode cX12_change 0 = .ok (.aload_n 0, 1) := by decide +kernel
theorem dX12_change_1 : decode cX12_change 1 = .ok (.getfield 47, 3) := by decide +kernel
theorem dX12_change_4 : decode cX12_change 4 = .ok (.ifCond .ne 11, 3) := by decide +kernel
theorem dX12_change_7 : decode cX12_change 7 = .ok (.aload_n 0, 1) := by decide +kernel
theorem dX12_change_8 : decode cX12_change 8 = .ok (.aload_n 0, 1) := by decide +kernel
theorem dX12_change_9 : decode cX12_change 9 = .ok (.getfield 9, 3) := by decide +kernel
theorem dX12_change_12 : decode cX12_change 12 = .ok (.invokevirtual 51, 3) := by decide +kernel
theorem dX12_change_15 : decode cX12_change 15 = .ok (.return_, 1) := by decide +kernel
theorem dX12_undo_0 : decode cX12_undo 0 = .ok (.aload_n 0, 1) := by decide +kernel
theorem dX12_undo_1 : decode cX12_undo 1 = .ok (.iconst 0, 1) := by decide +kernel
theorem dX12_undo_2 : decode cX12_undo 2 = .ok (.putfield 41, 3) := by decide +kernel
theorem dX12_undo_5 : decode cX12_undo 5 = .ok (.aload_n 0, 1) := by decide +kernel
theorem dX12_undo_6 : decode cX12_undo 6 = .ok (.aload_n 0, 1) := by decide +kernel
theorem dX12_undo_7 : decode cX12_undo 7 = .ok (.getfield 44, 3) := by decide +kernel
theorem dX12_undo_10 : decode cX12_undo 10 = .ok (.ifCond .ne 7, 3) := by decide +kernel
theorem dX12_undo_13 : decode cX12_undo 13 = .ok (.iconst 1, 1) := by decide +kernel
theorem dX12_undo_14 : decode cX12_undo 14 = .ok (.goto 4, 3) := by decide +kernel
theorem dX12_undo_17 : decode cX12_undo 17 = .ok (.iconst 0, 1) := by decide +kernel
theorem dX12_undo_18 : decode cX12_undo 18 = .ok (.iconst 1, 1) := by decide +kernel
theorem dX12_undo_19 : decode cX12_undo 19 = .ok (.invokevirtual 55, 3) := by decide +kernel
theorem dX12_undo_22 : decode cX12_undo 22 = .ok (.ifCond .eq 5, 3) := by decide +kernel
theorem dX12_undo_25 : decode cX12_undo 25 = .ok (.iconst 0, 1) := by decide +kernel
theorem dX12_undo_26 : decode cX12_undo 26 = .ok (.ireturn, 1) := by decide +kernel
theorem dX12_undo_27 : decode cX12_undo 27 = .ok (.aload_n 0, 1) := by decide +kernel
theorem dX12_undo_28 : decode cX12_undo 28 = .ok (.dup, 1) := by decide +kernel
theorem dX12_undo_29 : decode cX12_undo 29 = .ok (.getfield 44, 3) := by decide +kernel
theorem dX12_undo_32 : decode cX12_undo 32 = .ok (.iconst 1, 1) := by decide +kernel
theorem dX12_undo_33 : decode cX12_undo 33 = .ok (.isub, 1) := by decide +kernel
theorem dX12_undo_34 : decode cX12_undo 34 = .ok (.putfield 44, 3) := by decide +kernel
theorem dX12_undo_37 : decode cX12_undo 37 = .ok (.iconst 0, 1) := by decide +kernel
theorem dX12_undo_38 : decode cX12_undo 38 = .ok (.istore_n 1, 1) := by decide +kernel
theorem dX12_undo_39 : decode cX12_undo 39 = .ok (.iload_n 1, 1) := by decide +kernel
theorem dX12_undo_40 : decode cX12_undo 40 = .ok (.sipush 787, 3) := by decide +kernel
theorem dX12_undo_43 : decode cX12_undo 43 = .ok (.if_icmp .ge 30, 3) := by decide +kernel
theorem dX12_undo_46 : decode cX12_undo 46 = .ok (.aload_n 0, 1) := by decide +kernel
theorem dX12_undo_47 : decode cX12_undo 47 = .ok (.getfield 9, 3) := by decide +kernel
theorem dX12_undo_50 : decode cX12_undo 50 = .ok (.iload_n 1, 1) := by decide +kernel
theorem dX12_undo_51 : decode cX12_undo 51 = .ok (.aload_n 0, 1) := by decide +kernel
theorem dX12_undo_52 : decode cX12_undo 52 = .ok (.getfield 16, 3) := by decide +kernel
theorem dX12_undo_55 : decode cX12_undo 55 = .ok (.aload_n 0, 1) := by decide +kernel
theorem dX12_undo_56 : decode cX12_undo 56 = .ok (.getfield 44, 3) := by decide +kernel
theorem dX12_undo_59 : decode cX12_undo 59 = .ok (.sipush 787, 3) := by decide +kernel
theorem dX12_undo_62 : decode cX12_undo 62 = .ok (.imul, 1) := by decide +kernel
theorem dX12_undo_63 : decode cX12_undo 63 = .ok (.iload_n 1, 1) := by decide +kernel
theorem dX12_undo_64 : decode cX12_undo 64 = .ok (.iadd, 1) := by decide +kernel
theorem dX12_undo_65 : decode cX12_undo 65 = .ok (.iaload, 1) := by decide +kernel
theorem dX12_undo_66 : decode cX12_undo 66 = .ok (.iastore, 1) := by decide +kernel
theorem dX12_undo_67 : decode cX12_undo 67 = .ok (.iinc 1 1, 3) := by decide +kernel
theorem dX12_undo_70 : decode cX12_undo 70 = .ok (.goto (-31), 3) := by decide +kernel
theorem dX12_undo_73 : decode cX12_undo 73 = .ok (.aload_n 0, 1) := by decide +kernel
theorem dX12_undo_74 : decode cX12_undo 74 = .ok (.getfield 44, 3) := by decide +kernel
theorem dX12_undo_77 : decode cX12_undo 77 = .ok (.ireturn, 1) := by decide +kernel
theorem dX12_type_0 : decode cX12_type 0 = .ok (.aload_n 0, 1) := by decide +kernel
theorem dX12_type_1 : decode cX12_type 1 = .ok (.iconst 0, 1) := by decide +kernel
theorem dX12_type_2 : decode cX12_type 2 = .ok (.putfield 41, 3) := by decide +kernel
theorem dX12_type_5 : decode cX12_type 5 = .ok (.aload_n 0, 1) := by decide +kernel
theorem dX12_type_6 : decode cX12_type 6 = .ok (.aload_n 0, 1) := by decide +kernel
theorem dX12_type_7 : decode cX12_type 7 = .ok (.getfield 59, 3) := by decide +kernel
theorem dX12_type_10 : decode cX12_type 10 = .ok (.bipush 60, 2) := by decide +kernel
theorem dX12_type_12 : decode cX12_type 12 = .ok (.if_icmp .ne 7, 3) := by decide +kernel
theorem dX12_type_15 : decode cX12_type 15 = .ok (.iconst 1, 1) := by decide +kernel
theorem dX12_type_16 : decode cX12_type 16 = .ok (.goto 4, 3) := by decide +kernel
theorem dX12_type_19 : decode cX12_type 19 = .ok (.iconst 0, 1) := by decide +kernel
theorem dX12_type_20 : decode cX12_type 20 = .ok (.iconst 1, 1) := by decide +kernel
theorem dX12_type_21 : decode cX12_type 21 = .ok (.invokevirtual 55, 3) := by decide +kernel
theorem dX12_type_24 : decode cX12_type 24 = .ok (.ifCond .eq 5, 3) := by decide +kernel
theorem dX12_type_27 : decode cX12_type 27 = .ok (.iconst 0, 1) := by decide +kernel
theorem dX12_type_28 : decode cX12_type 28 = .ok (.ireturn, 1) := by decide +kernel
theorem dX12_type_29 : decode cX12_type 29 = .ok (.aload_n 0, 1) := by decide +kernel
theorem dX12_type_30 : decode cX12_type 30 = .ok (.getfield 19, 3) := by decide +kernel
theorem dX12_type_33 : decode cX12_type 33 = .ok (.aload_n 0, 1) := by decide +kernel
theorem dX12_type_34 : decode cX12_type 34 = .ok (.getfield 59, 3) := by decide +kernel
theorem dX12_type_37 : decode cX12_type 37 = .ok (.iload_n 1, 1) := by decide +kernel
theorem dX12_type_38 : decode cX12_type 38 = .ok (.iastore, 1) := by decide +kernel
theorem dX12_type_39 : decode cX12_type 39 = .ok (.aload_n 0, 1) := by decide +kernel
theorem dX12_type_40 : decode cX12_type 40 = .ok (.dup, 1) := by decide +kernel
theorem dX12_type_41 : decode cX12_type 41 = .ok (.getfield 59, 3) := by decide +kernel
theorem dX12_type_44 : decode cX12_type 44 = .ok (.iconst 1, 1) := by decide +kernel
theorem dX12_type_45 : decode cX12_type 45 = .ok (.iadd, 1) := by decide +kernel
theorem dX12_type_46 : decode cX12_type 46 = .ok (.putfield 59, 3) := by decide +kernel
theorem dX12_type_49 : decode cX12_type 49 = .ok (.aload_n 0, 1) := by decide +kernel
theorem dX12_type_50 : decode cX12_type 50 = .ok (.getfield 59, 3) := by decide +kernel
theorem dX12_type_53 : decode cX12_type 53 = .ok (.ireturn, 1) := by decide +kernel
theorem dX12_isHigh_0 : decode cX12_isHigh 0 = .ok (.iload_n 0, 1) := by decide +kernel
theorem dX12_isHigh_1 : decode cX12_isHigh 1 = .ok (.ldc 62, 2) := by decide +kernel
theorem dX12_isHigh_3 : decode cX12_isHigh 3 = .ok (.ldc 63, 2) := by decide +kernel
theorem dX12_isHigh_5 : decode cX12_isHigh 5 = .ok (.invokestatic 64, 3) := by decide +kernel
theorem dX12_isHigh_8 : decode cX12_isHigh 8 = .ok (.ireturn, 1) := by decide +kernel
theorem dX12_isLow_0 : decode cX12_isLow 0 = .ok (.iload_n 0, 1) := by decide +kernel
theorem dX12_isLow_1 : decode cX12_isLow 1 = .ok (.ldc 68, 2) := by decide +kernel
theorem dX12_isLow_3 : decode cX12_isLow 3 = .ok (.ldc 69, 2) := by decide +kernel
theorem dX12_isLow_5 : decode cX12_isLow 5 = .ok (.invokestatic 64, 3) := by decide +kernel
theorem dX12_isLow_8 : decode cX12_isLow 8 = .ok (.ireturn, 1) := by decide +kernel
theorem dX12_readName_0 : decode cX12_readName 0 = .ok (.aload_n 0, 1) := by decide +kernel
theorem dX12_readName_1 : decode cX12_readName 1 = .ok (.getfield 59, 3) := by decide +kernel
theorem dX12_readName_4 : decode cX12_readName 4 = .ok (.istore_n 1, 1) := by decide +kernel
theorem dX12_readName_5 : decode cX12_readName 5 = .ok (.iconst 0, 1) := by decide +kernel
theorem dX12_readName_6 : decode cX12_readName 6 = .ok (.istore_n 2, 1) := by decide +kernel
theorem dX12_readName_7 : decode cX12_readName 7 = .ok (.iload_n 1, 1) := by decide +kernel
theorem dX12_readName_8 : decode cX12_readName 8 = .ok (.ifCond .le 7, 3) := by decide +kernel
theorem dX12_readName_11 : decode cX12_readName 11 = .ok (.iconst 1, 1) := by decide +kernel
theorem dX12_readName_12 : decode cX12_readName 12 = .ok (.goto 4, 3) := by decide +kernel
theorem dX12_readName_15 : decode cX12_readName 15 = .ok (.iconst 0, 1) := by decide +kernel
theorem dX12_readName_16 : decode cX12_readName 16 = .ok (.istore_n 3, 1) := by decide +kernel
theorem dX12_readName_17 : decode cX12_readName 17 = .ok (.aload_n 0, 1) := by decide +kernel
theorem dX12_readName_18 : decode cX12_readName 18 = .ok (.iconst 0, 1) := by decide +kernel
theorem dX12_readName_19 : decode cX12_readName 19 = .ok (.putfield 59, 3) := by decide +kernel
theorem dX12_readName_22 : decode cX12_readName 22 = .ok (.aload_n 0, 1) := by decide +kernel
theorem dX12_readName_23 : decode cX12_readName 23 = .ok (.iconst 0, 1) := by decide +kernel
theorem dX12_readName_24 : decode cX12_readName 24 = .ok (.putfield 70, 3) := by decide +kernel
theorem dX12_readName_27 : decode cX12_readName 27 = .ok (.iload_n 2, 1) := by decide +kernel
theorem dX12_readName_28 : decode cX12_readName 28 = .ok (.iload_n 1, 1) := by decide +kernel
theorem dX12_readName_29 : decode cX12_readName 29 = .ok (.if_icmp .ge 172, 3) := by decide +kernel
theorem dX12_readName_32 : decode cX12_readName 32 = .ok (.iload_n 3, 1) := by decide +kernel
theorem dX12_readName_33 : decode cX12_readName 33 = .ok (.ifCond .eq 168, 3) := by decide +kernel
theorem dX12_readName_36 : decode cX12_readName 36 = .ok (.aload_n 0, 1) := by decide +kernel
theorem dX12_readName_37 : decode cX12_readName 37 = .ok (.getfield 19, 3) := by decide +kernel
theorem dX12_readName_40 : decode cX12_readName 40 = .ok (.iload_n 2, 1) := by decide +kernel
theorem dX12_readName_41 : decode cX12_readName 41 = .ok (.iaload, 1) := by decide +kernel
theorem dX12_readName_42 : decode cX12_readName 42 = .ok (.invokestatic 73, 3) := by decide +kernel
theorem dX12_readName_45 : decode cX12_readName 45 = .ok (.ifCond .eq 28, 3) := by decide +kernel
theorem dX12_readName_48 : decode cX12_readName 48 = .ok (.iload_n 2, 1) := by decide +kernel
theorem dX12_readName_49 : decode cX12_readName 49 = .ok (.iconst 1, 1) := by decide +kernel
theorem dX12_readName_50 : decode cX12_readName 50 = .ok (.iadd, 1) := by decide +kernel
theorem dX12_readName_51 : decode cX12_readName 51 = .ok (.iload_n 1, 1) := by decide +kernel
theorem dX12_readName_52 : decode cX12_readName 52 = .ok (.if_icmp .ge 21, 3) := by decide +kernel
theorem dX12_readName_55 : decode cX12_readName 55 = .ok (.aload_n 0, 1) := by decide +kernel
theorem dX12_readName_56 : decode cX12_readName 56 = .ok (.getfield 19, 3) := by decide +kernel
theorem dX12_readName_59 : decode cX12_readName 59 = .ok (.iload_n 2, 1) := by decide +kernel
theorem dX12_readName_60 : decode cX12_readName 60 = .ok (.iconst 1, 1) := by decide +kernel
theorem dX12_readName_61 : decode cX12_readName 61 = .ok (.iadd, 1) := by decide +kernel
theorem dX12_readName_62 : decode cX12_readName 62 = .ok (.iaload, 1) := by decide +kernel
theorem dX12_readName_63 : decode cX12_readName 63 = .ok (.invokestatic 77, 3) := by decide +kernel
theorem dX12_readName_66 : decode cX12_readName 66 = .ok (.ifCond .eq 7, 3) := by decide +kernel
theorem dX12_readName_69 : decode cX12_readName 69 = .ok (.iconst 1, 1) := by decide +kernel
theorem dX12_readName_70 : decode cX12_readName 70 = .ok (.goto 4, 3) := by decide +kernel
theorem dX12_readName_73 : decode cX12_readName 73 = .ok (.iconst 0, 1) := by decide +kernel
theorem dX12_readName_74 : decode cX12_readName 74 = .ok (.istore 4, 2) := by decide +kernel
theorem dX12_readName_76 : decode cX12_readName 76 = .ok (.aload_n 0, 1) := by decide +kernel
theorem dX12_readName_77 : decode cX12_readName 77 = .ok (.getfield 70, 3) := by decide +kernel
theorem dX12_readName_80 : decode cX12_readName 80 = .ok (.bipush 8, 2) := by decide +kernel
theorem dX12_readName_82 : decode cX12_readName 82 = .ok (.if_icmp .ge 36, 3) := by decide +kernel
theorem dX12_readName_85 : decode cX12_readName 85 = .ok (.iload 4, 2) := by decide +kernel
theorem dX12_readName_87 : decode cX12_readName 87 = .ok (.ifCond .ne 27, 3) := by decide +kernel
theorem dX12_readName_90 : decode cX12_readName 90 = .ok (.aload_n 0, 1) := by decide +kernel
theorem dX12_readName_91 : decode cX12_readName 91 = .ok (.getfield 19, 3) := by decide +kernel
theorem dX12_readName_94 : decode cX12_readName 94 = .ok (.iload_n 2, 1) := by decide +kernel
theorem dX12_readName_95 : decode cX12_readName 95 = .ok (.iaload, 1) := by decide +kernel
theorem dX12_readName_96 : decode cX12_readName 96 = .ok (.invokestatic 73, 3) := by decide +kernel
theorem dX12_readName_99 : decode cX12_readName 99 = .ok (.ifCond .ne 19, 3) := by decide +kernel
theorem dX12_readName_102 : decode cX12_readName 102 = .ok (.aload_n 0, 1) := by decide +kernel
theorem dX12_readName_103 : decode cX12_readName 103 = .ok (.getfield 19, 3) := by decide +kernel
theorem dX12_readName_106 : decode cX12_readName 106 = .ok (.iload_n 2, 1) := by decide +kernel
theorem dX12_readName_107 : decode cX12_readName 107 = .ok (.iaload, 1) := by decide +kernel
theorem dX12_readName_108 : decode cX12_readName 108 = .ok (.invokestatic 77, 3) := by decide +kernel
theorem dX12_readName_111 : decode cX12_readName 111 = .ok (.ifCond .ne 7, 3) := by decide +kernel
theorem dX12_readName_114 : decode cX12_readName 114 = .ok (.iconst 1, 1) := by decide +kernel
theorem dX12_readName_115 : decode cX12_readName 115 = .ok (.goto 4, 3) := by decide +kernel
theorem dX12_readName_118 : decode cX12_readName 118 = .ok (.iconst 0, 1) := by decide +kernel
theorem dX12_readName_119 : decode cX12_readName 119 = .ok (.istore_n 3, 1) := by decide +kernel
theorem dX12_readName_120 : decode cX12_readName 120 = .ok (.iload_n 3, 1) := by decide +kernel
theorem dX12_readName_121 : decode cX12_readName 121 = .ok (.ifCond .eq 77, 3) := by decide +kernel
theorem dX12_readName_124 : decode cX12_readName 124 = .ok (.aload_n 0, 1) := by decide +kernel
theorem dX12_readName_125 : decode cX12_readName 125 = .ok (.getfield 32, 3) := by decide +kernel
theorem dX12_readName_128 : decode cX12_readName 128 = .ok (.aload_n 0, 1) := by decide +kernel
theorem dX12_readName_129 : decode cX12_readName 129 = .ok (.getfield 70, 3) := by decide +kernel
theorem dX12_readName_132 : decode cX12_readName 132 = .ok (.iload 4, 2) := by decide +kernel
theorem dX12_readName_134 : decode cX12_readName 134 = .ok (.ifCond .eq 34, 3) := by decide +kernel
theorem dX12_readName_137 : decode cX12_readName 137 = .ok (.ldc 80, 2) := by decide +kernel
theorem dX12_readName_139 : decode cX12_readName 139 = .ok (.aload_n 0, 1) := by decide +kernel
theorem dX12_readName_140 : decode cX12_readName 140 = .ok (.getfield 19, 3) := by decide +kernel
theorem dX12_readName_143 : decode cX12_readName 143 = .ok (.iload_n 2, 1) := by decide +kernel
theorem dX12_readName_144 : decode cX12_readName 144 = .ok (.iaload, 1) := by decide +kernel
theorem dX12_readName_145 : decode cX12_readName 145 = .ok (.ldc 62, 2) := by decide +kernel
theorem dX12_readName_147 : decode cX12_readName 147 = .ok (.isub, 1) := by decide +kernel
theorem dX12_readName_148 : decode cX12_readName 148 = .ok (.sipush 1024, 3) := by decide +kernel
theorem dX12_readName_151 : decode cX12_readName 151 = .ok (.imul, 1) := by decide +kernel
theorem dX12_readName_152 : decode cX12_readName 152 = .ok (.iadd, 1) := by decide +kernel
theorem dX12_readName_153 : decode cX12_readName 153 = .ok (.aload_n 0, 1) := by decide +kernel
theorem dX12_readName_154 : decode cX12_readName 154 = .ok (.getfield 19, 3) := by decide +kernel
theorem dX12_readName_157 : decode cX12_readName 157 = .ok (.iload_n 2, 1) := by decide +kernel
theorem dX12_readName_158 : decode cX12_readName 158 = .ok (.iconst 1, 1) := by decide +kernel
theorem dX12_readName_159 : decode cX12_readName 159 = .ok (.iadd, 1) := by decide +kernel
theorem dX12_readName_160 : decode cX12_readName 160 = .ok (.iaload, 1) := by decide +kernel
theorem dX12_readName_161 : decode cX12_readName 161 = .ok (.iadd, 1) := by decide +kernel
theorem dX12_readName_162 : decode cX12_readName 162 = .ok (.ldc 68, 2) := by decide +kernel
theorem dX12_readName_164 : decode cX12_readName 164 = .ok (.isub, 1) := by decide +kernel
theorem dX12_readName_165 : decode cX12_readName 165 = .ok (.goto 9, 3) := by decide +kernel
theorem dX12_readName_168 : decode cX12_readName 168 = .ok (.aload_n 0, 1) := by decide +kernel
theorem dX12_readName_169 : decode cX12_readName 169 = .ok (.getfield 19, 3) := by decide +kernel
theorem dX12_readName_172 : decode cX12_readName 172 = .ok (.iload_n 2, 1) := by decide +kernel
theorem dX12_readName_173 : decode cX12_readName 173 = .ok (.iaload, 1) := by decide +kernel
theorem dX12_readName_174 : decode cX12_readName 174 = .ok (.iastore, 1) := by decide +kernel
theorem dX12_readName_175 : decode cX12_readName 175 = .ok (.aload_n 0, 1) := by decide +kernel
theorem dX12_readName_176 : decode cX12_readName 176 = .ok (.dup, 1) := by decide +kernel
theorem dX12_readName_177 : decode cX12_readName 177 = .ok (.getfield 70, 3) := by decide +kernel
theorem dX12_readName_180 : decode cX12_readName 180 = .ok (.iconst 1, 1) := by decide +kernel
theorem dX12_readName_181 : decode cX12_readName 181 = .ok (.iadd, 1) := by decide +kernel
theorem dX12_readName_182 : decode cX12_readName 182 = .ok (.putfield 70, 3) := by decide +kernel
theorem dX12_readName_185 : decode cX12_readName 185 = .ok (.iload_n 2, 1) := by decide +kernel
theorem dX12_readName_186 : decode cX12_readName 186 = .ok (.iload 4, 2) := by decide +kernel
theorem dX12_readName_188 : decode cX12_readName 188 = .ok (.ifCond .eq 7, 3) := by decide +kernel
theorem dX12_readName_191 : decode cX12_readName 191 = .ok (.iconst 2, 1) := by decide +kernel
theorem dX12_readName_192 : decode cX12_readName 192 = .ok (.goto 4, 3) := by decide +kernel
theorem dX12_readName_195 : decode cX12_readName 195 = .ok (.iconst 1, 1) := by decide +kernel
theorem dX12_readName_196 : decode cX12_readName 196 = .ok (.iadd, 1) := by decide +kernel
theorem dX12_readName_197 : decode cX12_readName 197 = .ok (.istore_n 2, 1) := by decide +kernel
theorem dX12_readName_198 : decode cX12_readName 198 = .ok (.goto (-171), 3) := by decide +kernel
theorem dX12_readName_201 : decode cX12_readName 201 = .ok (.iload_n 3, 1) := by decide +kernel
theorem dX12_readName_202 : decode cX12_readName 202 = .ok (.ireturn, 1) := by decide +kernel
theorem dX12_nameAt_0 : decode cX12_nameAt 0 = .ok (.bipush 7, 2) := by decide +kernel
theorem dX12_nameAt_2 : decode cX12_nameAt 2 = .ok (.iload_n 0, 1) := by decide +kernel
theorem dX12_nameAt_3 : decode cX12_nameAt 3 = .ok (.bipush 9, 2) := by decide +kernel
theorem dX12_nameAt_5 : decode cX12_nameAt 5 = .ok (.imul, 1) := by decide +kernel
theorem dX12_nameAt_6 : decode cX12_nameAt 6 = .ok (.iadd, 1) := by decide +kernel
theorem dX12_nameAt_7 : decode cX12_nameAt 7 = .ok (.ireturn, 1) := by decide +kernel
theorem dX12_named_0 : decode cX12_named 0 = .ok (.iconst 0, 1) := by decide +kernel
theorem dX12_named_1 : decode cX12_named 1 = .ok (.istore_n 1, 1) := by decide +kernel
theorem dX12_named_2 : decode cX12_named 2 = .ok (.iload_n 1, 1) := by decide +kernel
theorem dX12_named_3 : decode cX12_named 3 = .ok (.aload_n 0, 1) := by decide +kernel
theorem dX12_named_4 : decode cX12_named 4 = .ok (.getfield 9, 3) := by decide +kernel
theorem dX12_named_7 : decode cX12_named 7 = .ok (.iconst 1, 1) := by decide +kernel
theorem dX12_named_8 : decode cX12_named 8 = .ok (.iaload, 1) := by decide +kernel
theorem dX12_named_9 : decode cX12_named 9 = .ok (.if_icmp .ge 85, 3) := by decide +kernel
theorem dX12_named_12 : decode cX12_named 12 = .ok (.aload_n 0, 1) := by decide +kernel
theorem dX12_named_13 : decode cX12_named 13 = .ok (.getfield 9, 3) := by decide +kernel
theorem dX12_named_16 : decode cX12_named 16 = .ok (.iload_n 1, 1) := by decide +kernel
theorem dX12_named_17 : decode cX12_named 17 = .ok (.invokestatic 81, 3) := by decide +kernel
theorem dX12_named_20 : decode cX12_named 20 = .ok (.iaload, 1) := by decide +kernel
theorem dX12_named_21 : decode cX12_named 21 = .ok (.aload_n 0, 1) := by decide +kernel
theorem dX12_named_22 : decode cX12_named 22 = .ok (.getfield 70, 3) := by decide +kernel
theorem dX12_named_25 : decode cX12_named 25 = .ok (.if_icmp .ne 7, 3) := by decide +kernel
theorem dX12_named_28 : decode cX12_named 28 = .ok (.iconst 1, 1) := by decide +kernel
theorem dX12_named_29 : decode cX12_named 29 = .ok (.goto 4, 3) := by decide +kernel
theorem dX12_named_32 : decode cX12_named 32 = .ok (.iconst 0, 1) := by decide +kernel
theorem dX12_named_33 : decode cX12_named 33 = .ok (.istore_n 2, 1) := by decide +kernel
theorem dX12_named_34 : decode cX12_named 34 = .ok (.iconst 0, 1) := by decide +kernel
theorem dX12_named_35 : decode cX12_named 35 = .ok (.istore_n 3, 1) := by decide +kernel
theorem dX12_named_36 : decode cX12_named 36 = .ok (.iload_n 3, 1) := by decide +kernel
theorem dX12_named_37 : decode cX12_named 37 = .ok (.aload_n 0, 1) := by decide +kernel
theorem dX12_named_38 : decode cX12_named 38 = .ok (.getfield 70, 3) := by decide +kernel
theorem dX12_named_41 : decode cX12_named 41 = .ok (.if_icmp .ge 41, 3) := by decide +kernel
theorem dX12_named_44 : decode cX12_named 44 = .ok (.iload_n 2, 1) := by decide +kernel
theorem dX12_named_45 : decode cX12_named 45 = .ok (.ifCond .eq 37, 3) := by decide +kernel
theorem dX12_named_48 : decode cX12_named 48 = .ok (.aload_n 0, 1) := by decide +kernel
theorem dX12_named_49 : decode cX12_named 49 = .ok (.getfield 9, 3) := by decide +kernel
theorem dX12_named_52 : decode cX12_named 52 = .ok (.iload_n 1, 1) := by decide +kernel
theorem dX12_named_53 : decode cX12_named 53 = .ok (.invokestatic 81, 3) := by decide +kernel
theorem dX12_named_56 : decode cX12_named 56 = .ok (.iconst 1, 1) := by decide +kernel
theorem dX12_named_57 : decode cX12_named 57 = .ok (.iadd, 1) := by decide +kernel
theorem dX12_named_58 : decode cX12_named 58 = .ok (.iload_n 3, 1) := by decide +kernel
theorem dX12_named_59 : decode cX12_named 59 = .ok (.iadd, 1) := by decide +kernel
theorem dX12_named_60 : decode cX12_named 60 = .ok (.iaload, 1) := by decide +kernel
theorem dX12_named_61 : decode cX12_named 61 = .ok (.aload_n 0, 1) := by decide +kernel
theorem dX12_named_62 : decode cX12_named 62 = .ok (.getfield 32, 3) := by decide +kernel
theorem dX12_named_65 : decode cX12_named 65 = .ok (.iload_n 3, 1) := by decide +kernel
theorem dX12_named_66 : decode cX12_named 66 = .ok (.iaload, 1) := by decide +kernel
theorem dX12_named_67 : decode cX12_named 67 = .ok (.if_icmp .ne 7, 3) := by decide +kernel
theorem dX12_named_70 : decode cX12_named 70 = .ok (.iconst 1, 1) := by decide +kernel
theorem dX12_named_71 : decode cX12_named 71 = .ok (.goto 4, 3) := by decide +kernel
theorem dX12_named_74 : decode cX12_named 74 = .ok (.iconst 0, 1) := by decide +kernel
theorem dX12_named_75 : decode cX12_named 75 = .ok (.istore_n 2, 1) := by decide +kernel
theorem dX12_named_76 : decode cX12_named 76 = .ok (.iinc 3 1, 3) := by decide +kernel
theorem dX12_named_79 : decode cX12_named 79 = .ok (.goto (-43), 3) := by decide +kernel
theorem dX12_named_82 : decode cX12_named 82 = .ok (.iload_n 2, 1) := by decide +kernel
theorem dX12_named_83 : decode cX12_named 83 = .ok (.ifCond .eq 5, 3) := by decide +kernel
theorem dX12_named_86 : decode cX12_named 86 = .ok (.iload_n 1, 1) := by decide +kernel
theorem dX12_named_87 : decode cX12_named 87 = .ok (.ireturn, 1) := by decide +kernel
theorem dX12_named_88 : decode cX12_named 88 = .ok (.iinc 1 1, 3) := by decide +kernel
theorem dX12_named_91 : decode cX12_named 91 = .ok (.goto (-89), 3) := by decide +kernel
theorem dX12_named_94 : decode cX12_named 94 = .ok (.iconst (-1), 1) := by decide +kernel
theorem dX12_named_95 : decode cX12_named 95 = .ok (.ireturn, 1) := by decide +kernel
theorem dX12_addParty_0 : decode cX12_addParty 0 = .ok (.aload_n 0, 1) := by decide +kernel
theorem dX12_addParty_1 : decode cX12_addParty 1 = .ok (.iconst 0, 1) := by decide +kernel
theorem dX12_addParty_2 : decode cX12_addParty 2 = .ok (.putfield 41, 3) := by decide +kernel
theorem dX12_addParty_5 : decode cX12_addParty 5 = .ok (.aload_n 0, 1) := by decide +kernel
theorem dX12_addParty_6 : decode cX12_addParty 6 = .ok (.invokevirtual 85, 3) := by decide +kernel
theorem dX12_addParty_9 : decode cX12_addParty 9 = .ok (.istore_n 1, 1) := by decide +kernel
theorem dX12_addParty_10 : decode cX12_addParty 10 = .ok (.aload_n 0, 1) := by decide +kernel
theorem dX12_addParty_11 : decode cX12_addParty 11 = .ok (.iload_n 1, 1) := by decide +kernel
theorem dX12_addParty_12 : decode cX12_addParty 12 = .ok (.ifCond .ne 7, 3) := by decide +kernel
theorem dX12_addParty_15 : decode cX12_addParty 15 = .ok (.iconst 1, 1) := by decide +kernel
theorem dX12_addParty_16 : decode cX12_addParty 16 = .ok (.goto 4, 3) := by decide +kernel
theorem dX12_addParty_19 : decode cX12_addParty 19 = .ok (.iconst 0, 1) := by decide +kernel
theorem dX12_addParty_20 : decode cX12_addParty 20 = .ok (.iconst 1, 1) := by decide +kernel
theorem dX12_addParty_21 : decode cX12_addParty 21 = .ok (.invokevirtual 55, 3) := by decide +kernel
theorem dX12_addParty_24 : decode cX12_addParty 24 = .ok (.ifCond .ne 35, 3) := by decide +kernel
theorem dX12_addParty_27 : decode cX12_addParty 27 = .ok (.aload_n 0, 1) := by decide +kernel
theorem dX12_addParty_28 : decode cX12_addParty 28 = .ok (.aload_n 0, 1) := by decide +kernel
theorem dX12_addParty_29 : decode cX12_addParty 29 = .ok (.getfield 9, 3) := by decide +kernel
theorem dX12_addParty_32 : decode cX12_addParty 32 = .ok (.iconst 1, 1) := by decide +kernel
theorem dX12_addParty_33 : decode cX12_addParty 33 = .ok (.iaload, 1) := by decide +kernel
theorem dX12_addParty_34 : decode cX12_addParty 34 = .ok (.bipush 8, 2) := by decide +kernel
theorem dX12_addParty_36 : decode cX12_addParty 36 = .ok (.if_icmp .eq 11, 3) := by decide +kernel
theorem dX12_addParty_39 : decode cX12_addParty 39 = .ok (.aload_n 0, 1) := by decide +kernel
theorem dX12_addParty_40 : decode cX12_addParty 40 = .ok (.invokevirtual 89, 3) := by decide +kernel
theorem dX12_addParty_43 : decode cX12_addParty 43 = .ok (.iconst (-1), 1) := by decide +kernel
theorem dX12_addParty_44 : decode cX12_addParty 44 = .ok (.if_icmp .eq 7, 3) := by decide +kernel
theorem dX12_addParty_47 : decode cX12_addParty 47 = .ok (.iconst 1, 1) := by decide +kernel
theorem dX12_addParty_48 : decode cX12_addParty 48 = .ok (.goto 4, 3) := by decide +kernel
theorem dX12_addParty_51 : decode cX12_addParty 51 = .ok (.iconst 0, 1) := by decide +kernel
theorem dX12_addParty_52 : decode cX12_addParty 52 = .ok (.iconst 2, 1) := by decide +kernel
theorem dX12_addParty_53 : decode cX12_addParty 53 = .ok (.invokevirtual 55, 3) := by decide +kernel
theorem dX12_addParty_56 : decode cX12_addParty 56 = .ok (.ifCond .eq 5, 3) := by decide +kernel
theorem dX12_addParty_59 : decode cX12_addParty 59 = .ok (.iconst 0, 1) := by decide +kernel
theorem dX12_addParty_60 : decode cX12_addParty 60 = .ok (.ireturn, 1) := by decide +kernel
theorem dX12_addParty_61 : decode cX12_addParty 61 = .ok (.aload_n 0, 1) := by decide +kernel
theorem dX12_addParty_62 : decode cX12_addParty 62 = .ok (.invokevirtual 93, 3) := by decide +kernel
theorem dX12_addParty_65 : decode cX12_addParty 65 = .ok (.aload_n 0, 1) := by decide +kernel
theorem dX12_addParty_66 : decode cX12_addParty 66 = .ok (.getfield 9, 3) := by decide +kernel
theorem dX12_addParty_69 : decode cX12_addParty 69 = .ok (.iconst 1, 1) := by decide +kernel
theorem dX12_addParty_70 : decode cX12_addParty 70 = .ok (.iaload, 1) := by decide +kernel
theorem dX12_addParty_71 : decode cX12_addParty 71 = .ok (.istore_n 2, 1) := by decide +kernel
theorem dX12_addParty_72 : decode cX12_addParty 72 = .ok (.aload_n 0, 1) := by decide +kernel
theorem dX12_addParty_73 : decode cX12_addParty 73 = .ok (.getfield 9, 3) := by decide +kernel
theorem dX12_addParty_76 : decode cX12_addParty 76 = .ok (.iload_n 2, 1) := by decide +kernel
theorem dX12_addParty_77 : decode cX12_addParty 77 = .ok (.invokestatic 81, 3) := by decide +kernel
theorem dX12_addParty_80 : decode cX12_addParty 80 = .ok (.aload_n 0, 1) := by decide +kernel
theorem dX12_addParty_81 : decode cX12_addParty 81 = .ok (.getfield 70, 3) := by decide +kernel
theorem dX12_addParty_84 : decode cX12_addParty 84 = .ok (.iastore, 1) := by decide +kernel
theorem dX12_addParty_85 : decode cX12_addParty 85 = .ok (.iconst 0, 1) := by decide +kernel
theorem dX12_addParty_86 : decode cX12_addParty 86 = .ok (.istore_n 3, 1) := by decide +kernel
theorem dX12_addParty_87 : decode cX12_addParty 87 = .ok (.iload_n 3, 1) := by decide +kernel
theorem dX12_addParty_88 : decode cX12_addParty 88 = .ok (.aload_n 0, 1) := by decide +kernel
theorem dX12_addParty_89 : decode cX12_addParty 89 = .ok (.getfield 70, 3) := by decide +kernel
theorem dX12_addParty_92 : decode cX12_addParty 92 = .ok (.if_icmp .ge 28, 3) := by decide +kernel
theorem dX12_addParty_95 : decode cX12_addParty 95 = .ok (.aload_n 0, 1) := by decide +kernel
theorem dX12_addParty_96 : decode cX12_addParty 96 = .ok (.getfield 9, 3) := by decide +kernel
theorem dX12_addParty_99 : decode cX12_addParty 99 = .ok (.iload_n 2, 1) := by decide +kernel
theorem dX12_addParty_100 : decode cX12_addParty 100 = .ok (.invokestatic 81, 3) := by decide +kernel
theorem dX12_addParty_103 : decode cX12_addParty 103 = .ok (.iconst 1, 1) := by decide +kernel
theorem dX12_addParty_104 : decode cX12_addParty 104 = .ok (.iadd, 1) := by decide +kernel
theorem dX12_addParty_105 : decode cX12_addParty 105 = .ok (.iload_n 3, 1) := by decide +kernel
theorem dX12_addParty_106 : decode cX12_addParty 106 = .ok (.iadd, 1) := by decide +kernel
theorem dX12_addParty_107 : decode cX12_addParty 107 = .ok (.aload_n 0, 1) := by decide +kernel
theorem dX12_addParty_108 : decode cX12_addParty 108 = .ok (.getfield 32, 3) := by decide +kernel
theorem dX12_addParty_111 : decode cX12_addParty 111 = .ok (.iload_n 3, 1) := by decide +kernel
theorem dX12_addParty_112 : decode cX12_addParty 112 = .ok (.iaload, 1) := by decide +kernel
theorem dX12_addParty_113 : decode cX12_addParty 113 = .ok (.iastore, 1) := by decide +kernel
theorem dX12_addParty_114 : decode cX12_addParty 114 = .ok (.iinc 3 1, 3) := by decide +kernel
theorem dX12_addParty_117 : decode cX12_addParty 117 = .ok (.goto (-30), 3) := by decide +kernel
theorem dX12_addParty_120 : decode cX12_addParty 120 = .ok (.aload_n 0, 1) := by decide +kernel
theorem dX12_addParty_121 : decode cX12_addParty 121 = .ok (.getfield 9, 3) := by decide +kernel
theorem dX12_addParty_124 : decode cX12_addParty 124 = .ok (.iconst 1, 1) := by decide +kernel
theorem dX12_addParty_125 : decode cX12_addParty 125 = .ok (.dup2, 1) := by decide +kernel
theorem dX12_addParty_126 : decode cX12_addParty 126 = .ok (.iaload, 1) := by decide +kernel
theorem dX12_addParty_127 : decode cX12_addParty 127 = .ok (.iconst 1, 1) := by decide +kernel
theorem dX12_addParty_128 : decode cX12_addParty 128 = .ok (.iadd, 1) := by decide +kernel
theorem dX12_addParty_129 : decode cX12_addParty 129 = .ok (.iastore, 1) := by decide +kernel
theorem dX12_addParty_130 : decode cX12_addParty 130 = .ok (.iload_n 2, 1) := by decide +kernel
theorem dX12_addParty_131 : decode cX12_addParty 131 = .ok (.ireturn, 1) := by decide +kernel
theorem dX12_findParty_0 : decode cX12_findParty 0 = .ok (.aload_n 0, 1) := by decide +kernel
theorem dX12_findParty_1 : decode cX12_findParty 1 = .ok (.iconst 0, 1) := by decide +kernel
theorem dX12_findParty_2 : decode cX12_findParty 2 = .ok (.putfield 41, 3) := by decide +kernel
theorem dX12_findParty_5 : decode cX12_findParty 5 = .ok (.aload_n 0, 1) := by decide +kernel
theorem dX12_findParty_6 : decode cX12_findParty 6 = .ok (.invokevirtual 85, 3) := by decide +kernel
theorem dX12_findParty_9 : decode cX12_findParty 9 = .ok (.ifCond .eq 10, 3) := by decide +kernel
theorem dX12_findParty_12 : decode cX12_findParty 12 = .ok (.aload_n 0, 1) := by decide +kernel
theorem dX12_findParty_13 : decode cX12_findParty 13 = .ok (.invokevirtual 89, 3) := by decide +kernel
theorem dX12_findParty_16 : decode cX12_findParty 16 = .ok (.goto 4, 3) := by decide +kernel
theorem dX12_findParty_19 : decode cX12_findParty 19 = .ok (.iconst (-1), 1) := by decide +kernel
theorem dX12_findParty_20 : decode cX12_findParty 20 = .ok (.istore_n 1, 1) := by decide +kernel
theorem dX12_findParty_21 : decode cX12_findParty 21 = .ok (.aload_n 0, 1) := by decide +kernel
theorem dX12_findParty_22 : decode cX12_findParty 22 = .ok (.iload_n 1, 1) := by decide +kernel
theorem dX12_findParty_23 : decode cX12_findParty 23 = .ok (.iconst (-1), 1) := by decide +kernel
theorem dX12_findParty_24 : decode cX12_findParty 24 = .ok (.if_icmp .ne 7, 3) := by decide +kernel
theorem dX12_findParty_27 : decode cX12_findParty 27 = .ok (.iconst 1, 1) := by decide +kernel
theorem dX12_findParty_28 : decode cX12_findParty 28 = .ok (.goto 4, 3) := by decide +kernel
theorem dX12_findParty_31 : decode cX12_findParty 31 = .ok (.iconst 0, 1) := by decide +kernel
theorem dX12_findParty_32 : decode cX12_findParty 32 = .ok (.iconst 1, 1) := by decide +kernel
theorem dX12_findParty_33 : decode cX12_findParty 33 = .ok (.invokevirtual 55, 3) := by decide +kernel
theorem dX12_findParty_36 : decode cX12_findParty 36 = .ok (.ifCond .eq 7, 3) := by decide +kernel
theorem dX12_findParty_39 : decode cX12_findParty 39 = .ok (.iconst 0, 1) := by decide +kernel
theorem dX12_findParty_40 : decode cX12_findParty 40 = .ok (.goto 4, 3) := by decide +kernel
theorem dX12_findParty_43 : decode cX12_findParty 43 = .ok (.iload_n 1, 1) := by decide +kernel
theorem dX12_findParty_44 : decode cX12_findParty 44 = .ok (.ireturn, 1) := by decide +kernel
theorem dX12_parties_0 : decode cX12_parties 0 = .ok (.aload_n 0, 1) := by decide +kernel
theorem dX12_parties_1 : decode cX12_parties 1 = .ok (.iconst 0, 1) := by decide +kernel
theorem dX12_parties_2 : decode cX12_parties 2 = .ok (.putfield 41, 3) := by decide +kernel
theorem dX12_parties_5 : decode cX12_parties 5 = .ok (.aload_n 0, 1) := by decide +kernel
theorem dX12_parties_6 : decode cX12_parties 6 = .ok (.getfield 9, 3) := by decide +kernel
theorem dX12_parties_9 : decode cX12_parties 9 = .ok (.iconst 1, 1) := by decide +kernel
theorem dX12_parties_10 : decode cX12_parties 10 = .ok (.iaload, 1) := by decide +kernel
theorem dX12_parties_11 : decode cX12_parties 11 = .ok (.ireturn, 1) := by decide +kernel
theorem dX12_noParty_0 : decode cX12_noParty 0 = .ok (.iload_n 1, 1) := by decide +kernel
theorem dX12_noParty_1 : decode cX12_noParty 1 = .ok (.iconst 0, 1) := by decide +kernel
theorem dX12_noParty_2 : decode cX12_noParty 2 = .ok (.aload_n 0, 1) := by decide +kernel
theorem dX12_noParty_3 : decode cX12_noParty 3 = .ok (.getfield 9, 3) := by decide +kernel
theorem dX12_noParty_6 : decode cX12_noParty 6 = .ok (.iconst 1, 1) := by decide +kernel
theorem dX12_noParty_7 : decode cX12_noParty 7 = .ok (.iaload, 1) := by decide +kernel
theorem dX12_noParty_8 : decode cX12_noParty 8 = .ok (.iconst 1, 1) := by decide +kernel
theorem dX12_noParty_9 : decode cX12_noParty 9 = .ok (.isub, 1) := by decide +kernel
theorem dX12_noParty_10 : decode cX12_noParty 10 = .ok (.invokestatic 64, 3) := by decide +kernel
theorem dX12_noParty_13 : decode cX12_noParty 13 = .ok (.ifCond .ne 7, 3) := by decide +kernel
theorem dX12_noParty_16 : decode cX12_noParty 16 = .ok (.iconst 1, 1) := by decide +kernel
theorem dX12_noParty_17 : decode cX12_noParty 17 = .ok (.goto 4, 3) := by decide +kernel
theorem dX12_noParty_20 : decode cX12_noParty 20 = .ok (.iconst 0, 1) := by decide +kernel
theorem dX12_noParty_21 : decode cX12_noParty 21 = .ok (.ireturn, 1) := by decide +kernel
theorem dX12_nameLength_0 : decode cX12_nameLength 0 = .ok (.aload_n 0, 1) := by decide +kernel
theorem dX12_nameLength_1 : decode cX12_nameLength 1 = .ok (.iconst 0, 1) := by decide +kernel
theorem dX12_nameLength_2 : decode cX12_nameLength 2 = .ok (.putfield 41, 3) := by decide +kernel
theorem dX12_nameLength_5 : decode cX12_nameLength 5 = .ok (.aload_n 0, 1) := by decide +kernel
theorem dX12_nameLength_6 : decode cX12_nameLength 6 = .ok (.aload_n 0, 1) := by decide +kernel
theorem dX12_nameLength_7 : decode cX12_nameLength 7 = .ok (.iload_n 1, 1) := by decide +kernel
theorem dX12_nameLength_8 : decode cX12_nameLength 8 = .ok (.invokevirtual 96, 3) := by decide +kernel
theorem dX12_nameLength_11 : decode cX12_nameLength 11 = .ok (.iconst 1, 1) := by decide +kernel
theorem dX12_nameLength_12 : decode cX12_nameLength 12 = .ok (.invokevirtual 55, 3) := by decide +kernel
theorem dX12_nameLength_15 : decode cX12_nameLength 15 = .ok (.ifCond .eq 7, 3) := by decide +kernel
theorem dX12_nameLength_18 : decode cX12_nameLength 18 = .ok (.iconst 0, 1) := by decide +kernel
theorem dX12_nameLength_19 : decode cX12_nameLength 19 = .ok (.goto 12, 3) := by decide +kernel
theorem dX12_nameLength_22 : decode cX12_nameLength 22 = .ok (.aload_n 0, 1) := by decide +kernel
theorem dX12_nameLength_23 : decode cX12_nameLength 23 = .ok (.getfield 9, 3) := by decide +kernel
theorem dX12_nameLength_26 : decode cX12_nameLength 26 = .ok (.iload_n 1, 1) := by decide +kernel
theorem dX12_nameLength_27 : decode cX12_nameLength 27 = .ok (.invokestatic 81, 3) := by decide +kernel
theorem dX12_nameLength_30 : decode cX12_nameLength 30 = .ok (.iaload, 1) := by decide +kernel
theorem dX12_nameLength_31 : decode cX12_nameLength 31 = .ok (.ireturn, 1) := by decide +kernel
theorem dX12_nameCodePoint_0 : decode cX12_nameCodePoint 0 = .ok (.aload_n 0, 1) := by decide +kernel
theorem dX12_nameCodePoint_1 : decode cX12_nameCodePoint 1 = .ok (.iconst 0, 1) := by decide +kernel
theorem dX12_nameCodePoint_2 : decode cX12_nameCodePoint 2 = .ok (.putfield 41, 3) := by decide +kernel
theorem dX12_nameCodePoint_5 : decode cX12_nameCodePoint 5 = .ok (.aload_n 0, 1) := by decide +kernel
theorem dX12_nameCodePoint_6 : decode cX12_nameCodePoint 6 = .ok (.aload_n 0, 1) := by decide +kernel
theorem dX12_nameCodePoint_7 : decode cX12_nameCodePoint 7 = .ok (.iload_n 1, 1) := by decide +kernel
theorem dX12_nameCodePoint_8 : decode cX12_nameCodePoint 8 = .ok (.invokevirtual 96, 3) := by decide +kernel
theorem dX12_nameCodePoint_11 : decode cX12_nameCodePoint 11 = .ok (.iconst 1, 1) := by decide +kernel
theorem dX12_nameCodePoint_12 : decode cX12_nameCodePoint 12 = .ok (.invokevirtual 55, 3) := by decide +kernel
theorem dX12_nameCodePoint_15 : decode cX12_nameCodePoint 15 = .ok (.ifCond .ne 35, 3) := by decide +kernel
theorem dX12_nameCodePoint_18 : decode cX12_nameCodePoint 18 = .ok (.aload_n 0, 1) := by decide +kernel
theorem dX12_nameCodePoint_19 : decode cX12_nameCodePoint 19 = .ok (.iload_n 2, 1) := by decide +kernel
theorem dX12_nameCodePoint_20 : decode cX12_nameCodePoint 20 = .ok (.iconst 0, 1) := by decide +kernel
theorem dX12_nameCodePoint_21 : decode cX12_nameCodePoint 21 = .ok (.aload_n 0, 1) := by decide +kernel
theorem dX12_nameCodePoint_22 : decode cX12_nameCodePoint 22 = .ok (.getfield 9, 3) := by decide +kernel
theorem dX12_nameCodePoint_25 : decode cX12_nameCodePoint 25 = .ok (.iload_n 1, 1) := by decide +kernel
theorem dX12_nameCodePoint_26 : decode cX12_nameCodePoint 26 = .ok (.invokestatic 81, 3) := by decide +kernel
theorem dX12_nameCodePoint_29 : decode cX12_nameCodePoint 29 = .ok (.iaload, 1) := by decide +kernel
theorem dX12_nameCodePoint_30 : decode cX12_nameCodePoint 30 = .ok (.iconst 1, 1) := by decide +kernel
theorem dX12_nameCodePoint_31 : decode cX12_nameCodePoint 31 = .ok (.isub, 1) := by decide +kernel
theorem dX12_nameCodePoint_32 : decode cX12_nameCodePoint 32 = .ok (.invokestatic 64, 3) := by decide +kernel
theorem dX12_nameCodePoint_35 : decode cX12_nameCodePoint 35 = .ok (.ifCond .ne 7, 3) := by decide +kernel
theorem dX12_nameCodePoint_38 : decode cX12_nameCodePoint 38 = .ok (.iconst 1, 1) := by decide +kernel
theorem dX12_nameCodePoint_39 : decode cX12_nameCodePoint 39 = .ok (.goto 4, 3) := by decide +kernel
theorem dX12_nameCodePoint_42 : decode cX12_nameCodePoint 42 = .ok (.iconst 0, 1) := by decide +kernel
theorem dX12_nameCodePoint_43 : decode cX12_nameCodePoint 43 = .ok (.iconst 1, 1) := by decide +kernel
theorem dX12_nameCodePoint_44 : decode cX12_nameCodePoint 44 = .ok (.invokevirtual 55, 3) := by decide +kernel
theorem dX12_nameCodePoint_47 : decode cX12_nameCodePoint 47 = .ok (.ifCond .eq 7, 3) := by decide +kernel
theorem dX12_nameCodePoint_50 : decode cX12_nameCodePoint 50 = .ok (.iconst 0, 1) := by decide +kernel
theorem dX12_nameCodePoint_51 : decode cX12_nameCodePoint 51 = .ok (.goto 16, 3) := by decide +kernel
theorem dX12_nameCodePoint_54 : decode cX12_nameCodePoint 54 = .ok (.aload_n 0, 1) := by decide +kernel
theorem dX12_nameCodePoint_55 : decode cX12_nameCodePoint 55 = .ok (.getfield 9, 3) := by decide +kernel
theorem dX12_nameCodePoint_58 : decode cX12_nameCodePoint 58 = .ok (.iload_n 1, 1) := by decide +kernel
theorem dX12_nameCodePoint_59 : decode cX12_nameCodePoint 59 = .ok (.invokestatic 81, 3) := by decide +kernel
theorem dX12_nameCodePoint_62 : decode cX12_nameCodePoint 62 = .ok (.iconst 1, 1) := by decide +kernel
theorem dX12_nameCodePoint_63 : decode cX12_nameCodePoint 63 = .ok (.iadd, 1) := by decide +kernel
theorem dX12_nameCodePoint_64 : decode cX12_nameCodePoint 64 = .ok (.iload_n 2, 1) := by decide +kernel
theorem dX12_nameCodePoint_65 : decode cX12_nameCodePoint 65 = .ok (.iadd, 1) := by decide +kernel
theorem dX12_nameCodePoint_66 : decode cX12_nameCodePoint 66 = .ok (.iaload, 1) := by decide +kernel
theorem dX12_nameCodePoint_67 : decode cX12_nameCodePoint 67 = .ok (.ireturn, 1) := by decide +kernel
theorem dX12_put_0 : decode cX12_put 0 = .ok (.aload_n 0, 1) := by decide +kernel
theorem dX12_put_1 : decode cX12_put 1 = .ok (.getfield 22, 3) := by decide +kernel
theorem dX12_put_4 : decode cX12_put 4 = .ok (.aload_n 0, 1) := by decide +kernel
theorem dX12_put_5 : decode cX12_put 5 = .ok (.getfield 99, 3) := by decide +kernel
theorem dX12_put_8 : decode cX12_put 8 = .ok (.iload_n 1, 1) := by decide +kernel
theorem dX12_put_9 : decode cX12_put 9 = .ok (.iastore, 1) := by decide +kernel
theorem dX12_put_10 : decode cX12_put 10 = .ok (.aload_n 0, 1) := by decide +kernel
theorem dX12_put_11 : decode cX12_put 11 = .ok (.dup, 1) := by decide +kernel
theorem dX12_put_12 : decode cX12_put 12 = .ok (.getfield 99, 3) := by decide +kernel
theorem dX12_put_15 : decode cX12_put 15 = .ok (.iconst 1, 1) := by decide +kernel
theorem dX12_put_16 : decode cX12_put 16 = .ok (.iadd, 1) := by decide +kernel
theorem dX12_put_17 : decode cX12_put 17 = .ok (.putfield 99, 3) := by decide +kernel
theorem dX12_put_20 : decode cX12_put 20 = .ok (.return_, 1) := by decide +kernel
theorem dX12_writeNameReversed_0 : decode cX12_writeNameReversed 0 = .ok (.aload_n 0, 1) := by decide +kernel
theorem dX12_writeNameReversed_1 : decode cX12_writeNameReversed 1 = .ok (.iconst 0, 1) := by decide +kernel
theorem dX12_writeNameReversed_2 : decode cX12_writeNameReversed 2 = .ok (.putfield 41, 3) := by decide +kernel
theorem dX12_writeNameReversed_5 : decode cX12_writeNameReversed 5 = .ok (.aload_n 0, 1) := by decide +kernel
theorem dX12_writeNameReversed_6 : decode cX12_writeNameReversed 6 = .ok (.aload_n 0, 1) := by decide +kernel
theorem dX12_writeNameReversed_7 : decode cX12_writeNameReversed 7 = .ok (.iload_n 1, 1) := by decide +kernel
theorem dX12_writeNameReversed_8 : decode cX12_writeNameReversed 8 = .ok (.invokevirtual 96, 3) := by decide +kernel
theorem dX12_writeNameReversed_11 : decode cX12_writeNameReversed 11 = .ok (.iconst 1, 1) := by decide +kernel
theorem dX12_writeNameReversed_12 : decode cX12_writeNameReversed 12 = .ok (.invokevirtual 55, 3) := by decide +kernel
theorem dX12_writeNameReversed_15 : decode cX12_writeNameReversed 15 = .ok (.ifCond .eq 5, 3) := by decide +kernel
theorem dX12_writeNameReversed_18 : decode cX12_writeNameReversed 18 = .ok (.iconst 0, 1) := by decide +kernel
theorem dX12_writeNameReversed_19 : decode cX12_writeNameReversed 19 = .ok (.ireturn, 1) := by decide +kernel
theorem dX12_writeNameReversed_20 : decode cX12_writeNameReversed 20 = .ok (.aload_n 0, 1) := by decide +kernel
theorem dX12_writeNameReversed_21 : decode cX12_writeNameReversed 21 = .ok (.iconst 0, 1) := by decide +kernel
theorem dX12_writeNameReversed_22 : decode cX12_writeNameReversed 22 = .ok (.putfield 99, 3) := by decide +kernel
theorem dX12_writeNameReversed_25 : decode cX12_writeNameReversed 25 = .ok (.aload_n 0, 1) := by decide +kernel
theorem dX12_writeNameReversed_26 : decode cX12_writeNameReversed 26 = .ok (.getfield 9, 3) := by decide +kernel
theorem dX12_writeNameReversed_29 : decode cX12_writeNameReversed 29 = .ok (.iload_n 1, 1) := by decide +kernel
theorem dX12_writeNameReversed_30 : decode cX12_writeNameReversed 30 = .ok (.invokestatic 81, 3) := by decide +kernel
theorem dX12_writeNameReversed_33 : decode cX12_writeNameReversed 33 = .ok (.iaload, 1) := by decide +kernel
theorem dX12_writeNameReversed_34 : decode cX12_writeNameReversed 34 = .ok (.istore_n 2, 1) := by decide +kernel
theorem dX12_writeNameReversed_35 : decode cX12_writeNameReversed 35 = .ok (.iload_n 2, 1) := by decide +kernel
theorem dX12_writeNameReversed_36 : decode cX12_writeNameReversed 36 = .ok (.ifCond .le 65, 3) := by decide +kernel
theorem dX12_writeNameReversed_39 : decode cX12_writeNameReversed 39 = .ok (.aload_n 0, 1) := by decide +kernel
theorem dX12_writeNameReversed_40 : decode cX12_writeNameReversed 40 = .ok (.getfield 9, 3) := by decide +kernel
theorem dX12_writeNameReversed_43 : decode cX12_writeNameReversed 43 = .ok (.iload_n 1, 1) := by decide +kernel
theorem dX12_writeNameReversed_44 : decode cX12_writeNameReversed 44 = .ok (.invokestatic 81, 3) := by decide +kernel
theorem dX12_writeNameReversed_47 : decode cX12_writeNameReversed 47 = .ok (.iload_n 2, 1) := by decide +kernel
theorem dX12_writeNameReversed_48 : decode cX12_writeNameReversed 48 = .ok (.iadd, 1) := by decide +kernel
theorem dX12_writeNameReversed_49 : decode cX12_writeNameReversed 49 = .ok (.iaload, 1) := by decide +kernel
theorem dX12_writeNameReversed_50 : decode cX12_writeNameReversed 50 = .ok (.istore_n 3, 1) := by decide +kernel
theorem dX12_writeNameReversed_51 : decode cX12_writeNameReversed 51 = .ok (.iload_n 3, 1) := by decide +kernel
theorem dX12_writeNameReversed_52 : decode cX12_writeNameReversed 52 = .ok (.ldc 80, 2) := by decide +kernel
theorem dX12_writeNameReversed_54 : decode cX12_writeNameReversed 54 = .ok (.if_icmp .lt 36, 3) := by decide +kernel
theorem dX12_writeNameReversed_57 : decode cX12_writeNameReversed 57 = .ok (.aload_n 0, 1) := by decide +kernel
theorem dX12_writeNameReversed_58 : decode cX12_writeNameReversed 58 = .ok (.ldc 62, 2) := by decide +kernel
theorem dX12_writeNameReversed_60 : decode cX12_writeNameReversed 60 = .ok (.iload_n 3, 1) := by decide +kernel
theorem dX12_writeNameReversed_61 : decode cX12_writeNameReversed 61 = .ok (.ldc 80, 2) := by decide +kernel
theorem dX12_writeNameReversed_63 : decode cX12_writeNameReversed 63 = .ok (.isub, 1) := by decide +kernel
theorem dX12_writeNameReversed_64 : decode cX12_writeNameReversed 64 = .ok (.sipush 1024, 3) := by decide +kernel
theorem dX12_writeNameReversed_67 : decode cX12_writeNameReversed 67 = .ok (.idiv, 1) := by decide +kernel
theorem dX12_writeNameReversed_68 : decode cX12_writeNameReversed 68 = .ok (.iadd, 1) := by decide +kernel
theorem dX12_writeNameReversed_69 : decode cX12_writeNameReversed 69 = .ok (.invokevirtual 102, 3) := by decide +kernel
theorem dX12_writeNameReversed_72 : decode cX12_writeNameReversed 72 = .ok (.aload_n 0, 1) := by decide +kernel
theorem dX12_writeNameReversed_73 : decode cX12_writeNameReversed 73 = .ok (.ldc 68, 2) := by decide +kernel
theorem dX12_writeNameReversed_75 : decode cX12_writeNameReversed 75 = .ok (.iload_n 3, 1) := by decide +kernel
theorem dX12_writeNameReversed_76 : decode cX12_writeNameReversed 76 = .ok (.ldc 80, 2) := by decide +kernel
theorem dX12_writeNameReversed_78 : decode cX12_writeNameReversed 78 = .ok (.isub, 1) := by decide +kernel
theorem dX12_writeNameReversed_79 : decode cX12_writeNameReversed 79 = .ok (.sipush 1024, 3) := by decide +kernel
theorem dX12_writeNameReversed_82 : decode cX12_writeNameReversed 82 = .ok (.irem, 1) := by decide +kernel
theorem dX12_writeNameReversed_83 : decode cX12_writeNameReversed 83 = .ok (.iadd, 1) := by decide +kernel
theorem dX12_writeNameReversed_84 : decode cX12_writeNameReversed 84 = .ok (.invokevirtual 102, 3) := by decide +kernel
theorem dX12_writeNameReversed_87 : decode cX12_writeNameReversed 87 = .ok (.goto 8, 3) := by decide +kernel
theorem dX12_writeNameReversed_90 : decode cX12_writeNameReversed 90 = .ok (.aload_n 0, 1) := by decide +kernel
theorem dX12_writeNameReversed_91 : decode cX12_writeNameReversed 91 = .ok (.iload_n 3, 1) := by decide +kernel
theorem dX12_writeNameReversed_92 : decode cX12_writeNameReversed 92 = .ok (.invokevirtual 102, 3) := by decide +kernel
theorem dX12_writeNameReversed_95 : decode cX12_writeNameReversed 95 = .ok (.iinc 2 (-1), 3) := by decide +kernel
theorem dX12_writeNameReversed_98 : decode cX12_writeNameReversed 98 = .ok (.goto (-63), 3) := by decide +kernel
theorem dX12_writeNameReversed_101 : decode cX12_writeNameReversed 101 = .ok (.aload_n 0, 1) := by decide +kernel
theorem dX12_writeNameReversed_102 : decode cX12_writeNameReversed 102 = .ok (.getfield 99, 3) := by decide +kernel
theorem dX12_writeNameReversed_105 : decode cX12_writeNameReversed 105 = .ok (.ireturn, 1) := by decide +kernel
theorem dX12_today_0 : decode cX12_today 0 = .ok (.aload_n 0, 1) := by decide +kernel
theorem dX12_today_1 : decode cX12_today 1 = .ok (.iconst 0, 1) := by decide +kernel
theorem dX12_today_2 : decode cX12_today 2 = .ok (.putfield 41, 3) := by decide +kernel
theorem dX12_today_5 : decode cX12_today 5 = .ok (.aload_n 0, 1) := by decide +kernel
theorem dX12_today_6 : decode cX12_today 6 = .ok (.getfield 9, 3) := by decide +kernel
theorem dX12_today_9 : decode cX12_today 9 = .ok (.iconst 0, 1) := by decide +kernel
theorem dX12_today_10 : decode cX12_today 10 = .ok (.iaload, 1) := by decide +kernel
theorem dX12_today_11 : decode cX12_today 11 = .ok (.ireturn, 1) := by decide +kernel
theorem dX12_advance_0 : decode cX12_advance 0 = .ok (.aload_n 0, 1) := by decide +kernel
theorem dX12_advance_1 : decode cX12_advance 1 = .ok (.iconst 0, 1) := by decide +kernel
theorem dX12_advance_2 : decode cX12_advance 2 = .ok (.putfield 41, 3) := by decide +kernel
theorem dX12_advance_5 : decode cX12_advance 5 = .ok (.aload_n 0, 1) := by decide +kernel
theorem dX12_advance_6 : decode cX12_advance 6 = .ok (.iload_n 1, 1) := by decide +kernel
theorem dX12_advance_7 : decode cX12_advance 7 = .ok (.iconst 1, 1) := by decide +kernel
theorem dX12_advance_8 : decode cX12_advance 8 = .ok (.sipush 400, 3) := by decide +kernel
theorem dX12_advance_11 : decode cX12_advance 11 = .ok (.invokestatic 64, 3) := by decide +kernel
theorem dX12_advance_14 : decode cX12_advance 14 = .ok (.ifCond .ne 7, 3) := by decide +kernel
theorem dX12_advance_17 : decode cX12_advance 17 = .ok (.iconst 1, 1) := by decide +kernel
theorem dX12_advance_18 : decode cX12_advance 18 = .ok (.goto 4, 3) := by decide +kernel
theorem dX12_advance_21 : decode cX12_advance 21 = .ok (.iconst 0, 1) := by decide +kernel
theorem dX12_advance_22 : decode cX12_advance 22 = .ok (.iconst 1, 1) := by decide +kernel
theorem dX12_advance_23 : decode cX12_advance 23 = .ok (.invokevirtual 55, 3) := by decide +kernel
theorem dX12_advance_26 : decode cX12_advance 26 = .ok (.ifCond .ne 30, 3) := by decide +kernel
theorem dX12_advance_29 : decode cX12_advance 29 = .ok (.aload_n 0, 1) := by decide +kernel
theorem dX12_advance_30 : decode cX12_advance 30 = .ok (.aload_n 0, 1) := by decide +kernel
theorem dX12_advance_31 : decode cX12_advance 31 = .ok (.getfield 9, 3) := by decide +kernel
theorem dX12_advance_34 : decode cX12_advance 34 = .ok (.iconst 0, 1) := by decide +kernel
theorem dX12_advance_35 : decode cX12_advance 35 = .ok (.iaload, 1) := by decide +kernel
theorem dX12_advance_36 : decode cX12_advance 36 = .ok (.iload_n 1, 1) := by decide +kernel
theorem dX12_advance_37 : decode cX12_advance 37 = .ok (.iadd, 1) := by decide +kernel
theorem dX12_advance_38 : decode cX12_advance 38 = .ok (.sipush 1500, 3) := by decide +kernel
theorem dX12_advance_41 : decode cX12_advance 41 = .ok (.if_icmp .le 7, 3) := by decide +kernel
theorem dX12_advance_44 : decode cX12_advance 44 = .ok (.iconst 1, 1) := by decide +kernel
theorem dX12_advance_45 : decode cX12_advance 45 = .ok (.goto 4, 3) := by decide +kernel
theorem dX12_advance_48 : decode cX12_advance 48 = .ok (.iconst 0, 1) := by decide +kernel
theorem dX12_advance_49 : decode cX12_advance 49 = .ok (.iconst 2, 1) := by decide +kernel
theorem dX12_advance_50 : decode cX12_advance 50 = .ok (.invokevirtual 55, 3) := by decide +kernel
theorem dX12_advance_53 : decode cX12_advance 53 = .ok (.ifCond .eq 5, 3) := by decide +kernel
theorem dX12_advance_56 : decode cX12_advance 56 = .ok (.iconst 0, 1) := by decide +kernel
theorem dX12_advance_57 : decode cX12_advance 57 = .ok (.ireturn, 1) := by decide +kernel
theorem dX12_advance_58 : decode cX12_advance 58 = .ok (.aload_n 0, 1) := by decide +kernel
theorem dX12_advance_59 : decode cX12_advance 59 = .ok (.invokevirtual 93, 3) := by decide +kernel
theorem dX12_advance_62 : decode cX12_advance 62 = .ok (.aload_n 0, 1) := by decide +kernel
theorem dX12_advance_63 : decode cX12_advance 63 = .ok (.getfield 9, 3) := by decide +kernel
theorem dX12_advance_66 : decode cX12_advance 66 = .ok (.iconst 0, 1) := by decide +kernel
theorem dX12_advance_67 : decode cX12_advance 67 = .ok (.dup2, 1) := by decide +kernel
theorem dX12_advance_68 : decode cX12_advance 68 = .ok (.iaload, 1) := by decide +kernel
theorem dX12_advance_69 : decode cX12_advance 69 = .ok (.iload_n 1, 1) := by decide +kernel
theorem dX12_advance_70 : decode cX12_advance 70 = .ok (.iadd, 1) := by decide +kernel
theorem dX12_advance_71 : decode cX12_advance 71 = .ok (.iastore, 1) := by decide +kernel
theorem dX12_advance_72 : decode cX12_advance 72 = .ok (.aload_n 0, 1) := by decide +kernel
theorem dX12_advance_73 : decode cX12_advance 73 = .ok (.getfield 9, 3) := by decide +kernel
theorem dX12_advance_76 : decode cX12_advance 76 = .ok (.iconst 0, 1) := by decide +kernel
theorem dX12_advance_77 : decode cX12_advance 77 = .ok (.iaload, 1) := by decide +kernel
theorem dX12_advance_78 : decode cX12_advance 78 = .ok (.ireturn, 1) := by decide +kernel
theorem dX12_isDay_0 : decode cX12_isDay 0 = .ok (.iload_n 0, 1) := by decide +kernel
theorem dX12_isDay_1 : decode cX12_isDay 1 = .ok (.iconst 0, 1) := by decide +kernel
theorem dX12_isDay_2 : decode cX12_isDay 2 = .ok (.sipush 4999, 3) := by decide +kernel
theorem dX12_isDay_5 : decode cX12_isDay 5 = .ok (.invokestatic 64, 3) := by decide +kernel
theorem dX12_isDay_8 : decode cX12_isDay 8 = .ok (.ireturn, 1) := by decide +kernel
theorem dX12_weekday_0 : decode cX12_weekday 0 = .ok (.aload_n 0, 1) := by decide +kernel
theorem dX12_weekday_1 : decode cX12_weekday 1 = .ok (.iconst 0, 1) := by decide +kernel
theorem dX12_weekday_2 : decode cX12_weekday 2 = .ok (.putfield 41, 3) := by decide +kernel
theorem dX12_weekday_5 : decode cX12_weekday 5 = .ok (.aload_n 0, 1) := by decide +kernel
theorem dX12_weekday_6 : decode cX12_weekday 6 = .ok (.iload_n 1, 1) := by decide +kernel
theorem dX12_weekday_7 : decode cX12_weekday 7 = .ok (.invokestatic 106, 3) := by decide +kernel
theorem dX12_weekday_10 : decode cX12_weekday 10 = .ok (.ifCond .ne 7, 3) := by decide +kernel
theorem dX12_weekday_13 : decode cX12_weekday 13 = .ok (.iconst 1, 1) := by decide +kernel
theorem dX12_weekday_14 : decode cX12_weekday 14 = .ok (.goto 4, 3) := by decide +kernel
theorem dX12_weekday_17 : decode cX12_weekday 17 = .ok (.iconst 0, 1) := by decide +kernel
theorem dX12_weekday_18 : decode cX12_weekday 18 = .ok (.iconst 1, 1) := by decide +kernel
theorem dX12_weekday_19 : decode cX12_weekday 19 = .ok (.invokevirtual 55, 3) := by decide +kernel
theorem dX12_weekday_22 : decode cX12_weekday 22 = .ok (.ifCond .eq 7, 3) := by decide +kernel
theorem dX12_weekday_25 : decode cX12_weekday 25 = .ok (.iconst 0, 1) := by decide +kernel
theorem dX12_weekday_26 : decode cX12_weekday 26 = .ok (.goto 7, 3) := by decide +kernel
theorem dX12_weekday_29 : decode cX12_weekday 29 = .ok (.iload_n 1, 1) := by decide +kernel
theorem dX12_weekday_30 : decode cX12_weekday 30 = .ok (.bipush 7, 2) := by decide +kernel
theorem dX12_weekday_32 : decode cX12_weekday 32 = .ok (.irem, 1) := by decide +kernel
theorem dX12_weekday_33 : decode cX12_weekday 33 = .ok (.ireturn, 1) := by decide +kernel
theorem dX12_holidayAt_0 : decode cX12_holidayAt 0 = .ok (.iconst 0, 1) := by decide +kernel
theorem dX12_holidayAt_1 : decode cX12_holidayAt 1 = .ok (.istore_n 2, 1) := by decide +kernel
theorem dX12_holidayAt_2 : decode cX12_holidayAt 2 = .ok (.iload_n 2, 1) := by decide +kernel
theorem dX12_holidayAt_3 : decode cX12_holidayAt 3 = .ok (.aload_n 0, 1) := by decide +kernel
theorem dX12_holidayAt_4 : decode cX12_holidayAt 4 = .ok (.getfield 9, 3) := by decide +kernel
theorem dX12_holidayAt_7 : decode cX12_holidayAt 7 = .ok (.iconst 2, 1) := by decide +kernel
theorem dX12_holidayAt_8 : decode cX12_holidayAt 8 = .ok (.iaload, 1) := by decide +kernel
theorem dX12_holidayAt_9 : decode cX12_holidayAt 9 = .ok (.if_icmp .ge 24, 3) := by decide +kernel
theorem dX12_holidayAt_12 : decode cX12_holidayAt 12 = .ok (.aload_n 0, 1) := by decide +kernel
theorem dX12_holidayAt_13 : decode cX12_holidayAt 13 = .ok (.getfield 9, 3) := by decide +kernel
theorem dX12_holidayAt_16 : decode cX12_holidayAt 16 = .ok (.bipush 79, 2) := by decide +kernel
theorem dX12_holidayAt_18 : decode cX12_holidayAt 18 = .ok (.iload_n 2, 1) := by decide +kernel
theorem dX12_holidayAt_19 : decode cX12_holidayAt 19 = .ok (.iadd, 1) := by decide +kernel
theorem dX12_holidayAt_20 : decode cX12_holidayAt 20 = .ok (.iaload, 1) := by decide +kernel
theorem dX12_holidayAt_21 : decode cX12_holidayAt 21 = .ok (.iload_n 1, 1) := by decide +kernel
theorem dX12_holidayAt_22 : decode cX12_holidayAt 22 = .ok (.if_icmp .ne 5, 3) := by decide +kernel
theorem dX12_holidayAt_25 : decode cX12_holidayAt 25 = .ok (.iload_n 2, 1) := by decide +kernel
theorem dX12_holidayAt_26 : decode cX12_holidayAt 26 = .ok (.ireturn, 1) := by decide +kernel
theorem dX12_holidayAt_27 : decode cX12_holidayAt 27 = .ok (.iinc 2 1, 3) := by decide +kernel
theorem dX12_holidayAt_30 : decode cX12_holidayAt 30 = .ok (.goto (-28), 3) := by decide +kernel
theorem dX12_holidayAt_33 : decode cX12_holidayAt 33 = .ok (.iconst (-1), 1) := by decide +kernel
theorem dX12_holidayAt_34 : decode cX12_holidayAt 34 = .ok (.ireturn, 1) := by decide +kernel
theorem dX12_isCourt_0 : decode cX12_isCourt 0 = .ok (.iload_n 1, 1) := by decide +kernel
theorem dX12_isCourt_1 : decode cX12_isCourt 1 = .ok (.bipush 7, 2) := by decide +kernel
theorem dX12_isCourt_3 : decode cX12_isCourt 3 = .ok (.irem, 1) := by decide +kernel
theorem dX12_isCourt_4 : decode cX12_isCourt 4 = .ok (.iconst 5, 1) := by decide +kernel
theorem dX12_isCourt_5 : decode cX12_isCourt 5 = .ok (.if_icmp .ge 16, 3) := by decide +kernel
theorem dX12_isCourt_8 : decode cX12_isCourt 8 = .ok (.aload_n 0, 1) := by decide +kernel
theorem dX12_isCourt_9 : decode cX12_isCourt 9 = .ok (.iload_n 1, 1) := by decide +kernel
theorem dX12_isCourt_10 : decode cX12_isCourt 10 = .ok (.invokevirtual 109, 3) := by decide +kernel
theorem dX12_isCourt_13 : decode cX12_isCourt 13 = .ok (.iconst (-1), 1) := by decide +kernel
theorem dX12_isCourt_14 : decode cX12_isCourt 14 = .ok (.if_icmp .ne 7, 3) := by decide +kernel
theorem dX12_isCourt_17 : decode cX12_isCourt 17 = .ok (.iconst 1, 1) := by decide +kernel
theorem dX12_isCourt_18 : decode cX12_isCourt 18 = .ok (.goto 4, 3) := by decide +kernel
theorem dX12_isCourt_21 : decode cX12_isCourt 21 = .ok (.iconst 0, 1) := by decide +kernel
theorem dX12_isCourt_22 : decode cX12_isCourt 22 = .ok (.ireturn, 1) := by decide +kernel
theorem dX12_isCourtDay_0 : decode cX12_isCourtDay 0 = .ok (.aload_n 0, 1) := by decide +kernel
theorem dX12_isCourtDay_1 : decode cX12_isCourtDay 1 = .ok (.iconst 0, 1) := by decide +kernel
theorem dX12_isCourtDay_2 : decode cX12_isCourtDay 2 = .ok (.putfield 41, 3) := by decide +kernel
theorem dX12_isCourtDay_5 : decode cX12_isCourtDay 5 = .ok (.aload_n 0, 1) := by decide +kernel
theorem dX12_isCourtDay_6 : decode cX12_isCourtDay 6 = .ok (.iload_n 1, 1) := by decide +kernel
theorem dX12_isCourtDay_7 : decode cX12_isCourtDay 7 = .ok (.invokestatic 106, 3) := by decide +kernel
theorem dX12_isCourtDay_10 : decode cX12_isCourtDay 10 = .ok (.ifCond .ne 7, 3) := by decide +kernel
theorem dX12_isCourtDay_13 : decode cX12_isCourtDay 13 = .ok (.iconst 1, 1) := by decide +kernel
theorem dX12_isCourtDay_14 : decode cX12_isCourtDay 14 = .ok (.goto 4, 3) := by decide +kernel
theorem dX12_isCourtDay_17 : decode cX12_isCourtDay 17 = .ok (.iconst 0, 1) := by decide +kernel
theorem dX12_isCourtDay_18 : decode cX12_isCourtDay 18 = .ok (.iconst 1, 1) := by decide +kernel
theorem dX12_isCourtDay_19 : decode cX12_isCourtDay 19 = .ok (.invokevirtual 55, 3) := by decide +kernel
theorem dX12_isCourtDay_22 : decode cX12_isCourtDay 22 = .ok (.ifCond .ne 15, 3) := by decide +kernel
theorem dX12_isCourtDay_25 : decode cX12_isCourtDay 25 = .ok (.aload_n 0, 1) := by decide +kernel
theorem dX12_isCourtDay_26 : decode cX12_isCourtDay 26 = .ok (.iload_n 1, 1) := by decide +kernel
theorem dX12_isCourtDay_27 : decode cX12_isCourtDay 27 = .ok (.invokevirtual 112, 3) := by decide +kernel
theorem dX12_isCourtDay_30 : decode cX12_isCourtDay 30 = .ok (.ifCond .eq 7, 3) := by decide +kernel
theorem dX12_isCourtDay_33 : decode cX12_isCourtDay 33 = .ok (.iconst 1, 1) := by decide +kernel
theorem dX12_isCourtDay_34 : decode cX12_isCourtDay 34 = .ok (.goto 4, 3) := by decide +kernel
theorem dX12_isCourtDay_37 : decode cX12_isCourtDay 37 = .ok (.iconst 0, 1) := by decide +kernel
theorem dX12_isCourtDay_38 : decode cX12_isCourtDay 38 = .ok (.ireturn, 1) := by decide +kernel
theorem dX12_addHoliday_0 : decode cX12_addHoliday 0 = .ok (.aload_n 0, 1) := by decide +kernel
theorem dX12_addHoliday_1 : decode cX12_addHoliday 1 = .ok (.iconst 0, 1) := by decide +kernel
theorem dX12_addHoliday_2 : decode cX12_addHoliday 2 = .ok (.putfield 41, 3) := by decide +kernel
theorem dX12_addHoliday_5 : decode cX12_addHoliday 5 = .ok (.aload_n 0, 1) := by decide +kernel
theorem dX12_addHoliday_6 : decode cX12_addHoliday 6 = .ok (.iload_n 1, 1) := by decide +kernel
theorem dX12_addHoliday_7 : decode cX12_addHoliday 7 = .ok (.invokestatic 106, 3) := by decide +kernel
theorem dX12_addHoliday_10 : decode cX12_addHoliday 10 = .ok (.ifCond .ne 7, 3) := by decide +kernel
theorem dX12_addHoliday_13 : decode cX12_addHoliday 13 = .ok (.iconst 1, 1) := by decide +kernel
theorem dX12_addHoliday_14 : decode cX12_addHoliday 14 = .ok (.goto 4, 3) := by decide +kernel
theorem dX12_addHoliday_17 : decode cX12_addHoliday 17 = .ok (.iconst 0, 1) := by decide +kernel
theorem dX12_addHoliday_18 : decode cX12_addHoliday 18 = .ok (.iconst 1, 1) := by decide +kernel
theorem dX12_addHoliday_19 : decode cX12_addHoliday 19 = .ok (.invokevirtual 55, 3) := by decide +kernel
theorem dX12_addHoliday_22 : decode cX12_addHoliday 22 = .ok (.ifCond .ne 36, 3) := by decide +kernel
theorem dX12_addHoliday_25 : decode cX12_addHoliday 25 = .ok (.aload_n 0, 1) := by decide +kernel
theorem dX12_addHoliday_26 : decode cX12_addHoliday 26 = .ok (.aload_n 0, 1) := by decide +kernel
theorem dX12_addHoliday_27 : decode cX12_addHoliday 27 = .ok (.iload_n 1, 1) := by decide +kernel
theorem dX12_addHoliday_28 : decode cX12_addHoliday 28 = .ok (.invokevirtual 109, 3) := by decide +kernel
theorem dX12_addHoliday_31 : decode cX12_addHoliday 31 = .ok (.iconst (-1), 1) := by decide +kernel
theorem dX12_addHoliday_32 : decode cX12_addHoliday 32 = .ok (.if_icmp .ne 14, 3) := by decide +kernel
theorem dX12_addHoliday_35 : decode cX12_addHoliday 35 = .ok (.aload_n 0, 1) := by decide +kernel
theorem dX12_addHoliday_36 : decode cX12_addHoliday 36 = .ok (.getfield 9, 3) := by decide +kernel
theorem dX12_addHoliday_39 : decode cX12_addHoliday 39 = .ok (.iconst 2, 1) := by decide +kernel
theorem dX12_addHoliday_40 : decode cX12_addHoliday 40 = .ok (.iaload, 1) := by decide +kernel
theorem dX12_addHoliday_41 : decode cX12_addHoliday 41 = .ok (.bipush 40, 2) := by decide +kernel
theorem dX12_addHoliday_43 : decode cX12_addHoliday 43 = .ok (.if_icmp .ne 7, 3) := by decide +kernel
theorem dX12_addHoliday_46 : decode cX12_addHoliday 46 = .ok (.iconst 1, 1) := by decide +kernel
theorem dX12_addHoliday_47 : decode cX12_addHoliday 47 = .ok (.goto 4, 3) := by decide +kernel
theorem dX12_addHoliday_50 : decode cX12_addHoliday 50 = .ok (.iconst 0, 1) := by decide +kernel
theorem dX12_addHoliday_51 : decode cX12_addHoliday 51 = .ok (.iconst 2, 1) := by decide +kernel
theorem dX12_addHoliday_52 : decode cX12_addHoliday 52 = .ok (.invokevirtual 55, 3) := by decide +kernel
theorem dX12_addHoliday_55 : decode cX12_addHoliday 55 = .ok (.ifCond .eq 5, 3) := by decide +kernel
theorem dX12_addHoliday_58 : decode cX12_addHoliday 58 = .ok (.iconst 0, 1) := by decide +kernel
theorem dX12_addHoliday_59 : decode cX12_addHoliday 59 = .ok (.ireturn, 1) := by decide +kernel
theorem dX12_addHoliday_60 : decode cX12_addHoliday 60 = .ok (.aload_n 0, 1) := by decide +kernel
theorem dX12_addHoliday_61 : decode cX12_addHoliday 61 = .ok (.invokevirtual 93, 3) := by decide +kernel
theorem dX12_addHoliday_64 : decode cX12_addHoliday 64 = .ok (.aload_n 0, 1) := by decide +kernel
theorem dX12_addHoliday_65 : decode cX12_addHoliday 65 = .ok (.getfield 9, 3) := by decide +kernel
theorem dX12_addHoliday_68 : decode cX12_addHoliday 68 = .ok (.bipush 79, 2) := by decide +kernel
theorem dX12_addHoliday_70 : decode cX12_addHoliday 70 = .ok (.aload_n 0, 1) := by decide +kernel
theorem dX12_addHoliday_71 : decode cX12_addHoliday 71 = .ok (.getfield 9, 3) := by decide +kernel
theorem dX12_addHoliday_74 : decode cX12_addHoliday 74 = .ok (.iconst 2, 1) := by decide +kernel
theorem dX12_addHoliday_75 : decode cX12_addHoliday 75 = .ok (.iaload, 1) := by decide +kernel
theorem dX12_addHoliday_76 : decode cX12_addHoliday 76 = .ok (.iadd, 1) := by decide +kernel
theorem dX12_addHoliday_77 : decode cX12_addHoliday 77 = .ok (.iload_n 1, 1) := by decide +kernel
theorem dX12_addHoliday_78 : decode cX12_addHoliday 78 = .ok (.iastore, 1) := by decide +kernel
theorem dX12_addHoliday_79 : decode cX12_addHoliday 79 = .ok (.aload_n 0, 1) := by decide +kernel
theorem dX12_addHoliday_80 : decode cX12_addHoliday 80 = .ok (.getfield 9, 3) := by decide +kernel
theorem dX12_addHoliday_83 : decode cX12_addHoliday 83 = .ok (.iconst 2, 1) := by decide +kernel
theorem dX12_addHoliday_84 : decode cX12_addHoliday 84 = .ok (.dup2, 1) := by decide +kernel
theorem dX12_addHoliday_85 : decode cX12_addHoliday 85 = .ok (.iaload, 1) := by decide +kernel
theorem dX12_addHoliday_86 : decode cX12_addHoliday 86 = .ok (.iconst 1, 1) := by decide +kernel
theorem dX12_addHoliday_87 : decode cX12_addHoliday 87 = .ok (.iadd, 1) := by decide +kernel
theorem dX12_addHoliday_88 : decode cX12_addHoliday 88 = .ok (.iastore, 1) := by decide +kernel
theorem dX12_addHoliday_89 : decode cX12_addHoliday 89 = .ok (.aload_n 0, 1) := by decide +kernel
theorem dX12_addHoliday_90 : decode cX12_addHoliday 90 = .ok (.getfield 9, 3) := by decide +kernel
theorem dX12_addHoliday_93 : decode cX12_addHoliday 93 = .ok (.iconst 2, 1) := by decide +kernel
theorem dX12_addHoliday_94 : decode cX12_addHoliday 94 = .ok (.iaload, 1) := by decide +kernel
theorem dX12_addHoliday_95 : decode cX12_addHoliday 95 = .ok (.ireturn, 1) := by decide +kernel
theorem dX12_removeHoliday_0 : decode cX12_removeHoliday 0 = .ok (.aload_n 0, 1) := by decide +kernel
theorem dX12_removeHoliday_1 : decode cX12_removeHoliday 1 = .ok (.iconst 0, 1) := by decide +kernel
theorem dX12_removeHoliday_2 : decode cX12_removeHoliday 2 = .ok (.putfield 41, 3) := by decide +kernel
theorem dX12_removeHoliday_5 : decode cX12_removeHoliday 5 = .ok (.aload_n 0, 1) := by decide +kernel
theorem dX12_removeHoliday_6 : decode cX12_removeHoliday 6 = .ok (.iload_n 1, 1) := by decide +kernel
theorem dX12_removeHoliday_7 : decode cX12_removeHoliday 7 = .ok (.invokestatic 106, 3) := by decide +kernel
theorem dX12_removeHoliday_10 : decode cX12_removeHoliday 10 = .ok (.ifCond .ne 7, 3) := by decide +kernel
theorem dX12_removeHoliday_13 : decode cX12_removeHoliday 13 = .ok (.iconst 1, 1) := by decide +kernel
theorem dX12_removeHoliday_14 : decode cX12_removeHoliday 14 = .ok (.goto 4, 3) := by decide +kernel
theorem dX12_removeHoliday_17 : decode cX12_removeHoliday 17 = .ok (.iconst 0, 1) := by decide +kernel
theorem dX12_removeHoliday_18 : decode cX12_removeHoliday 18 = .ok (.iconst 1, 1) := by decide +kernel
theorem dX12_removeHoliday_19 : decode cX12_removeHoliday 19 = .ok (.invokevirtual 55, 3) := by decide +kernel
theorem dX12_removeHoliday_22 : decode cX12_removeHoliday 22 = .ok (.ifCond .ne 25, 3) := by decide +kernel
theorem dX12_removeHoliday_25 : decode cX12_removeHoliday 25 = .ok (.aload_n 0, 1) := by decide +kernel
theorem dX12_removeHoliday_26 : decode cX12_removeHoliday 26 = .ok (.aload_n 0, 1) := by decide +kernel
theorem dX12_removeHoliday_27 : decode cX12_removeHoliday 27 = .ok (.iload_n 1, 1) := by decide +kernel
theorem dX12_removeHoliday_28 : decode cX12_removeHoliday 28 = .ok (.invokevirtual 109, 3) := by decide +kernel
theorem dX12_removeHoliday_31 : decode cX12_removeHoliday 31 = .ok (.iconst (-1), 1) := by decide +kernel
theorem dX12_removeHoliday_32 : decode cX12_removeHoliday 32 = .ok (.if_icmp .ne 7, 3) := by decide +kernel
theorem dX12_removeHoliday_35 : decode cX12_removeHoliday 35 = .ok (.iconst 1, 1) := by decide +kernel
theorem dX12_removeHoliday_36 : decode cX12_removeHoliday 36 = .ok (.goto 4, 3) := by decide +kernel
theorem dX12_removeHoliday_39 : decode cX12_removeHoliday 39 = .ok (.iconst 0, 1) := by decide +kernel
theorem dX12_removeHoliday_40 : decode cX12_removeHoliday 40 = .ok (.iconst 2, 1) := by decide +kernel
theorem dX12_removeHoliday_41 : decode cX12_removeHoliday 41 = .ok (.invokevirtual 55, 3) := by decide +kernel
theorem dX12_removeHoliday_44 : decode cX12_removeHoliday 44 = .ok (.ifCond .eq 5, 3) := by decide +kernel
theorem dX12_removeHoliday_47 : decode cX12_removeHoliday 47 = .ok (.iconst 0, 1) := by decide +kernel
theorem dX12_removeHoliday_48 : decode cX12_removeHoliday 48 = .ok (.ireturn, 1) := by decide +kernel
theorem dX12_removeHoliday_49 : decode cX12_removeHoliday 49 = .ok (.aload_n 0, 1) := by decide +kernel
theorem dX12_removeHoliday_50 : decode cX12_removeHoliday 50 = .ok (.invokevirtual 93, 3) := by decide +kernel
theorem dX12_removeHoliday_53 : decode cX12_removeHoliday 53 = .ok (.aload_n 0, 1) := by decide +kernel
theorem dX12_removeHoliday_54 : decode cX12_removeHoliday 54 = .ok (.iload_n 1, 1) := by decide +kernel
theorem dX12_removeHoliday_55 : decode cX12_removeHoliday 55 = .ok (.invokevirtual 109, 3) := by decide +kernel
theorem dX12_removeHoliday_58 : decode cX12_removeHoliday 58 = .ok (.istore_n 2, 1) := by decide +kernel
theorem dX12_removeHoliday_59 : decode cX12_removeHoliday 59 = .ok (.aload_n 0, 1) := by decide +kernel
theorem dX12_removeHoliday_60 : decode cX12_removeHoliday 60 = .ok (.getfield 9, 3) := by decide +kernel
theorem dX12_removeHoliday_63 : decode cX12_removeHoliday 63 = .ok (.iconst 2, 1) := by decide +kernel
theorem dX12_removeHoliday_64 : decode cX12_removeHoliday 64 = .ok (.dup2, 1) := by decide +kernel
theorem dX12_removeHoliday_65 : decode cX12_removeHoliday 65 = .ok (.iaload, 1) := by decide +kernel
theorem dX12_removeHoliday_66 : decode cX12_removeHoliday 66 = .ok (.iconst 1, 1) := by decide +kernel
theorem dX12_removeHoliday_67 : decode cX12_removeHoliday 67 = .ok (.isub, 1) := by decide +kernel
theorem dX12_removeHoliday_68 : decode cX12_removeHoliday 68 = .ok (.iastore, 1) := by decide +kernel
theorem dX12_removeHoliday_69 : decode cX12_removeHoliday 69 = .ok (.aload_n 0, 1) := by decide +kernel
theorem dX12_removeHoliday_70 : decode cX12_removeHoliday 70 = .ok (.getfield 9, 3) := by decide +kernel
theorem dX12_removeHoliday_73 : decode cX12_removeHoliday 73 = .ok (.bipush 79, 2) := by decide +kernel
theorem dX12_removeHoliday_75 : decode cX12_removeHoliday 75 = .ok (.iload_n 2, 1) := by decide +kernel
theorem dX12_removeHoliday_76 : decode cX12_removeHoliday 76 = .ok (.iadd, 1) := by decide +kernel
theorem dX12_removeHoliday_77 : decode cX12_removeHoliday 77 = .ok (.aload_n 0, 1) := by decide +kernel
theorem dX12_removeHoliday_78 : decode cX12_removeHoliday 78 = .ok (.getfield 9, 3) := by decide +kernel
theorem dX12_removeHoliday_81 : decode cX12_removeHoliday 81 = .ok (.bipush 79, 2) := by decide +kernel
theorem dX12_removeHoliday_83 : decode cX12_removeHoliday 83 = .ok (.aload_n 0, 1) := by decide +kernel
theorem dX12_removeHoliday_84 : decode cX12_removeHoliday 84 = .ok (.getfield 9, 3) := by decide +kernel
theorem dX12_removeHoliday_87 : decode cX12_removeHoliday 87 = .ok (.iconst 2, 1) := by decide +kernel
theorem dX12_removeHoliday_88 : decode cX12_removeHoliday 88 = .ok (.iaload, 1) := by decide +kernel
theorem dX12_removeHoliday_89 : decode cX12_removeHoliday 89 = .ok (.iadd, 1) := by decide +kernel
theorem dX12_removeHoliday_90 : decode cX12_removeHoliday 90 = .ok (.iaload, 1) := by decide +kernel
theorem dX12_removeHoliday_91 : decode cX12_removeHoliday 91 = .ok (.iastore, 1) := by decide +kernel
theorem dX12_removeHoliday_92 : decode cX12_removeHoliday 92 = .ok (.aload_n 0, 1) := by decide +kernel
theorem dX12_removeHoliday_93 : decode cX12_removeHoliday 93 = .ok (.getfield 9, 3) := by decide +kernel
theorem dX12_removeHoliday_96 : decode cX12_removeHoliday 96 = .ok (.iconst 2, 1) := by decide +kernel
theorem dX12_removeHoliday_97 : decode cX12_removeHoliday 97 = .ok (.iaload, 1) := by decide +kernel
theorem dX12_removeHoliday_98 : decode cX12_removeHoliday 98 = .ok (.ireturn, 1) := by decide +kernel
theorem dX12_courtDays_0 : decode cX12_courtDays 0 = .ok (.aload_n 0, 1) := by decide +kernel
theorem dX12_courtDays_1 : decode cX12_courtDays 1 = .ok (.iconst 0, 1) := by decide +kernel
theorem dX12_courtDays_2 : decode cX12_courtDays 2 = .ok (.putfield 41, 3) := by decide +kernel
theorem dX12_courtDays_5 : decode cX12_courtDays 5 = .ok (.aload_n 0, 1) := by decide +kernel
theorem dX12_courtDays_6 : decode cX12_courtDays 6 = .ok (.iload_n 1, 1) := by decide +kernel
theorem dX12_courtDays_7 : decode cX12_courtDays 7 = .ok (.invokestatic 106, 3) := by decide +kernel
theorem dX12_courtDays_10 : decode cX12_courtDays 10 = .ok (.ifCond .eq 15, 3) := by decide +kernel
theorem dX12_courtDays_13 : decode cX12_courtDays 13 = .ok (.iload_n 2, 1) := by decide +kernel
theorem dX12_courtDays_14 : decode cX12_courtDays 14 = .ok (.invokestatic 106, 3) := by decide +kernel
theorem dX12_courtDays_17 : decode cX12_courtDays 17 = .ok (.ifCond .eq 8, 3) := by decide +kernel
theorem dX12_courtDays_20 : decode cX12_courtDays 20 = .ok (.iload_n 2, 1) := by decide +kernel
theorem dX12_courtDays_21 : decode cX12_courtDays 21 = .ok (.iload_n 1, 1) := by decide +kernel
theorem dX12_courtDays_22 : decode cX12_courtDays 22 = .ok (.if_icmp .ge 7, 3) := by decide +kernel
theorem dX12_courtDays_25 : decode cX12_courtDays 25 = .ok (.iconst 1, 1) := by decide +kernel
theorem dX12_courtDays_26 : decode cX12_courtDays 26 = .ok (.goto 4, 3) := by decide +kernel
theorem dX12_courtDays_29 : decode cX12_courtDays 29 = .ok (.iconst 0, 1) := by decide +kernel
theorem dX12_courtDays_30 : decode cX12_courtDays 30 = .ok (.iconst 1, 1) := by decide +kernel
theorem dX12_courtDays_31 : decode cX12_courtDays 31 = .ok (.invokevirtual 55, 3) := by decide +kernel
theorem dX12_courtDays_34 : decode cX12_courtDays 34 = .ok (.ifCond .eq 5, 3) := by decide +kernel
theorem dX12_courtDays_37 : decode cX12_courtDays 37 = .ok (.iconst 0, 1) := by decide +kernel
theorem dX12_courtDays_38 : decode cX12_courtDays 38 = .ok (.ireturn, 1) := by decide +kernel
theorem dX12_courtDays_39 : decode cX12_courtDays 39 = .ok (.iconst 0, 1) := by decide +kernel
theorem dX12_courtDays_40 : decode cX12_courtDays 40 = .ok (.istore_n 3, 1) := by decide +kernel
theorem dX12_courtDays_41 : decode cX12_courtDays 41 = .ok (.iload_n 1, 1) := by decide +kernel
theorem dX12_courtDays_42 : decode cX12_courtDays 42 = .ok (.istore 4, 2) := by decide +kernel
theorem dX12_courtDays_44 : decode cX12_courtDays 44 = .ok (.iload 4, 2) := by decide +kernel
theorem dX12_courtDays_46 : decode cX12_courtDays 46 = .ok (.iload_n 2, 1) := by decide +kernel
theorem dX12_courtDays_47 : decode cX12_courtDays 47 = .ok (.if_icmp .gt 26, 3) := by decide +kernel
theorem dX12_courtDays_50 : decode cX12_courtDays 50 = .ok (.iload_n 3, 1) := by decide +kernel
theorem dX12_courtDays_51 : decode cX12_courtDays 51 = .ok (.aload_n 0, 1) := by decide +kernel
theorem dX12_courtDays_52 : decode cX12_courtDays 52 = .ok (.iload 4, 2) := by decide +kernel
theorem dX12_courtDays_54 : decode cX12_courtDays 54 = .ok (.invokevirtual 112, 3) := by decide +kernel
theorem dX12_courtDays_57 : decode cX12_courtDays 57 = .ok (.ifCond .eq 7, 3) := by decide +kernel
theorem dX12_courtDays_60 : decode cX12_courtDays 60 = .ok (.iconst 1, 1) := by decide +kernel
theorem dX12_courtDays_61 : decode cX12_courtDays 61 = .ok (.goto 4, 3) := by decide +kernel
theorem dX12_courtDays_64 : decode cX12_courtDays 64 = .ok (.iconst 0, 1) := by decide +kernel
theorem dX12_courtDays_65 : decode cX12_courtDays 65 = .ok (.iadd, 1) := by decide +kernel
theorem dX12_courtDays_66 : decode cX12_courtDays 66 = .ok (.istore_n 3, 1) := by decide +kernel
theorem dX12_courtDays_67 : decode cX12_courtDays 67 = .ok (.iinc 4 1, 3) := by decide +kernel
theorem dX12_courtDays_70 : decode cX12_courtDays 70 = .ok (.goto (-26), 3) := by decide +kernel
theorem dX12_courtDays_73 : decode cX12_courtDays 73 = .ok (.iload_n 3, 1) := by decide +kernel
theorem dX12_courtDays_74 : decode cX12_courtDays 74 = .ok (.ireturn, 1) := by decide +kernel
theorem dX12_courtDaysByMarking_0 : decode cX12_courtDaysByMarking 0 = .ok (.aload_n 0, 1) := by decide +kernel
theorem dX12_courtDaysByMarking_1 : decode cX12_courtDaysByMarking 1 = .ok (.iload_n 1, 1) := by decide +kernel
theorem dX12_courtDaysByMarking_2 : decode cX12_courtDaysByMarking 2 = .ok (.iload_n 2, 1) := by decide +kernel
theorem dX12_courtDaysByMarking_3 : decode cX12_courtDaysByMarking 3 = .ok (.invokevirtual 115, 3) := by decide +kernel
theorem dX12_courtDaysByMarking_6 : decode cX12_courtDaysByMarking 6 = .ok (.ireturn, 1) := by decide +kernel
theorem dX12_noRule_0 : decode cX12_noRule 0 = .ok (.iload_n 0, 1) := by decide +kernel
theorem dX12_noRule_1 : decode cX12_noRule 1 = .ok (.iconst 0, 1) := by decide +kernel
theorem dX12_noRule_2 : decode cX12_noRule 2 = .ok (.bipush 7, 2) := by decide +kernel
theorem dX12_noRule_4 : decode cX12_noRule 4 = .ok (.invokestatic 64, 3) := by decide +kernel
theorem dX12_noRule_7 : decode cX12_noRule 7 = .ok (.ifCond .ne 7, 3) := by decide +kernel
theorem dX12_noRule_10 : decode cX12_noRule 10 = .ok (.iconst 1, 1) := by decide +kernel
theorem dX12_noRule_11 : decode cX12_noRule 11 = .ok (.goto 4, 3) := by decide +kernel
theorem dX12_noRule_14 : decode cX12_noRule 14 = .ok (.iconst 0, 1) := by decide +kernel
theorem dX12_noRule_15 : decode cX12_noRule 15 = .ok (.ireturn, 1) := by decide +kernel
theorem dX12_setRule_0 : decode cX12_setRule 0 = .ok (.aload_n 0, 1) := by decide +kernel
theorem dX12_setRule_1 : decode cX12_setRule 1 = .ok (.iconst 0, 1) := by decide +kernel
theorem dX12_setRule_2 : decode cX12_setRule 2 = .ok (.putfield 41, 3) := by decide +kernel
theorem dX12_setRule_5 : decode cX12_setRule 5 = .ok (.aload_n 0, 1) := by decide +kernel
theorem dX12_setRule_6 : decode cX12_setRule 6 = .ok (.iload_n 1, 1) := by decide +kernel
theorem dX12_setRule_7 : decode cX12_setRule 7 = .ok (.invokestatic 119, 3) := by decide +kernel
theorem dX12_setRule_10 : decode cX12_setRule 10 = .ok (.iconst 1, 1) := by decide +kernel
theorem dX12_setRule_11 : decode cX12_setRule 11 = .ok (.invokevirtual 55, 3) := by decide +kernel
theorem dX12_setRule_14 : decode cX12_setRule 14 = .ok (.ifCond .ne 27, 3) := by decide +kernel
theorem dX12_setRule_17 : decode cX12_setRule 17 = .ok (.aload_n 0, 1) := by decide +kernel
theorem dX12_setRule_18 : decode cX12_setRule 18 = .ok (.iload_n 2, 1) := by decide +kernel
theorem dX12_setRule_19 : decode cX12_setRule 19 = .ok (.iconst 1, 1) := by decide +kernel
theorem dX12_setRule_20 : decode cX12_setRule 20 = .ok (.sipush 200, 3) := by decide +kernel
theorem dX12_setRule_23 : decode cX12_setRule 23 = .ok (.invokestatic 64, 3) := by decide +kernel
theorem dX12_setRule_26 : decode cX12_setRule 26 = .ok (.ifCond .ne 7, 3) := by decide +kernel
theorem dX12_setRule_29 : decode cX12_setRule 29 = .ok (.iconst 1, 1) := by decide +kernel
theorem dX12_setRule_30 : decode cX12_setRule 30 = .ok (.goto 4, 3) := by decide +kernel
theorem dX12_setRule_33 : decode cX12_setRule 33 = .ok (.iconst 0, 1) := by decide +kernel
theorem dX12_setRule_34 : decode cX12_setRule 34 = .ok (.iconst 2, 1) := by decide +kernel
theorem dX12_setRule_35 : decode cX12_setRule 35 = .ok (.invokevirtual 55, 3) := by decide +kernel
theorem dX12_setRule_38 : decode cX12_setRule 38 = .ok (.ifCond .eq 5, 3) := by decide +kernel
theorem dX12_setRule_41 : decode cX12_setRule 41 = .ok (.iconst 0, 1) := by decide +kernel
theorem dX12_setRule_42 : decode cX12_setRule 42 = .ok (.ireturn, 1) := by decide +kernel
theorem dX12_setRule_43 : decode cX12_setRule 43 = .ok (.aload_n 0, 1) := by decide +kernel
theorem dX12_setRule_44 : decode cX12_setRule 44 = .ok (.invokevirtual 93, 3) := by decide +kernel
theorem dX12_setRule_47 : decode cX12_setRule 47 = .ok (.aload_n 0, 1) := by decide +kernel
theorem dX12_setRule_48 : decode cX12_setRule 48 = .ok (.getfield 9, 3) := by decide +kernel
theorem dX12_setRule_51 : decode cX12_setRule 51 = .ok (.bipush 119, 2) := by decide +kernel
theorem dX12_setRule_53 : decode cX12_setRule 53 = .ok (.iconst 2, 1) := by decide +kernel
theorem dX12_setRule_54 : decode cX12_setRule 54 = .ok (.iload_n 1, 1) := by decide +kernel
theorem dX12_setRule_55 : decode cX12_setRule 55 = .ok (.imul, 1) := by decide +kernel
theorem dX12_setRule_56 : decode cX12_setRule 56 = .ok (.iadd, 1) := by decide +kernel
theorem dX12_setRule_57 : decode cX12_setRule 57 = .ok (.iaload, 1) := by decide +kernel
theorem dX12_setRule_58 : decode cX12_setRule 58 = .ok (.istore 4, 2) := by decide +kernel
theorem dX12_setRule_60 : decode cX12_setRule 60 = .ok (.aload_n 0, 1) := by decide +kernel
theorem dX12_setRule_61 : decode cX12_setRule 61 = .ok (.getfield 9, 3) := by decide +kernel
theorem dX12_setRule_64 : decode cX12_setRule 64 = .ok (.bipush 119, 2) := by decide +kernel
theorem dX12_setRule_66 : decode cX12_setRule 66 = .ok (.iconst 2, 1) := by decide +kernel
theorem dX12_setRule_67 : decode cX12_setRule 67 = .ok (.iload_n 1, 1) := by decide +kernel
theorem dX12_setRule_68 : decode cX12_setRule 68 = .ok (.imul, 1) := by decide +kernel
theorem dX12_setRule_69 : decode cX12_setRule 69 = .ok (.iadd, 1) := by decide +kernel
theorem dX12_setRule_70 : decode cX12_setRule 70 = .ok (.iload_n 2, 1) := by decide +kernel
theorem dX12_setRule_71 : decode cX12_setRule 71 = .ok (.iastore, 1) := by decide +kernel
theorem dX12_setRule_72 : decode cX12_setRule 72 = .ok (.aload_n 0, 1) := by decide +kernel
theorem dX12_setRule_73 : decode cX12_setRule 73 = .ok (.getfield 9, 3) := by decide +kernel
theorem dX12_setRule_76 : decode cX12_setRule 76 = .ok (.bipush 119, 2) := by decide +kernel
theorem dX12_setRule_78 : decode cX12_setRule 78 = .ok (.iconst 2, 1) := by decide +kernel
theorem dX12_setRule_79 : decode cX12_setRule 79 = .ok (.iload_n 1, 1) := by decide +kernel
theorem dX12_setRule_80 : decode cX12_setRule 80 = .ok (.imul, 1) := by decide +kernel
theorem dX12_setRule_81 : decode cX12_setRule 81 = .ok (.iadd, 1) := by decide +kernel
theorem dX12_setRule_82 : decode cX12_setRule 82 = .ok (.iconst 1, 1) := by decide +kernel
theorem dX12_setRule_83 : decode cX12_setRule 83 = .ok (.iadd, 1) := by decide +kernel
theorem dX12_setRule_84 : decode cX12_setRule 84 = .ok (.iload_n 3, 1) := by decide +kernel
theorem dX12_setRule_85 : decode cX12_setRule 85 = .ok (.ifCond .eq 7, 3) := by decide +kernel
theorem dX12_setRule_88 : decode cX12_setRule 88 = .ok (.iconst 1, 1) := by decide +kernel
theorem dX12_setRule_89 : decode cX12_setRule 89 = .ok (.goto 4, 3) := by decide +kernel
theorem dX12_setRule_92 : decode cX12_setRule 92 = .ok (.iconst 0, 1) := by decide +kernel
theorem dX12_setRule_93 : decode cX12_setRule 93 = .ok (.iastore, 1) := by decide +kernel
theorem dX12_setRule_94 : decode cX12_setRule 94 = .ok (.iload 4, 2) := by decide +kernel
theorem dX12_setRule_96 : decode cX12_setRule 96 = .ok (.ireturn, 1) := by decide +kernel
theorem dX12_ruleLength_0 : decode cX12_ruleLength 0 = .ok (.aload_n 0, 1) := by decide +kernel
theorem dX12_ruleLength_1 : decode cX12_ruleLength 1 = .ok (.iconst 0, 1) := by decide +kernel
theorem dX12_ruleLength_2 : decode cX12_ruleLength 2 = .ok (.putfield 41, 3) := by decide +kernel
theorem dX12_ruleLength_5 : decode cX12_ruleLength 5 = .ok (.aload_n 0, 1) := by decide +kernel
theorem dX12_ruleLength_6 : decode cX12_ruleLength 6 = .ok (.iload_n 1, 1) := by decide +kernel
theorem dX12_ruleLength_7 : decode cX12_ruleLength 7 = .ok (.invokestatic 119, 3) := by decide +kernel
theorem dX12_ruleLength_10 : decode cX12_ruleLength 10 = .ok (.iconst 1, 1) := by decide +kernel
theorem dX12_ruleLength_11 : decode cX12_ruleLength 11 = .ok (.invokevirtual 55, 3) := by decide +kernel
theorem dX12_ruleLength_14 : decode cX12_ruleLength 14 = .ok (.ifCond .eq 7, 3) := by decide +kernel
theorem dX12_ruleLength_17 : decode cX12_ruleLength 17 = .ok (.iconst 0, 1) := by decide +kernel
theorem dX12_ruleLength_18 : decode cX12_ruleLength 18 = .ok (.goto 14, 3) := by decide +kernel
theorem dX12_ruleLength_21 : decode cX12_ruleLength 21 = .ok (.aload_n 0, 1) := by decide +kernel
theorem dX12_ruleLength_22 : decode cX12_ruleLength 22 = .ok (.getfield 9, 3) := by decide +kernel
theorem dX12_ruleLength_25 : decode cX12_ruleLength 25 = .ok (.bipush 119, 2) := by decide +kernel
theorem dX12_ruleLength_27 : decode cX12_ruleLength 27 = .ok (.iconst 2, 1) := by decide +kernel
theorem dX12_ruleLength_28 : decode cX12_ruleLength 28 = .ok (.iload_n 1, 1) := by decide +kernel
theorem dX12_ruleLength_29 : decode cX12_ruleLength 29 = .ok (.imul, 1) := by decide +kernel
theorem dX12_ruleLength_30 : decode cX12_ruleLength 30 = .ok (.iadd, 1) := by decide +kernel
theorem dX12_ruleLength_31 : decode cX12_ruleLength 31 = .ok (.iaload, 1) := by decide +kernel
theorem dX12_ruleLength_32 : decode cX12_ruleLength 32 = .ok (.ireturn, 1) := by decide +kernel
theorem dX12_countsCourtDays_0 : decode cX12_countsCourtDays 0 = .ok (.aload_n 0, 1) := by decide +kernel
theorem dX12_countsCourtDays_1 : decode cX12_countsCourtDays 1 = .ok (.iconst 0, 1) := by decide +kernel
theorem dX12_countsCourtDays_2 : decode cX12_countsCourtDays 2 = .ok (.putfield 41, 3) := by decide +kernel
theorem dX12_countsCourtDays_5 : decode cX12_countsCourtDays 5 = .ok (.aload_n 0, 1) := by decide +kernel
theorem dX12_countsCourtDays_6 : decode cX12_countsCourtDays 6 = .ok (.iload_n 1, 1) := by decide +kernel
theorem dX12_countsCourtDays_7 : decode cX12_countsCourtDays 7 = .ok (.invokestatic 119, 3) := by decide +kernel
theorem dX12_countsCourtDays_10 : decode cX12_countsCourtDays 10 = .ok (.iconst 1, 1) := by decide +kernel
theorem dX12_countsCourtDays_11 : decode cX12_countsCourtDays 11 = .ok (.invokevirtual 55, 3) := by decide +kernel
theorem dX12_countsCourtDays_14 : decode cX12_countsCourtDays 14 = .ok (.ifCond .ne 24, 3) := by decide +kernel
theorem dX12_countsCourtDays_17 : decode cX12_countsCourtDays 17 = .ok (.aload_n 0, 1) := by decide +kernel
theorem dX12_countsCourtDays_18 : decode cX12_countsCourtDays 18 = .ok (.getfield 9, 3) := by decide +kernel
theorem dX12_countsCourtDays_21 : decode cX12_countsCourtDays 21 = .ok (.bipush 119, 2) := by decide +kernel
theorem dX12_countsCourtDays_23 : decode cX12_countsCourtDays 23 = .ok (.iconst 2, 1) := by decide +kernel
theorem dX12_countsCourtDays_24 : decode cX12_countsCourtDays 24 = .ok (.iload_n 1, 1) := by decide +kernel
theorem dX12_countsCourtDays_25 : decode cX12_countsCourtDays 25 = .ok (.imul, 1) := by decide +kernel
theorem dX12_countsCourtDays_26 : decode cX12_countsCourtDays 26 = .ok (.iadd, 1) := by decide +kernel
theorem dX12_countsCourtDays_27 : decode cX12_countsCourtDays 27 = .ok (.iconst 1, 1) := by decide +kernel
theorem dX12_countsCourtDays_28 : decode cX12_countsCourtDays 28 = .ok (.iadd, 1) := by decide +kernel
theorem dX12_countsCourtDays_29 : decode cX12_countsCourtDays 29 = .ok (.iaload, 1) := by decide +kernel
theorem dX12_countsCourtDays_30 : decode cX12_countsCourtDays 30 = .ok (.iconst 1, 1) := by decide +kernel
theorem dX12_countsCourtDays_31 : decode cX12_countsCourtDays 31 = .ok (.if_icmp .ne 7, 3) := by decide +kernel
theorem dX12_countsCourtDays_34 : decode cX12_countsCourtDays 34 = .ok (.iconst 1, 1) := by decide +kernel
theorem dX12_countsCourtDays_35 : decode cX12_countsCourtDays 35 = .ok (.goto 4, 3) := by decide +kernel
theorem dX12_countsCourtDays_38 : decode cX12_countsCourtDays 38 = .ok (.iconst 0, 1) := by decide +kernel
theorem dX12_countsCourtDays_39 : decode cX12_countsCourtDays 39 = .ok (.ireturn, 1) := by decide +kernel
theorem dX12_wayOf_0 : decode cX12_wayOf 0 = .ok (.iload_n 0, 1) := by decide +kernel
theorem dX12_wayOf_1 : decode cX12_wayOf 1 = .ok (.bipush 112, 2) := by decide +kernel
theorem dX12_wayOf_3 : decode cX12_wayOf 3 = .ok (.if_icmp .ne 7, 3) := by decide +kernel
theorem dX12_wayOf_6 : decode cX12_wayOf 6 = .ok (.iconst 0, 1) := by decide +kernel
theorem dX12_wayOf_7 : decode cX12_wayOf 7 = .ok (.goto 34, 3) := by decide +kernel
theorem dX12_wayOf_10 : decode cX12_wayOf 10 = .ok (.iload_n 0, 1) := by decide +kernel
theorem dX12_wayOf_11 : decode cX12_wayOf 11 = .ok (.bipush 101, 2) := by decide +kernel
theorem dX12_wayOf_13 : decode cX12_wayOf 13 = .ok (.if_icmp .ne 7, 3) := by decide +kernel
theorem dX12_wayOf_16 : decode cX12_wayOf 16 = .ok (.iconst 1, 1) := by decide +kernel
theorem dX12_wayOf_17 : decode cX12_wayOf 17 = .ok (.goto 24, 3) := by decide +kernel
theorem dX12_wayOf_20 : decode cX12_wayOf 20 = .ok (.iload_n 0, 1) := by decide +kernel
theorem dX12_wayOf_21 : decode cX12_wayOf 21 = .ok (.bipush 109, 2) := by decide +kernel
theorem dX12_wayOf_23 : decode cX12_wayOf 23 = .ok (.if_icmp .ne 7, 3) := by decide +kernel
theorem dX12_wayOf_26 : decode cX12_wayOf 26 = .ok (.iconst 2, 1) := by decide +kernel
theorem dX12_wayOf_27 : decode cX12_wayOf 27 = .ok (.goto 14, 3) := by decide +kernel
theorem dX12_wayOf_30 : decode cX12_wayOf 30 = .ok (.iload_n 0, 1) := by decide +kernel
theorem dX12_wayOf_31 : decode cX12_wayOf 31 = .ok (.bipush 97, 2) := by decide +kernel
theorem dX12_wayOf_33 : decode cX12_wayOf 33 = .ok (.if_icmp .ne 7, 3) := by decide +kernel
theorem dX12_wayOf_36 : decode cX12_wayOf 36 = .ok (.iconst 3, 1) := by decide +kernel
theorem dX12_wayOf_37 : decode cX12_wayOf 37 = .ok (.goto 4, 3) := by decide +kernel
theorem dX12_wayOf_40 : decode cX12_wayOf 40 = .ok (.iconst (-1), 1) := by decide +kernel
theorem dX12_wayOf_41 : decode cX12_wayOf 41 = .ok (.ireturn, 1) := by decide +kernel
theorem dX12_setServiceDays_0 : decode cX12_setServiceDays 0 = .ok (.aload_n 0, 1) := by decide +kernel
theorem dX12_setServiceDays_1 : decode cX12_setServiceDays 1 = .ok (.iconst 0, 1) := by decide +kernel
theorem dX12_setServiceDays_2 : decode cX12_setServiceDays 2 = .ok (.putfield 41, 3) := by decide +kernel
theorem dX12_setServiceDays_5 : decode cX12_setServiceDays 5 = .ok (.aload_n 0, 1) := by decide +kernel
theorem dX12_setServiceDays_6 : decode cX12_setServiceDays 6 = .ok (.iload_n 1, 1) := by decide +kernel
theorem dX12_setServiceDays_7 : decode cX12_setServiceDays 7 = .ok (.invokestatic 122, 3) := by decide +kernel
theorem dX12_setServiceDays_10 : decode cX12_setServiceDays 10 = .ok (.iconst (-1), 1) := by decide +kernel
theorem dX12_setServiceDays_11 : decode cX12_setServiceDays 11 = .ok (.if_icmp .eq 13, 3) := by decide +kernel
theorem dX12_setServiceDays_14 : decode cX12_setServiceDays 14 = .ok (.iload_n 2, 1) := by decide +kernel
theorem dX12_setServiceDays_15 : decode cX12_setServiceDays 15 = .ok (.iconst 0, 1) := by decide +kernel
theorem dX12_setServiceDays_16 : decode cX12_setServiceDays 16 = .ok (.bipush 30, 2) := by decide +kernel
theorem dX12_setServiceDays_18 : decode cX12_setServiceDays 18 = .ok (.invokestatic 64, 3) := by decide +kernel
theorem dX12_setServiceDays_21 : decode cX12_setServiceDays 21 = .ok (.ifCond .ne 7, 3) := by decide +kernel
theorem dX12_setServiceDays_24 : decode cX12_setServiceDays 24 = .ok (.iconst 1, 1) := by decide +kernel
theorem dX12_setServiceDays_25 : decode cX12_setServiceDays 25 = .ok (.goto 4, 3) := by decide +kernel
theorem dX12_setServiceDays_28 : decode cX12_setServiceDays 28 = .ok (.iconst 0, 1) := by decide +kernel
theorem dX12_setServiceDays_29 : decode cX12_setServiceDays 29 = .ok (.iconst 1, 1) := by decide +kernel
theorem dX12_setServiceDays_30 : decode cX12_setServiceDays 30 = .ok (.invokevirtual 55, 3) := by decide +kernel
theorem dX12_setServiceDays_33 : decode cX12_setServiceDays 33 = .ok (.ifCond .eq 5, 3) := by decide +kernel
theorem dX12_setServiceDays_36 : decode cX12_setServiceDays 36 = .ok (.iconst 0, 1) := by decide +kernel
theorem dX12_setServiceDays_37 : decode cX12_setServiceDays 37 = .ok (.ireturn, 1) := by decide +kernel
theorem dX12_setServiceDays_38 : decode cX12_setServiceDays 38 = .ok (.aload_n 0, 1) := by decide +kernel
theorem dX12_setServiceDays_39 : decode cX12_setServiceDays 39 = .ok (.invokevirtual 93, 3) := by decide +kernel
theorem dX12_setServiceDays_42 : decode cX12_setServiceDays 42 = .ok (.aload_n 0, 1) := by decide +kernel
theorem dX12_setServiceDays_43 : decode cX12_setServiceDays 43 = .ok (.getfield 9, 3) := by decide +kernel
theorem dX12_setServiceDays_46 : decode cX12_setServiceDays 46 = .ok (.sipush 135, 3) := by decide +kernel
theorem dX12_setServiceDays_49 : decode cX12_setServiceDays 49 = .ok (.iload_n 1, 1) := by decide +kernel
theorem dX12_setServiceDays_50 : decode cX12_setServiceDays 50 = .ok (.invokestatic 122, 3) := by decide +kernel
theorem dX12_setServiceDays_53 : decode cX12_setServiceDays 53 = .ok (.iadd, 1) := by decide +kernel
theorem dX12_setServiceDays_54 : decode cX12_setServiceDays 54 = .ok (.iaload, 1) := by decide +kernel
theorem dX12_setServiceDays_55 : decode cX12_setServiceDays 55 = .ok (.istore_n 3, 1) := by decide +kernel
theorem dX12_setServiceDays_56 : decode cX12_setServiceDays 56 = .ok (.aload_n 0, 1) := by decide +kernel
theorem dX12_setServiceDays_57 : decode cX12_setServiceDays 57 = .ok (.getfield 9, 3) := by decide +kernel
theorem dX12_setServiceDays_60 : decode cX12_setServiceDays 60 = .ok (.sipush 135, 3) := by decide +kernel
theorem dX12_setServiceDays_63 : decode cX12_setServiceDays 63 = .ok (.iload_n 1, 1) := by decide +kernel
theorem dX12_setServiceDays_64 : decode cX12_setServiceDays 64 = .ok (.invokestatic 122, 3) := by decide +kernel
theorem dX12_setServiceDays_67 : decode cX12_setServiceDays 67 = .ok (.iadd, 1) := by decide +kernel
theorem dX12_setServiceDays_68 : decode cX12_setServiceDays 68 = .ok (.iload_n 2, 1) := by decide +kernel
theorem dX12_setServiceDays_69 : decode cX12_setServiceDays 69 = .ok (.iastore, 1) := by decide +kernel
theorem dX12_setServiceDays_70 : decode cX12_setServiceDays 70 = .ok (.iload_n 3, 1) := by decide +kernel
theorem dX12_setServiceDays_71 : decode cX12_setServiceDays 71 = .ok (.ireturn, 1) := by decide +kernel
theorem dX12_serviceDays_0 : decode cX12_serviceDays 0 = .ok (.aload_n 0, 1) := by decide +kernel
theorem dX12_serviceDays_1 : decode cX12_serviceDays 1 = .ok (.iconst 0, 1) := by decide +kernel
theorem dX12_serviceDays_2 : decode cX12_serviceDays 2 = .ok (.putfield 41, 3) := by decide +kernel
theorem dX12_serviceDays_5 : decode cX12_serviceDays 5 = .ok (.aload_n 0, 1) := by decide +kernel
theorem dX12_serviceDays_6 : decode cX12_serviceDays 6 = .ok (.iload_n 1, 1) := by decide +kernel
theorem dX12_serviceDays_7 : decode cX12_serviceDays 7 = .ok (.invokestatic 122, 3) := by decide +kernel
theorem dX12_serviceDays_10 : decode cX12_serviceDays 10 = .ok (.iconst (-1), 1) := by decide +kernel
theorem dX12_serviceDays_11 : decode cX12_serviceDays 11 = .ok (.if_icmp .ne 7, 3) := by decide +kernel
theorem dX12_serviceDays_14 : decode cX12_serviceDays 14 = .ok (.iconst 1, 1) := by decide +kernel
theorem dX12_serviceDays_15 : decode cX12_serviceDays 15 = .ok (.goto 4, 3) := by decide +kernel
theorem dX12_serviceDays_18 : decode cX12_serviceDays 18 = .ok (.iconst 0, 1) := by decide +kernel
theorem dX12_serviceDays_19 : decode cX12_serviceDays 19 = .ok (.iconst 1, 1) := by decide +kernel
theorem dX12_serviceDays_20 : decode cX12_serviceDays 20 = .ok (.invokevirtual 55, 3) := by decide +kernel
theorem dX12_serviceDays_23 : decode cX12_serviceDays 23 = .ok (.ifCond .eq 7, 3) := by decide +kernel
theorem dX12_serviceDays_26 : decode cX12_serviceDays 26 = .ok (.iconst 0, 1) := by decide +kernel
theorem dX12_serviceDays_27 : decode cX12_serviceDays 27 = .ok (.goto 16, 3) := by decide +kernel
theorem dX12_serviceDays_30 : decode cX12_serviceDays 30 = .ok (.aload_n 0, 1) := by decide +kernel
theorem dX12_serviceDays_31 : decode cX12_serviceDays 31 = .ok (.getfield 9, 3) := by decide +kernel
theorem dX12_serviceDays_34 : decode cX12_serviceDays 34 = .ok (.sipush 135, 3) := by decide +kernel
theorem dX12_serviceDays_37 : decode cX12_serviceDays 37 = .ok (.iload_n 1, 1) := by decide +kernel
theorem dX12_serviceDays_38 : decode cX12_serviceDays 38 = .ok (.invokestatic 122, 3) := by decide +kernel
theorem dX12_serviceDays_41 : decode cX12_serviceDays 41 = .ok (.iadd, 1) := by decide +kernel
theorem dX12_serviceDays_42 : decode cX12_serviceDays 42 = .ok (.iaload, 1) := by decide +kernel
theorem dX12_serviceDays_43 : decode cX12_serviceDays 43 = .ok (.ireturn, 1) := by decide +kernel
theorem dX12_lastDayBefore_0 : decode cX12_lastDayBefore 0 = .ok (.aload_n 0, 1) := by decide +kernel
theorem dX12_lastDayBefore_1 : decode cX12_lastDayBefore 1 = .ok (.iconst 0, 1) := by decide +kernel
theorem dX12_lastDayBefore_2 : decode cX12_lastDayBefore 2 = .ok (.putfield 41, 3) := by decide +kernel
theorem dX12_lastDayBefore_5 : decode cX12_lastDayBefore 5 = .ok (.aload_n 0, 1) := by decide +kernel
theorem dX12_lastDayBefore_6 : decode cX12_lastDayBefore 6 = .ok (.iload_n 1, 1) := by decide +kernel
theorem dX12_lastDayBefore_7 : decode cX12_lastDayBefore 7 = .ok (.invokestatic 119, 3) := by decide +kernel
theorem dX12_lastDayBefore_10 : decode cX12_lastDayBefore 10 = .ok (.iconst 1, 1) := by decide +kernel
theorem dX12_lastDayBefore_11 : decode cX12_lastDayBefore 11 = .ok (.invokevirtual 55, 3) := by decide +kernel
theorem dX12_lastDayBefore_14 : decode cX12_lastDayBefore 14 = .ok (.ifCond .ne 23, 3) := by decide +kernel
theorem dX12_lastDayBefore_17 : decode cX12_lastDayBefore 17 = .ok (.aload_n 0, 1) := by decide +kernel
theorem dX12_lastDayBefore_18 : decode cX12_lastDayBefore 18 = .ok (.iload_n 2, 1) := by decide +kernel
theorem dX12_lastDayBefore_19 : decode cX12_lastDayBefore 19 = .ok (.invokestatic 106, 3) := by decide +kernel
theorem dX12_lastDayBefore_22 : decode cX12_lastDayBefore 22 = .ok (.ifCond .ne 7, 3) := by decide +kernel
theorem dX12_lastDayBefore_25 : decode cX12_lastDayBefore 25 = .ok (.iconst 1, 1) := by decide +kernel
theorem dX12_lastDayBefore_26 : decode cX12_lastDayBefore 26 = .ok (.goto 4, 3) := by decide +kernel
theorem dX12_lastDayBefore_29 : decode cX12_lastDayBefore 29 = .ok (.iconst 0, 1) := by decide +kernel
theorem dX12_lastDayBefore_30 : decode cX12_lastDayBefore 30 = .ok (.iconst 2, 1) := by decide +kernel
theorem dX12_lastDayBefore_31 : decode cX12_lastDayBefore 31 = .ok (.invokevirtual 55, 3) := by decide +kernel
theorem dX12_lastDayBefore_34 : decode cX12_lastDayBefore 34 = .ok (.ifCond .eq 5, 3) := by decide +kernel
theorem dX12_lastDayBefore_37 : decode cX12_lastDayBefore 37 = .ok (.iconst 0, 1) := by decide +kernel
theorem dX12_lastDayBefore_38 : decode cX12_lastDayBefore 38 = .ok (.ireturn, 1) := by decide +kernel
theorem dX12_lastDayBefore_39 : decode cX12_lastDayBefore 39 = .ok (.aload_n 0, 1) := by decide +kernel
theorem dX12_lastDayBefore_40 : decode cX12_lastDayBefore 40 = .ok (.getfield 9, 3) := by decide +kernel
theorem dX12_lastDayBefore_43 : decode cX12_lastDayBefore 43 = .ok (.bipush 119, 2) := by decide +kernel
theorem dX12_lastDayBefore_45 : decode cX12_lastDayBefore 45 = .ok (.iconst 2, 1) := by decide +kernel
theorem dX12_lastDayBefore_46 : decode cX12_lastDayBefore 46 = .ok (.iload_n 1, 1) := by decide +kernel
theorem dX12_lastDayBefore_47 : decode cX12_lastDayBefore 47 = .ok (.imul, 1) := by decide +kernel
theorem dX12_lastDayBefore_48 : decode cX12_lastDayBefore 48 = .ok (.iadd, 1) := by decide +kernel
theorem dX12_lastDayBefore_49 : decode cX12_lastDayBefore 49 = .ok (.iaload, 1) := by decide +kernel
theorem dX12_lastDayBefore_50 : decode cX12_lastDayBefore 50 = .ok (.istore_n 3, 1) := by decide +kernel
theorem dX12_lastDayBefore_51 : decode cX12_lastDayBefore 51 = .ok (.aload_n 0, 1) := by decide +kernel
theorem dX12_lastDayBefore_52 : decode cX12_lastDayBefore 52 = .ok (.getfield 9, 3) := by decide +kernel
theorem dX12_lastDayBefore_55 : decode cX12_lastDayBefore 55 = .ok (.bipush 119, 2) := by decide +kernel
theorem dX12_lastDayBefore_57 : decode cX12_lastDayBefore 57 = .ok (.iconst 2, 1) := by decide +kernel
theorem dX12_lastDayBefore_58 : decode cX12_lastDayBefore 58 = .ok (.iload_n 1, 1) := by decide +kernel
theorem dX12_lastDayBefore_59 : decode cX12_lastDayBefore 59 = .ok (.imul, 1) := by decide +kernel
theorem dX12_lastDayBefore_60 : decode cX12_lastDayBefore 60 = .ok (.iadd, 1) := by decide +kernel
theorem dX12_lastDayBefore_61 : decode cX12_lastDayBefore 61 = .ok (.iconst 1, 1) := by decide +kernel
theorem dX12_lastDayBefore_62 : decode cX12_lastDayBefore 62 = .ok (.iadd, 1) := by decide +kernel
theorem dX12_lastDayBefore_63 : decode cX12_lastDayBefore 63 = .ok (.iaload, 1) := by decide +kernel
theorem dX12_lastDayBefore_64 : decode cX12_lastDayBefore 64 = .ok (.iconst 1, 1) := by decide +kernel
theorem dX12_lastDayBefore_65 : decode cX12_lastDayBefore 65 = .ok (.if_icmp .ne 7, 3) := by decide +kernel
theorem dX12_lastDayBefore_68 : decode cX12_lastDayBefore 68 = .ok (.iconst 1, 1) := by decide +kernel
theorem dX12_lastDayBefore_69 : decode cX12_lastDayBefore 69 = .ok (.goto 4, 3) := by decide +kernel
theorem dX12_lastDayBefore_72 : decode cX12_lastDayBefore 72 = .ok (.iconst 0, 1) := by decide +kernel
theorem dX12_lastDayBefore_73 : decode cX12_lastDayBefore 73 = .ok (.istore 4, 2) := by decide +kernel
theorem dX12_lastDayBefore_75 : decode cX12_lastDayBefore 75 = .ok (.iload_n 2, 1) := by decide +kernel
theorem dX12_lastDayBefore_76 : decode cX12_lastDayBefore 76 = .ok (.istore 5, 2) := by decide +kernel
theorem dX12_lastDayBefore_78 : decode cX12_lastDayBefore 78 = .ok (.iload 5, 2) := by decide +kernel
theorem dX12_lastDayBefore_80 : decode cX12_lastDayBefore 80 = .ok (.ifCond .lt 40, 3) := by decide +kernel
theorem dX12_lastDayBefore_83 : decode cX12_lastDayBefore 83 = .ok (.iload_n 3, 1) := by decide +kernel
theorem dX12_lastDayBefore_84 : decode cX12_lastDayBefore 84 = .ok (.ifCond .le 36, 3) := by decide +kernel
theorem dX12_lastDayBefore_87 : decode cX12_lastDayBefore 87 = .ok (.iinc 5 (-1), 3) := by decide +kernel
theorem dX12_lastDayBefore_90 : decode cX12_lastDayBefore 90 = .ok (.iload_n 3, 1) := by decide +kernel
theorem dX12_lastDayBefore_91 : decode cX12_lastDayBefore 91 = .ok (.iload 5, 2) := by decide +kernel
theorem dX12_lastDayBefore_93 : decode cX12_lastDayBefore 93 = .ok (.ifCond .lt 21, 3) := by decide +kernel
theorem dX12_lastDayBefore_96 : decode cX12_lastDayBefore 96 = .ok (.iload 4, 2) := by decide +kernel
theorem dX12_lastDayBefore_98 : decode cX12_lastDayBefore 98 = .ok (.ifCond .eq 12, 3) := by decide +kernel
theorem dX12_lastDayBefore_101 : decode cX12_lastDayBefore 101 = .ok (.aload_n 0, 1) := by decide +kernel
theorem dX12_lastDayBefore_102 : decode cX12_lastDayBefore 102 = .ok (.iload 5, 2) := by decide +kernel
theorem dX12_lastDayBefore_104 : decode cX12_lastDayBefore 104 = .ok (.invokevirtual 112, 3) := by decide +kernel
theorem dX12_lastDayBefore_107 : decode cX12_lastDayBefore 107 = .ok (.ifCond .eq 7, 3) := by decide +kernel
theorem dX12_lastDayBefore_110 : decode cX12_lastDayBefore 110 = .ok (.iconst 1, 1) := by decide +kernel
theorem dX12_lastDayBefore_111 : decode cX12_lastDayBefore 111 = .ok (.goto 4, 3) := by decide +kernel
theorem dX12_lastDayBefore_114 : decode cX12_lastDayBefore 114 = .ok (.iconst 0, 1) := by decide +kernel
theorem dX12_lastDayBefore_115 : decode cX12_lastDayBefore 115 = .ok (.isub, 1) := by decide +kernel
theorem dX12_lastDayBefore_116 : decode cX12_lastDayBefore 116 = .ok (.istore_n 3, 1) := by decide +kernel
theorem dX12_lastDayBefore_117 : decode cX12_lastDayBefore 117 = .ok (.goto (-39), 3) := by decide +kernel
theorem dX12_lastDayBefore_120 : decode cX12_lastDayBefore 120 = .ok (.iload 5, 2) := by decide +kernel
theorem dX12_lastDayBefore_122 : decode cX12_lastDayBefore 122 = .ok (.ifCond .lt 18, 3) := by decide +kernel
theorem dX12_lastDayBefore_125 : decode cX12_lastDayBefore 125 = .ok (.aload_n 0, 1) := by decide +kernel
theorem dX12_lastDayBefore_126 : decode cX12_lastDayBefore 126 = .ok (.iload 5, 2) := by decide +kernel
theorem dX12_lastDayBefore_128 : decode cX12_lastDayBefore 128 = .ok (.invokevirtual 112, 3) := by decide +kernel
theorem dX12_lastDayBefore_131 : decode cX12_lastDayBefore 131 = .ok (.ifCond .ne 9, 3) := by decide +kernel
theorem dX12_lastDayBefore_134 : decode cX12_lastDayBefore 134 = .ok (.iinc 5 (-1), 3) := by decide +kernel
theorem dX12_lastDayBefore_137 : decode cX12_lastDayBefore 137 = .ok (.goto (-17), 3) := by decide +kernel
theorem dX12_lastDayBefore_140 : decode cX12_lastDayBefore 140 = .ok (.aload_n 0, 1) := by decide +kernel
theorem dX12_lastDayBefore_141 : decode cX12_lastDayBefore 141 = .ok (.iload 5, 2) := by decide +kernel
theorem dX12_lastDayBefore_143 : decode cX12_lastDayBefore 143 = .ok (.ifCond .ge 7, 3) := by decide +kernel
theorem dX12_lastDayBefore_146 : decode cX12_lastDayBefore 146 = .ok (.iconst 1, 1) := by decide +kernel
theorem dX12_lastDayBefore_147 : decode cX12_lastDayBefore 147 = .ok (.goto 4, 3) := by decide +kernel
theorem dX12_lastDayBefore_150 : decode cX12_lastDayBefore 150 = .ok (.iconst 0, 1) := by decide +kernel
theorem dX12_lastDayBefore_151 : decode cX12_lastDayBefore 151 = .ok (.iconst 3, 1) := by decide +kernel
theorem dX12_lastDayBefore_152 : decode cX12_lastDayBefore 152 = .ok (.invokevirtual 55, 3) := by decide +kernel
theorem dX12_lastDayBefore_155 : decode cX12_lastDayBefore 155 = .ok (.ifCond .eq 7, 3) := by decide +kernel
theorem dX12_lastDayBefore_158 : decode cX12_lastDayBefore 158 = .ok (.iconst 0, 1) := by decide +kernel
theorem dX12_lastDayBefore_159 : decode cX12_lastDayBefore 159 = .ok (.goto 5, 3) := by decide +kernel
theorem dX12_lastDayBefore_162 : decode cX12_lastDayBefore 162 = .ok (.iload 5, 2) := by decide +kernel
theorem dX12_lastDayBefore_164 : decode cX12_lastDayBefore 164 = .ok (.ireturn, 1) := by decide +kernel
theorem dX12_lastDayBeforeByMarking_0 : decode cX12_lastDayBeforeByMarking 0 = .ok (.aload_n 0, 1) := by decide +kernel
theorem dX12_lastDayBeforeByMarking_1 : decode cX12_lastDayBeforeByMarking 1 = .ok (.iload_n 1, 1) := by decide +kernel
theorem dX12_lastDayBeforeByMarking_2 : decode cX12_lastDayBeforeByMarking 2 = .ok (.iload_n 2, 1) := by decide +kernel
theorem dX12_lastDayBeforeByMarking_3 : decode cX12_lastDayBeforeByMarking 3 = .ok (.invokevirtual 125, 3) := by decide +kernel
theorem dX12_lastDayBeforeByMarking_6 : decode cX12_lastDayBeforeByMarking 6 = .ok (.ireturn, 1) := by decide +kernel
theorem dX12_deadlineAt_0 : decode cX12_deadlineAt 0 = .ok (.sipush 139, 3) := by decide +kernel
theorem dX12_deadlineAt_3 : decode cX12_deadlineAt 3 = .ok (.bipush 16, 2) := by decide +kernel
theorem dX12_deadlineAt_5 : decode cX12_deadlineAt 5 = .ok (.iload_n 0, 1) := by decide +kernel
theorem dX12_deadlineAt_6 : decode cX12_deadlineAt 6 = .ok (.imul, 1) := by decide +kernel
theorem dX12_deadlineAt_7 : decode cX12_deadlineAt 7 = .ok (.iadd, 1) := by decide +kernel
theorem dX12_deadlineAt_8 : decode cX12_deadlineAt 8 = .ok (.ireturn, 1) := by decide +kernel
theorem dX12_of_0 : decode cX12_of 0 = .ok (.aload_n 0, 1) := by decide +kernel
theorem dX12_of_1 : decode cX12_of 1 = .ok (.getfield 9, 3) := by decide +kernel
theorem dX12_of_4 : decode cX12_of 4 = .ok (.iload_n 1, 1) := by decide +kernel
theorem dX12_of_5 : decode cX12_of 5 = .ok (.invokestatic 128, 3) := by decide +kernel
theorem dX12_of_8 : decode cX12_of 8 = .ok (.iload_n 2, 1) := by decide +kernel
theorem dX12_of_9 : decode cX12_of 9 = .ok (.iadd, 1) := by decide +kernel
theorem dX12_of_10 : decode cX12_of 10 = .ok (.iaload, 1) := by decide +kernel
theorem dX12_of_11 : decode cX12_of 11 = .ok (.ireturn, 1) := by decide +kernel
theorem dX12_noDeadline_0 : decode cX12_noDeadline 0 = .ok (.iload_n 1, 1) := by decide +kernel
theorem dX12_noDeadline_1 : decode cX12_noDeadline 1 = .ok (.iconst 0, 1) := by decide +kernel
theorem dX12_noDeadline_2 : decode cX12_noDeadline 2 = .ok (.aload_n 0, 1) := by decide +kernel
theorem dX12_noDeadline_3 : decode cX12_noDeadline 3 = .ok (.getfield 9, 3) := by decide +kernel
theorem dX12_noDeadline_6 : decode cX12_noDeadline 6 = .ok (.iconst 3, 1) := by decide +kernel
theorem dX12_noDeadline_7 : decode cX12_noDeadline 7 = .ok (.iaload, 1) := by decide +kernel
theorem dX12_noDeadline_8 : decode cX12_noDeadline 8 = .ok (.iconst 1, 1) := by decide +kernel
theorem dX12_noDeadline_9 : decode cX12_noDeadline 9 = .ok (.isub, 1) := by decide +kernel
theorem dX12_noDeadline_10 : decode cX12_noDeadline 10 = .ok (.invokestatic 64, 3) := by decide +kernel
theorem dX12_noDeadline_13 : decode cX12_noDeadline 13 = .ok (.ifCond .ne 7, 3) := by decide +kernel
theorem dX12_noDeadline_16 : decode cX12_noDeadline 16 = .ok (.iconst 1, 1) := by decide +kernel
theorem dX12_noDeadline_17 : decode cX12_noDeadline 17 = .ok (.goto 4, 3) := by decide +kernel
theorem dX12_noDeadline_20 : decode cX12_noDeadline 20 = .ok (.iconst 0, 1) := by decide +kernel
theorem dX12_noDeadline_21 : decode cX12_noDeadline 21 = .ok (.ireturn, 1) := by decide +kernel
theorem dX12_isOpen_0 : decode cX12_isOpen 0 = .ok (.aload_n 0, 1) := by decide +kernel
theorem dX12_isOpen_1 : decode cX12_isOpen 1 = .ok (.iload_n 1, 1) := by decide +kernel
theorem dX12_isOpen_2 : decode cX12_isOpen 2 = .ok (.bipush 6, 2) := by decide +kernel
theorem dX12_isOpen_4 : decode cX12_isOpen 4 = .ok (.invokevirtual 131, 3) := by decide +kernel
theorem dX12_isOpen_7 : decode cX12_isOpen 7 = .ok (.bipush 111, 2) := by decide +kernel
theorem dX12_isOpen_9 : decode cX12_isOpen 9 = .ok (.if_icmp .ne 7, 3) := by decide +kernel
theorem dX12_isOpen_12 : decode cX12_isOpen 12 = .ok (.iconst 1, 1) := by decide +kernel
theorem dX12_isOpen_13 : decode cX12_isOpen 13 = .ok (.goto 4, 3) := by decide +kernel
theorem dX12_isOpen_16 : decode cX12_isOpen 16 = .ok (.iconst 0, 1) := by decide +kernel
theorem dX12_isOpen_17 : decode cX12_isOpen 17 = .ok (.ireturn, 1) := by decide +kernel
theorem dX12_serve_0 : decode cX12_serve 0 = .ok (.aload_n 0, 1) := by decide +kernel
theorem dX12_serve_1 : decode cX12_serve 1 = .ok (.iconst 0, 1) := by decide +kernel
theorem dX12_serve_2 : decode cX12_serve 2 = .ok (.putfield 41, 3) := by decide +kernel
theorem dX12_serve_5 : decode cX12_serve 5 = .ok (.aload_n 0, 1) := by decide +kernel
theorem dX12_serve_6 : decode cX12_serve 6 = .ok (.aload_n 0, 1) := by decide +kernel
theorem dX12_serve_7 : decode cX12_serve 7 = .ok (.iload_n 1, 1) := by decide +kernel
theorem dX12_serve_8 : decode cX12_serve 8 = .ok (.invokevirtual 96, 3) := by decide +kernel
theorem dX12_serve_11 : decode cX12_serve 11 = .ok (.ifCond .ne 10, 3) := by decide +kernel
theorem dX12_serve_14 : decode cX12_serve 14 = .ok (.iload_n 2, 1) := by decide +kernel
theorem dX12_serve_15 : decode cX12_serve 15 = .ok (.invokestatic 119, 3) := by decide +kernel
theorem dX12_serve_18 : decode cX12_serve 18 = .ok (.ifCond .eq 7, 3) := by decide +kernel
theorem dX12_serve_21 : decode cX12_serve 21 = .ok (.iconst 1, 1) := by decide +kernel
theorem dX12_serve_22 : decode cX12_serve 22 = .ok (.goto 4, 3) := by decide +kernel
theorem dX12_serve_25 : decode cX12_serve 25 = .ok (.iconst 0, 1) := by decide +kernel
theorem dX12_serve_26 : decode cX12_serve 26 = .ok (.iconst 1, 1) := by decide +kernel
theorem dX12_serve_27 : decode cX12_serve 27 = .ok (.invokevirtual 55, 3) := by decide +kernel
theorem dX12_serve_30 : decode cX12_serve 30 = .ok (.ifCond .ne 48, 3) := by decide +kernel
theorem dX12_serve_33 : decode cX12_serve 33 = .ok (.aload_n 0, 1) := by decide +kernel
theorem dX12_serve_34 : decode cX12_serve 34 = .ok (.iload_n 3, 1) := by decide +kernel
theorem dX12_serve_35 : decode cX12_serve 35 = .ok (.invokestatic 122, 3) := by decide +kernel
theorem dX12_serve_38 : decode cX12_serve 38 = .ok (.iconst (-1), 1) := by decide +kernel
theorem dX12_serve_39 : decode cX12_serve 39 = .ok (.if_icmp .ne 7, 3) := by decide +kernel
theorem dX12_serve_42 : decode cX12_serve 42 = .ok (.iconst 1, 1) := by decide +kernel
theorem dX12_serve_43 : decode cX12_serve 43 = .ok (.goto 4, 3) := by decide +kernel
theorem dX12_serve_46 : decode cX12_serve 46 = .ok (.iconst 0, 1) := by decide +kernel
theorem dX12_serve_47 : decode cX12_serve 47 = .ok (.iconst 2, 1) := by decide +kernel
theorem dX12_serve_48 : decode cX12_serve 48 = .ok (.invokevirtual 55, 3) := by decide +kernel
theorem dX12_serve_51 : decode cX12_serve 51 = .ok (.ifCond .ne 27, 3) := by decide +kernel
theorem dX12_serve_54 : decode cX12_serve 54 = .ok (.aload_n 0, 1) := by decide +kernel
theorem dX12_serve_55 : decode cX12_serve 55 = .ok (.aload_n 0, 1) := by decide +kernel
theorem dX12_serve_56 : decode cX12_serve 56 = .ok (.getfield 9, 3) := by decide +kernel
theorem dX12_serve_59 : decode cX12_serve 59 = .ok (.iconst 3, 1) := by decide +kernel
theorem dX12_serve_60 : decode cX12_serve 60 = .ok (.iaload, 1) := by decide +kernel
theorem dX12_serve_61 : decode cX12_serve 61 = .ok (.bipush 30, 2) := by decide +kernel
theorem dX12_serve_63 : decode cX12_serve 63 = .ok (.if_icmp .ne 7, 3) := by decide +kernel
theorem dX12_serve_66 : decode cX12_serve 66 = .ok (.iconst 1, 1) := by decide +kernel
theorem dX12_serve_67 : decode cX12_serve 67 = .ok (.goto 4, 3) := by decide +kernel
theorem dX12_serve_70 : decode cX12_serve 70 = .ok (.iconst 0, 1) := by decide +kernel
theorem dX12_serve_71 : decode cX12_serve 71 = .ok (.iconst 3, 1) := by decide +kernel
theorem dX12_serve_72 : decode cX12_serve 72 = .ok (.invokevirtual 55, 3) := by decide +kernel
theorem dX12_serve_75 : decode cX12_serve 75 = .ok (.ifCond .eq 5, 3) := by decide +kernel
theorem dX12_serve_78 : decode cX12_serve 78 = .ok (.iconst 0, 1) := by decide +kernel
theorem dX12_serve_79 : decode cX12_serve 79 = .ok (.ireturn, 1) := by decide +kernel
theorem dX12_serve_80 : decode cX12_serve 80 = .ok (.aload_n 0, 1) := by decide +kernel
theorem dX12_serve_81 : decode cX12_serve 81 = .ok (.invokevirtual 93, 3) := by decide +kernel
theorem dX12_serve_84 : decode cX12_serve 84 = .ok (.aload_n 0, 1) := by decide +kernel
theorem dX12_serve_85 : decode cX12_serve 85 = .ok (.getfield 9, 3) := by decide +kernel
theorem dX12_serve_88 : decode cX12_serve 88 = .ok (.iconst 3, 1) := by decide +kernel
theorem dX12_serve_89 : decode cX12_serve 89 = .ok (.iaload, 1) := by decide +kernel
theorem dX12_serve_90 : decode cX12_serve 90 = .ok (.invokestatic 128, 3) := by decide +kernel
theorem dX12_serve_93 : decode cX12_serve 93 = .ok (.istore 4, 2) := by decide +kernel
theorem dX12_serve_95 : decode cX12_serve 95 = .ok (.iconst 0, 1) := by decide +kernel
theorem dX12_serve_96 : decode cX12_serve 96 = .ok (.istore 5, 2) := by decide +kernel
theorem dX12_serve_98 : decode cX12_serve 98 = .ok (.iload 5, 2) := by decide +kernel
theorem dX12_serve_100 : decode cX12_serve 100 = .ok (.bipush 16, 2) := by decide +kernel
theorem dX12_serve_102 : decode cX12_serve 102 = .ok (.if_icmp .ge 20, 3) := by decide +kernel
theorem dX12_serve_105 : decode cX12_serve 105 = .ok (.aload_n 0, 1) := by decide +kernel
theorem dX12_serve_106 : decode cX12_serve 106 = .ok (.getfield 9, 3) := by decide +kernel
theorem dX12_serve_109 : decode cX12_serve 109 = .ok (.iload 4, 2) := by decide +kernel
theorem dX12_serve_111 : decode cX12_serve 111 = .ok (.iload 5, 2) := by decide +kernel
theorem dX12_serve_113 : decode cX12_serve 113 = .ok (.iadd, 1) := by decide +kernel
theorem dX12_serve_114 : decode cX12_serve 114 = .ok (.iconst 0, 1) := by decide +kernel
theorem dX12_serve_115 : decode cX12_serve 115 = .ok (.iastore, 1) := by decide +kernel
theorem dX12_serve_116 : decode cX12_serve 116 = .ok (.iinc 5 1, 3) := by decide +kernel
theorem dX12_serve_119 : decode cX12_serve 119 = .ok (.goto (-21), 3) := by decide +kernel
theorem dX12_serve_122 : decode cX12_serve 122 = .ok (.aload_n 0, 1) := by decide +kernel
theorem dX12_serve_123 : decode cX12_serve 123 = .ok (.getfield 9, 3) := by decide +kernel
theorem dX12_serve_126 : decode cX12_serve 126 = .ok (.iload 4, 2) := by decide +kernel
theorem dX12_serve_128 : decode cX12_serve 128 = .ok (.iconst 0, 1) := by decide +kernel
theorem dX12_serve_129 : decode cX12_serve 129 = .ok (.iadd, 1) := by decide +kernel
theorem dX12_serve_130 : decode cX12_serve 130 = .ok (.iload_n 1, 1) := by decide +kernel
theorem dX12_serve_131 : decode cX12_serve 131 = .ok (.iastore, 1) := by decide +kernel
theorem dX12_serve_132 : decode cX12_serve 132 = .ok (.aload_n 0, 1) := by decide +kernel
theorem dX12_serve_133 : decode cX12_serve 133 = .ok (.getfield 9, 3) := by decide +kernel
theorem dX12_serve_136 : decode cX12_serve 136 = .ok (.iload 4, 2) := by decide +kernel
theorem dX12_serve_138 : decode cX12_serve 138 = .ok (.iconst 1, 1) := by decide +kernel
theorem dX12_serve_139 : decode cX12_serve 139 = .ok (.iadd, 1) := by decide +kernel
theorem dX12_serve_140 : decode cX12_serve 140 = .ok (.iload_n 2, 1) := by decide +kernel
theorem dX12_serve_141 : decode cX12_serve 141 = .ok (.iastore, 1) := by decide +kernel
theorem dX12_serve_142 : decode cX12_serve 142 = .ok (.aload_n 0, 1) := by decide +kernel
theorem dX12_serve_143 : decode cX12_serve 143 = .ok (.getfield 9, 3) := by decide +kernel
theorem dX12_serve_146 : decode cX12_serve 146 = .ok (.iload 4, 2) := by decide +kernel
theorem dX12_serve_148 : decode cX12_serve 148 = .ok (.iconst 2, 1) := by decide +kernel
theorem dX12_serve_149 : decode cX12_serve 149 = .ok (.iadd, 1) := by decide +kernel
theorem dX12_serve_150 : decode cX12_serve 150 = .ok (.aload_n 0, 1) := by decide +kernel
theorem dX12_serve_151 : decode cX12_serve 151 = .ok (.getfield 9, 3) := by decide +kernel
theorem dX12_serve_154 : decode cX12_serve 154 = .ok (.iconst 0, 1) := by decide +kernel
theorem dX12_serve_155 : decode cX12_serve 155 = .ok (.iaload, 1) := by decide +kernel
theorem dX12_serve_156 : decode cX12_serve 156 = .ok (.iastore, 1) := by decide +kernel
theorem dX12_serve_157 : decode cX12_serve 157 = .ok (.aload_n 0, 1) := by decide +kernel
theorem dX12_serve_158 : decode cX12_serve 158 = .ok (.getfield 9, 3) := by decide +kernel
theorem dX12_serve_161 : decode cX12_serve 161 = .ok (.iload 4, 2) := by decide +kernel
theorem dX12_serve_163 : decode cX12_serve 163 = .ok (.iconst 3, 1) := by decide +kernel
theorem dX12_serve_164 : decode cX12_serve 164 = .ok (.iadd, 1) := by decide +kernel
theorem dX12_serve_165 : decode cX12_serve 165 = .ok (.aload_n 0, 1) := by decide +kernel
theorem dX12_serve_166 : decode cX12_serve 166 = .ok (.getfield 9, 3) := by decide +kernel
theorem dX12_serve_169 : decode cX12_serve 169 = .ok (.bipush 119, 2) := by decide +kernel
theorem dX12_serve_171 : decode cX12_serve 171 = .ok (.iconst 2, 1) := by decide +kernel
theorem dX12_serve_172 : decode cX12_serve 172 = .ok (.iload_n 2, 1) := by decide +kernel
theorem dX12_serve_173 : decode cX12_serve 173 = .ok (.imul, 1) := by decide +kernel
theorem dX12_serve_174 : decode cX12_serve 174 = .ok (.iadd, 1) := by decide +kernel
theorem dX12_serve_175 : decode cX12_serve 175 = .ok (.iaload, 1) := by decide +kernel
theorem dX12_serve_176 : decode cX12_serve 176 = .ok (.iastore, 1) := by decide +kernel
theorem dX12_serve_177 : decode cX12_serve 177 = .ok (.aload_n 0, 1) := by decide +kernel
theorem dX12_serve_178 : decode cX12_serve 178 = .ok (.getfield 9, 3) := by decide +kernel
theorem dX12_serve_181 : decode cX12_serve 181 = .ok (.iload 4, 2) := by decide +kernel
theorem dX12_serve_183 : decode cX12_serve 183 = .ok (.iconst 4, 1) := by decide +kernel
theorem dX12_serve_184 : decode cX12_serve 184 = .ok (.iadd, 1) := by decide +kernel
theorem dX12_serve_185 : decode cX12_serve 185 = .ok (.aload_n 0, 1) := by decide +kernel
theorem dX12_serve_186 : decode cX12_serve 186 = .ok (.getfield 9, 3) := by decide +kernel
theorem dX12_serve_189 : decode cX12_serve 189 = .ok (.bipush 119, 2) := by decide +kernel
theorem dX12_serve_191 : decode cX12_serve 191 = .ok (.iconst 2, 1) := by decide +kernel
theorem dX12_serve_192 : decode cX12_serve 192 = .ok (.iload_n 2, 1) := by decide +kernel
theorem dX12_serve_193 : decode cX12_serve 193 = .ok (.imul, 1) := by decide +kernel
theorem dX12_serve_194 : decode cX12_serve 194 = .ok (.iadd, 1) := by decide +kernel
theorem dX12_serve_195 : decode cX12_serve 195 = .ok (.iconst 1, 1) := by decide +kernel
theorem dX12_serve_196 : decode cX12_serve 196 = .ok (.iadd, 1) := by decide +kernel
theorem dX12_serve_197 : decode cX12_serve 197 = .ok (.iaload, 1) := by decide +kernel
theorem dX12_serve_198 : decode cX12_serve 198 = .ok (.iastore, 1) := by decide +kernel
theorem dX12_serve_199 : decode cX12_serve 199 = .ok (.aload_n 0, 1) := by decide +kernel
theorem dX12_serve_200 : decode cX12_serve 200 = .ok (.getfield 9, 3) := by decide +kernel
theorem dX12_serve_203 : decode cX12_serve 203 = .ok (.iload 4, 2) := by decide +kernel
theorem dX12_serve_205 : decode cX12_serve 205 = .ok (.iconst 5, 1) := by decide +kernel
theorem dX12_serve_206 : decode cX12_serve 206 = .ok (.iadd, 1) := by decide +kernel
theorem dX12_serve_207 : decode cX12_serve 207 = .ok (.aload_n 0, 1) := by decide +kernel
theorem dX12_serve_208 : decode cX12_serve 208 = .ok (.getfield 9, 3) := by decide +kernel
theorem dX12_serve_211 : decode cX12_serve 211 = .ok (.sipush 135, 3) := by decide +kernel
theorem dX12_serve_214 : decode cX12_serve 214 = .ok (.iload_n 3, 1) := by decide +kernel
theorem dX12_serve_215 : decode cX12_serve 215 = .ok (.invokestatic 122, 3) := by decide +kernel
theorem dX12_serve_218 : decode cX12_serve 218 = .ok (.iadd, 1) := by decide +kernel
theorem dX12_serve_219 : decode cX12_serve 219 = .ok (.iaload, 1) := by decide +kernel
theorem dX12_serve_220 : decode cX12_serve 220 = .ok (.iastore, 1) := by decide +kernel
theorem dX12_serve_221 : decode cX12_serve 221 = .ok (.aload_n 0, 1) := by decide +kernel
theorem dX12_serve_222 : decode cX12_serve 222 = .ok (.getfield 9, 3) := by decide +kernel
theorem dX12_serve_225 : decode cX12_serve 225 = .ok (.iload 4, 2) := by decide +kernel
theorem dX12_serve_227 : decode cX12_serve 227 = .ok (.bipush 6, 2) := by decide +kernel
theorem dX12_serve_229 : decode cX12_serve 229 = .ok (.iadd, 1) := by decide +kernel
theorem dX12_serve_230 : decode cX12_serve 230 = .ok (.bipush 111, 2) := by decide +kernel
theorem dX12_serve_232 : decode cX12_serve 232 = .ok (.iastore, 1) := by decide +kernel
theorem dX12_serve_233 : decode cX12_serve 233 = .ok (.aload_n 0, 1) := by decide +kernel
theorem dX12_serve_234 : decode cX12_serve 234 = .ok (.getfield 9, 3) := by decide +kernel
theorem dX12_serve_237 : decode cX12_serve 237 = .ok (.iconst 3, 1) := by decide +kernel
theorem dX12_serve_238 : decode cX12_serve 238 = .ok (.dup2, 1) := by decide +kernel
theorem dX12_serve_239 : decode cX12_serve 239 = .ok (.iaload, 1) := by decide +kernel
theorem dX12_serve_240 : decode cX12_serve 240 = .ok (.iconst 1, 1) := by decide +kernel
theorem dX12_serve_241 : decode cX12_serve 241 = .ok (.iadd, 1) := by decide +kernel
theorem dX12_serve_242 : decode cX12_serve 242 = .ok (.iastore, 1) := by decide +kernel
theorem dX12_serve_243 : decode cX12_serve 243 = .ok (.aload_n 0, 1) := by decide +kernel
theorem dX12_serve_244 : decode cX12_serve 244 = .ok (.getfield 9, 3) := by decide +kernel
theorem dX12_serve_247 : decode cX12_serve 247 = .ok (.iconst 3, 1) := by decide +kernel
theorem dX12_serve_248 : decode cX12_serve 248 = .ok (.iaload, 1) := by decide +kernel
theorem dX12_serve_249 : decode cX12_serve 249 = .ok (.iconst 1, 1) := by decide +kernel
theorem dX12_serve_250 : decode cX12_serve 250 = .ok (.isub, 1) := by decide +kernel
theorem dX12_serve_251 : decode cX12_serve 251 = .ok (.ireturn, 1) := by decide +kernel
theorem dX12_deadlines_0 : decode cX12_deadlines 0 = .ok (.aload_n 0, 1) := by decide +kernel
theorem dX12_deadlines_1 : decode cX12_deadlines 1 = .ok (.iconst 0, 1) := by decide +kernel
theorem dX12_deadlines_2 : decode cX12_deadlines 2 = .ok (.putfield 41, 3) := by decide +kernel
theorem dX12_deadlines_5 : decode cX12_deadlines 5 = .ok (.aload_n 0, 1) := by decide +kernel
theorem dX12_deadlines_6 : decode cX12_deadlines 6 = .ok (.getfield 9, 3) := by decide +kernel
theorem dX12_deadlines_9 : decode cX12_deadlines 9 = .ok (.iconst 3, 1) := by decide +kernel
theorem dX12_deadlines_10 : decode cX12_deadlines 10 = .ok (.iaload, 1) := by decide +kernel
theorem dX12_deadlines_11 : decode cX12_deadlines 11 = .ok (.ireturn, 1) := by decide +kernel
theorem dX12_isStoppedFor_0 : decode cX12_isStoppedFor 0 = .ok (.iconst 0, 1) := by decide +kernel
theorem dX12_isStoppedFor_1 : decode cX12_isStoppedFor 1 = .ok (.istore 4, 2) := by decide +kernel
theorem dX12_isStoppedFor_3 : decode cX12_isStoppedFor 3 = .ok (.iload 4, 2) := by decide +kernel
theorem dX12_isStoppedFor_5 : decode cX12_isStoppedFor 5 = .ok (.aload_n 0, 1) := by decide +kernel
theorem dX12_isStoppedFor_6 : decode cX12_isStoppedFor 6 = .ok (.getfield 9, 3) := by decide +kernel
theorem dX12_isStoppedFor_9 : decode cX12_isStoppedFor 9 = .ok (.iconst 4, 1) := by decide +kernel
theorem dX12_isStoppedFor_10 : decode cX12_isStoppedFor 10 = .ok (.iaload, 1) := by decide +kernel
theorem dX12_isStoppedFor_11 : decode cX12_isStoppedFor 11 = .ok (.if_icmp .ge 111, 3) := by decide +kernel
theorem dX12_isStoppedFor_14 : decode cX12_isStoppedFor 14 = .ok (.sipush 619, 3) := by decide +kernel
theorem dX12_isStoppedFor_17 : decode cX12_isStoppedFor 17 = .ok (.iconst 4, 1) := by decide +kernel
theorem dX12_isStoppedFor_18 : decode cX12_isStoppedFor 18 = .ok (.iload 4, 2) := by decide +kernel
theorem dX12_isStoppedFor_20 : decode cX12_isStoppedFor 20 = .ok (.imul, 1) := by decide +kernel
theorem dX12_isStoppedFor_21 : decode cX12_isStoppedFor 21 = .ok (.iadd, 1) := by decide +kernel
theorem dX12_isStoppedFor_22 : decode cX12_isStoppedFor 22 = .ok (.istore 5, 2) := by decide +kernel
theorem dX12_isStoppedFor_24 : decode cX12_isStoppedFor 24 = .ok (.aload_n 0, 1) := by decide +kernel
theorem dX12_isStoppedFor_25 : decode cX12_isStoppedFor 25 = .ok (.getfield 9, 3) := by decide +kernel
theorem dX12_isStoppedFor_28 : decode cX12_isStoppedFor 28 = .ok (.iload 5, 2) := by decide +kernel
theorem dX12_isStoppedFor_30 : decode cX12_isStoppedFor 30 = .ok (.iaload, 1) := by decide +kernel
theorem dX12_isStoppedFor_31 : decode cX12_isStoppedFor 31 = .ok (.iconst (-1), 1) := by decide +kernel
theorem dX12_isStoppedFor_32 : decode cX12_isStoppedFor 32 = .ok (.if_icmp .eq 14, 3) := by decide +kernel
theorem dX12_isStoppedFor_35 : decode cX12_isStoppedFor 35 = .ok (.aload_n 0, 1) := by decide +kernel
theorem dX12_isStoppedFor_36 : decode cX12_isStoppedFor 36 = .ok (.getfield 9, 3) := by decide +kernel
theorem dX12_isStoppedFor_39 : decode cX12_isStoppedFor 39 = .ok (.iload 5, 2) := by decide +kernel
theorem dX12_isStoppedFor_41 : decode cX12_isStoppedFor 41 = .ok (.iaload, 1) := by decide +kernel
theorem dX12_isStoppedFor_42 : decode cX12_isStoppedFor 42 = .ok (.iload_n 1, 1) := by decide +kernel
theorem dX12_isStoppedFor_43 : decode cX12_isStoppedFor 43 = .ok (.if_icmp .ne 24, 3) := by decide +kernel
theorem dX12_isStoppedFor_46 : decode cX12_isStoppedFor 46 = .ok (.aload_n 0, 1) := by decide +kernel
theorem dX12_isStoppedFor_47 : decode cX12_isStoppedFor 47 = .ok (.getfield 9, 3) := by decide +kernel
theorem dX12_isStoppedFor_50 : decode cX12_isStoppedFor 50 = .ok (.iload 5, 2) := by decide +kernel
theorem dX12_isStoppedFor_52 : decode cX12_isStoppedFor 52 = .ok (.iconst 1, 1) := by decide +kernel
theorem dX12_isStoppedFor_53 : decode cX12_isStoppedFor 53 = .ok (.iadd, 1) := by decide +kernel
theorem dX12_isStoppedFor_54 : decode cX12_isStoppedFor 54 = .ok (.iaload, 1) := by decide +kernel
theorem dX12_isStoppedFor_55 : decode cX12_isStoppedFor 55 = .ok (.iload_n 2, 1) := by decide +kernel
theorem dX12_isStoppedFor_56 : decode cX12_isStoppedFor 56 = .ok (.ishr, 1) := by decide +kernel
theorem dX12_isStoppedFor_57 : decode cX12_isStoppedFor 57 = .ok (.iconst 1, 1) := by decide +kernel
theorem dX12_isStoppedFor_58 : decode cX12_isStoppedFor 58 = .ok (.iand, 1) := by decide +kernel
theorem dX12_isStoppedFor_59 : decode cX12_isStoppedFor 59 = .ok (.iconst 1, 1) := by decide +kernel
theorem dX12_isStoppedFor_60 : decode cX12_isStoppedFor 60 = .ok (.if_icmp .ne 7, 3) := by decide +kernel
theorem dX12_isStoppedFor_63 : decode cX12_isStoppedFor 63 = .ok (.iconst 1, 1) := by decide +kernel
theorem dX12_isStoppedFor_64 : decode cX12_isStoppedFor 64 = .ok (.goto 4, 3) := by decide +kernel
theorem dX12_isStoppedFor_67 : decode cX12_isStoppedFor 67 = .ok (.iconst 0, 1) := by decide +kernel
theorem dX12_isStoppedFor_68 : decode cX12_isStoppedFor 68 = .ok (.istore 6, 2) := by decide +kernel
theorem dX12_isStoppedFor_70 : decode cX12_isStoppedFor 70 = .ok (.iload 6, 2) := by decide +kernel
theorem dX12_isStoppedFor_72 : decode cX12_isStoppedFor 72 = .ok (.ifCond .eq 44, 3) := by decide +kernel
theorem dX12_isStoppedFor_75 : decode cX12_isStoppedFor 75 = .ok (.iload_n 3, 1) := by decide +kernel
theorem dX12_isStoppedFor_76 : decode cX12_isStoppedFor 76 = .ok (.aload_n 0, 1) := by decide +kernel
theorem dX12_isStoppedFor_77 : decode cX12_isStoppedFor 77 = .ok (.getfield 9, 3) := by decide +kernel
theorem dX12_isStoppedFor_80 : decode cX12_isStoppedFor 80 = .ok (.iload 5, 2) := by decide +kernel
theorem dX12_isStoppedFor_82 : decode cX12_isStoppedFor 82 = .ok (.iconst 2, 1) := by decide +kernel
theorem dX12_isStoppedFor_83 : decode cX12_isStoppedFor 83 = .ok (.iadd, 1) := by decide +kernel
theorem dX12_isStoppedFor_84 : decode cX12_isStoppedFor 84 = .ok (.iaload, 1) := by decide +kernel
theorem dX12_isStoppedFor_85 : decode cX12_isStoppedFor 85 = .ok (.if_icmp .le 31, 3) := by decide +kernel
theorem dX12_isStoppedFor_88 : decode cX12_isStoppedFor 88 = .ok (.aload_n 0, 1) := by decide +kernel
theorem dX12_isStoppedFor_89 : decode cX12_isStoppedFor 89 = .ok (.getfield 9, 3) := by decide +kernel
theorem dX12_isStoppedFor_92 : decode cX12_isStoppedFor 92 = .ok (.iload 5, 2) := by decide +kernel
theorem dX12_isStoppedFor_94 : decode cX12_isStoppedFor 94 = .ok (.iconst 3, 1) := by decide +kernel
theorem dX12_isStoppedFor_95 : decode cX12_isStoppedFor 95 = .ok (.iadd, 1) := by decide +kernel
theorem dX12_isStoppedFor_96 : decode cX12_isStoppedFor 96 = .ok (.iaload, 1) := by decide +kernel
theorem dX12_isStoppedFor_97 : decode cX12_isStoppedFor 97 = .ok (.iconst (-1), 1) := by decide +kernel
theorem dX12_isStoppedFor_98 : decode cX12_isStoppedFor 98 = .ok (.if_icmp .eq 16, 3) := by decide +kernel
theorem dX12_isStoppedFor_101 : decode cX12_isStoppedFor 101 = .ok (.iload_n 3, 1) := by decide +kernel
theorem dX12_isStoppedFor_102 : decode cX12_isStoppedFor 102 = .ok (.aload_n 0, 1) := by decide +kernel
theorem dX12_isStoppedFor_103 : decode cX12_isStoppedFor 103 = .ok (.getfield 9, 3) := by decide +kernel
theorem dX12_isStoppedFor_106 : decode cX12_isStoppedFor 106 = .ok (.iload 5, 2) := by decide +kernel
theorem dX12_isStoppedFor_108 : decode cX12_isStoppedFor 108 = .ok (.iconst 3, 1) := by decide +kernel
theorem dX12_isStoppedFor_109 : decode cX12_isStoppedFor 109 = .ok (.iadd, 1) := by decide +kernel
theorem dX12_isStoppedFor_110 : decode cX12_isStoppedFor 110 = .ok (.iaload, 1) := by decide +kernel
theorem dX12_isStoppedFor_111 : decode cX12_isStoppedFor 111 = .ok (.if_icmp .gt 5, 3) := by decide +kernel
theorem dX12_isStoppedFor_114 : decode cX12_isStoppedFor 114 = .ok (.iconst 1, 1) := by decide +kernel
theorem dX12_isStoppedFor_115 : decode cX12_isStoppedFor 115 = .ok (.ireturn, 1) := by decide +kernel
theorem dX12_isStoppedFor_116 : decode cX12_isStoppedFor 116 = .ok (.iinc 4 1, 3) := by decide +kernel
theorem dX12_isStoppedFor_119 : decode cX12_isStoppedFor 119 = .ok (.goto (-116), 3) := by decide +kernel
theorem dX12_isStoppedFor_122 : decode cX12_isStoppedFor 122 = .ok (.iconst 0, 1) := by decide +kernel
theorem dX12_isStoppedFor_123 : decode cX12_isStoppedFor 123 = .ok (.ireturn, 1) := by decide +kernel
theorem dX12_endOf_0 : decode cX12_endOf 0 = .ok (.iload_n 3, 1) := by decide +kernel
theorem dX12_endOf_1 : decode cX12_endOf 1 = .ok (.istore 6, 2) := by decide +kernel
theorem dX12_endOf_3 : decode cX12_endOf 3 = .ok (.iconst 0, 1) := by decide +kernel
theorem dX12_endOf_4 : decode cX12_endOf 4 = .ok (.istore 7, 2) := by decide +kernel
theorem dX12_endOf_6 : decode cX12_endOf 6 = .ok (.iload 7, 2) := by decide +kernel
theorem dX12_endOf_8 : decode cX12_endOf 8 = .ok (.iload 4, 2) := by decide +kernel
theorem dX12_endOf_10 : decode cX12_endOf 10 = .ok (.if_icmp .ge 54, 3) := by decide +kernel
theorem dX12_endOf_13 : decode cX12_endOf 13 = .ok (.iinc 6 1, 3) := by decide +kernel
theorem dX12_endOf_16 : decode cX12_endOf 16 = .ok (.iload 6, 2) := by decide +kernel
theorem dX12_endOf_18 : decode cX12_endOf 18 = .ok (.sipush 4999, 3) := by decide +kernel
theorem dX12_endOf_21 : decode cX12_endOf 21 = .ok (.if_icmp .le 5, 3) := by decide +kernel
theorem dX12_endOf_24 : decode cX12_endOf 24 = .ok (.iconst (-1), 1) := by decide +kernel
theorem dX12_endOf_25 : decode cX12_endOf 25 = .ok (.ireturn, 1) := by decide +kernel
theorem dX12_endOf_26 : decode cX12_endOf 26 = .ok (.iload 7, 2) := by decide +kernel
theorem dX12_endOf_28 : decode cX12_endOf 28 = .ok (.aload_n 0, 1) := by decide +kernel
theorem dX12_endOf_29 : decode cX12_endOf 29 = .ok (.iload_n 1, 1) := by decide +kernel
theorem dX12_endOf_30 : decode cX12_endOf 30 = .ok (.iload_n 2, 1) := by decide +kernel
theorem dX12_endOf_31 : decode cX12_endOf 31 = .ok (.iload 6, 2) := by decide +kernel
theorem dX12_endOf_33 : decode cX12_endOf 33 = .ok (.invokevirtual 134, 3) := by decide +kernel
theorem dX12_endOf_36 : decode cX12_endOf 36 = .ok (.ifCond .ne 21, 3) := by decide +kernel
theorem dX12_endOf_39 : decode cX12_endOf 39 = .ok (.iload 5, 2) := by decide +kernel
theorem dX12_endOf_41 : decode cX12_endOf 41 = .ok (.ifCond .eq 12, 3) := by decide +kernel
theorem dX12_endOf_44 : decode cX12_endOf 44 = .ok (.aload_n 0, 1) := by decide +kernel
theorem dX12_endOf_45 : decode cX12_endOf 45 = .ok (.iload 6, 2) := by decide +kernel
theorem dX12_endOf_47 : decode cX12_endOf 47 = .ok (.invokevirtual 112, 3) := by decide +kernel
theorem dX12_endOf_50 : decode cX12_endOf 50 = .ok (.ifCond .eq 7, 3) := by decide +kernel
theorem dX12_endOf_53 : decode cX12_endOf 53 = .ok (.iconst 1, 1) := by decide +kernel
theorem dX12_endOf_54 : decode cX12_endOf 54 = .ok (.goto 4, 3) := by decide +kernel
theorem dX12_endOf_57 : decode cX12_endOf 57 = .ok (.iconst 0, 1) := by decide +kernel
theorem dX12_endOf_58 : decode cX12_endOf 58 = .ok (.iadd, 1) := by decide +kernel
theorem dX12_endOf_59 : decode cX12_endOf 59 = .ok (.istore 7, 2) := by decide +kernel
theorem dX12_endOf_61 : decode cX12_endOf 61 = .ok (.goto (-55), 3) := by decide +kernel
theorem dX12_endOf_64 : decode cX12_endOf 64 = .ok (.aload_n 0, 1) := by decide +kernel
theorem dX12_endOf_65 : decode cX12_endOf 65 = .ok (.iload 6, 2) := by decide +kernel
theorem dX12_endOf_67 : decode cX12_endOf 67 = .ok (.invokevirtual 112, 3) := by decide +kernel
theorem dX12_endOf_70 : decode cX12_endOf 70 = .ok (.ifCond .eq 6, 3) := by decide +kernel
theorem dX12_endOf_73 : decode cX12_endOf 73 = .ok (.iload 6, 2) := by decide +kernel
theorem dX12_endOf_75 : decode cX12_endOf 75 = .ok (.ireturn, 1) := by decide +kernel
theorem dX12_endOf_76 : decode cX12_endOf 76 = .ok (.iinc 6 1, 3) := by decide +kernel
theorem dX12_endOf_79 : decode cX12_endOf 79 = .ok (.iload 6, 2) := by decide +kernel
theorem dX12_endOf_81 : decode cX12_endOf 81 = .ok (.sipush 4999, 3) := by decide +kernel
theorem dX12_endOf_84 : decode cX12_endOf 84 = .ok (.if_icmp .le 5, 3) := by decide +kernel
theorem dX12_endOf_87 : decode cX12_endOf 87 = .ok (.iconst (-1), 1) := by decide +kernel
theorem dX12_endOf_88 : decode cX12_endOf 88 = .ok (.ireturn, 1) := by decide +kernel
theorem dX12_endOf_89 : decode cX12_endOf 89 = .ok (.aload_n 0, 1) := by decide +kernel
theorem dX12_endOf_90 : decode cX12_endOf 90 = .ok (.iload 6, 2) := by decide +kernel
theorem dX12_endOf_92 : decode cX12_endOf 92 = .ok (.invokevirtual 112, 3) := by decide +kernel
theorem dX12_endOf_95 : decode cX12_endOf 95 = .ok (.ifCond .eq (-19), 3) := by decide +kernel
theorem dX12_endOf_98 : decode cX12_endOf 98 = .ok (.aload_n 0, 1) := by decide +kernel
theorem dX12_endOf_99 : decode cX12_endOf 99 = .ok (.iload_n 1, 1) := by decide +kernel
theorem dX12_endOf_100 : decode cX12_endOf 100 = .ok (.iload_n 2, 1) := by decide +kernel
theorem dX12_endOf_101 : decode cX12_endOf 101 = .ok (.iload 6, 2) := by decide +kernel
theorem dX12_endOf_103 : decode cX12_endOf 103 = .ok (.invokevirtual 134, 3) := by decide +kernel
theorem dX12_endOf_106 : decode cX12_endOf 106 = .ok (.ifCond .ne (-30), 3) := by decide +kernel
theorem dX12_endOf_109 : decode cX12_endOf 109 = .ok (.iload 6, 2) := by decide +kernel
theorem dX12_endOf_111 : decode cX12_endOf 111 = .ok (.ireturn, 1) := by decide +kernel
theorem dX12_parts_0 : decode cX12_parts 0 = .ok (.iconst 1, 1) := by decide +kernel
theorem dX12_parts_1 : decode cX12_parts 1 = .ok (.aload_n 0, 1) := by decide +kernel
theorem dX12_parts_2 : decode cX12_parts 2 = .ok (.iload_n 1, 1) := by decide +kernel
theorem dX12_parts_3 : decode cX12_parts 3 = .ok (.iconst 5, 1) := by decide +kernel
theorem dX12_parts_4 : decode cX12_parts 4 = .ok (.invokevirtual 131, 3) := by decide +kernel
theorem dX12_parts_7 : decode cX12_parts 7 = .ok (.ifCond .le 7, 3) := by decide +kernel
theorem dX12_parts_10 : decode cX12_parts 10 = .ok (.iconst 1, 1) := by decide +kernel
theorem dX12_parts_11 : decode cX12_parts 11 = .ok (.goto 4, 3) := by decide +kernel
theorem dX12_parts_14 : decode cX12_parts 14 = .ok (.iconst 0, 1) := by decide +kernel
theorem dX12_parts_15 : decode cX12_parts 15 = .ok (.iadd, 1) := by decide +kernel
theorem dX12_parts_16 : decode cX12_parts 16 = .ok (.aload_n 0, 1) := by decide +kernel
theorem dX12_parts_17 : decode cX12_parts 17 = .ok (.iload_n 1, 1) := by decide +kernel
theorem dX12_parts_18 : decode cX12_parts 18 = .ok (.bipush 7, 2) := by decide +kernel
theorem dX12_parts_20 : decode cX12_parts 20 = .ok (.invokevirtual 131, 3) := by decide +kernel
theorem dX12_parts_23 : decode cX12_parts 23 = .ok (.iadd, 1) := by decide +kernel
theorem dX12_parts_24 : decode cX12_parts 24 = .ok (.ireturn, 1) := by decide +kernel
theorem dX12_partLength_0 : decode cX12_partLength 0 = .ok (.iload_n 2, 1) := by decide +kernel
theorem dX12_partLength_1 : decode cX12_partLength 1 = .ok (.iconst 1, 1) := by decide +kernel
theorem dX12_partLength_2 : decode cX12_partLength 2 = .ok (.isub, 1) := by decide +kernel
theorem dX12_partLength_3 : decode cX12_partLength 3 = .ok (.aload_n 0, 1) := by decide +kernel
theorem dX12_partLength_4 : decode cX12_partLength 4 = .ok (.iload_n 1, 1) := by decide +kernel
theorem dX12_partLength_5 : decode cX12_partLength 5 = .ok (.iconst 5, 1) := by decide +kernel
theorem dX12_partLength_6 : decode cX12_partLength 6 = .ok (.invokevirtual 131, 3) := by decide +kernel
theorem dX12_partLength_9 : decode cX12_partLength 9 = .ok (.ifCond .le 7, 3) := by decide +kernel
theorem dX12_partLength_12 : decode cX12_partLength 12 = .ok (.iconst 1, 1) := by decide +kernel
theorem dX12_partLength_13 : decode cX12_partLength 13 = .ok (.goto 4, 3) := by decide +kernel
theorem dX12_partLength_16 : decode cX12_partLength 16 = .ok (.iconst 0, 1) := by decide +kernel
theorem dX12_partLength_17 : decode cX12_partLength 17 = .ok (.isub, 1) := by decide +kernel
theorem dX12_partLength_18 : decode cX12_partLength 18 = .ok (.istore_n 3, 1) := by decide +kernel
theorem dX12_partLength_19 : decode cX12_partLength 19 = .ok (.iload_n 2, 1) := by decide +kernel
theorem dX12_partLength_20 : decode cX12_partLength 20 = .ok (.ifCond .ne 12, 3) := by decide +kernel
theorem dX12_partLength_23 : decode cX12_partLength 23 = .ok (.aload_n 0, 1) := by decide +kernel
theorem dX12_partLength_24 : decode cX12_partLength 24 = .ok (.iload_n 1, 1) := by decide +kernel
theorem dX12_partLength_25 : decode cX12_partLength 25 = .ok (.iconst 3, 1) := by decide +kernel
theorem dX12_partLength_26 : decode cX12_partLength 26 = .ok (.invokevirtual 131, 3) := by decide +kernel
theorem dX12_partLength_29 : decode cX12_partLength 29 = .ok (.goto 25, 3) := by decide +kernel
theorem dX12_partLength_32 : decode cX12_partLength 32 = .ok (.iload_n 3, 1) := by decide +kernel
theorem dX12_partLength_33 : decode cX12_partLength 33 = .ok (.ifCond .ge 12, 3) := by decide +kernel
theorem dX12_partLength_36 : decode cX12_partLength 36 = .ok (.aload_n 0, 1) := by decide +kernel
theorem dX12_partLength_37 : decode cX12_partLength 37 = .ok (.iload_n 1, 1) := by decide +kernel
theorem dX12_partLength_38 : decode cX12_partLength 38 = .ok (.iconst 5, 1) := by decide +kernel
theorem dX12_partLength_39 : decode cX12_partLength 39 = .ok (.invokevirtual 131, 3) := by decide +kernel
theorem dX12_partLength_42 : decode cX12_partLength 42 = .ok (.goto 12, 3) := by decide +kernel
theorem dX12_partLength_45 : decode cX12_partLength 45 = .ok (.aload_n 0, 1) := by decide +kernel
theorem dX12_partLength_46 : decode cX12_partLength 46 = .ok (.iload_n 1, 1) := by decide +kernel
theorem dX12_partLength_47 : decode cX12_partLength 47 = .ok (.bipush 11, 2) := by decide +kernel
theorem dX12_partLength_49 : decode cX12_partLength 49 = .ok (.iload_n 3, 1) := by decide +kernel
theorem dX12_partLength_50 : decode cX12_partLength 50 = .ok (.iadd, 1) := by decide +kernel
theorem dX12_partLength_51 : decode cX12_partLength 51 = .ok (.invokevirtual 131, 3) := by decide +kernel
theorem dX12_partLength_54 : decode cX12_partLength 54 = .ok (.ireturn, 1) := by decide +kernel
theorem dX12_dueOf_0 : decode cX12_dueOf 0 = .ok (.aload_n 0, 1) := by decide +kernel
theorem dX12_dueOf_1 : decode cX12_dueOf 1 = .ok (.iload_n 1, 1) := by decide +kernel
theorem dX12_dueOf_2 : decode cX12_dueOf 2 = .ok (.iconst 2, 1) := by decide +kernel
theorem dX12_dueOf_3 : decode cX12_dueOf 3 = .ok (.invokevirtual 131, 3) := by decide +kernel
theorem dX12_dueOf_6 : decode cX12_dueOf 6 = .ok (.istore_n 2, 1) := by decide +kernel
theorem dX12_dueOf_7 : decode cX12_dueOf 7 = .ok (.iconst 0, 1) := by decide +kernel
theorem dX12_dueOf_8 : decode cX12_dueOf 8 = .ok (.istore_n 3, 1) := by decide +kernel
theorem dX12_dueOf_9 : decode cX12_dueOf 9 = .ok (.iload_n 3, 1) := by decide +kernel
theorem dX12_dueOf_10 : decode cX12_dueOf 10 = .ok (.aload_n 0, 1) := by decide +kernel
theorem dX12_dueOf_11 : decode cX12_dueOf 11 = .ok (.iload_n 1, 1) := by decide +kernel
theorem dX12_dueOf_12 : decode cX12_dueOf 12 = .ok (.invokevirtual 137, 3) := by decide +kernel
theorem dX12_dueOf_15 : decode cX12_dueOf 15 = .ok (.if_icmp .ge 57, 3) := by decide +kernel
theorem dX12_dueOf_18 : decode cX12_dueOf 18 = .ok (.iload_n 2, 1) := by decide +kernel
theorem dX12_dueOf_19 : decode cX12_dueOf 19 = .ok (.iconst (-1), 1) := by decide +kernel
theorem dX12_dueOf_20 : decode cX12_dueOf 20 = .ok (.if_icmp .eq 52, 3) := by decide +kernel
theorem dX12_dueOf_23 : decode cX12_dueOf 23 = .ok (.aload_n 0, 1) := by decide +kernel
theorem dX12_dueOf_24 : decode cX12_dueOf 24 = .ok (.aload_n 0, 1) := by decide +kernel
theorem dX12_dueOf_25 : decode cX12_dueOf 25 = .ok (.iload_n 1, 1) := by decide +kernel
theorem dX12_dueOf_26 : decode cX12_dueOf 26 = .ok (.iconst 0, 1) := by decide +kernel
theorem dX12_dueOf_27 : decode cX12_dueOf 27 = .ok (.invokevirtual 131, 3) := by decide +kernel
theorem dX12_dueOf_30 : decode cX12_dueOf 30 = .ok (.aload_n 0, 1) := by decide +kernel
theorem dX12_dueOf_31 : decode cX12_dueOf 31 = .ok (.iload_n 1, 1) := by decide +kernel
theorem dX12_dueOf_32 : decode cX12_dueOf 32 = .ok (.iconst 1, 1) := by decide +kernel
theorem dX12_dueOf_33 : decode cX12_dueOf 33 = .ok (.invokevirtual 131, 3) := by decide +kernel
theorem dX12_dueOf_36 : decode cX12_dueOf 36 = .ok (.iload_n 2, 1) := by decide +kernel
theorem dX12_dueOf_37 : decode cX12_dueOf 37 = .ok (.aload_n 0, 1) := by decide +kernel
theorem dX12_dueOf_38 : decode cX12_dueOf 38 = .ok (.iload_n 1, 1) := by decide +kernel
theorem dX12_dueOf_39 : decode cX12_dueOf 39 = .ok (.iload_n 3, 1) := by decide +kernel
theorem dX12_dueOf_40 : decode cX12_dueOf 40 = .ok (.invokevirtual 140, 3) := by decide +kernel
theorem dX12_dueOf_43 : decode cX12_dueOf 43 = .ok (.iload_n 3, 1) := by decide +kernel
theorem dX12_dueOf_44 : decode cX12_dueOf 44 = .ok (.ifCond .ne 17, 3) := by decide +kernel
theorem dX12_dueOf_47 : decode cX12_dueOf 47 = .ok (.aload_n 0, 1) := by decide +kernel
theorem dX12_dueOf_48 : decode cX12_dueOf 48 = .ok (.iload_n 1, 1) := by decide +kernel
theorem dX12_dueOf_49 : decode cX12_dueOf 49 = .ok (.iconst 4, 1) := by decide +kernel
theorem dX12_dueOf_50 : decode cX12_dueOf 50 = .ok (.invokevirtual 131, 3) := by decide +kernel
theorem dX12_dueOf_53 : decode cX12_dueOf 53 = .ok (.iconst 1, 1) := by decide +kernel
theorem dX12_dueOf_54 : decode cX12_dueOf 54 = .ok (.if_icmp .ne 7, 3) := by decide +kernel
theorem dX12_dueOf_57 : decode cX12_dueOf 57 = .ok (.iconst 1, 1) := by decide +kernel
theorem dX12_dueOf_58 : decode cX12_dueOf 58 = .ok (.goto 4, 3) := by decide +kernel
theorem dX12_dueOf_61 : decode cX12_dueOf 61 = .ok (.iconst 0, 1) := by decide +kernel
theorem dX12_dueOf_62 : decode cX12_dueOf 62 = .ok (.invokevirtual 143, 3) := by decide +kernel
theorem dX12_dueOf_65 : decode cX12_dueOf 65 = .ok (.istore_n 2, 1) := by decide +kernel
theorem dX12_dueOf_66 : decode cX12_dueOf 66 = .ok (.iinc 3 1, 3) := by decide +kernel
theorem dX12_dueOf_69 : decode cX12_dueOf 69 = .ok (.goto (-60), 3) := by decide +kernel
theorem dX12_dueOf_72 : decode cX12_dueOf 72 = .ok (.iload_n 2, 1) := by decide +kernel
theorem dX12_dueOf_73 : decode cX12_dueOf 73 = .ok (.ireturn, 1) := by decide +kernel
theorem dX12_due_0 : decode cX12_due 0 = .ok (.aload_n 0, 1) := by decide +kernel
theorem dX12_due_1 : decode cX12_due 1 = .ok (.iconst 0, 1) := by decide +kernel
theorem dX12_due_2 : decode cX12_due 2 = .ok (.putfield 41, 3) := by decide +kernel
theorem dX12_due_5 : decode cX12_due 5 = .ok (.aload_n 0, 1) := by decide +kernel
theorem dX12_due_6 : decode cX12_due 6 = .ok (.aload_n 0, 1) := by decide +kernel
theorem dX12_due_7 : decode cX12_due 7 = .ok (.iload_n 1, 1) := by decide +kernel
theorem dX12_due_8 : decode cX12_due 8 = .ok (.invokevirtual 147, 3) := by decide +kernel
theorem dX12_due_11 : decode cX12_due 11 = .ok (.iconst 1, 1) := by decide +kernel
theorem dX12_due_12 : decode cX12_due 12 = .ok (.invokevirtual 55, 3) := by decide +kernel
theorem dX12_due_15 : decode cX12_due 15 = .ok (.ifCond .eq 5, 3) := by decide +kernel
theorem dX12_due_18 : decode cX12_due 18 = .ok (.iconst 0, 1) := by decide +kernel
theorem dX12_due_19 : decode cX12_due 19 = .ok (.ireturn, 1) := by decide +kernel
theorem dX12_due_20 : decode cX12_due 20 = .ok (.aload_n 0, 1) := by decide +kernel
theorem dX12_due_21 : decode cX12_due 21 = .ok (.iload_n 1, 1) := by decide +kernel
theorem dX12_due_22 : decode cX12_due 22 = .ok (.invokevirtual 150, 3) := by decide +kernel
theorem dX12_due_25 : decode cX12_due 25 = .ok (.istore_n 2, 1) := by decide +kernel
theorem dX12_due_26 : decode cX12_due 26 = .ok (.aload_n 0, 1) := by decide +kernel
theorem dX12_due_27 : decode cX12_due 27 = .ok (.iload_n 2, 1) := by decide +kernel
theorem dX12_due_28 : decode cX12_due 28 = .ok (.iconst (-1), 1) := by decide +kernel
theorem dX12_due_29 : decode cX12_due 29 = .ok (.if_icmp .ne 7, 3) := by decide +kernel
theorem dX12_due_32 : decode cX12_due 32 = .ok (.iconst 1, 1) := by decide +kernel
theorem dX12_due_33 : decode cX12_due 33 = .ok (.goto 4, 3) := by decide +kernel
theorem dX12_due_36 : decode cX12_due 36 = .ok (.iconst 0, 1) := by decide +kernel
theorem dX12_due_37 : decode cX12_due 37 = .ok (.iconst 2, 1) := by decide +kernel
theorem dX12_due_38 : decode cX12_due 38 = .ok (.invokevirtual 55, 3) := by decide +kernel
theorem dX12_due_41 : decode cX12_due 41 = .ok (.ifCond .eq 7, 3) := by decide +kernel
theorem dX12_due_44 : decode cX12_due 44 = .ok (.iconst 0, 1) := by decide +kernel
theorem dX12_due_45 : decode cX12_due 45 = .ok (.goto 4, 3) := by decide +kernel
theorem dX12_due_48 : decode cX12_due 48 = .ok (.iload_n 2, 1) := by decide +kernel
theorem dX12_due_49 : decode cX12_due 49 = .ok (.ireturn, 1) := by decide +kernel
theorem dX12_dueByMarking_0 : decode cX12_dueByMarking 0 = .ok (.aload_n 0, 1) := by decide +kernel
theorem dX12_dueByMarking_1 : decode cX12_dueByMarking 1 = .ok (.iload_n 1, 1) := by decide +kernel
theorem dX12_dueByMarking_2 : decode cX12_dueByMarking 2 = .ok (.invokevirtual 153, 3) := by decide +kernel
theorem dX12_dueByMarking_5 : decode cX12_dueByMarking 5 = .ok (.ireturn, 1) := by decide +kernel
theorem dX12_leftOf_0 : decode cX12_leftOf 0 = .ok (.iconst 0, 1) := by decide +kernel
theorem dX12_leftOf_1 : decode cX12_leftOf 1 = .ok (.istore_n 2, 1) := by decide +kernel
theorem dX12_leftOf_2 : decode cX12_leftOf 2 = .ok (.iconst 0, 1) := by decide +kernel
theorem dX12_leftOf_3 : decode cX12_leftOf 3 = .ok (.istore_n 3, 1) := by decide +kernel
theorem dX12_leftOf_4 : decode cX12_leftOf 4 = .ok (.iload_n 3, 1) := by decide +kernel
