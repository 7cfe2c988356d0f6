section
/-! constructors -/
theorem kd_Person_0 : decode prog_6_method_1_code 0 = .ok (.aload_n 0, 1) := by decide +kernel
theorem kd_Person_1 : decode prog_6_method_1_code 1 = .ok (.invokespecial 3, 3) := by decide +kernel
theorem kd_Person_4 : decode prog_6_method_1_code 4 = .ok (.aload_n 0, 1) := by decide +kernel
theorem kd_Person_5 : decode prog_6_method_1_code 5 = .ok (.bipush 50, 2) := by decide +kernel
theorem kd_Person_7 : decode prog_6_method_1_code 7 = .ok (.putfield 9, 3) := by decide +kernel
theorem kd_Person_10 : decode prog_6_method_1_code 10 = .ok (.aload_n 0, 1) := by decide +kernel
theorem kd_Person_11 : decode prog_6_method_1_code 11 = .ok (.iload_n 1, 1) := by decide +kernel
theorem kd_Person_12 : decode prog_6_method_1_code 12 = .ok (.putfield 15, 3) := by decide +kernel
theorem kd_Person_15 : decode prog_6_method_1_code 15 = .ok (.return_, 1) := by decide +kernel
theorem kd_Cause_0 : decode prog_3_method_1_code 0 = .ok (.aload_n 0, 1) := by decide +kernel
theorem kd_Cause_1 : decode prog_3_method_1_code 1 = .ok (.invokespecial 3, 3) := by decide +kernel
theorem kd_Cause_4 : decode prog_3_method_1_code 4 = .ok (.return_, 1) := by decide +kernel
theorem kd_Affair_0 : decode prog_2_method_1_code 0 = .ok (.aload_n 0, 1) := by decide +kernel
theorem kd_Affair_1 : decode prog_2_method_1_code 1 = .ok (.invokespecial 3, 3) := by decide +kernel
theorem kd_Affair_4 : decode prog_2_method_1_code 4 = .ok (.aload_n 0, 1) := by decide +kernel
theorem kd_Affair_5 : decode prog_2_method_1_code 5 = .ok (.new 9, 3) := by decide +kernel
theorem kd_Affair_8 : decode prog_2_method_1_code 8 = .ok (.dup, 1) := by decide +kernel
theorem kd_Affair_9 : decode prog_2_method_1_code 9 = .ok (.iconst 0, 1) := by decide +kernel
theorem kd_Affair_10 : decode prog_2_method_1_code 10 = .ok (.invokespecial 11, 3) := by decide +kernel
theorem kd_Affair_13 : decode prog_2_method_1_code 13 = .ok (.putfield 14, 3) := by decide +kernel
theorem kd_Affair_16 : decode prog_2_method_1_code 16 = .ok (.aload_n 0, 1) := by decide +kernel
theorem kd_Affair_17 : decode prog_2_method_1_code 17 = .ok (.new 9, 3) := by decide +kernel
theorem kd_Affair_20 : decode prog_2_method_1_code 20 = .ok (.dup, 1) := by decide +kernel
theorem kd_Affair_21 : decode prog_2_method_1_code 21 = .ok (.iconst 3, 1) := by decide +kernel
theorem kd_Affair_22 : decode prog_2_method_1_code 22 = .ok (.invokespecial 11, 3) := by decide +kernel
theorem kd_Affair_25 : decode prog_2_method_1_code 25 = .ok (.putfield 20, 3) := by decide +kernel
theorem kd_Affair_28 : decode prog_2_method_1_code 28 = .ok (.aload_n 0, 1) := by decide +kernel
theorem kd_Affair_29 : decode prog_2_method_1_code 29 = .ok (.bipush 12, 2) := by decide +kernel
theorem kd_Affair_31 : decode prog_2_method_1_code 31 = .ok (.anewarray 23, 3) := by decide +kernel
theorem kd_Affair_34 : decode prog_2_method_1_code 34 = .ok (.putfield 25, 3) := by decide +kernel
theorem kd_Affair_37 : decode prog_2_method_1_code 37 = .ok (.iconst 0, 1) := by decide +kernel
theorem kd_Affair_38 : decode prog_2_method_1_code 38 = .ok (.istore_n 1, 1) := by decide +kernel
theorem kd_Affair_39 : decode prog_2_method_1_code 39 = .ok (.iload_n 1, 1) := by decide +kernel
theorem kd_Affair_40 : decode prog_2_method_1_code 40 = .ok (.bipush 12, 2) := by decide +kernel
theorem kd_Affair_42 : decode prog_2_method_1_code 42 = .ok (.if_icmp .ge 22, 3) := by decide +kernel
theorem kd_Affair_45 : decode prog_2_method_1_code 45 = .ok (.aload_n 0, 1) := by decide +kernel
theorem kd_Affair_46 : decode prog_2_method_1_code 46 = .ok (.getfield 25, 3) := by decide +kernel
theorem kd_Affair_49 : decode prog_2_method_1_code 49 = .ok (.iload_n 1, 1) := by decide +kernel
theorem kd_Affair_50 : decode prog_2_method_1_code 50 = .ok (.new 23, 3) := by decide +kernel
theorem kd_Affair_53 : decode prog_2_method_1_code 53 = .ok (.dup, 1) := by decide +kernel
theorem kd_Affair_54 : decode prog_2_method_1_code 54 = .ok (.invokespecial 29, 3) := by decide +kernel
theorem kd_Affair_57 : decode prog_2_method_1_code 57 = .ok (.aastore, 1) := by decide +kernel
theorem kd_Affair_58 : decode prog_2_method_1_code 58 = .ok (.iinc 1 1, 3) := by decide +kernel
theorem kd_Affair_61 : decode prog_2_method_1_code 61 = .ok (.goto (-22), 3) := by decide +kernel
theorem kd_Affair_64 : decode prog_2_method_1_code 64 = .ok (.return_, 1) := by decide +kernel
theorem kd_Choice_0 : decode prog_4_method_1_code 0 = .ok (.aload_n 0, 1) := by decide +kernel
theorem kd_Choice_1 : decode prog_4_method_1_code 1 = .ok (.invokespecial 1, 3) := by decide +kernel
theorem kd_Choice_4 : decode prog_4_method_1_code 4 = .ok (.return_, 1) := by decide +kernel
theorem kd_Plan_0 : decode prog_7_method_1_code 0 = .ok (.aload_n 0, 1) := by decide +kernel
theorem kd_Plan_1 : decode prog_7_method_1_code 1 = .ok (.invokespecial 3, 3) := by decide +kernel
theorem kd_Plan_4 : decode prog_7_method_1_code 4 = .ok (.aload_n 0, 1) := by decide +kernel
theorem kd_Plan_5 : decode prog_7_method_1_code 5 = .ok (.bipush 12, 2) := by decide +kernel
theorem kd_Plan_7 : decode prog_7_method_1_code 7 = .ok (.newarray .int, 2) := by decide +kernel
theorem kd_Plan_9 : decode prog_7_method_1_code 9 = .ok (.putfield 9, 3) := by decide +kernel
theorem kd_Plan_12 : decode prog_7_method_1_code 12 = .ok (.aload_n 0, 1) := by decide +kernel
theorem kd_Plan_13 : decode prog_7_method_1_code 13 = .ok (.bipush 12, 2) := by decide +kernel
theorem kd_Plan_15 : decode prog_7_method_1_code 15 = .ok (.anewarray 15, 3) := by decide +kernel
theorem kd_Plan_18 : decode prog_7_method_1_code 18 = .ok (.putfield 17, 3) := by decide +kernel
theorem kd_Plan_21 : decode prog_7_method_1_code 21 = .ok (.aload_n 0, 1) := by decide +kernel
theorem kd_Plan_22 : decode prog_7_method_1_code 22 = .ok (.bipush 12, 2) := by decide +kernel
theorem kd_Plan_24 : decode prog_7_method_1_code 24 = .ok (.anewarray 15, 3) := by decide +kernel
theorem kd_Plan_27 : decode prog_7_method_1_code 27 = .ok (.putfield 21, 3) := by decide +kernel
theorem kd_Plan_30 : decode prog_7_method_1_code 30 = .ok (.aload_n 0, 1) := by decide +kernel
theorem kd_Plan_31 : decode prog_7_method_1_code 31 = .ok (.bipush 12, 2) := by decide +kernel
theorem kd_Plan_33 : decode prog_7_method_1_code 33 = .ok (.anewarray 15, 3) := by decide +kernel
theorem kd_Plan_36 : decode prog_7_method_1_code 36 = .ok (.putfield 24, 3) := by decide +kernel
theorem kd_Plan_39 : decode prog_7_method_1_code 39 = .ok (.aload_n 0, 1) := by decide +kernel
theorem kd_Plan_40 : decode prog_7_method_1_code 40 = .ok (.bipush 12, 2) := by decide +kernel
theorem kd_Plan_42 : decode prog_7_method_1_code 42 = .ok (.newarray .int, 2) := by decide +kernel
theorem kd_Plan_44 : decode prog_7_method_1_code 44 = .ok (.putfield 27, 3) := by decide +kernel
theorem kd_Plan_47 : decode prog_7_method_1_code 47 = .ok (.aload_n 0, 1) := by decide +kernel
theorem kd_Plan_48 : decode prog_7_method_1_code 48 = .ok (.bipush 12, 2) := by decide +kernel
theorem kd_Plan_50 : decode prog_7_method_1_code 50 = .ok (.newarray .int, 2) := by decide +kernel
theorem kd_Plan_52 : decode prog_7_method_1_code 52 = .ok (.putfield 30, 3) := by decide +kernel
theorem kd_Plan_55 : decode prog_7_method_1_code 55 = .ok (.iconst 0, 1) := by decide +kernel
theorem kd_Plan_56 : decode prog_7_method_1_code 56 = .ok (.istore_n 1, 1) := by decide +kernel
theorem kd_Plan_57 : decode prog_7_method_1_code 57 = .ok (.iload_n 1, 1) := by decide +kernel
theorem kd_Plan_58 : decode prog_7_method_1_code 58 = .ok (.bipush 12, 2) := by decide +kernel
theorem kd_Plan_60 : decode prog_7_method_1_code 60 = .ok (.if_icmp .ge 44, 3) := by decide +kernel
theorem kd_Plan_63 : decode prog_7_method_1_code 63 = .ok (.aload_n 0, 1) := by decide +kernel
theorem kd_Plan_64 : decode prog_7_method_1_code 64 = .ok (.getfield 17, 3) := by decide +kernel
theorem kd_Plan_67 : decode prog_7_method_1_code 67 = .ok (.iload_n 1, 1) := by decide +kernel
theorem kd_Plan_68 : decode prog_7_method_1_code 68 = .ok (.new 15, 3) := by decide +kernel
theorem kd_Plan_71 : decode prog_7_method_1_code 71 = .ok (.dup, 1) := by decide +kernel
theorem kd_Plan_72 : decode prog_7_method_1_code 72 = .ok (.invokespecial 33, 3) := by decide +kernel
theorem kd_Plan_75 : decode prog_7_method_1_code 75 = .ok (.aastore, 1) := by decide +kernel
theorem kd_Plan_76 : decode prog_7_method_1_code 76 = .ok (.aload_n 0, 1) := by decide +kernel
theorem kd_Plan_77 : decode prog_7_method_1_code 77 = .ok (.getfield 17, 3) := by decide +kernel
theorem kd_Plan_80 : decode prog_7_method_1_code 80 = .ok (.iload_n 1, 1) := by decide +kernel
theorem kd_Plan_81 : decode prog_7_method_1_code 81 = .ok (.aaload, 1) := by decide +kernel
theorem kd_Plan_82 : decode prog_7_method_1_code 82 = .ok (.iload_n 1, 1) := by decide +kernel
theorem kd_Plan_83 : decode prog_7_method_1_code 83 = .ok (.putfield 34, 3) := by decide +kernel
theorem kd_Plan_86 : decode prog_7_method_1_code 86 = .ok (.aload_n 0, 1) := by decide +kernel
theorem kd_Plan_87 : decode prog_7_method_1_code 87 = .ok (.getfield 21, 3) := by decide +kernel
theorem kd_Plan_90 : decode prog_7_method_1_code 90 = .ok (.iload_n 1, 1) := by decide +kernel
theorem kd_Plan_91 : decode prog_7_method_1_code 91 = .ok (.aload_n 0, 1) := by decide +kernel
theorem kd_Plan_92 : decode prog_7_method_1_code 92 = .ok (.getfield 17, 3) := by decide +kernel
theorem kd_Plan_95 : decode prog_7_method_1_code 95 = .ok (.iload_n 1, 1) := by decide +kernel
theorem kd_Plan_96 : decode prog_7_method_1_code 96 = .ok (.aaload, 1) := by decide +kernel
theorem kd_Plan_97 : decode prog_7_method_1_code 97 = .ok (.aastore, 1) := by decide +kernel
theorem kd_Plan_98 : decode prog_7_method_1_code 98 = .ok (.iinc 1 1, 3) := by decide +kernel
theorem kd_Plan_101 : decode prog_7_method_1_code 101 = .ok (.goto (-44), 3) := by decide +kernel
theorem kd_Plan_104 : decode prog_7_method_1_code 104 = .ok (.return_, 1) := by decide +kernel
theorem kd_Course_0 : decode prog_5_method_1_code 0 = .ok (.aload_n 0, 1) := by decide +kernel
theorem kd_Course_1 : decode prog_5_method_1_code 1 = .ok (.invokespecial 3, 3) := by decide +kernel
theorem kd_Course_4 : decode prog_5_method_1_code 4 = .ok (.aload_n 0, 1) := by decide +kernel
theorem kd_Course_5 : decode prog_5_method_1_code 5 = .ok (.bipush 26, 2) := by decide +kernel
theorem kd_Course_7 : decode prog_5_method_1_code 7 = .ok (.newarray .int, 2) := by decide +kernel
theorem kd_Course_9 : decode prog_5_method_1_code 9 = .ok (.putfield 11, 3) := by decide +kernel
theorem kd_Course_12 : decode prog_5_method_1_code 12 = .ok (.aload_n 0, 1) := by decide +kernel
theorem kd_Course_13 : decode prog_5_method_1_code 13 = .ok (.bipush 26, 2) := by decide +kernel
theorem kd_Course_15 : decode prog_5_method_1_code 15 = .ok (.newarray .int, 2) := by decide +kernel
theorem kd_Course_17 : decode prog_5_method_1_code 17 = .ok (.putfield 15, 3) := by decide +kernel
theorem kd_Course_20 : decode prog_5_method_1_code 20 = .ok (.aload_n 0, 1) := by decide +kernel
theorem kd_Course_21 : decode prog_5_method_1_code 21 = .ok (.bipush 26, 2) := by decide +kernel
theorem kd_Course_23 : decode prog_5_method_1_code 23 = .ok (.newarray .boolean, 2) := by decide +kernel
theorem kd_Course_25 : decode prog_5_method_1_code 25 = .ok (.putfield 18, 3) := by decide +kernel
theorem kd_Course_28 : decode prog_5_method_1_code 28 = .ok (.return_, 1) := by decide +kernel
theorem kd_J_0 : decode prog_1_method_1_code 0 = .ok (.aload_n 0, 1) := by decide +kernel
theorem kd_J_1 : decode prog_1_method_1_code 1 = .ok (.invokespecial 1, 3) := by decide +kernel
theorem kd_J_4 : decode prog_1_method_1_code 4 = .ok (.aload_n 0, 1) := by decide +kernel
theorem kd_J_5 : decode prog_1_method_1_code 5 = .ok (.new 7, 3) := by decide +kernel
theorem kd_J_8 : decode prog_1_method_1_code 8 = .ok (.dup, 1) := by decide +kernel
theorem kd_J_9 : decode prog_1_method_1_code 9 = .ok (.invokespecial 9, 3) := by decide +kernel
theorem kd_J_12 : decode prog_1_method_1_code 12 = .ok (.putfield 10, 3) := by decide +kernel
theorem kd_J_15 : decode prog_1_method_1_code 15 = .ok (.aload_n 0, 1) := by decide +kernel
theorem kd_J_16 : decode prog_1_method_1_code 16 = .ok (.new 7, 3) := by decide +kernel
theorem kd_J_19 : decode prog_1_method_1_code 19 = .ok (.dup, 1) := by decide +kernel
theorem kd_J_20 : decode prog_1_method_1_code 20 = .ok (.invokespecial 9, 3) := by decide +kernel
theorem kd_J_23 : decode prog_1_method_1_code 23 = .ok (.putfield 16, 3) := by decide +kernel
theorem kd_J_26 : decode prog_1_method_1_code 26 = .ok (.aload_n 0, 1) := by decide +kernel
theorem kd_J_27 : decode prog_1_method_1_code 27 = .ok (.new 7, 3) := by decide +kernel
theorem kd_J_30 : decode prog_1_method_1_code 30 = .ok (.dup, 1) := by decide +kernel
theorem kd_J_31 : decode prog_1_method_1_code 31 = .ok (.invokespecial 9, 3) := by decide +kernel
theorem kd_J_34 : decode prog_1_method_1_code 34 = .ok (.putfield 19, 3) := by decide +kernel
theorem kd_J_37 : decode prog_1_method_1_code 37 = .ok (.aload_n 0, 1) := by decide +kernel
theorem kd_J_38 : decode prog_1_method_1_code 38 = .ok (.bipush 8, 2) := by decide +kernel
theorem kd_J_40 : decode prog_1_method_1_code 40 = .ok (.anewarray 7, 3) := by decide +kernel
theorem kd_J_43 : decode prog_1_method_1_code 43 = .ok (.putfield 22, 3) := by decide +kernel
theorem kd_J_46 : decode prog_1_method_1_code 46 = .ok (.aload_n 0, 1) := by decide +kernel
theorem kd_J_47 : decode prog_1_method_1_code 47 = .ok (.bipush 96, 2) := by decide +kernel
theorem kd_J_49 : decode prog_1_method_1_code 49 = .ok (.newarray .int, 2) := by decide +kernel
theorem kd_J_51 : decode prog_1_method_1_code 51 = .ok (.putfield 26, 3) := by decide +kernel
theorem kd_J_54 : decode prog_1_method_1_code 54 = .ok (.aload_n 0, 1) := by decide +kernel
theorem kd_J_55 : decode prog_1_method_1_code 55 = .ok (.bipush 12, 2) := by decide +kernel
theorem kd_J_57 : decode prog_1_method_1_code 57 = .ok (.newarray .int, 2) := by decide +kernel
theorem kd_J_59 : decode prog_1_method_1_code 59 = .ok (.putfield 30, 3) := by decide +kernel
theorem kd_J_62 : decode prog_1_method_1_code 62 = .ok (.aload_n 0, 1) := by decide +kernel
theorem kd_J_63 : decode prog_1_method_1_code 63 = .ok (.bipush 7, 2) := by decide +kernel
theorem kd_J_65 : decode prog_1_method_1_code 65 = .ok (.newarray .int, 2) := by decide +kernel
theorem kd_J_67 : decode prog_1_method_1_code 67 = .ok (.putfield 33, 3) := by decide +kernel
theorem kd_J_70 : decode prog_1_method_1_code 70 = .ok (.aload_n 0, 1) := by decide +kernel
theorem kd_J_71 : decode prog_1_method_1_code 71 = .ok (.new 36, 3) := by decide +kernel
theorem kd_J_74 : decode prog_1_method_1_code 74 = .ok (.dup, 1) := by decide +kernel
theorem kd_J_75 : decode prog_1_method_1_code 75 = .ok (.invokespecial 38, 3) := by decide +kernel
theorem kd_J_78 : decode prog_1_method_1_code 78 = .ok (.putfield 39, 3) := by decide +kernel
theorem kd_J_81 : decode prog_1_method_1_code 81 = .ok (.aload_n 0, 1) := by decide +kernel
theorem kd_J_82 : decode prog_1_method_1_code 82 = .ok (.new 36, 3) := by decide +kernel
theorem kd_J_85 : decode prog_1_method_1_code 85 = .ok (.dup, 1) := by decide +kernel
theorem kd_J_86 : decode prog_1_method_1_code 86 = .ok (.invokespecial 38, 3) := by decide +kernel
theorem kd_J_89 : decode prog_1_method_1_code 89 = .ok (.putfield 43, 3) := by decide +kernel
theorem kd_J_92 : decode prog_1_method_1_code 92 = .ok (.aload_n 0, 1) := by decide +kernel
theorem kd_J_93 : decode prog_1_method_1_code 93 = .ok (.bipush 7, 2) := by decide +kernel
theorem kd_J_95 : decode prog_1_method_1_code 95 = .ok (.newarray .int, 2) := by decide +kernel
theorem kd_J_97 : decode prog_1_method_1_code 97 = .ok (.putfield 46, 3) := by decide +kernel
theorem kd_J_100 : decode prog_1_method_1_code 100 = .ok (.aload_n 0, 1) := by decide +kernel
theorem kd_J_101 : decode prog_1_method_1_code 101 = .ok (.bipush 7, 2) := by decide +kernel
theorem kd_J_103 : decode prog_1_method_1_code 103 = .ok (.newarray .int, 2) := by decide +kernel
theorem kd_J_105 : decode prog_1_method_1_code 105 = .ok (.putfield 49, 3) := by decide +kernel
theorem kd_J_108 : decode prog_1_method_1_code 108 = .ok (.aload_n 0, 1) := by decide +kernel
theorem kd_J_109 : decode prog_1_method_1_code 109 = .ok (.sipush 256, 3) := by decide +kernel
theorem kd_J_112 : decode prog_1_method_1_code 112 = .ok (.newarray .long, 2) := by decide +kernel
theorem kd_J_114 : decode prog_1_method_1_code 114 = .ok (.putfield 52, 3) := by decide +kernel
theorem kd_J_117 : decode prog_1_method_1_code 117 = .ok (.aload_n 0, 1) := by decide +kernel
theorem kd_J_118 : decode prog_1_method_1_code 118 = .ok (.new 56, 3) := by decide +kernel
theorem kd_J_121 : decode prog_1_method_1_code 121 = .ok (.dup, 1) := by decide +kernel
theorem kd_J_122 : decode prog_1_method_1_code 122 = .ok (.invokespecial 58, 3) := by decide +kernel
theorem kd_J_125 : decode prog_1_method_1_code 125 = .ok (.putfield 59, 3) := by decide +kernel
theorem kd_J_128 : decode prog_1_method_1_code 128 = .ok (.iconst 0, 1) := by decide +kernel
theorem kd_J_129 : decode prog_1_method_1_code 129 = .ok (.istore_n 1, 1) := by decide +kernel
theorem kd_J_130 : decode prog_1_method_1_code 130 = .ok (.iload_n 1, 1) := by decide +kernel
theorem kd_J_131 : decode prog_1_method_1_code 131 = .ok (.bipush 8, 2) := by decide +kernel
theorem kd_J_133 : decode prog_1_method_1_code 133 = .ok (.if_icmp .ge 22, 3) := by decide +kernel
theorem kd_J_136 : decode prog_1_method_1_code 136 = .ok (.aload_n 0, 1) := by decide +kernel
theorem kd_J_137 : decode prog_1_method_1_code 137 = .ok (.getfield 22, 3) := by decide +kernel
theorem kd_J_140 : decode prog_1_method_1_code 140 = .ok (.iload_n 1, 1) := by decide +kernel
theorem kd_J_141 : decode prog_1_method_1_code 141 = .ok (.new 7, 3) := by decide +kernel
theorem kd_J_144 : decode prog_1_method_1_code 144 = .ok (.dup, 1) := by decide +kernel
theorem kd_J_145 : decode prog_1_method_1_code 145 = .ok (.invokespecial 9, 3) := by decide +kernel
theorem kd_J_148 : decode prog_1_method_1_code 148 = .ok (.aastore, 1) := by decide +kernel
theorem kd_J_149 : decode prog_1_method_1_code 149 = .ok (.iinc 1 1, 3) := by decide +kernel
theorem kd_J_152 : decode prog_1_method_1_code 152 = .ok (.goto (-22), 3) := by decide +kernel
theorem kd_J_155 : decode prog_1_method_1_code 155 = .ok (.return_, 1) := by decide +kernel
theorem kd_M_0 : decode prog_9_method_1_code 0 = .ok (.aload_n 0, 1) := by decide +kernel
theorem kd_M_1 : decode prog_9_method_1_code 1 = .ok (.invokespecial 1, 3) := by decide +kernel
theorem kd_M_4 : decode prog_9_method_1_code 4 = .ok (.aload_n 0, 1) := by decide +kernel
theorem kd_M_5 : decode prog_9_method_1_code 5 = .ok (.bipush 7, 2) := by decide +kernel
theorem kd_M_7 : decode prog_9_method_1_code 7 = .ok (.newarray .int, 2) := by decide +kernel
theorem kd_M_9 : decode prog_9_method_1_code 9 = .ok (.putfield 7, 3) := by decide +kernel
theorem kd_M_12 : decode prog_9_method_1_code 12 = .ok (.aload_n 0, 1) := by decide +kernel
theorem kd_M_13 : decode prog_9_method_1_code 13 = .ok (.iconst 2, 1) := by decide +kernel
theorem kd_M_14 : decode prog_9_method_1_code 14 = .ok (.newarray .int, 2) := by decide +kernel
theorem kd_M_16 : decode prog_9_method_1_code 16 = .ok (.putfield 13, 3) := by decide +kernel
theorem kd_M_19 : decode prog_9_method_1_code 19 = .ok (.aload_n 0, 1) := by decide +kernel
theorem kd_M_20 : decode prog_9_method_1_code 20 = .ok (.iconst 2, 1) := by decide +kernel
theorem kd_M_21 : decode prog_9_method_1_code 21 = .ok (.newarray .int, 2) := by decide +kernel
theorem kd_M_23 : decode prog_9_method_1_code 23 = .ok (.putfield 16, 3) := by decide +kernel
theorem kd_M_26 : decode prog_9_method_1_code 26 = .ok (.aload_n 0, 1) := by decide +kernel
theorem kd_M_27 : decode prog_9_method_1_code 27 = .ok (.iconst 2, 1) := by decide +kernel
theorem kd_M_28 : decode prog_9_method_1_code 28 = .ok (.newarray .int, 2) := by decide +kernel
theorem kd_M_30 : decode prog_9_method_1_code 30 = .ok (.putfield 19, 3) := by decide +kernel
theorem kd_M_33 : decode prog_9_method_1_code 33 = .ok (.aload_n 0, 1) := by decide +kernel
theorem kd_M_34 : decode prog_9_method_1_code 34 = .ok (.iconst 2, 1) := by decide +kernel
theorem kd_M_35 : decode prog_9_method_1_code 35 = .ok (.newarray .int, 2) := by decide +kernel
theorem kd_M_37 : decode prog_9_method_1_code 37 = .ok (.putfield 22, 3) := by decide +kernel
theorem kd_M_40 : decode prog_9_method_1_code 40 = .ok (.aload_n 0, 1) := by decide +kernel
theorem kd_M_41 : decode prog_9_method_1_code 41 = .ok (.iconst 2, 1) := by decide +kernel
theorem kd_M_42 : decode prog_9_method_1_code 42 = .ok (.newarray .int, 2) := by decide +kernel
theorem kd_M_44 : decode prog_9_method_1_code 44 = .ok (.putfield 25, 3) := by decide +kernel
theorem kd_M_47 : decode prog_9_method_1_code 47 = .ok (.aload_n 0, 1) := by decide +kernel
theorem kd_M_48 : decode prog_9_method_1_code 48 = .ok (.bipush 12, 2) := by decide +kernel
theorem kd_M_50 : decode prog_9_method_1_code 50 = .ok (.newarray .int, 2) := by decide +kernel
theorem kd_M_52 : decode prog_9_method_1_code 52 = .ok (.putfield 28, 3) := by decide +kernel
theorem kd_M_55 : decode prog_9_method_1_code 55 = .ok (.aload_n 0, 1) := by decide +kernel
theorem kd_M_56 : decode prog_9_method_1_code 56 = .ok (.bipush 12, 2) := by decide +kernel
theorem kd_M_58 : decode prog_9_method_1_code 58 = .ok (.newarray .int, 2) := by decide +kernel
theorem kd_M_60 : decode prog_9_method_1_code 60 = .ok (.putfield 31, 3) := by decide +kernel
theorem kd_M_63 : decode prog_9_method_1_code 63 = .ok (.aload_n 0, 1) := by decide +kernel
theorem kd_M_64 : decode prog_9_method_1_code 64 = .ok (.bipush 12, 2) := by decide +kernel
theorem kd_M_66 : decode prog_9_method_1_code 66 = .ok (.newarray .int, 2) := by decide +kernel
theorem kd_M_68 : decode prog_9_method_1_code 68 = .ok (.putfield 34, 3) := by decide +kernel
theorem kd_M_71 : decode prog_9_method_1_code 71 = .ok (.aload_n 0, 1) := by decide +kernel
theorem kd_M_72 : decode prog_9_method_1_code 72 = .ok (.bipush 12, 2) := by decide +kernel
theorem kd_M_74 : decode prog_9_method_1_code 74 = .ok (.newarray .int, 2) := by decide +kernel
theorem kd_M_76 : decode prog_9_method_1_code 76 = .ok (.putfield 37, 3) := by decide +kernel
theorem kd_M_79 : decode prog_9_method_1_code 79 = .ok (.aload_n 0, 1) := by decide +kernel
theorem kd_M_80 : decode prog_9_method_1_code 80 = .ok (.bipush 12, 2) := by decide +kernel
theorem kd_M_82 : decode prog_9_method_1_code 82 = .ok (.newarray .int, 2) := by decide +kernel
theorem kd_M_84 : decode prog_9_method_1_code 84 = .ok (.putfield 40, 3) := by decide +kernel
theorem kd_M_87 : decode prog_9_method_1_code 87 = .ok (.aload_n 0, 1) := by decide +kernel
theorem kd_M_88 : decode prog_9_method_1_code 88 = .ok (.bipush 96, 2) := by decide +kernel
theorem kd_M_90 : decode prog_9_method_1_code 90 = .ok (.newarray .int, 2) := by decide +kernel
theorem kd_M_92 : decode prog_9_method_1_code 92 = .ok (.putfield 43, 3) := by decide +kernel
theorem kd_M_95 : decode prog_9_method_1_code 95 = .ok (.aload_n 0, 1) := by decide +kernel
theorem kd_M_96 : decode prog_9_method_1_code 96 = .ok (.bipush 48, 2) := by decide +kernel
theorem kd_M_98 : decode prog_9_method_1_code 98 = .ok (.newarray .int, 2) := by decide +kernel
theorem kd_M_100 : decode prog_9_method_1_code 100 = .ok (.putfield 46, 3) := by decide +kernel
theorem kd_M_103 : decode prog_9_method_1_code 103 = .ok (.aload_n 0, 1) := by decide +kernel
theorem kd_M_104 : decode prog_9_method_1_code 104 = .ok (.bipush 48, 2) := by decide +kernel
theorem kd_M_106 : decode prog_9_method_1_code 106 = .ok (.newarray .int, 2) := by decide +kernel
theorem kd_M_108 : decode prog_9_method_1_code 108 = .ok (.putfield 49, 3) := by decide +kernel
theorem kd_M_111 : decode prog_9_method_1_code 111 = .ok (.aload_n 0, 1) := by decide +kernel
theorem kd_M_112 : decode prog_9_method_1_code 112 = .ok (.sipush 192, 3) := by decide +kernel
theorem kd_M_115 : decode prog_9_method_1_code 115 = .ok (.newarray .int, 2) := by decide +kernel
theorem kd_M_117 : decode prog_9_method_1_code 117 = .ok (.putfield 52, 3) := by decide +kernel
theorem kd_M_120 : decode prog_9_method_1_code 120 = .ok (.aload_n 0, 1) := by decide +kernel
theorem kd_M_121 : decode prog_9_method_1_code 121 = .ok (.sipush 800, 3) := by decide +kernel
theorem kd_M_124 : decode prog_9_method_1_code 124 = .ok (.newarray .int, 2) := by decide +kernel
theorem kd_M_126 : decode prog_9_method_1_code 126 = .ok (.putfield 55, 3) := by decide +kernel
theorem kd_M_129 : decode prog_9_method_1_code 129 = .ok (.aload_n 0, 1) := by decide +kernel
theorem kd_M_130 : decode prog_9_method_1_code 130 = .ok (.bipush 12, 2) := by decide +kernel
theorem kd_M_132 : decode prog_9_method_1_code 132 = .ok (.newarray .int, 2) := by decide +kernel
theorem kd_M_134 : decode prog_9_method_1_code 134 = .ok (.putfield 58, 3) := by decide +kernel
theorem kd_M_137 : decode prog_9_method_1_code 137 = .ok (.aload_n 0, 1) := by decide +kernel
theorem kd_M_138 : decode prog_9_method_1_code 138 = .ok (.bipush 12, 2) := by decide +kernel
theorem kd_M_140 : decode prog_9_method_1_code 140 = .ok (.newarray .int, 2) := by decide +kernel
theorem kd_M_142 : decode prog_9_method_1_code 142 = .ok (.putfield 61, 3) := by decide +kernel
theorem kd_M_145 : decode prog_9_method_1_code 145 = .ok (.aload_n 0, 1) := by decide +kernel
theorem kd_M_146 : decode prog_9_method_1_code 146 = .ok (.ldc 64, 2) := by decide +kernel
theorem kd_M_148 : decode prog_9_method_1_code 148 = .ok (.newarray .int, 2) := by decide +kernel
theorem kd_M_150 : decode prog_9_method_1_code 150 = .ok (.putfield 65, 3) := by decide +kernel
theorem kd_M_153 : decode prog_9_method_1_code 153 = .ok (.aload_n 0, 1) := by decide +kernel
theorem kd_M_154 : decode prog_9_method_1_code 154 = .ok (.bipush 14, 2) := by decide +kernel
theorem kd_M_156 : decode prog_9_method_1_code 156 = .ok (.newarray .int, 2) := by decide +kernel
theorem kd_M_158 : decode prog_9_method_1_code 158 = .ok (.putfield 68, 3) := by decide +kernel
theorem kd_M_161 : decode prog_9_method_1_code 161 = .ok (.aload_n 0, 1) := by decide +kernel
theorem kd_M_162 : decode prog_9_method_1_code 162 = .ok (.bipush 12, 2) := by decide +kernel
theorem kd_M_164 : decode prog_9_method_1_code 164 = .ok (.newarray .int, 2) := by decide +kernel
theorem kd_M_166 : decode prog_9_method_1_code 166 = .ok (.putfield 71, 3) := by decide +kernel
theorem kd_M_169 : decode prog_9_method_1_code 169 = .ok (.aload_n 0, 1) := by decide +kernel
theorem kd_M_170 : decode prog_9_method_1_code 170 = .ok (.sipush 4096, 3) := by decide +kernel
theorem kd_M_173 : decode prog_9_method_1_code 173 = .ok (.newarray .long, 2) := by decide +kernel
theorem kd_M_175 : decode prog_9_method_1_code 175 = .ok (.putfield 74, 3) := by decide +kernel
theorem kd_M_178 : decode prog_9_method_1_code 178 = .ok (.aload_n 0, 1) := by decide +kernel
theorem kd_M_179 : decode prog_9_method_1_code 179 = .ok (.bipush 7, 2) := by decide +kernel
theorem kd_M_181 : decode prog_9_method_1_code 181 = .ok (.newarray .int, 2) := by decide +kernel
theorem kd_M_183 : decode prog_9_method_1_code 183 = .ok (.putfield 78, 3) := by decide +kernel
theorem kd_M_186 : decode prog_9_method_1_code 186 = .ok (.aload_n 0, 1) := by decide +kernel
theorem kd_M_187 : decode prog_9_method_1_code 187 = .ok (.sipush 4096, 3) := by decide +kernel
theorem kd_M_190 : decode prog_9_method_1_code 190 = .ok (.newarray .int, 2) := by decide +kernel
theorem kd_M_192 : decode prog_9_method_1_code 192 = .ok (.putfield 81, 3) := by decide +kernel
theorem kd_M_195 : decode prog_9_method_1_code 195 = .ok (.aload_n 0, 1) := by decide +kernel
theorem kd_M_196 : decode prog_9_method_1_code 196 = .ok (.bipush 84, 2) := by decide +kernel
theorem kd_M_198 : decode prog_9_method_1_code 198 = .ok (.newarray .int, 2) := by decide +kernel
theorem kd_M_200 : decode prog_9_method_1_code 200 = .ok (.putfield 84, 3) := by decide +kernel
theorem kd_M_203 : decode prog_9_method_1_code 203 = .ok (.aload_n 0, 1) := by decide +kernel
theorem kd_M_204 : decode prog_9_method_1_code 204 = .ok (.getfield 13, 3) := by decide +kernel
theorem kd_M_207 : decode prog_9_method_1_code 207 = .ok (.iconst 1, 1) := by decide +kernel
theorem kd_M_208 : decode prog_9_method_1_code 208 = .ok (.iconst 3, 1) := by decide +kernel
theorem kd_M_209 : decode prog_9_method_1_code 209 = .ok (.iastore, 1) := by decide +kernel
theorem kd_M_210 : decode prog_9_method_1_code 210 = .ok (.aload_n 0, 1) := by decide +kernel
theorem kd_M_211 : decode prog_9_method_1_code 211 = .ok (.getfield 16, 3) := by decide +kernel
theorem kd_M_214 : decode prog_9_method_1_code 214 = .ok (.iconst 0, 1) := by decide +kernel
theorem kd_M_215 : decode prog_9_method_1_code 215 = .ok (.bipush 50, 2) := by decide +kernel
theorem kd_M_217 : decode prog_9_method_1_code 217 = .ok (.iastore, 1) := by decide +kernel
theorem kd_M_218 : decode prog_9_method_1_code 218 = .ok (.aload_n 0, 1) := by decide +kernel
theorem kd_M_219 : decode prog_9_method_1_code 219 = .ok (.getfield 16, 3) := by decide +kernel
theorem kd_M_222 : decode prog_9_method_1_code 222 = .ok (.iconst 1, 1) := by decide +kernel
theorem kd_M_223 : decode prog_9_method_1_code 223 = .ok (.bipush 50, 2) := by decide +kernel
theorem kd_M_225 : decode prog_9_method_1_code 225 = .ok (.iastore, 1) := by decide +kernel
theorem kd_M_226 : decode prog_9_method_1_code 226 = .ok (.return_, 1) := by decide +kernel
set_option maxHeartbeats 4000000 in
set_option maxRecDepth 100000 in
theorem c_Person_init (l : Launch) (D : va_G) (cA : Nat → ClassId) (h0 sz : Nat) (k : Int32) : kMet l D cA ⟨"JealousByCalendar$Person", "<init>", "(I)V"⟩ prog_6_method_1_code 2 1 h0 3 sz [.int k] 0 0 (fun _ : Unit => [(h0, .inr (3, [.int k, .int 50, .int 0, .int 0, .int 0]))]) := by
  refine k_met (by decide) rfl (Nat.le_of_ble_eq_true rfl) ?_
  intro p e s m below meth c ls E hin hr hlocks hl hW hA
  have hl : lv_has ls 2 [(0, .ref h0), (1, .int k)] := hl
  have hW : kC D _ _ [(h0, .inr (3, [.int 0, .int 0, .int 0, .int 0, .int 0]))] _ _ := hW
  refine lv_aload_n E.1.1 E.1.2.1 kd_Person_0 rfl (lv_at hl 0 rfl) ?_
  refine k_obj E (i1 := 177) (by decide +kernel) hl.1 ⟨(Nat.le_of_ble_eq_true rfl), (Nat.le_of_ble_eq_true rfl)⟩ kd_Person_1 ?_
  refine lv_aload_n E.1.1 E.1.2.1 kd_Person_4 rfl (lv_at hl 0 rfl) ?_
  refine lv_bipush (v := 50) E.1.1 E.1.2.1 kd_Person_5 (by decide) ?_
  refine k_put E (i1 := 181) (k := 1) hW (by decide) (by decide) (by decide +kernel) rfl rfl rfl rfl (Nat.le_of_ble_eq_true rfl) kd_Person_7 (fun H locs hW => ?_)
  have hW : kC D _ _ ((h0, .inr (3, [.int 0, .int 50, .int 0, .int 0, .int 0])) :: []) _ _ := hW
  refine lv_aload_n E.1.1 E.1.2.1 kd_Person_10 rfl (lv_at hl 0 rfl) ?_
  refine lv_iload_n E.1.1 E.1.2.1 kd_Person_11 rfl (lv_at hl 1 rfl) ?_
  refine k_put E (i1 := 178) (k := 0) hW (by decide) (by decide) (by decide +kernel) rfl rfl rfl rfl (Nat.le_of_ble_eq_true rfl) kd_Person_12 (fun H locs hW => ?_)
  have hW : kC D _ _ ((h0, .inr (3, [.int k, .int 50, .int 0, .int 0, .int 0])) :: []) _ _ := hW
  refine W.widen (k := 0) (n := 0) (Nat.le_of_ble_eq_true rfl) (Nat.le_of_ble_eq_true rfl) ?_
  exact k_ret E hr hlocks () hW kd_Person_15
set_option maxHeartbeats 4000000 in
set_option maxRecDepth 100000 in
theorem c_Cause_init (l : Launch) (D : va_G) (cA : Nat → ClassId) (h0 sz : Nat) : kMet l D cA ⟨"JealousByCalendar$Cause", "<init>", "()V"⟩ prog_3_method_1_code 1 1 h0 1 sz [] 0 0 (fun _ : Unit => [(h0, .inr (1, k0 1))]) := by
  refine k_met (by decide) rfl (Nat.le_of_ble_eq_true rfl) ?_
  intro p e s m below meth c ls E hin hr hlocks hl hW hA
  have hl : lv_has ls 1 [(0, .ref h0)] := hl
  have hW : kC D _ _ [(h0, .inr (1, [.int 0, .int 0, .int 0, .int 0, .int 0, .int 0, .int 0]))] _ _ := hW
  refine lv_aload_n E.1.1 E.1.2.1 kd_Cause_0 rfl (lv_at hl 0 rfl) ?_
  refine k_obj E (i1 := 210) (by decide +kernel) hl.1 ⟨(Nat.le_of_ble_eq_true rfl), (Nat.le_of_ble_eq_true rfl)⟩ kd_Cause_1 ?_
  have hW : kC D _ _ [(h0, .inr (1, k0 1))] _ _ := hW
  refine W.widen (k := 0) (n := 0) (Nat.le_of_ble_eq_true rfl) (Nat.le_of_ble_eq_true rfl) ?_
  exact k_ret E hr hlocks () hW kd_Cause_4
set_option maxHeartbeats 4000000 in
set_option maxRecDepth 100000 in
theorem c_Choice_init (l : Launch) (D : va_G) (cA : Nat → ClassId) (h0 sz : Nat) : kMet l D cA ⟨"JealousByCalendar$Choice", "<init>", "()V"⟩ prog_4_method_1_code 1 1 h0 5 sz [] 0 0 (fun _ : Unit => [(h0, .inr (5, k0 5))]) := by
  refine k_met (by decide) rfl (Nat.le_of_ble_eq_true rfl) ?_
  intro p e s m below meth c ls E hin hr hlocks hl hW hA
  have hl : lv_has ls 1 [(0, .ref h0)] := hl
  have hW : kC D _ _ [(h0, .inr (5, [.int 0, .int 0, .int 0, .int 0]))] _ _ := hW
  refine lv_aload_n E.1.1 E.1.2.1 kd_Choice_0 rfl (lv_at hl 0 rfl) ?_
  refine k_obj E (i1 := 282) (by decide +kernel) hl.1 ⟨(Nat.le_of_ble_eq_true rfl), (Nat.le_of_ble_eq_true rfl)⟩ kd_Choice_1 ?_
  have hW : kC D _ _ [(h0, .inr (5, k0 5))] _ _ := hW
  refine W.widen (k := 0) (n := 0) (Nat.le_of_ble_eq_true rfl) (Nat.le_of_ble_eq_true rfl) ?_
  exact k_ret E hr hlocks () hW kd_Choice_4
def wCo (cA : Nat → ClassId) (h0 : Nat) (u : Nat → Nat) : va_W := [(h0, .inr (6, [.ref (u 0), .ref (u 1), .ref (u 2), .int 0])), (u 0, .inl (cA 0, 26, .inl (fun _ => 0))), (u 1, .inl (cA 0, 26, .inl (fun _ => 0))), (u 2, .inl (cA 2, 26, .inl (fun _ => 0)))]
set_option maxHeartbeats 4000000 in
set_option maxRecDepth 100000 in
theorem c_Course_init (l : Launch) (D : va_G) (cA : Nat → ClassId) (h0 sz : Nat) : kMet l D cA ⟨"JealousByCalendar$Course", "<init>", "()V"⟩ prog_5_method_1_code 1 1 h0 6 sz [] 3 78 (fun u : Nat → Nat => wCo cA h0 u) := by
  refine k_met (by decide) rfl (Nat.le_of_ble_eq_true rfl) ?_
  intro p e s m below meth c ls E hin hr hlocks hl hW hA
  have hl : lv_has ls 1 [(0, .ref h0)] := hl
  have hW : kC D _ _ [(h0, .inr (6, [.null, .null, .null, .int 0]))] _ _ := hW
  refine lv_aload_n E.1.1 E.1.2.1 kd_Course_0 rfl (lv_at hl 0 rfl) ?_
  refine k_obj E (i1 := 340) (by decide +kernel) hl.1 ⟨(Nat.le_of_ble_eq_true rfl), (Nat.le_of_ble_eq_true rfl)⟩ kd_Course_1 ?_
  refine lv_aload_n E.1.1 E.1.2.1 kd_Course_4 rfl (lv_at hl 0 rfl) ?_
  refine lv_bipush (v := 26) E.1.1 E.1.2.1 kd_Course_5 (by decide) ?_
  refine k_newi E hW hA (N := 26) (by decide) (by decide) (by decide) ⟨(Nat.le_of_ble_eq_true rfl), (Nat.le_of_ble_eq_true rfl)⟩ kd_Course_7 (fun q7 H hW => ?_)
  have hW : kC D _ _ ((h0, .inr (6, [.null, .null, .null, .int 0])) :: [(q7, .inl (cA 0, 26, .inl (fun _ => 0)))]) _ _ := hW
  refine k_putF E hin (i1 := 341) (k := 0) hW (by decide) (by decide) (by decide +kernel) rfl ⟨rfl, rfl⟩ rfl rfl (Nat.le_of_ble_eq_true rfl) kd_Course_9 (fun H locs hW => ?_)
  have hW : kC D _ _ ((h0, .inr (6, [.ref q7, .null, .null, .int 0])) :: [(q7, .inl (cA 0, 26, .inl (fun _ => 0)))]) _ _ := hW
  refine lv_aload_n E.1.1 E.1.2.1 kd_Course_12 rfl (lv_at hl 0 rfl) ?_
  refine lv_bipush (v := 26) E.1.1 E.1.2.1 kd_Course_13 (by decide) ?_
  refine k_newi E hW hA (N := 26) (by decide) (by decide) (by decide) ⟨(Nat.le_of_ble_eq_true rfl), (Nat.le_of_ble_eq_true rfl)⟩ kd_Course_15 (fun q15 H hW => ?_)
  have hW : kC D _ _ ((h0, .inr (6, [.ref q7, .null, .null, .int 0])) :: [(q7, .inl (cA 0, 26, .inl (fun _ => 0))), (q15, .inl (cA 0, 26, .inl (fun _ => 0)))]) _ _ := hW
  refine k_putF E hin (i1 := 342) (k := 1) hW (by decide) (by decide) (by decide +kernel) rfl ⟨rfl, rfl⟩ rfl rfl (Nat.le_of_ble_eq_true rfl) kd_Course_17 (fun H locs hW => ?_)
  have hW : kC D _ _ ((h0, .inr (6, [.ref q7, .ref q15, .null, .int 0])) :: [(q7, .inl (cA 0, 26, .inl (fun _ => 0))), (q15, .inl (cA 0, 26, .inl (fun _ => 0)))]) _ _ := hW
  refine lv_aload_n E.1.1 E.1.2.1 kd_Course_20 rfl (lv_at hl 0 rfl) ?_
  refine lv_bipush (v := 26) E.1.1 E.1.2.1 kd_Course_21 (by decide) ?_
  refine k_newz E hW hA (N := 26) (by decide) (by decide) (by decide) ⟨(Nat.le_of_ble_eq_true rfl), (Nat.le_of_ble_eq_true rfl)⟩ kd_Course_23 (fun q23 H hW => ?_)
  have hW : kC D _ _ ((h0, .inr (6, [.ref q7, .ref q15, .null, .int 0])) :: [(q7, .inl (cA 0, 26, .inl (fun _ => 0))), (q15, .inl (cA 0, 26, .inl (fun _ => 0))), (q23, .inl (cA 2, 26, .inl (fun _ => 0)))]) _ _ := hW
  refine k_putF E hin (i1 := 343) (k := 2) hW (by decide) (by decide) (by decide +kernel) rfl ⟨rfl, rfl⟩ rfl rfl (Nat.le_of_ble_eq_true rfl) kd_Course_25 (fun H locs hW => ?_)
  have hW : kC D _ _ ((h0, .inr (6, [.ref q7, .ref q15, .ref q23, .int 0])) :: [(q7, .inl (cA 0, 26, .inl (fun _ => 0))), (q15, .inl (cA 0, 26, .inl (fun _ => 0))), (q23, .inl (cA 2, 26, .inl (fun _ => 0)))]) _ _ := hW
  have hW : kC D _ _ (wCo cA h0 (fun i => if i = 0 then q7 else if i = 1 then q15 else q23)) _ _ := hW
  refine W.widen (k := 3) (n := 78) (Nat.le_of_ble_eq_true rfl) (Nat.le_of_ble_eq_true rfl) ?_
  exact k_ret E hr hlocks (fun i => if i = 0 then q7 else if i = 1 then q15 else q23) hW kd_Course_28
end
