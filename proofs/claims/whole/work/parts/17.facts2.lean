theorem k169_67 : decode zm169.2.1 67 = .ok (.iconst 1, 1) := by decide +kernel
theorem k169_68 : decode zm169.2.1 68 = .ok (.iload_n 1, 1) := by decide +kernel
theorem k169_69 : decode zm169.2.1 69 = .ok (.iadd, 1) := by decide +kernel
theorem k169_70 : decode zm169.2.1 70 = .ok (.iaload, 1) := by decide +kernel
theorem k169_71 : decode zm169.2.1 71 = .ok (.ireturn, 1) := by decide +kernel
theorem k169_72 : decode zm169.2.1 72 = .ok (.aload_n 0, 1) := by decide +kernel
theorem k169_73 : decode zm169.2.1 73 = .ok (.getfield 7, 3) := by decide +kernel
theorem k169_76 : decode zm169.2.1 76 = .ok (.iconst 5, 1) := by decide +kernel
theorem k169_77 : decode zm169.2.1 77 = .ok (.iload_n 1, 1) := by decide +kernel
theorem k169_78 : decode zm169.2.1 78 = .ok (.iadd, 1) := by decide +kernel
theorem k169_79 : decode zm169.2.1 79 = .ok (.iaload, 1) := by decide +kernel
theorem k169_80 : decode zm169.2.1 80 = .ok (.ireturn, 1) := by decide +kernel
theorem k169_81 : decode zm169.2.1 81 = .ok (.aload_n 0, 1) := by decide +kernel
theorem k169_82 : decode zm169.2.1 82 = .ok (.getfield 7, 3) := by decide +kernel
theorem k169_85 : decode zm169.2.1 85 = .ok (.bipush 9, 2) := by decide +kernel
theorem k169_87 : decode zm169.2.1 87 = .ok (.iload_n 1, 1) := by decide +kernel
theorem k169_88 : decode zm169.2.1 88 = .ok (.iadd, 1) := by decide +kernel
theorem k169_89 : decode zm169.2.1 89 = .ok (.iaload, 1) := by decide +kernel
theorem k169_90 : decode zm169.2.1 90 = .ok (.ireturn, 1) := by decide +kernel
theorem k169_91 : decode zm169.2.1 91 = .ok (.aload_n 0, 1) := by decide +kernel
theorem k169_92 : decode zm169.2.1 92 = .ok (.getfield 7, 3) := by decide +kernel
theorem k169_95 : decode zm169.2.1 95 = .ok (.bipush 13, 2) := by decide +kernel
theorem k169_97 : decode zm169.2.1 97 = .ok (.iload_n 1, 1) := by decide +kernel
theorem k169_98 : decode zm169.2.1 98 = .ok (.iadd, 1) := by decide +kernel
theorem k169_99 : decode zm169.2.1 99 = .ok (.iaload, 1) := by decide +kernel
theorem k169_100 : decode zm169.2.1 100 = .ok (.ireturn, 1) := by decide +kernel
theorem k169_101 : decode zm169.2.1 101 = .ok (.aload_n 0, 1) := by decide +kernel
theorem k169_102 : decode zm169.2.1 102 = .ok (.iload_n 1, 1) := by decide +kernel
theorem k169_103 : decode zm169.2.1 103 = .ok (.invokevirtual 231, 3) := by decide +kernel
theorem k169_106 : decode zm169.2.1 106 = .ok (.ireturn, 1) := by decide +kernel
theorem k169_107 : decode zm169.2.1 107 = .ok (.aload_n 0, 1) := by decide +kernel
theorem k169_108 : decode zm169.2.1 108 = .ok (.getfield 35, 3) := by decide +kernel
theorem k169_111 : decode zm169.2.1 111 = .ok (.iload_n 1, 1) := by decide +kernel
theorem k169_112 : decode zm169.2.1 112 = .ok (.iaload, 1) := by decide +kernel
theorem k169_113 : decode zm169.2.1 113 = .ok (.ireturn, 1) := by decide +kernel
theorem k169_114 : decode zm169.2.1 114 = .ok (.bipush (-3), 2) := by decide +kernel
theorem k169_116 : decode zm169.2.1 116 = .ok (.ireturn, 1) := by decide +kernel
theorem k169_8 : decode zm169.2.1 8 = .ok (.bipush (-2), 2) := by decide +kernel
theorem k169_10 : decode zm169.2.1 10 = .ok (.ireturn, 1) := by decide +kernel
theorem lk_10_207 : zmx 10 207 = some (178, 1) := by decide +kernel
theorem lk_10_210 : zmx 10 210 = some (179, 1) := by decide +kernel
theorem k176_129 : decode zm176.2.1 129 = .ok (.iload_n 3, 1) := by decide +kernel
theorem k176_130 : decode zm176.2.1 130 = .ok (.ifCond .eq 7, 3) := by decide +kernel
theorem k176_137 : decode zm176.2.1 137 = .ok (.iconst 0, 1) := by decide +kernel
theorem k176_138 : decode zm176.2.1 138 = .ok (.iadd, 1) := by decide +kernel
theorem k176_139 : decode zm176.2.1 139 = .ok (.ireturn, 1) := by decide +kernel
theorem k176_133 : decode zm176.2.1 133 = .ok (.iconst 1, 1) := by decide +kernel
theorem k176_134 : decode zm176.2.1 134 = .ok (.goto 4, 3) := by decide +kernel
theorem k176_113 : decode zm176.2.1 113 = .ok (.istore_n 3, 1) := by decide +kernel
theorem k176_114 : decode zm176.2.1 114 = .ok (.aload_n 0, 1) := by decide +kernel
theorem k176_115 : decode zm176.2.1 115 = .ok (.getfield 54, 3) := by decide +kernel
theorem k176_118 : decode zm176.2.1 118 = .ok (.iload_n 1, 1) := by decide +kernel
theorem k176_119 : decode zm176.2.1 119 = .ok (.iaload, 1) := by decide +kernel
theorem k176_120 : decode zm176.2.1 120 = .ok (.iconst 3, 1) := by decide +kernel
theorem k176_121 : decode zm176.2.1 121 = .ok (.if_icmp .ne 7, 3) := by decide +kernel
theorem k176_128 : decode zm176.2.1 128 = .ok (.iconst 2, 1) := by decide +kernel
theorem k176_124 : decode zm176.2.1 124 = .ok (.iconst 1, 1) := by decide +kernel
theorem k176_125 : decode zm176.2.1 125 = .ok (.goto 4, 3) := by decide +kernel
theorem k176_112 : decode zm176.2.1 112 = .ok (.iconst 0, 1) := by decide +kernel
theorem k176_72 : decode zm176.2.1 72 = .ok (.aload_n 0, 1) := by decide +kernel
theorem k176_73 : decode zm176.2.1 73 = .ok (.getfield 162, 3) := by decide +kernel
theorem k176_76 : decode zm176.2.1 76 = .ok (.iconst 2, 1) := by decide +kernel
theorem k176_77 : decode zm176.2.1 77 = .ok (.invokestatic 203, 3) := by decide +kernel
theorem k176_80 : decode zm176.2.1 80 = .ok (.ifCond .eq 32, 3) := by decide +kernel
theorem k176_83 : decode zm176.2.1 83 = .ok (.iload_n 1, 1) := by decide +kernel
theorem k176_84 : decode zm176.2.1 84 = .ok (.iconst 1, 1) := by decide +kernel
theorem k176_85 : decode zm176.2.1 85 = .ok (.if_icmp .le 27, 3) := by decide +kernel
theorem k176_88 : decode zm176.2.1 88 = .ok (.aload_n 0, 1) := by decide +kernel
theorem k176_89 : decode zm176.2.1 89 = .ok (.iload_n 1, 1) := by decide +kernel
theorem k176_90 : decode zm176.2.1 90 = .ok (.iconst 1, 1) := by decide +kernel
theorem k176_91 : decode zm176.2.1 91 = .ok (.isub, 1) := by decide +kernel
theorem k176_92 : decode zm176.2.1 92 = .ok (.invokevirtual 207, 3) := by decide +kernel
theorem k176_95 : decode zm176.2.1 95 = .ok (.ifCond .eq 17, 3) := by decide +kernel
theorem k176_98 : decode zm176.2.1 98 = .ok (.aload_n 0, 1) := by decide +kernel
theorem k176_99 : decode zm176.2.1 99 = .ok (.iload_n 1, 1) := by decide +kernel
theorem k176_100 : decode zm176.2.1 100 = .ok (.iconst 2, 1) := by decide +kernel
theorem k176_101 : decode zm176.2.1 101 = .ok (.isub, 1) := by decide +kernel
theorem k176_102 : decode zm176.2.1 102 = .ok (.invokevirtual 207, 3) := by decide +kernel
theorem k176_105 : decode zm176.2.1 105 = .ok (.ifCond .eq 7, 3) := by decide +kernel
theorem k176_108 : decode zm176.2.1 108 = .ok (.iconst 1, 1) := by decide +kernel
theorem k176_109 : decode zm176.2.1 109 = .ok (.goto 4, 3) := by decide +kernel
theorem k176_38 : decode zm176.2.1 38 = .ok (.istore_n 2, 1) := by decide +kernel
theorem k176_39 : decode zm176.2.1 39 = .ok (.aload_n 0, 1) := by decide +kernel
theorem k176_40 : decode zm176.2.1 40 = .ok (.iload_n 1, 1) := by decide +kernel
theorem k176_41 : decode zm176.2.1 41 = .ok (.invokevirtual 207, 3) := by decide +kernel
theorem k176_44 : decode zm176.2.1 44 = .ok (.ifCond .eq 26, 3) := by decide +kernel
theorem k176_70 : decode zm176.2.1 70 = .ok (.iconst 0, 1) := by decide +kernel
theorem k176_71 : decode zm176.2.1 71 = .ok (.ireturn, 1) := by decide +kernel
theorem k176_47 : decode zm176.2.1 47 = .ok (.iload_n 2, 1) := by decide +kernel
theorem k176_48 : decode zm176.2.1 48 = .ok (.ifCond .ne 22, 3) := by decide +kernel
theorem k176_51 : decode zm176.2.1 51 = .ok (.aload_n 0, 1) := by decide +kernel
theorem k176_52 : decode zm176.2.1 52 = .ok (.getfield 162, 3) := by decide +kernel
theorem k176_55 : decode zm176.2.1 55 = .ok (.iconst 1, 1) := by decide +kernel
theorem k176_56 : decode zm176.2.1 56 = .ok (.invokestatic 203, 3) := by decide +kernel
theorem k176_59 : decode zm176.2.1 59 = .ok (.ifCond .eq 13, 3) := by decide +kernel
theorem k176_62 : decode zm176.2.1 62 = .ok (.aload_n 0, 1) := by decide +kernel
theorem k176_63 : decode zm176.2.1 63 = .ok (.iload_n 1, 1) := by decide +kernel
theorem k176_64 : decode zm176.2.1 64 = .ok (.invokevirtual 210, 3) := by decide +kernel
theorem k176_67 : decode zm176.2.1 67 = .ok (.ifCond .eq 5, 3) := by decide +kernel
theorem k176_37 : decode zm176.2.1 37 = .ok (.iconst 0, 1) := by decide +kernel
theorem k176_0 : decode zm176.2.1 0 = .ok (.aload_n 0, 1) := by decide +kernel
theorem k176_1 : decode zm176.2.1 1 = .ok (.getfield 162, 3) := by decide +kernel
theorem k176_4 : decode zm176.2.1 4 = .ok (.iconst 0, 1) := by decide +kernel
theorem k176_5 : decode zm176.2.1 5 = .ok (.invokestatic 203, 3) := by decide +kernel
theorem k176_8 : decode zm176.2.1 8 = .ok (.ifCond .eq 29, 3) := by decide +kernel
theorem k176_11 : decode zm176.2.1 11 = .ok (.iload_n 1, 1) := by decide +kernel
theorem k176_12 : decode zm176.2.1 12 = .ok (.iconst 1, 1) := by decide +kernel
theorem k176_13 : decode zm176.2.1 13 = .ok (.iadd, 1) := by decide +kernel
theorem k176_14 : decode zm176.2.1 14 = .ok (.aload_n 0, 1) := by decide +kernel
theorem k176_15 : decode zm176.2.1 15 = .ok (.getfield 194, 3) := by decide +kernel
theorem k176_18 : decode zm176.2.1 18 = .ok (.if_icmp .ge 19, 3) := by decide +kernel
theorem k176_21 : decode zm176.2.1 21 = .ok (.aload_n 0, 1) := by decide +kernel
theorem k176_22 : decode zm176.2.1 22 = .ok (.getfield 54, 3) := by decide +kernel
theorem k176_25 : decode zm176.2.1 25 = .ok (.iload_n 1, 1) := by decide +kernel
theorem k176_26 : decode zm176.2.1 26 = .ok (.iconst 1, 1) := by decide +kernel
theorem k176_27 : decode zm176.2.1 27 = .ok (.iadd, 1) := by decide +kernel
theorem k176_28 : decode zm176.2.1 28 = .ok (.iaload, 1) := by decide +kernel
theorem k176_29 : decode zm176.2.1 29 = .ok (.iconst 4, 1) := by decide +kernel
theorem k176_30 : decode zm176.2.1 30 = .ok (.if_icmp .ne 7, 3) := by decide +kernel
theorem k176_33 : decode zm176.2.1 33 = .ok (.iconst 1, 1) := by decide +kernel
theorem k176_34 : decode zm176.2.1 34 = .ok (.goto 4, 3) := by decide +kernel
theorem k180_16 : decode zm180.2.1 16 = .ok (.aload_n 0, 1) := by decide +kernel
theorem k180_17 : decode zm180.2.1 17 = .ok (.getfield 185, 3) := by decide +kernel
theorem k180_20 : decode zm180.2.1 20 = .ok (.bipush 8, 2) := by decide +kernel
theorem k180_22 : decode zm180.2.1 22 = .ok (.if_icmp .ne 6, 3) := by decide +kernel
theorem k180_28 : decode zm180.2.1 28 = .ok (.aload_n 0, 1) := by decide +kernel
theorem k180_29 : decode zm180.2.1 29 = .ok (.getfield 42, 3) := by decide +kernel
theorem k180_32 : decode zm180.2.1 32 = .ok (.aload_n 0, 1) := by decide +kernel
theorem k180_33 : decode zm180.2.1 33 = .ok (.getfield 185, 3) := by decide +kernel
theorem k180_36 : decode zm180.2.1 36 = .ok (.iload_n 1, 1) := by decide +kernel
theorem k180_37 : decode zm180.2.1 37 = .ok (.iastore, 1) := by decide +kernel
theorem k180_38 : decode zm180.2.1 38 = .ok (.aload_n 0, 1) := by decide +kernel
theorem k180_39 : decode zm180.2.1 39 = .ok (.dup, 1) := by decide +kernel
theorem k180_40 : decode zm180.2.1 40 = .ok (.getfield 185, 3) := by decide +kernel
theorem k180_43 : decode zm180.2.1 43 = .ok (.iconst 1, 1) := by decide +kernel
theorem k180_44 : decode zm180.2.1 44 = .ok (.iadd, 1) := by decide +kernel
theorem k180_45 : decode zm180.2.1 45 = .ok (.putfield 185, 3) := by decide +kernel
theorem k180_48 : decode zm180.2.1 48 = .ok (.aload_n 0, 1) := by decide +kernel
theorem k180_49 : decode zm180.2.1 49 = .ok (.getfield 185, 3) := by decide +kernel
theorem k180_52 : decode zm180.2.1 52 = .ok (.ireturn, 1) := by decide +kernel
theorem k180_25 : decode zm180.2.1 25 = .ok (.bipush (-5), 2) := by decide +kernel
theorem k180_27 : decode zm180.2.1 27 = .ok (.ireturn, 1) := by decide +kernel
theorem k180_0 : decode zm180.2.1 0 = .ok (.iload_n 1, 1) := by decide +kernel
theorem k180_1 : decode zm180.2.1 1 = .ok (.iconst (-1), 1) := by decide +kernel
theorem k180_2 : decode zm180.2.1 2 = .ok (.if_icmp .eq 14, 3) := by decide +kernel
theorem k180_5 : decode zm180.2.1 5 = .ok (.aload_n 0, 1) := by decide +kernel
theorem k180_6 : decode zm180.2.1 6 = .ok (.iload_n 1, 1) := by decide +kernel
theorem k180_7 : decode zm180.2.1 7 = .ok (.invokevirtual 225, 3) := by decide +kernel
theorem k180_10 : decode zm180.2.1 10 = .ok (.ifCond .ne 6, 3) := by decide +kernel
theorem k180_13 : decode zm180.2.1 13 = .ok (.bipush (-2), 2) := by decide +kernel
theorem k180_15 : decode zm180.2.1 15 = .ok (.ireturn, 1) := by decide +kernel
theorem lk_10_213 : zmx 10 213 = some (175, 1) := by decide +kernel
theorem k185_82 : decode zm185.2.1 82 = .ok (.istore_n 1, 1) := by decide +kernel
theorem k185_83 : decode zm185.2.1 83 = .ok (.iinc 2 1, 3) := by decide +kernel
theorem k185_86 : decode zm185.2.1 86 = .ok (.goto (-41), 3) := by decide +kernel
theorem k185_77 : decode zm185.2.1 77 = .ok (.iconst 1, 1) := by decide +kernel
theorem k185_78 : decode zm185.2.1 78 = .ok (.goto 4, 3) := by decide +kernel
theorem k185_45 : decode zm185.2.1 45 = .ok (.iload_n 1, 1) := by decide +kernel
theorem k185_46 : decode zm185.2.1 46 = .ok (.ifCond .eq 43, 3) := by decide +kernel
theorem k185_89 : decode zm185.2.1 89 = .ok (.iload_n 1, 1) := by decide +kernel
theorem k185_90 : decode zm185.2.1 90 = .ok (.ireturn, 1) := by decide +kernel
theorem k185_49 : decode zm185.2.1 49 = .ok (.iload_n 2, 1) := by decide +kernel
theorem k185_50 : decode zm185.2.1 50 = .ok (.aload_n 0, 1) := by decide +kernel
theorem k185_51 : decode zm185.2.1 51 = .ok (.getfield 194, 3) := by decide +kernel
theorem k185_54 : decode zm185.2.1 54 = .ok (.if_icmp .ge 35, 3) := by decide +kernel
theorem k185_57 : decode zm185.2.1 57 = .ok (.aload_n 0, 1) := by decide +kernel
theorem k185_58 : decode zm185.2.1 58 = .ok (.getfield 54, 3) := by decide +kernel
theorem k185_61 : decode zm185.2.1 61 = .ok (.iload_n 2, 1) := by decide +kernel
theorem k185_62 : decode zm185.2.1 62 = .ok (.iaload, 1) := by decide +kernel
theorem k185_63 : decode zm185.2.1 63 = .ok (.ifCond .ne 14, 3) := by decide +kernel
theorem k185_66 : decode zm185.2.1 66 = .ok (.aload_n 0, 1) := by decide +kernel
theorem k185_67 : decode zm185.2.1 67 = .ok (.getfield 54, 3) := by decide +kernel
theorem k185_70 : decode zm185.2.1 70 = .ok (.iload_n 2, 1) := by decide +kernel
theorem k185_71 : decode zm185.2.1 71 = .ok (.iconst 1, 1) := by decide +kernel
theorem k185_72 : decode zm185.2.1 72 = .ok (.isub, 1) := by decide +kernel
theorem k185_73 : decode zm185.2.1 73 = .ok (.iaload, 1) := by decide +kernel
theorem k185_74 : decode zm185.2.1 74 = .ok (.ifCond .eq 7, 3) := by decide +kernel
theorem k185_81 : decode zm185.2.1 81 = .ok (.iconst 0, 1) := by decide +kernel
theorem k185_42 : decode zm185.2.1 42 = .ok (.istore_n 1, 1) := by decide +kernel
theorem k185_43 : decode zm185.2.1 43 = .ok (.iconst 1, 1) := by decide +kernel
theorem k185_44 : decode zm185.2.1 44 = .ok (.istore_n 2, 1) := by decide +kernel
theorem k185_41 : decode zm185.2.1 41 = .ok (.iconst 0, 1) := by decide +kernel
theorem k185_0 : decode zm185.2.1 0 = .ok (.aload_n 0, 1) := by decide +kernel
theorem k185_1 : decode zm185.2.1 1 = .ok (.aload_n 0, 1) := by decide +kernel
theorem k185_2 : decode zm185.2.1 2 = .ok (.getfield 7, 3) := by decide +kernel
theorem k185_5 : decode zm185.2.1 5 = .ok (.iconst 0, 1) := by decide +kernel
theorem k185_6 : decode zm185.2.1 6 = .ok (.iaload, 1) := by decide +kernel
theorem k185_7 : decode zm185.2.1 7 = .ok (.invokevirtual 213, 3) := by decide +kernel
theorem k185_10 : decode zm185.2.1 10 = .ok (.aload_n 0, 1) := by decide +kernel
theorem k185_11 : decode zm185.2.1 11 = .ok (.getfield 194, 3) := by decide +kernel
theorem k185_14 : decode zm185.2.1 14 = .ok (.ifCond .le 27, 3) := by decide +kernel
theorem k185_17 : decode zm185.2.1 17 = .ok (.aload_n 0, 1) := by decide +kernel
theorem k185_18 : decode zm185.2.1 18 = .ok (.invokevirtual 222, 3) := by decide +kernel
theorem k185_21 : decode zm185.2.1 21 = .ok (.ifCond .ne 20, 3) := by decide +kernel
theorem k185_24 : decode zm185.2.1 24 = .ok (.aload_n 0, 1) := by decide +kernel
theorem k185_25 : decode zm185.2.1 25 = .ok (.aload_n 0, 1) := by decide +kernel
theorem k185_26 : decode zm185.2.1 26 = .ok (.getfield 194, 3) := by decide +kernel
theorem k185_29 : decode zm185.2.1 29 = .ok (.iconst 1, 1) := by decide +kernel
theorem k185_30 : decode zm185.2.1 30 = .ok (.isub, 1) := by decide +kernel
theorem k185_31 : decode zm185.2.1 31 = .ok (.invokevirtual 207, 3) := by decide +kernel
theorem k185_34 : decode zm185.2.1 34 = .ok (.ifCond .ne 7, 3) := by decide +kernel
theorem k185_37 : decode zm185.2.1 37 = .ok (.iconst 1, 1) := by decide +kernel
theorem k185_38 : decode zm185.2.1 38 = .ok (.goto 4, 3) := by decide +kernel
theorem s16_999 : (Int16.ofInt 999).toInt32 = 999 := by decide
theorem lk_10_247 : zmx 10 247 = some (188, 1) := by decide +kernel
theorem lk_10_253 : zmx 10 253 = some (192, 1) := by decide +kernel
theorem k191_21 : decode zm191.2.1 21 = .ok (.iload_n 1, 1) := by decide +kernel
theorem k191_22 : decode zm191.2.1 22 = .ok (.aload_n 0, 1) := by decide +kernel
theorem k191_23 : decode zm191.2.1 23 = .ok (.getfield 155, 3) := by decide +kernel
theorem k191_26 : decode zm191.2.1 26 = .ok (.if_icmp .ge 30, 3) := by decide +kernel
theorem k191_56 : decode zm191.2.1 56 = .ok (.aload_n 0, 1) := by decide +kernel
theorem k191_57 : decode zm191.2.1 57 = .ok (.getfield 7, 3) := by decide +kernel
theorem k191_60 : decode zm191.2.1 60 = .ok (.iconst 0, 1) := by decide +kernel
theorem k191_61 : decode zm191.2.1 61 = .ok (.dup2, 1) := by decide +kernel
theorem k191_62 : decode zm191.2.1 62 = .ok (.iaload, 1) := by decide +kernel
theorem k191_63 : decode zm191.2.1 63 = .ok (.iconst 1, 1) := by decide +kernel
theorem k191_64 : decode zm191.2.1 64 = .ok (.iadd, 1) := by decide +kernel
theorem k191_65 : decode zm191.2.1 65 = .ok (.iastore, 1) := by decide +kernel
theorem k191_66 : decode zm191.2.1 66 = .ok (.aload_n 0, 1) := by decide +kernel
theorem k191_67 : decode zm191.2.1 67 = .ok (.getfield 7, 3) := by decide +kernel
theorem k191_70 : decode zm191.2.1 70 = .ok (.iconst 0, 1) := by decide +kernel
theorem k191_71 : decode zm191.2.1 71 = .ok (.iaload, 1) := by decide +kernel
theorem k191_72 : decode zm191.2.1 72 = .ok (.ireturn, 1) := by decide +kernel
theorem k191_29 : decode zm191.2.1 29 = .ok (.aload_n 0, 1) := by decide +kernel
theorem k191_30 : decode zm191.2.1 30 = .ok (.getfield 7, 3) := by decide +kernel
theorem k191_33 : decode zm191.2.1 33 = .ok (.iconst 1, 1) := by decide +kernel
theorem k191_34 : decode zm191.2.1 34 = .ok (.iload_n 1, 1) := by decide +kernel
theorem k191_35 : decode zm191.2.1 35 = .ok (.iadd, 1) := by decide +kernel
theorem k191_36 : decode zm191.2.1 36 = .ok (.aload_n 0, 1) := by decide +kernel
theorem k191_37 : decode zm191.2.1 37 = .ok (.iload_n 1, 1) := by decide +kernel
theorem k191_38 : decode zm191.2.1 38 = .ok (.aload_n 0, 1) := by decide +kernel
theorem k191_39 : decode zm191.2.1 39 = .ok (.getfield 7, 3) := by decide +kernel
theorem k191_42 : decode zm191.2.1 42 = .ok (.iconst 1, 1) := by decide +kernel
theorem k191_43 : decode zm191.2.1 43 = .ok (.iload_n 1, 1) := by decide +kernel
theorem k191_44 : decode zm191.2.1 44 = .ok (.iadd, 1) := by decide +kernel
theorem k191_45 : decode zm191.2.1 45 = .ok (.iaload, 1) := by decide +kernel
theorem k191_46 : decode zm191.2.1 46 = .ok (.invokevirtual 253, 3) := by decide +kernel
theorem k191_49 : decode zm191.2.1 49 = .ok (.iastore, 1) := by decide +kernel
theorem k191_50 : decode zm191.2.1 50 = .ok (.iinc 1 1, 3) := by decide +kernel
theorem k191_53 : decode zm191.2.1 53 = .ok (.goto (-32), 3) := by decide +kernel
theorem k191_0 : decode zm191.2.1 0 = .ok (.aload_n 0, 1) := by decide +kernel
theorem k191_1 : decode zm191.2.1 1 = .ok (.getfield 7, 3) := by decide +kernel
theorem k191_4 : decode zm191.2.1 4 = .ok (.iconst 0, 1) := by decide +kernel
theorem k191_5 : decode zm191.2.1 5 = .ok (.iaload, 1) := by decide +kernel
theorem k191_6 : decode zm191.2.1 6 = .ok (.sipush 999, 3) := by decide +kernel
theorem k191_9 : decode zm191.2.1 9 = .ok (.if_icmp .ne 6, 3) := by decide +kernel
theorem k191_15 : decode zm191.2.1 15 = .ok (.aload_n 0, 1) := by decide +kernel
theorem k191_16 : decode zm191.2.1 16 = .ok (.invokevirtual 247, 3) := by decide +kernel
theorem k191_19 : decode zm191.2.1 19 = .ok (.iconst 0, 1) := by decide +kernel
theorem k191_20 : decode zm191.2.1 20 = .ok (.istore_n 1, 1) := by decide +kernel
theorem k191_12 : decode zm191.2.1 12 = .ok (.bipush (-5), 2) := by decide +kernel
theorem k191_14 : decode zm191.2.1 14 = .ok (.ireturn, 1) := by decide +kernel
theorem k194_0 : decode zm194.2.1 0 = .ok (.aload_n 0, 1) := by decide +kernel
theorem k194_1 : decode zm194.2.1 1 = .ok (.iload_n 1, 1) := by decide +kernel
theorem k194_2 : decode zm194.2.1 2 = .ok (.invokevirtual 228, 3) := by decide +kernel
theorem k194_5 : decode zm194.2.1 5 = .ok (.ifCond .eq 20, 3) := by decide +kernel
theorem k194_25 : decode zm194.2.1 25 = .ok (.iconst 0, 1) := by decide +kernel
theorem k194_26 : decode zm194.2.1 26 = .ok (.ireturn, 1) := by decide +kernel
theorem k194_8 : decode zm194.2.1 8 = .ok (.aload_n 0, 1) := by decide +kernel
theorem k194_9 : decode zm194.2.1 9 = .ok (.iload_n 2, 1) := by decide +kernel
theorem k194_10 : decode zm194.2.1 10 = .ok (.invokevirtual 228, 3) := by decide +kernel
theorem k194_13 : decode zm194.2.1 13 = .ok (.ifCond .eq 12, 3) := by decide +kernel
theorem k194_16 : decode zm194.2.1 16 = .ok (.iload_n 1, 1) := by decide +kernel
theorem k194_17 : decode zm194.2.1 17 = .ok (.iload_n 2, 1) := by decide +kernel
theorem k194_18 : decode zm194.2.1 18 = .ok (.if_icmp .eq 7, 3) := by decide +kernel
theorem k194_21 : decode zm194.2.1 21 = .ok (.iconst 1, 1) := by decide +kernel
theorem k194_22 : decode zm194.2.1 22 = .ok (.goto 4, 3) := by decide +kernel
theorem lk_10_308 : zmx 10 308 = some (223, 1) := by decide +kernel
theorem k222_0 : decode zm222.2.1 0 = .ok (.aload_n 0, 1) := by decide +kernel
theorem k222_1 : decode zm222.2.1 1 = .ok (.iload_n 1, 1) := by decide +kernel
theorem k222_2 : decode zm222.2.1 2 = .ok (.invokevirtual 228, 3) := by decide +kernel
theorem k222_5 : decode zm222.2.1 5 = .ok (.ifCond .eq 11, 3) := by decide +kernel
theorem k222_16 : decode zm222.2.1 16 = .ok (.bipush (-2), 2) := by decide +kernel
theorem k222_18 : decode zm222.2.1 18 = .ok (.ireturn, 1) := by decide +kernel
theorem k222_8 : decode zm222.2.1 8 = .ok (.aload_n 0, 1) := by decide +kernel
theorem k222_9 : decode zm222.2.1 9 = .ok (.iload_n 1, 1) := by decide +kernel
theorem k222_10 : decode zm222.2.1 10 = .ok (.invokevirtual 308, 3) := by decide +kernel
theorem k222_13 : decode zm222.2.1 13 = .ok (.goto 5, 3) := by decide +kernel
theorem k224_75 : decode zm224.2.1 75 = .ok (.istore_n 2, 1) := by decide +kernel
theorem k224_76 : decode zm224.2.1 76 = .ok (.iinc 3 1, 3) := by decide +kernel
theorem k224_79 : decode zm224.2.1 79 = .ok (.goto (-39), 3) := by decide +kernel
theorem k224_70 : decode zm224.2.1 70 = .ok (.iload_n 3, 1) := by decide +kernel
theorem k224_71 : decode zm224.2.1 71 = .ok (.goto 4, 3) := by decide +kernel
theorem k224_40 : decode zm224.2.1 40 = .ok (.iload_n 3, 1) := by decide +kernel
theorem k224_41 : decode zm224.2.1 41 = .ok (.aload_n 0, 1) := by decide +kernel
theorem k224_42 : decode zm224.2.1 42 = .ok (.getfield 155, 3) := by decide +kernel
theorem k224_45 : decode zm224.2.1 45 = .ok (.if_icmp .ge 37, 3) := by decide +kernel
theorem k224_82 : decode zm224.2.1 82 = .ok (.iload_n 2, 1) := by decide +kernel
theorem k224_83 : decode zm224.2.1 83 = .ok (.ireturn, 1) := by decide +kernel
theorem k224_48 : decode zm224.2.1 48 = .ok (.iload_n 1, 1) := by decide +kernel
theorem k224_49 : decode zm224.2.1 49 = .ok (.ifCond .le 33, 3) := by decide +kernel
theorem k224_52 : decode zm224.2.1 52 = .ok (.iload_n 2, 1) := by decide +kernel
theorem k224_53 : decode zm224.2.1 53 = .ok (.iconst (-1), 1) := by decide +kernel
theorem k224_54 : decode zm224.2.1 54 = .ok (.if_icmp .eq 16, 3) := by decide +kernel
theorem k224_57 : decode zm224.2.1 57 = .ok (.aload_n 0, 1) := by decide +kernel
theorem k224_58 : decode zm224.2.1 58 = .ok (.iload_n 3, 1) := by decide +kernel
theorem k224_59 : decode zm224.2.1 59 = .ok (.invokevirtual 308, 3) := by decide +kernel
theorem k224_62 : decode zm224.2.1 62 = .ok (.aload_n 0, 1) := by decide +kernel
theorem k224_63 : decode zm224.2.1 63 = .ok (.iload_n 2, 1) := by decide +kernel
theorem k224_64 : decode zm224.2.1 64 = .ok (.invokevirtual 308, 3) := by decide +kernel
theorem k224_67 : decode zm224.2.1 67 = .ok (.if_icmp .le 7, 3) := by decide +kernel
theorem k224_74 : decode zm224.2.1 74 = .ok (.iload_n 2, 1) := by decide +kernel
theorem k224_28 : decode zm224.2.1 28 = .ok (.iadd, 1) := by decide +kernel
theorem k224_29 : decode zm224.2.1 29 = .ok (.istore_n 1, 1) := by decide +kernel
theorem k224_30 : decode zm224.2.1 30 = .ok (.iinc 2 1, 3) := by decide +kernel
theorem k224_33 : decode zm224.2.1 33 = .ok (.goto (-29), 3) := by decide +kernel
theorem k224_4 : decode zm224.2.1 4 = .ok (.iload_n 2, 1) := by decide +kernel
theorem k224_5 : decode zm224.2.1 5 = .ok (.aload_n 0, 1) := by decide +kernel
theorem k224_6 : decode zm224.2.1 6 = .ok (.getfield 185, 3) := by decide +kernel
theorem k224_9 : decode zm224.2.1 9 = .ok (.if_icmp .ge 27, 3) := by decide +kernel
theorem k224_36 : decode zm224.2.1 36 = .ok (.iconst (-1), 1) := by decide +kernel
theorem k224_37 : decode zm224.2.1 37 = .ok (.istore_n 2, 1) := by decide +kernel
theorem k224_38 : decode zm224.2.1 38 = .ok (.iconst 0, 1) := by decide +kernel
theorem k224_39 : decode zm224.2.1 39 = .ok (.istore_n 3, 1) := by decide +kernel
theorem k224_12 : decode zm224.2.1 12 = .ok (.iload_n 1, 1) := by decide +kernel
theorem k224_13 : decode zm224.2.1 13 = .ok (.aload_n 0, 1) := by decide +kernel
theorem k224_14 : decode zm224.2.1 14 = .ok (.getfield 42, 3) := by decide +kernel
theorem k224_17 : decode zm224.2.1 17 = .ok (.iload_n 2, 1) := by decide +kernel
theorem k224_18 : decode zm224.2.1 18 = .ok (.iaload, 1) := by decide +kernel
theorem k224_19 : decode zm224.2.1 19 = .ok (.iconst (-1), 1) := by decide +kernel
theorem k224_20 : decode zm224.2.1 20 = .ok (.if_icmp .ne 7, 3) := by decide +kernel
theorem k224_27 : decode zm224.2.1 27 = .ok (.iconst 1, 1) := by decide +kernel
theorem k224_23 : decode zm224.2.1 23 = .ok (.iconst 0, 1) := by decide +kernel
theorem k224_24 : decode zm224.2.1 24 = .ok (.goto 4, 3) := by decide +kernel
theorem k224_0 : decode zm224.2.1 0 = .ok (.iconst 0, 1) := by decide +kernel
theorem k224_1 : decode zm224.2.1 1 = .ok (.istore_n 1, 1) := by decide +kernel
theorem k224_2 : decode zm224.2.1 2 = .ok (.iconst 0, 1) := by decide +kernel
theorem k224_3 : decode zm224.2.1 3 = .ok (.istore_n 2, 1) := by decide +kernel
theorem s16_9999 : (Int16.ofInt 9999).toInt32 = 9999 := by decide
theorem k226_0 : decode zm226.2.1 0 = .ok (.aload_n 0, 1) := by decide +kernel
theorem k226_1 : decode zm226.2.1 1 = .ok (.iload_n 1, 1) := by decide +kernel
theorem k226_2 : decode zm226.2.1 2 = .ok (.invokevirtual 228, 3) := by decide +kernel
theorem k226_5 : decode zm226.2.1 5 = .ok (.ifCond .eq 15, 3) := by decide +kernel
theorem k226_20 : decode zm226.2.1 20 = .ok (.bipush (-2), 2) := by decide +kernel
theorem k226_22 : decode zm226.2.1 22 = .ok (.ireturn, 1) := by decide +kernel
theorem k226_8 : decode zm226.2.1 8 = .ok (.sipush 9999, 3) := by decide +kernel
theorem k226_11 : decode zm226.2.1 11 = .ok (.aload_n 0, 1) := by decide +kernel
theorem k226_12 : decode zm226.2.1 12 = .ok (.iload_n 1, 1) := by decide +kernel
theorem k226_13 : decode zm226.2.1 13 = .ok (.invokevirtual 313, 3) := by decide +kernel
theorem k226_16 : decode zm226.2.1 16 = .ok (.iadd, 1) := by decide +kernel
theorem k226_17 : decode zm226.2.1 17 = .ok (.goto 5, 3) := by decide +kernel
theorem lk_10_290 : zmx 10 290 = some (210, 0) := by decide +kernel
theorem fk_10_60 : zfx 10 60 = some (10, 34) := by decide +kernel
theorem ar238 : zArr 238 := zArr_of (by decide +kernel)
theorem lk_10_316 : zmx 10 316 = some (229, 1) := by decide +kernel
theorem k228_111 : decode zm228.2.1 111 = .ok (.iastore, 1) := by decide +kernel
theorem k228_112 : decode zm228.2.1 112 = .ok (.iinc 2 1, 3) := by decide +kernel
theorem k228_115 : decode zm228.2.1 115 = .ok (.goto (-90), 3) := by decide +kernel
theorem k228_82 : decode zm228.2.1 82 = .ok (.istore 4, 2) := by decide +kernel
theorem k228_84 : decode zm228.2.1 84 = .ok (.aload_n 0, 1) := by decide +kernel
theorem k228_85 : decode zm228.2.1 85 = .ok (.getfield 60, 3) := by decide +kernel
theorem k228_88 : decode zm228.2.1 88 = .ok (.iload_n 1, 1) := by decide +kernel
theorem k228_89 : decode zm228.2.1 89 = .ok (.iload 4, 2) := by decide +kernel
theorem k228_91 : decode zm228.2.1 91 = .ok (.aload_n 0, 1) := by decide +kernel
theorem k228_92 : decode zm228.2.1 92 = .ok (.getfield 60, 3) := by decide +kernel
theorem k228_95 : decode zm228.2.1 95 = .ok (.iload_n 1, 1) := by decide +kernel
theorem k228_96 : decode zm228.2.1 96 = .ok (.iaload, 1) := by decide +kernel
theorem k228_97 : decode zm228.2.1 97 = .ok (.if_icmp .le 8, 3) := by decide +kernel
theorem k228_105 : decode zm228.2.1 105 = .ok (.aload_n 0, 1) := by decide +kernel
theorem k228_106 : decode zm228.2.1 106 = .ok (.getfield 60, 3) := by decide +kernel
theorem k228_109 : decode zm228.2.1 109 = .ok (.iload_n 1, 1) := by decide +kernel
theorem k228_110 : decode zm228.2.1 110 = .ok (.iaload, 1) := by decide +kernel
theorem k228_100 : decode zm228.2.1 100 = .ok (.iload 4, 2) := by decide +kernel
theorem k228_102 : decode zm228.2.1 102 = .ok (.goto 9, 3) := by decide +kernel
theorem k228_63 : decode zm228.2.1 63 = .ok (.istore_n 3, 1) := by decide +kernel
theorem k228_64 : decode zm228.2.1 64 = .ok (.iload_n 3, 1) := by decide +kernel
theorem k228_65 : decode zm228.2.1 65 = .ok (.ifCond .eq 16, 3) := by decide +kernel
theorem k228_81 : decode zm228.2.1 81 = .ok (.iconst (-1), 1) := by decide +kernel
theorem k228_68 : decode zm228.2.1 68 = .ok (.aload_n 0, 1) := by decide +kernel
theorem k228_69 : decode zm228.2.1 69 = .ok (.getfield 60, 3) := by decide +kernel
theorem k228_72 : decode zm228.2.1 72 = .ok (.iload_n 1, 1) := by decide +kernel
theorem k228_73 : decode zm228.2.1 73 = .ok (.iload_n 2, 1) := by decide +kernel
theorem k228_74 : decode zm228.2.1 74 = .ok (.ixor, 1) := by decide +kernel
theorem k228_75 : decode zm228.2.1 75 = .ok (.iaload, 1) := by decide +kernel
theorem k228_76 : decode zm228.2.1 76 = .ok (.iconst 1, 1) := by decide +kernel
theorem k228_77 : decode zm228.2.1 77 = .ok (.iadd, 1) := by decide +kernel
theorem k228_78 : decode zm228.2.1 78 = .ok (.goto 4, 3) := by decide +kernel
theorem k228_62 : decode zm228.2.1 62 = .ok (.iconst 0, 1) := by decide +kernel
theorem k228_25 : decode zm228.2.1 25 = .ok (.iload_n 2, 1) := by decide +kernel
theorem k228_26 : decode zm228.2.1 26 = .ok (.iload_n 1, 1) := by decide +kernel
theorem k228_27 : decode zm228.2.1 27 = .ok (.if_icmp .gt 91, 3) := by decide +kernel
theorem k228_118 : decode zm228.2.1 118 = .ok (.iinc 1 1, 3) := by decide +kernel
theorem k228_121 : decode zm228.2.1 121 = .ok (.goto (-119), 3) := by decide +kernel
theorem k228_30 : decode zm228.2.1 30 = .ok (.iload_n 2, 1) := by decide +kernel
theorem k228_31 : decode zm228.2.1 31 = .ok (.iload_n 1, 1) := by decide +kernel
theorem k228_32 : decode zm228.2.1 32 = .ok (.iconst (-1), 1) := by decide +kernel
theorem k228_33 : decode zm228.2.1 33 = .ok (.ixor, 1) := by decide +kernel
theorem k228_34 : decode zm228.2.1 34 = .ok (.iand, 1) := by decide +kernel
theorem k228_35 : decode zm228.2.1 35 = .ok (.ifCond .ne 27, 3) := by decide +kernel
theorem k228_38 : decode zm228.2.1 38 = .ok (.aload_n 0, 1) := by decide +kernel
theorem k228_39 : decode zm228.2.1 39 = .ok (.iload_n 2, 1) := by decide +kernel
theorem k228_40 : decode zm228.2.1 40 = .ok (.invokevirtual 316, 3) := by decide +kernel
theorem k228_43 : decode zm228.2.1 43 = .ok (.ifCond .ne 19, 3) := by decide +kernel
theorem k228_46 : decode zm228.2.1 46 = .ok (.aload_n 0, 1) := by decide +kernel
theorem k228_47 : decode zm228.2.1 47 = .ok (.getfield 60, 3) := by decide +kernel
theorem k228_50 : decode zm228.2.1 50 = .ok (.iload_n 1, 1) := by decide +kernel
theorem k228_51 : decode zm228.2.1 51 = .ok (.iload_n 2, 1) := by decide +kernel
theorem k228_52 : decode zm228.2.1 52 = .ok (.ixor, 1) := by decide +kernel
theorem k228_53 : decode zm228.2.1 53 = .ok (.iaload, 1) := by decide +kernel
theorem k228_54 : decode zm228.2.1 54 = .ok (.iconst (-1), 1) := by decide +kernel
theorem k228_55 : decode zm228.2.1 55 = .ok (.if_icmp .eq 7, 3) := by decide +kernel
theorem k228_58 : decode zm228.2.1 58 = .ok (.iconst 1, 1) := by decide +kernel
theorem k228_59 : decode zm228.2.1 59 = .ok (.goto 4, 3) := by decide +kernel
theorem k228_22 : decode zm228.2.1 22 = .ok (.iastore, 1) := by decide +kernel
theorem k228_23 : decode zm228.2.1 23 = .ok (.iconst 1, 1) := by decide +kernel
theorem k228_24 : decode zm228.2.1 24 = .ok (.istore_n 2, 1) := by decide +kernel
theorem k228_2 : decode zm228.2.1 2 = .ok (.iload_n 1, 1) := by decide +kernel
theorem k228_3 : decode zm228.2.1 3 = .ok (.bipush 16, 2) := by decide +kernel
theorem k228_5 : decode zm228.2.1 5 = .ok (.if_icmp .ge 119, 3) := by decide +kernel
theorem k228_124 : decode zm228.2.1 124 = .ok (.iconst 1, 1) := by decide +kernel
theorem k228_125 : decode zm228.2.1 125 = .ok (.aload_n 0, 1) := by decide +kernel
theorem k228_126 : decode zm228.2.1 126 = .ok (.getfield 155, 3) := by decide +kernel
theorem k228_129 : decode zm228.2.1 129 = .ok (.ishl, 1) := by decide +kernel
theorem k228_130 : decode zm228.2.1 130 = .ok (.iconst 1, 1) := by decide +kernel
theorem k228_131 : decode zm228.2.1 131 = .ok (.isub, 1) := by decide +kernel
theorem k228_132 : decode zm228.2.1 132 = .ok (.istore_n 1, 1) := by decide +kernel
theorem k228_133 : decode zm228.2.1 133 = .ok (.iload_n 1, 1) := by decide +kernel
theorem k228_134 : decode zm228.2.1 134 = .ok (.invokestatic 290, 3) := by decide +kernel
theorem k228_137 : decode zm228.2.1 137 = .ok (.aload_n 0, 1) := by decide +kernel
theorem k228_138 : decode zm228.2.1 138 = .ok (.getfield 60, 3) := by decide +kernel
theorem k228_141 : decode zm228.2.1 141 = .ok (.iload_n 1, 1) := by decide +kernel
theorem k228_142 : decode zm228.2.1 142 = .ok (.iaload, 1) := by decide +kernel
theorem k228_143 : decode zm228.2.1 143 = .ok (.isub, 1) := by decide +kernel
theorem k228_144 : decode zm228.2.1 144 = .ok (.ireturn, 1) := by decide +kernel
theorem k228_8 : decode zm228.2.1 8 = .ok (.aload_n 0, 1) := by decide +kernel
theorem k228_9 : decode zm228.2.1 9 = .ok (.getfield 60, 3) := by decide +kernel
theorem k228_12 : decode zm228.2.1 12 = .ok (.iload_n 1, 1) := by decide +kernel
theorem k228_13 : decode zm228.2.1 13 = .ok (.iload_n 1, 1) := by decide +kernel
theorem k228_14 : decode zm228.2.1 14 = .ok (.ifCond .ne 7, 3) := by decide +kernel
theorem k228_21 : decode zm228.2.1 21 = .ok (.iconst (-1), 1) := by decide +kernel
theorem k228_17 : decode zm228.2.1 17 = .ok (.iconst 0, 1) := by decide +kernel
theorem k228_18 : decode zm228.2.1 18 = .ok (.goto 4, 3) := by decide +kernel
theorem k228_0 : decode zm228.2.1 0 = .ok (.iconst 0, 1) := by decide +kernel
theorem k228_1 : decode zm228.2.1 1 = .ok (.istore_n 1, 1) := by decide +kernel
theorem fk_1_70 : zfx 1 70 = some (3, 0) := by decide +kernel
theorem lk_1_64 : zmx 1 64 = some (38, 1) := by decide +kernel
theorem lk_1_31 : zmx 1 31 = some (20, 1) := by decide +kernel
theorem b8_99 : (Int8.ofInt 99).toInt32 = 99 := by decide
theorem lk_1_73 : zmx 1 73 = some (39, 1) := by decide +kernel
theorem k37_0 : decode zm37.2.1 0 = .ok (.aload_n 0, 1) := by decide +kernel
theorem k37_1 : decode zm37.2.1 1 = .ok (.aload_n 1, 1) := by decide +kernel
theorem k37_2 : decode zm37.2.1 2 = .ok (.getfield 70, 3) := by decide +kernel
theorem k37_5 : decode zm37.2.1 5 = .ok (.iconst 1, 1) := by decide +kernel
theorem k37_6 : decode zm37.2.1 6 = .ok (.isub, 1) := by decide +kernel
theorem k37_7 : decode zm37.2.1 7 = .ok (.invokevirtual 64, 3) := by decide +kernel
theorem k37_10 : decode zm37.2.1 10 = .ok (.istore_n 2, 1) := by decide +kernel
theorem k37_11 : decode zm37.2.1 11 = .ok (.iload_n 2, 1) := by decide +kernel
theorem k37_12 : decode zm37.2.1 12 = .ok (.iconst (-1), 1) := by decide +kernel
theorem k37_13 : decode zm37.2.1 13 = .ok (.if_icmp .ne 5, 3) := by decide +kernel
theorem k37_18 : decode zm37.2.1 18 = .ok (.aload_n 0, 1) := by decide +kernel
theorem k37_19 : decode zm37.2.1 19 = .ok (.invokevirtual 31, 3) := by decide +kernel
theorem k37_22 : decode zm37.2.1 22 = .ok (.aload_n 0, 1) := by decide +kernel
theorem k37_23 : decode zm37.2.1 23 = .ok (.iconst 4, 1) := by decide +kernel
theorem k37_24 : decode zm37.2.1 24 = .ok (.invokevirtual 64, 3) := by decide +kernel
theorem k37_27 : decode zm37.2.1 27 = .ok (.istore_n 3, 1) := by decide +kernel
theorem k37_28 : decode zm37.2.1 28 = .ok (.iload_n 3, 1) := by decide +kernel
theorem k37_29 : decode zm37.2.1 29 = .ok (.iconst (-1), 1) := by decide +kernel
theorem k37_30 : decode zm37.2.1 30 = .ok (.if_icmp .ne 5, 3) := by decide +kernel
theorem k37_35 : decode zm37.2.1 35 = .ok (.aload_n 0, 1) := by decide +kernel
theorem k37_36 : decode zm37.2.1 36 = .ok (.invokevirtual 31, 3) := by decide +kernel
theorem k37_39 : decode zm37.2.1 39 = .ok (.aload_n 0, 1) := by decide +kernel
theorem k37_40 : decode zm37.2.1 40 = .ok (.bipush 99, 2) := by decide +kernel
theorem k37_42 : decode zm37.2.1 42 = .ok (.invokevirtual 64, 3) := by decide +kernel
theorem k37_45 : decode zm37.2.1 45 = .ok (.istore 4, 2) := by decide +kernel
theorem k37_47 : decode zm37.2.1 47 = .ok (.iload 4, 2) := by decide +kernel
theorem k37_49 : decode zm37.2.1 49 = .ok (.iconst (-1), 1) := by decide +kernel
theorem k37_50 : decode zm37.2.1 50 = .ok (.if_icmp .ne 5, 3) := by decide +kernel
theorem k37_55 : decode zm37.2.1 55 = .ok (.aload_n 0, 1) := by decide +kernel
theorem k37_56 : decode zm37.2.1 56 = .ok (.invokevirtual 31, 3) := by decide +kernel
theorem k37_59 : decode zm37.2.1 59 = .ok (.aload_n 1, 1) := by decide +kernel
theorem k37_60 : decode zm37.2.1 60 = .ok (.iload_n 2, 1) := by decide +kernel
theorem k37_61 : decode zm37.2.1 61 = .ok (.iload_n 3, 1) := by decide +kernel
theorem k37_62 : decode zm37.2.1 62 = .ok (.iload 4, 2) := by decide +kernel
theorem k37_64 : decode zm37.2.1 64 = .ok (.invokevirtual 73, 3) := by decide +kernel
theorem k37_67 : decode zm37.2.1 67 = .ok (.iconst 1, 1) := by decide +kernel
theorem k37_68 : decode zm37.2.1 68 = .ok (.ireturn, 1) := by decide +kernel
theorem k37_53 : decode zm37.2.1 53 = .ok (.iconst 0, 1) := by decide +kernel
theorem k37_54 : decode zm37.2.1 54 = .ok (.ireturn, 1) := by decide +kernel
theorem k37_33 : decode zm37.2.1 33 = .ok (.iconst 0, 1) := by decide +kernel
theorem k37_34 : decode zm37.2.1 34 = .ok (.ireturn, 1) := by decide +kernel
theorem k37_16 : decode zm37.2.1 16 = .ok (.iconst 0, 1) := by decide +kernel
theorem k37_17 : decode zm37.2.1 17 = .ok (.ireturn, 1) := by decide +kernel
theorem lk_0_114 : zmx 0 114 = some (49, 1) := by decide +kernel
theorem tol4 : zTold 4 := ⟨by decide +kernel, ⟨by decide +kernel, zArr_of (by decide +kernel)⟩, ⟨by decide +kernel, zArr_of (by decide +kernel)⟩, ⟨by decide +kernel, zArr_of (by decide +kernel)⟩, ⟨by decide +kernel, zArr_of (by decide +kernel)⟩, ⟨by decide +kernel, zArr_of (by decide +kernel)⟩, ⟨by decide +kernel, zArr_of (by decide +kernel)⟩, ⟨by decide +kernel, zArr_of (by decide +kernel)⟩⟩
theorem fk_0_118 : zfx 0 118 = some (3, 6) := by decide +kernel
theorem rw7 : zRow 7 := ⟨by decide +kernel, zArr_of (by decide +kernel)⟩
theorem fk_0_128 : zfx 0 128 = some (3, 5) := by decide +kernel
theorem rw5 : zRow 5 := ⟨by decide +kernel, zArr_of (by decide +kernel)⟩
theorem lk_0_131 : zmx 0 131 = some (50, 1) := by decide +kernel
theorem stt34 : zState 34 := ⟨by decide +kernel, ⟨by decide +kernel, zArr_of (by decide +kernel)⟩, ⟨by decide +kernel, zArr_of (by decide +kernel)⟩, ⟨by decide +kernel, zArr_of (by decide +kernel)⟩, ⟨by decide +kernel, zArr_of (by decide +kernel)⟩, ⟨by decide +kernel, zArr_of (by decide +kernel)⟩, ⟨by decide +kernel, zArr_of (by decide +kernel)⟩⟩
theorem k47_0 : decode zm47.2.1 0 = .ok (.aload_n 0, 1) := by decide +kernel
theorem k47_1 : decode zm47.2.1 1 = .ok (.iload_n 1, 1) := by decide +kernel
theorem k47_2 : decode zm47.2.1 2 = .ok (.invokevirtual 108, 3) := by decide +kernel
theorem k47_5 : decode zm47.2.1 5 = .ok (.ifCond .ne 6, 3) := by decide +kernel
theorem k47_11 : decode zm47.2.1 11 = .ok (.iload_n 2, 1) := by decide +kernel
theorem k47_12 : decode zm47.2.1 12 = .ok (.tableswitch 81 0 3 #[32, 48, 60, 72], 32) := by decide +kernel
theorem k47_44 : decode zm47.2.1 44 = .ok (.aload_n 0, 1) := by decide +kernel
theorem k47_45 : decode zm47.2.1 45 = .ok (.getfield 19, 3) := by decide +kernel
theorem k47_48 : decode zm47.2.1 48 = .ok (.iload_n 1, 1) := by decide +kernel
theorem k47_49 : decode zm47.2.1 49 = .ok (.aload_n 0, 1) := by decide +kernel
theorem k47_50 : decode zm47.2.1 50 = .ok (.getfield 29, 3) := by decide +kernel
theorem k47_53 : decode zm47.2.1 53 = .ok (.getfield 111, 3) := by decide +kernel
theorem k47_56 : decode zm47.2.1 56 = .ok (.invokevirtual 114, 3) := by decide +kernel
theorem k47_59 : decode zm47.2.1 59 = .ok (.ireturn, 1) := by decide +kernel
theorem k47_60 : decode zm47.2.1 60 = .ok (.aload_n 0, 1) := by decide +kernel
theorem k47_61 : decode zm47.2.1 61 = .ok (.getfield 19, 3) := by decide +kernel
theorem k47_64 : decode zm47.2.1 64 = .ok (.getfield 118, 3) := by decide +kernel
theorem k47_67 : decode zm47.2.1 67 = .ok (.iload_n 1, 1) := by decide +kernel
theorem k47_68 : decode zm47.2.1 68 = .ok (.invokevirtual 122, 3) := by decide +kernel
theorem sh7 : zsh 7 = some (2, [some 8]) := by decide +kernel
theorem k47_71 : decode zm47.2.1 71 = .ok (.ireturn, 1) := by decide +kernel
theorem k47_72 : decode zm47.2.1 72 = .ok (.aload_n 0, 1) := by decide +kernel
theorem k47_73 : decode zm47.2.1 73 = .ok (.getfield 19, 3) := by decide +kernel
theorem k47_76 : decode zm47.2.1 76 = .ok (.getfield 128, 3) := by decide +kernel
theorem k47_79 : decode zm47.2.1 79 = .ok (.iload_n 1, 1) := by decide +kernel
theorem k47_80 : decode zm47.2.1 80 = .ok (.invokevirtual 122, 3) := by decide +kernel
theorem sh5 : zsh 5 = some (2, [some 6]) := by decide +kernel
theorem k47_83 : decode zm47.2.1 83 = .ok (.ireturn, 1) := by decide +kernel
theorem k47_84 : decode zm47.2.1 84 = .ok (.aload_n 0, 1) := by decide +kernel
theorem k47_85 : decode zm47.2.1 85 = .ok (.getfield 29, 3) := by decide +kernel
theorem k47_88 : decode zm47.2.1 88 = .ok (.iload_n 1, 1) := by decide +kernel
theorem k47_89 : decode zm47.2.1 89 = .ok (.invokevirtual 131, 3) := by decide +kernel
theorem k47_92 : decode zm47.2.1 92 = .ok (.ireturn, 1) := by decide +kernel
theorem k47_93 : decode zm47.2.1 93 = .ok (.bipush (-3), 2) := by decide +kernel
theorem k47_95 : decode zm47.2.1 95 = .ok (.ireturn, 1) := by decide +kernel
theorem k47_8 : decode zm47.2.1 8 = .ok (.bipush (-2), 2) := by decide +kernel
theorem k47_10 : decode zm47.2.1 10 = .ok (.ireturn, 1) := by decide +kernel
theorem lk_0_137 : zmx 0 137 = some (54, 1) := by decide +kernel
theorem fk_0_146 : zfx 0 146 = some (4, 3) := by decide +kernel
theorem rw39 : zRow 39 := ⟨by decide +kernel, zArr_of (by decide +kernel)⟩
theorem fk_0_149 : zfx 0 149 = some (4, 4) := by decide +kernel
theorem rw41 : zRow 41 := ⟨by decide +kernel, zArr_of (by decide +kernel)⟩
theorem lk_0_150 : zmx 0 150 = some (55, 1) := by decide +kernel
theorem k52_0 : decode zm52.2.1 0 = .ok (.aload_n 0, 1) := by decide +kernel
theorem k52_1 : decode zm52.2.1 1 = .ok (.iload_n 1, 1) := by decide +kernel
theorem k52_2 : decode zm52.2.1 2 = .ok (.invokevirtual 134, 3) := by decide +kernel
theorem k52_5 : decode zm52.2.1 5 = .ok (.ifCond .ne 6, 3) := by decide +kernel
theorem k52_11 : decode zm52.2.1 11 = .ok (.iload_n 2, 1) := by decide +kernel
theorem k52_12 : decode zm52.2.1 12 = .ok (.tableswitch 122 0 6 #[44, 53, 65, 77, 89, 101, 110], 44) := by decide +kernel
theorem k52_56 : decode zm52.2.1 56 = .ok (.aload_n 0, 1) := by decide +kernel
theorem k52_57 : decode zm52.2.1 57 = .ok (.getfield 19, 3) := by decide +kernel
theorem k52_60 : decode zm52.2.1 60 = .ok (.iload_n 1, 1) := by decide +kernel
theorem k52_61 : decode zm52.2.1 61 = .ok (.invokevirtual 137, 3) := by decide +kernel
theorem k52_64 : decode zm52.2.1 64 = .ok (.ireturn, 1) := by decide +kernel
theorem k52_65 : decode zm52.2.1 65 = .ok (.aload_n 0, 1) := by decide +kernel
theorem k52_66 : decode zm52.2.1 66 = .ok (.getfield 29, 3) := by decide +kernel
theorem k52_69 : decode zm52.2.1 69 = .ok (.getfield 140, 3) := by decide +kernel
theorem k52_72 : decode zm52.2.1 72 = .ok (.iload_n 1, 1) := by decide +kernel
theorem k52_73 : decode zm52.2.1 73 = .ok (.invokevirtual 122, 3) := by decide +kernel
theorem k52_76 : decode zm52.2.1 76 = .ok (.ireturn, 1) := by decide +kernel
theorem k52_77 : decode zm52.2.1 77 = .ok (.aload_n 0, 1) := by decide +kernel
theorem k52_78 : decode zm52.2.1 78 = .ok (.getfield 29, 3) := by decide +kernel
theorem k52_81 : decode zm52.2.1 81 = .ok (.getfield 143, 3) := by decide +kernel
theorem k52_84 : decode zm52.2.1 84 = .ok (.iload_n 1, 1) := by decide +kernel
theorem k52_85 : decode zm52.2.1 85 = .ok (.invokevirtual 122, 3) := by decide +kernel
theorem k52_88 : decode zm52.2.1 88 = .ok (.ireturn, 1) := by decide +kernel
theorem k52_89 : decode zm52.2.1 89 = .ok (.aload_n 0, 1) := by decide +kernel
theorem k52_90 : decode zm52.2.1 90 = .ok (.getfield 29, 3) := by decide +kernel
theorem k52_93 : decode zm52.2.1 93 = .ok (.getfield 146, 3) := by decide +kernel
theorem k52_96 : decode zm52.2.1 96 = .ok (.iload_n 1, 1) := by decide +kernel
theorem k52_97 : decode zm52.2.1 97 = .ok (.invokevirtual 122, 3) := by decide +kernel
theorem sh39 : zsh 39 = some (2, [some 40]) := by decide +kernel
theorem k52_100 : decode zm52.2.1 100 = .ok (.ireturn, 1) := by decide +kernel
theorem k52_101 : decode zm52.2.1 101 = .ok (.aload_n 0, 1) := by decide +kernel
theorem k52_102 : decode zm52.2.1 102 = .ok (.getfield 29, 3) := by decide +kernel
theorem k52_105 : decode zm52.2.1 105 = .ok (.getfield 149, 3) := by decide +kernel
theorem k52_108 : decode zm52.2.1 108 = .ok (.iload_n 1, 1) := by decide +kernel
theorem k52_109 : decode zm52.2.1 109 = .ok (.invokevirtual 122, 3) := by decide +kernel
theorem sh41 : zsh 41 = some (2, [some 42]) := by decide +kernel
theorem k52_112 : decode zm52.2.1 112 = .ok (.ireturn, 1) := by decide +kernel
theorem k52_113 : decode zm52.2.1 113 = .ok (.aload_n 0, 1) := by decide +kernel
theorem k52_114 : decode zm52.2.1 114 = .ok (.getfield 29, 3) := by decide +kernel
theorem k52_117 : decode zm52.2.1 117 = .ok (.iload_n 1, 1) := by decide +kernel
theorem k52_118 : decode zm52.2.1 118 = .ok (.invokevirtual 150, 3) := by decide +kernel
theorem k52_121 : decode zm52.2.1 121 = .ok (.ireturn, 1) := by decide +kernel
theorem k52_122 : decode zm52.2.1 122 = .ok (.aload_n 0, 1) := by decide +kernel
theorem k52_123 : decode zm52.2.1 123 = .ok (.getfield 19, 3) := by decide +kernel
theorem k52_126 : decode zm52.2.1 126 = .ok (.getfield 153, 3) := by decide +kernel
theorem k52_129 : decode zm52.2.1 129 = .ok (.iload_n 1, 1) := by decide +kernel
theorem k52_130 : decode zm52.2.1 130 = .ok (.invokevirtual 122, 3) := by decide +kernel
theorem k52_133 : decode zm52.2.1 133 = .ok (.ireturn, 1) := by decide +kernel
theorem k52_134 : decode zm52.2.1 134 = .ok (.bipush (-3), 2) := by decide +kernel
theorem k52_136 : decode zm52.2.1 136 = .ok (.ireturn, 1) := by decide +kernel
theorem k52_8 : decode zm52.2.1 8 = .ok (.bipush (-2), 2) := by decide +kernel
theorem k52_10 : decode zm52.2.1 10 = .ok (.ireturn, 1) := by decide +kernel
theorem lk_7_50 : zmx 7 50 = some (61, 1) := by decide +kernel
theorem fk_7_47 : zfx 7 47 = some (6, 1) := by decide +kernel
theorem lk_7_54 : zmx 7 54 = some (63, 0) := by decide +kernel
theorem lk_7_58 : zmx 7 58 = some (64, 0) := by decide +kernel
theorem lk_7_62 : zmx 7 62 = some (65, 1) := by decide +kernel
theorem lk_7_66 : zmx 7 66 = some (66, 1) := by decide +kernel
theorem lk_7_69 : zmx 7 69 = some (67, 0) := by decide +kernel
theorem k60_149 : decode zm60.2.1 149 = .ok (.ior, 1) := by decide +kernel
theorem k60_150 : decode zm60.2.1 150 = .ok (.istore 4, 2) := by decide +kernel
theorem k60_152 : decode zm60.2.1 152 = .ok (.iinc 8 1, 3) := by decide +kernel
theorem k60_155 : decode zm60.2.1 155 = .ok (.goto (-133), 3) := by decide +kernel
theorem k60_133 : decode zm60.2.1 133 = .ok (.iload 4, 2) := by decide +kernel
theorem k60_135 : decode zm60.2.1 135 = .ok (.iload 9, 2) := by decide +kernel
theorem k60_137 : decode zm60.2.1 137 = .ok (.iconst (-1), 1) := by decide +kernel
theorem k60_138 : decode zm60.2.1 138 = .ok (.if_icmp .ne 7, 3) := by decide +kernel
theorem k60_145 : decode zm60.2.1 145 = .ok (.iconst 1, 1) := by decide +kernel
theorem k60_146 : decode zm60.2.1 146 = .ok (.iload 9, 2) := by decide +kernel
theorem k60_148 : decode zm60.2.1 148 = .ok (.ishl, 1) := by decide +kernel
theorem k60_141 : decode zm60.2.1 141 = .ok (.iconst 0, 1) := by decide +kernel
theorem k60_142 : decode zm60.2.1 142 = .ok (.goto 7, 3) := by decide +kernel
theorem k60_119 : decode zm60.2.1 119 = .ok (.iload_n 3, 1) := by decide +kernel
theorem k60_120 : decode zm60.2.1 120 = .ok (.iload 11, 2) := by decide +kernel
theorem k60_122 : decode zm60.2.1 122 = .ok (.iadd, 1) := by decide +kernel
theorem k60_123 : decode zm60.2.1 123 = .ok (.istore_n 3, 1) := by decide +kernel
theorem k60_124 : decode zm60.2.1 124 = .ok (.iinc 5 1, 3) := by decide +kernel
theorem k60_127 : decode zm60.2.1 127 = .ok (.goto 6, 3) := by decide +kernel
theorem k60_90 : decode zm60.2.1 90 = .ok (.istore 11, 2) := by decide +kernel
theorem k60_92 : decode zm60.2.1 92 = .ok (.iload 10, 2) := by decide +kernel
theorem k60_94 : decode zm60.2.1 94 = .ok (.iconst 2, 1) := by decide +kernel
theorem k60_95 : decode zm60.2.1 95 = .ok (.if_icmp .ne 24, 3) := by decide +kernel
theorem k60_98 : decode zm60.2.1 98 = .ok (.iload 11, 2) := by decide +kernel
theorem k60_100 : decode zm60.2.1 100 = .ok (.ifCond .le 19, 3) := by decide +kernel
theorem k60_103 : decode zm60.2.1 103 = .ok (.iload 11, 2) := by decide +kernel
theorem k60_105 : decode zm60.2.1 105 = .ok (.iload_n 2, 1) := by decide +kernel
theorem k60_106 : decode zm60.2.1 106 = .ok (.iload 6, 2) := by decide +kernel
theorem k60_108 : decode zm60.2.1 108 = .ok (.iload 11, 2) := by decide +kernel
theorem k60_110 : decode zm60.2.1 110 = .ok (.invokestatic 69, 3) := by decide +kernel
theorem k60_113 : decode zm60.2.1 113 = .ok (.isub, 1) := by decide +kernel
theorem k60_114 : decode zm60.2.1 114 = .ok (.istore 11, 2) := by decide +kernel
theorem k60_116 : decode zm60.2.1 116 = .ok (.iconst 0, 1) := by decide +kernel
theorem k60_117 : decode zm60.2.1 117 = .ok (.istore 6, 2) := by decide +kernel
theorem k60_22 : decode zm60.2.1 22 = .ok (.iload 8, 2) := by decide +kernel
theorem k60_24 : decode zm60.2.1 24 = .ok (.aload_n 1, 1) := by decide +kernel
theorem k60_25 : decode zm60.2.1 25 = .ok (.getfield 47, 3) := by decide +kernel
theorem k60_28 : decode zm60.2.1 28 = .ok (.if_icmp .ge 130, 3) := by decide +kernel
theorem k60_158 : decode zm60.2.1 158 = .ok (.iload_n 3, 1) := by decide +kernel
theorem k60_159 : decode zm60.2.1 159 = .ok (.ireturn, 1) := by decide +kernel
theorem k60_31 : decode zm60.2.1 31 = .ok (.aload_n 1, 1) := by decide +kernel
theorem k60_32 : decode zm60.2.1 32 = .ok (.iload 8, 2) := by decide +kernel
theorem k60_34 : decode zm60.2.1 34 = .ok (.invokevirtual 38, 3) := by decide +kernel
theorem k60_37 : decode zm60.2.1 37 = .ok (.istore 9, 2) := by decide +kernel
theorem k60_39 : decode zm60.2.1 39 = .ok (.iload 7, 2) := by decide +kernel
theorem k60_41 : decode zm60.2.1 41 = .ok (.istore 10, 2) := by decide +kernel
theorem k60_43 : decode zm60.2.1 43 = .ok (.aload_n 0, 1) := by decide +kernel
theorem k60_44 : decode zm60.2.1 44 = .ok (.aload_n 1, 1) := by decide +kernel
theorem k60_45 : decode zm60.2.1 45 = .ok (.iload 8, 2) := by decide +kernel
theorem k60_47 : decode zm60.2.1 47 = .ok (.iconst 1, 1) := by decide +kernel
theorem k60_48 : decode zm60.2.1 48 = .ok (.iadd, 1) := by decide +kernel
theorem k60_49 : decode zm60.2.1 49 = .ok (.invokevirtual 50, 3) := by decide +kernel
theorem k60_52 : decode zm60.2.1 52 = .ok (.istore 7, 2) := by decide +kernel
theorem k60_54 : decode zm60.2.1 54 = .ok (.iload 10, 2) := by decide +kernel
theorem k60_56 : decode zm60.2.1 56 = .ok (.invokestatic 54, 3) := by decide +kernel
theorem k60_59 : decode zm60.2.1 59 = .ok (.ifCond .eq 71, 3) := by decide +kernel
theorem k60_130 : decode zm60.2.1 130 = .ok (.iconst 0, 1) := by decide +kernel
theorem k60_131 : decode zm60.2.1 131 = .ok (.istore 5, 2) := by decide +kernel
theorem k60_62 : decode zm60.2.1 62 = .ok (.aload_n 0, 1) := by decide +kernel
theorem k60_63 : decode zm60.2.1 63 = .ok (.iload 7, 2) := by decide +kernel
theorem k60_65 : decode zm60.2.1 65 = .ok (.iload 4, 2) := by decide +kernel
theorem k60_67 : decode zm60.2.1 67 = .ok (.iload 9, 2) := by decide +kernel
theorem k60_69 : decode zm60.2.1 69 = .ok (.invokestatic 58, 3) := by decide +kernel
theorem k60_72 : decode zm60.2.1 72 = .ok (.invokevirtual 62, 3) := by decide +kernel
theorem k60_75 : decode zm60.2.1 75 = .ok (.ifCond .eq 7, 3) := by decide +kernel
theorem k60_82 : decode zm60.2.1 82 = .ok (.aload_n 0, 1) := by decide +kernel
theorem k60_83 : decode zm60.2.1 83 = .ok (.iload 10, 2) := by decide +kernel
theorem k60_85 : decode zm60.2.1 85 = .ok (.iload 5, 2) := by decide +kernel
theorem k60_87 : decode zm60.2.1 87 = .ok (.invokevirtual 66, 3) := by decide +kernel
theorem k60_78 : decode zm60.2.1 78 = .ok (.iconst 0, 1) := by decide +kernel
theorem k60_79 : decode zm60.2.1 79 = .ok (.goto 11, 3) := by decide +kernel
theorem k60_0 : decode zm60.2.1 0 = .ok (.iconst 0, 1) := by decide +kernel
theorem k60_1 : decode zm60.2.1 1 = .ok (.istore_n 3, 1) := by decide +kernel
theorem k60_2 : decode zm60.2.1 2 = .ok (.iconst 0, 1) := by decide +kernel
theorem k60_3 : decode zm60.2.1 3 = .ok (.istore 4, 2) := by decide +kernel
theorem k60_5 : decode zm60.2.1 5 = .ok (.iconst 0, 1) := by decide +kernel
theorem k60_6 : decode zm60.2.1 6 = .ok (.istore 5, 2) := by decide +kernel
theorem k60_8 : decode zm60.2.1 8 = .ok (.iconst 1, 1) := by decide +kernel
theorem k60_9 : decode zm60.2.1 9 = .ok (.istore 6, 2) := by decide +kernel
theorem k60_11 : decode zm60.2.1 11 = .ok (.aload_n 0, 1) := by decide +kernel
theorem k60_12 : decode zm60.2.1 12 = .ok (.aload_n 1, 1) := by decide +kernel
theorem k60_13 : decode zm60.2.1 13 = .ok (.iconst 0, 1) := by decide +kernel
theorem k60_14 : decode zm60.2.1 14 = .ok (.invokevirtual 50, 3) := by decide +kernel
theorem k60_17 : decode zm60.2.1 17 = .ok (.istore 7, 2) := by decide +kernel
theorem k60_19 : decode zm60.2.1 19 = .ok (.iconst 0, 1) := by decide +kernel
theorem k60_20 : decode zm60.2.1 20 = .ok (.istore 8, 2) := by decide +kernel
theorem k74_37 : decode zm74.2.1 37 = .ok (.iload 4, 2) := by decide +kernel
theorem k74_39 : decode zm74.2.1 39 = .ok (.istore_n 2, 1) := by decide +kernel
theorem k74_40 : decode zm74.2.1 40 = .ok (.iinc 3 1, 3) := by decide +kernel
theorem k74_43 : decode zm74.2.1 43 = .ok (.goto (-39), 3) := by decide +kernel
theorem k74_4 : decode zm74.2.1 4 = .ok (.iload_n 3, 1) := by decide +kernel
theorem k74_5 : decode zm74.2.1 5 = .ok (.aload_n 1, 1) := by decide +kernel
theorem k74_6 : decode zm74.2.1 6 = .ok (.getfield 47, 3) := by decide +kernel
theorem k74_9 : decode zm74.2.1 9 = .ok (.if_icmp .ge 37, 3) := by decide +kernel
theorem k74_46 : decode zm74.2.1 46 = .ok (.aload_n 1, 1) := by decide +kernel
theorem k74_47 : decode zm74.2.1 47 = .ok (.getfield 47, 3) := by decide +kernel
theorem k74_50 : decode zm74.2.1 50 = .ok (.ifCond .le 14, 3) := by decide +kernel
theorem k74_64 : decode zm74.2.1 64 = .ok (.iconst 0, 1) := by decide +kernel
theorem k74_65 : decode zm74.2.1 65 = .ok (.ireturn, 1) := by decide +kernel
theorem k74_53 : decode zm74.2.1 53 = .ok (.iload_n 2, 1) := by decide +kernel
theorem k74_54 : decode zm74.2.1 54 = .ok (.invokestatic 54, 3) := by decide +kernel
theorem k74_57 : decode zm74.2.1 57 = .ok (.ifCond .ne 7, 3) := by decide +kernel
theorem k74_60 : decode zm74.2.1 60 = .ok (.iconst 1, 1) := by decide +kernel
theorem k74_61 : decode zm74.2.1 61 = .ok (.goto 4, 3) := by decide +kernel
theorem k74_12 : decode zm74.2.1 12 = .ok (.aload_n 0, 1) := by decide +kernel
theorem k74_13 : decode zm74.2.1 13 = .ok (.aload_n 1, 1) := by decide +kernel
theorem k74_14 : decode zm74.2.1 14 = .ok (.iload_n 3, 1) := by decide +kernel
theorem k74_15 : decode zm74.2.1 15 = .ok (.invokevirtual 50, 3) := by decide +kernel
theorem k74_18 : decode zm74.2.1 18 = .ok (.istore 4, 2) := by decide +kernel
theorem k74_20 : decode zm74.2.1 20 = .ok (.iload 4, 2) := by decide +kernel
theorem k74_22 : decode zm74.2.1 22 = .ok (.iconst (-1), 1) := by decide +kernel
theorem k74_23 : decode zm74.2.1 23 = .ok (.if_icmp .eq 12, 3) := by decide +kernel
theorem k74_35 : decode zm74.2.1 35 = .ok (.iconst 0, 1) := by decide +kernel
theorem k74_36 : decode zm74.2.1 36 = .ok (.ireturn, 1) := by decide +kernel
theorem k74_26 : decode zm74.2.1 26 = .ok (.iload 4, 2) := by decide +kernel
theorem k74_28 : decode zm74.2.1 28 = .ok (.ifCond .ne 9, 3) := by decide +kernel
theorem k74_31 : decode zm74.2.1 31 = .ok (.iload_n 2, 1) := by decide +kernel
theorem k74_32 : decode zm74.2.1 32 = .ok (.ifCond .ne 5, 3) := by decide +kernel
theorem k74_0 : decode zm74.2.1 0 = .ok (.iconst (-1), 1) := by decide +kernel
theorem k74_1 : decode zm74.2.1 1 = .ok (.istore_n 2, 1) := by decide +kernel
theorem k74_2 : decode zm74.2.1 2 = .ok (.iconst 0, 1) := by decide +kernel
theorem k74_3 : decode zm74.2.1 3 = .ok (.istore_n 3, 1) := by decide +kernel
theorem lk_0_179 : zmx 0 179 = some (78, 1) := by decide +kernel
theorem lk_0_197 : zmx 0 197 = some (86, 0) := by decide +kernel
theorem lk_0_186 : zmx 0 186 = some (14, 1) := by decide +kernel
theorem k85_42 : decode zm85.2.1 42 = .ok (.iload_n 1, 1) := by decide +kernel
theorem k85_43 : decode zm85.2.1 43 = .ok (.aload_n 0, 1) := by decide +kernel
theorem k85_44 : decode zm85.2.1 44 = .ok (.getfield 19, 3) := by decide +kernel
theorem k85_47 : decode zm85.2.1 47 = .ok (.getfield 88, 3) := by decide +kernel
theorem k85_50 : decode zm85.2.1 50 = .ok (.if_icmp .ge 49, 3) := by decide +kernel
theorem k85_99 : decode zm85.2.1 99 = .ok (.aload_n 0, 1) := by decide +kernel
theorem k85_100 : decode zm85.2.1 100 = .ok (.getfield 29, 3) := by decide +kernel
theorem k85_103 : decode zm85.2.1 103 = .ok (.getfield 111, 3) := by decide +kernel
theorem k85_106 : decode zm85.2.1 106 = .ok (.ireturn, 1) := by decide +kernel
theorem k85_53 : decode zm85.2.1 53 = .ok (.aload_n 0, 1) := by decide +kernel
theorem k85_54 : decode zm85.2.1 54 = .ok (.getfield 29, 3) := by decide +kernel
theorem k85_57 : decode zm85.2.1 57 = .ok (.getfield 140, 3) := by decide +kernel
theorem k85_60 : decode zm85.2.1 60 = .ok (.iload_n 1, 1) := by decide +kernel
theorem k85_61 : decode zm85.2.1 61 = .ok (.aload_n 0, 1) := by decide +kernel
theorem k85_62 : decode zm85.2.1 62 = .ok (.getfield 29, 3) := by decide +kernel
theorem k85_65 : decode zm85.2.1 65 = .ok (.getfield 140, 3) := by decide +kernel
theorem k85_68 : decode zm85.2.1 68 = .ok (.iload_n 1, 1) := by decide +kernel
theorem k85_69 : decode zm85.2.1 69 = .ok (.invokevirtual 122, 3) := by decide +kernel
theorem k85_72 : decode zm85.2.1 72 = .ok (.aload_n 0, 1) := by decide +kernel
theorem k85_73 : decode zm85.2.1 73 = .ok (.getfield 19, 3) := by decide +kernel
theorem k85_76 : decode zm85.2.1 76 = .ok (.iload_n 1, 1) := by decide +kernel
theorem k85_77 : decode zm85.2.1 77 = .ok (.invokevirtual 137, 3) := by decide +kernel
theorem k85_80 : decode zm85.2.1 80 = .ok (.aload_n 0, 1) := by decide +kernel
theorem k85_81 : decode zm85.2.1 81 = .ok (.getfield 19, 3) := by decide +kernel
theorem k85_84 : decode zm85.2.1 84 = .ok (.getfield 91, 3) := by decide +kernel
theorem k85_87 : decode zm85.2.1 87 = .ok (.invokestatic 197, 3) := by decide +kernel
theorem k85_90 : decode zm85.2.1 90 = .ok (.invokevirtual 186, 3) := by decide +kernel
theorem k85_93 : decode zm85.2.1 93 = .ok (.iinc 1 1, 3) := by decide +kernel
theorem k85_96 : decode zm85.2.1 96 = .ok (.goto (-54), 3) := by decide +kernel
theorem k85_0 : decode zm85.2.1 0 = .ok (.aload_n 0, 1) := by decide +kernel
theorem k85_1 : decode zm85.2.1 1 = .ok (.getfield 29, 3) := by decide +kernel
theorem k85_4 : decode zm85.2.1 4 = .ok (.getfield 111, 3) := by decide +kernel
theorem k85_7 : decode zm85.2.1 7 = .ok (.sipush 999, 3) := by decide +kernel
theorem k85_10 : decode zm85.2.1 10 = .ok (.if_icmp .lt 6, 3) := by decide +kernel
theorem k85_16 : decode zm85.2.1 16 = .ok (.aload_n 0, 1) := by decide +kernel
theorem k85_17 : decode zm85.2.1 17 = .ok (.getfield 36, 3) := by decide +kernel
theorem k85_20 : decode zm85.2.1 20 = .ok (.aload_n 0, 1) := by decide +kernel
theorem k85_21 : decode zm85.2.1 21 = .ok (.getfield 29, 3) := by decide +kernel
theorem k85_24 : decode zm85.2.1 24 = .ok (.invokevirtual 179, 3) := by decide +kernel
theorem k85_27 : decode zm85.2.1 27 = .ok (.aload_n 0, 1) := by decide +kernel
theorem k85_28 : decode zm85.2.1 28 = .ok (.getfield 29, 3) := by decide +kernel
theorem k85_31 : decode zm85.2.1 31 = .ok (.dup, 1) := by decide +kernel
theorem k85_32 : decode zm85.2.1 32 = .ok (.getfield 111, 3) := by decide +kernel
theorem k85_35 : decode zm85.2.1 35 = .ok (.iconst 1, 1) := by decide +kernel
theorem k85_36 : decode zm85.2.1 36 = .ok (.iadd, 1) := by decide +kernel
theorem k85_37 : decode zm85.2.1 37 = .ok (.putfield 111, 3) := by decide +kernel
theorem k85_40 : decode zm85.2.1 40 = .ok (.iconst 0, 1) := by decide +kernel
theorem k85_41 : decode zm85.2.1 41 = .ok (.istore_n 1, 1) := by decide +kernel
theorem k85_13 : decode zm85.2.1 13 = .ok (.bipush (-5), 2) := by decide +kernel
theorem k85_15 : decode zm85.2.1 15 = .ok (.ireturn, 1) := by decide +kernel
theorem lk_0_201 : zmx 0 201 = some (88, 1) := by decide +kernel
theorem lk_0_183 : zmx 0 183 = some (82, 1) := by decide +kernel
theorem k87_0 : decode zm87.2.1 0 = .ok (.aload_n 0, 1) := by decide +kernel
theorem k87_1 : decode zm87.2.1 1 = .ok (.iload_n 1, 1) := by decide +kernel
theorem k87_2 : decode zm87.2.1 2 = .ok (.iload_n 2, 1) := by decide +kernel
theorem k87_3 : decode zm87.2.1 3 = .ok (.invokevirtual 201, 3) := by decide +kernel
theorem k87_6 : decode zm87.2.1 6 = .ok (.ifCond .ne 6, 3) := by decide +kernel
theorem k87_12 : decode zm87.2.1 12 = .ok (.iload_n 3, 1) := by decide +kernel
theorem k87_13 : decode zm87.2.1 13 = .ok (.iconst 1, 1) := by decide +kernel
theorem k87_14 : decode zm87.2.1 14 = .ok (.bipush 60, 2) := by decide +kernel
theorem k87_16 : decode zm87.2.1 16 = .ok (.invokestatic 68, 3) := by decide +kernel
theorem k87_19 : decode zm87.2.1 19 = .ok (.ifCond .eq 14, 3) := by decide +kernel
theorem k87_33 : decode zm87.2.1 33 = .ok (.bipush (-3), 2) := by decide +kernel
theorem k87_35 : decode zm87.2.1 35 = .ok (.ireturn, 1) := by decide +kernel
theorem k87_22 : decode zm87.2.1 22 = .ok (.iload 4, 2) := by decide +kernel
theorem k87_24 : decode zm87.2.1 24 = .ok (.iconst 0, 1) := by decide +kernel
theorem k87_25 : decode zm87.2.1 25 = .ok (.bipush 99, 2) := by decide +kernel
theorem k87_27 : decode zm87.2.1 27 = .ok (.invokestatic 68, 3) := by decide +kernel
theorem k87_30 : decode zm87.2.1 30 = .ok (.ifCond .ne 6, 3) := by decide +kernel
theorem k87_36 : decode zm87.2.1 36 = .ok (.aload_n 0, 1) := by decide +kernel
theorem k87_37 : decode zm87.2.1 37 = .ok (.getfield 29, 3) := by decide +kernel
theorem k87_40 : decode zm87.2.1 40 = .ok (.getfield 140, 3) := by decide +kernel
theorem k87_43 : decode zm87.2.1 43 = .ok (.iload_n 1, 1) := by decide +kernel
theorem k87_44 : decode zm87.2.1 44 = .ok (.invokevirtual 122, 3) := by decide +kernel
theorem k87_47 : decode zm87.2.1 47 = .ok (.iload_n 3, 1) := by decide +kernel
theorem k87_48 : decode zm87.2.1 48 = .ok (.if_icmp .lt 19, 3) := by decide +kernel
theorem k87_67 : decode zm87.2.1 67 = .ok (.bipush (-4), 2) := by decide +kernel
theorem k87_69 : decode zm87.2.1 69 = .ok (.ireturn, 1) := by decide +kernel
theorem k87_51 : decode zm87.2.1 51 = .ok (.aload_n 0, 1) := by decide +kernel
theorem k87_52 : decode zm87.2.1 52 = .ok (.getfield 29, 3) := by decide +kernel
theorem k87_55 : decode zm87.2.1 55 = .ok (.getfield 143, 3) := by decide +kernel
theorem k87_58 : decode zm87.2.1 58 = .ok (.iload_n 2, 1) := by decide +kernel
theorem k87_59 : decode zm87.2.1 59 = .ok (.invokevirtual 122, 3) := by decide +kernel
theorem k87_62 : decode zm87.2.1 62 = .ok (.iload 4, 2) := by decide +kernel
theorem k87_64 : decode zm87.2.1 64 = .ok (.if_icmp .ge 6, 3) := by decide +kernel
theorem k87_70 : decode zm87.2.1 70 = .ok (.aload_n 0, 1) := by decide +kernel
theorem k87_71 : decode zm87.2.1 71 = .ok (.getfield 29, 3) := by decide +kernel
theorem k87_74 : decode zm87.2.1 74 = .ok (.getfield 140, 3) := by decide +kernel
theorem k87_77 : decode zm87.2.1 77 = .ok (.iload_n 2, 1) := by decide +kernel
theorem k87_78 : decode zm87.2.1 78 = .ok (.invokevirtual 122, 3) := by decide +kernel
theorem k87_81 : decode zm87.2.1 81 = .ok (.iload_n 3, 1) := by decide +kernel
theorem k87_82 : decode zm87.2.1 82 = .ok (.iadd, 1) := by decide +kernel
theorem k87_83 : decode zm87.2.1 83 = .ok (.bipush 60, 2) := by decide +kernel
theorem k87_85 : decode zm87.2.1 85 = .ok (.if_icmp .le 6, 3) := by decide +kernel
theorem k87_91 : decode zm87.2.1 91 = .ok (.aload_n 0, 1) := by decide +kernel
theorem k87_92 : decode zm87.2.1 92 = .ok (.getfield 36, 3) := by decide +kernel
theorem k87_95 : decode zm87.2.1 95 = .ok (.aload_n 0, 1) := by decide +kernel
theorem k87_96 : decode zm87.2.1 96 = .ok (.getfield 29, 3) := by decide +kernel
theorem k87_99 : decode zm87.2.1 99 = .ok (.invokevirtual 179, 3) := by decide +kernel
theorem k87_102 : decode zm87.2.1 102 = .ok (.aload_n 0, 1) := by decide +kernel
theorem k87_103 : decode zm87.2.1 103 = .ok (.getfield 29, 3) := by decide +kernel
theorem k87_106 : decode zm87.2.1 106 = .ok (.getfield 140, 3) := by decide +kernel
theorem k87_109 : decode zm87.2.1 109 = .ok (.iload_n 1, 1) := by decide +kernel
theorem k87_110 : decode zm87.2.1 110 = .ok (.iload_n 3, 1) := by decide +kernel
theorem k87_111 : decode zm87.2.1 111 = .ok (.ineg, 1) := by decide +kernel
theorem k87_112 : decode zm87.2.1 112 = .ok (.invokevirtual 183, 3) := by decide +kernel
theorem k87_115 : decode zm87.2.1 115 = .ok (.aload_n 0, 1) := by decide +kernel
theorem k87_116 : decode zm87.2.1 116 = .ok (.getfield 29, 3) := by decide +kernel
theorem k87_119 : decode zm87.2.1 119 = .ok (.getfield 140, 3) := by decide +kernel
theorem k87_122 : decode zm87.2.1 122 = .ok (.iload_n 2, 1) := by decide +kernel
theorem k87_123 : decode zm87.2.1 123 = .ok (.iload_n 3, 1) := by decide +kernel
theorem k87_124 : decode zm87.2.1 124 = .ok (.invokevirtual 183, 3) := by decide +kernel
theorem k87_127 : decode zm87.2.1 127 = .ok (.aload_n 0, 1) := by decide +kernel
theorem k87_128 : decode zm87.2.1 128 = .ok (.getfield 29, 3) := by decide +kernel
theorem k87_131 : decode zm87.2.1 131 = .ok (.getfield 143, 3) := by decide +kernel
theorem k87_134 : decode zm87.2.1 134 = .ok (.iload_n 2, 1) := by decide +kernel
theorem k87_135 : decode zm87.2.1 135 = .ok (.iload 4, 2) := by decide +kernel
theorem k87_137 : decode zm87.2.1 137 = .ok (.ineg, 1) := by decide +kernel
theorem k87_138 : decode zm87.2.1 138 = .ok (.invokevirtual 183, 3) := by decide +kernel
theorem k87_141 : decode zm87.2.1 141 = .ok (.aload_n 0, 1) := by decide +kernel
theorem k87_142 : decode zm87.2.1 142 = .ok (.getfield 29, 3) := by decide +kernel
theorem k87_145 : decode zm87.2.1 145 = .ok (.getfield 143, 3) := by decide +kernel
theorem k87_148 : decode zm87.2.1 148 = .ok (.iload_n 1, 1) := by decide +kernel
theorem k87_149 : decode zm87.2.1 149 = .ok (.iload 4, 2) := by decide +kernel
theorem k87_151 : decode zm87.2.1 151 = .ok (.invokevirtual 183, 3) := by decide +kernel
theorem k87_154 : decode zm87.2.1 154 = .ok (.aload_n 0, 1) := by decide +kernel
theorem k87_155 : decode zm87.2.1 155 = .ok (.getfield 29, 3) := by decide +kernel
theorem k87_158 : decode zm87.2.1 158 = .ok (.getfield 140, 3) := by decide +kernel
theorem k87_161 : decode zm87.2.1 161 = .ok (.iload_n 2, 1) := by decide +kernel
theorem k87_162 : decode zm87.2.1 162 = .ok (.invokevirtual 122, 3) := by decide +kernel
theorem k87_165 : decode zm87.2.1 165 = .ok (.ireturn, 1) := by decide +kernel
theorem k87_88 : decode zm87.2.1 88 = .ok (.bipush (-5), 2) := by decide +kernel
theorem k87_90 : decode zm87.2.1 90 = .ok (.ireturn, 1) := by decide +kernel
theorem k87_9 : decode zm87.2.1 9 = .ok (.bipush (-2), 2) := by decide +kernel
theorem k87_11 : decode zm87.2.1 11 = .ok (.ireturn, 1) := by decide +kernel
theorem lk_0_204 : zmx 0 204 = some (90, 1) := by decide +kernel
theorem lk_0_207 : zmx 0 207 = some (91, 1) := by decide +kernel
theorem k89_0 : decode zm89.2.1 0 = .ok (.aload_n 0, 1) := by decide +kernel
theorem k89_1 : decode zm89.2.1 1 = .ok (.iload_n 1, 1) := by decide +kernel
theorem k89_2 : decode zm89.2.1 2 = .ok (.iload_n 2, 1) := by decide +kernel
theorem k89_3 : decode zm89.2.1 3 = .ok (.invokevirtual 201, 3) := by decide +kernel
theorem k89_6 : decode zm89.2.1 6 = .ok (.ifCond .ne 6, 3) := by decide +kernel
theorem k89_12 : decode zm89.2.1 12 = .ok (.iload_n 3, 1) := by decide +kernel
theorem k89_13 : decode zm89.2.1 13 = .ok (.iconst 1, 1) := by decide +kernel
theorem k89_14 : decode zm89.2.1 14 = .ok (.bipush 99, 2) := by decide +kernel
theorem k89_16 : decode zm89.2.1 16 = .ok (.invokestatic 68, 3) := by decide +kernel
theorem k89_19 : decode zm89.2.1 19 = .ok (.ifCond .ne 6, 3) := by decide +kernel
theorem k89_25 : decode zm89.2.1 25 = .ok (.aload_n 0, 1) := by decide +kernel
theorem k89_26 : decode zm89.2.1 26 = .ok (.getfield 29, 3) := by decide +kernel
theorem k89_29 : decode zm89.2.1 29 = .ok (.iload_n 1, 1) := by decide +kernel
theorem k89_30 : decode zm89.2.1 30 = .ok (.iload_n 2, 1) := by decide +kernel
theorem k89_31 : decode zm89.2.1 31 = .ok (.invokevirtual 204, 3) := by decide +kernel
theorem k89_34 : decode zm89.2.1 34 = .ok (.iload_n 3, 1) := by decide +kernel
theorem k89_35 : decode zm89.2.1 35 = .ok (.iadd, 1) := by decide +kernel
theorem k89_36 : decode zm89.2.1 36 = .ok (.istore 4, 2) := by decide +kernel
theorem k89_38 : decode zm89.2.1 38 = .ok (.iload 4, 2) := by decide +kernel
theorem k89_40 : decode zm89.2.1 40 = .ok (.sipush 999, 3) := by decide +kernel
theorem k89_43 : decode zm89.2.1 43 = .ok (.if_icmp .le 6, 3) := by decide +kernel
theorem k89_49 : decode zm89.2.1 49 = .ok (.aload_n 0, 1) := by decide +kernel
theorem k89_50 : decode zm89.2.1 50 = .ok (.getfield 36, 3) := by decide +kernel
theorem k89_53 : decode zm89.2.1 53 = .ok (.aload_n 0, 1) := by decide +kernel
theorem k89_54 : decode zm89.2.1 54 = .ok (.getfield 29, 3) := by decide +kernel
theorem k89_57 : decode zm89.2.1 57 = .ok (.invokevirtual 179, 3) := by decide +kernel
theorem k89_60 : decode zm89.2.1 60 = .ok (.aload_n 0, 1) := by decide +kernel
theorem k89_61 : decode zm89.2.1 61 = .ok (.getfield 29, 3) := by decide +kernel
theorem k89_64 : decode zm89.2.1 64 = .ok (.iload_n 1, 1) := by decide +kernel
theorem k89_65 : decode zm89.2.1 65 = .ok (.iload_n 2, 1) := by decide +kernel
theorem k89_66 : decode zm89.2.1 66 = .ok (.iload 4, 2) := by decide +kernel
theorem k89_68 : decode zm89.2.1 68 = .ok (.invokevirtual 207, 3) := by decide +kernel
theorem k89_71 : decode zm89.2.1 71 = .ok (.iload 4, 2) := by decide +kernel
theorem k89_73 : decode zm89.2.1 73 = .ok (.ireturn, 1) := by decide +kernel
theorem k89_46 : decode zm89.2.1 46 = .ok (.bipush (-5), 2) := by decide +kernel
theorem k89_48 : decode zm89.2.1 48 = .ok (.ireturn, 1) := by decide +kernel
theorem k89_22 : decode zm89.2.1 22 = .ok (.bipush (-3), 2) := by decide +kernel
theorem k89_24 : decode zm89.2.1 24 = .ok (.ireturn, 1) := by decide +kernel
theorem k89_9 : decode zm89.2.1 9 = .ok (.bipush (-2), 2) := by decide +kernel
theorem k89_11 : decode zm89.2.1 11 = .ok (.ireturn, 1) := by decide +kernel
theorem k92_0 : decode zm92.2.1 0 = .ok (.aload_n 0, 1) := by decide +kernel
theorem k92_1 : decode zm92.2.1 1 = .ok (.iload_n 1, 1) := by decide +kernel
theorem k92_2 : decode zm92.2.1 2 = .ok (.iload_n 2, 1) := by decide +kernel
theorem k92_3 : decode zm92.2.1 3 = .ok (.invokevirtual 201, 3) := by decide +kernel
theorem k92_6 : decode zm92.2.1 6 = .ok (.ifCond .eq 15, 3) := by decide +kernel
theorem k92_21 : decode zm92.2.1 21 = .ok (.bipush (-2), 2) := by decide +kernel
theorem k92_23 : decode zm92.2.1 23 = .ok (.ireturn, 1) := by decide +kernel
theorem k92_9 : decode zm92.2.1 9 = .ok (.aload_n 0, 1) := by decide +kernel
theorem k92_10 : decode zm92.2.1 10 = .ok (.getfield 29, 3) := by decide +kernel
theorem k92_13 : decode zm92.2.1 13 = .ok (.iload_n 1, 1) := by decide +kernel
theorem k92_14 : decode zm92.2.1 14 = .ok (.iload_n 2, 1) := by decide +kernel
theorem k92_15 : decode zm92.2.1 15 = .ok (.invokevirtual 204, 3) := by decide +kernel
theorem k92_18 : decode zm92.2.1 18 = .ok (.goto 5, 3) := by decide +kernel
theorem lk_0_211 : zmx 0 211 = some (94, 1) := by decide +kernel
theorem k93_0 : decode zm93.2.1 0 = .ok (.aload_n 0, 1) := by decide +kernel
theorem k93_1 : decode zm93.2.1 1 = .ok (.getfield 36, 3) := by decide +kernel
theorem k93_4 : decode zm93.2.1 4 = .ok (.aload_n 0, 1) := by decide +kernel
theorem k93_5 : decode zm93.2.1 5 = .ok (.getfield 29, 3) := by decide +kernel
theorem k93_8 : decode zm93.2.1 8 = .ok (.invokevirtual 211, 3) := by decide +kernel
theorem k93_11 : decode zm93.2.1 11 = .ok (.ifCond .eq 13, 3) := by decide +kernel
theorem k93_24 : decode zm93.2.1 24 = .ok (.bipush (-4), 2) := by decide +kernel
theorem k93_26 : decode zm93.2.1 26 = .ok (.ireturn, 1) := by decide +kernel
theorem k93_14 : decode zm93.2.1 14 = .ok (.aload_n 0, 1) := by decide +kernel
theorem k93_15 : decode zm93.2.1 15 = .ok (.getfield 36, 3) := by decide +kernel
theorem k93_18 : decode zm93.2.1 18 = .ok (.getfield 215, 3) := by decide +kernel
theorem k93_21 : decode zm93.2.1 21 = .ok (.goto 5, 3) := by decide +kernel
theorem lk_0_216 : zmx 0 216 = some (96, 1) := by decide +kernel
theorem k95_0 : decode zm95.2.1 0 = .ok (.iload_n 1, 1) := by decide +kernel
theorem k95_1 : decode zm95.2.1 1 = .ok (.iconst 0, 1) := by decide +kernel
theorem k95_2 : decode zm95.2.1 2 = .ok (.iconst 1, 1) := by decide +kernel
theorem k95_3 : decode zm95.2.1 3 = .ok (.invokestatic 68, 3) := by decide +kernel
theorem k95_6 : decode zm95.2.1 6 = .ok (.ifCond .ne 6, 3) := by decide +kernel
theorem k95_12 : decode zm95.2.1 12 = .ok (.aload_n 0, 1) := by decide +kernel
theorem k95_13 : decode zm95.2.1 13 = .ok (.getfield 36, 3) := by decide +kernel
theorem k95_16 : decode zm95.2.1 16 = .ok (.iload_n 1, 1) := by decide +kernel
theorem k95_17 : decode zm95.2.1 17 = .ok (.aload_n 0, 1) := by decide +kernel
theorem k95_18 : decode zm95.2.1 18 = .ok (.getfield 29, 3) := by decide +kernel
theorem k95_21 : decode zm95.2.1 21 = .ok (.invokevirtual 216, 3) := by decide +kernel
theorem k95_24 : decode zm95.2.1 24 = .ok (.aload_n 0, 1) := by decide +kernel
theorem k95_25 : decode zm95.2.1 25 = .ok (.getfield 29, 3) := by decide +kernel
theorem k95_28 : decode zm95.2.1 28 = .ok (.getfield 111, 3) := by decide +kernel
theorem k95_31 : decode zm95.2.1 31 = .ok (.ireturn, 1) := by decide +kernel
theorem k95_9 : decode zm95.2.1 9 = .ok (.bipush (-2), 2) := by decide +kernel
theorem k95_11 : decode zm95.2.1 11 = .ok (.ireturn, 1) := by decide +kernel
theorem lk_0_220 : zmx 0 220 = some (98, 1) := by decide +kernel
theorem k97_0 : decode zm97.2.1 0 = .ok (.iload_n 1, 1) := by decide +kernel
theorem k97_1 : decode zm97.2.1 1 = .ok (.iconst 0, 1) := by decide +kernel
theorem k97_2 : decode zm97.2.1 2 = .ok (.iconst 1, 1) := by decide +kernel
theorem k97_3 : decode zm97.2.1 3 = .ok (.invokestatic 68, 3) := by decide +kernel
theorem k97_6 : decode zm97.2.1 6 = .ok (.ifCond .ne 6, 3) := by decide +kernel
theorem k97_12 : decode zm97.2.1 12 = .ok (.aload_n 0, 1) := by decide +kernel
theorem k97_13 : decode zm97.2.1 13 = .ok (.getfield 36, 3) := by decide +kernel
theorem k97_16 : decode zm97.2.1 16 = .ok (.iload_n 1, 1) := by decide +kernel
theorem k97_17 : decode zm97.2.1 17 = .ok (.aload_n 0, 1) := by decide +kernel
theorem k97_18 : decode zm97.2.1 18 = .ok (.getfield 29, 3) := by decide +kernel
theorem k97_21 : decode zm97.2.1 21 = .ok (.invokevirtual 220, 3) := by decide +kernel
theorem k97_24 : decode zm97.2.1 24 = .ok (.ifCond .eq 13, 3) := by decide +kernel
theorem k97_37 : decode zm97.2.1 37 = .ok (.bipush (-4), 2) := by decide +kernel
theorem k97_39 : decode zm97.2.1 39 = .ok (.ireturn, 1) := by decide +kernel
theorem k97_27 : decode zm97.2.1 27 = .ok (.aload_n 0, 1) := by decide +kernel
theorem k97_28 : decode zm97.2.1 28 = .ok (.getfield 29, 3) := by decide +kernel
theorem k97_31 : decode zm97.2.1 31 = .ok (.getfield 111, 3) := by decide +kernel
theorem k97_34 : decode zm97.2.1 34 = .ok (.goto 5, 3) := by decide +kernel
theorem k97_9 : decode zm97.2.1 9 = .ok (.bipush (-2), 2) := by decide +kernel
theorem k97_11 : decode zm97.2.1 11 = .ok (.ireturn, 1) := by decide +kernel
theorem lk_0_175 : zmx 0 175 = some (76, 1) := by decide +kernel
theorem lk_0_263 : zmx 0 263 = some (119, 1) := by decide +kernel
theorem k118_0 : decode zm118.2.1 0 = .ok (.aload_n 0, 1) := by decide +kernel
theorem k118_1 : decode zm118.2.1 1 = .ok (.getfield 43, 3) := by decide +kernel
theorem k118_4 : decode zm118.2.1 4 = .ok (.invokevirtual 175, 3) := by decide +kernel
theorem k118_7 : decode zm118.2.1 7 = .ok (.ifCond .ne 6, 3) := by decide +kernel
theorem k118_13 : decode zm118.2.1 13 = .ok (.aload_n 0, 1) := by decide +kernel
theorem k118_14 : decode zm118.2.1 14 = .ok (.getfield 57, 3) := by decide +kernel
theorem k118_17 : decode zm118.2.1 17 = .ok (.aload_n 0, 1) := by decide +kernel
theorem k118_18 : decode zm118.2.1 18 = .ok (.getfield 43, 3) := by decide +kernel
theorem k118_21 : decode zm118.2.1 21 = .ok (.invokevirtual 263, 3) := by decide +kernel
theorem k118_24 : decode zm118.2.1 24 = .ok (.ifCond .eq 13, 3) := by decide +kernel
theorem k118_37 : decode zm118.2.1 37 = .ok (.bipush (-5), 2) := by decide +kernel
theorem k118_39 : decode zm118.2.1 39 = .ok (.ireturn, 1) := by decide +kernel
theorem k118_27 : decode zm118.2.1 27 = .ok (.aload_n 0, 1) := by decide +kernel
theorem k118_28 : decode zm118.2.1 28 = .ok (.getfield 57, 3) := by decide +kernel
theorem k118_31 : decode zm118.2.1 31 = .ok (.getfield 102, 3) := by decide +kernel
theorem k118_34 : decode zm118.2.1 34 = .ok (.goto 5, 3) := by decide +kernel
theorem k118_10 : decode zm118.2.1 10 = .ok (.bipush (-4), 2) := by decide +kernel
theorem k118_12 : decode zm118.2.1 12 = .ok (.ireturn, 1) := by decide +kernel
theorem lk_8_46 : zmx 8 46 = some (83, 1) := by decide +kernel
theorem lk_8_52 : zmx 8 52 = some (14, 1) := by decide +kernel
theorem k124_2 : decode zm124.2.1 2 = .ok (.iload_n 2, 1) := by decide +kernel
theorem k124_3 : decode zm124.2.1 3 = .ok (.aload_n 0, 1) := by decide +kernel
theorem k124_4 : decode zm124.2.1 4 = .ok (.getfield 34, 3) := by decide +kernel
theorem k124_7 : decode zm124.2.1 7 = .ok (.if_icmp .ge 26, 3) := by decide +kernel
theorem k124_33 : decode zm124.2.1 33 = .ok (.return_, 1) := by decide +kernel
theorem k124_10 : decode zm124.2.1 10 = .ok (.aload_n 0, 1) := by decide +kernel
theorem k124_11 : decode zm124.2.1 11 = .ok (.getfield 31, 3) := by decide +kernel
theorem k124_14 : decode zm124.2.1 14 = .ok (.iload_n 2, 1) := by decide +kernel
theorem k124_15 : decode zm124.2.1 15 = .ok (.aload_n 1, 1) := by decide +kernel
theorem k124_16 : decode zm124.2.1 16 = .ok (.aload_n 0, 1) := by decide +kernel
theorem k124_17 : decode zm124.2.1 17 = .ok (.iload_n 2, 1) := by decide +kernel
theorem k124_18 : decode zm124.2.1 18 = .ok (.invokevirtual 38, 3) := by decide +kernel
theorem k124_21 : decode zm124.2.1 21 = .ok (.invokevirtual 46, 3) := by decide +kernel
theorem k124_24 : decode zm124.2.1 24 = .ok (.invokevirtual 52, 3) := by decide +kernel
theorem sh193 : zsh 193 = some (2, [some 194]) := by decide +kernel
theorem k124_27 : decode zm124.2.1 27 = .ok (.iinc 2 1, 3) := by decide +kernel
theorem k124_30 : decode zm124.2.1 30 = .ok (.goto (-28), 3) := by decide +kernel
theorem k124_0 : decode zm124.2.1 0 = .ok (.iconst 0, 1) := by decide +kernel
theorem k124_1 : decode zm124.2.1 1 = .ok (.istore_n 2, 1) := by decide +kernel
theorem lk_8_76 : zmx 8 76 = some (128, 1) := by decide +kernel
theorem k126_40 : decode zm126.2.1 40 = .ok (.iinc 2 1, 3) := by decide +kernel
theorem k126_43 : decode zm126.2.1 43 = .ok (.goto (-31), 3) := by decide +kernel
theorem k126_12 : decode zm126.2.1 12 = .ok (.iload_n 2, 1) := by decide +kernel
theorem k126_13 : decode zm126.2.1 13 = .ok (.iconst 1, 1) := by decide +kernel
theorem k126_14 : decode zm126.2.1 14 = .ok (.aload_n 0, 1) := by decide +kernel
theorem k126_15 : decode zm126.2.1 15 = .ok (.getfield 34, 3) := by decide +kernel
theorem k126_18 : decode zm126.2.1 18 = .ok (.ishl, 1) := by decide +kernel
theorem k126_19 : decode zm126.2.1 19 = .ok (.if_icmp .ge 27, 3) := by decide +kernel
theorem k126_46 : decode zm126.2.1 46 = .ok (.return_, 1) := by decide +kernel
theorem k126_22 : decode zm126.2.1 22 = .ok (.aload_n 0, 1) := by decide +kernel
theorem k126_23 : decode zm126.2.1 23 = .ok (.aload_n 0, 1) := by decide +kernel
theorem k126_24 : decode zm126.2.1 24 = .ok (.getfield 27, 3) := by decide +kernel
theorem k126_27 : decode zm126.2.1 27 = .ok (.iload_n 2, 1) := by decide +kernel
theorem k126_28 : decode zm126.2.1 28 = .ok (.invokevirtual 72, 3) := by decide +kernel
theorem k126_31 : decode zm126.2.1 31 = .ok (.iload_n 1, 1) := by decide +kernel
theorem k126_32 : decode zm126.2.1 32 = .ok (.if_icmp .gt 8, 3) := by decide +kernel
theorem k126_35 : decode zm126.2.1 35 = .ok (.aload_n 0, 1) := by decide +kernel
theorem k126_36 : decode zm126.2.1 36 = .ok (.iload_n 2, 1) := by decide +kernel
theorem k126_37 : decode zm126.2.1 37 = .ok (.invokevirtual 76, 3) := by decide +kernel
theorem k126_0 : decode zm126.2.1 0 = .ok (.aload_n 0, 1) := by decide +kernel
theorem k126_1 : decode zm126.2.1 1 = .ok (.iconst 0, 1) := by decide +kernel
theorem k126_2 : decode zm126.2.1 2 = .ok (.putfield 66, 3) := by decide +kernel
theorem k126_5 : decode zm126.2.1 5 = .ok (.aload_n 0, 1) := by decide +kernel
theorem k126_6 : decode zm126.2.1 6 = .ok (.iconst 0, 1) := by decide +kernel
theorem k126_7 : decode zm126.2.1 7 = .ok (.putfield 69, 3) := by decide +kernel
theorem k126_10 : decode zm126.2.1 10 = .ok (.iconst 0, 1) := by decide +kernel
theorem k126_11 : decode zm126.2.1 11 = .ok (.istore_n 2, 1) := by decide +kernel
theorem lk_8_79 : zmx 8 79 = some (132, 1) := by decide +kernel
theorem k131_42 : decode zm131.2.1 42 = .ok (.iinc 4 1, 3) := by decide +kernel
theorem k131_45 : decode zm131.2.1 45 = .ok (.goto (-32), 3) := by decide +kernel
theorem k131_13 : decode zm131.2.1 13 = .ok (.iload 4, 2) := by decide +kernel
theorem k131_15 : decode zm131.2.1 15 = .ok (.iconst 1, 1) := by decide +kernel
theorem k131_16 : decode zm131.2.1 16 = .ok (.aload_n 0, 1) := by decide +kernel
theorem k131_17 : decode zm131.2.1 17 = .ok (.getfield 34, 3) := by decide +kernel
theorem k131_20 : decode zm131.2.1 20 = .ok (.ishl, 1) := by decide +kernel
theorem k131_21 : decode zm131.2.1 21 = .ok (.if_icmp .ge 27, 3) := by decide +kernel
theorem k131_48 : decode zm131.2.1 48 = .ok (.return_, 1) := by decide +kernel
theorem k131_24 : decode zm131.2.1 24 = .ok (.aload_n 0, 1) := by decide +kernel
theorem k131_25 : decode zm131.2.1 25 = .ok (.iload 4, 2) := by decide +kernel
theorem k131_27 : decode zm131.2.1 27 = .ok (.iload_n 1, 1) := by decide +kernel
theorem k131_28 : decode zm131.2.1 28 = .ok (.iload_n 2, 1) := by decide +kernel
theorem k131_29 : decode zm131.2.1 29 = .ok (.iload_n 3, 1) := by decide +kernel
theorem k131_30 : decode zm131.2.1 30 = .ok (.invokevirtual 79, 3) := by decide +kernel
theorem k131_33 : decode zm131.2.1 33 = .ok (.ifCond .eq 9, 3) := by decide +kernel
theorem k131_36 : decode zm131.2.1 36 = .ok (.aload_n 0, 1) := by decide +kernel
theorem k131_37 : decode zm131.2.1 37 = .ok (.iload 4, 2) := by decide +kernel
theorem k131_39 : decode zm131.2.1 39 = .ok (.invokevirtual 76, 3) := by decide +kernel
theorem k131_0 : decode zm131.2.1 0 = .ok (.aload_n 0, 1) := by decide +kernel
theorem k131_1 : decode zm131.2.1 1 = .ok (.iconst 0, 1) := by decide +kernel
theorem k131_2 : decode zm131.2.1 2 = .ok (.putfield 66, 3) := by decide +kernel
theorem k131_5 : decode zm131.2.1 5 = .ok (.aload_n 0, 1) := by decide +kernel
theorem k131_6 : decode zm131.2.1 6 = .ok (.iconst 0, 1) := by decide +kernel
theorem k131_7 : decode zm131.2.1 7 = .ok (.putfield 69, 3) := by decide +kernel
theorem k131_10 : decode zm131.2.1 10 = .ok (.iconst 0, 1) := by decide +kernel
theorem k131_11 : decode zm131.2.1 11 = .ok (.istore 4, 2) := by decide +kernel
theorem lk_0_323 : zmx 0 323 = some (51, 1) := by decide +kernel
theorem k134_76 : decode zm134.2.1 76 = .ok (.iinc 4 1, 3) := by decide +kernel
theorem k134_79 : decode zm134.2.1 79 = .ok (.goto (-57), 3) := by decide +kernel
theorem k134_22 : decode zm134.2.1 22 = .ok (.iload 4, 2) := by decide +kernel
theorem k134_24 : decode zm134.2.1 24 = .ok (.aload_n 0, 1) := by decide +kernel
theorem k134_25 : decode zm134.2.1 25 = .ok (.getfield 43, 3) := by decide +kernel
theorem k134_28 : decode zm134.2.1 28 = .ok (.getfield 101, 3) := by decide +kernel
theorem k134_31 : decode zm134.2.1 31 = .ok (.if_icmp .ge 51, 3) := by decide +kernel
theorem k134_82 : decode zm134.2.1 82 = .ok (.iload_n 3, 1) := by decide +kernel
theorem k134_83 : decode zm134.2.1 83 = .ok (.ireturn, 1) := by decide +kernel
theorem k134_34 : decode zm134.2.1 34 = .ok (.aload_n 0, 1) := by decide +kernel
theorem k134_35 : decode zm134.2.1 35 = .ok (.getfield 43, 3) := by decide +kernel
theorem k134_38 : decode zm134.2.1 38 = .ok (.iload 4, 2) := by decide +kernel
theorem k134_40 : decode zm134.2.1 40 = .ok (.invokevirtual 164, 3) := by decide +kernel
theorem k134_43 : decode zm134.2.1 43 = .ok (.istore 5, 2) := by decide +kernel
theorem k134_45 : decode zm134.2.1 45 = .ok (.iload 5, 2) := by decide +kernel
theorem k134_47 : decode zm134.2.1 47 = .ok (.iconst (-1), 1) := by decide +kernel
theorem k134_48 : decode zm134.2.1 48 = .ok (.if_icmp .eq 28, 3) := by decide +kernel
theorem k134_51 : decode zm134.2.1 51 = .ok (.iload_n 2, 1) := by decide +kernel
theorem k134_52 : decode zm134.2.1 52 = .ok (.ifCond .le 24, 3) := by decide +kernel
theorem k134_55 : decode zm134.2.1 55 = .ok (.iload_n 3, 1) := by decide +kernel
theorem k134_56 : decode zm134.2.1 56 = .ok (.sipush 1000, 3) := by decide +kernel
theorem k134_59 : decode zm134.2.1 59 = .ok (.aload_n 0, 1) := by decide +kernel
theorem k134_60 : decode zm134.2.1 60 = .ok (.getfield 29, 3) := by decide +kernel
theorem k134_63 : decode zm134.2.1 63 = .ok (.iload_n 1, 1) := by decide +kernel
theorem k134_64 : decode zm134.2.1 64 = .ok (.iload 5, 2) := by decide +kernel
theorem k134_66 : decode zm134.2.1 66 = .ok (.invokevirtual 323, 3) := by decide +kernel
theorem k134_69 : decode zm134.2.1 69 = .ok (.iconst 1, 1) := by decide +kernel
theorem k134_70 : decode zm134.2.1 70 = .ok (.iadd, 1) := by decide +kernel
theorem k134_71 : decode zm134.2.1 71 = .ok (.imul, 1) := by decide +kernel
theorem k134_72 : decode zm134.2.1 72 = .ok (.iload_n 2, 1) := by decide +kernel
theorem k134_73 : decode zm134.2.1 73 = .ok (.idiv, 1) := by decide +kernel
theorem k134_74 : decode zm134.2.1 74 = .ok (.iadd, 1) := by decide +kernel
theorem k134_75 : decode zm134.2.1 75 = .ok (.istore_n 3, 1) := by decide +kernel
theorem k134_0 : decode zm134.2.1 0 = .ok (.aload_n 0, 1) := by decide +kernel
theorem k134_1 : decode zm134.2.1 1 = .ok (.getfield 29, 3) := by decide +kernel
theorem k134_4 : decode zm134.2.1 4 = .ok (.iload_n 1, 1) := by decide +kernel
theorem k134_5 : decode zm134.2.1 5 = .ok (.invokevirtual 150, 3) := by decide +kernel
theorem k134_8 : decode zm134.2.1 8 = .ok (.aload_n 0, 1) := by decide +kernel
theorem k134_9 : decode zm134.2.1 9 = .ok (.getfield 19, 3) := by decide +kernel
theorem k134_12 : decode zm134.2.1 12 = .ok (.getfield 250, 3) := by decide +kernel
theorem k134_15 : decode zm134.2.1 15 = .ok (.iadd, 1) := by decide +kernel
theorem k134_16 : decode zm134.2.1 16 = .ok (.istore_n 2, 1) := by decide +kernel
theorem k134_17 : decode zm134.2.1 17 = .ok (.iconst 0, 1) := by decide +kernel
theorem k134_18 : decode zm134.2.1 18 = .ok (.istore_n 3, 1) := by decide +kernel
theorem k134_19 : decode zm134.2.1 19 = .ok (.iconst 0, 1) := by decide +kernel
theorem k134_20 : decode zm134.2.1 20 = .ok (.istore 4, 2) := by decide +kernel
theorem lk_0_302 : zmx 0 302 = some (139, 1) := by decide +kernel
theorem k138_0 : decode zm138.2.1 0 = .ok (.aload_n 0, 1) := by decide +kernel
theorem k138_1 : decode zm138.2.1 1 = .ok (.iload_n 1, 1) := by decide +kernel
theorem k138_2 : decode zm138.2.1 2 = .ok (.invokevirtual 134, 3) := by decide +kernel
theorem k138_5 : decode zm138.2.1 5 = .ok (.ifCond .eq 18, 3) := by decide +kernel
theorem k138_23 : decode zm138.2.1 23 = .ok (.bipush (-2), 2) := by decide +kernel
theorem k138_25 : decode zm138.2.1 25 = .ok (.ireturn, 1) := by decide +kernel
theorem k138_8 : decode zm138.2.1 8 = .ok (.aload_n 0, 1) := by decide +kernel
theorem k138_9 : decode zm138.2.1 9 = .ok (.getfield 29, 3) := by decide +kernel
theorem k138_12 : decode zm138.2.1 12 = .ok (.iload_n 1, 1) := by decide +kernel
theorem k138_13 : decode zm138.2.1 13 = .ok (.invokevirtual 302, 3) := by decide +kernel
theorem k138_16 : decode zm138.2.1 16 = .ok (.sipush 9999, 3) := by decide +kernel
theorem k138_19 : decode zm138.2.1 19 = .ok (.iadd, 1) := by decide +kernel
theorem k138_20 : decode zm138.2.1 20 = .ok (.goto 5, 3) := by decide +kernel
theorem fk_9_26 : zfx 9 26 = some (9, 2) := by decide +kernel
theorem lk_9_117 : zmx 9 117 = some (21, 1) := by decide +kernel
theorem rw220 : zRow 220 := ⟨by decide +kernel, zArr_of (by decide +kernel)⟩
theorem lk_9_112 : zmx 9 112 = some (139, 1) := by decide +kernel
theorem lk_9_120 : zmx 9 120 = some (14, 1) := by decide +kernel
theorem k141_98 : decode zm141.2.1 98 = .ok (.invokevirtual 120, 3) := by decide +kernel
theorem sh220 : zsh 220 = some (2, [some 221]) := by decide +kernel
theorem k141_101 : decode zm141.2.1 101 = .ok (.iinc 4 1, 3) := by decide +kernel
theorem k141_104 : decode zm141.2.1 104 = .ok (.goto (-95), 3) := by decide +kernel
theorem k141_72 : decode zm141.2.1 72 = .ok (.iinc 7 1, 3) := by decide +kernel
theorem k141_75 : decode zm141.2.1 75 = .ok (.goto (-51), 3) := by decide +kernel
theorem k141_24 : decode zm141.2.1 24 = .ok (.iload 7, 2) := by decide +kernel
theorem k141_26 : decode zm141.2.1 26 = .ok (.iload_n 2, 1) := by decide +kernel
theorem k141_27 : decode zm141.2.1 27 = .ok (.if_icmp .ge 51, 3) := by decide +kernel
theorem k141_78 : decode zm141.2.1 78 = .ok (.aload_n 0, 1) := by decide +kernel
theorem k141_79 : decode zm141.2.1 79 = .ok (.getfield 26, 3) := by decide +kernel
theorem k141_82 : decode zm141.2.1 82 = .ok (.iload 4, 2) := by decide +kernel
theorem k141_84 : decode zm141.2.1 84 = .ok (.iload 6, 2) := by decide +kernel
theorem k141_86 : decode zm141.2.1 86 = .ok (.ifCond .ne 10, 3) := by decide +kernel
theorem k141_96 : decode zm141.2.1 96 = .ok (.iload 5, 2) := by decide +kernel
theorem k141_89 : decode zm141.2.1 89 = .ok (.iload 5, 2) := by decide +kernel
theorem k141_91 : decode zm141.2.1 91 = .ok (.iconst 1, 1) := by decide +kernel
theorem k141_92 : decode zm141.2.1 92 = .ok (.iadd, 1) := by decide +kernel
theorem k141_93 : decode zm141.2.1 93 = .ok (.goto 5, 3) := by decide +kernel
theorem k141_30 : decode zm141.2.1 30 = .ok (.iload 4, 2) := by decide +kernel
theorem k141_32 : decode zm141.2.1 32 = .ok (.iload 7, 2) := by decide +kernel
theorem k141_34 : decode zm141.2.1 34 = .ok (.invokestatic 83, 3) := by decide +kernel
theorem k141_37 : decode zm141.2.1 37 = .ok (.ifCond .eq 35, 3) := by decide +kernel
theorem k141_40 : decode zm141.2.1 40 = .ok (.iload 6, 2) := by decide +kernel
theorem k141_42 : decode zm141.2.1 42 = .ok (.aload_n 1, 1) := by decide +kernel
theorem k141_43 : decode zm141.2.1 43 = .ok (.iload 7, 2) := by decide +kernel
theorem k141_45 : decode zm141.2.1 45 = .ok (.invokevirtual 112, 3) := by decide +kernel
theorem k141_48 : decode zm141.2.1 48 = .ok (.iadd, 1) := by decide +kernel
theorem k141_49 : decode zm141.2.1 49 = .ok (.istore 6, 2) := by decide +kernel
theorem k141_51 : decode zm141.2.1 51 = .ok (.iload 5, 2) := by decide +kernel
theorem k141_53 : decode zm141.2.1 53 = .ok (.aload_n 0, 1) := by decide +kernel
theorem k141_54 : decode zm141.2.1 54 = .ok (.getfield 26, 3) := by decide +kernel
theorem k141_57 : decode zm141.2.1 57 = .ok (.iload 4, 2) := by decide +kernel
theorem k141_59 : decode zm141.2.1 59 = .ok (.iconst 1, 1) := by decide +kernel
theorem k141_60 : decode zm141.2.1 60 = .ok (.iload 7, 2) := by decide +kernel
theorem k141_62 : decode zm141.2.1 62 = .ok (.ishl, 1) := by decide +kernel
theorem k141_63 : decode zm141.2.1 63 = .ok (.isub, 1) := by decide +kernel
theorem k141_64 : decode zm141.2.1 64 = .ok (.invokevirtual 117, 3) := by decide +kernel
theorem k141_67 : decode zm141.2.1 67 = .ok (.invokestatic 61, 3) := by decide +kernel
theorem k141_70 : decode zm141.2.1 70 = .ok (.istore 5, 2) := by decide +kernel
theorem k141_9 : decode zm141.2.1 9 = .ok (.iload 4, 2) := by decide +kernel
theorem k141_11 : decode zm141.2.1 11 = .ok (.iload_n 3, 1) := by decide +kernel
theorem k141_12 : decode zm141.2.1 12 = .ok (.if_icmp .gt 95, 3) := by decide +kernel
theorem k141_107 : decode zm141.2.1 107 = .ok (.iload_n 2, 1) := by decide +kernel
theorem k141_108 : decode zm141.2.1 108 = .ok (.aload_n 0, 1) := by decide +kernel
theorem k141_109 : decode zm141.2.1 109 = .ok (.getfield 26, 3) := by decide +kernel
theorem k141_112 : decode zm141.2.1 112 = .ok (.iload_n 3, 1) := by decide +kernel
theorem k141_113 : decode zm141.2.1 113 = .ok (.invokevirtual 117, 3) := by decide +kernel
theorem k141_116 : decode zm141.2.1 116 = .ok (.isub, 1) := by decide +kernel
theorem k141_117 : decode zm141.2.1 117 = .ok (.ireturn, 1) := by decide +kernel
theorem k141_15 : decode zm141.2.1 15 = .ok (.iconst 0, 1) := by decide +kernel
theorem k141_16 : decode zm141.2.1 16 = .ok (.istore 5, 2) := by decide +kernel
theorem k141_18 : decode zm141.2.1 18 = .ok (.iconst 0, 1) := by decide +kernel
theorem k141_19 : decode zm141.2.1 19 = .ok (.istore 6, 2) := by decide +kernel
theorem k141_21 : decode zm141.2.1 21 = .ok (.iconst 0, 1) := by decide +kernel
theorem k141_22 : decode zm141.2.1 22 = .ok (.istore 7, 2) := by decide +kernel
theorem k141_0 : decode zm141.2.1 0 = .ok (.iconst 1, 1) := by decide +kernel
theorem k141_1 : decode zm141.2.1 1 = .ok (.iload_n 2, 1) := by decide +kernel
theorem k141_2 : decode zm141.2.1 2 = .ok (.ishl, 1) := by decide +kernel
theorem k141_3 : decode zm141.2.1 3 = .ok (.iconst 1, 1) := by decide +kernel
theorem k141_4 : decode zm141.2.1 4 = .ok (.isub, 1) := by decide +kernel
theorem k141_5 : decode zm141.2.1 5 = .ok (.istore_n 3, 1) := by decide +kernel
theorem k141_6 : decode zm141.2.1 6 = .ok (.iconst 1, 1) := by decide +kernel
theorem k141_7 : decode zm141.2.1 7 = .ok (.istore 4, 2) := by decide +kernel
theorem fk_10_134 : zfx 10 134 = some (10, 25) := by decide +kernel
theorem lk_10_128 : zmx 10 128 = some (159, 1) := by decide +kernel
theorem k158_29 : decode zm158.2.1 29 = .ok (.aload_n 0, 1) := by decide +kernel
theorem k158_30 : decode zm158.2.1 30 = .ok (.iconst 0, 1) := by decide +kernel
theorem k158_31 : decode zm158.2.1 31 = .ok (.iconst 0, 1) := by decide +kernel
theorem k158_32 : decode zm158.2.1 32 = .ok (.bipush 20, 2) := by decide +kernel
theorem k158_34 : decode zm158.2.1 34 = .ok (.invokevirtual 128, 3) := by decide +kernel
theorem k158_37 : decode zm158.2.1 37 = .ok (.ireturn, 1) := by decide +kernel
theorem k158_0 : decode zm158.2.1 0 = .ok (.iload_n 1, 1) := by decide +kernel
theorem k158_1 : decode zm158.2.1 1 = .ok (.invokestatic 124, 3) := by decide +kernel
theorem k158_4 : decode zm158.2.1 4 = .ok (.ifCond .eq 12, 3) := by decide +kernel
theorem k158_16 : decode zm158.2.1 16 = .ok (.iload_n 1, 1) := by decide +kernel
theorem k158_17 : decode zm158.2.1 17 = .ok (.invokestatic 131, 3) := by decide +kernel
theorem k158_20 : decode zm158.2.1 20 = .ok (.ifCond .ne 9, 3) := by decide +kernel
theorem k158_23 : decode zm158.2.1 23 = .ok (.iload_n 1, 1) := by decide +kernel
theorem k158_24 : decode zm158.2.1 24 = .ok (.bipush 11, 2) := by decide +kernel
theorem k158_26 : decode zm158.2.1 26 = .ok (.if_icmp .ne 12, 3) := by decide +kernel
theorem k158_38 : decode zm158.2.1 38 = .ok (.iload_n 1, 1) := by decide +kernel
theorem k158_39 : decode zm158.2.1 39 = .ok (.bipush 6, 2) := by decide +kernel
theorem k158_41 : decode zm158.2.1 41 = .ok (.if_icmp .ne 39, 3) := by decide +kernel
theorem k158_80 : decode zm158.2.1 80 = .ok (.iconst 1, 1) := by decide +kernel
theorem k158_81 : decode zm158.2.1 81 = .ok (.goto 4, 3) := by decide +kernel
theorem k158_85 : decode zm158.2.1 85 = .ok (.ireturn, 1) := by decide +kernel
theorem k158_44 : decode zm158.2.1 44 = .ok (.aload_n 0, 1) := by decide +kernel
theorem k158_45 : decode zm158.2.1 45 = .ok (.iconst 0, 1) := by decide +kernel
theorem k158_46 : decode zm158.2.1 46 = .ok (.iconst 0, 1) := by decide +kernel
theorem k158_47 : decode zm158.2.1 47 = .ok (.aload_n 0, 1) := by decide +kernel
theorem k158_48 : decode zm158.2.1 48 = .ok (.getfield 134, 3) := by decide +kernel
theorem k158_51 : decode zm158.2.1 51 = .ok (.iconst 1, 1) := by decide +kernel
theorem k158_52 : decode zm158.2.1 52 = .ok (.isub, 1) := by decide +kernel
theorem k158_53 : decode zm158.2.1 53 = .ok (.invokevirtual 128, 3) := by decide +kernel
theorem k158_56 : decode zm158.2.1 56 = .ok (.ifCond .eq 28, 3) := by decide +kernel
theorem k158_84 : decode zm158.2.1 84 = .ok (.iconst 0, 1) := by decide +kernel
theorem k158_59 : decode zm158.2.1 59 = .ok (.aload_n 0, 1) := by decide +kernel
theorem k158_60 : decode zm158.2.1 60 = .ok (.iconst 1, 1) := by decide +kernel
theorem k158_61 : decode zm158.2.1 61 = .ok (.iconst 0, 1) := by decide +kernel
theorem k158_62 : decode zm158.2.1 62 = .ok (.iconst 4, 1) := by decide +kernel
theorem k158_63 : decode zm158.2.1 63 = .ok (.invokevirtual 128, 3) := by decide +kernel
theorem k158_66 : decode zm158.2.1 66 = .ok (.ifCond .eq 18, 3) := by decide +kernel
theorem k158_69 : decode zm158.2.1 69 = .ok (.aload_n 0, 1) := by decide +kernel
theorem k158_70 : decode zm158.2.1 70 = .ok (.iconst 2, 1) := by decide +kernel
theorem k158_71 : decode zm158.2.1 71 = .ok (.iconst 0, 1) := by decide +kernel
theorem k158_72 : decode zm158.2.1 72 = .ok (.bipush 99, 2) := by decide +kernel
theorem k158_74 : decode zm158.2.1 74 = .ok (.invokevirtual 128, 3) := by decide +kernel
theorem k158_77 : decode zm158.2.1 77 = .ok (.ifCond .eq 7, 3) := by decide +kernel
theorem k158_7 : decode zm158.2.1 7 = .ok (.aload_n 0, 1) := by decide +kernel
theorem k158_8 : decode zm158.2.1 8 = .ok (.iconst 0, 1) := by decide +kernel
theorem k158_9 : decode zm158.2.1 9 = .ok (.iconst 0, 1) := by decide +kernel
theorem k158_10 : decode zm158.2.1 10 = .ok (.bipush 30, 2) := by decide +kernel
theorem k158_12 : decode zm158.2.1 12 = .ok (.invokevirtual 128, 3) := by decide +kernel
theorem k158_15 : decode zm158.2.1 15 = .ok (.ireturn, 1) := by decide +kernel
theorem lk_10_216 : zmx 10 216 = some (176, 1) := by decide +kernel
theorem k174_108 : decode zm174.2.1 108 = .ok (.istore 4, 2) := by decide +kernel
theorem k174_110 : decode zm174.2.1 110 = .ok (.iinc 5 1, 3) := by decide +kernel
theorem k174_113 : decode zm174.2.1 113 = .ok (.goto (-100), 3) := by decide +kernel
theorem k174_107 : decode zm174.2.1 107 = .ok (.iconst 0, 1) := by decide +kernel
theorem k174_83 : decode zm174.2.1 83 = .ok (.istore 8, 2) := by decide +kernel
theorem k174_85 : decode zm174.2.1 85 = .ok (.iload_n 3, 1) := by decide +kernel
theorem k174_86 : decode zm174.2.1 86 = .ok (.iload 6, 2) := by decide +kernel
theorem k174_88 : decode zm174.2.1 88 = .ok (.iload 8, 2) := by decide +kernel
theorem k174_90 : decode zm174.2.1 90 = .ok (.isub, 1) := by decide +kernel
theorem k174_91 : decode zm174.2.1 91 = .ok (.iadd, 1) := by decide +kernel
theorem k174_92 : decode zm174.2.1 92 = .ok (.istore_n 3, 1) := by decide +kernel
theorem k174_93 : decode zm174.2.1 93 = .ok (.iload 4, 2) := by decide +kernel
theorem k174_95 : decode zm174.2.1 95 = .ok (.ifCond .eq 12, 3) := by decide +kernel
theorem k174_98 : decode zm174.2.1 98 = .ok (.iload 7, 2) := by decide +kernel
theorem k174_100 : decode zm174.2.1 100 = .ok (.ifCond .ne 7, 3) := by decide +kernel
theorem k174_103 : decode zm174.2.1 103 = .ok (.iconst 1, 1) := by decide +kernel
theorem k174_104 : decode zm174.2.1 104 = .ok (.goto 4, 3) := by decide +kernel
theorem k174_82 : decode zm174.2.1 82 = .ok (.iconst 1, 1) := by decide +kernel
theorem k174_63 : decode zm174.2.1 63 = .ok (.iconst 0, 1) := by decide +kernel
theorem k174_64 : decode zm174.2.1 64 = .ok (.goto 19, 3) := by decide +kernel
theorem k174_51 : decode zm174.2.1 51 = .ok (.istore 7, 2) := by decide +kernel
theorem k174_53 : decode zm174.2.1 53 = .ok (.iload 7, 2) := by decide +kernel
theorem k174_55 : decode zm174.2.1 55 = .ok (.ifCond .eq 8, 3) := by decide +kernel
theorem k174_58 : decode zm174.2.1 58 = .ok (.iload_n 1, 1) := by decide +kernel
theorem k174_59 : decode zm174.2.1 59 = .ok (.iconst 2, 1) := by decide +kernel
theorem k174_60 : decode zm174.2.1 60 = .ok (.if_icmp .ge 7, 3) := by decide +kernel
theorem k174_67 : decode zm174.2.1 67 = .ok (.iload_n 1, 1) := by decide +kernel
theorem k174_68 : decode zm174.2.1 68 = .ok (.iconst 3, 1) := by decide +kernel
theorem k174_69 : decode zm174.2.1 69 = .ok (.if_icmp .ne 13, 3) := by decide +kernel
theorem k174_72 : decode zm174.2.1 72 = .ok (.iload 4, 2) := by decide +kernel
theorem k174_74 : decode zm174.2.1 74 = .ok (.ifCond .eq 8, 3) := by decide +kernel
theorem k174_77 : decode zm174.2.1 77 = .ok (.iload 6, 2) := by decide +kernel
theorem k174_79 : decode zm174.2.1 79 = .ok (.goto 4, 3) := by decide +kernel
theorem k174_50 : decode zm174.2.1 50 = .ok (.iconst 0, 1) := by decide +kernel
theorem k174_13 : decode zm174.2.1 13 = .ok (.iload 5, 2) := by decide +kernel
theorem k174_15 : decode zm174.2.1 15 = .ok (.aload_n 0, 1) := by decide +kernel
theorem k174_16 : decode zm174.2.1 16 = .ok (.getfield 194, 3) := by decide +kernel
theorem k174_19 : decode zm174.2.1 19 = .ok (.if_icmp .ge 97, 3) := by decide +kernel
theorem k174_116 : decode zm174.2.1 116 = .ok (.iload_n 3, 1) := by decide +kernel
theorem k174_117 : decode zm174.2.1 117 = .ok (.ireturn, 1) := by decide +kernel
theorem k174_22 : decode zm174.2.1 22 = .ok (.aload_n 0, 1) := by decide +kernel
theorem k174_23 : decode zm174.2.1 23 = .ok (.iload 5, 2) := by decide +kernel
theorem k174_25 : decode zm174.2.1 25 = .ok (.invokevirtual 216, 3) := by decide +kernel
theorem k174_28 : decode zm174.2.1 28 = .ok (.istore 6, 2) := by decide +kernel
theorem k174_30 : decode zm174.2.1 30 = .ok (.aload_n 0, 1) := by decide +kernel
theorem k174_31 : decode zm174.2.1 31 = .ok (.getfield 54, 3) := by decide +kernel
theorem k174_34 : decode zm174.2.1 34 = .ok (.iload 5, 2) := by decide +kernel
theorem k174_36 : decode zm174.2.1 36 = .ok (.iaload, 1) := by decide +kernel
theorem k174_37 : decode zm174.2.1 37 = .ok (.iconst 2, 1) := by decide +kernel
theorem k174_38 : decode zm174.2.1 38 = .ok (.if_icmp .ne 12, 3) := by decide +kernel
theorem k174_41 : decode zm174.2.1 41 = .ok (.iload 6, 2) := by decide +kernel
theorem k174_43 : decode zm174.2.1 43 = .ok (.ifCond .le 7, 3) := by decide +kernel
theorem k174_46 : decode zm174.2.1 46 = .ok (.iconst 1, 1) := by decide +kernel
theorem k174_47 : decode zm174.2.1 47 = .ok (.goto 4, 3) := by decide +kernel
theorem k174_0 : decode zm174.2.1 0 = .ok (.aload_n 0, 1) := by decide +kernel
theorem k174_1 : decode zm174.2.1 1 = .ok (.iload_n 2, 1) := by decide +kernel
theorem k174_2 : decode zm174.2.1 2 = .ok (.invokevirtual 213, 3) := by decide +kernel
theorem k174_5 : decode zm174.2.1 5 = .ok (.iconst 0, 1) := by decide +kernel
theorem k174_6 : decode zm174.2.1 6 = .ok (.istore_n 3, 1) := by decide +kernel
theorem k174_7 : decode zm174.2.1 7 = .ok (.iconst 1, 1) := by decide +kernel
theorem k174_8 : decode zm174.2.1 8 = .ok (.istore 4, 2) := by decide +kernel
theorem k174_10 : decode zm174.2.1 10 = .ok (.iconst 0, 1) := by decide +kernel
theorem k174_11 : decode zm174.2.1 11 = .ok (.istore 5, 2) := by decide +kernel
theorem lk_10_241 : zmx 10 241 = some (185, 1) := by decide +kernel
theorem k184_0 : decode zm184.2.1 0 = .ok (.aload_n 0, 1) := by decide +kernel
theorem k184_1 : decode zm184.2.1 1 = .ok (.invokevirtual 236, 3) := by decide +kernel
theorem k184_4 : decode zm184.2.1 4 = .ok (.aload_n 0, 1) := by decide +kernel
theorem k184_5 : decode zm184.2.1 5 = .ok (.invokevirtual 241, 3) := by decide +kernel
theorem k184_8 : decode zm184.2.1 8 = .ok (.ifCond .eq 7, 3) := by decide +kernel
theorem k184_15 : decode zm184.2.1 15 = .ok (.iconst 0, 1) := by decide +kernel
theorem k184_16 : decode zm184.2.1 16 = .ok (.ireturn, 1) := by decide +kernel
theorem k184_11 : decode zm184.2.1 11 = .ok (.iconst 1, 1) := by decide +kernel
theorem k184_12 : decode zm184.2.1 12 = .ok (.goto 4, 3) := by decide +kernel
theorem lk_10_256 : zmx 10 256 = some (194, 1) := by decide +kernel
theorem cl_10_259 : zlx 10 259 = some 60 := by decide +kernel
theorem cl_10_261 : zlx 10 261 = some 99 := by decide +kernel
theorem k193_0 : decode zm193.2.1 0 = .ok (.aload_n 0, 1) := by decide +kernel
theorem k193_1 : decode zm193.2.1 1 = .ok (.iload_n 1, 1) := by decide +kernel
theorem k193_2 : decode zm193.2.1 2 = .ok (.iload_n 2, 1) := by decide +kernel
theorem k193_3 : decode zm193.2.1 3 = .ok (.invokevirtual 256, 3) := by decide +kernel
theorem k193_6 : decode zm193.2.1 6 = .ok (.ifCond .ne 6, 3) := by decide +kernel
theorem k193_12 : decode zm193.2.1 12 = .ok (.iload_n 3, 1) := by decide +kernel
theorem k193_13 : decode zm193.2.1 13 = .ok (.i2l, 1) := by decide +kernel
theorem k193_14 : decode zm193.2.1 14 = .ok (.lconst 1, 1) := by decide +kernel
theorem k193_15 : decode zm193.2.1 15 = .ok (.ldc2_w 259, 3) := by decide +kernel
theorem k193_18 : decode zm193.2.1 18 = .ok (.invokestatic 65, 3) := by decide +kernel
theorem k193_21 : decode zm193.2.1 21 = .ok (.ifCond .eq 16, 3) := by decide +kernel
theorem k193_37 : decode zm193.2.1 37 = .ok (.bipush (-3), 2) := by decide +kernel
theorem k193_39 : decode zm193.2.1 39 = .ok (.ireturn, 1) := by decide +kernel
theorem k193_24 : decode zm193.2.1 24 = .ok (.iload 4, 2) := by decide +kernel
theorem k193_26 : decode zm193.2.1 26 = .ok (.i2l, 1) := by decide +kernel
theorem k193_27 : decode zm193.2.1 27 = .ok (.lconst 0, 1) := by decide +kernel
theorem k193_28 : decode zm193.2.1 28 = .ok (.ldc2_w 261, 3) := by decide +kernel
theorem k193_31 : decode zm193.2.1 31 = .ok (.invokestatic 65, 3) := by decide +kernel
theorem k193_34 : decode zm193.2.1 34 = .ok (.ifCond .ne 6, 3) := by decide +kernel
theorem k193_40 : decode zm193.2.1 40 = .ok (.aload_n 0, 1) := by decide +kernel
theorem k193_41 : decode zm193.2.1 41 = .ok (.getfield 7, 3) := by decide +kernel
theorem k193_44 : decode zm193.2.1 44 = .ok (.iconst 1, 1) := by decide +kernel
theorem k193_45 : decode zm193.2.1 45 = .ok (.iload_n 1, 1) := by decide +kernel
theorem k193_46 : decode zm193.2.1 46 = .ok (.iadd, 1) := by decide +kernel
theorem k193_47 : decode zm193.2.1 47 = .ok (.iaload, 1) := by decide +kernel
theorem k193_48 : decode zm193.2.1 48 = .ok (.iload_n 3, 1) := by decide +kernel
theorem k193_49 : decode zm193.2.1 49 = .ok (.if_icmp .lt 16, 3) := by decide +kernel
theorem k193_65 : decode zm193.2.1 65 = .ok (.bipush (-4), 2) := by decide +kernel
theorem k193_67 : decode zm193.2.1 67 = .ok (.ireturn, 1) := by decide +kernel
theorem k193_52 : decode zm193.2.1 52 = .ok (.aload_n 0, 1) := by decide +kernel
theorem k193_53 : decode zm193.2.1 53 = .ok (.getfield 7, 3) := by decide +kernel
theorem k193_56 : decode zm193.2.1 56 = .ok (.iconst 5, 1) := by decide +kernel
theorem k193_57 : decode zm193.2.1 57 = .ok (.iload_n 2, 1) := by decide +kernel
theorem k193_58 : decode zm193.2.1 58 = .ok (.iadd, 1) := by decide +kernel
theorem k193_59 : decode zm193.2.1 59 = .ok (.iaload, 1) := by decide +kernel
theorem k193_60 : decode zm193.2.1 60 = .ok (.iload 4, 2) := by decide +kernel
theorem k193_62 : decode zm193.2.1 62 = .ok (.if_icmp .ge 6, 3) := by decide +kernel
theorem k193_68 : decode zm193.2.1 68 = .ok (.aload_n 0, 1) := by decide +kernel
theorem k193_69 : decode zm193.2.1 69 = .ok (.getfield 7, 3) := by decide +kernel
theorem k193_72 : decode zm193.2.1 72 = .ok (.iconst 1, 1) := by decide +kernel
theorem k193_73 : decode zm193.2.1 73 = .ok (.iload_n 2, 1) := by decide +kernel
theorem k193_74 : decode zm193.2.1 74 = .ok (.iadd, 1) := by decide +kernel
theorem k193_75 : decode zm193.2.1 75 = .ok (.iaload, 1) := by decide +kernel
theorem k193_76 : decode zm193.2.1 76 = .ok (.iload_n 3, 1) := by decide +kernel
theorem k193_77 : decode zm193.2.1 77 = .ok (.iadd, 1) := by decide +kernel
theorem k193_78 : decode zm193.2.1 78 = .ok (.bipush 60, 2) := by decide +kernel
theorem k193_80 : decode zm193.2.1 80 = .ok (.if_icmp .le 6, 3) := by decide +kernel
theorem k193_86 : decode zm193.2.1 86 = .ok (.aload_n 0, 1) := by decide +kernel
theorem k193_87 : decode zm193.2.1 87 = .ok (.invokevirtual 247, 3) := by decide +kernel
theorem k193_90 : decode zm193.2.1 90 = .ok (.aload_n 0, 1) := by decide +kernel
theorem k193_91 : decode zm193.2.1 91 = .ok (.getfield 7, 3) := by decide +kernel
theorem k193_94 : decode zm193.2.1 94 = .ok (.iconst 1, 1) := by decide +kernel
theorem k193_95 : decode zm193.2.1 95 = .ok (.iload_n 1, 1) := by decide +kernel
theorem k193_96 : decode zm193.2.1 96 = .ok (.iadd, 1) := by decide +kernel
theorem k193_97 : decode zm193.2.1 97 = .ok (.dup2, 1) := by decide +kernel
theorem k193_98 : decode zm193.2.1 98 = .ok (.iaload, 1) := by decide +kernel
theorem k193_99 : decode zm193.2.1 99 = .ok (.iload_n 3, 1) := by decide +kernel
theorem k193_100 : decode zm193.2.1 100 = .ok (.isub, 1) := by decide +kernel
theorem k193_101 : decode zm193.2.1 101 = .ok (.iastore, 1) := by decide +kernel
theorem k193_102 : decode zm193.2.1 102 = .ok (.aload_n 0, 1) := by decide +kernel
theorem k193_103 : decode zm193.2.1 103 = .ok (.getfield 7, 3) := by decide +kernel
theorem k193_106 : decode zm193.2.1 106 = .ok (.iconst 1, 1) := by decide +kernel
theorem k193_107 : decode zm193.2.1 107 = .ok (.iload_n 2, 1) := by decide +kernel
theorem k193_108 : decode zm193.2.1 108 = .ok (.iadd, 1) := by decide +kernel
theorem k193_109 : decode zm193.2.1 109 = .ok (.dup2, 1) := by decide +kernel
theorem k193_110 : decode zm193.2.1 110 = .ok (.iaload, 1) := by decide +kernel
theorem k193_111 : decode zm193.2.1 111 = .ok (.iload_n 3, 1) := by decide +kernel
theorem k193_112 : decode zm193.2.1 112 = .ok (.iadd, 1) := by decide +kernel
theorem k193_113 : decode zm193.2.1 113 = .ok (.iastore, 1) := by decide +kernel
theorem k193_114 : decode zm193.2.1 114 = .ok (.aload_n 0, 1) := by decide +kernel
theorem k193_115 : decode zm193.2.1 115 = .ok (.getfield 7, 3) := by decide +kernel
theorem k193_118 : decode zm193.2.1 118 = .ok (.iconst 5, 1) := by decide +kernel
theorem k193_119 : decode zm193.2.1 119 = .ok (.iload_n 1, 1) := by decide +kernel
theorem k193_120 : decode zm193.2.1 120 = .ok (.iadd, 1) := by decide +kernel
theorem k193_121 : decode zm193.2.1 121 = .ok (.dup2, 1) := by decide +kernel
theorem k193_122 : decode zm193.2.1 122 = .ok (.iaload, 1) := by decide +kernel
theorem k193_123 : decode zm193.2.1 123 = .ok (.iload 4, 2) := by decide +kernel
theorem k193_125 : decode zm193.2.1 125 = .ok (.iadd, 1) := by decide +kernel
theorem k193_126 : decode zm193.2.1 126 = .ok (.iastore, 1) := by decide +kernel
theorem k193_127 : decode zm193.2.1 127 = .ok (.aload_n 0, 1) := by decide +kernel
theorem k193_128 : decode zm193.2.1 128 = .ok (.getfield 7, 3) := by decide +kernel
theorem k193_131 : decode zm193.2.1 131 = .ok (.iconst 5, 1) := by decide +kernel
theorem k193_132 : decode zm193.2.1 132 = .ok (.iload_n 2, 1) := by decide +kernel
theorem k193_133 : decode zm193.2.1 133 = .ok (.iadd, 1) := by decide +kernel
theorem k193_134 : decode zm193.2.1 134 = .ok (.dup2, 1) := by decide +kernel
theorem k193_135 : decode zm193.2.1 135 = .ok (.iaload, 1) := by decide +kernel
theorem k193_136 : decode zm193.2.1 136 = .ok (.iload 4, 2) := by decide +kernel
theorem k193_138 : decode zm193.2.1 138 = .ok (.isub, 1) := by decide +kernel
theorem k193_139 : decode zm193.2.1 139 = .ok (.iastore, 1) := by decide +kernel
theorem k193_140 : decode zm193.2.1 140 = .ok (.aload_n 0, 1) := by decide +kernel
theorem k193_141 : decode zm193.2.1 141 = .ok (.getfield 7, 3) := by decide +kernel
theorem k193_144 : decode zm193.2.1 144 = .ok (.iconst 1, 1) := by decide +kernel
theorem k193_145 : decode zm193.2.1 145 = .ok (.iload_n 2, 1) := by decide +kernel
theorem k193_146 : decode zm193.2.1 146 = .ok (.iadd, 1) := by decide +kernel
theorem k193_147 : decode zm193.2.1 147 = .ok (.iaload, 1) := by decide +kernel
theorem k193_148 : decode zm193.2.1 148 = .ok (.ireturn, 1) := by decide +kernel
theorem k193_83 : decode zm193.2.1 83 = .ok (.bipush (-5), 2) := by decide +kernel
theorem k193_85 : decode zm193.2.1 85 = .ok (.ireturn, 1) := by decide +kernel
theorem k193_9 : decode zm193.2.1 9 = .ok (.bipush (-2), 2) := by decide +kernel
theorem k193_11 : decode zm193.2.1 11 = .ok (.ireturn, 1) := by decide +kernel
theorem k195_0 : decode zm195.2.1 0 = .ok (.aload_n 0, 1) := by decide +kernel
theorem k195_1 : decode zm195.2.1 1 = .ok (.iload_n 1, 1) := by decide +kernel
theorem k195_2 : decode zm195.2.1 2 = .ok (.iload_n 2, 1) := by decide +kernel
theorem k195_3 : decode zm195.2.1 3 = .ok (.invokevirtual 256, 3) := by decide +kernel
theorem k195_6 : decode zm195.2.1 6 = .ok (.ifCond .ne 6, 3) := by decide +kernel
theorem k195_12 : decode zm195.2.1 12 = .ok (.iload_n 3, 1) := by decide +kernel
theorem k195_13 : decode zm195.2.1 13 = .ok (.i2l, 1) := by decide +kernel
theorem k195_14 : decode zm195.2.1 14 = .ok (.lconst 1, 1) := by decide +kernel
theorem k195_15 : decode zm195.2.1 15 = .ok (.ldc2_w 261, 3) := by decide +kernel
theorem k195_18 : decode zm195.2.1 18 = .ok (.invokestatic 65, 3) := by decide +kernel
theorem k195_21 : decode zm195.2.1 21 = .ok (.ifCond .ne 6, 3) := by decide +kernel
theorem k195_27 : decode zm195.2.1 27 = .ok (.aload_n 0, 1) := by decide +kernel
theorem k195_28 : decode zm195.2.1 28 = .ok (.getfield 7, 3) := by decide +kernel
theorem k195_31 : decode zm195.2.1 31 = .ok (.bipush 57, 2) := by decide +kernel
theorem k195_33 : decode zm195.2.1 33 = .ok (.iconst 4, 1) := by decide +kernel
theorem k195_34 : decode zm195.2.1 34 = .ok (.iload_n 1, 1) := by decide +kernel
theorem k195_35 : decode zm195.2.1 35 = .ok (.imul, 1) := by decide +kernel
theorem k195_36 : decode zm195.2.1 36 = .ok (.iadd, 1) := by decide +kernel
theorem k195_37 : decode zm195.2.1 37 = .ok (.iload_n 2, 1) := by decide +kernel
theorem k195_38 : decode zm195.2.1 38 = .ok (.iadd, 1) := by decide +kernel
theorem k195_39 : decode zm195.2.1 39 = .ok (.iaload, 1) := by decide +kernel
theorem k195_40 : decode zm195.2.1 40 = .ok (.iload_n 3, 1) := by decide +kernel
theorem k195_41 : decode zm195.2.1 41 = .ok (.iadd, 1) := by decide +kernel
theorem k195_42 : decode zm195.2.1 42 = .ok (.sipush 999, 3) := by decide +kernel
theorem k195_45 : decode zm195.2.1 45 = .ok (.if_icmp .le 6, 3) := by decide +kernel
theorem k195_51 : decode zm195.2.1 51 = .ok (.aload_n 0, 1) := by decide +kernel
theorem k195_52 : decode zm195.2.1 52 = .ok (.invokevirtual 247, 3) := by decide +kernel
theorem k195_55 : decode zm195.2.1 55 = .ok (.aload_n 0, 1) := by decide +kernel
theorem k195_56 : decode zm195.2.1 56 = .ok (.getfield 7, 3) := by decide +kernel
theorem k195_59 : decode zm195.2.1 59 = .ok (.bipush 57, 2) := by decide +kernel
theorem k195_61 : decode zm195.2.1 61 = .ok (.iconst 4, 1) := by decide +kernel
theorem k195_62 : decode zm195.2.1 62 = .ok (.iload_n 1, 1) := by decide +kernel
theorem k195_63 : decode zm195.2.1 63 = .ok (.imul, 1) := by decide +kernel
theorem k195_64 : decode zm195.2.1 64 = .ok (.iadd, 1) := by decide +kernel
theorem k195_65 : decode zm195.2.1 65 = .ok (.iload_n 2, 1) := by decide +kernel
theorem k195_66 : decode zm195.2.1 66 = .ok (.iadd, 1) := by decide +kernel
theorem k195_67 : decode zm195.2.1 67 = .ok (.dup2, 1) := by decide +kernel
theorem k195_68 : decode zm195.2.1 68 = .ok (.iaload, 1) := by decide +kernel
theorem k195_69 : decode zm195.2.1 69 = .ok (.iload_n 3, 1) := by decide +kernel
theorem k195_70 : decode zm195.2.1 70 = .ok (.iadd, 1) := by decide +kernel
theorem k195_71 : decode zm195.2.1 71 = .ok (.iastore, 1) := by decide +kernel
theorem k195_72 : decode zm195.2.1 72 = .ok (.aload_n 0, 1) := by decide +kernel
theorem k195_73 : decode zm195.2.1 73 = .ok (.getfield 7, 3) := by decide +kernel
theorem k195_76 : decode zm195.2.1 76 = .ok (.bipush 57, 2) := by decide +kernel
theorem k195_78 : decode zm195.2.1 78 = .ok (.iconst 4, 1) := by decide +kernel
theorem k195_79 : decode zm195.2.1 79 = .ok (.iload_n 1, 1) := by decide +kernel
theorem k195_80 : decode zm195.2.1 80 = .ok (.imul, 1) := by decide +kernel
theorem k195_81 : decode zm195.2.1 81 = .ok (.iadd, 1) := by decide +kernel
theorem k195_82 : decode zm195.2.1 82 = .ok (.iload_n 2, 1) := by decide +kernel
theorem k195_83 : decode zm195.2.1 83 = .ok (.iadd, 1) := by decide +kernel
theorem k195_84 : decode zm195.2.1 84 = .ok (.iaload, 1) := by decide +kernel
theorem k195_85 : decode zm195.2.1 85 = .ok (.ireturn, 1) := by decide +kernel
theorem k195_48 : decode zm195.2.1 48 = .ok (.bipush (-5), 2) := by decide +kernel
theorem k195_50 : decode zm195.2.1 50 = .ok (.ireturn, 1) := by decide +kernel
theorem k195_24 : decode zm195.2.1 24 = .ok (.bipush (-3), 2) := by decide +kernel
theorem k195_26 : decode zm195.2.1 26 = .ok (.ireturn, 1) := by decide +kernel
theorem k195_9 : decode zm195.2.1 9 = .ok (.bipush (-2), 2) := by decide +kernel
theorem k195_11 : decode zm195.2.1 11 = .ok (.ireturn, 1) := by decide +kernel
theorem k196_0 : decode zm196.2.1 0 = .ok (.aload_n 0, 1) := by decide +kernel
theorem k196_1 : decode zm196.2.1 1 = .ok (.iload_n 1, 1) := by decide +kernel
theorem k196_2 : decode zm196.2.1 2 = .ok (.iload_n 2, 1) := by decide +kernel
theorem k196_3 : decode zm196.2.1 3 = .ok (.invokevirtual 256, 3) := by decide +kernel
theorem k196_6 : decode zm196.2.1 6 = .ok (.ifCond .eq 19, 3) := by decide +kernel
theorem k196_25 : decode zm196.2.1 25 = .ok (.bipush (-2), 2) := by decide +kernel
theorem k196_27 : decode zm196.2.1 27 = .ok (.ireturn, 1) := by decide +kernel
theorem k196_9 : decode zm196.2.1 9 = .ok (.aload_n 0, 1) := by decide +kernel
theorem k196_10 : decode zm196.2.1 10 = .ok (.getfield 7, 3) := by decide +kernel
theorem k196_13 : decode zm196.2.1 13 = .ok (.bipush 57, 2) := by decide +kernel
theorem k196_15 : decode zm196.2.1 15 = .ok (.iconst 4, 1) := by decide +kernel
theorem k196_16 : decode zm196.2.1 16 = .ok (.iload_n 1, 1) := by decide +kernel
theorem k196_17 : decode zm196.2.1 17 = .ok (.imul, 1) := by decide +kernel
theorem k196_18 : decode zm196.2.1 18 = .ok (.iadd, 1) := by decide +kernel
theorem k196_19 : decode zm196.2.1 19 = .ok (.iload_n 2, 1) := by decide +kernel
theorem k196_20 : decode zm196.2.1 20 = .ok (.iadd, 1) := by decide +kernel
theorem k196_21 : decode zm196.2.1 21 = .ok (.iaload, 1) := by decide +kernel
theorem k196_22 : decode zm196.2.1 22 = .ok (.goto 5, 3) := by decide +kernel
theorem cl_10_311 : zlx 10 311 = some 2 := by decide +kernel
theorem k225_162 : decode zm225.2.1 162 = .ok (.iadd, 1) := by decide +kernel
theorem k225_163 : decode zm225.2.1 163 = .ok (.istore_n 2, 1) := by decide +kernel
theorem k225_164 : decode zm225.2.1 164 = .ok (.iinc 4 1, 3) := by decide +kernel
theorem k225_167 : decode zm225.2.1 167 = .ok (.goto (-145), 3) := by decide +kernel
theorem k225_150 : decode zm225.2.1 150 = .ok (.istore_n 3, 1) := by decide +kernel
theorem k225_151 : decode zm225.2.1 151 = .ok (.iload_n 2, 1) := by decide +kernel
theorem k225_152 : decode zm225.2.1 152 = .ok (.iload 9, 2) := by decide +kernel
theorem k225_154 : decode zm225.2.1 154 = .ok (.ifCond .eq 7, 3) := by decide +kernel
theorem k225_161 : decode zm225.2.1 161 = .ok (.iconst 0, 1) := by decide +kernel
theorem k225_157 : decode zm225.2.1 157 = .ok (.iconst 1, 1) := by decide +kernel
theorem k225_158 : decode zm225.2.1 158 = .ok (.goto 4, 3) := by decide +kernel
theorem k225_149 : decode zm225.2.1 149 = .ok (.iload_n 3, 1) := by decide +kernel
theorem k225_133 : decode zm225.2.1 133 = .ok (.istore 9, 2) := by decide +kernel
theorem k225_135 : decode zm225.2.1 135 = .ok (.iload 9, 2) := by decide +kernel
theorem k225_137 : decode zm225.2.1 137 = .ok (.ifCond .eq 12, 3) := by decide +kernel
theorem k225_140 : decode zm225.2.1 140 = .ok (.iload_n 2, 1) := by decide +kernel
theorem k225_141 : decode zm225.2.1 141 = .ok (.ifCond .ne 8, 3) := by decide +kernel
theorem k225_144 : decode zm225.2.1 144 = .ok (.iload 4, 2) := by decide +kernel
theorem k225_146 : decode zm225.2.1 146 = .ok (.goto 4, 3) := by decide +kernel
theorem k225_132 : decode zm225.2.1 132 = .ok (.iconst 0, 1) := by decide +kernel
theorem k225_69 : decode zm225.2.1 69 = .ok (.istore 8, 2) := by decide +kernel
theorem k225_71 : decode zm225.2.1 71 = .ok (.iload 7, 2) := by decide +kernel
theorem k225_73 : decode zm225.2.1 73 = .ok (.ifCond .eq 59, 3) := by decide +kernel
theorem k225_76 : decode zm225.2.1 76 = .ok (.aload_n 0, 1) := by decide +kernel
theorem k225_77 : decode zm225.2.1 77 = .ok (.getfield 7, 3) := by decide +kernel
theorem k225_80 : decode zm225.2.1 80 = .ok (.iconst 1, 1) := by decide +kernel
theorem k225_81 : decode zm225.2.1 81 = .ok (.iload 5, 2) := by decide +kernel
theorem k225_83 : decode zm225.2.1 83 = .ok (.iadd, 1) := by decide +kernel
theorem k225_84 : decode zm225.2.1 84 = .ok (.iaload, 1) := by decide +kernel
theorem k225_85 : decode zm225.2.1 85 = .ok (.ifCond .le 47, 3) := by decide +kernel
theorem k225_88 : decode zm225.2.1 88 = .ok (.aload_n 0, 1) := by decide +kernel
theorem k225_89 : decode zm225.2.1 89 = .ok (.getfield 7, 3) := by decide +kernel
theorem k225_92 : decode zm225.2.1 92 = .ok (.iconst 1, 1) := by decide +kernel
theorem k225_93 : decode zm225.2.1 93 = .ok (.iload 6, 2) := by decide +kernel
theorem k225_95 : decode zm225.2.1 95 = .ok (.iadd, 1) := by decide +kernel
theorem k225_96 : decode zm225.2.1 96 = .ok (.iaload, 1) := by decide +kernel
theorem k225_97 : decode zm225.2.1 97 = .ok (.bipush 60, 2) := by decide +kernel
theorem k225_99 : decode zm225.2.1 99 = .ok (.if_icmp .ge 33, 3) := by decide +kernel
theorem k225_102 : decode zm225.2.1 102 = .ok (.aload_n 0, 1) := by decide +kernel
theorem k225_103 : decode zm225.2.1 103 = .ok (.getfield 7, 3) := by decide +kernel
theorem k225_106 : decode zm225.2.1 106 = .ok (.iconst 5, 1) := by decide +kernel
theorem k225_107 : decode zm225.2.1 107 = .ok (.iload 6, 2) := by decide +kernel
theorem k225_109 : decode zm225.2.1 109 = .ok (.iadd, 1) := by decide +kernel
theorem k225_110 : decode zm225.2.1 110 = .ok (.iaload, 1) := by decide +kernel
theorem k225_111 : decode zm225.2.1 111 = .ok (.iload 8, 2) := by decide +kernel
theorem k225_113 : decode zm225.2.1 113 = .ok (.if_icmp .lt 19, 3) := by decide +kernel
theorem k225_116 : decode zm225.2.1 116 = .ok (.aload_n 0, 1) := by decide +kernel
theorem k225_117 : decode zm225.2.1 117 = .ok (.getfield 35, 3) := by decide +kernel
theorem k225_120 : decode zm225.2.1 120 = .ok (.iload 6, 2) := by decide +kernel
theorem k225_122 : decode zm225.2.1 122 = .ok (.iaload, 1) := by decide +kernel
theorem k225_123 : decode zm225.2.1 123 = .ok (.iload 8, 2) := by decide +kernel
theorem k225_125 : decode zm225.2.1 125 = .ok (.if_icmp .le 7, 3) := by decide +kernel
theorem k225_128 : decode zm225.2.1 128 = .ok (.iconst 1, 1) := by decide +kernel
theorem k225_129 : decode zm225.2.1 129 = .ok (.goto 4, 3) := by decide +kernel
theorem k225_22 : decode zm225.2.1 22 = .ok (.iload 4, 2) := by decide +kernel
theorem k225_24 : decode zm225.2.1 24 = .ok (.bipush 16, 2) := by decide +kernel
theorem k225_26 : decode zm225.2.1 26 = .ok (.if_icmp .ge 144, 3) := by decide +kernel
theorem k225_170 : decode zm225.2.1 170 = .ok (.iload_n 1, 1) := by decide +kernel
theorem k225_171 : decode zm225.2.1 171 = .ok (.ifCond .ne 7, 3) := by decide +kernel
theorem k225_178 : decode zm225.2.1 178 = .ok (.iload_n 3, 1) := by decide +kernel
theorem k225_179 : decode zm225.2.1 179 = .ok (.iconst (-1), 1) := by decide +kernel
theorem k225_180 : decode zm225.2.1 180 = .ok (.if_icmp .ne 7, 3) := by decide +kernel
theorem k225_187 : decode zm225.2.1 187 = .ok (.iload_n 1, 1) := by decide +kernel
theorem k225_188 : decode zm225.2.1 188 = .ok (.iconst 1, 1) := by decide +kernel
theorem k225_189 : decode zm225.2.1 189 = .ok (.if_icmp .ne 9, 3) := by decide +kernel
theorem k225_198 : decode zm225.2.1 198 = .ok (.iload_n 3, 1) := by decide +kernel
theorem k225_199 : decode zm225.2.1 199 = .ok (.iconst 4, 1) := by decide +kernel
theorem k225_200 : decode zm225.2.1 200 = .ok (.irem, 1) := by decide +kernel
theorem k225_201 : decode zm225.2.1 201 = .ok (.ireturn, 1) := by decide +kernel
theorem k225_192 : decode zm225.2.1 192 = .ok (.iload_n 3, 1) := by decide +kernel
theorem k225_193 : decode zm225.2.1 193 = .ok (.iconst 4, 1) := by decide +kernel
theorem k225_194 : decode zm225.2.1 194 = .ok (.idiv, 1) := by decide +kernel
theorem k225_195 : decode zm225.2.1 195 = .ok (.goto 6, 3) := by decide +kernel
theorem k225_183 : decode zm225.2.1 183 = .ok (.iconst (-1), 1) := by decide +kernel
theorem k225_184 : decode zm225.2.1 184 = .ok (.goto 17, 3) := by decide +kernel
theorem k225_174 : decode zm225.2.1 174 = .ok (.iload_n 2, 1) := by decide +kernel
theorem k225_175 : decode zm225.2.1 175 = .ok (.goto 26, 3) := by decide +kernel
theorem k225_29 : decode zm225.2.1 29 = .ok (.iload 4, 2) := by decide +kernel
theorem k225_31 : decode zm225.2.1 31 = .ok (.iconst 4, 1) := by decide +kernel
theorem k225_32 : decode zm225.2.1 32 = .ok (.idiv, 1) := by decide +kernel
theorem k225_33 : decode zm225.2.1 33 = .ok (.istore 5, 2) := by decide +kernel
theorem k225_35 : decode zm225.2.1 35 = .ok (.iload 4, 2) := by decide +kernel
theorem k225_37 : decode zm225.2.1 37 = .ok (.iconst 4, 1) := by decide +kernel
theorem k225_38 : decode zm225.2.1 38 = .ok (.irem, 1) := by decide +kernel
theorem k225_39 : decode zm225.2.1 39 = .ok (.istore 6, 2) := by decide +kernel
theorem k225_41 : decode zm225.2.1 41 = .ok (.aload_n 0, 1) := by decide +kernel
theorem k225_42 : decode zm225.2.1 42 = .ok (.iload 5, 2) := by decide +kernel
theorem k225_44 : decode zm225.2.1 44 = .ok (.iload 6, 2) := by decide +kernel
theorem k225_46 : decode zm225.2.1 46 = .ok (.invokevirtual 256, 3) := by decide +kernel
theorem k225_49 : decode zm225.2.1 49 = .ok (.istore 7, 2) := by decide +kernel
theorem k225_51 : decode zm225.2.1 51 = .ok (.iload 7, 2) := by decide +kernel
theorem k225_53 : decode zm225.2.1 53 = .ok (.ifCond .eq 15, 3) := by decide +kernel
theorem k225_68 : decode zm225.2.1 68 = .ok (.iconst 0, 1) := by decide +kernel
theorem k225_56 : decode zm225.2.1 56 = .ok (.aload_n 0, 1) := by decide +kernel
theorem k225_57 : decode zm225.2.1 57 = .ok (.getfield 35, 3) := by decide +kernel
theorem k225_60 : decode zm225.2.1 60 = .ok (.iload 5, 2) := by decide +kernel
theorem k225_62 : decode zm225.2.1 62 = .ok (.iaload, 1) := by decide +kernel
theorem k225_63 : decode zm225.2.1 63 = .ok (.iconst 1, 1) := by decide +kernel
theorem k225_64 : decode zm225.2.1 64 = .ok (.iadd, 1) := by decide +kernel
theorem k225_65 : decode zm225.2.1 65 = .ok (.goto 4, 3) := by decide +kernel
theorem k225_0 : decode zm225.2.1 0 = .ok (.iload_n 1, 1) := by decide +kernel
theorem k225_1 : decode zm225.2.1 1 = .ok (.i2l, 1) := by decide +kernel
theorem k225_2 : decode zm225.2.1 2 = .ok (.lconst 0, 1) := by decide +kernel
theorem k225_3 : decode zm225.2.1 3 = .ok (.ldc2_w 311, 3) := by decide +kernel
theorem k225_6 : decode zm225.2.1 6 = .ok (.invokestatic 65, 3) := by decide +kernel
theorem k225_9 : decode zm225.2.1 9 = .ok (.ifCond .ne 6, 3) := by decide +kernel
theorem k225_15 : decode zm225.2.1 15 = .ok (.iconst 0, 1) := by decide +kernel
theorem k225_16 : decode zm225.2.1 16 = .ok (.istore_n 2, 1) := by decide +kernel
theorem k225_17 : decode zm225.2.1 17 = .ok (.iconst (-1), 1) := by decide +kernel
theorem k225_18 : decode zm225.2.1 18 = .ok (.istore_n 3, 1) := by decide +kernel
theorem k225_19 : decode zm225.2.1 19 = .ok (.iconst 0, 1) := by decide +kernel
theorem k225_20 : decode zm225.2.1 20 = .ok (.istore 4, 2) := by decide +kernel
theorem k225_12 : decode zm225.2.1 12 = .ok (.bipush (-3), 2) := by decide +kernel
theorem k225_14 : decode zm225.2.1 14 = .ok (.ireturn, 1) := by decide +kernel
theorem fk_0_50 : zfx 0 50 = some (0, 6) := by decide +kernel
theorem lk_0_167 : zmx 0 167 = some (59, 1) := by decide +kernel
theorem lk_0_268 : zmx 0 268 = some (60, 1) := by decide +kernel
theorem k58_0 : decode zm58.2.1 0 = .ok (.aload_n 0, 1) := by decide +kernel
theorem k58_1 : decode zm58.2.1 1 = .ok (.getfield 50, 3) := by decide +kernel
theorem k58_4 : decode zm58.2.1 4 = .ok (.aload_n 0, 1) := by decide +kernel
theorem k58_5 : decode zm58.2.1 5 = .ok (.getfield 19, 3) := by decide +kernel
theorem k58_8 : decode zm58.2.1 8 = .ok (.iload_n 2, 1) := by decide +kernel
theorem k58_9 : decode zm58.2.1 9 = .ok (.invokevirtual 167, 3) := by decide +kernel
theorem k58_12 : decode zm58.2.1 12 = .ok (.aload_n 0, 1) := by decide +kernel
theorem k58_13 : decode zm58.2.1 13 = .ok (.getfield 50, 3) := by decide +kernel
theorem k58_16 : decode zm58.2.1 16 = .ok (.aload_n 0, 1) := by decide +kernel
theorem k58_17 : decode zm58.2.1 17 = .ok (.getfield 43, 3) := by decide +kernel
theorem k58_20 : decode zm58.2.1 20 = .ok (.aload_n 0, 1) := by decide +kernel
theorem k58_21 : decode zm58.2.1 21 = .ok (.getfield 19, 3) := by decide +kernel
theorem k58_24 : decode zm58.2.1 24 = .ok (.iload_n 1, 1) := by decide +kernel
theorem k58_25 : decode zm58.2.1 25 = .ok (.invokevirtual 137, 3) := by decide +kernel
theorem k58_28 : decode zm58.2.1 28 = .ok (.invokevirtual 268, 3) := by decide +kernel
theorem k58_31 : decode zm58.2.1 31 = .ok (.ireturn, 1) := by decide +kernel
theorem lk_0_171 : zmx 0 171 = some (74, 1) := by decide +kernel
theorem k73_0 : decode zm73.2.1 0 = .ok (.aload_n 0, 1) := by decide +kernel
theorem k73_1 : decode zm73.2.1 1 = .ok (.getfield 50, 3) := by decide +kernel
theorem k73_4 : decode zm73.2.1 4 = .ok (.aload_n 0, 1) := by decide +kernel
theorem k73_5 : decode zm73.2.1 5 = .ok (.getfield 19, 3) := by decide +kernel
theorem k73_8 : decode zm73.2.1 8 = .ok (.aload_n 0, 1) := by decide +kernel
theorem k73_9 : decode zm73.2.1 9 = .ok (.getfield 29, 3) := by decide +kernel
theorem k73_12 : decode zm73.2.1 12 = .ok (.getfield 111, 3) := by decide +kernel
theorem k73_15 : decode zm73.2.1 15 = .ok (.invokevirtual 167, 3) := by decide +kernel
theorem k73_18 : decode zm73.2.1 18 = .ok (.aload_n 0, 1) := by decide +kernel
theorem k73_19 : decode zm73.2.1 19 = .ok (.getfield 50, 3) := by decide +kernel
theorem k73_22 : decode zm73.2.1 22 = .ok (.aload_n 0, 1) := by decide +kernel
theorem k73_23 : decode zm73.2.1 23 = .ok (.getfield 43, 3) := by decide +kernel
theorem k73_26 : decode zm73.2.1 26 = .ok (.invokevirtual 171, 3) := by decide +kernel
theorem k73_29 : decode zm73.2.1 29 = .ok (.ifCond .eq 7, 3) := by decide +kernel
theorem k73_36 : decode zm73.2.1 36 = .ok (.iconst 0, 1) := by decide +kernel
theorem k73_37 : decode zm73.2.1 37 = .ok (.ireturn, 1) := by decide +kernel
theorem k73_32 : decode zm73.2.1 32 = .ok (.iconst 1, 1) := by decide +kernel
theorem k73_33 : decode zm73.2.1 33 = .ok (.goto 4, 3) := by decide +kernel
theorem lk_9_41 : zmx 9 41 = some (103, 1) := by decide +kernel
theorem s16_720 : (Int16.ofInt 720).toInt32 = 720 := by decide
theorem lk_9_44 : zmx 9 44 = some (74, 1) := by decide +kernel
theorem lk_9_50 : zmx 9 50 = some (60, 1) := by decide +kernel
theorem lk_9_54 : zmx 9 54 = some (105, 1) := by decide +kernel
theorem lk_9_57 : zmx 9 57 = some (107, 1) := by decide +kernel
theorem k101_66 : decode zm101.2.1 66 = .ok (.aload_n 0, 1) := by decide +kernel
theorem k101_67 : decode zm101.2.1 67 = .ok (.getfield 12, 3) := by decide +kernel
theorem k101_70 : decode zm101.2.1 70 = .ok (.invokevirtual 57, 3) := by decide +kernel
theorem k101_73 : decode zm101.2.1 73 = .ok (.istore_n 3, 1) := by decide +kernel
theorem k101_74 : decode zm101.2.1 74 = .ok (.iinc 4 1, 3) := by decide +kernel
theorem k101_77 : decode zm101.2.1 77 = .ok (.goto (-47), 3) := by decide +kernel
theorem k101_30 : decode zm101.2.1 30 = .ok (.iload 4, 2) := by decide +kernel
theorem k101_32 : decode zm101.2.1 32 = .ok (.sipush 720, 3) := by decide +kernel
theorem k101_35 : decode zm101.2.1 35 = .ok (.if_icmp .ge 45, 3) := by decide +kernel
theorem k101_80 : decode zm101.2.1 80 = .ok (.return_, 1) := by decide +kernel
theorem k101_38 : decode zm101.2.1 38 = .ok (.iload_n 3, 1) := by decide +kernel
theorem k101_39 : decode zm101.2.1 39 = .ok (.ifCond .eq 41, 3) := by decide +kernel
theorem k101_42 : decode zm101.2.1 42 = .ok (.aload_n 2, 1) := by decide +kernel
theorem k101_43 : decode zm101.2.1 43 = .ok (.aload_n 0, 1) := by decide +kernel
theorem k101_44 : decode zm101.2.1 44 = .ok (.getfield 12, 3) := by decide +kernel
theorem k101_47 : decode zm101.2.1 47 = .ok (.invokevirtual 44, 3) := by decide +kernel
theorem k101_50 : decode zm101.2.1 50 = .ok (.ifCond .eq 16, 3) := by decide +kernel
theorem k101_53 : decode zm101.2.1 53 = .ok (.aload_n 0, 1) := by decide +kernel
theorem k101_54 : decode zm101.2.1 54 = .ok (.aload_n 2, 1) := by decide +kernel
theorem k101_55 : decode zm101.2.1 55 = .ok (.aload_n 0, 1) := by decide +kernel
theorem k101_56 : decode zm101.2.1 56 = .ok (.getfield 12, 3) := by decide +kernel
theorem k101_59 : decode zm101.2.1 59 = .ok (.iconst 0, 1) := by decide +kernel
theorem k101_60 : decode zm101.2.1 60 = .ok (.invokevirtual 50, 3) := by decide +kernel
theorem k101_63 : decode zm101.2.1 63 = .ok (.invokevirtual 54, 3) := by decide +kernel
theorem k101_0 : decode zm101.2.1 0 = .ok (.aload_n 0, 1) := by decide +kernel
theorem k101_1 : decode zm101.2.1 1 = .ok (.iconst (-1), 1) := by decide +kernel
theorem k101_2 : decode zm101.2.1 2 = .ok (.putfield 30, 3) := by decide +kernel
theorem k101_5 : decode zm101.2.1 5 = .ok (.aload_n 0, 1) := by decide +kernel
theorem k101_6 : decode zm101.2.1 6 = .ok (.iconst (-1), 1) := by decide +kernel
theorem k101_7 : decode zm101.2.1 7 = .ok (.putfield 34, 3) := by decide +kernel
theorem k101_10 : decode zm101.2.1 10 = .ok (.aload_n 0, 1) := by decide +kernel
theorem k101_11 : decode zm101.2.1 11 = .ok (.getfield 12, 3) := by decide +kernel
theorem k101_14 : decode zm101.2.1 14 = .ok (.aload_n 1, 1) := by decide +kernel
theorem k101_15 : decode zm101.2.1 15 = .ok (.invokevirtual 37, 3) := by decide +kernel
theorem k101_18 : decode zm101.2.1 18 = .ok (.aload_n 0, 1) := by decide +kernel
theorem k101_19 : decode zm101.2.1 19 = .ok (.getfield 12, 3) := by decide +kernel
theorem k101_22 : decode zm101.2.1 22 = .ok (.invokevirtual 41, 3) := by decide +kernel
theorem k101_25 : decode zm101.2.1 25 = .ok (.iconst 1, 1) := by decide +kernel
theorem k101_26 : decode zm101.2.1 26 = .ok (.istore_n 3, 1) := by decide +kernel
theorem k101_27 : decode zm101.2.1 27 = .ok (.iconst 0, 1) := by decide +kernel
theorem k101_28 : decode zm101.2.1 28 = .ok (.istore 4, 2) := by decide +kernel
theorem fk_9_67 : zfx 9 67 = some (9, 5) := by decide +kernel
theorem pi_9_5 : zdes 9 5 = "I" ∧ zfin 9 5 = false := by decide +kernel
theorem lk_9_73 : zmx 9 73 = some (111, 0) := by decide +kernel
theorem lk_9_79 : zmx 9 79 = some (112, 1) := by decide +kernel
theorem k110_76 : decode zm110.2.1 76 = .ok (.iinc 4 1, 3) := by decide +kernel
theorem k110_79 : decode zm110.2.1 79 = .ok (.goto (-65), 3) := by decide +kernel
theorem k110_14 : decode zm110.2.1 14 = .ok (.iload 4, 2) := by decide +kernel
theorem k110_16 : decode zm110.2.1 16 = .ok (.iconst 1, 1) := by decide +kernel
theorem k110_17 : decode zm110.2.1 17 = .ok (.aload_n 1, 1) := by decide +kernel
theorem k110_18 : decode zm110.2.1 18 = .ok (.getfield 70, 3) := by decide +kernel
theorem k110_21 : decode zm110.2.1 21 = .ok (.ishl, 1) := by decide +kernel
theorem k110_22 : decode zm110.2.1 22 = .ok (.if_icmp .ge 60, 3) := by decide +kernel
theorem k110_82 : decode zm110.2.1 82 = .ok (.return_, 1) := by decide +kernel
theorem k110_25 : decode zm110.2.1 25 = .ok (.iload 4, 2) := by decide +kernel
theorem k110_27 : decode zm110.2.1 27 = .ok (.invokestatic 73, 3) := by decide +kernel
theorem k110_30 : decode zm110.2.1 30 = .ok (.istore 5, 2) := by decide +kernel
theorem k110_32 : decode zm110.2.1 32 = .ok (.iload 5, 2) := by decide +kernel
theorem k110_34 : decode zm110.2.1 34 = .ok (.aload_n 0, 1) := by decide +kernel
theorem k110_35 : decode zm110.2.1 35 = .ok (.getfield 30, 3) := by decide +kernel
theorem k110_38 : decode zm110.2.1 38 = .ok (.if_icmp .ge 38, 3) := by decide +kernel
theorem k110_41 : decode zm110.2.1 41 = .ok (.aload_n 0, 1) := by decide +kernel
theorem k110_42 : decode zm110.2.1 42 = .ok (.aload_n 1, 1) := by decide +kernel
theorem k110_43 : decode zm110.2.1 43 = .ok (.iload 4, 2) := by decide +kernel
theorem k110_45 : decode zm110.2.1 45 = .ok (.invokevirtual 79, 3) := by decide +kernel
theorem k110_48 : decode zm110.2.1 48 = .ok (.ifCond .eq 28, 3) := by decide +kernel
theorem k110_51 : decode zm110.2.1 51 = .ok (.aload_n 2, 1) := by decide +kernel
theorem k110_52 : decode zm110.2.1 52 = .ok (.aload_n 0, 1) := by decide +kernel
theorem k110_53 : decode zm110.2.1 53 = .ok (.getfield 12, 3) := by decide +kernel
theorem k110_56 : decode zm110.2.1 56 = .ok (.iconst 0, 1) := by decide +kernel
theorem k110_57 : decode zm110.2.1 57 = .ok (.invokevirtual 50, 3) := by decide +kernel
theorem k110_60 : decode zm110.2.1 60 = .ok (.iload_n 3, 1) := by decide +kernel
theorem k110_61 : decode zm110.2.1 61 = .ok (.if_icmp .gt 15, 3) := by decide +kernel
theorem k110_64 : decode zm110.2.1 64 = .ok (.aload_n 0, 1) := by decide +kernel
theorem k110_65 : decode zm110.2.1 65 = .ok (.iload 5, 2) := by decide +kernel
theorem k110_67 : decode zm110.2.1 67 = .ok (.putfield 30, 3) := by decide +kernel
theorem k110_70 : decode zm110.2.1 70 = .ok (.aload_n 0, 1) := by decide +kernel
theorem k110_71 : decode zm110.2.1 71 = .ok (.iload 4, 2) := by decide +kernel
theorem k110_73 : decode zm110.2.1 73 = .ok (.putfield 67, 3) := by decide +kernel
theorem k110_0 : decode zm110.2.1 0 = .ok (.aload_n 0, 1) := by decide +kernel
theorem k110_1 : decode zm110.2.1 1 = .ok (.bipush 9, 2) := by decide +kernel
theorem k110_3 : decode zm110.2.1 3 = .ok (.putfield 30, 3) := by decide +kernel
theorem k110_6 : decode zm110.2.1 6 = .ok (.aload_n 0, 1) := by decide +kernel
theorem k110_7 : decode zm110.2.1 7 = .ok (.iconst 0, 1) := by decide +kernel
theorem k110_8 : decode zm110.2.1 8 = .ok (.putfield 67, 3) := by decide +kernel
theorem k110_11 : decode zm110.2.1 11 = .ok (.iconst 0, 1) := by decide +kernel
theorem k110_12 : decode zm110.2.1 12 = .ok (.istore 4, 2) := by decide +kernel
theorem fk_9_94 : zfx 9 94 = some (9, 6) := by decide +kernel
theorem pi_9_6 : zdes 9 6 = "I" ∧ zfin 9 6 = false := by decide +kernel
theorem lk_9_97 : zmx 9 97 = some (77, 1) := by decide +kernel
theorem lk_9_108 : zmx 9 108 = some (117, 1) := by decide +kernel
theorem k114_131 : decode zm114.2.1 131 = .ok (.aload_n 0, 1) := by decide +kernel
theorem k114_132 : decode zm114.2.1 132 = .ok (.aload_n 1, 1) := by decide +kernel
theorem k114_133 : decode zm114.2.1 133 = .ok (.iload 5, 2) := by decide +kernel
theorem k114_135 : decode zm114.2.1 135 = .ok (.iload_n 3, 1) := by decide +kernel
theorem k114_136 : decode zm114.2.1 136 = .ok (.invokevirtual 108, 3) := by decide +kernel
theorem k114_139 : decode zm114.2.1 139 = .ok (.istore 6, 2) := by decide +kernel
theorem k114_141 : decode zm114.2.1 141 = .ok (.iinc 7 1, 3) := by decide +kernel
theorem k114_144 : decode zm114.2.1 144 = .ok (.goto (-79), 3) := by decide +kernel
theorem k114_121 : decode zm114.2.1 121 = .ok (.aload_n 0, 1) := by decide +kernel
theorem k114_122 : decode zm114.2.1 122 = .ok (.dup, 1) := by decide +kernel
theorem k114_123 : decode zm114.2.1 123 = .ok (.getfield 94, 3) := by decide +kernel
theorem k114_126 : decode zm114.2.1 126 = .ok (.iconst 1, 1) := by decide +kernel
theorem k114_127 : decode zm114.2.1 127 = .ok (.iadd, 1) := by decide +kernel
theorem k114_128 : decode zm114.2.1 128 = .ok (.putfield 94, 3) := by decide +kernel
theorem k114_65 : decode zm114.2.1 65 = .ok (.iload 7, 2) := by decide +kernel
theorem k114_67 : decode zm114.2.1 67 = .ok (.sipush 1000, 3) := by decide +kernel
theorem k114_70 : decode zm114.2.1 70 = .ok (.if_icmp .ge 77, 3) := by decide +kernel
theorem k114_147 : decode zm114.2.1 147 = .ok (.return_, 1) := by decide +kernel
theorem k114_73 : decode zm114.2.1 73 = .ok (.iload 6, 2) := by decide +kernel
theorem k114_75 : decode zm114.2.1 75 = .ok (.ifCond .eq 72, 3) := by decide +kernel
theorem k114_78 : decode zm114.2.1 78 = .ok (.aload_n 2, 1) := by decide +kernel
theorem k114_79 : decode zm114.2.1 79 = .ok (.aload_n 0, 1) := by decide +kernel
theorem k114_80 : decode zm114.2.1 80 = .ok (.getfield 12, 3) := by decide +kernel
theorem k114_83 : decode zm114.2.1 83 = .ok (.invokevirtual 44, 3) := by decide +kernel
theorem k114_86 : decode zm114.2.1 86 = .ok (.ifCond .eq 45, 3) := by decide +kernel
theorem k114_89 : decode zm114.2.1 89 = .ok (.aload_n 2, 1) := by decide +kernel
theorem k114_90 : decode zm114.2.1 90 = .ok (.aload_n 0, 1) := by decide +kernel
theorem k114_91 : decode zm114.2.1 91 = .ok (.getfield 12, 3) := by decide +kernel
theorem k114_94 : decode zm114.2.1 94 = .ok (.iconst 0, 1) := by decide +kernel
theorem k114_95 : decode zm114.2.1 95 = .ok (.invokevirtual 50, 3) := by decide +kernel
theorem k114_98 : decode zm114.2.1 98 = .ok (.iload 4, 2) := by decide +kernel
theorem k114_100 : decode zm114.2.1 100 = .ok (.if_icmp .ne 31, 3) := by decide +kernel
theorem k114_103 : decode zm114.2.1 103 = .ok (.aload_n 0, 1) := by decide +kernel
theorem k114_104 : decode zm114.2.1 104 = .ok (.getfield 94, 3) := by decide +kernel
theorem k114_107 : decode zm114.2.1 107 = .ok (.ifCond .ne 14, 3) := by decide +kernel
theorem k114_110 : decode zm114.2.1 110 = .ok (.aload_n 0, 1) := by decide +kernel
theorem k114_111 : decode zm114.2.1 111 = .ok (.getfield 18, 3) := by decide +kernel
theorem k114_114 : decode zm114.2.1 114 = .ok (.aload_n 0, 1) := by decide +kernel
theorem k114_115 : decode zm114.2.1 115 = .ok (.getfield 12, 3) := by decide +kernel
theorem k114_118 : decode zm114.2.1 118 = .ok (.invokevirtual 37, 3) := by decide +kernel
theorem k114_32 : decode zm114.2.1 32 = .ok (.iload 6, 2) := by decide +kernel
theorem k114_34 : decode zm114.2.1 34 = .ok (.iload 5, 2) := by decide +kernel
theorem k114_36 : decode zm114.2.1 36 = .ok (.if_icmp .ge 23, 3) := by decide +kernel
theorem k114_59 : decode zm114.2.1 59 = .ok (.iconst 1, 1) := by decide +kernel
theorem k114_60 : decode zm114.2.1 60 = .ok (.istore 6, 2) := by decide +kernel
theorem k114_62 : decode zm114.2.1 62 = .ok (.iconst 0, 1) := by decide +kernel
theorem k114_63 : decode zm114.2.1 63 = .ok (.istore 7, 2) := by decide +kernel
theorem k114_39 : decode zm114.2.1 39 = .ok (.aload_n 0, 1) := by decide +kernel
theorem k114_40 : decode zm114.2.1 40 = .ok (.getfield 12, 3) := by decide +kernel
theorem k114_43 : decode zm114.2.1 43 = .ok (.aload_n 1, 1) := by decide +kernel
theorem k114_44 : decode zm114.2.1 44 = .ok (.iload 6, 2) := by decide +kernel
theorem k114_46 : decode zm114.2.1 46 = .ok (.invokevirtual 101, 3) := by decide +kernel
theorem k114_49 : decode zm114.2.1 49 = .ok (.iconst 0, 1) := by decide +kernel
theorem k114_50 : decode zm114.2.1 50 = .ok (.invokevirtual 104, 3) := by decide +kernel
theorem k114_53 : decode zm114.2.1 53 = .ok (.iinc 6 1, 3) := by decide +kernel
theorem k114_56 : decode zm114.2.1 56 = .ok (.goto (-24), 3) := by decide +kernel
theorem k114_21 : decode zm114.2.1 21 = .ok (.aload_n 0, 1) := by decide +kernel
theorem k114_22 : decode zm114.2.1 22 = .ok (.getfield 12, 3) := by decide +kernel
theorem k114_25 : decode zm114.2.1 25 = .ok (.aload_n 1, 1) := by decide +kernel
theorem k114_26 : decode zm114.2.1 26 = .ok (.invokevirtual 37, 3) := by decide +kernel
theorem k114_29 : decode zm114.2.1 29 = .ok (.iconst 0, 1) := by decide +kernel
theorem k114_30 : decode zm114.2.1 30 = .ok (.istore 6, 2) := by decide +kernel
theorem k114_0 : decode zm114.2.1 0 = .ok (.aload_n 0, 1) := by decide +kernel
theorem k114_1 : decode zm114.2.1 1 = .ok (.iconst 0, 1) := by decide +kernel
theorem k114_2 : decode zm114.2.1 2 = .ok (.putfield 94, 3) := by decide +kernel
theorem k114_5 : decode zm114.2.1 5 = .ok (.aload_n 1, 1) := by decide +kernel
theorem k114_6 : decode zm114.2.1 6 = .ok (.invokevirtual 97, 3) := by decide +kernel
theorem k114_9 : decode zm114.2.1 9 = .ok (.istore 5, 2) := by decide +kernel
theorem k114_11 : decode zm114.2.1 11 = .ok (.iload 5, 2) := by decide +kernel
theorem k114_13 : decode zm114.2.1 13 = .ok (.ifCond .le 8, 3) := by decide +kernel
theorem k114_16 : decode zm114.2.1 16 = .ok (.iload_n 3, 1) := by decide +kernel
theorem k114_17 : decode zm114.2.1 17 = .ok (.ifCond .ne 4, 3) := by decide +kernel
theorem k114_20 : decode zm114.2.1 20 = .ok (.return_, 1) := by decide +kernel
theorem lk_0_265 : zmx 0 265 = some (120, 1) := by decide +kernel
theorem lk_0_189 : zmx 0 189 = some (83, 1) := by decide +kernel
theorem k122_0 : decode zm122.2.1 0 = .ok (.iload_n 1, 1) := by decide +kernel
theorem k122_1 : decode zm122.2.1 1 = .ok (.iconst 0, 1) := by decide +kernel
theorem k122_2 : decode zm122.2.1 2 = .ok (.aload_n 0, 1) := by decide +kernel
theorem k122_3 : decode zm122.2.1 3 = .ok (.getfield 57, 3) := by decide +kernel
theorem k122_6 : decode zm122.2.1 6 = .ok (.getfield 102, 3) := by decide +kernel
theorem k122_9 : decode zm122.2.1 9 = .ok (.iconst 1, 1) := by decide +kernel
theorem k122_10 : decode zm122.2.1 10 = .ok (.isub, 1) := by decide +kernel
theorem k122_11 : decode zm122.2.1 11 = .ok (.invokestatic 68, 3) := by decide +kernel
theorem k122_14 : decode zm122.2.1 14 = .ok (.ifCond .eq 11, 3) := by decide +kernel
theorem k122_25 : decode zm122.2.1 25 = .ok (.bipush (-2), 2) := by decide +kernel
theorem k122_27 : decode zm122.2.1 27 = .ok (.ireturn, 1) := by decide +kernel
theorem k122_17 : decode zm122.2.1 17 = .ok (.aload_n 0, 1) := by decide +kernel
theorem k122_18 : decode zm122.2.1 18 = .ok (.iload_n 2, 1) := by decide +kernel
theorem k122_19 : decode zm122.2.1 19 = .ok (.invokevirtual 134, 3) := by decide +kernel
theorem k122_22 : decode zm122.2.1 22 = .ok (.ifCond .ne 6, 3) := by decide +kernel
theorem k122_28 : decode zm122.2.1 28 = .ok (.aload_n 0, 1) := by decide +kernel
theorem k122_29 : decode zm122.2.1 29 = .ok (.getfield 57, 3) := by decide +kernel
theorem k122_32 : decode zm122.2.1 32 = .ok (.iload_n 1, 1) := by decide +kernel
theorem k122_33 : decode zm122.2.1 33 = .ok (.invokevirtual 265, 3) := by decide +kernel
theorem k122_36 : decode zm122.2.1 36 = .ok (.astore 4, 2) := by decide +kernel
theorem k122_38 : decode zm122.2.1 38 = .ok (.iload_n 3, 1) := by decide +kernel
theorem k122_39 : decode zm122.2.1 39 = .ok (.tableswitch 77 0 2 #[25, 31, 67], 25) := by decide +kernel
theorem k122_64 : decode zm122.2.1 64 = .ok (.aload 4, 2) := by decide +kernel
theorem k122_66 : decode zm122.2.1 66 = .ok (.getfield 101, 3) := by decide +kernel
theorem k122_69 : decode zm122.2.1 69 = .ok (.ireturn, 1) := by decide +kernel
theorem k122_70 : decode zm122.2.1 70 = .ok (.aload_n 0, 1) := by decide +kernel
theorem k122_71 : decode zm122.2.1 71 = .ok (.getfield 50, 3) := by decide +kernel
theorem k122_74 : decode zm122.2.1 74 = .ok (.aload_n 0, 1) := by decide +kernel
theorem k122_75 : decode zm122.2.1 75 = .ok (.getfield 19, 3) := by decide +kernel
theorem k122_78 : decode zm122.2.1 78 = .ok (.aload_n 0, 1) := by decide +kernel
theorem k122_79 : decode zm122.2.1 79 = .ok (.getfield 29, 3) := by decide +kernel
theorem k122_82 : decode zm122.2.1 82 = .ok (.getfield 111, 3) := by decide +kernel
theorem k122_85 : decode zm122.2.1 85 = .ok (.invokevirtual 167, 3) := by decide +kernel
theorem k122_88 : decode zm122.2.1 88 = .ok (.aload_n 0, 1) := by decide +kernel
theorem k122_89 : decode zm122.2.1 89 = .ok (.getfield 50, 3) := by decide +kernel
theorem k122_92 : decode zm122.2.1 92 = .ok (.aload 4, 2) := by decide +kernel
theorem k122_94 : decode zm122.2.1 94 = .ok (.aload_n 0, 1) := by decide +kernel
theorem k122_95 : decode zm122.2.1 95 = .ok (.getfield 19, 3) := by decide +kernel
theorem k122_98 : decode zm122.2.1 98 = .ok (.iload_n 2, 1) := by decide +kernel
theorem k122_99 : decode zm122.2.1 99 = .ok (.invokevirtual 137, 3) := by decide +kernel
theorem k122_102 : decode zm122.2.1 102 = .ok (.invokevirtual 268, 3) := by decide +kernel
theorem k122_105 : decode zm122.2.1 105 = .ok (.ireturn, 1) := by decide +kernel
theorem k122_106 : decode zm122.2.1 106 = .ok (.aload_n 0, 1) := by decide +kernel
theorem k122_107 : decode zm122.2.1 107 = .ok (.getfield 19, 3) := by decide +kernel
theorem k122_110 : decode zm122.2.1 110 = .ok (.aload 4, 2) := by decide +kernel
theorem k122_112 : decode zm122.2.1 112 = .ok (.invokevirtual 189, 3) := by decide +kernel
theorem k122_115 : decode zm122.2.1 115 = .ok (.ireturn, 1) := by decide +kernel
theorem k122_116 : decode zm122.2.1 116 = .ok (.bipush (-3), 2) := by decide +kernel
theorem k122_118 : decode zm122.2.1 118 = .ok (.ireturn, 1) := by decide +kernel
theorem lk_8_56 : zmx 8 56 = some (59, 1) := by decide +kernel
theorem lk_8_62 : zmx 8 62 = some (60, 1) := by decide +kernel
theorem k125_9 : decode zm125.2.1 9 = .ok (.iload 4, 2) := by decide +kernel
theorem k125_11 : decode zm125.2.1 11 = .ok (.aload_n 0, 1) := by decide +kernel
theorem k125_12 : decode zm125.2.1 12 = .ok (.getfield 34, 3) := by decide +kernel
theorem k125_15 : decode zm125.2.1 15 = .ok (.if_icmp .ge 29, 3) := by decide +kernel
theorem k125_44 : decode zm125.2.1 44 = .ok (.return_, 1) := by decide +kernel
theorem k125_18 : decode zm125.2.1 18 = .ok (.aload_n 0, 1) := by decide +kernel
theorem k125_19 : decode zm125.2.1 19 = .ok (.getfield 27, 3) := by decide +kernel
theorem k125_22 : decode zm125.2.1 22 = .ok (.iload 4, 2) := by decide +kernel
theorem k125_24 : decode zm125.2.1 24 = .ok (.aload_n 2, 1) := by decide +kernel
theorem k125_25 : decode zm125.2.1 25 = .ok (.aload_n 0, 1) := by decide +kernel
theorem k125_26 : decode zm125.2.1 26 = .ok (.iload 4, 2) := by decide +kernel
theorem k125_28 : decode zm125.2.1 28 = .ok (.invokevirtual 38, 3) := by decide +kernel
theorem k125_31 : decode zm125.2.1 31 = .ok (.iconst 0, 1) := by decide +kernel
theorem k125_32 : decode zm125.2.1 32 = .ok (.invokevirtual 62, 3) := by decide +kernel
theorem k125_35 : decode zm125.2.1 35 = .ok (.invokevirtual 52, 3) := by decide +kernel
theorem k125_38 : decode zm125.2.1 38 = .ok (.iinc 4 1, 3) := by decide +kernel
theorem k125_41 : decode zm125.2.1 41 = .ok (.goto (-32), 3) := by decide +kernel
theorem k125_0 : decode zm125.2.1 0 = .ok (.aload_n 2, 1) := by decide +kernel
theorem k125_1 : decode zm125.2.1 1 = .ok (.aload_n 1, 1) := by decide +kernel
theorem k125_2 : decode zm125.2.1 2 = .ok (.iload_n 3, 1) := by decide +kernel
theorem k125_3 : decode zm125.2.1 3 = .ok (.invokevirtual 56, 3) := by decide +kernel
theorem k125_6 : decode zm125.2.1 6 = .ok (.iconst 0, 1) := by decide +kernel
theorem k125_7 : decode zm125.2.1 7 = .ok (.istore 4, 2) := by decide +kernel
theorem k130_3 : decode zm130.2.1 3 = .ok (.iload 5, 2) := by decide +kernel
theorem k130_5 : decode zm130.2.1 5 = .ok (.aload_n 0, 1) := by decide +kernel
theorem k130_6 : decode zm130.2.1 6 = .ok (.getfield 34, 3) := by decide +kernel
theorem k130_9 : decode zm130.2.1 9 = .ok (.if_icmp .ge 39, 3) := by decide +kernel
theorem k130_48 : decode zm130.2.1 48 = .ok (.return_, 1) := by decide +kernel
theorem k130_12 : decode zm130.2.1 12 = .ok (.aload_n 2, 1) := by decide +kernel
theorem k130_13 : decode zm130.2.1 13 = .ok (.aload_n 1, 1) := by decide +kernel
theorem k130_14 : decode zm130.2.1 14 = .ok (.iload_n 3, 1) := by decide +kernel
theorem k130_15 : decode zm130.2.1 15 = .ok (.iload 5, 2) := by decide +kernel
theorem k130_17 : decode zm130.2.1 17 = .ok (.iadd, 1) := by decide +kernel
theorem k130_18 : decode zm130.2.1 18 = .ok (.invokevirtual 56, 3) := by decide +kernel
theorem k130_21 : decode zm130.2.1 21 = .ok (.aload_n 0, 1) := by decide +kernel
theorem k130_22 : decode zm130.2.1 22 = .ok (.getfield 27, 3) := by decide +kernel
theorem k130_25 : decode zm130.2.1 25 = .ok (.iload 5, 2) := by decide +kernel
theorem k130_27 : decode zm130.2.1 27 = .ok (.aload_n 2, 1) := by decide +kernel
theorem k130_28 : decode zm130.2.1 28 = .ok (.aload_n 0, 1) := by decide +kernel
theorem k130_29 : decode zm130.2.1 29 = .ok (.iload 5, 2) := by decide +kernel
theorem k130_31 : decode zm130.2.1 31 = .ok (.invokevirtual 38, 3) := by decide +kernel
theorem k130_34 : decode zm130.2.1 34 = .ok (.iload 4, 2) := by decide +kernel
theorem k130_36 : decode zm130.2.1 36 = .ok (.invokevirtual 62, 3) := by decide +kernel
theorem k130_39 : decode zm130.2.1 39 = .ok (.invokevirtual 52, 3) := by decide +kernel
theorem k130_42 : decode zm130.2.1 42 = .ok (.iinc 5 1, 3) := by decide +kernel
theorem k130_45 : decode zm130.2.1 45 = .ok (.goto (-42), 3) := by decide +kernel
theorem k130_0 : decode zm130.2.1 0 = .ok (.iconst 0, 1) := by decide +kernel
theorem k130_1 : decode zm130.2.1 1 = .ok (.istore 5, 2) := by decide +kernel
theorem lk_0_296 : zmx 0 296 = some (134, 1) := by decide +kernel
theorem k133_0 : decode zm133.2.1 0 = .ok (.aload_n 0, 1) := by decide +kernel
theorem k133_1 : decode zm133.2.1 1 = .ok (.iload_n 1, 1) := by decide +kernel
theorem k133_2 : decode zm133.2.1 2 = .ok (.invokevirtual 134, 3) := by decide +kernel
theorem k133_5 : decode zm133.2.1 5 = .ok (.ifCond .eq 11, 3) := by decide +kernel
theorem k133_16 : decode zm133.2.1 16 = .ok (.bipush (-2), 2) := by decide +kernel
theorem k133_18 : decode zm133.2.1 18 = .ok (.ireturn, 1) := by decide +kernel
theorem k133_8 : decode zm133.2.1 8 = .ok (.aload_n 0, 1) := by decide +kernel
theorem k133_9 : decode zm133.2.1 9 = .ok (.iload_n 1, 1) := by decide +kernel
theorem k133_10 : decode zm133.2.1 10 = .ok (.invokevirtual 296, 3) := by decide +kernel
theorem k133_13 : decode zm133.2.1 13 = .ok (.goto 5, 3) := by decide +kernel
theorem k135_54 : decode zm135.2.1 54 = .ok (.iinc 3 1, 3) := by decide +kernel
theorem k135_57 : decode zm135.2.1 57 = .ok (.goto (-32), 3) := by decide +kernel
theorem k135_25 : decode zm135.2.1 25 = .ok (.iload_n 3, 1) := by decide +kernel
theorem k135_26 : decode zm135.2.1 26 = .ok (.aload_n 0, 1) := by decide +kernel
theorem k135_27 : decode zm135.2.1 27 = .ok (.getfield 19, 3) := by decide +kernel
theorem k135_30 : decode zm135.2.1 30 = .ok (.getfield 88, 3) := by decide +kernel
theorem k135_33 : decode zm135.2.1 33 = .ok (.if_icmp .ge 27, 3) := by decide +kernel
theorem k135_60 : decode zm135.2.1 60 = .ok (.iload_n 1, 1) := by decide +kernel
theorem k135_61 : decode zm135.2.1 61 = .ok (.ireturn, 1) := by decide +kernel
theorem k135_36 : decode zm135.2.1 36 = .ok (.aload_n 0, 1) := by decide +kernel
theorem k135_37 : decode zm135.2.1 37 = .ok (.iload_n 3, 1) := by decide +kernel
theorem k135_38 : decode zm135.2.1 38 = .ok (.invokevirtual 296, 3) := by decide +kernel
theorem k135_41 : decode zm135.2.1 41 = .ok (.istore 4, 2) := by decide +kernel
theorem k135_43 : decode zm135.2.1 43 = .ok (.iload 4, 2) := by decide +kernel
theorem k135_45 : decode zm135.2.1 45 = .ok (.iload_n 2, 1) := by decide +kernel
theorem k135_46 : decode zm135.2.1 46 = .ok (.if_icmp .le 8, 3) := by decide +kernel
theorem k135_49 : decode zm135.2.1 49 = .ok (.iload 4, 2) := by decide +kernel
theorem k135_51 : decode zm135.2.1 51 = .ok (.istore_n 2, 1) := by decide +kernel
theorem k135_52 : decode zm135.2.1 52 = .ok (.iload_n 3, 1) := by decide +kernel
theorem k135_53 : decode zm135.2.1 53 = .ok (.istore_n 1, 1) := by decide +kernel
theorem k135_0 : decode zm135.2.1 0 = .ok (.aload_n 0, 1) := by decide +kernel
theorem k135_1 : decode zm135.2.1 1 = .ok (.getfield 43, 3) := by decide +kernel
theorem k135_4 : decode zm135.2.1 4 = .ok (.getfield 101, 3) := by decide +kernel
theorem k135_7 : decode zm135.2.1 7 = .ok (.aload_n 0, 1) := by decide +kernel
theorem k135_8 : decode zm135.2.1 8 = .ok (.getfield 43, 3) := by decide +kernel
theorem k135_11 : decode zm135.2.1 11 = .ok (.invokevirtual 246, 3) := by decide +kernel
theorem k135_14 : decode zm135.2.1 14 = .ok (.if_icmp .ne 5, 3) := by decide +kernel
theorem k135_19 : decode zm135.2.1 19 = .ok (.iconst (-1), 1) := by decide +kernel
theorem k135_20 : decode zm135.2.1 20 = .ok (.istore_n 1, 1) := by decide +kernel
theorem k135_21 : decode zm135.2.1 21 = .ok (.iconst (-1), 1) := by decide +kernel
theorem k135_22 : decode zm135.2.1 22 = .ok (.istore_n 2, 1) := by decide +kernel
theorem k135_23 : decode zm135.2.1 23 = .ok (.iconst 0, 1) := by decide +kernel
theorem k135_24 : decode zm135.2.1 24 = .ok (.istore_n 3, 1) := by decide +kernel
theorem k135_17 : decode zm135.2.1 17 = .ok (.iconst (-1), 1) := by decide +kernel
theorem k135_18 : decode zm135.2.1 18 = .ok (.ireturn, 1) := by decide +kernel
theorem fk_0_64 : zfx 0 64 = some (0, 8) := by decide +kernel
theorem lk_0_305 : zmx 0 305 = some (141, 1) := by decide +kernel
theorem k140_0 : decode zm140.2.1 0 = .ok (.aload_n 0, 1) := by decide +kernel
theorem k140_1 : decode zm140.2.1 1 = .ok (.getfield 64, 3) := by decide +kernel
theorem k140_4 : decode zm140.2.1 4 = .ok (.aload_n 0, 1) := by decide +kernel
theorem k140_5 : decode zm140.2.1 5 = .ok (.getfield 29, 3) := by decide +kernel
theorem k140_8 : decode zm140.2.1 8 = .ok (.aload_n 0, 1) := by decide +kernel
theorem k140_9 : decode zm140.2.1 9 = .ok (.getfield 19, 3) := by decide +kernel
theorem k140_12 : decode zm140.2.1 12 = .ok (.getfield 88, 3) := by decide +kernel
theorem k140_15 : decode zm140.2.1 15 = .ok (.invokevirtual 305, 3) := by decide +kernel
theorem k140_18 : decode zm140.2.1 18 = .ok (.ireturn, 1) := by decide +kernel
theorem lk_10_137 : zmx 10 137 = some (152, 1) := by decide +kernel
theorem fk_10_140 : zfx 10 140 = some (10, 27) := by decide +kernel
theorem fk_10_143 : zfx 10 143 = some (10, 26) := by decide +kernel
theorem lk_10_146 : zmx 10 146 = some (158, 1) := by decide +kernel
theorem pi_10_25 : zdes 10 25 = "I" ∧ zfin 10 25 = false := by decide +kernel
theorem pi_10_27 : zdes 10 27 = "I" ∧ zfin 10 27 = false := by decide +kernel
theorem pi_10_26 : zdes 10 26 = "I" ∧ zfin 10 26 = false := by decide +kernel
theorem pi_10_6 : zdes 10 6 = "I" ∧ zfin 10 6 = false := by decide +kernel
theorem k151_145 : decode zm151.2.1 145 = .ok (.putfield 140, 3) := by decide +kernel
theorem k151_148 : decode zm151.2.1 148 = .ok (.aload_n 0, 1) := by decide +kernel
theorem k151_149 : decode zm151.2.1 149 = .ok (.iload_n 1, 1) := by decide +kernel
theorem k151_150 : decode zm151.2.1 150 = .ok (.ifCond .ne 7, 3) := by decide +kernel
theorem k151_157 : decode zm151.2.1 157 = .ok (.iload_n 1, 1) := by decide +kernel
theorem k151_158 : decode zm151.2.1 158 = .ok (.bipush 6, 2) := by decide +kernel
theorem k151_160 : decode zm151.2.1 160 = .ok (.if_icmp .ne 12, 3) := by decide +kernel
theorem k151_172 : decode zm151.2.1 172 = .ok (.aload_n 0, 1) := by decide +kernel
theorem k151_173 : decode zm151.2.1 173 = .ok (.getfield 143, 3) := by decide +kernel
theorem k151_176 : decode zm151.2.1 176 = .ok (.putfield 143, 3) := by decide +kernel
theorem k151_179 : decode zm151.2.1 179 = .ok (.aload_n 0, 1) := by decide +kernel
theorem k151_180 : decode zm151.2.1 180 = .ok (.dup, 1) := by decide +kernel
theorem k151_181 : decode zm151.2.1 181 = .ok (.getfield 112, 3) := by decide +kernel
theorem k151_184 : decode zm151.2.1 184 = .ok (.iconst 1, 1) := by decide +kernel
theorem k151_185 : decode zm151.2.1 185 = .ok (.iadd, 1) := by decide +kernel
theorem k151_186 : decode zm151.2.1 186 = .ok (.putfield 112, 3) := by decide +kernel
theorem k151_189 : decode zm151.2.1 189 = .ok (.iconst 1, 1) := by decide +kernel
theorem k151_190 : decode zm151.2.1 190 = .ok (.ireturn, 1) := by decide +kernel
theorem k151_163 : decode zm151.2.1 163 = .ok (.aload_n 0, 1) := by decide +kernel
theorem k151_164 : decode zm151.2.1 164 = .ok (.getfield 143, 3) := by decide +kernel
theorem k151_167 : decode zm151.2.1 167 = .ok (.iconst 1, 1) := by decide +kernel
