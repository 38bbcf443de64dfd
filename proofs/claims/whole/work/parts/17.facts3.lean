theorem k151_168 : decode zm151.2.1 168 = .ok (.iadd, 1) := by decide +kernel
theorem k151_169 : decode zm151.2.1 169 = .ok (.goto 7, 3) := by decide +kernel
theorem k151_153 : decode zm151.2.1 153 = .ok (.iconst 0, 1) := by decide +kernel
theorem k151_154 : decode zm151.2.1 154 = .ok (.goto 22, 3) := by decide +kernel
theorem k151_113 : decode zm151.2.1 113 = .ok (.putfield 134, 3) := by decide +kernel
theorem k151_116 : decode zm151.2.1 116 = .ok (.aload_n 0, 1) := by decide +kernel
theorem k151_117 : decode zm151.2.1 117 = .ok (.iload_n 1, 1) := by decide +kernel
theorem k151_118 : decode zm151.2.1 118 = .ok (.ifCond .ne 7, 3) := by decide +kernel
theorem k151_125 : decode zm151.2.1 125 = .ok (.iload_n 1, 1) := by decide +kernel
theorem k151_126 : decode zm151.2.1 126 = .ok (.invokestatic 131, 3) := by decide +kernel
theorem k151_129 : decode zm151.2.1 129 = .ok (.ifCond .eq 12, 3) := by decide +kernel
theorem k151_141 : decode zm151.2.1 141 = .ok (.aload_n 0, 1) := by decide +kernel
theorem k151_142 : decode zm151.2.1 142 = .ok (.getfield 140, 3) := by decide +kernel
theorem k151_132 : decode zm151.2.1 132 = .ok (.aload_n 0, 1) := by decide +kernel
theorem k151_133 : decode zm151.2.1 133 = .ok (.getfield 140, 3) := by decide +kernel
theorem k151_136 : decode zm151.2.1 136 = .ok (.iconst 1, 1) := by decide +kernel
theorem k151_137 : decode zm151.2.1 137 = .ok (.iadd, 1) := by decide +kernel
theorem k151_138 : decode zm151.2.1 138 = .ok (.goto 7, 3) := by decide +kernel
theorem k151_121 : decode zm151.2.1 121 = .ok (.iconst 0, 1) := by decide +kernel
theorem k151_122 : decode zm151.2.1 122 = .ok (.goto 23, 3) := by decide +kernel
theorem k151_58 : decode zm151.2.1 58 = .ok (.aload_n 0, 1) := by decide +kernel
theorem k151_59 : decode zm151.2.1 59 = .ok (.invokevirtual 115, 3) := by decide +kernel
theorem k151_62 : decode zm151.2.1 62 = .ok (.aload_n 0, 1) := by decide +kernel
theorem k151_63 : decode zm151.2.1 63 = .ok (.getfield 20, 3) := by decide +kernel
theorem k151_66 : decode zm151.2.1 66 = .ok (.iconst 4, 1) := by decide +kernel
theorem k151_67 : decode zm151.2.1 67 = .ok (.aload_n 0, 1) := by decide +kernel
theorem k151_68 : decode zm151.2.1 68 = .ok (.getfield 112, 3) := by decide +kernel
theorem k151_71 : decode zm151.2.1 71 = .ok (.imul, 1) := by decide +kernel
theorem k151_72 : decode zm151.2.1 72 = .ok (.iload_n 1, 1) := by decide +kernel
theorem k151_73 : decode zm151.2.1 73 = .ok (.iastore, 1) := by decide +kernel
theorem k151_74 : decode zm151.2.1 74 = .ok (.aload_n 0, 1) := by decide +kernel
theorem k151_75 : decode zm151.2.1 75 = .ok (.iload_n 1, 1) := by decide +kernel
theorem k151_76 : decode zm151.2.1 76 = .ok (.invokevirtual 146, 3) := by decide +kernel
theorem k151_79 : decode zm151.2.1 79 = .ok (.ifCond .ne 5, 3) := by decide +kernel
theorem k151_84 : decode zm151.2.1 84 = .ok (.aload_n 0, 1) := by decide +kernel
theorem k151_85 : decode zm151.2.1 85 = .ok (.iload_n 1, 1) := by decide +kernel
theorem k151_86 : decode zm151.2.1 86 = .ok (.ifCond .ne 7, 3) := by decide +kernel
theorem k151_93 : decode zm151.2.1 93 = .ok (.iload_n 1, 1) := by decide +kernel
theorem k151_94 : decode zm151.2.1 94 = .ok (.invokestatic 124, 3) := by decide +kernel
theorem k151_97 : decode zm151.2.1 97 = .ok (.ifCond .eq 12, 3) := by decide +kernel
theorem k151_109 : decode zm151.2.1 109 = .ok (.aload_n 0, 1) := by decide +kernel
theorem k151_110 : decode zm151.2.1 110 = .ok (.getfield 134, 3) := by decide +kernel
theorem k151_100 : decode zm151.2.1 100 = .ok (.aload_n 0, 1) := by decide +kernel
theorem k151_101 : decode zm151.2.1 101 = .ok (.getfield 134, 3) := by decide +kernel
theorem k151_104 : decode zm151.2.1 104 = .ok (.iconst 1, 1) := by decide +kernel
theorem k151_105 : decode zm151.2.1 105 = .ok (.iadd, 1) := by decide +kernel
theorem k151_106 : decode zm151.2.1 106 = .ok (.goto 7, 3) := by decide +kernel
theorem k151_89 : decode zm151.2.1 89 = .ok (.iconst 0, 1) := by decide +kernel
theorem k151_90 : decode zm151.2.1 90 = .ok (.goto 23, 3) := by decide +kernel
theorem k151_82 : decode zm151.2.1 82 = .ok (.iconst 0, 1) := by decide +kernel
theorem k151_83 : decode zm151.2.1 83 = .ok (.ireturn, 1) := by decide +kernel
theorem k151_41 : decode zm151.2.1 41 = .ok (.iload_n 1, 1) := by decide +kernel
theorem k151_42 : decode zm151.2.1 42 = .ok (.bipush 6, 2) := by decide +kernel
theorem k151_44 : decode zm151.2.1 44 = .ok (.if_icmp .ne 14, 3) := by decide +kernel
theorem k151_47 : decode zm151.2.1 47 = .ok (.aload_n 0, 1) := by decide +kernel
theorem k151_48 : decode zm151.2.1 48 = .ok (.getfield 143, 3) := by decide +kernel
theorem k151_51 : decode zm151.2.1 51 = .ok (.bipush 6, 2) := by decide +kernel
theorem k151_53 : decode zm151.2.1 53 = .ok (.if_icmp .ne 5, 3) := by decide +kernel
theorem k151_56 : decode zm151.2.1 56 = .ok (.iconst 0, 1) := by decide +kernel
theorem k151_57 : decode zm151.2.1 57 = .ok (.ireturn, 1) := by decide +kernel
theorem k151_26 : decode zm151.2.1 26 = .ok (.iload_n 1, 1) := by decide +kernel
theorem k151_27 : decode zm151.2.1 27 = .ok (.invokestatic 131, 3) := by decide +kernel
theorem k151_30 : decode zm151.2.1 30 = .ok (.ifCond .eq 11, 3) := by decide +kernel
theorem k151_33 : decode zm151.2.1 33 = .ok (.aload_n 0, 1) := by decide +kernel
theorem k151_34 : decode zm151.2.1 34 = .ok (.getfield 140, 3) := by decide +kernel
theorem k151_37 : decode zm151.2.1 37 = .ok (.iconst 4, 1) := by decide +kernel
theorem k151_38 : decode zm151.2.1 38 = .ok (.if_icmp .eq 18, 3) := by decide +kernel
theorem k151_0 : decode zm151.2.1 0 = .ok (.aload_n 0, 1) := by decide +kernel
theorem k151_1 : decode zm151.2.1 1 = .ok (.invokevirtual 137, 3) := by decide +kernel
theorem k151_4 : decode zm151.2.1 4 = .ok (.istore_n 1, 1) := by decide +kernel
theorem k151_5 : decode zm151.2.1 5 = .ok (.iload_n 1, 1) := by decide +kernel
theorem k151_6 : decode zm151.2.1 6 = .ok (.iconst (-1), 1) := by decide +kernel
theorem k151_7 : decode zm151.2.1 7 = .ok (.if_icmp .eq 49, 3) := by decide +kernel
theorem k151_10 : decode zm151.2.1 10 = .ok (.iload_n 1, 1) := by decide +kernel
theorem k151_11 : decode zm151.2.1 11 = .ok (.invokestatic 124, 3) := by decide +kernel
theorem k151_14 : decode zm151.2.1 14 = .ok (.ifCond .eq 12, 3) := by decide +kernel
theorem k151_17 : decode zm151.2.1 17 = .ok (.aload_n 0, 1) := by decide +kernel
theorem k151_18 : decode zm151.2.1 18 = .ok (.getfield 134, 3) := by decide +kernel
theorem k151_21 : decode zm151.2.1 21 = .ok (.bipush 10, 2) := by decide +kernel
theorem k151_23 : decode zm151.2.1 23 = .ok (.if_icmp .eq 33, 3) := by decide +kernel
theorem cl_10_234 : zlx 10 234 = some 4 := by decide +kernel
theorem lk_10_219 : zmx 10 219 = some (174, 1) := by decide +kernel
theorem k172_82 : decode zm172.2.1 82 = .ok (.istore 4, 2) := by decide +kernel
theorem k172_84 : decode zm172.2.1 84 = .ok (.aload_n 0, 1) := by decide +kernel
theorem k172_85 : decode zm172.2.1 85 = .ok (.invokevirtual 236, 3) := by decide +kernel
theorem k172_88 : decode zm172.2.1 88 = .ok (.iload 4, 2) := by decide +kernel
theorem k172_90 : decode zm172.2.1 90 = .ok (.ifCond .eq 17, 3) := by decide +kernel
theorem k172_107 : decode zm172.2.1 107 = .ok (.bipush (-4), 2) := by decide +kernel
theorem k172_109 : decode zm172.2.1 109 = .ok (.ireturn, 1) := by decide +kernel
theorem k172_93 : decode zm172.2.1 93 = .ok (.aload_n 0, 1) := by decide +kernel
theorem k172_94 : decode zm172.2.1 94 = .ok (.iload_n 3, 1) := by decide +kernel
theorem k172_95 : decode zm172.2.1 95 = .ok (.aload_n 0, 1) := by decide +kernel
theorem k172_96 : decode zm172.2.1 96 = .ok (.getfield 7, 3) := by decide +kernel
theorem k172_99 : decode zm172.2.1 99 = .ok (.iconst 0, 1) := by decide +kernel
theorem k172_100 : decode zm172.2.1 100 = .ok (.iaload, 1) := by decide +kernel
theorem k172_101 : decode zm172.2.1 101 = .ok (.invokevirtual 219, 3) := by decide +kernel
theorem k172_104 : decode zm172.2.1 104 = .ok (.goto 5, 3) := by decide +kernel
theorem k172_81 : decode zm172.2.1 81 = .ok (.iconst 0, 1) := by decide +kernel
theorem k172_77 : decode zm172.2.1 77 = .ok (.iconst 1, 1) := by decide +kernel
theorem k172_78 : decode zm172.2.1 78 = .ok (.goto 4, 3) := by decide +kernel
theorem k172_67 : decode zm172.2.1 67 = .ok (.iload_n 2, 1) := by decide +kernel
theorem k172_68 : decode zm172.2.1 68 = .ok (.iconst 4, 1) := by decide +kernel
theorem k172_69 : decode zm172.2.1 69 = .ok (.if_icmp .ne 12, 3) := by decide +kernel
theorem k172_72 : decode zm172.2.1 72 = .ok (.iload_n 3, 1) := by decide +kernel
theorem k172_73 : decode zm172.2.1 73 = .ok (.iconst 3, 1) := by decide +kernel
theorem k172_74 : decode zm172.2.1 74 = .ok (.if_icmp .ne 7, 3) := by decide +kernel
theorem k172_57 : decode zm172.2.1 57 = .ok (.iload_n 2, 1) := by decide +kernel
theorem k172_58 : decode zm172.2.1 58 = .ok (.iconst 3, 1) := by decide +kernel
theorem k172_59 : decode zm172.2.1 59 = .ok (.if_icmp .ne 8, 3) := by decide +kernel
theorem k172_62 : decode zm172.2.1 62 = .ok (.iload_n 3, 1) := by decide +kernel
theorem k172_63 : decode zm172.2.1 63 = .ok (.iconst 2, 1) := by decide +kernel
theorem k172_64 : decode zm172.2.1 64 = .ok (.if_icmp .ge 13, 3) := by decide +kernel
theorem k172_47 : decode zm172.2.1 47 = .ok (.iload_n 2, 1) := by decide +kernel
theorem k172_48 : decode zm172.2.1 48 = .ok (.iconst 2, 1) := by decide +kernel
theorem k172_49 : decode zm172.2.1 49 = .ok (.if_icmp .ne 8, 3) := by decide +kernel
theorem k172_52 : decode zm172.2.1 52 = .ok (.iload_n 3, 1) := by decide +kernel
theorem k172_53 : decode zm172.2.1 53 = .ok (.iconst 1, 1) := by decide +kernel
theorem k172_54 : decode zm172.2.1 54 = .ok (.if_icmp .eq 23, 3) := by decide +kernel
theorem k172_0 : decode zm172.2.1 0 = .ok (.aload_n 0, 1) := by decide +kernel
theorem k172_1 : decode zm172.2.1 1 = .ok (.iload_n 1, 1) := by decide +kernel
theorem k172_2 : decode zm172.2.1 2 = .ok (.invokevirtual 228, 3) := by decide +kernel
theorem k172_5 : decode zm172.2.1 5 = .ok (.ifCond .ne 6, 3) := by decide +kernel
theorem k172_11 : decode zm172.2.1 11 = .ok (.iload_n 2, 1) := by decide +kernel
theorem k172_12 : decode zm172.2.1 12 = .ok (.i2l, 1) := by decide +kernel
theorem k172_13 : decode zm172.2.1 13 = .ok (.lconst 0, 1) := by decide +kernel
theorem k172_14 : decode zm172.2.1 14 = .ok (.ldc2_w 234, 3) := by decide +kernel
theorem k172_17 : decode zm172.2.1 17 = .ok (.invokestatic 65, 3) := by decide +kernel
theorem k172_20 : decode zm172.2.1 20 = .ok (.ifCond .ne 6, 3) := by decide +kernel
theorem k172_26 : decode zm172.2.1 26 = .ok (.aload_n 0, 1) := by decide +kernel
theorem k172_27 : decode zm172.2.1 27 = .ok (.getfield 32, 3) := by decide +kernel
theorem k172_30 : decode zm172.2.1 30 = .ok (.iload_n 1, 1) := by decide +kernel
theorem k172_31 : decode zm172.2.1 31 = .ok (.iaload, 1) := by decide +kernel
theorem k172_32 : decode zm172.2.1 32 = .ok (.istore_n 3, 1) := by decide +kernel
theorem k172_33 : decode zm172.2.1 33 = .ok (.iload_n 2, 1) := by decide +kernel
theorem k172_34 : decode zm172.2.1 34 = .ok (.ifCond .eq 43, 3) := by decide +kernel
theorem k172_37 : decode zm172.2.1 37 = .ok (.iload_n 2, 1) := by decide +kernel
theorem k172_38 : decode zm172.2.1 38 = .ok (.iconst 1, 1) := by decide +kernel
theorem k172_39 : decode zm172.2.1 39 = .ok (.if_icmp .ne 8, 3) := by decide +kernel
theorem k172_42 : decode zm172.2.1 42 = .ok (.iload_n 3, 1) := by decide +kernel
theorem k172_43 : decode zm172.2.1 43 = .ok (.iconst 2, 1) := by decide +kernel
theorem k172_44 : decode zm172.2.1 44 = .ok (.if_icmp .lt 33, 3) := by decide +kernel
theorem k172_23 : decode zm172.2.1 23 = .ok (.bipush (-3), 2) := by decide +kernel
theorem k172_25 : decode zm172.2.1 25 = .ok (.ireturn, 1) := by decide +kernel
theorem k172_8 : decode zm172.2.1 8 = .ok (.bipush (-2), 2) := by decide +kernel
theorem k172_10 : decode zm172.2.1 10 = .ok (.ireturn, 1) := by decide +kernel
theorem cl_10_239 : zlx 10 239 = some 999 := by decide +kernel
theorem k183_0 : decode zm183.2.1 0 = .ok (.aload_n 0, 1) := by decide +kernel
theorem k183_1 : decode zm183.2.1 1 = .ok (.iload_n 1, 1) := by decide +kernel
theorem k183_2 : decode zm183.2.1 2 = .ok (.invokevirtual 228, 3) := by decide +kernel
theorem k183_5 : decode zm183.2.1 5 = .ok (.ifCond .ne 6, 3) := by decide +kernel
theorem k183_11 : decode zm183.2.1 11 = .ok (.aload_n 0, 1) := by decide +kernel
theorem k183_12 : decode zm183.2.1 12 = .ok (.invokevirtual 236, 3) := by decide +kernel
theorem k183_15 : decode zm183.2.1 15 = .ok (.iload_n 2, 1) := by decide +kernel
theorem k183_16 : decode zm183.2.1 16 = .ok (.i2l, 1) := by decide +kernel
theorem k183_17 : decode zm183.2.1 17 = .ok (.lconst 0, 1) := by decide +kernel
theorem k183_18 : decode zm183.2.1 18 = .ok (.ldc2_w 239, 3) := by decide +kernel
theorem k183_21 : decode zm183.2.1 21 = .ok (.invokestatic 65, 3) := by decide +kernel
theorem k183_24 : decode zm183.2.1 24 = .ok (.ifCond .eq 17, 3) := by decide +kernel
theorem k183_41 : decode zm183.2.1 41 = .ok (.bipush (-3), 2) := by decide +kernel
theorem k183_43 : decode zm183.2.1 43 = .ok (.ireturn, 1) := by decide +kernel
theorem k183_27 : decode zm183.2.1 27 = .ok (.aload_n 0, 1) := by decide +kernel
theorem k183_28 : decode zm183.2.1 28 = .ok (.aload_n 0, 1) := by decide +kernel
theorem k183_29 : decode zm183.2.1 29 = .ok (.getfield 32, 3) := by decide +kernel
theorem k183_32 : decode zm183.2.1 32 = .ok (.iload_n 1, 1) := by decide +kernel
theorem k183_33 : decode zm183.2.1 33 = .ok (.iaload, 1) := by decide +kernel
theorem k183_34 : decode zm183.2.1 34 = .ok (.iload_n 2, 1) := by decide +kernel
theorem k183_35 : decode zm183.2.1 35 = .ok (.invokevirtual 219, 3) := by decide +kernel
theorem k183_38 : decode zm183.2.1 38 = .ok (.goto 5, 3) := by decide +kernel
theorem k183_8 : decode zm183.2.1 8 = .ok (.bipush (-2), 2) := by decide +kernel
theorem k183_10 : decode zm183.2.1 10 = .ok (.ireturn, 1) := by decide +kernel
theorem k187_119 : decode zm187.2.1 119 = .ok (.iload_n 3, 1) := by decide +kernel
theorem k187_120 : decode zm187.2.1 120 = .ok (.aload_n 0, 1) := by decide +kernel
theorem k187_121 : decode zm187.2.1 121 = .ok (.getfield 194, 3) := by decide +kernel
theorem k187_124 : decode zm187.2.1 124 = .ok (.if_icmp .ge 32, 3) := by decide +kernel
theorem k187_156 : decode zm187.2.1 156 = .ok (.iconst 1, 1) := by decide +kernel
theorem k187_157 : decode zm187.2.1 157 = .ok (.ireturn, 1) := by decide +kernel
theorem k187_127 : decode zm187.2.1 127 = .ok (.aload_n 0, 1) := by decide +kernel
theorem k187_128 : decode zm187.2.1 128 = .ok (.getfield 7, 3) := by decide +kernel
theorem k187_131 : decode zm187.2.1 131 = .ok (.bipush 17, 2) := by decide +kernel
theorem k187_133 : decode zm187.2.1 133 = .ok (.bipush 10, 2) := by decide +kernel
theorem k187_135 : decode zm187.2.1 135 = .ok (.iload_n 1, 1) := by decide +kernel
theorem k187_136 : decode zm187.2.1 136 = .ok (.imul, 1) := by decide +kernel
theorem k187_137 : decode zm187.2.1 137 = .ok (.iadd, 1) := by decide +kernel
theorem k187_138 : decode zm187.2.1 138 = .ok (.aload_n 0, 1) := by decide +kernel
theorem k187_139 : decode zm187.2.1 139 = .ok (.getfield 51, 3) := by decide +kernel
theorem k187_142 : decode zm187.2.1 142 = .ok (.iload_n 3, 1) := by decide +kernel
theorem k187_143 : decode zm187.2.1 143 = .ok (.iaload, 1) := by decide +kernel
theorem k187_144 : decode zm187.2.1 144 = .ok (.iadd, 1) := by decide +kernel
theorem k187_145 : decode zm187.2.1 145 = .ok (.dup2, 1) := by decide +kernel
theorem k187_146 : decode zm187.2.1 146 = .ok (.iaload, 1) := by decide +kernel
theorem k187_147 : decode zm187.2.1 147 = .ok (.iconst 1, 1) := by decide +kernel
theorem k187_148 : decode zm187.2.1 148 = .ok (.iadd, 1) := by decide +kernel
theorem k187_149 : decode zm187.2.1 149 = .ok (.iastore, 1) := by decide +kernel
theorem k187_150 : decode zm187.2.1 150 = .ok (.iinc 3 1, 3) := by decide +kernel
theorem k187_153 : decode zm187.2.1 153 = .ok (.goto (-34), 3) := by decide +kernel
theorem k187_0 : decode zm187.2.1 0 = .ok (.aload_n 0, 1) := by decide +kernel
theorem k187_1 : decode zm187.2.1 1 = .ok (.iload_n 1, 1) := by decide +kernel
theorem k187_2 : decode zm187.2.1 2 = .ok (.invokevirtual 228, 3) := by decide +kernel
theorem k187_5 : decode zm187.2.1 5 = .ok (.ifCond .ne 6, 3) := by decide +kernel
theorem k187_11 : decode zm187.2.1 11 = .ok (.aload_n 0, 1) := by decide +kernel
theorem k187_12 : decode zm187.2.1 12 = .ok (.invokevirtual 236, 3) := by decide +kernel
theorem k187_15 : decode zm187.2.1 15 = .ok (.aload_n 0, 1) := by decide +kernel
theorem k187_16 : decode zm187.2.1 16 = .ok (.getfield 194, 3) := by decide +kernel
theorem k187_19 : decode zm187.2.1 19 = .ok (.ifCond .eq 10, 3) := by decide +kernel
theorem k187_29 : decode zm187.2.1 29 = .ok (.bipush (-4), 2) := by decide +kernel
theorem k187_31 : decode zm187.2.1 31 = .ok (.ireturn, 1) := by decide +kernel
theorem k187_22 : decode zm187.2.1 22 = .ok (.aload_n 0, 1) := by decide +kernel
theorem k187_23 : decode zm187.2.1 23 = .ok (.invokevirtual 222, 3) := by decide +kernel
theorem k187_26 : decode zm187.2.1 26 = .ok (.ifCond .eq 6, 3) := by decide +kernel
theorem k187_32 : decode zm187.2.1 32 = .ok (.aload_n 0, 1) := by decide +kernel
theorem k187_33 : decode zm187.2.1 33 = .ok (.invokevirtual 247, 3) := by decide +kernel
theorem k187_36 : decode zm187.2.1 36 = .ok (.aload_n 0, 1) := by decide +kernel
theorem k187_37 : decode zm187.2.1 37 = .ok (.aload_n 0, 1) := by decide +kernel
theorem k187_38 : decode zm187.2.1 38 = .ok (.getfield 32, 3) := by decide +kernel
theorem k187_41 : decode zm187.2.1 41 = .ok (.iload_n 1, 1) := by decide +kernel
theorem k187_42 : decode zm187.2.1 42 = .ok (.iaload, 1) := by decide +kernel
theorem k187_43 : decode zm187.2.1 43 = .ok (.aload_n 0, 1) := by decide +kernel
theorem k187_44 : decode zm187.2.1 44 = .ok (.getfield 7, 3) := by decide +kernel
theorem k187_47 : decode zm187.2.1 47 = .ok (.iconst 0, 1) := by decide +kernel
theorem k187_48 : decode zm187.2.1 48 = .ok (.iaload, 1) := by decide +kernel
theorem k187_49 : decode zm187.2.1 49 = .ok (.invokevirtual 219, 3) := by decide +kernel
theorem k187_52 : decode zm187.2.1 52 = .ok (.istore_n 2, 1) := by decide +kernel
theorem k187_53 : decode zm187.2.1 53 = .ok (.iload_n 2, 1) := by decide +kernel
theorem k187_54 : decode zm187.2.1 54 = .ok (.aload_n 0, 1) := by decide +kernel
theorem k187_55 : decode zm187.2.1 55 = .ok (.getfield 7, 3) := by decide +kernel
theorem k187_58 : decode zm187.2.1 58 = .ok (.iconst 1, 1) := by decide +kernel
theorem k187_59 : decode zm187.2.1 59 = .ok (.iload_n 1, 1) := by decide +kernel
theorem k187_60 : decode zm187.2.1 60 = .ok (.iadd, 1) := by decide +kernel
theorem k187_61 : decode zm187.2.1 61 = .ok (.iaload, 1) := by decide +kernel
theorem k187_62 : decode zm187.2.1 62 = .ok (.if_icmp .le 27, 3) := by decide +kernel
theorem k187_89 : decode zm187.2.1 89 = .ok (.aload_n 0, 1) := by decide +kernel
theorem k187_90 : decode zm187.2.1 90 = .ok (.getfield 7, 3) := by decide +kernel
theorem k187_93 : decode zm187.2.1 93 = .ok (.iconst 1, 1) := by decide +kernel
theorem k187_94 : decode zm187.2.1 94 = .ok (.iload_n 1, 1) := by decide +kernel
theorem k187_95 : decode zm187.2.1 95 = .ok (.iadd, 1) := by decide +kernel
theorem k187_96 : decode zm187.2.1 96 = .ok (.dup2, 1) := by decide +kernel
theorem k187_97 : decode zm187.2.1 97 = .ok (.iaload, 1) := by decide +kernel
theorem k187_98 : decode zm187.2.1 98 = .ok (.iload_n 2, 1) := by decide +kernel
theorem k187_99 : decode zm187.2.1 99 = .ok (.isub, 1) := by decide +kernel
theorem k187_100 : decode zm187.2.1 100 = .ok (.iastore, 1) := by decide +kernel
theorem k187_101 : decode zm187.2.1 101 = .ok (.aload_n 0, 1) := by decide +kernel
theorem k187_102 : decode zm187.2.1 102 = .ok (.getfield 7, 3) := by decide +kernel
theorem k187_105 : decode zm187.2.1 105 = .ok (.bipush 13, 2) := by decide +kernel
theorem k187_107 : decode zm187.2.1 107 = .ok (.iload_n 1, 1) := by decide +kernel
theorem k187_108 : decode zm187.2.1 108 = .ok (.iadd, 1) := by decide +kernel
theorem k187_109 : decode zm187.2.1 109 = .ok (.dup2, 1) := by decide +kernel
theorem k187_110 : decode zm187.2.1 110 = .ok (.iaload, 1) := by decide +kernel
theorem k187_111 : decode zm187.2.1 111 = .ok (.aload_n 0, 1) := by decide +kernel
theorem k187_112 : decode zm187.2.1 112 = .ok (.invokevirtual 250, 3) := by decide +kernel
theorem k187_115 : decode zm187.2.1 115 = .ok (.iadd, 1) := by decide +kernel
theorem k187_116 : decode zm187.2.1 116 = .ok (.iastore, 1) := by decide +kernel
theorem k187_117 : decode zm187.2.1 117 = .ok (.iconst 0, 1) := by decide +kernel
theorem k187_118 : decode zm187.2.1 118 = .ok (.istore_n 3, 1) := by decide +kernel
theorem k187_65 : decode zm187.2.1 65 = .ok (.aload_n 0, 1) := by decide +kernel
theorem k187_66 : decode zm187.2.1 66 = .ok (.getfield 7, 3) := by decide +kernel
theorem k187_69 : decode zm187.2.1 69 = .ok (.bipush 9, 2) := by decide +kernel
theorem k187_71 : decode zm187.2.1 71 = .ok (.iload_n 1, 1) := by decide +kernel
theorem k187_72 : decode zm187.2.1 72 = .ok (.iadd, 1) := by decide +kernel
theorem k187_73 : decode zm187.2.1 73 = .ok (.dup2, 1) := by decide +kernel
theorem k187_74 : decode zm187.2.1 74 = .ok (.iaload, 1) := by decide +kernel
theorem k187_75 : decode zm187.2.1 75 = .ok (.iconst 1, 1) := by decide +kernel
theorem k187_76 : decode zm187.2.1 76 = .ok (.iadd, 1) := by decide +kernel
theorem k187_77 : decode zm187.2.1 77 = .ok (.iastore, 1) := by decide +kernel
theorem k187_78 : decode zm187.2.1 78 = .ok (.aload_n 0, 1) := by decide +kernel
theorem k187_79 : decode zm187.2.1 79 = .ok (.getfield 7, 3) := by decide +kernel
theorem k187_82 : decode zm187.2.1 82 = .ok (.iconst 1, 1) := by decide +kernel
theorem k187_83 : decode zm187.2.1 83 = .ok (.iload_n 1, 1) := by decide +kernel
theorem k187_84 : decode zm187.2.1 84 = .ok (.iadd, 1) := by decide +kernel
theorem k187_85 : decode zm187.2.1 85 = .ok (.iconst 0, 1) := by decide +kernel
theorem k187_86 : decode zm187.2.1 86 = .ok (.iastore, 1) := by decide +kernel
theorem k187_87 : decode zm187.2.1 87 = .ok (.iconst 0, 1) := by decide +kernel
theorem k187_88 : decode zm187.2.1 88 = .ok (.ireturn, 1) := by decide +kernel
theorem k187_8 : decode zm187.2.1 8 = .ok (.bipush (-2), 2) := by decide +kernel
theorem k187_10 : decode zm187.2.1 10 = .ok (.ireturn, 1) := by decide +kernel
theorem k205_0 : decode zm205.2.1 0 = .ok (.aload_n 0, 1) := by decide +kernel
theorem k205_1 : decode zm205.2.1 1 = .ok (.iconst 0, 1) := by decide +kernel
theorem k205_2 : decode zm205.2.1 2 = .ok (.aload_n 0, 1) := by decide +kernel
theorem k205_3 : decode zm205.2.1 3 = .ok (.getfield 7, 3) := by decide +kernel
theorem k205_6 : decode zm205.2.1 6 = .ok (.iconst 0, 1) := by decide +kernel
theorem k205_7 : decode zm205.2.1 7 = .ok (.iaload, 1) := by decide +kernel
theorem k205_8 : decode zm205.2.1 8 = .ok (.invokevirtual 219, 3) := by decide +kernel
theorem k205_11 : decode zm205.2.1 11 = .ok (.ireturn, 1) := by decide +kernel
theorem k216_0 : decode zm216.2.1 0 = .ok (.iload_n 1, 1) := by decide +kernel
theorem k216_1 : decode zm216.2.1 1 = .ok (.i2l, 1) := by decide +kernel
theorem k216_2 : decode zm216.2.1 2 = .ok (.lconst 0, 1) := by decide +kernel
theorem k216_3 : decode zm216.2.1 3 = .ok (.aload_n 0, 1) := by decide +kernel
theorem k216_4 : decode zm216.2.1 4 = .ok (.getfield 188, 3) := by decide +kernel
theorem k216_7 : decode zm216.2.1 7 = .ok (.iconst 1, 1) := by decide +kernel
theorem k216_8 : decode zm216.2.1 8 = .ok (.isub, 1) := by decide +kernel
theorem k216_9 : decode zm216.2.1 9 = .ok (.i2l, 1) := by decide +kernel
theorem k216_10 : decode zm216.2.1 10 = .ok (.invokestatic 65, 3) := by decide +kernel
theorem k216_13 : decode zm216.2.1 13 = .ok (.ifCond .eq 11, 3) := by decide +kernel
theorem k216_24 : decode zm216.2.1 24 = .ok (.bipush (-2), 2) := by decide +kernel
theorem k216_26 : decode zm216.2.1 26 = .ok (.ireturn, 1) := by decide +kernel
theorem k216_16 : decode zm216.2.1 16 = .ok (.aload_n 0, 1) := by decide +kernel
theorem k216_17 : decode zm216.2.1 17 = .ok (.iload_n 2, 1) := by decide +kernel
theorem k216_18 : decode zm216.2.1 18 = .ok (.invokevirtual 228, 3) := by decide +kernel
theorem k216_21 : decode zm216.2.1 21 = .ok (.ifCond .ne 6, 3) := by decide +kernel
theorem k216_27 : decode zm216.2.1 27 = .ok (.aload_n 0, 1) := by decide +kernel
theorem k216_28 : decode zm216.2.1 28 = .ok (.iload_n 1, 1) := by decide +kernel
theorem k216_29 : decode zm216.2.1 29 = .ok (.invokevirtual 299, 3) := by decide +kernel
theorem k216_32 : decode zm216.2.1 32 = .ok (.iload_n 3, 1) := by decide +kernel
theorem k216_33 : decode zm216.2.1 33 = .ok (.ifCond .ne 10, 3) := by decide +kernel
theorem k216_43 : decode zm216.2.1 43 = .ok (.iload_n 3, 1) := by decide +kernel
theorem k216_44 : decode zm216.2.1 44 = .ok (.iconst 1, 1) := by decide +kernel
theorem k216_45 : decode zm216.2.1 45 = .ok (.if_icmp .ne 22, 3) := by decide +kernel
theorem k216_67 : decode zm216.2.1 67 = .ok (.iload_n 3, 1) := by decide +kernel
theorem k216_68 : decode zm216.2.1 68 = .ok (.iconst 2, 1) := by decide +kernel
theorem k216_69 : decode zm216.2.1 69 = .ok (.if_icmp .ne 10, 3) := by decide +kernel
theorem k216_79 : decode zm216.2.1 79 = .ok (.bipush (-3), 2) := by decide +kernel
theorem k216_81 : decode zm216.2.1 81 = .ok (.ireturn, 1) := by decide +kernel
theorem k216_72 : decode zm216.2.1 72 = .ok (.aload_n 0, 1) := by decide +kernel
theorem k216_73 : decode zm216.2.1 73 = .ok (.invokevirtual 250, 3) := by decide +kernel
theorem k216_76 : decode zm216.2.1 76 = .ok (.goto 5, 3) := by decide +kernel
theorem k216_48 : decode zm216.2.1 48 = .ok (.aload_n 0, 1) := by decide +kernel
theorem k216_49 : decode zm216.2.1 49 = .ok (.aload_n 0, 1) := by decide +kernel
theorem k216_50 : decode zm216.2.1 50 = .ok (.getfield 32, 3) := by decide +kernel
theorem k216_53 : decode zm216.2.1 53 = .ok (.iload_n 2, 1) := by decide +kernel
theorem k216_54 : decode zm216.2.1 54 = .ok (.iaload, 1) := by decide +kernel
theorem k216_55 : decode zm216.2.1 55 = .ok (.aload_n 0, 1) := by decide +kernel
theorem k216_56 : decode zm216.2.1 56 = .ok (.getfield 7, 3) := by decide +kernel
theorem k216_59 : decode zm216.2.1 59 = .ok (.iconst 0, 1) := by decide +kernel
theorem k216_60 : decode zm216.2.1 60 = .ok (.iaload, 1) := by decide +kernel
theorem k216_61 : decode zm216.2.1 61 = .ok (.invokevirtual 219, 3) := by decide +kernel
theorem k216_64 : decode zm216.2.1 64 = .ok (.goto 17, 3) := by decide +kernel
theorem k216_36 : decode zm216.2.1 36 = .ok (.aload_n 0, 1) := by decide +kernel
theorem k216_37 : decode zm216.2.1 37 = .ok (.getfield 194, 3) := by decide +kernel
theorem k216_40 : decode zm216.2.1 40 = .ok (.goto 41, 3) := by decide +kernel
theorem k221_80 : decode zm221.2.1 80 = .ok (.istore 4, 2) := by decide +kernel
theorem k221_82 : decode zm221.2.1 82 = .ok (.aload_n 0, 1) := by decide +kernel
theorem k221_83 : decode zm221.2.1 83 = .ok (.iload_n 1, 1) := by decide +kernel
theorem k221_84 : decode zm221.2.1 84 = .ok (.iload_n 3, 1) := by decide +kernel
theorem k221_85 : decode zm221.2.1 85 = .ok (.iload 6, 2) := by decide +kernel
theorem k221_87 : decode zm221.2.1 87 = .ok (.isub, 1) := by decide +kernel
theorem k221_88 : decode zm221.2.1 88 = .ok (.invokevirtual 253, 3) := by decide +kernel
theorem k221_91 : decode zm221.2.1 91 = .ok (.istore_n 3, 1) := by decide +kernel
theorem k221_92 : decode zm221.2.1 92 = .ok (.iinc 5 1, 3) := by decide +kernel
theorem k221_95 : decode zm221.2.1 95 = .ok (.goto (-80), 3) := by decide +kernel
theorem k221_79 : decode zm221.2.1 79 = .ok (.iconst 0, 1) := by decide +kernel
theorem k221_62 : decode zm221.2.1 62 = .ok (.istore 6, 2) := by decide +kernel
theorem k221_64 : decode zm221.2.1 64 = .ok (.iload 4, 2) := by decide +kernel
theorem k221_66 : decode zm221.2.1 66 = .ok (.ifCond .eq 13, 3) := by decide +kernel
theorem k221_69 : decode zm221.2.1 69 = .ok (.iload 6, 2) := by decide +kernel
theorem k221_71 : decode zm221.2.1 71 = .ok (.iload_n 3, 1) := by decide +kernel
theorem k221_72 : decode zm221.2.1 72 = .ok (.if_icmp .gt 7, 3) := by decide +kernel
theorem k221_75 : decode zm221.2.1 75 = .ok (.iconst 1, 1) := by decide +kernel
theorem k221_76 : decode zm221.2.1 76 = .ok (.goto 4, 3) := by decide +kernel
theorem k221_15 : decode zm221.2.1 15 = .ok (.iload 5, 2) := by decide +kernel
theorem k221_17 : decode zm221.2.1 17 = .ok (.aload_n 0, 1) := by decide +kernel
theorem k221_18 : decode zm221.2.1 18 = .ok (.getfield 188, 3) := by decide +kernel
theorem k221_21 : decode zm221.2.1 21 = .ok (.if_icmp .ge 77, 3) := by decide +kernel
theorem k221_98 : decode zm221.2.1 98 = .ok (.iload 4, 2) := by decide +kernel
theorem k221_100 : decode zm221.2.1 100 = .ok (.ireturn, 1) := by decide +kernel
theorem k221_24 : decode zm221.2.1 24 = .ok (.aload_n 0, 1) := by decide +kernel
theorem k221_25 : decode zm221.2.1 25 = .ok (.iload 5, 2) := by decide +kernel
theorem k221_27 : decode zm221.2.1 27 = .ok (.invokevirtual 299, 3) := by decide +kernel
theorem k221_30 : decode zm221.2.1 30 = .ok (.iload_n 2, 1) := by decide +kernel
theorem k221_31 : decode zm221.2.1 31 = .ok (.iload 5, 2) := by decide +kernel
theorem k221_33 : decode zm221.2.1 33 = .ok (.invokestatic 203, 3) := by decide +kernel
theorem k221_36 : decode zm221.2.1 36 = .ok (.ifCond .eq 25, 3) := by decide +kernel
theorem k221_61 : decode zm221.2.1 61 = .ok (.iconst 0, 1) := by decide +kernel
theorem k221_39 : decode zm221.2.1 39 = .ok (.aload_n 0, 1) := by decide +kernel
theorem k221_40 : decode zm221.2.1 40 = .ok (.aload_n 0, 1) := by decide +kernel
theorem k221_41 : decode zm221.2.1 41 = .ok (.getfield 32, 3) := by decide +kernel
theorem k221_44 : decode zm221.2.1 44 = .ok (.iload_n 1, 1) := by decide +kernel
theorem k221_45 : decode zm221.2.1 45 = .ok (.iaload, 1) := by decide +kernel
theorem k221_46 : decode zm221.2.1 46 = .ok (.aload_n 0, 1) := by decide +kernel
theorem k221_47 : decode zm221.2.1 47 = .ok (.getfield 7, 3) := by decide +kernel
theorem k221_50 : decode zm221.2.1 50 = .ok (.iconst 0, 1) := by decide +kernel
theorem k221_51 : decode zm221.2.1 51 = .ok (.iaload, 1) := by decide +kernel
theorem k221_52 : decode zm221.2.1 52 = .ok (.iload 5, 2) := by decide +kernel
theorem k221_54 : decode zm221.2.1 54 = .ok (.iadd, 1) := by decide +kernel
theorem k221_55 : decode zm221.2.1 55 = .ok (.invokevirtual 219, 3) := by decide +kernel
theorem k221_58 : decode zm221.2.1 58 = .ok (.goto 4, 3) := by decide +kernel
theorem k221_0 : decode zm221.2.1 0 = .ok (.aload_n 0, 1) := by decide +kernel
theorem k221_1 : decode zm221.2.1 1 = .ok (.getfield 7, 3) := by decide +kernel
theorem k221_4 : decode zm221.2.1 4 = .ok (.iconst 1, 1) := by decide +kernel
theorem k221_5 : decode zm221.2.1 5 = .ok (.iload_n 1, 1) := by decide +kernel
theorem k221_6 : decode zm221.2.1 6 = .ok (.iadd, 1) := by decide +kernel
theorem k221_7 : decode zm221.2.1 7 = .ok (.iaload, 1) := by decide +kernel
theorem k221_8 : decode zm221.2.1 8 = .ok (.istore_n 3, 1) := by decide +kernel
theorem k221_9 : decode zm221.2.1 9 = .ok (.iconst 1, 1) := by decide +kernel
theorem k221_10 : decode zm221.2.1 10 = .ok (.istore 4, 2) := by decide +kernel
theorem k221_12 : decode zm221.2.1 12 = .ok (.iconst 0, 1) := by decide +kernel
theorem k221_13 : decode zm221.2.1 13 = .ok (.istore 5, 2) := by decide +kernel
theorem lk_1_83 : zmx 1 83 = some (25, 1) := by decide +kernel
theorem lk_1_87 : zmx 1 87 = some (27, 1) := by decide +kernel
theorem k24_105 : decode zm24.2.1 105 = .ok (.iinc 5 1, 3) := by decide +kernel
theorem k24_108 : decode zm24.2.1 108 = .ok (.goto (-92), 3) := by decide +kernel
theorem k24_94 : decode zm24.2.1 94 = .ok (.iinc 2 1, 3) := by decide +kernel
theorem k24_97 : decode zm24.2.1 97 = .ok (.aload_n 0, 1) := by decide +kernel
theorem k24_98 : decode zm24.2.1 98 = .ok (.getfield 41, 3) := by decide +kernel
theorem k24_101 : decode zm24.2.1 101 = .ok (.istore_n 3, 1) := by decide +kernel
theorem k24_102 : decode zm24.2.1 102 = .ok (.iconst 1, 1) := by decide +kernel
theorem k24_103 : decode zm24.2.1 103 = .ok (.istore 4, 2) := by decide +kernel
theorem k24_71 : decode zm24.2.1 71 = .ok (.istore 4, 2) := by decide +kernel
theorem k24_73 : decode zm24.2.1 73 = .ok (.iinc 3 1, 3) := by decide +kernel
theorem k24_76 : decode zm24.2.1 76 = .ok (.goto 29, 3) := by decide +kernel
theorem k24_70 : decode zm24.2.1 70 = .ok (.iconst 0, 1) := by decide +kernel
theorem k24_16 : decode zm24.2.1 16 = .ok (.iload 5, 2) := by decide +kernel
theorem k24_18 : decode zm24.2.1 18 = .ok (.aload_n 1, 1) := by decide +kernel
theorem k24_19 : decode zm24.2.1 19 = .ok (.invokevirtual 83, 3) := by decide +kernel
theorem k24_22 : decode zm24.2.1 22 = .ok (.if_icmp .ge 89, 3) := by decide +kernel
theorem k24_111 : decode zm24.2.1 111 = .ok (.iconst (-1), 1) := by decide +kernel
theorem k24_112 : decode zm24.2.1 112 = .ok (.ireturn, 1) := by decide +kernel
theorem k24_25 : decode zm24.2.1 25 = .ok (.aload_n 1, 1) := by decide +kernel
theorem k24_26 : decode zm24.2.1 26 = .ok (.iload 5, 2) := by decide +kernel
theorem k24_28 : decode zm24.2.1 28 = .ok (.invokevirtual 87, 3) := by decide +kernel
theorem k24_31 : decode zm24.2.1 31 = .ok (.istore 6, 2) := by decide +kernel
theorem k24_33 : decode zm24.2.1 33 = .ok (.iload 6, 2) := by decide +kernel
theorem k24_35 : decode zm24.2.1 35 = .ok (.bipush 32, 2) := by decide +kernel
theorem k24_37 : decode zm24.2.1 37 = .ok (.if_icmp .eq 42, 3) := by decide +kernel
theorem k24_79 : decode zm24.2.1 79 = .ok (.iload 4, 2) := by decide +kernel
theorem k24_81 : decode zm24.2.1 81 = .ok (.ifCond .eq 13, 3) := by decide +kernel
theorem k24_84 : decode zm24.2.1 84 = .ok (.iload_n 3, 1) := by decide +kernel
theorem k24_85 : decode zm24.2.1 85 = .ok (.aload_n 0, 1) := by decide +kernel
theorem k24_86 : decode zm24.2.1 86 = .ok (.getfield 28, 3) := by decide +kernel
theorem k24_89 : decode zm24.2.1 89 = .ok (.if_icmp .ne 5, 3) := by decide +kernel
theorem k24_92 : decode zm24.2.1 92 = .ok (.iload_n 2, 1) := by decide +kernel
theorem k24_93 : decode zm24.2.1 93 = .ok (.ireturn, 1) := by decide +kernel
theorem k24_40 : decode zm24.2.1 40 = .ok (.iload 4, 2) := by decide +kernel
theorem k24_42 : decode zm24.2.1 42 = .ok (.ifCond .eq 28, 3) := by decide +kernel
theorem k24_45 : decode zm24.2.1 45 = .ok (.iload_n 3, 1) := by decide +kernel
theorem k24_46 : decode zm24.2.1 46 = .ok (.aload_n 0, 1) := by decide +kernel
theorem k24_47 : decode zm24.2.1 47 = .ok (.getfield 28, 3) := by decide +kernel
theorem k24_50 : decode zm24.2.1 50 = .ok (.if_icmp .ge 20, 3) := by decide +kernel
theorem k24_53 : decode zm24.2.1 53 = .ok (.aload_n 0, 1) := by decide +kernel
theorem k24_54 : decode zm24.2.1 54 = .ok (.getfield 14, 3) := by decide +kernel
theorem k24_57 : decode zm24.2.1 57 = .ok (.iload_n 3, 1) := by decide +kernel
theorem k24_58 : decode zm24.2.1 58 = .ok (.invokevirtual 44, 3) := by decide +kernel
theorem k24_61 : decode zm24.2.1 61 = .ok (.iload 6, 2) := by decide +kernel
theorem k24_63 : decode zm24.2.1 63 = .ok (.if_icmp .ne 7, 3) := by decide +kernel
theorem k24_66 : decode zm24.2.1 66 = .ok (.iconst 1, 1) := by decide +kernel
theorem k24_67 : decode zm24.2.1 67 = .ok (.goto 4, 3) := by decide +kernel
theorem k24_0 : decode zm24.2.1 0 = .ok (.ldc 81, 2) := by decide +kernel
theorem k24_2 : decode zm24.2.1 2 = .ok (.astore_n 1, 1) := by decide +kernel
theorem k24_3 : decode zm24.2.1 3 = .ok (.iconst 0, 1) := by decide +kernel
theorem k24_4 : decode zm24.2.1 4 = .ok (.istore_n 2, 1) := by decide +kernel
theorem k24_5 : decode zm24.2.1 5 = .ok (.aload_n 0, 1) := by decide +kernel
theorem k24_6 : decode zm24.2.1 6 = .ok (.getfield 41, 3) := by decide +kernel
theorem k24_9 : decode zm24.2.1 9 = .ok (.istore_n 3, 1) := by decide +kernel
theorem k24_10 : decode zm24.2.1 10 = .ok (.iconst 1, 1) := by decide +kernel
theorem k24_11 : decode zm24.2.1 11 = .ok (.istore 4, 2) := by decide +kernel
theorem k24_13 : decode zm24.2.1 13 = .ok (.iconst 0, 1) := by decide +kernel
theorem k24_14 : decode zm24.2.1 14 = .ok (.istore 5, 2) := by decide +kernel
theorem lk_0_156 : zmx 0 156 = some (57, 0) := by decide +kernel
theorem lk_0_160 : zmx 0 160 = some (58, 1) := by decide +kernel
theorem k56_0 : decode zm56.2.1 0 = .ok (.aload_n 0, 1) := by decide +kernel
theorem k56_1 : decode zm56.2.1 1 = .ok (.iload_n 1, 1) := by decide +kernel
theorem k56_2 : decode zm56.2.1 2 = .ok (.invokevirtual 134, 3) := by decide +kernel
theorem k56_5 : decode zm56.2.1 5 = .ok (.ifCond .ne 6, 3) := by decide +kernel
theorem k56_11 : decode zm56.2.1 11 = .ok (.iload_n 2, 1) := by decide +kernel
theorem k56_12 : decode zm56.2.1 12 = .ok (.iconst 0, 1) := by decide +kernel
theorem k56_13 : decode zm56.2.1 13 = .ok (.iconst 4, 1) := by decide +kernel
theorem k56_14 : decode zm56.2.1 14 = .ok (.invokestatic 68, 3) := by decide +kernel
theorem k56_17 : decode zm56.2.1 17 = .ok (.ifCond .ne 6, 3) := by decide +kernel
theorem k56_23 : decode zm56.2.1 23 = .ok (.aload_n 0, 1) := by decide +kernel
theorem k56_24 : decode zm56.2.1 24 = .ok (.getfield 19, 3) := by decide +kernel
theorem k56_27 : decode zm56.2.1 27 = .ok (.iload_n 1, 1) := by decide +kernel
theorem k56_28 : decode zm56.2.1 28 = .ok (.invokevirtual 137, 3) := by decide +kernel
theorem k56_31 : decode zm56.2.1 31 = .ok (.iload_n 2, 1) := by decide +kernel
theorem k56_32 : decode zm56.2.1 32 = .ok (.invokestatic 156, 3) := by decide +kernel
theorem k56_35 : decode zm56.2.1 35 = .ok (.ifCond .eq 18, 3) := by decide +kernel
theorem k56_53 : decode zm56.2.1 53 = .ok (.bipush (-4), 2) := by decide +kernel
theorem k56_55 : decode zm56.2.1 55 = .ok (.ireturn, 1) := by decide +kernel
theorem k56_38 : decode zm56.2.1 38 = .ok (.aload_n 0, 1) := by decide +kernel
theorem k56_39 : decode zm56.2.1 39 = .ok (.iload_n 1, 1) := by decide +kernel
theorem k56_40 : decode zm56.2.1 40 = .ok (.aload_n 0, 1) := by decide +kernel
theorem k56_41 : decode zm56.2.1 41 = .ok (.getfield 29, 3) := by decide +kernel
theorem k56_44 : decode zm56.2.1 44 = .ok (.getfield 111, 3) := by decide +kernel
theorem k56_47 : decode zm56.2.1 47 = .ok (.invokevirtual 160, 3) := by decide +kernel
theorem k56_50 : decode zm56.2.1 50 = .ok (.goto 5, 3) := by decide +kernel
theorem k56_20 : decode zm56.2.1 20 = .ok (.bipush (-3), 2) := by decide +kernel
theorem k56_22 : decode zm56.2.1 22 = .ok (.ireturn, 1) := by decide +kernel
theorem k56_8 : decode zm56.2.1 8 = .ok (.bipush (-2), 2) := by decide +kernel
theorem k56_10 : decode zm56.2.1 10 = .ok (.ireturn, 1) := by decide +kernel
theorem k72_0 : decode zm72.2.1 0 = .ok (.aload_n 0, 1) := by decide +kernel
theorem k72_1 : decode zm72.2.1 1 = .ok (.iload_n 1, 1) := by decide +kernel
theorem k72_2 : decode zm72.2.1 2 = .ok (.invokevirtual 134, 3) := by decide +kernel
theorem k72_5 : decode zm72.2.1 5 = .ok (.ifCond .ne 6, 3) := by decide +kernel
theorem k72_11 : decode zm72.2.1 11 = .ok (.iload_n 2, 1) := by decide +kernel
theorem k72_12 : decode zm72.2.1 12 = .ok (.iconst 0, 1) := by decide +kernel
theorem k72_13 : decode zm72.2.1 13 = .ok (.sipush 999, 3) := by decide +kernel
theorem k72_16 : decode zm72.2.1 16 = .ok (.invokestatic 68, 3) := by decide +kernel
theorem k72_19 : decode zm72.2.1 19 = .ok (.ifCond .eq 12, 3) := by decide +kernel
theorem k72_31 : decode zm72.2.1 31 = .ok (.bipush (-3), 2) := by decide +kernel
theorem k72_33 : decode zm72.2.1 33 = .ok (.ireturn, 1) := by decide +kernel
theorem k72_22 : decode zm72.2.1 22 = .ok (.aload_n 0, 1) := by decide +kernel
theorem k72_23 : decode zm72.2.1 23 = .ok (.iload_n 1, 1) := by decide +kernel
theorem k72_24 : decode zm72.2.1 24 = .ok (.iload_n 2, 1) := by decide +kernel
theorem k72_25 : decode zm72.2.1 25 = .ok (.invokevirtual 160, 3) := by decide +kernel
theorem k72_28 : decode zm72.2.1 28 = .ok (.goto 5, 3) := by decide +kernel
theorem k72_8 : decode zm72.2.1 8 = .ok (.bipush (-2), 2) := by decide +kernel
theorem k72_10 : decode zm72.2.1 10 = .ok (.ireturn, 1) := by decide +kernel
theorem lk_0_193 : zmx 0 193 = some (84, 1) := by decide +kernel
theorem k75_0 : decode zm75.2.1 0 = .ok (.aload_n 0, 1) := by decide +kernel
theorem k75_1 : decode zm75.2.1 1 = .ok (.iload_n 1, 1) := by decide +kernel
theorem k75_2 : decode zm75.2.1 2 = .ok (.invokevirtual 134, 3) := by decide +kernel
theorem k75_5 : decode zm75.2.1 5 = .ok (.ifCond .ne 6, 3) := by decide +kernel
theorem k75_11 : decode zm75.2.1 11 = .ok (.aload_n 0, 1) := by decide +kernel
theorem k75_12 : decode zm75.2.1 12 = .ok (.getfield 43, 3) := by decide +kernel
theorem k75_15 : decode zm75.2.1 15 = .ok (.invokevirtual 175, 3) := by decide +kernel
theorem k75_18 : decode zm75.2.1 18 = .ok (.ifCond .ne 6, 3) := by decide +kernel
theorem k75_24 : decode zm75.2.1 24 = .ok (.aload_n 0, 1) := by decide +kernel
theorem k75_25 : decode zm75.2.1 25 = .ok (.getfield 36, 3) := by decide +kernel
theorem k75_28 : decode zm75.2.1 28 = .ok (.aload_n 0, 1) := by decide +kernel
theorem k75_29 : decode zm75.2.1 29 = .ok (.getfield 29, 3) := by decide +kernel
theorem k75_32 : decode zm75.2.1 32 = .ok (.invokevirtual 179, 3) := by decide +kernel
theorem k75_35 : decode zm75.2.1 35 = .ok (.aload_n 0, 1) := by decide +kernel
theorem k75_36 : decode zm75.2.1 36 = .ok (.iload_n 1, 1) := by decide +kernel
theorem k75_37 : decode zm75.2.1 37 = .ok (.aload_n 0, 1) := by decide +kernel
theorem k75_38 : decode zm75.2.1 38 = .ok (.getfield 29, 3) := by decide +kernel
theorem k75_41 : decode zm75.2.1 41 = .ok (.getfield 111, 3) := by decide +kernel
theorem k75_44 : decode zm75.2.1 44 = .ok (.invokevirtual 160, 3) := by decide +kernel
theorem k75_47 : decode zm75.2.1 47 = .ok (.istore_n 2, 1) := by decide +kernel
theorem k75_48 : decode zm75.2.1 48 = .ok (.aload_n 0, 1) := by decide +kernel
theorem k75_49 : decode zm75.2.1 49 = .ok (.getfield 29, 3) := by decide +kernel
theorem k75_52 : decode zm75.2.1 52 = .ok (.getfield 140, 3) := by decide +kernel
theorem k75_55 : decode zm75.2.1 55 = .ok (.iload_n 1, 1) := by decide +kernel
theorem k75_56 : decode zm75.2.1 56 = .ok (.invokevirtual 122, 3) := by decide +kernel
theorem k75_59 : decode zm75.2.1 59 = .ok (.iload_n 2, 1) := by decide +kernel
theorem k75_60 : decode zm75.2.1 60 = .ok (.if_icmp .ge 29, 3) := by decide +kernel
theorem k75_89 : decode zm75.2.1 89 = .ok (.aload_n 0, 1) := by decide +kernel
theorem k75_90 : decode zm75.2.1 90 = .ok (.getfield 29, 3) := by decide +kernel
theorem k75_93 : decode zm75.2.1 93 = .ok (.getfield 140, 3) := by decide +kernel
theorem k75_96 : decode zm75.2.1 96 = .ok (.iload_n 1, 1) := by decide +kernel
theorem k75_97 : decode zm75.2.1 97 = .ok (.iload_n 2, 1) := by decide +kernel
theorem k75_98 : decode zm75.2.1 98 = .ok (.ineg, 1) := by decide +kernel
theorem k75_99 : decode zm75.2.1 99 = .ok (.invokevirtual 183, 3) := by decide +kernel
theorem k75_102 : decode zm75.2.1 102 = .ok (.aload_n 0, 1) := by decide +kernel
theorem k75_103 : decode zm75.2.1 103 = .ok (.getfield 29, 3) := by decide +kernel
theorem k75_106 : decode zm75.2.1 106 = .ok (.getfield 149, 3) := by decide +kernel
theorem k75_109 : decode zm75.2.1 109 = .ok (.iload_n 1, 1) := by decide +kernel
theorem k75_110 : decode zm75.2.1 110 = .ok (.aload_n 0, 1) := by decide +kernel
theorem k75_111 : decode zm75.2.1 111 = .ok (.getfield 19, 3) := by decide +kernel
theorem k75_114 : decode zm75.2.1 114 = .ok (.aload_n 0, 1) := by decide +kernel
theorem k75_115 : decode zm75.2.1 115 = .ok (.getfield 43, 3) := by decide +kernel
theorem k75_118 : decode zm75.2.1 118 = .ok (.invokevirtual 189, 3) := by decide +kernel
theorem k75_121 : decode zm75.2.1 121 = .ok (.invokevirtual 183, 3) := by decide +kernel
theorem k75_124 : decode zm75.2.1 124 = .ok (.aload_n 0, 1) := by decide +kernel
theorem k75_125 : decode zm75.2.1 125 = .ok (.getfield 29, 3) := by decide +kernel
theorem k75_128 : decode zm75.2.1 128 = .ok (.iload_n 1, 1) := by decide +kernel
theorem k75_129 : decode zm75.2.1 129 = .ok (.aload_n 0, 1) := by decide +kernel
theorem k75_130 : decode zm75.2.1 130 = .ok (.getfield 43, 3) := by decide +kernel
theorem k75_133 : decode zm75.2.1 133 = .ok (.invokevirtual 193, 3) := by decide +kernel
theorem k75_136 : decode zm75.2.1 136 = .ok (.iconst 1, 1) := by decide +kernel
theorem k75_137 : decode zm75.2.1 137 = .ok (.ireturn, 1) := by decide +kernel
theorem k75_63 : decode zm75.2.1 63 = .ok (.aload_n 0, 1) := by decide +kernel
theorem k75_64 : decode zm75.2.1 64 = .ok (.getfield 29, 3) := by decide +kernel
theorem k75_67 : decode zm75.2.1 67 = .ok (.getfield 146, 3) := by decide +kernel
theorem k75_70 : decode zm75.2.1 70 = .ok (.iload_n 1, 1) := by decide +kernel
theorem k75_71 : decode zm75.2.1 71 = .ok (.iconst 1, 1) := by decide +kernel
theorem k75_72 : decode zm75.2.1 72 = .ok (.invokevirtual 183, 3) := by decide +kernel
theorem k75_75 : decode zm75.2.1 75 = .ok (.aload_n 0, 1) := by decide +kernel
theorem k75_76 : decode zm75.2.1 76 = .ok (.getfield 29, 3) := by decide +kernel
theorem k75_79 : decode zm75.2.1 79 = .ok (.getfield 140, 3) := by decide +kernel
theorem k75_82 : decode zm75.2.1 82 = .ok (.iload_n 1, 1) := by decide +kernel
theorem k75_83 : decode zm75.2.1 83 = .ok (.iconst 0, 1) := by decide +kernel
theorem k75_84 : decode zm75.2.1 84 = .ok (.invokevirtual 186, 3) := by decide +kernel
theorem k75_87 : decode zm75.2.1 87 = .ok (.iconst 0, 1) := by decide +kernel
theorem k75_88 : decode zm75.2.1 88 = .ok (.ireturn, 1) := by decide +kernel
theorem k75_21 : decode zm75.2.1 21 = .ok (.bipush (-4), 2) := by decide +kernel
theorem k75_23 : decode zm75.2.1 23 = .ok (.ireturn, 1) := by decide +kernel
theorem k75_8 : decode zm75.2.1 8 = .ok (.bipush (-2), 2) := by decide +kernel
theorem k75_10 : decode zm75.2.1 10 = .ok (.ireturn, 1) := by decide +kernel
theorem lk_0_224 : zmx 0 224 = some (100, 1) := by decide +kernel
theorem lk_0_227 : zmx 0 227 = some (101, 1) := by decide +kernel
theorem fk_0_231 : zfx 0 231 = some (9, 3) := by decide +kernel
theorem fk_0_234 : zfx 0 234 = some (9, 1) := by decide +kernel
theorem k99_0 : decode zm99.2.1 0 = .ok (.iload_n 1, 1) := by decide +kernel
theorem k99_1 : decode zm99.2.1 1 = .ok (.iconst (-1), 1) := by decide +kernel
theorem k99_2 : decode zm99.2.1 2 = .ok (.if_icmp .ge 6, 3) := by decide +kernel
theorem k99_8 : decode zm99.2.1 8 = .ok (.aload_n 0, 1) := by decide +kernel
theorem k99_9 : decode zm99.2.1 9 = .ok (.invokevirtual 224, 3) := by decide +kernel
theorem k99_12 : decode zm99.2.1 12 = .ok (.ifCond .ne 6, 3) := by decide +kernel
theorem k99_18 : decode zm99.2.1 18 = .ok (.aload_n 0, 1) := by decide +kernel
theorem k99_19 : decode zm99.2.1 19 = .ok (.getfield 50, 3) := by decide +kernel
theorem k99_22 : decode zm99.2.1 22 = .ok (.aload_n 0, 1) := by decide +kernel
theorem k99_23 : decode zm99.2.1 23 = .ok (.getfield 19, 3) := by decide +kernel
theorem k99_26 : decode zm99.2.1 26 = .ok (.aload_n 0, 1) := by decide +kernel
theorem k99_27 : decode zm99.2.1 27 = .ok (.getfield 29, 3) := by decide +kernel
theorem k99_30 : decode zm99.2.1 30 = .ok (.getfield 111, 3) := by decide +kernel
theorem k99_33 : decode zm99.2.1 33 = .ok (.invokevirtual 167, 3) := by decide +kernel
theorem k99_36 : decode zm99.2.1 36 = .ok (.aload_n 0, 1) := by decide +kernel
theorem k99_37 : decode zm99.2.1 37 = .ok (.getfield 64, 3) := by decide +kernel
theorem k99_40 : decode zm99.2.1 40 = .ok (.aload_n 0, 1) := by decide +kernel
theorem k99_41 : decode zm99.2.1 41 = .ok (.getfield 43, 3) := by decide +kernel
theorem k99_44 : decode zm99.2.1 44 = .ok (.aload_n 0, 1) := by decide +kernel
theorem k99_45 : decode zm99.2.1 45 = .ok (.getfield 50, 3) := by decide +kernel
theorem k99_48 : decode zm99.2.1 48 = .ok (.invokevirtual 227, 3) := by decide +kernel
theorem k99_51 : decode zm99.2.1 51 = .ok (.aload_n 0, 1) := by decide +kernel
theorem k99_52 : decode zm99.2.1 52 = .ok (.getfield 64, 3) := by decide +kernel
theorem k99_55 : decode zm99.2.1 55 = .ok (.getfield 231, 3) := by decide +kernel
theorem k99_58 : decode zm99.2.1 58 = .ok (.iconst (-1), 1) := by decide +kernel
theorem k99_59 : decode zm99.2.1 59 = .ok (.if_icmp .eq 8, 3) := by decide +kernel
theorem k99_67 : decode zm99.2.1 67 = .ok (.aload_n 0, 1) := by decide +kernel
theorem k99_68 : decode zm99.2.1 68 = .ok (.getfield 64, 3) := by decide +kernel
theorem k99_71 : decode zm99.2.1 71 = .ok (.getfield 231, 3) := by decide +kernel
theorem k99_74 : decode zm99.2.1 74 = .ok (.ireturn, 1) := by decide +kernel
theorem k99_62 : decode zm99.2.1 62 = .ok (.iload_n 1, 1) := by decide +kernel
theorem k99_63 : decode zm99.2.1 63 = .ok (.iconst (-1), 1) := by decide +kernel
theorem k99_64 : decode zm99.2.1 64 = .ok (.if_icmp .ne 11, 3) := by decide +kernel
theorem k99_75 : decode zm99.2.1 75 = .ok (.aload_n 0, 1) := by decide +kernel
theorem k99_76 : decode zm99.2.1 76 = .ok (.getfield 64, 3) := by decide +kernel
theorem k99_79 : decode zm99.2.1 79 = .ok (.getfield 234, 3) := by decide +kernel
theorem k99_82 : decode zm99.2.1 82 = .ok (.iload_n 1, 1) := by decide +kernel
theorem k99_83 : decode zm99.2.1 83 = .ok (.invokevirtual 164, 3) := by decide +kernel
theorem k99_86 : decode zm99.2.1 86 = .ok (.ireturn, 1) := by decide +kernel
theorem k99_15 : decode zm99.2.1 15 = .ok (.bipush (-4), 2) := by decide +kernel
theorem k99_17 : decode zm99.2.1 17 = .ok (.ireturn, 1) := by decide +kernel
theorem k99_5 : decode zm99.2.1 5 = .ok (.bipush (-3), 2) := by decide +kernel
theorem k99_7 : decode zm99.2.1 7 = .ok (.ireturn, 1) := by decide +kernel
theorem fk_0_237 : zfx 0 237 = some (9, 4) := by decide +kernel
theorem k108_0 : decode zm108.2.1 0 = .ok (.aload_n 0, 1) := by decide +kernel
theorem k108_1 : decode zm108.2.1 1 = .ok (.invokevirtual 224, 3) := by decide +kernel
theorem k108_4 : decode zm108.2.1 4 = .ok (.ifCond .ne 6, 3) := by decide +kernel
theorem k108_10 : decode zm108.2.1 10 = .ok (.aload_n 0, 1) := by decide +kernel
theorem k108_11 : decode zm108.2.1 11 = .ok (.getfield 50, 3) := by decide +kernel
theorem k108_14 : decode zm108.2.1 14 = .ok (.aload_n 0, 1) := by decide +kernel
theorem k108_15 : decode zm108.2.1 15 = .ok (.getfield 19, 3) := by decide +kernel
theorem k108_18 : decode zm108.2.1 18 = .ok (.aload_n 0, 1) := by decide +kernel
theorem k108_19 : decode zm108.2.1 19 = .ok (.getfield 29, 3) := by decide +kernel
theorem k108_22 : decode zm108.2.1 22 = .ok (.getfield 111, 3) := by decide +kernel
theorem k108_25 : decode zm108.2.1 25 = .ok (.invokevirtual 167, 3) := by decide +kernel
theorem k108_28 : decode zm108.2.1 28 = .ok (.aload_n 0, 1) := by decide +kernel
theorem k108_29 : decode zm108.2.1 29 = .ok (.getfield 64, 3) := by decide +kernel
theorem k108_32 : decode zm108.2.1 32 = .ok (.aload_n 0, 1) := by decide +kernel
theorem k108_33 : decode zm108.2.1 33 = .ok (.getfield 43, 3) := by decide +kernel
theorem k108_36 : decode zm108.2.1 36 = .ok (.aload_n 0, 1) := by decide +kernel
theorem k108_37 : decode zm108.2.1 37 = .ok (.getfield 50, 3) := by decide +kernel
theorem k108_40 : decode zm108.2.1 40 = .ok (.invokevirtual 227, 3) := by decide +kernel
theorem k108_43 : decode zm108.2.1 43 = .ok (.aload_n 0, 1) := by decide +kernel
theorem k108_44 : decode zm108.2.1 44 = .ok (.getfield 64, 3) := by decide +kernel
theorem k108_47 : decode zm108.2.1 47 = .ok (.getfield 231, 3) := by decide +kernel
theorem k108_50 : decode zm108.2.1 50 = .ok (.iconst (-1), 1) := by decide +kernel
theorem k108_51 : decode zm108.2.1 51 = .ok (.if_icmp .ne 7, 3) := by decide +kernel
theorem k108_58 : decode zm108.2.1 58 = .ok (.aload_n 0, 1) := by decide +kernel
theorem k108_59 : decode zm108.2.1 59 = .ok (.getfield 64, 3) := by decide +kernel
theorem k108_62 : decode zm108.2.1 62 = .ok (.getfield 237, 3) := by decide +kernel
theorem k108_65 : decode zm108.2.1 65 = .ok (.aload_n 0, 1) := by decide +kernel
theorem k108_66 : decode zm108.2.1 66 = .ok (.getfield 64, 3) := by decide +kernel
theorem k108_69 : decode zm108.2.1 69 = .ok (.getfield 231, 3) := by decide +kernel
theorem k108_72 : decode zm108.2.1 72 = .ok (.isub, 1) := by decide +kernel
theorem k108_73 : decode zm108.2.1 73 = .ok (.ireturn, 1) := by decide +kernel
theorem k108_54 : decode zm108.2.1 54 = .ok (.iconst (-1), 1) := by decide +kernel
theorem k108_55 : decode zm108.2.1 55 = .ok (.goto 18, 3) := by decide +kernel
theorem k108_7 : decode zm108.2.1 7 = .ok (.bipush (-4), 2) := by decide +kernel
theorem k108_9 : decode zm108.2.1 9 = .ok (.ireturn, 1) := by decide +kernel
theorem lk_0_240 : zmx 0 240 = some (110, 1) := by decide +kernel
theorem fk_0_244 : zfx 0 244 = some (9, 5) := by decide +kernel
theorem k109_0 : decode zm109.2.1 0 = .ok (.iload_n 1, 1) := by decide +kernel
theorem k109_1 : decode zm109.2.1 1 = .ok (.iconst 0, 1) := by decide +kernel
theorem k109_2 : decode zm109.2.1 2 = .ok (.bipush 99, 2) := by decide +kernel
theorem k109_4 : decode zm109.2.1 4 = .ok (.invokestatic 68, 3) := by decide +kernel
theorem k109_7 : decode zm109.2.1 7 = .ok (.ifCond .eq 12, 3) := by decide +kernel
theorem k109_19 : decode zm109.2.1 19 = .ok (.bipush (-3), 2) := by decide +kernel
theorem k109_21 : decode zm109.2.1 21 = .ok (.ireturn, 1) := by decide +kernel
theorem k109_10 : decode zm109.2.1 10 = .ok (.iload_n 2, 1) := by decide +kernel
theorem k109_11 : decode zm109.2.1 11 = .ok (.iconst 0, 1) := by decide +kernel
theorem k109_12 : decode zm109.2.1 12 = .ok (.iconst 1, 1) := by decide +kernel
theorem k109_13 : decode zm109.2.1 13 = .ok (.invokestatic 68, 3) := by decide +kernel
theorem k109_16 : decode zm109.2.1 16 = .ok (.ifCond .ne 6, 3) := by decide +kernel
theorem k109_22 : decode zm109.2.1 22 = .ok (.aload_n 0, 1) := by decide +kernel
theorem k109_23 : decode zm109.2.1 23 = .ok (.getfield 50, 3) := by decide +kernel
theorem k109_26 : decode zm109.2.1 26 = .ok (.aload_n 0, 1) := by decide +kernel
theorem k109_27 : decode zm109.2.1 27 = .ok (.getfield 19, 3) := by decide +kernel
theorem k109_30 : decode zm109.2.1 30 = .ok (.aload_n 0, 1) := by decide +kernel
theorem k109_31 : decode zm109.2.1 31 = .ok (.getfield 29, 3) := by decide +kernel
theorem k109_34 : decode zm109.2.1 34 = .ok (.getfield 111, 3) := by decide +kernel
theorem k109_37 : decode zm109.2.1 37 = .ok (.invokevirtual 167, 3) := by decide +kernel
theorem k109_40 : decode zm109.2.1 40 = .ok (.aload_n 0, 1) := by decide +kernel
theorem k109_41 : decode zm109.2.1 41 = .ok (.getfield 64, 3) := by decide +kernel
theorem k109_44 : decode zm109.2.1 44 = .ok (.aload_n 0, 1) := by decide +kernel
theorem k109_45 : decode zm109.2.1 45 = .ok (.getfield 43, 3) := by decide +kernel
theorem k109_48 : decode zm109.2.1 48 = .ok (.aload_n 0, 1) := by decide +kernel
theorem k109_49 : decode zm109.2.1 49 = .ok (.getfield 50, 3) := by decide +kernel
theorem k109_52 : decode zm109.2.1 52 = .ok (.iload_n 1, 1) := by decide +kernel
theorem k109_53 : decode zm109.2.1 53 = .ok (.invokevirtual 240, 3) := by decide +kernel
theorem k109_56 : decode zm109.2.1 56 = .ok (.iload_n 2, 1) := by decide +kernel
theorem k109_57 : decode zm109.2.1 57 = .ok (.ifCond .ne 13, 3) := by decide +kernel
theorem k109_70 : decode zm109.2.1 70 = .ok (.aload_n 0, 1) := by decide +kernel
theorem k109_71 : decode zm109.2.1 71 = .ok (.getfield 64, 3) := by decide +kernel
theorem k109_74 : decode zm109.2.1 74 = .ok (.getfield 244, 3) := by decide +kernel
theorem k109_77 : decode zm109.2.1 77 = .ok (.ireturn, 1) := by decide +kernel
theorem k109_60 : decode zm109.2.1 60 = .ok (.aload_n 0, 1) := by decide +kernel
theorem k109_61 : decode zm109.2.1 61 = .ok (.getfield 64, 3) := by decide +kernel
theorem k109_64 : decode zm109.2.1 64 = .ok (.getfield 231, 3) := by decide +kernel
theorem k109_67 : decode zm109.2.1 67 = .ok (.goto 10, 3) := by decide +kernel
theorem lk_0_253 : zmx 0 253 = some (114, 1) := by decide +kernel
theorem fk_0_257 : zfx 0 257 = some (9, 6) := by decide +kernel
theorem lk_0_260 : zmx 0 260 = some (115, 1) := by decide +kernel
theorem k113_0 : decode zm113.2.1 0 = .ok (.iload_n 1, 1) := by decide +kernel
theorem k113_1 : decode zm113.2.1 1 = .ok (.iconst 0, 1) := by decide +kernel
theorem k113_2 : decode zm113.2.1 2 = .ok (.bipush 99, 2) := by decide +kernel
theorem k113_4 : decode zm113.2.1 4 = .ok (.invokestatic 68, 3) := by decide +kernel
theorem k113_7 : decode zm113.2.1 7 = .ok (.ifCond .eq 8, 3) := by decide +kernel
theorem k113_15 : decode zm113.2.1 15 = .ok (.bipush (-3), 2) := by decide +kernel
theorem k113_17 : decode zm113.2.1 17 = .ok (.ireturn, 1) := by decide +kernel
theorem k113_10 : decode zm113.2.1 10 = .ok (.iload_n 2, 1) := by decide +kernel
theorem k113_11 : decode zm113.2.1 11 = .ok (.iconst (-1), 1) := by decide +kernel
theorem k113_12 : decode zm113.2.1 12 = .ok (.if_icmp .ge 6, 3) := by decide +kernel
theorem k113_18 : decode zm113.2.1 18 = .ok (.aload_n 0, 1) := by decide +kernel
theorem k113_19 : decode zm113.2.1 19 = .ok (.getfield 43, 3) := by decide +kernel
theorem k113_22 : decode zm113.2.1 22 = .ok (.invokevirtual 246, 3) := by decide +kernel
theorem k113_25 : decode zm113.2.1 25 = .ok (.istore_n 3, 1) := by decide +kernel
theorem k113_26 : decode zm113.2.1 26 = .ok (.iload_n 3, 1) := by decide +kernel
theorem k113_27 : decode zm113.2.1 27 = .ok (.iconst 3, 1) := by decide +kernel
theorem k113_28 : decode zm113.2.1 28 = .ok (.if_icmp .le 6, 3) := by decide +kernel
theorem k113_34 : decode zm113.2.1 34 = .ok (.aload_n 0, 1) := by decide +kernel
theorem k113_35 : decode zm113.2.1 35 = .ok (.getfield 50, 3) := by decide +kernel
theorem k113_38 : decode zm113.2.1 38 = .ok (.aload_n 0, 1) := by decide +kernel
theorem k113_39 : decode zm113.2.1 39 = .ok (.getfield 19, 3) := by decide +kernel
theorem k113_42 : decode zm113.2.1 42 = .ok (.aload_n 0, 1) := by decide +kernel
theorem k113_43 : decode zm113.2.1 43 = .ok (.getfield 29, 3) := by decide +kernel
theorem k113_46 : decode zm113.2.1 46 = .ok (.getfield 111, 3) := by decide +kernel
theorem k113_49 : decode zm113.2.1 49 = .ok (.invokevirtual 167, 3) := by decide +kernel
theorem k113_52 : decode zm113.2.1 52 = .ok (.aload_n 0, 1) := by decide +kernel
theorem k113_53 : decode zm113.2.1 53 = .ok (.getfield 64, 3) := by decide +kernel
theorem k113_56 : decode zm113.2.1 56 = .ok (.aload_n 0, 1) := by decide +kernel
theorem k113_57 : decode zm113.2.1 57 = .ok (.getfield 43, 3) := by decide +kernel
theorem k113_60 : decode zm113.2.1 60 = .ok (.aload_n 0, 1) := by decide +kernel
theorem k113_61 : decode zm113.2.1 61 = .ok (.getfield 50, 3) := by decide +kernel
theorem k113_64 : decode zm113.2.1 64 = .ok (.aload_n 0, 1) := by decide +kernel
theorem k113_65 : decode zm113.2.1 65 = .ok (.getfield 19, 3) := by decide +kernel
theorem k113_68 : decode zm113.2.1 68 = .ok (.getfield 250, 3) := by decide +kernel
theorem k113_71 : decode zm113.2.1 71 = .ok (.iload_n 1, 1) := by decide +kernel
theorem k113_72 : decode zm113.2.1 72 = .ok (.invokevirtual 253, 3) := by decide +kernel
theorem k113_75 : decode zm113.2.1 75 = .ok (.iload_n 2, 1) := by decide +kernel
theorem k113_76 : decode zm113.2.1 76 = .ok (.iconst (-1), 1) := by decide +kernel
theorem k113_77 : decode zm113.2.1 77 = .ok (.if_icmp .ne 11, 3) := by decide +kernel
theorem k113_88 : decode zm113.2.1 88 = .ok (.aload_n 0, 1) := by decide +kernel
theorem k113_89 : decode zm113.2.1 89 = .ok (.getfield 64, 3) := by decide +kernel
theorem k113_92 : decode zm113.2.1 92 = .ok (.getfield 257, 3) := by decide +kernel
theorem k113_95 : decode zm113.2.1 95 = .ok (.ifCond .le 29, 3) := by decide +kernel
theorem k113_124 : decode zm113.2.1 124 = .ok (.iconst (-1), 1) := by decide +kernel
theorem k113_125 : decode zm113.2.1 125 = .ok (.ireturn, 1) := by decide +kernel
theorem k113_98 : decode zm113.2.1 98 = .ok (.iload_n 2, 1) := by decide +kernel
theorem k113_99 : decode zm113.2.1 99 = .ok (.iload_n 3, 1) := by decide +kernel
theorem k113_100 : decode zm113.2.1 100 = .ok (.if_icmp .ge 24, 3) := by decide +kernel
theorem k113_103 : decode zm113.2.1 103 = .ok (.aload_n 0, 1) := by decide +kernel
theorem k113_104 : decode zm113.2.1 104 = .ok (.getfield 64, 3) := by decide +kernel
theorem k113_107 : decode zm113.2.1 107 = .ok (.getfield 234, 3) := by decide +kernel
theorem k113_110 : decode zm113.2.1 110 = .ok (.aload_n 0, 1) := by decide +kernel
theorem k113_111 : decode zm113.2.1 111 = .ok (.getfield 43, 3) := by decide +kernel
theorem k113_114 : decode zm113.2.1 114 = .ok (.iload_n 2, 1) := by decide +kernel
theorem k113_115 : decode zm113.2.1 115 = .ok (.invokevirtual 260, 3) := by decide +kernel
theorem k113_118 : decode zm113.2.1 118 = .ok (.invokevirtual 164, 3) := by decide +kernel
theorem k113_121 : decode zm113.2.1 121 = .ok (.goto 4, 3) := by decide +kernel
theorem k113_80 : decode zm113.2.1 80 = .ok (.aload_n 0, 1) := by decide +kernel
theorem k113_81 : decode zm113.2.1 81 = .ok (.getfield 64, 3) := by decide +kernel
theorem k113_84 : decode zm113.2.1 84 = .ok (.getfield 257, 3) := by decide +kernel
theorem k113_87 : decode zm113.2.1 87 = .ok (.ireturn, 1) := by decide +kernel
theorem k113_31 : decode zm113.2.1 31 = .ok (.bipush (-4), 2) := by decide +kernel
theorem k113_33 : decode zm113.2.1 33 = .ok (.ireturn, 1) := by decide +kernel
theorem lk_0_272 : zmx 0 272 = some (124, 1) := by decide +kernel
theorem lk_0_275 : zmx 0 275 = some (125, 1) := by decide +kernel
theorem lk_0_279 : zmx 0 279 = some (126, 1) := by decide +kernel
theorem fk_0_286 : zfx 0 286 = some (8, 6) := by decide +kernel
theorem fk_0_283 : zfx 0 283 = some (8, 5) := by decide +kernel
theorem k123_0 : decode zm123.2.1 0 = .ok (.iload_n 1, 1) := by decide +kernel
theorem k123_1 : decode zm123.2.1 1 = .ok (.iconst 0, 1) := by decide +kernel
theorem k123_2 : decode zm123.2.1 2 = .ok (.bipush 99, 2) := by decide +kernel
theorem k123_4 : decode zm123.2.1 4 = .ok (.invokestatic 68, 3) := by decide +kernel
theorem k123_7 : decode zm123.2.1 7 = .ok (.ifCond .eq 12, 3) := by decide +kernel
theorem k123_19 : decode zm123.2.1 19 = .ok (.bipush (-3), 2) := by decide +kernel
theorem k123_21 : decode zm123.2.1 21 = .ok (.ireturn, 1) := by decide +kernel
theorem k123_10 : decode zm123.2.1 10 = .ok (.iload_n 2, 1) := by decide +kernel
theorem k123_11 : decode zm123.2.1 11 = .ok (.iconst 0, 1) := by decide +kernel
theorem k123_12 : decode zm123.2.1 12 = .ok (.iconst 1, 1) := by decide +kernel
theorem k123_13 : decode zm123.2.1 13 = .ok (.invokestatic 68, 3) := by decide +kernel
theorem k123_16 : decode zm123.2.1 16 = .ok (.ifCond .ne 6, 3) := by decide +kernel
theorem k123_22 : decode zm123.2.1 22 = .ok (.aload_n 0, 1) := by decide +kernel
theorem k123_23 : decode zm123.2.1 23 = .ok (.getfield 57, 3) := by decide +kernel
theorem k123_26 : decode zm123.2.1 26 = .ok (.aload_n 0, 1) := by decide +kernel
theorem k123_27 : decode zm123.2.1 27 = .ok (.getfield 19, 3) := by decide +kernel
theorem k123_30 : decode zm123.2.1 30 = .ok (.invokevirtual 272, 3) := by decide +kernel
theorem k123_33 : decode zm123.2.1 33 = .ok (.aload_n 0, 1) := by decide +kernel
theorem k123_34 : decode zm123.2.1 34 = .ok (.getfield 57, 3) := by decide +kernel
theorem k123_37 : decode zm123.2.1 37 = .ok (.aload_n 0, 1) := by decide +kernel
theorem k123_38 : decode zm123.2.1 38 = .ok (.getfield 19, 3) := by decide +kernel
theorem k123_41 : decode zm123.2.1 41 = .ok (.aload_n 0, 1) := by decide +kernel
theorem k123_42 : decode zm123.2.1 42 = .ok (.getfield 50, 3) := by decide +kernel
theorem k123_45 : decode zm123.2.1 45 = .ok (.aload_n 0, 1) := by decide +kernel
theorem k123_46 : decode zm123.2.1 46 = .ok (.getfield 29, 3) := by decide +kernel
theorem k123_49 : decode zm123.2.1 49 = .ok (.getfield 111, 3) := by decide +kernel
theorem k123_52 : decode zm123.2.1 52 = .ok (.invokevirtual 275, 3) := by decide +kernel
theorem k123_55 : decode zm123.2.1 55 = .ok (.aload_n 0, 1) := by decide +kernel
theorem k123_56 : decode zm123.2.1 56 = .ok (.getfield 57, 3) := by decide +kernel
theorem k123_59 : decode zm123.2.1 59 = .ok (.iload_n 1, 1) := by decide +kernel
theorem k123_60 : decode zm123.2.1 60 = .ok (.invokevirtual 279, 3) := by decide +kernel
theorem k123_63 : decode zm123.2.1 63 = .ok (.iload_n 2, 1) := by decide +kernel
theorem k123_64 : decode zm123.2.1 64 = .ok (.ifCond .ne 13, 3) := by decide +kernel
theorem k123_77 : decode zm123.2.1 77 = .ok (.aload_n 0, 1) := by decide +kernel
theorem k123_78 : decode zm123.2.1 78 = .ok (.getfield 57, 3) := by decide +kernel
theorem k123_81 : decode zm123.2.1 81 = .ok (.getfield 286, 3) := by decide +kernel
theorem k123_84 : decode zm123.2.1 84 = .ok (.ireturn, 1) := by decide +kernel
theorem k123_67 : decode zm123.2.1 67 = .ok (.aload_n 0, 1) := by decide +kernel
theorem k123_68 : decode zm123.2.1 68 = .ok (.getfield 57, 3) := by decide +kernel
theorem k123_71 : decode zm123.2.1 71 = .ok (.getfield 283, 3) := by decide +kernel
theorem k123_74 : decode zm123.2.1 74 = .ok (.goto 10, 3) := by decide +kernel
theorem lk_0_289 : zmx 0 289 = some (130, 1) := by decide +kernel
theorem lk_0_293 : zmx 0 293 = some (131, 1) := by decide +kernel
theorem k129_0 : decode zm129.2.1 0 = .ok (.aload_n 0, 1) := by decide +kernel
theorem k129_1 : decode zm129.2.1 1 = .ok (.iload_n 1, 1) := by decide +kernel
theorem k129_2 : decode zm129.2.1 2 = .ok (.invokevirtual 134, 3) := by decide +kernel
theorem k129_5 : decode zm129.2.1 5 = .ok (.ifCond .ne 6, 3) := by decide +kernel
theorem k129_11 : decode zm129.2.1 11 = .ok (.iload_n 2, 1) := by decide +kernel
theorem k129_12 : decode zm129.2.1 12 = .ok (.iconst 0, 1) := by decide +kernel
theorem k129_13 : decode zm129.2.1 13 = .ok (.iconst 1, 1) := by decide +kernel
theorem k129_14 : decode zm129.2.1 14 = .ok (.invokestatic 68, 3) := by decide +kernel
theorem k129_17 : decode zm129.2.1 17 = .ok (.ifCond .ne 6, 3) := by decide +kernel
theorem k129_23 : decode zm129.2.1 23 = .ok (.aload_n 0, 1) := by decide +kernel
theorem k129_24 : decode zm129.2.1 24 = .ok (.getfield 57, 3) := by decide +kernel
theorem k129_27 : decode zm129.2.1 27 = .ok (.aload_n 0, 1) := by decide +kernel
theorem k129_28 : decode zm129.2.1 28 = .ok (.getfield 19, 3) := by decide +kernel
theorem k129_31 : decode zm129.2.1 31 = .ok (.invokevirtual 272, 3) := by decide +kernel
theorem k129_34 : decode zm129.2.1 34 = .ok (.aload_n 0, 1) := by decide +kernel
theorem k129_35 : decode zm129.2.1 35 = .ok (.getfield 57, 3) := by decide +kernel
theorem k129_38 : decode zm129.2.1 38 = .ok (.aload_n 0, 1) := by decide +kernel
theorem k129_39 : decode zm129.2.1 39 = .ok (.getfield 19, 3) := by decide +kernel
theorem k129_42 : decode zm129.2.1 42 = .ok (.aload_n 0, 1) := by decide +kernel
theorem k129_43 : decode zm129.2.1 43 = .ok (.getfield 50, 3) := by decide +kernel
theorem k129_46 : decode zm129.2.1 46 = .ok (.aload_n 0, 1) := by decide +kernel
theorem k129_47 : decode zm129.2.1 47 = .ok (.getfield 29, 3) := by decide +kernel
theorem k129_50 : decode zm129.2.1 50 = .ok (.getfield 111, 3) := by decide +kernel
theorem k129_53 : decode zm129.2.1 53 = .ok (.aload_n 0, 1) := by decide +kernel
theorem k129_54 : decode zm129.2.1 54 = .ok (.getfield 19, 3) := by decide +kernel
theorem k129_57 : decode zm129.2.1 57 = .ok (.iload_n 1, 1) := by decide +kernel
theorem k129_58 : decode zm129.2.1 58 = .ok (.invokevirtual 137, 3) := by decide +kernel
theorem k129_61 : decode zm129.2.1 61 = .ok (.invokevirtual 289, 3) := by decide +kernel
theorem k129_64 : decode zm129.2.1 64 = .ok (.aload_n 0, 1) := by decide +kernel
theorem k129_65 : decode zm129.2.1 65 = .ok (.getfield 57, 3) := by decide +kernel
theorem k129_68 : decode zm129.2.1 68 = .ok (.aload_n 0, 1) := by decide +kernel
theorem k129_69 : decode zm129.2.1 69 = .ok (.getfield 29, 3) := by decide +kernel
theorem k129_72 : decode zm129.2.1 72 = .ok (.getfield 140, 3) := by decide +kernel
theorem k129_75 : decode zm129.2.1 75 = .ok (.iload_n 1, 1) := by decide +kernel
theorem k129_76 : decode zm129.2.1 76 = .ok (.invokevirtual 122, 3) := by decide +kernel
theorem k129_79 : decode zm129.2.1 79 = .ok (.aload_n 0, 1) := by decide +kernel
theorem k129_80 : decode zm129.2.1 80 = .ok (.getfield 19, 3) := by decide +kernel
theorem k129_83 : decode zm129.2.1 83 = .ok (.iload_n 1, 1) := by decide +kernel
theorem k129_84 : decode zm129.2.1 84 = .ok (.invokevirtual 137, 3) := by decide +kernel
theorem k129_87 : decode zm129.2.1 87 = .ok (.aload_n 0, 1) := by decide +kernel
theorem k129_88 : decode zm129.2.1 88 = .ok (.getfield 19, 3) := by decide +kernel
theorem k129_91 : decode zm129.2.1 91 = .ok (.getfield 91, 3) := by decide +kernel
theorem k129_94 : decode zm129.2.1 94 = .ok (.invokevirtual 293, 3) := by decide +kernel
theorem k129_97 : decode zm129.2.1 97 = .ok (.iload_n 2, 1) := by decide +kernel
theorem k129_98 : decode zm129.2.1 98 = .ok (.ifCond .ne 13, 3) := by decide +kernel
theorem k129_111 : decode zm129.2.1 111 = .ok (.aload_n 0, 1) := by decide +kernel
theorem k129_112 : decode zm129.2.1 112 = .ok (.getfield 57, 3) := by decide +kernel
theorem k129_115 : decode zm129.2.1 115 = .ok (.getfield 286, 3) := by decide +kernel
theorem k129_118 : decode zm129.2.1 118 = .ok (.ireturn, 1) := by decide +kernel
theorem k129_101 : decode zm129.2.1 101 = .ok (.aload_n 0, 1) := by decide +kernel
theorem k129_102 : decode zm129.2.1 102 = .ok (.getfield 57, 3) := by decide +kernel
theorem k129_105 : decode zm129.2.1 105 = .ok (.getfield 283, 3) := by decide +kernel
theorem k129_108 : decode zm129.2.1 108 = .ok (.goto 10, 3) := by decide +kernel
theorem k129_20 : decode zm129.2.1 20 = .ok (.bipush (-3), 2) := by decide +kernel
theorem k129_22 : decode zm129.2.1 22 = .ok (.ireturn, 1) := by decide +kernel
theorem k129_8 : decode zm129.2.1 8 = .ok (.bipush (-2), 2) := by decide +kernel
theorem k129_10 : decode zm129.2.1 10 = .ok (.ireturn, 1) := by decide +kernel
theorem lk_10_158 : zmx 10 158 = some (151, 1) := by decide +kernel
theorem b8_59 : (Int8.ofInt 59).toInt32 = 59 := by decide
theorem k148_116 : decode zm148.2.1 116 = .ok (.iload_n 1, 1) := by decide +kernel
theorem k148_117 : decode zm148.2.1 117 = .ok (.ifCond .ne 8, 3) := by decide +kernel
theorem k148_125 : decode zm148.2.1 125 = .ok (.goto (-75), 3) := by decide +kernel
theorem k148_120 : decode zm148.2.1 120 = .ok (.aload_n 0, 1) := by decide +kernel
theorem k148_121 : decode zm148.2.1 121 = .ok (.getfield 75, 3) := by decide +kernel
theorem k148_124 : decode zm148.2.1 124 = .ok (.ireturn, 1) := by decide +kernel
theorem k148_102 : decode zm148.2.1 102 = .ok (.istore_n 1, 1) := by decide +kernel
theorem k148_103 : decode zm148.2.1 103 = .ok (.iload_n 1, 1) := by decide +kernel
theorem k148_104 : decode zm148.2.1 104 = .ok (.ifCond .eq 12, 3) := by decide +kernel
theorem k148_107 : decode zm148.2.1 107 = .ok (.aload_n 0, 1) := by decide +kernel
theorem k148_108 : decode zm148.2.1 108 = .ok (.invokevirtual 115, 3) := by decide +kernel
theorem k148_111 : decode zm148.2.1 111 = .ok (.aload_n 0, 1) := by decide +kernel
theorem k148_112 : decode zm148.2.1 112 = .ok (.invokevirtual 158, 3) := by decide +kernel
theorem k148_115 : decode zm148.2.1 115 = .ok (.istore_n 1, 1) := by decide +kernel
theorem k148_101 : decode zm148.2.1 101 = .ok (.iconst 0, 1) := by decide +kernel
theorem k148_50 : decode zm148.2.1 50 = .ok (.aload_n 0, 1) := by decide +kernel
theorem k148_51 : decode zm148.2.1 51 = .ok (.getfield 75, 3) := by decide +kernel
theorem k148_54 : decode zm148.2.1 54 = .ok (.aload_n 0, 1) := by decide +kernel
theorem k148_55 : decode zm148.2.1 55 = .ok (.getfield 69, 3) := by decide +kernel
theorem k148_58 : decode zm148.2.1 58 = .ok (.if_icmp .ge 70, 3) := by decide +kernel
theorem k148_128 : decode zm148.2.1 128 = .ok (.iconst (-1), 1) := by decide +kernel
theorem k148_129 : decode zm148.2.1 129 = .ok (.ireturn, 1) := by decide +kernel
theorem k148_61 : decode zm148.2.1 61 = .ok (.aload_n 0, 1) := by decide +kernel
theorem k148_62 : decode zm148.2.1 62 = .ok (.getfield 82, 3) := by decide +kernel
theorem k148_65 : decode zm148.2.1 65 = .ok (.aload_n 0, 1) := by decide +kernel
theorem k148_66 : decode zm148.2.1 66 = .ok (.getfield 75, 3) := by decide +kernel
theorem k148_69 : decode zm148.2.1 69 = .ok (.isub, 1) := by decide +kernel
theorem k148_70 : decode zm148.2.1 70 = .ok (.iconst 1, 1) := by decide +kernel
theorem k148_71 : decode zm148.2.1 71 = .ok (.if_icmp .ne 30, 3) := by decide +kernel
theorem k148_74 : decode zm148.2.1 74 = .ok (.aload_n 0, 1) := by decide +kernel
theorem k148_75 : decode zm148.2.1 75 = .ok (.getfield 17, 3) := by decide +kernel
theorem k148_78 : decode zm148.2.1 78 = .ok (.aload_n 0, 1) := by decide +kernel
theorem k148_79 : decode zm148.2.1 79 = .ok (.getfield 75, 3) := by decide +kernel
theorem k148_82 : decode zm148.2.1 82 = .ok (.iaload, 1) := by decide +kernel
theorem k148_83 : decode zm148.2.1 83 = .ok (.bipush 59, 2) := by decide +kernel
theorem k148_85 : decode zm148.2.1 85 = .ok (.if_icmp .ne 16, 3) := by decide +kernel
theorem k148_88 : decode zm148.2.1 88 = .ok (.aload_n 0, 1) := by decide +kernel
theorem k148_89 : decode zm148.2.1 89 = .ok (.getfield 112, 3) := by decide +kernel
theorem k148_92 : decode zm148.2.1 92 = .ok (.bipush 14, 2) := by decide +kernel
theorem k148_94 : decode zm148.2.1 94 = .ok (.if_icmp .ge 7, 3) := by decide +kernel
theorem k148_97 : decode zm148.2.1 97 = .ok (.iconst 1, 1) := by decide +kernel
theorem k148_98 : decode zm148.2.1 98 = .ok (.goto 4, 3) := by decide +kernel
theorem k148_0 : decode zm148.2.1 0 = .ok (.aload_n 0, 1) := by decide +kernel
theorem k148_1 : decode zm148.2.1 1 = .ok (.iconst 0, 1) := by decide +kernel
theorem k148_2 : decode zm148.2.1 2 = .ok (.putfield 72, 3) := by decide +kernel
theorem k148_5 : decode zm148.2.1 5 = .ok (.aload_n 0, 1) := by decide +kernel
theorem k148_6 : decode zm148.2.1 6 = .ok (.iconst 0, 1) := by decide +kernel
theorem k148_7 : decode zm148.2.1 7 = .ok (.putfield 112, 3) := by decide +kernel
theorem k148_10 : decode zm148.2.1 10 = .ok (.aload_n 0, 1) := by decide +kernel
theorem k148_11 : decode zm148.2.1 11 = .ok (.aload_n 0, 1) := by decide +kernel
theorem k148_12 : decode zm148.2.1 12 = .ok (.getfield 149, 3) := by decide +kernel
theorem k148_15 : decode zm148.2.1 15 = .ok (.putfield 134, 3) := by decide +kernel
theorem k148_18 : decode zm148.2.1 18 = .ok (.aload_n 0, 1) := by decide +kernel
theorem k148_19 : decode zm148.2.1 19 = .ok (.aload_n 0, 1) := by decide +kernel
theorem k148_20 : decode zm148.2.1 20 = .ok (.getfield 152, 3) := by decide +kernel
theorem k148_23 : decode zm148.2.1 23 = .ok (.putfield 143, 3) := by decide +kernel
theorem k148_26 : decode zm148.2.1 26 = .ok (.aload_n 0, 1) := by decide +kernel
theorem k148_27 : decode zm148.2.1 27 = .ok (.aload_n 0, 1) := by decide +kernel
theorem k148_28 : decode zm148.2.1 28 = .ok (.getfield 155, 3) := by decide +kernel
theorem k148_31 : decode zm148.2.1 31 = .ok (.putfield 140, 3) := by decide +kernel
theorem k148_34 : decode zm148.2.1 34 = .ok (.aload_n 0, 1) := by decide +kernel
theorem k148_35 : decode zm148.2.1 35 = .ok (.invokevirtual 115, 3) := by decide +kernel
theorem k148_38 : decode zm148.2.1 38 = .ok (.aload_n 0, 1) := by decide +kernel
theorem k148_39 : decode zm148.2.1 39 = .ok (.invokevirtual 158, 3) := by decide +kernel
theorem k148_42 : decode zm148.2.1 42 = .ok (.ifCond .ne 8, 3) := by decide +kernel
theorem k148_45 : decode zm148.2.1 45 = .ok (.aload_n 0, 1) := by decide +kernel
theorem k148_46 : decode zm148.2.1 46 = .ok (.getfield 75, 3) := by decide +kernel
theorem k148_49 : decode zm148.2.1 49 = .ok (.ireturn, 1) := by decide +kernel
theorem fk_10_266 : zfx 10 266 = some (10, 32) := by decide +kernel
theorem pi_10_32 : zdes 10 32 = "I" ∧ zfin 10 32 = false := by decide +kernel
theorem fk_10_269 : zfx 10 269 = some (10, 33) := by decide +kernel
theorem pi_10_33 : zdes 10 33 = "I" ∧ zfin 10 33 = false := by decide +kernel
theorem lk_10_272 : zmx 10 272 = some (204, 1) := by decide +kernel
theorem lk_10_275 : zmx 10 275 = some (205, 1) := by decide +kernel
theorem lk_10_278 : zmx 10 278 = some (206, 1) := by decide +kernel
theorem k202_149 : decode zm202.2.1 149 = .ok (.iinc 1 1, 3) := by decide +kernel
theorem k202_152 : decode zm202.2.1 152 = .ok (.goto (-140), 3) := by decide +kernel
theorem k202_146 : decode zm202.2.1 146 = .ok (.putfield 269, 3) := by decide +kernel
theorem k202_126 : decode zm202.2.1 126 = .ok (.putfield 266, 3) := by decide +kernel
theorem k202_129 : decode zm202.2.1 129 = .ok (.aload_n 0, 1) := by decide +kernel
theorem k202_130 : decode zm202.2.1 130 = .ok (.iload_n 2, 1) := by decide +kernel
theorem k202_131 : decode zm202.2.1 131 = .ok (.aload_n 0, 1) := by decide +kernel
theorem k202_132 : decode zm202.2.1 132 = .ok (.getfield 269, 3) := by decide +kernel
theorem k202_135 : decode zm202.2.1 135 = .ok (.if_icmp .le 7, 3) := by decide +kernel
theorem k202_142 : decode zm202.2.1 142 = .ok (.aload_n 0, 1) := by decide +kernel
theorem k202_143 : decode zm202.2.1 143 = .ok (.getfield 269, 3) := by decide +kernel
theorem k202_138 : decode zm202.2.1 138 = .ok (.iload_n 2, 1) := by decide +kernel
theorem k202_139 : decode zm202.2.1 139 = .ok (.goto 7, 3) := by decide +kernel
theorem k202_113 : decode zm202.2.1 113 = .ok (.aload_n 0, 1) := by decide +kernel
theorem k202_114 : decode zm202.2.1 114 = .ok (.iload_n 3, 1) := by decide +kernel
theorem k202_115 : decode zm202.2.1 115 = .ok (.ifCond .eq 7, 3) := by decide +kernel
theorem k202_122 : decode zm202.2.1 122 = .ok (.aload_n 0, 1) := by decide +kernel
theorem k202_123 : decode zm202.2.1 123 = .ok (.getfield 266, 3) := by decide +kernel
theorem k202_118 : decode zm202.2.1 118 = .ok (.iload_n 2, 1) := by decide +kernel
theorem k202_119 : decode zm202.2.1 119 = .ok (.goto 7, 3) := by decide +kernel
theorem k202_80 : decode zm202.2.1 80 = .ok (.iload 4, 2) := by decide +kernel
theorem k202_82 : decode zm202.2.1 82 = .ok (.aload_n 0, 1) := by decide +kernel
theorem k202_83 : decode zm202.2.1 83 = .ok (.getfield 194, 3) := by decide +kernel
theorem k202_86 : decode zm202.2.1 86 = .ok (.if_icmp .ge 27, 3) := by decide +kernel
theorem k202_89 : decode zm202.2.1 89 = .ok (.iload_n 3, 1) := by decide +kernel
theorem k202_90 : decode zm202.2.1 90 = .ok (.ifCond .eq 23, 3) := by decide +kernel
theorem k202_93 : decode zm202.2.1 93 = .ok (.aload_n 0, 1) := by decide +kernel
theorem k202_94 : decode zm202.2.1 94 = .ok (.getfield 57, 3) := by decide +kernel
theorem k202_97 : decode zm202.2.1 97 = .ok (.iload 4, 2) := by decide +kernel
theorem k202_99 : decode zm202.2.1 99 = .ok (.aload_n 0, 1) := by decide +kernel
theorem k202_100 : decode zm202.2.1 100 = .ok (.getfield 51, 3) := by decide +kernel
theorem k202_103 : decode zm202.2.1 103 = .ok (.iload 4, 2) := by decide +kernel
theorem k202_105 : decode zm202.2.1 105 = .ok (.iaload, 1) := by decide +kernel
theorem k202_106 : decode zm202.2.1 106 = .ok (.iastore, 1) := by decide +kernel
theorem k202_107 : decode zm202.2.1 107 = .ok (.iinc 4 1, 3) := by decide +kernel
theorem k202_110 : decode zm202.2.1 110 = .ok (.goto (-30), 3) := by decide +kernel
theorem k202_76 : decode zm202.2.1 76 = .ok (.istore_n 3, 1) := by decide +kernel
theorem k202_77 : decode zm202.2.1 77 = .ok (.iconst 0, 1) := by decide +kernel
theorem k202_78 : decode zm202.2.1 78 = .ok (.istore 4, 2) := by decide +kernel
theorem k202_75 : decode zm202.2.1 75 = .ok (.iconst 0, 1) := by decide +kernel
theorem k202_71 : decode zm202.2.1 71 = .ok (.iconst 1, 1) := by decide +kernel
theorem k202_72 : decode zm202.2.1 72 = .ok (.goto 4, 3) := by decide +kernel
theorem k202_12 : decode zm202.2.1 12 = .ok (.iload_n 1, 1) := by decide +kernel
theorem k202_13 : decode zm202.2.1 13 = .ok (.aload_n 0, 1) := by decide +kernel
theorem k202_14 : decode zm202.2.1 14 = .ok (.getfield 185, 3) := by decide +kernel
theorem k202_17 : decode zm202.2.1 17 = .ok (.invokestatic 263, 3) := by decide +kernel
theorem k202_20 : decode zm202.2.1 20 = .ok (.if_icmp .ge 135, 3) := by decide +kernel
theorem k202_155 : decode zm202.2.1 155 = .ok (.return_, 1) := by decide +kernel
theorem k202_23 : decode zm202.2.1 23 = .ok (.aload_n 0, 1) := by decide +kernel
theorem k202_24 : decode zm202.2.1 24 = .ok (.iload_n 1, 1) := by decide +kernel
theorem k202_25 : decode zm202.2.1 25 = .ok (.invokevirtual 272, 3) := by decide +kernel
theorem k202_28 : decode zm202.2.1 28 = .ok (.aload_n 0, 1) := by decide +kernel
theorem k202_29 : decode zm202.2.1 29 = .ok (.invokevirtual 241, 3) := by decide +kernel
theorem k202_32 : decode zm202.2.1 32 = .ok (.ifCond .eq 117, 3) := by decide +kernel
theorem k202_35 : decode zm202.2.1 35 = .ok (.aload_n 0, 1) := by decide +kernel
theorem k202_36 : decode zm202.2.1 36 = .ok (.invokevirtual 275, 3) := by decide +kernel
theorem k202_39 : decode zm202.2.1 39 = .ok (.istore_n 2, 1) := by decide +kernel
theorem k202_40 : decode zm202.2.1 40 = .ok (.aload_n 0, 1) := by decide +kernel
theorem k202_41 : decode zm202.2.1 41 = .ok (.getfield 266, 3) := by decide +kernel
theorem k202_44 : decode zm202.2.1 44 = .ok (.iconst (-1), 1) := by decide +kernel
theorem k202_45 : decode zm202.2.1 45 = .ok (.if_icmp .eq 26, 3) := by decide +kernel
theorem k202_48 : decode zm202.2.1 48 = .ok (.iload_n 2, 1) := by decide +kernel
theorem k202_49 : decode zm202.2.1 49 = .ok (.aload_n 0, 1) := by decide +kernel
theorem k202_50 : decode zm202.2.1 50 = .ok (.getfield 266, 3) := by decide +kernel
theorem k202_53 : decode zm202.2.1 53 = .ok (.if_icmp .lt 18, 3) := by decide +kernel
theorem k202_56 : decode zm202.2.1 56 = .ok (.iload_n 2, 1) := by decide +kernel
theorem k202_57 : decode zm202.2.1 57 = .ok (.aload_n 0, 1) := by decide +kernel
theorem k202_58 : decode zm202.2.1 58 = .ok (.getfield 266, 3) := by decide +kernel
theorem k202_61 : decode zm202.2.1 61 = .ok (.if_icmp .ne 14, 3) := by decide +kernel
theorem k202_64 : decode zm202.2.1 64 = .ok (.aload_n 0, 1) := by decide +kernel
theorem k202_65 : decode zm202.2.1 65 = .ok (.invokevirtual 278, 3) := by decide +kernel
theorem k202_68 : decode zm202.2.1 68 = .ok (.ifCond .eq 7, 3) := by decide +kernel
theorem k202_0 : decode zm202.2.1 0 = .ok (.aload_n 0, 1) := by decide +kernel
theorem k202_1 : decode zm202.2.1 1 = .ok (.iconst (-1), 1) := by decide +kernel
theorem k202_2 : decode zm202.2.1 2 = .ok (.putfield 266, 3) := by decide +kernel
theorem k202_5 : decode zm202.2.1 5 = .ok (.aload_n 0, 1) := by decide +kernel
theorem k202_6 : decode zm202.2.1 6 = .ok (.iconst (-1), 1) := by decide +kernel
theorem k202_7 : decode zm202.2.1 7 = .ok (.putfield 269, 3) := by decide +kernel
theorem k202_10 : decode zm202.2.1 10 = .ok (.iconst 0, 1) := by decide +kernel
theorem k202_11 : decode zm202.2.1 11 = .ok (.istore_n 1, 1) := by decide +kernel
theorem lk_10_287 : zmx 10 287 = some (209, 1) := by decide +kernel
theorem lk_10_293 : zmx 10 293 = some (211, 1) := by decide +kernel
theorem k208_88 : decode zm208.2.1 88 = .ok (.iinc 4 1, 3) := by decide +kernel
theorem k208_91 : decode zm208.2.1 91 = .ok (.goto (-61), 3) := by decide +kernel
theorem k208_87 : decode zm208.2.1 87 = .ok (.istore_n 3, 1) := by decide +kernel
theorem k208_67 : decode zm208.2.1 67 = .ok (.aload_n 0, 1) := by decide +kernel
theorem k208_68 : decode zm208.2.1 68 = .ok (.iload 4, 2) := by decide +kernel
theorem k208_70 : decode zm208.2.1 70 = .ok (.invokevirtual 293, 3) := by decide +kernel
theorem k208_73 : decode zm208.2.1 73 = .ok (.aload_n 0, 1) := by decide +kernel
theorem k208_74 : decode zm208.2.1 74 = .ok (.invokevirtual 275, 3) := by decide +kernel
theorem k208_77 : decode zm208.2.1 77 = .ok (.iload_n 1, 1) := by decide +kernel
theorem k208_78 : decode zm208.2.1 78 = .ok (.if_icmp .gt 8, 3) := by decide +kernel
theorem k208_86 : decode zm208.2.1 86 = .ok (.iload_n 3, 1) := by decide +kernel
theorem k208_81 : decode zm208.2.1 81 = .ok (.iload 4, 2) := by decide +kernel
theorem k208_83 : decode zm208.2.1 83 = .ok (.goto 4, 3) := by decide +kernel
theorem k208_30 : decode zm208.2.1 30 = .ok (.iload 4, 2) := by decide +kernel
theorem k208_32 : decode zm208.2.1 32 = .ok (.iconst 1, 1) := by decide +kernel
theorem k208_33 : decode zm208.2.1 33 = .ok (.aload_n 0, 1) := by decide +kernel
theorem k208_34 : decode zm208.2.1 34 = .ok (.getfield 185, 3) := by decide +kernel
theorem k208_37 : decode zm208.2.1 37 = .ok (.ishl, 1) := by decide +kernel
theorem k208_38 : decode zm208.2.1 38 = .ok (.if_icmp .ge 56, 3) := by decide +kernel
theorem k208_94 : decode zm208.2.1 94 = .ok (.iload_n 2, 1) := by decide +kernel
theorem k208_95 : decode zm208.2.1 95 = .ok (.ifCond .ne 10, 3) := by decide +kernel
theorem k208_105 : decode zm208.2.1 105 = .ok (.iload_n 3, 1) := by decide +kernel
theorem k208_106 : decode zm208.2.1 106 = .ok (.ireturn, 1) := by decide +kernel
theorem k208_98 : decode zm208.2.1 98 = .ok (.iload_n 3, 1) := by decide +kernel
theorem k208_99 : decode zm208.2.1 99 = .ok (.invokestatic 290, 3) := by decide +kernel
theorem k208_102 : decode zm208.2.1 102 = .ok (.goto 4, 3) := by decide +kernel
theorem k208_41 : decode zm208.2.1 41 = .ok (.aload_n 0, 1) := by decide +kernel
theorem k208_42 : decode zm208.2.1 42 = .ok (.iload 4, 2) := by decide +kernel
theorem k208_44 : decode zm208.2.1 44 = .ok (.invokevirtual 287, 3) := by decide +kernel
theorem k208_47 : decode zm208.2.1 47 = .ok (.ifCond .eq 41, 3) := by decide +kernel
theorem k208_50 : decode zm208.2.1 50 = .ok (.iload_n 3, 1) := by decide +kernel
theorem k208_51 : decode zm208.2.1 51 = .ok (.iconst (-1), 1) := by decide +kernel
theorem k208_52 : decode zm208.2.1 52 = .ok (.if_icmp .eq 15, 3) := by decide +kernel
theorem k208_55 : decode zm208.2.1 55 = .ok (.iload 4, 2) := by decide +kernel
theorem k208_57 : decode zm208.2.1 57 = .ok (.invokestatic 290, 3) := by decide +kernel
theorem k208_60 : decode zm208.2.1 60 = .ok (.iload_n 3, 1) := by decide +kernel
theorem k208_61 : decode zm208.2.1 61 = .ok (.invokestatic 290, 3) := by decide +kernel
theorem k208_64 : decode zm208.2.1 64 = .ok (.if_icmp .ge 24, 3) := by decide +kernel
theorem k208_0 : decode zm208.2.1 0 = .ok (.iload_n 1, 1) := by decide +kernel
theorem k208_1 : decode zm208.2.1 1 = .ok (.i2l, 1) := by decide +kernel
theorem k208_2 : decode zm208.2.1 2 = .ok (.lconst 0, 1) := by decide +kernel
theorem k208_3 : decode zm208.2.1 3 = .ok (.ldc2_w 261, 3) := by decide +kernel
theorem k208_6 : decode zm208.2.1 6 = .ok (.invokestatic 65, 3) := by decide +kernel
theorem k208_9 : decode zm208.2.1 9 = .ok (.ifCond .eq 13, 3) := by decide +kernel
theorem k208_22 : decode zm208.2.1 22 = .ok (.bipush (-3), 2) := by decide +kernel
theorem k208_24 : decode zm208.2.1 24 = .ok (.ireturn, 1) := by decide +kernel
theorem k208_12 : decode zm208.2.1 12 = .ok (.iload_n 2, 1) := by decide +kernel
theorem k208_13 : decode zm208.2.1 13 = .ok (.i2l, 1) := by decide +kernel
theorem k208_14 : decode zm208.2.1 14 = .ok (.lconst 0, 1) := by decide +kernel
theorem k208_15 : decode zm208.2.1 15 = .ok (.lconst 1, 1) := by decide +kernel
theorem k208_16 : decode zm208.2.1 16 = .ok (.invokestatic 65, 3) := by decide +kernel
theorem k208_19 : decode zm208.2.1 19 = .ok (.ifCond .ne 6, 3) := by decide +kernel
theorem k208_25 : decode zm208.2.1 25 = .ok (.iconst (-1), 1) := by decide +kernel
theorem k208_26 : decode zm208.2.1 26 = .ok (.istore_n 3, 1) := by decide +kernel
theorem k208_27 : decode zm208.2.1 27 = .ok (.iconst 0, 1) := by decide +kernel
theorem k208_28 : decode zm208.2.1 28 = .ok (.istore 4, 2) := by decide +kernel
theorem lk_10_296 : zmx 10 296 = some (213, 1) := by decide +kernel
theorem k212_207 : decode zm212.2.1 207 = .ok (.iload 8, 2) := by decide +kernel
theorem k212_209 : decode zm212.2.1 209 = .ok (.iload_n 2, 1) := by decide +kernel
theorem k212_210 : decode zm212.2.1 210 = .ok (.if_icmp .le 18, 3) := by decide +kernel
theorem k212_228 : decode zm212.2.1 228 = .ok (.iload 7, 2) := by decide +kernel
theorem k212_230 : decode zm212.2.1 230 = .ok (.aload_n 0, 1) := by decide +kernel
theorem k212_231 : decode zm212.2.1 231 = .ok (.getfield 149, 3) := by decide +kernel
theorem k212_234 : decode zm212.2.1 234 = .ok (.irem, 1) := by decide +kernel
theorem k212_235 : decode zm212.2.1 235 = .ok (.ireturn, 1) := by decide +kernel
theorem k212_213 : decode zm212.2.1 213 = .ok (.iload 7, 2) := by decide +kernel
theorem k212_215 : decode zm212.2.1 215 = .ok (.aload_n 0, 1) := by decide +kernel
theorem k212_216 : decode zm212.2.1 216 = .ok (.getfield 149, 3) := by decide +kernel
theorem k212_219 : decode zm212.2.1 219 = .ok (.idiv, 1) := by decide +kernel
theorem k212_220 : decode zm212.2.1 220 = .ok (.istore 7, 2) := by decide +kernel
theorem k212_222 : decode zm212.2.1 222 = .ok (.iinc 8 (-1), 3) := by decide +kernel
theorem k212_225 : decode zm212.2.1 225 = .ok (.goto (-18), 3) := by decide +kernel
theorem k212_169 : decode zm212.2.1 169 = .ok (.iadd, 1) := by decide +kernel
theorem k212_170 : decode zm212.2.1 170 = .ok (.istore 5, 2) := by decide +kernel
theorem k212_172 : decode zm212.2.1 172 = .ok (.iinc 7 1, 3) := by decide +kernel
theorem k212_175 : decode zm212.2.1 175 = .ok (.goto (-72), 3) := by decide +kernel
theorem k212_155 : decode zm212.2.1 155 = .ok (.istore 6, 2) := by decide +kernel
theorem k212_157 : decode zm212.2.1 157 = .ok (.iload 5, 2) := by decide +kernel
theorem k212_159 : decode zm212.2.1 159 = .ok (.iload 8, 2) := by decide +kernel
theorem k212_161 : decode zm212.2.1 161 = .ok (.ifCond .eq 7, 3) := by decide +kernel
theorem k212_168 : decode zm212.2.1 168 = .ok (.iconst 0, 1) := by decide +kernel
theorem k212_164 : decode zm212.2.1 164 = .ok (.iconst 1, 1) := by decide +kernel
theorem k212_165 : decode zm212.2.1 165 = .ok (.goto 4, 3) := by decide +kernel
theorem k212_153 : decode zm212.2.1 153 = .ok (.iload 6, 2) := by decide +kernel
theorem k212_136 : decode zm212.2.1 136 = .ok (.istore 8, 2) := by decide +kernel
theorem k212_138 : decode zm212.2.1 138 = .ok (.iload 8, 2) := by decide +kernel
theorem k212_140 : decode zm212.2.1 140 = .ok (.ifCond .eq 13, 3) := by decide +kernel
theorem k212_143 : decode zm212.2.1 143 = .ok (.iload 5, 2) := by decide +kernel
theorem k212_145 : decode zm212.2.1 145 = .ok (.ifCond .ne 8, 3) := by decide +kernel
theorem k212_148 : decode zm212.2.1 148 = .ok (.iload 7, 2) := by decide +kernel
theorem k212_150 : decode zm212.2.1 150 = .ok (.goto 5, 3) := by decide +kernel
theorem k212_135 : decode zm212.2.1 135 = .ok (.iconst 0, 1) := by decide +kernel
theorem k212_103 : decode zm212.2.1 103 = .ok (.iload 7, 2) := by decide +kernel
theorem k212_105 : decode zm212.2.1 105 = .ok (.iload 4, 2) := by decide +kernel
theorem k212_107 : decode zm212.2.1 107 = .ok (.if_icmp .ge 71, 3) := by decide +kernel
theorem k212_178 : decode zm212.2.1 178 = .ok (.iload_n 2, 1) := by decide +kernel
theorem k212_179 : decode zm212.2.1 179 = .ok (.iconst (-1), 1) := by decide +kernel
theorem k212_180 : decode zm212.2.1 180 = .ok (.if_icmp .ne 6, 3) := by decide +kernel
theorem k212_186 : decode zm212.2.1 186 = .ok (.iload 5, 2) := by decide +kernel
theorem k212_188 : decode zm212.2.1 188 = .ok (.ifCond .eq 8, 3) := by decide +kernel
theorem k212_196 : decode zm212.2.1 196 = .ok (.iconst (-1), 1) := by decide +kernel
theorem k212_197 : decode zm212.2.1 197 = .ok (.ireturn, 1) := by decide +kernel
theorem k212_191 : decode zm212.2.1 191 = .ok (.iload_n 2, 1) := by decide +kernel
theorem k212_192 : decode zm212.2.1 192 = .ok (.iload_n 3, 1) := by decide +kernel
theorem k212_193 : decode zm212.2.1 193 = .ok (.if_icmp .lt 5, 3) := by decide +kernel
theorem k212_198 : decode zm212.2.1 198 = .ok (.iload 6, 2) := by decide +kernel
theorem k212_200 : decode zm212.2.1 200 = .ok (.istore 7, 2) := by decide +kernel
theorem k212_202 : decode zm212.2.1 202 = .ok (.iload_n 3, 1) := by decide +kernel
theorem k212_203 : decode zm212.2.1 203 = .ok (.iconst 1, 1) := by decide +kernel
theorem k212_204 : decode zm212.2.1 204 = .ok (.isub, 1) := by decide +kernel
theorem k212_205 : decode zm212.2.1 205 = .ok (.istore 8, 2) := by decide +kernel
theorem k212_183 : decode zm212.2.1 183 = .ok (.iload 5, 2) := by decide +kernel
theorem k212_185 : decode zm212.2.1 185 = .ok (.ireturn, 1) := by decide +kernel
theorem k212_110 : decode zm212.2.1 110 = .ok (.aload_n 0, 1) := by decide +kernel
theorem k212_111 : decode zm212.2.1 111 = .ok (.iload 7, 2) := by decide +kernel
theorem k212_113 : decode zm212.2.1 113 = .ok (.invokevirtual 296, 3) := by decide +kernel
theorem k212_116 : decode zm212.2.1 116 = .ok (.aload_n 0, 1) := by decide +kernel
theorem k212_117 : decode zm212.2.1 117 = .ok (.invokevirtual 241, 3) := by decide +kernel
theorem k212_120 : decode zm212.2.1 120 = .ok (.ifCond .eq 15, 3) := by decide +kernel
theorem k212_123 : decode zm212.2.1 123 = .ok (.aload_n 0, 1) := by decide +kernel
theorem k212_124 : decode zm212.2.1 124 = .ok (.invokevirtual 275, 3) := by decide +kernel
theorem k212_127 : decode zm212.2.1 127 = .ok (.iload_n 1, 1) := by decide +kernel
theorem k212_128 : decode zm212.2.1 128 = .ok (.if_icmp .ne 7, 3) := by decide +kernel
theorem k212_131 : decode zm212.2.1 131 = .ok (.iconst 1, 1) := by decide +kernel
theorem k212_132 : decode zm212.2.1 132 = .ok (.goto 4, 3) := by decide +kernel
theorem k212_73 : decode zm212.2.1 73 = .ok (.iload 5, 2) := by decide +kernel
theorem k212_75 : decode zm212.2.1 75 = .ok (.iload_n 3, 1) := by decide +kernel
theorem k212_76 : decode zm212.2.1 76 = .ok (.if_icmp .ge 18, 3) := by decide +kernel
theorem k212_94 : decode zm212.2.1 94 = .ok (.iconst 0, 1) := by decide +kernel
theorem k212_95 : decode zm212.2.1 95 = .ok (.istore 5, 2) := by decide +kernel
theorem k212_97 : decode zm212.2.1 97 = .ok (.iconst (-1), 1) := by decide +kernel
theorem k212_98 : decode zm212.2.1 98 = .ok (.istore 6, 2) := by decide +kernel
theorem k212_100 : decode zm212.2.1 100 = .ok (.iconst 0, 1) := by decide +kernel
theorem k212_101 : decode zm212.2.1 101 = .ok (.istore 7, 2) := by decide +kernel
theorem k212_79 : decode zm212.2.1 79 = .ok (.iload 4, 2) := by decide +kernel
theorem k212_81 : decode zm212.2.1 81 = .ok (.aload_n 0, 1) := by decide +kernel
theorem k212_82 : decode zm212.2.1 82 = .ok (.getfield 149, 3) := by decide +kernel
theorem k212_85 : decode zm212.2.1 85 = .ok (.imul, 1) := by decide +kernel
theorem k212_86 : decode zm212.2.1 86 = .ok (.istore 4, 2) := by decide +kernel
theorem k212_88 : decode zm212.2.1 88 = .ok (.iinc 5 1, 3) := by decide +kernel
theorem k212_91 : decode zm212.2.1 91 = .ok (.goto (-18), 3) := by decide +kernel
theorem k212_51 : decode zm212.2.1 51 = .ok (.iadd, 1) := by decide +kernel
theorem k212_52 : decode zm212.2.1 52 = .ok (.istore_n 3, 1) := by decide +kernel
theorem k212_53 : decode zm212.2.1 53 = .ok (.iinc 4 1, 3) := by decide +kernel
theorem k212_56 : decode zm212.2.1 56 = .ok (.goto (-31), 3) := by decide +kernel
theorem k212_25 : decode zm212.2.1 25 = .ok (.iload 4, 2) := by decide +kernel
theorem k212_27 : decode zm212.2.1 27 = .ok (.aload_n 0, 1) := by decide +kernel
theorem k212_28 : decode zm212.2.1 28 = .ok (.getfield 185, 3) := by decide +kernel
theorem k212_31 : decode zm212.2.1 31 = .ok (.if_icmp .ge 28, 3) := by decide +kernel
theorem k212_59 : decode zm212.2.1 59 = .ok (.iload_n 3, 1) := by decide +kernel
theorem k212_60 : decode zm212.2.1 60 = .ok (.iconst 3, 1) := by decide +kernel
theorem k212_61 : decode zm212.2.1 61 = .ok (.if_icmp .le 6, 3) := by decide +kernel
theorem k212_67 : decode zm212.2.1 67 = .ok (.iconst 1, 1) := by decide +kernel
theorem k212_68 : decode zm212.2.1 68 = .ok (.istore 4, 2) := by decide +kernel
theorem k212_70 : decode zm212.2.1 70 = .ok (.iconst 0, 1) := by decide +kernel
theorem k212_71 : decode zm212.2.1 71 = .ok (.istore 5, 2) := by decide +kernel
theorem k212_64 : decode zm212.2.1 64 = .ok (.bipush (-4), 2) := by decide +kernel
theorem k212_66 : decode zm212.2.1 66 = .ok (.ireturn, 1) := by decide +kernel
theorem k212_34 : decode zm212.2.1 34 = .ok (.iload_n 3, 1) := by decide +kernel
theorem k212_35 : decode zm212.2.1 35 = .ok (.aload_n 0, 1) := by decide +kernel
theorem k212_36 : decode zm212.2.1 36 = .ok (.getfield 42, 3) := by decide +kernel
theorem k212_39 : decode zm212.2.1 39 = .ok (.iload 4, 2) := by decide +kernel
theorem k212_41 : decode zm212.2.1 41 = .ok (.iaload, 1) := by decide +kernel
theorem k212_42 : decode zm212.2.1 42 = .ok (.iconst (-1), 1) := by decide +kernel
theorem k212_43 : decode zm212.2.1 43 = .ok (.if_icmp .ne 7, 3) := by decide +kernel
theorem k212_50 : decode zm212.2.1 50 = .ok (.iconst 0, 1) := by decide +kernel
theorem k212_46 : decode zm212.2.1 46 = .ok (.iconst 1, 1) := by decide +kernel
theorem k212_47 : decode zm212.2.1 47 = .ok (.goto 4, 3) := by decide +kernel
theorem k212_0 : decode zm212.2.1 0 = .ok (.iload_n 1, 1) := by decide +kernel
theorem k212_1 : decode zm212.2.1 1 = .ok (.i2l, 1) := by decide +kernel
theorem k212_2 : decode zm212.2.1 2 = .ok (.lconst 0, 1) := by decide +kernel
theorem k212_3 : decode zm212.2.1 3 = .ok (.ldc2_w 261, 3) := by decide +kernel
theorem k212_6 : decode zm212.2.1 6 = .ok (.invokestatic 65, 3) := by decide +kernel
theorem k212_9 : decode zm212.2.1 9 = .ok (.ifCond .eq 8, 3) := by decide +kernel
theorem k212_17 : decode zm212.2.1 17 = .ok (.bipush (-3), 2) := by decide +kernel
theorem k212_19 : decode zm212.2.1 19 = .ok (.ireturn, 1) := by decide +kernel
theorem k212_12 : decode zm212.2.1 12 = .ok (.iload_n 2, 1) := by decide +kernel
theorem k212_13 : decode zm212.2.1 13 = .ok (.iconst (-1), 1) := by decide +kernel
theorem k212_14 : decode zm212.2.1 14 = .ok (.if_icmp .ge 6, 3) := by decide +kernel
theorem k212_20 : decode zm212.2.1 20 = .ok (.iconst 0, 1) := by decide +kernel
theorem k212_21 : decode zm212.2.1 21 = .ok (.istore_n 3, 1) := by decide +kernel
theorem k212_22 : decode zm212.2.1 22 = .ok (.iconst 0, 1) := by decide +kernel
theorem k212_23 : decode zm212.2.1 23 = .ok (.istore 4, 2) := by decide +kernel
theorem lk_10_302 : zmx 10 302 = some (219, 1) := by decide +kernel
theorem k218_117 : decode zm218.2.1 117 = .ok (.istore_n 3, 1) := by decide +kernel
theorem k218_118 : decode zm218.2.1 118 = .ok (.iinc 4 1, 3) := by decide +kernel
theorem k218_121 : decode zm218.2.1 121 = .ok (.goto (-91), 3) := by decide +kernel
theorem k218_116 : decode zm218.2.1 116 = .ok (.iload_n 3, 1) := by decide +kernel
theorem k218_82 : decode zm218.2.1 82 = .ok (.iadd, 1) := by decide +kernel
theorem k218_83 : decode zm218.2.1 83 = .ok (.istore 5, 2) := by decide +kernel
theorem k218_85 : decode zm218.2.1 85 = .ok (.iinc 6 1, 3) := by decide +kernel
theorem k218_88 : decode zm218.2.1 88 = .ok (.goto (-41), 3) := by decide +kernel
theorem k218_47 : decode zm218.2.1 47 = .ok (.iload 6, 2) := by decide +kernel
theorem k218_49 : decode zm218.2.1 49 = .ok (.aload_n 0, 1) := by decide +kernel
theorem k218_50 : decode zm218.2.1 50 = .ok (.getfield 188, 3) := by decide +kernel
theorem k218_53 : decode zm218.2.1 53 = .ok (.if_icmp .ge 38, 3) := by decide +kernel
theorem k218_91 : decode zm218.2.1 91 = .ok (.iload 5, 2) := by decide +kernel
theorem k218_93 : decode zm218.2.1 93 = .ok (.iload_n 1, 1) := by decide +kernel
theorem k218_94 : decode zm218.2.1 94 = .ok (.if_icmp .gt 22, 3) := by decide +kernel
theorem k218_97 : decode zm218.2.1 97 = .ok (.aload_n 0, 1) := by decide +kernel
theorem k218_98 : decode zm218.2.1 98 = .ok (.iload 4, 2) := by decide +kernel
theorem k218_100 : decode zm218.2.1 100 = .ok (.invokevirtual 302, 3) := by decide +kernel
theorem k218_103 : decode zm218.2.1 103 = .ok (.aload_n 0, 1) := by decide +kernel
theorem k218_104 : decode zm218.2.1 104 = .ok (.iload_n 3, 1) := by decide +kernel
theorem k218_105 : decode zm218.2.1 105 = .ok (.invokevirtual 302, 3) := by decide +kernel
theorem k218_108 : decode zm218.2.1 108 = .ok (.if_icmp .le 8, 3) := by decide +kernel
theorem k218_111 : decode zm218.2.1 111 = .ok (.iload 4, 2) := by decide +kernel
theorem k218_113 : decode zm218.2.1 113 = .ok (.goto 4, 3) := by decide +kernel
theorem k218_56 : decode zm218.2.1 56 = .ok (.aload_n 0, 1) := by decide +kernel
theorem k218_57 : decode zm218.2.1 57 = .ok (.iload 6, 2) := by decide +kernel
theorem k218_59 : decode zm218.2.1 59 = .ok (.invokevirtual 299, 3) := by decide +kernel
theorem k218_62 : decode zm218.2.1 62 = .ok (.iload 5, 2) := by decide +kernel
theorem k218_64 : decode zm218.2.1 64 = .ok (.iload 4, 2) := by decide +kernel
theorem k218_66 : decode zm218.2.1 66 = .ok (.iload 6, 2) := by decide +kernel
theorem k218_68 : decode zm218.2.1 68 = .ok (.invokestatic 203, 3) := by decide +kernel
theorem k218_71 : decode zm218.2.1 71 = .ok (.ifCond .eq 10, 3) := by decide +kernel
theorem k218_81 : decode zm218.2.1 81 = .ok (.iconst 0, 1) := by decide +kernel
theorem k218_74 : decode zm218.2.1 74 = .ok (.aload_n 0, 1) := by decide +kernel
theorem k218_75 : decode zm218.2.1 75 = .ok (.invokevirtual 275, 3) := by decide +kernel
theorem k218_78 : decode zm218.2.1 78 = .ok (.goto 4, 3) := by decide +kernel
theorem k218_30 : decode zm218.2.1 30 = .ok (.iload 4, 2) := by decide +kernel
theorem k218_32 : decode zm218.2.1 32 = .ok (.iconst 1, 1) := by decide +kernel
theorem k218_33 : decode zm218.2.1 33 = .ok (.aload_n 0, 1) := by decide +kernel
theorem k218_34 : decode zm218.2.1 34 = .ok (.getfield 188, 3) := by decide +kernel
theorem k218_37 : decode zm218.2.1 37 = .ok (.ishl, 1) := by decide +kernel
theorem k218_38 : decode zm218.2.1 38 = .ok (.if_icmp .ge 86, 3) := by decide +kernel
theorem k218_124 : decode zm218.2.1 124 = .ok (.iload_n 2, 1) := by decide +kernel
theorem k218_125 : decode zm218.2.1 125 = .ok (.ifCond .ne 11, 3) := by decide +kernel
theorem k218_136 : decode zm218.2.1 136 = .ok (.iload_n 3, 1) := by decide +kernel
theorem k218_137 : decode zm218.2.1 137 = .ok (.ireturn, 1) := by decide +kernel
theorem k218_128 : decode zm218.2.1 128 = .ok (.aload_n 0, 1) := by decide +kernel
theorem k218_129 : decode zm218.2.1 129 = .ok (.iload_n 3, 1) := by decide +kernel
theorem k218_130 : decode zm218.2.1 130 = .ok (.invokevirtual 302, 3) := by decide +kernel
theorem k218_133 : decode zm218.2.1 133 = .ok (.goto 4, 3) := by decide +kernel
theorem k218_41 : decode zm218.2.1 41 = .ok (.iconst 0, 1) := by decide +kernel
theorem k218_42 : decode zm218.2.1 42 = .ok (.istore 5, 2) := by decide +kernel
theorem k218_44 : decode zm218.2.1 44 = .ok (.iconst 0, 1) := by decide +kernel
theorem k218_45 : decode zm218.2.1 45 = .ok (.istore 6, 2) := by decide +kernel
theorem k218_0 : decode zm218.2.1 0 = .ok (.iload_n 1, 1) := by decide +kernel
theorem k218_1 : decode zm218.2.1 1 = .ok (.i2l, 1) := by decide +kernel
theorem k218_2 : decode zm218.2.1 2 = .ok (.lconst 0, 1) := by decide +kernel
theorem k218_3 : decode zm218.2.1 3 = .ok (.ldc2_w 261, 3) := by decide +kernel
theorem k218_6 : decode zm218.2.1 6 = .ok (.invokestatic 65, 3) := by decide +kernel
theorem k218_9 : decode zm218.2.1 9 = .ok (.ifCond .eq 13, 3) := by decide +kernel
theorem k218_22 : decode zm218.2.1 22 = .ok (.bipush (-3), 2) := by decide +kernel
theorem k218_24 : decode zm218.2.1 24 = .ok (.ireturn, 1) := by decide +kernel
theorem k218_12 : decode zm218.2.1 12 = .ok (.iload_n 2, 1) := by decide +kernel
theorem k218_13 : decode zm218.2.1 13 = .ok (.i2l, 1) := by decide +kernel
theorem k218_14 : decode zm218.2.1 14 = .ok (.lconst 0, 1) := by decide +kernel
theorem k218_15 : decode zm218.2.1 15 = .ok (.lconst 1, 1) := by decide +kernel
theorem k218_16 : decode zm218.2.1 16 = .ok (.invokestatic 65, 3) := by decide +kernel
theorem k218_19 : decode zm218.2.1 19 = .ok (.ifCond .ne 6, 3) := by decide +kernel
theorem k218_25 : decode zm218.2.1 25 = .ok (.iconst 0, 1) := by decide +kernel
theorem k218_26 : decode zm218.2.1 26 = .ok (.istore_n 3, 1) := by decide +kernel
theorem k218_27 : decode zm218.2.1 27 = .ok (.iconst 1, 1) := by decide +kernel
theorem k218_28 : decode zm218.2.1 28 = .ok (.istore 4, 2) := by decide +kernel
theorem lk_10_305 : zmx 10 305 = some (221, 1) := by decide +kernel
theorem k220_70 : decode zm220.2.1 70 = .ok (.istore_n 3, 1) := by decide +kernel
theorem k220_71 : decode zm220.2.1 71 = .ok (.iinc 4 1, 3) := by decide +kernel
theorem k220_74 : decode zm220.2.1 74 = .ok (.goto (-45), 3) := by decide +kernel
theorem k220_69 : decode zm220.2.1 69 = .ok (.iload_n 3, 1) := by decide +kernel
theorem k220_29 : decode zm220.2.1 29 = .ok (.iload 4, 2) := by decide +kernel
theorem k220_31 : decode zm220.2.1 31 = .ok (.iconst 1, 1) := by decide +kernel
theorem k220_32 : decode zm220.2.1 32 = .ok (.aload_n 0, 1) := by decide +kernel
theorem k220_33 : decode zm220.2.1 33 = .ok (.getfield 188, 3) := by decide +kernel
theorem k220_36 : decode zm220.2.1 36 = .ok (.ishl, 1) := by decide +kernel
theorem k220_37 : decode zm220.2.1 37 = .ok (.if_icmp .ge 40, 3) := by decide +kernel
theorem k220_77 : decode zm220.2.1 77 = .ok (.iload_n 2, 1) := by decide +kernel
theorem k220_78 : decode zm220.2.1 78 = .ok (.ifCond .ne 11, 3) := by decide +kernel
theorem k220_89 : decode zm220.2.1 89 = .ok (.iload_n 3, 1) := by decide +kernel
theorem k220_90 : decode zm220.2.1 90 = .ok (.ireturn, 1) := by decide +kernel
theorem k220_81 : decode zm220.2.1 81 = .ok (.aload_n 0, 1) := by decide +kernel
theorem k220_82 : decode zm220.2.1 82 = .ok (.iload_n 3, 1) := by decide +kernel
theorem k220_83 : decode zm220.2.1 83 = .ok (.invokevirtual 302, 3) := by decide +kernel
theorem k220_86 : decode zm220.2.1 86 = .ok (.goto 4, 3) := by decide +kernel
theorem k220_40 : decode zm220.2.1 40 = .ok (.aload_n 0, 1) := by decide +kernel
theorem k220_41 : decode zm220.2.1 41 = .ok (.iload_n 1, 1) := by decide +kernel
theorem k220_42 : decode zm220.2.1 42 = .ok (.iload 4, 2) := by decide +kernel
theorem k220_44 : decode zm220.2.1 44 = .ok (.invokevirtual 305, 3) := by decide +kernel
theorem k220_47 : decode zm220.2.1 47 = .ok (.ifCond .eq 22, 3) := by decide +kernel
theorem k220_50 : decode zm220.2.1 50 = .ok (.aload_n 0, 1) := by decide +kernel
theorem k220_51 : decode zm220.2.1 51 = .ok (.iload 4, 2) := by decide +kernel
theorem k220_53 : decode zm220.2.1 53 = .ok (.invokevirtual 302, 3) := by decide +kernel
theorem k220_56 : decode zm220.2.1 56 = .ok (.aload_n 0, 1) := by decide +kernel
theorem k220_57 : decode zm220.2.1 57 = .ok (.iload_n 3, 1) := by decide +kernel
theorem k220_58 : decode zm220.2.1 58 = .ok (.invokevirtual 302, 3) := by decide +kernel
theorem k220_61 : decode zm220.2.1 61 = .ok (.if_icmp .le 8, 3) := by decide +kernel
theorem k220_64 : decode zm220.2.1 64 = .ok (.iload 4, 2) := by decide +kernel
theorem k220_66 : decode zm220.2.1 66 = .ok (.goto 4, 3) := by decide +kernel
theorem k220_0 : decode zm220.2.1 0 = .ok (.aload_n 0, 1) := by decide +kernel
theorem k220_1 : decode zm220.2.1 1 = .ok (.iload_n 1, 1) := by decide +kernel
theorem k220_2 : decode zm220.2.1 2 = .ok (.invokevirtual 228, 3) := by decide +kernel
theorem k220_5 : decode zm220.2.1 5 = .ok (.ifCond .ne 6, 3) := by decide +kernel
theorem k220_11 : decode zm220.2.1 11 = .ok (.iload_n 2, 1) := by decide +kernel
theorem k220_12 : decode zm220.2.1 12 = .ok (.i2l, 1) := by decide +kernel
theorem k220_13 : decode zm220.2.1 13 = .ok (.lconst 0, 1) := by decide +kernel
theorem k220_14 : decode zm220.2.1 14 = .ok (.lconst 1, 1) := by decide +kernel
theorem k220_15 : decode zm220.2.1 15 = .ok (.invokestatic 65, 3) := by decide +kernel
theorem k220_18 : decode zm220.2.1 18 = .ok (.ifCond .ne 6, 3) := by decide +kernel
theorem k220_24 : decode zm220.2.1 24 = .ok (.iconst 0, 1) := by decide +kernel
theorem k220_25 : decode zm220.2.1 25 = .ok (.istore_n 3, 1) := by decide +kernel
theorem k220_26 : decode zm220.2.1 26 = .ok (.iconst 1, 1) := by decide +kernel
theorem k220_27 : decode zm220.2.1 27 = .ok (.istore 4, 2) := by decide +kernel
theorem k220_21 : decode zm220.2.1 21 = .ok (.bipush (-3), 2) := by decide +kernel
theorem k220_23 : decode zm220.2.1 23 = .ok (.ireturn, 1) := by decide +kernel
theorem k220_8 : decode zm220.2.1 8 = .ok (.bipush (-2), 2) := by decide +kernel
theorem k220_10 : decode zm220.2.1 10 = .ok (.ireturn, 1) := by decide +kernel
theorem lk_1_48 : zmx 1 48 = some (24, 1) := by decide +kernel
theorem lk_1_52 : zmx 1 52 = some (36, 1) := by decide +kernel
theorem lk_1_61 : zmx 1 61 = some (40, 0) := by decide +kernel
theorem lk_1_58 : zmx 1 58 = some (37, 1) := by decide +kernel
theorem lk_1_67 : zmx 1 67 = some (41, 1) := by decide +kernel
theorem k23_68 : decode zm23.2.1 68 = .ok (.aload_n 1, 1) := by decide +kernel
theorem k23_69 : decode zm23.2.1 69 = .ok (.iload_n 2, 1) := by decide +kernel
theorem k23_70 : decode zm23.2.1 70 = .ok (.iload_n 3, 1) := by decide +kernel
theorem k23_71 : decode zm23.2.1 71 = .ok (.invokevirtual 67, 3) := by decide +kernel
theorem k23_74 : decode zm23.2.1 74 = .ok (.iconst 1, 1) := by decide +kernel
theorem k23_75 : decode zm23.2.1 75 = .ok (.ireturn, 1) := by decide +kernel
theorem k23_0 : decode zm23.2.1 0 = .ok (.aload_n 0, 1) := by decide +kernel
theorem k23_1 : decode zm23.2.1 1 = .ok (.invokevirtual 48, 3) := by decide +kernel
theorem k23_4 : decode zm23.2.1 4 = .ok (.istore_n 2, 1) := by decide +kernel
theorem k23_5 : decode zm23.2.1 5 = .ok (.iload_n 2, 1) := by decide +kernel
theorem k23_6 : decode zm23.2.1 6 = .ok (.iconst (-1), 1) := by decide +kernel
theorem k23_7 : decode zm23.2.1 7 = .ok (.if_icmp .eq 11, 3) := by decide +kernel
theorem k23_18 : decode zm23.2.1 18 = .ok (.iconst 0, 1) := by decide +kernel
theorem k23_19 : decode zm23.2.1 19 = .ok (.ireturn, 1) := by decide +kernel
theorem k23_10 : decode zm23.2.1 10 = .ok (.aload_n 1, 1) := by decide +kernel
theorem k23_11 : decode zm23.2.1 11 = .ok (.iload_n 2, 1) := by decide +kernel
theorem k23_12 : decode zm23.2.1 12 = .ok (.invokevirtual 52, 3) := by decide +kernel
theorem k23_15 : decode zm23.2.1 15 = .ok (.ifCond .ne 5, 3) := by decide +kernel
theorem k23_20 : decode zm23.2.1 20 = .ok (.aload_n 0, 1) := by decide +kernel
theorem k23_21 : decode zm23.2.1 21 = .ok (.invokevirtual 31, 3) := by decide +kernel
theorem k23_24 : decode zm23.2.1 24 = .ok (.iload_n 2, 1) := by decide +kernel
theorem k23_25 : decode zm23.2.1 25 = .ok (.bipush 6, 2) := by decide +kernel
theorem k23_27 : decode zm23.2.1 27 = .ok (.if_icmp .ne 9, 3) := by decide +kernel
theorem k23_36 : decode zm23.2.1 36 = .ok (.iconst 0, 1) := by decide +kernel
theorem k23_37 : decode zm23.2.1 37 = .ok (.istore_n 3, 1) := by decide +kernel
theorem k23_38 : decode zm23.2.1 38 = .ok (.iload_n 2, 1) := by decide +kernel
theorem k23_39 : decode zm23.2.1 39 = .ok (.invokestatic 61, 3) := by decide +kernel
theorem k23_42 : decode zm23.2.1 42 = .ok (.istore 4, 2) := by decide +kernel
theorem k23_44 : decode zm23.2.1 44 = .ok (.iload 4, 2) := by decide +kernel
theorem k23_46 : decode zm23.2.1 46 = .ok (.iconst (-1), 1) := by decide +kernel
theorem k23_47 : decode zm23.2.1 47 = .ok (.if_icmp .eq 21, 3) := by decide +kernel
theorem k23_50 : decode zm23.2.1 50 = .ok (.aload_n 0, 1) := by decide +kernel
theorem k23_51 : decode zm23.2.1 51 = .ok (.iload 4, 2) := by decide +kernel
theorem k23_53 : decode zm23.2.1 53 = .ok (.invokevirtual 64, 3) := by decide +kernel
theorem k23_56 : decode zm23.2.1 56 = .ok (.istore_n 3, 1) := by decide +kernel
theorem k23_57 : decode zm23.2.1 57 = .ok (.iload_n 3, 1) := by decide +kernel
theorem k23_58 : decode zm23.2.1 58 = .ok (.iconst (-1), 1) := by decide +kernel
theorem k23_59 : decode zm23.2.1 59 = .ok (.if_icmp .ne 5, 3) := by decide +kernel
theorem k23_64 : decode zm23.2.1 64 = .ok (.aload_n 0, 1) := by decide +kernel
theorem k23_65 : decode zm23.2.1 65 = .ok (.invokevirtual 31, 3) := by decide +kernel
theorem k23_62 : decode zm23.2.1 62 = .ok (.iconst 0, 1) := by decide +kernel
theorem k23_63 : decode zm23.2.1 63 = .ok (.ireturn, 1) := by decide +kernel
theorem k23_30 : decode zm23.2.1 30 = .ok (.aload_n 0, 1) := by decide +kernel
theorem k23_31 : decode zm23.2.1 31 = .ok (.aload_n 1, 1) := by decide +kernel
theorem k23_32 : decode zm23.2.1 32 = .ok (.invokevirtual 58, 3) := by decide +kernel
theorem k23_35 : decode zm23.2.1 35 = .ok (.ireturn, 1) := by decide +kernel
theorem lk_10_179 : zmx 10 179 = some (148, 1) := by decide +kernel
theorem lk_10_182 : zmx 10 182 = some (161, 1) := by decide +kernel
theorem k160_99 : decode zm160.2.1 99 = .ok (.iastore, 1) := by decide +kernel
theorem k160_100 : decode zm160.2.1 100 = .ok (.iinc 1 1, 3) := by decide +kernel
theorem k160_103 : decode zm160.2.1 103 = .ok (.goto (-67), 3) := by decide +kernel
theorem k160_69 : decode zm160.2.1 69 = .ok (.istore_n 2, 1) := by decide +kernel
theorem k160_70 : decode zm160.2.1 70 = .ok (.aload_n 0, 1) := by decide +kernel
theorem k160_71 : decode zm160.2.1 71 = .ok (.getfield 7, 3) := by decide +kernel
theorem k160_74 : decode zm160.2.1 74 = .ok (.iload_n 1, 1) := by decide +kernel
theorem k160_75 : decode zm160.2.1 75 = .ok (.iload_n 2, 1) := by decide +kernel
theorem k160_76 : decode zm160.2.1 76 = .ok (.ifCond .ne 7, 3) := by decide +kernel
theorem k160_83 : decode zm160.2.1 83 = .ok (.iload_n 1, 1) := by decide +kernel
theorem k160_84 : decode zm160.2.1 84 = .ok (.iconst 5, 1) := by decide +kernel
theorem k160_85 : decode zm160.2.1 85 = .ok (.if_icmp .ge 12, 3) := by decide +kernel
theorem k160_97 : decode zm160.2.1 97 = .ok (.bipush 10, 2) := by decide +kernel
theorem k160_88 : decode zm160.2.1 88 = .ok (.iconst 2, 1) := by decide +kernel
theorem k160_89 : decode zm160.2.1 89 = .ok (.aload_n 0, 1) := by decide +kernel
theorem k160_90 : decode zm160.2.1 90 = .ok (.getfield 38, 3) := by decide +kernel
theorem k160_93 : decode zm160.2.1 93 = .ok (.imul, 1) := by decide +kernel
theorem k160_94 : decode zm160.2.1 94 = .ok (.goto 5, 3) := by decide +kernel
theorem k160_79 : decode zm160.2.1 79 = .ok (.iconst 0, 1) := by decide +kernel
theorem k160_80 : decode zm160.2.1 80 = .ok (.goto 19, 3) := by decide +kernel
theorem k160_68 : decode zm160.2.1 68 = .ok (.iconst 0, 1) := by decide +kernel
theorem k160_36 : decode zm160.2.1 36 = .ok (.iload_n 1, 1) := by decide +kernel
theorem k160_37 : decode zm160.2.1 37 = .ok (.bipush 73, 2) := by decide +kernel
theorem k160_39 : decode zm160.2.1 39 = .ok (.if_icmp .ge 67, 3) := by decide +kernel
theorem k160_106 : decode zm160.2.1 106 = .ok (.aload_n 0, 1) := by decide +kernel
theorem k160_107 : decode zm160.2.1 107 = .ok (.iconst 0, 1) := by decide +kernel
theorem k160_108 : decode zm160.2.1 108 = .ok (.putfield 185, 3) := by decide +kernel
theorem k160_111 : decode zm160.2.1 111 = .ok (.aload_n 0, 1) := by decide +kernel
theorem k160_112 : decode zm160.2.1 112 = .ok (.iconst 0, 1) := by decide +kernel
theorem k160_113 : decode zm160.2.1 113 = .ok (.putfield 188, 3) := by decide +kernel
theorem k160_116 : decode zm160.2.1 116 = .ok (.aload_n 0, 1) := by decide +kernel
theorem k160_117 : decode zm160.2.1 117 = .ok (.iconst 0, 1) := by decide +kernel
theorem k160_118 : decode zm160.2.1 118 = .ok (.putfield 191, 3) := by decide +kernel
theorem k160_121 : decode zm160.2.1 121 = .ok (.aload_n 0, 1) := by decide +kernel
theorem k160_122 : decode zm160.2.1 122 = .ok (.getfield 13, 3) := by decide +kernel
theorem k160_125 : decode zm160.2.1 125 = .ok (.iconst 0, 1) := by decide +kernel
theorem k160_126 : decode zm160.2.1 126 = .ok (.iconst 0, 1) := by decide +kernel
theorem k160_127 : decode zm160.2.1 127 = .ok (.bastore, 1) := by decide +kernel
theorem k160_128 : decode zm160.2.1 128 = .ok (.aload_n 0, 1) := by decide +kernel
theorem k160_129 : decode zm160.2.1 129 = .ok (.getfield 13, 3) := by decide +kernel
theorem k160_132 : decode zm160.2.1 132 = .ok (.iconst 1, 1) := by decide +kernel
theorem k160_133 : decode zm160.2.1 133 = .ok (.iconst 0, 1) := by decide +kernel
theorem k160_134 : decode zm160.2.1 134 = .ok (.bastore, 1) := by decide +kernel
theorem k160_135 : decode zm160.2.1 135 = .ok (.aload_n 0, 1) := by decide +kernel
theorem k160_136 : decode zm160.2.1 136 = .ok (.iconst 0, 1) := by decide +kernel
theorem k160_137 : decode zm160.2.1 137 = .ok (.putfield 69, 3) := by decide +kernel
theorem k160_140 : decode zm160.2.1 140 = .ok (.aload_n 0, 1) := by decide +kernel
theorem k160_141 : decode zm160.2.1 141 = .ok (.getfield 112, 3) := by decide +kernel
theorem k160_144 : decode zm160.2.1 144 = .ok (.ireturn, 1) := by decide +kernel
theorem k160_42 : decode zm160.2.1 42 = .ok (.iload_n 1, 1) := by decide +kernel
theorem k160_43 : decode zm160.2.1 43 = .ok (.bipush 9, 2) := by decide +kernel
theorem k160_45 : decode zm160.2.1 45 = .ok (.if_icmp .ge 23, 3) := by decide +kernel
theorem k160_48 : decode zm160.2.1 48 = .ok (.iload_n 1, 1) := by decide +kernel
theorem k160_49 : decode zm160.2.1 49 = .ok (.ifCond .le 19, 3) := by decide +kernel
theorem k160_52 : decode zm160.2.1 52 = .ok (.iload_n 1, 1) := by decide +kernel
theorem k160_53 : decode zm160.2.1 53 = .ok (.iconst 1, 1) := by decide +kernel
theorem k160_54 : decode zm160.2.1 54 = .ok (.isub, 1) := by decide +kernel
theorem k160_55 : decode zm160.2.1 55 = .ok (.iconst 4, 1) := by decide +kernel
theorem k160_56 : decode zm160.2.1 56 = .ok (.irem, 1) := by decide +kernel
theorem k160_57 : decode zm160.2.1 57 = .ok (.aload_n 0, 1) := by decide +kernel
theorem k160_58 : decode zm160.2.1 58 = .ok (.getfield 155, 3) := by decide +kernel
theorem k160_61 : decode zm160.2.1 61 = .ok (.if_icmp .ge 7, 3) := by decide +kernel
theorem k160_64 : decode zm160.2.1 64 = .ok (.iconst 1, 1) := by decide +kernel
theorem k160_65 : decode zm160.2.1 65 = .ok (.goto 4, 3) := by decide +kernel
theorem k160_13 : decode zm160.2.1 13 = .ok (.iload_n 1, 1) := by decide +kernel
theorem k160_14 : decode zm160.2.1 14 = .ok (.aload_n 0, 1) := by decide +kernel
theorem k160_15 : decode zm160.2.1 15 = .ok (.getfield 112, 3) := by decide +kernel
theorem k160_18 : decode zm160.2.1 18 = .ok (.if_icmp .ge 16, 3) := by decide +kernel
theorem k160_34 : decode zm160.2.1 34 = .ok (.iconst 0, 1) := by decide +kernel
theorem k160_35 : decode zm160.2.1 35 = .ok (.istore_n 1, 1) := by decide +kernel
theorem k160_21 : decode zm160.2.1 21 = .ok (.aload_n 0, 1) := by decide +kernel
theorem k160_22 : decode zm160.2.1 22 = .ok (.iconst 4, 1) := by decide +kernel
theorem k160_23 : decode zm160.2.1 23 = .ok (.iload_n 1, 1) := by decide +kernel
theorem k160_24 : decode zm160.2.1 24 = .ok (.imul, 1) := by decide +kernel
theorem k160_25 : decode zm160.2.1 25 = .ok (.invokevirtual 182, 3) := by decide +kernel
theorem k160_28 : decode zm160.2.1 28 = .ok (.iinc 1 1, 3) := by decide +kernel
theorem k160_31 : decode zm160.2.1 31 = .ok (.goto (-18), 3) := by decide +kernel
theorem k160_0 : decode zm160.2.1 0 = .ok (.aload_n 0, 1) := by decide +kernel
theorem k160_1 : decode zm160.2.1 1 = .ok (.invokevirtual 179, 3) := by decide +kernel
theorem k160_4 : decode zm160.2.1 4 = .ok (.iconst (-1), 1) := by decide +kernel
theorem k160_5 : decode zm160.2.1 5 = .ok (.if_icmp .eq 6, 3) := by decide +kernel
theorem k160_11 : decode zm160.2.1 11 = .ok (.iconst 0, 1) := by decide +kernel
theorem k160_12 : decode zm160.2.1 12 = .ok (.istore_n 1, 1) := by decide +kernel
theorem k160_8 : decode zm160.2.1 8 = .ok (.bipush (-4), 2) := by decide +kernel
theorem k160_10 : decode zm160.2.1 10 = .ok (.ireturn, 1) := by decide +kernel
theorem lk_10_281 : zmx 10 281 = some (201, 1) := by decide +kernel
theorem lk_10_284 : zmx 10 284 = some (202, 1) := by decide +kernel
theorem k200_0 : decode zm200.2.1 0 = .ok (.iload_n 1, 1) := by decide +kernel
theorem k200_1 : decode zm200.2.1 1 = .ok (.iconst (-1), 1) := by decide +kernel
theorem k200_2 : decode zm200.2.1 2 = .ok (.if_icmp .ge 6, 3) := by decide +kernel
theorem k200_8 : decode zm200.2.1 8 = .ok (.aload_n 0, 1) := by decide +kernel
theorem k200_9 : decode zm200.2.1 9 = .ok (.invokevirtual 281, 3) := by decide +kernel
theorem k200_12 : decode zm200.2.1 12 = .ok (.ifCond .ne 6, 3) := by decide +kernel
theorem k200_18 : decode zm200.2.1 18 = .ok (.aload_n 0, 1) := by decide +kernel
theorem k200_19 : decode zm200.2.1 19 = .ok (.invokevirtual 284, 3) := by decide +kernel
theorem k200_22 : decode zm200.2.1 22 = .ok (.aload_n 0, 1) := by decide +kernel
theorem k200_23 : decode zm200.2.1 23 = .ok (.getfield 266, 3) := by decide +kernel
theorem k200_26 : decode zm200.2.1 26 = .ok (.iconst (-1), 1) := by decide +kernel
theorem k200_27 : decode zm200.2.1 27 = .ok (.if_icmp .eq 8, 3) := by decide +kernel
theorem k200_35 : decode zm200.2.1 35 = .ok (.aload_n 0, 1) := by decide +kernel
theorem k200_36 : decode zm200.2.1 36 = .ok (.getfield 266, 3) := by decide +kernel
theorem k200_39 : decode zm200.2.1 39 = .ok (.goto 21, 3) := by decide +kernel
theorem k200_60 : decode zm200.2.1 60 = .ok (.ireturn, 1) := by decide +kernel
theorem k200_30 : decode zm200.2.1 30 = .ok (.iload_n 1, 1) := by decide +kernel
theorem k200_31 : decode zm200.2.1 31 = .ok (.iconst (-1), 1) := by decide +kernel
theorem k200_32 : decode zm200.2.1 32 = .ok (.if_icmp .ne 10, 3) := by decide +kernel
theorem k200_42 : decode zm200.2.1 42 = .ok (.iload_n 1, 1) := by decide +kernel
theorem k200_43 : decode zm200.2.1 43 = .ok (.aload_n 0, 1) := by decide +kernel
theorem k200_44 : decode zm200.2.1 44 = .ok (.getfield 185, 3) := by decide +kernel
theorem k200_47 : decode zm200.2.1 47 = .ok (.if_icmp .ge 12, 3) := by decide +kernel
theorem k200_59 : decode zm200.2.1 59 = .ok (.iconst (-1), 1) := by decide +kernel
theorem k200_50 : decode zm200.2.1 50 = .ok (.aload_n 0, 1) := by decide +kernel
theorem k200_51 : decode zm200.2.1 51 = .ok (.getfield 57, 3) := by decide +kernel
theorem k200_54 : decode zm200.2.1 54 = .ok (.iload_n 1, 1) := by decide +kernel
theorem k200_55 : decode zm200.2.1 55 = .ok (.iaload, 1) := by decide +kernel
theorem k200_56 : decode zm200.2.1 56 = .ok (.goto 4, 3) := by decide +kernel
theorem k200_15 : decode zm200.2.1 15 = .ok (.bipush (-4), 2) := by decide +kernel
theorem k200_17 : decode zm200.2.1 17 = .ok (.ireturn, 1) := by decide +kernel
theorem k200_5 : decode zm200.2.1 5 = .ok (.bipush (-3), 2) := by decide +kernel
theorem k200_7 : decode zm200.2.1 7 = .ok (.ireturn, 1) := by decide +kernel
theorem k207_0 : decode zm207.2.1 0 = .ok (.aload_n 0, 1) := by decide +kernel
theorem k207_1 : decode zm207.2.1 1 = .ok (.invokevirtual 281, 3) := by decide +kernel
theorem k207_4 : decode zm207.2.1 4 = .ok (.ifCond .ne 6, 3) := by decide +kernel
theorem k207_10 : decode zm207.2.1 10 = .ok (.aload_n 0, 1) := by decide +kernel
theorem k207_11 : decode zm207.2.1 11 = .ok (.invokevirtual 284, 3) := by decide +kernel
theorem k207_14 : decode zm207.2.1 14 = .ok (.aload_n 0, 1) := by decide +kernel
theorem k207_15 : decode zm207.2.1 15 = .ok (.getfield 266, 3) := by decide +kernel
theorem k207_18 : decode zm207.2.1 18 = .ok (.iconst (-1), 1) := by decide +kernel
theorem k207_19 : decode zm207.2.1 19 = .ok (.if_icmp .ne 7, 3) := by decide +kernel
theorem k207_26 : decode zm207.2.1 26 = .ok (.aload_n 0, 1) := by decide +kernel
theorem k207_27 : decode zm207.2.1 27 = .ok (.getfield 269, 3) := by decide +kernel
theorem k207_30 : decode zm207.2.1 30 = .ok (.aload_n 0, 1) := by decide +kernel
theorem k207_31 : decode zm207.2.1 31 = .ok (.getfield 266, 3) := by decide +kernel
theorem k207_34 : decode zm207.2.1 34 = .ok (.isub, 1) := by decide +kernel
theorem k207_35 : decode zm207.2.1 35 = .ok (.ireturn, 1) := by decide +kernel
theorem k207_22 : decode zm207.2.1 22 = .ok (.iconst (-1), 1) := by decide +kernel
theorem k207_23 : decode zm207.2.1 23 = .ok (.goto 12, 3) := by decide +kernel
theorem k207_7 : decode zm207.2.1 7 = .ok (.bipush (-4), 2) := by decide +kernel
theorem k207_9 : decode zm207.2.1 9 = .ok (.ireturn, 1) := by decide +kernel
theorem fk_1_34 : zfx 1 34 = some (1, 2) := by decide +kernel
theorem pi_1_2 : zdes 1 2 = "I" ∧ zfin 1 2 = false := by decide +kernel
theorem lk_1_37 : zmx 1 37 = some (23, 1) := by decide +kernel
theorem k19_14 : decode zm19.2.1 14 = .ok (.aload_n 0, 1) := by decide +kernel
theorem k19_15 : decode zm19.2.1 15 = .ok (.getfield 34, 3) := by decide +kernel
theorem k19_18 : decode zm19.2.1 18 = .ok (.bipush 14, 2) := by decide +kernel
theorem k19_20 : decode zm19.2.1 20 = .ok (.if_icmp .gt 76, 3) := by decide +kernel
theorem k19_96 : decode zm19.2.1 96 = .ok (.aload_n 0, 1) := by decide +kernel
theorem k19_97 : decode zm19.2.1 97 = .ok (.getfield 41, 3) := by decide +kernel
theorem k19_100 : decode zm19.2.1 100 = .ok (.ireturn, 1) := by decide +kernel
theorem k19_23 : decode zm19.2.1 23 = .ok (.aload_n 0, 1) := by decide +kernel
theorem k19_24 : decode zm19.2.1 24 = .ok (.aload_n 1, 1) := by decide +kernel
theorem k19_25 : decode zm19.2.1 25 = .ok (.invokevirtual 37, 3) := by decide +kernel
theorem k19_28 : decode zm19.2.1 28 = .ok (.ifCond .ne 8, 3) := by decide +kernel
theorem k19_36 : decode zm19.2.1 36 = .ok (.aload_n 0, 1) := by decide +kernel
theorem k19_37 : decode zm19.2.1 37 = .ok (.getfield 41, 3) := by decide +kernel
theorem k19_40 : decode zm19.2.1 40 = .ok (.aload_n 0, 1) := by decide +kernel
theorem k19_41 : decode zm19.2.1 41 = .ok (.getfield 20, 3) := by decide +kernel
theorem k19_44 : decode zm19.2.1 44 = .ok (.if_icmp .lt 5, 3) := by decide +kernel
theorem k19_49 : decode zm19.2.1 49 = .ok (.aload_n 0, 1) := by decide +kernel
theorem k19_50 : decode zm19.2.1 50 = .ok (.getfield 34, 3) := by decide +kernel
theorem k19_53 : decode zm19.2.1 53 = .ok (.bipush 14, 2) := by decide +kernel
theorem k19_55 : decode zm19.2.1 55 = .ok (.if_icmp .eq 19, 3) := by decide +kernel
theorem k19_74 : decode zm19.2.1 74 = .ok (.aload_n 0, 1) := by decide +kernel
theorem k19_75 : decode zm19.2.1 75 = .ok (.getfield 41, 3) := by decide +kernel
theorem k19_78 : decode zm19.2.1 78 = .ok (.ireturn, 1) := by decide +kernel
theorem k19_58 : decode zm19.2.1 58 = .ok (.aload_n 0, 1) := by decide +kernel
theorem k19_59 : decode zm19.2.1 59 = .ok (.getfield 14, 3) := by decide +kernel
theorem k19_62 : decode zm19.2.1 62 = .ok (.aload_n 0, 1) := by decide +kernel
theorem k19_63 : decode zm19.2.1 63 = .ok (.getfield 41, 3) := by decide +kernel
theorem k19_66 : decode zm19.2.1 66 = .ok (.invokevirtual 44, 3) := by decide +kernel
theorem k19_69 : decode zm19.2.1 69 = .ok (.bipush 59, 2) := by decide +kernel
theorem k19_71 : decode zm19.2.1 71 = .ok (.if_icmp .eq 8, 3) := by decide +kernel
theorem k19_79 : decode zm19.2.1 79 = .ok (.aload_n 0, 1) := by decide +kernel
theorem k19_80 : decode zm19.2.1 80 = .ok (.invokevirtual 31, 3) := by decide +kernel
theorem k19_83 : decode zm19.2.1 83 = .ok (.aload_n 0, 1) := by decide +kernel
theorem k19_84 : decode zm19.2.1 84 = .ok (.dup, 1) := by decide +kernel
theorem k19_85 : decode zm19.2.1 85 = .ok (.getfield 34, 3) := by decide +kernel
theorem k19_88 : decode zm19.2.1 88 = .ok (.iconst 1, 1) := by decide +kernel
theorem k19_89 : decode zm19.2.1 89 = .ok (.iadd, 1) := by decide +kernel
theorem k19_90 : decode zm19.2.1 90 = .ok (.putfield 34, 3) := by decide +kernel
theorem k19_93 : decode zm19.2.1 93 = .ok (.goto (-79), 3) := by decide +kernel
theorem k19_47 : decode zm19.2.1 47 = .ok (.iconst (-1), 1) := by decide +kernel
theorem k19_48 : decode zm19.2.1 48 = .ok (.ireturn, 1) := by decide +kernel
theorem k19_31 : decode zm19.2.1 31 = .ok (.aload_n 0, 1) := by decide +kernel
theorem k19_32 : decode zm19.2.1 32 = .ok (.getfield 41, 3) := by decide +kernel
theorem k19_35 : decode zm19.2.1 35 = .ok (.ireturn, 1) := by decide +kernel
theorem k19_0 : decode zm19.2.1 0 = .ok (.aload_n 0, 1) := by decide +kernel
theorem k19_1 : decode zm19.2.1 1 = .ok (.iconst 0, 1) := by decide +kernel
theorem k19_2 : decode zm19.2.1 2 = .ok (.putfield 28, 3) := by decide +kernel
theorem k19_5 : decode zm19.2.1 5 = .ok (.aload_n 0, 1) := by decide +kernel
theorem k19_6 : decode zm19.2.1 6 = .ok (.invokevirtual 31, 3) := by decide +kernel
theorem k19_9 : decode zm19.2.1 9 = .ok (.aload_n 0, 1) := by decide +kernel
theorem k19_10 : decode zm19.2.1 10 = .ok (.iconst 1, 1) := by decide +kernel
theorem k19_11 : decode zm19.2.1 11 = .ok (.putfield 34, 3) := by decide +kernel
theorem fk_0_23 : zfx 0 23 = some (0, 2) := by decide +kernel
theorem lk_0_80 : zmx 0 80 = some (17, 1) := by decide +kernel
theorem tol19 : zTold 19 := ⟨by decide +kernel, ⟨by decide +kernel, zArr_of (by decide +kernel)⟩, ⟨by decide +kernel, zArr_of (by decide +kernel)⟩, ⟨by decide +kernel, zArr_of (by decide +kernel)⟩, ⟨by decide +kernel, zArr_of (by decide +kernel)⟩, ⟨by decide +kernel, zArr_of (by decide +kernel)⟩, ⟨by decide +kernel, zArr_of (by decide +kernel)⟩, ⟨by decide +kernel, zArr_of (by decide +kernel)⟩⟩
theorem lk_0_84 : zmx 0 84 = some (19, 1) := by decide +kernel
theorem k16_0 : decode zm16.2.1 0 = .ok (.aload_n 0, 1) := by decide +kernel
theorem k16_1 : decode zm16.2.1 1 = .ok (.getfield 23, 3) := by decide +kernel
theorem k16_4 : decode zm16.2.1 4 = .ok (.aload_n 0, 1) := by decide +kernel
theorem k16_5 : decode zm16.2.1 5 = .ok (.getfield 19, 3) := by decide +kernel
theorem k16_8 : decode zm16.2.1 8 = .ok (.invokevirtual 80, 3) := by decide +kernel
theorem sh19 : zsh 19 = some (3, [none, none, none, none, none, some 20, some 22, some 24, some 26, some 28, some 30, some 32]) := by decide +kernel
theorem k16_11 : decode zm16.2.1 11 = .ok (.aload_n 0, 1) := by decide +kernel
theorem k16_12 : decode zm16.2.1 12 = .ok (.getfield 10, 3) := by decide +kernel
theorem k16_15 : decode zm16.2.1 15 = .ok (.aload_n 0, 1) := by decide +kernel
theorem k16_16 : decode zm16.2.1 16 = .ok (.getfield 23, 3) := by decide +kernel
theorem k16_19 : decode zm16.2.1 19 = .ok (.invokevirtual 84, 3) := by decide +kernel
theorem k16_22 : decode zm16.2.1 22 = .ok (.ireturn, 1) := by decide +kernel
theorem lk_0_94 : zmx 0 94 = some (44, 1) := by decide +kernel
theorem lk_0_98 : zmx 0 98 = some (46, 1) := by decide +kernel
theorem fk_0_105 : zfx 0 105 = some (1, 2) := by decide +kernel
theorem k43_0 : decode zm43.2.1 0 = .ok (.aload_n 0, 1) := by decide +kernel
theorem k43_1 : decode zm43.2.1 1 = .ok (.getfield 23, 3) := by decide +kernel
theorem k43_4 : decode zm43.2.1 4 = .ok (.aload_n 0, 1) := by decide +kernel
theorem k43_5 : decode zm43.2.1 5 = .ok (.getfield 19, 3) := by decide +kernel
theorem k43_8 : decode zm43.2.1 8 = .ok (.invokevirtual 80, 3) := by decide +kernel
theorem k43_11 : decode zm43.2.1 11 = .ok (.aload_n 0, 1) := by decide +kernel
theorem k43_12 : decode zm43.2.1 12 = .ok (.getfield 10, 3) := by decide +kernel
theorem k43_15 : decode zm43.2.1 15 = .ok (.aload_n 0, 1) := by decide +kernel
theorem k43_16 : decode zm43.2.1 16 = .ok (.getfield 23, 3) := by decide +kernel
theorem k43_19 : decode zm43.2.1 19 = .ok (.invokevirtual 84, 3) := by decide +kernel
theorem k43_22 : decode zm43.2.1 22 = .ok (.iconst (-1), 1) := by decide +kernel
theorem k43_23 : decode zm43.2.1 23 = .ok (.if_icmp .eq 6, 3) := by decide +kernel
theorem k43_29 : decode zm43.2.1 29 = .ok (.aload_n 0, 1) := by decide +kernel
theorem k43_30 : decode zm43.2.1 30 = .ok (.getfield 19, 3) := by decide +kernel
theorem k43_33 : decode zm43.2.1 33 = .ok (.aload_n 0, 1) := by decide +kernel
theorem k43_34 : decode zm43.2.1 34 = .ok (.getfield 23, 3) := by decide +kernel
theorem k43_37 : decode zm43.2.1 37 = .ok (.invokevirtual 80, 3) := by decide +kernel
theorem k43_40 : decode zm43.2.1 40 = .ok (.aload_n 0, 1) := by decide +kernel
theorem k43_41 : decode zm43.2.1 41 = .ok (.getfield 29, 3) := by decide +kernel
theorem k43_44 : decode zm43.2.1 44 = .ok (.aload_n 0, 1) := by decide +kernel
theorem k43_45 : decode zm43.2.1 45 = .ok (.getfield 19, 3) := by decide +kernel
theorem k43_48 : decode zm43.2.1 48 = .ok (.getfield 88, 3) := by decide +kernel
theorem k43_51 : decode zm43.2.1 51 = .ok (.iconst 2, 1) := by decide +kernel
theorem k43_52 : decode zm43.2.1 52 = .ok (.aload_n 0, 1) := by decide +kernel
theorem k43_53 : decode zm43.2.1 53 = .ok (.getfield 19, 3) := by decide +kernel
theorem k43_56 : decode zm43.2.1 56 = .ok (.getfield 91, 3) := by decide +kernel
theorem k43_59 : decode zm43.2.1 59 = .ok (.imul, 1) := by decide +kernel
theorem k43_60 : decode zm43.2.1 60 = .ok (.invokevirtual 94, 3) := by decide +kernel
theorem k43_63 : decode zm43.2.1 63 = .ok (.aload_n 0, 1) := by decide +kernel
theorem k43_64 : decode zm43.2.1 64 = .ok (.getfield 36, 3) := by decide +kernel
theorem k43_67 : decode zm43.2.1 67 = .ok (.invokevirtual 98, 3) := by decide +kernel
theorem k43_70 : decode zm43.2.1 70 = .ok (.aload_n 0, 1) := by decide +kernel
theorem k43_71 : decode zm43.2.1 71 = .ok (.getfield 43, 3) := by decide +kernel
theorem k43_74 : decode zm43.2.1 74 = .ok (.iconst 0, 1) := by decide +kernel
theorem k43_75 : decode zm43.2.1 75 = .ok (.putfield 101, 3) := by decide +kernel
theorem k43_78 : decode zm43.2.1 78 = .ok (.aload_n 0, 1) := by decide +kernel
theorem k43_79 : decode zm43.2.1 79 = .ok (.getfield 57, 3) := by decide +kernel
theorem k43_82 : decode zm43.2.1 82 = .ok (.iconst 0, 1) := by decide +kernel
theorem k43_83 : decode zm43.2.1 83 = .ok (.putfield 102, 3) := by decide +kernel
theorem k43_86 : decode zm43.2.1 86 = .ok (.aload_n 0, 1) := by decide +kernel
theorem k43_87 : decode zm43.2.1 87 = .ok (.getfield 10, 3) := by decide +kernel
theorem k43_90 : decode zm43.2.1 90 = .ok (.iconst 0, 1) := by decide +kernel
theorem k43_91 : decode zm43.2.1 91 = .ok (.putfield 76, 3) := by decide +kernel
theorem k43_94 : decode zm43.2.1 94 = .ok (.aload_n 0, 1) := by decide +kernel
theorem k43_95 : decode zm43.2.1 95 = .ok (.getfield 10, 3) := by decide +kernel
theorem k43_98 : decode zm43.2.1 98 = .ok (.getfield 105, 3) := by decide +kernel
theorem k43_101 : decode zm43.2.1 101 = .ok (.ireturn, 1) := by decide +kernel
theorem k43_26 : decode zm43.2.1 26 = .ok (.bipush (-4), 2) := by decide +kernel
theorem k43_28 : decode zm43.2.1 28 = .ok (.ireturn, 1) := by decide +kernel
