theorem k137_27 : decode zm137.2.1 27 = .ok (.invokevirtual 122, 3) := by decide +kernel
theorem sh35 : zsh 35 = some (2, [some 36]) := by decide +kernel
theorem k137_30 : decode zm137.2.1 30 = .ok (.ifCond .le 53, 3) := by decide +kernel
theorem k137_33 : decode zm137.2.1 33 = .ok (.aload_n 0, 1) := by decide +kernel
theorem k137_34 : decode zm137.2.1 34 = .ok (.getfield 29, 3) := by decide +kernel
theorem k137_37 : decode zm137.2.1 37 = .ok (.getfield 140, 3) := by decide +kernel
theorem k137_40 : decode zm137.2.1 40 = .ok (.iload_n 2, 1) := by decide +kernel
theorem k137_41 : decode zm137.2.1 41 = .ok (.invokevirtual 122, 3) := by decide +kernel
theorem k137_44 : decode zm137.2.1 44 = .ok (.bipush 60, 2) := by decide +kernel
theorem k137_46 : decode zm137.2.1 46 = .ok (.if_icmp .ge 37, 3) := by decide +kernel
theorem k137_49 : decode zm137.2.1 49 = .ok (.aload_n 0, 1) := by decide +kernel
theorem k137_50 : decode zm137.2.1 50 = .ok (.getfield 29, 3) := by decide +kernel
theorem k137_53 : decode zm137.2.1 53 = .ok (.getfield 143, 3) := by decide +kernel
theorem k137_56 : decode zm137.2.1 56 = .ok (.iload_n 2, 1) := by decide +kernel
theorem k137_57 : decode zm137.2.1 57 = .ok (.invokevirtual 122, 3) := by decide +kernel
theorem sh37 : zsh 37 = some (2, [some 38]) := by decide +kernel
theorem k137_60 : decode zm137.2.1 60 = .ok (.iload_n 3, 1) := by decide +kernel
theorem k137_61 : decode zm137.2.1 61 = .ok (.if_icmp .lt 22, 3) := by decide +kernel
theorem k137_64 : decode zm137.2.1 64 = .ok (.aload_n 0, 1) := by decide +kernel
theorem k137_65 : decode zm137.2.1 65 = .ok (.getfield 19, 3) := by decide +kernel
theorem k137_68 : decode zm137.2.1 68 = .ok (.getfield 153, 3) := by decide +kernel
theorem k137_71 : decode zm137.2.1 71 = .ok (.iload_n 2, 1) := by decide +kernel
theorem k137_72 : decode zm137.2.1 72 = .ok (.invokevirtual 122, 3) := by decide +kernel
theorem k137_75 : decode zm137.2.1 75 = .ok (.iload_n 3, 1) := by decide +kernel
theorem k137_76 : decode zm137.2.1 76 = .ok (.if_icmp .le 7, 3) := by decide +kernel
theorem k137_79 : decode zm137.2.1 79 = .ok (.iconst 1, 1) := by decide +kernel
theorem k137_80 : decode zm137.2.1 80 = .ok (.goto 4, 3) := by decide +kernel
theorem fk_0_309 : zfx 0 309 = some (3, 2) := by decide +kernel
theorem fk_0_91 : zfx 0 91 = some (3, 3) := by decide +kernel
theorem fk_0_312 : zfx 0 312 = some (3, 4) := by decide +kernel
theorem fk_0_111 : zfx 0 111 = some (4, 0) := by decide +kernel
theorem fk_0_36 : zfx 0 36 = some (0, 4) := by decide +kernel
theorem fk_0_215 : zfx 0 215 = some (5, 3) := by decide +kernel
theorem lk_0_315 : zmx 0 315 = some (143, 1) := by decide +kernel
theorem k142_0 : decode zm142.2.1 0 = .ok (.iload_n 1, 1) := by decide +kernel
theorem k142_1 : decode zm142.2.1 1 = .ok (.tableswitch 165 0 11 #[63, 71, 79, 87, 95, 103, 111, 119, 127, 135, 146, 157], 63) := by decide +kernel
theorem k142_64 : decode zm142.2.1 64 = .ok (.aload_n 0, 1) := by decide +kernel
theorem k142_65 : decode zm142.2.1 65 = .ok (.getfield 19, 3) := by decide +kernel
theorem k142_68 : decode zm142.2.1 68 = .ok (.getfield 250, 3) := by decide +kernel
theorem k142_71 : decode zm142.2.1 71 = .ok (.ireturn, 1) := by decide +kernel
theorem k142_72 : decode zm142.2.1 72 = .ok (.aload_n 0, 1) := by decide +kernel
theorem k142_73 : decode zm142.2.1 73 = .ok (.getfield 19, 3) := by decide +kernel
theorem k142_76 : decode zm142.2.1 76 = .ok (.getfield 88, 3) := by decide +kernel
theorem k142_79 : decode zm142.2.1 79 = .ok (.ireturn, 1) := by decide +kernel
theorem k142_80 : decode zm142.2.1 80 = .ok (.aload_n 0, 1) := by decide +kernel
theorem k142_81 : decode zm142.2.1 81 = .ok (.getfield 19, 3) := by decide +kernel
theorem k142_84 : decode zm142.2.1 84 = .ok (.getfield 309, 3) := by decide +kernel
theorem k142_87 : decode zm142.2.1 87 = .ok (.ireturn, 1) := by decide +kernel
theorem k142_88 : decode zm142.2.1 88 = .ok (.aload_n 0, 1) := by decide +kernel
theorem k142_89 : decode zm142.2.1 89 = .ok (.getfield 19, 3) := by decide +kernel
theorem k142_92 : decode zm142.2.1 92 = .ok (.getfield 91, 3) := by decide +kernel
theorem k142_95 : decode zm142.2.1 95 = .ok (.ireturn, 1) := by decide +kernel
theorem k142_96 : decode zm142.2.1 96 = .ok (.aload_n 0, 1) := by decide +kernel
theorem k142_97 : decode zm142.2.1 97 = .ok (.getfield 19, 3) := by decide +kernel
theorem k142_100 : decode zm142.2.1 100 = .ok (.getfield 312, 3) := by decide +kernel
theorem k142_103 : decode zm142.2.1 103 = .ok (.ireturn, 1) := by decide +kernel
theorem k142_104 : decode zm142.2.1 104 = .ok (.aload_n 0, 1) := by decide +kernel
theorem k142_105 : decode zm142.2.1 105 = .ok (.getfield 29, 3) := by decide +kernel
theorem k142_108 : decode zm142.2.1 108 = .ok (.getfield 111, 3) := by decide +kernel
theorem k142_111 : decode zm142.2.1 111 = .ok (.ireturn, 1) := by decide +kernel
theorem k142_112 : decode zm142.2.1 112 = .ok (.aload_n 0, 1) := by decide +kernel
theorem k142_113 : decode zm142.2.1 113 = .ok (.getfield 43, 3) := by decide +kernel
theorem k142_116 : decode zm142.2.1 116 = .ok (.getfield 101, 3) := by decide +kernel
theorem k142_119 : decode zm142.2.1 119 = .ok (.ireturn, 1) := by decide +kernel
theorem k142_120 : decode zm142.2.1 120 = .ok (.aload_n 0, 1) := by decide +kernel
theorem k142_121 : decode zm142.2.1 121 = .ok (.getfield 57, 3) := by decide +kernel
theorem k142_124 : decode zm142.2.1 124 = .ok (.getfield 102, 3) := by decide +kernel
theorem k142_127 : decode zm142.2.1 127 = .ok (.ireturn, 1) := by decide +kernel
theorem k142_128 : decode zm142.2.1 128 = .ok (.aload_n 0, 1) := by decide +kernel
theorem k142_129 : decode zm142.2.1 129 = .ok (.getfield 36, 3) := by decide +kernel
theorem k142_132 : decode zm142.2.1 132 = .ok (.getfield 215, 3) := by decide +kernel
theorem k142_135 : decode zm142.2.1 135 = .ok (.ireturn, 1) := by decide +kernel
theorem k142_136 : decode zm142.2.1 136 = .ok (.aload_n 0, 1) := by decide +kernel
theorem k142_137 : decode zm142.2.1 137 = .ok (.getfield 29, 3) := by decide +kernel
theorem k142_140 : decode zm142.2.1 140 = .ok (.getfield 140, 3) := by decide +kernel
theorem k142_143 : decode zm142.2.1 143 = .ok (.invokevirtual 315, 3) := by decide +kernel
theorem k142_146 : decode zm142.2.1 146 = .ok (.ireturn, 1) := by decide +kernel
theorem k142_147 : decode zm142.2.1 147 = .ok (.aload_n 0, 1) := by decide +kernel
theorem k142_148 : decode zm142.2.1 148 = .ok (.getfield 29, 3) := by decide +kernel
theorem k142_151 : decode zm142.2.1 151 = .ok (.getfield 143, 3) := by decide +kernel
theorem k142_154 : decode zm142.2.1 154 = .ok (.invokevirtual 315, 3) := by decide +kernel
theorem k142_157 : decode zm142.2.1 157 = .ok (.ireturn, 1) := by decide +kernel
theorem k142_158 : decode zm142.2.1 158 = .ok (.aload_n 0, 1) := by decide +kernel
theorem k142_159 : decode zm142.2.1 159 = .ok (.getfield 10, 3) := by decide +kernel
theorem k142_162 : decode zm142.2.1 162 = .ok (.getfield 76, 3) := by decide +kernel
theorem k142_165 : decode zm142.2.1 165 = .ok (.ireturn, 1) := by decide +kernel
theorem k142_166 : decode zm142.2.1 166 = .ok (.bipush (-3), 2) := by decide +kernel
theorem k142_168 : decode zm142.2.1 168 = .ok (.ireturn, 1) := by decide +kernel
theorem cl_10_63 : zlx 10 63 = some 255 := by decide +kernel
theorem lk_10_65 : zmx 10 65 = some (146, 0) := by decide +kernel
theorem b8_m5 : (Int8.ofInt (-5)).toInt32 = (-5) := by decide
theorem k145_0 : decode zm145.2.1 0 = .ok (.iload_n 1, 1) := by decide +kernel
theorem k145_1 : decode zm145.2.1 1 = .ok (.i2l, 1) := by decide +kernel
theorem k145_2 : decode zm145.2.1 2 = .ok (.lconst 0, 1) := by decide +kernel
theorem k145_3 : decode zm145.2.1 3 = .ok (.ldc2_w 63, 3) := by decide +kernel
theorem k145_6 : decode zm145.2.1 6 = .ok (.invokestatic 65, 3) := by decide +kernel
theorem k145_9 : decode zm145.2.1 9 = .ok (.ifCond .ne 6, 3) := by decide +kernel
theorem k145_15 : decode zm145.2.1 15 = .ok (.aload_n 0, 1) := by decide +kernel
theorem k145_16 : decode zm145.2.1 16 = .ok (.getfield 69, 3) := by decide +kernel
theorem k145_19 : decode zm145.2.1 19 = .ok (.sipush 160, 3) := by decide +kernel
theorem k145_22 : decode zm145.2.1 22 = .ok (.if_icmp .ne 6, 3) := by decide +kernel
theorem k145_28 : decode zm145.2.1 28 = .ok (.aload_n 0, 1) := by decide +kernel
theorem k145_29 : decode zm145.2.1 29 = .ok (.getfield 17, 3) := by decide +kernel
theorem k145_32 : decode zm145.2.1 32 = .ok (.aload_n 0, 1) := by decide +kernel
theorem k145_33 : decode zm145.2.1 33 = .ok (.getfield 69, 3) := by decide +kernel
theorem k145_36 : decode zm145.2.1 36 = .ok (.iload_n 1, 1) := by decide +kernel
theorem k145_37 : decode zm145.2.1 37 = .ok (.iastore, 1) := by decide +kernel
theorem k145_38 : decode zm145.2.1 38 = .ok (.aload_n 0, 1) := by decide +kernel
theorem k145_39 : decode zm145.2.1 39 = .ok (.dup, 1) := by decide +kernel
theorem k145_40 : decode zm145.2.1 40 = .ok (.getfield 69, 3) := by decide +kernel
theorem k145_43 : decode zm145.2.1 43 = .ok (.iconst 1, 1) := by decide +kernel
theorem k145_44 : decode zm145.2.1 44 = .ok (.iadd, 1) := by decide +kernel
theorem k145_45 : decode zm145.2.1 45 = .ok (.putfield 69, 3) := by decide +kernel
theorem k145_48 : decode zm145.2.1 48 = .ok (.aload_n 0, 1) := by decide +kernel
theorem k145_49 : decode zm145.2.1 49 = .ok (.getfield 69, 3) := by decide +kernel
theorem k145_52 : decode zm145.2.1 52 = .ok (.ireturn, 1) := by decide +kernel
theorem k145_25 : decode zm145.2.1 25 = .ok (.bipush (-5), 2) := by decide +kernel
theorem k145_27 : decode zm145.2.1 27 = .ok (.ireturn, 1) := by decide +kernel
theorem k145_12 : decode zm145.2.1 12 = .ok (.bipush (-3), 2) := by decide +kernel
theorem k145_14 : decode zm145.2.1 14 = .ok (.ireturn, 1) := by decide +kernel
theorem fk_10_72 : zfx 10 72 = some (10, 22) := by decide +kernel
theorem b8_32 : (Int8.ofInt 32).toInt32 = 32 := by decide
theorem pi_10_22 : zdes 10 22 = "I" ∧ zfin 10 22 = false := by decide +kernel
theorem pi_10_23 : zdes 10 23 = "I" ∧ zfin 10 23 = false := by decide +kernel
theorem pi_10_24 : zdes 10 24 = "I" ∧ zfin 10 24 = false := by decide +kernel
theorem lk_10_78 : zmx 10 78 = some (150, 0) := by decide +kernel
theorem k149_71 : decode zm149.2.1 71 = .ok (.aload_n 0, 1) := by decide +kernel
theorem k149_72 : decode zm149.2.1 72 = .ok (.getfield 72, 3) := by decide +kernel
theorem k149_75 : decode zm149.2.1 75 = .ok (.aload_n 0, 1) := by decide +kernel
theorem k149_76 : decode zm149.2.1 76 = .ok (.getfield 69, 3) := by decide +kernel
theorem k149_79 : decode zm149.2.1 79 = .ok (.if_icmp .ge 58, 3) := by decide +kernel
theorem k149_137 : decode zm149.2.1 137 = .ok (.aload_n 0, 1) := by decide +kernel
theorem k149_138 : decode zm149.2.1 138 = .ok (.aload_n 0, 1) := by decide +kernel
theorem k149_139 : decode zm149.2.1 139 = .ok (.getfield 72, 3) := by decide +kernel
theorem k149_142 : decode zm149.2.1 142 = .ok (.putfield 82, 3) := by decide +kernel
theorem k149_145 : decode zm149.2.1 145 = .ok (.return_, 1) := by decide +kernel
theorem k149_82 : decode zm149.2.1 82 = .ok (.aload_n 0, 1) := by decide +kernel
theorem k149_83 : decode zm149.2.1 83 = .ok (.getfield 17, 3) := by decide +kernel
theorem k149_86 : decode zm149.2.1 86 = .ok (.aload_n 0, 1) := by decide +kernel
theorem k149_87 : decode zm149.2.1 87 = .ok (.getfield 75, 3) := by decide +kernel
theorem k149_90 : decode zm149.2.1 90 = .ok (.iaload, 1) := by decide +kernel
theorem k149_91 : decode zm149.2.1 91 = .ok (.invokestatic 78, 3) := by decide +kernel
theorem k149_94 : decode zm149.2.1 94 = .ok (.ifCond .le 43, 3) := by decide +kernel
theorem k149_97 : decode zm149.2.1 97 = .ok (.aload_n 0, 1) := by decide +kernel
theorem k149_98 : decode zm149.2.1 98 = .ok (.getfield 17, 3) := by decide +kernel
theorem k149_101 : decode zm149.2.1 101 = .ok (.aload_n 0, 1) := by decide +kernel
theorem k149_102 : decode zm149.2.1 102 = .ok (.getfield 72, 3) := by decide +kernel
theorem k149_105 : decode zm149.2.1 105 = .ok (.iaload, 1) := by decide +kernel
theorem k149_106 : decode zm149.2.1 106 = .ok (.invokestatic 78, 3) := by decide +kernel
theorem k149_109 : decode zm149.2.1 109 = .ok (.aload_n 0, 1) := by decide +kernel
theorem k149_110 : decode zm149.2.1 110 = .ok (.getfield 17, 3) := by decide +kernel
theorem k149_113 : decode zm149.2.1 113 = .ok (.aload_n 0, 1) := by decide +kernel
theorem k149_114 : decode zm149.2.1 114 = .ok (.getfield 75, 3) := by decide +kernel
theorem k149_117 : decode zm149.2.1 117 = .ok (.iaload, 1) := by decide +kernel
theorem k149_118 : decode zm149.2.1 118 = .ok (.invokestatic 78, 3) := by decide +kernel
theorem k149_121 : decode zm149.2.1 121 = .ok (.if_icmp .ne 16, 3) := by decide +kernel
theorem k149_124 : decode zm149.2.1 124 = .ok (.aload_n 0, 1) := by decide +kernel
theorem k149_125 : decode zm149.2.1 125 = .ok (.dup, 1) := by decide +kernel
theorem k149_126 : decode zm149.2.1 126 = .ok (.getfield 72, 3) := by decide +kernel
theorem k149_129 : decode zm149.2.1 129 = .ok (.iconst 1, 1) := by decide +kernel
theorem k149_130 : decode zm149.2.1 130 = .ok (.iadd, 1) := by decide +kernel
theorem k149_131 : decode zm149.2.1 131 = .ok (.putfield 72, 3) := by decide +kernel
theorem k149_134 : decode zm149.2.1 134 = .ok (.goto (-63), 3) := by decide +kernel
theorem k149_67 : decode zm149.2.1 67 = .ok (.iadd, 1) := by decide +kernel
theorem k149_68 : decode zm149.2.1 68 = .ok (.putfield 72, 3) := by decide +kernel
theorem k149_38 : decode zm149.2.1 38 = .ok (.aload_n 0, 1) := by decide +kernel
theorem k149_39 : decode zm149.2.1 39 = .ok (.aload_n 0, 1) := by decide +kernel
theorem k149_40 : decode zm149.2.1 40 = .ok (.getfield 72, 3) := by decide +kernel
theorem k149_43 : decode zm149.2.1 43 = .ok (.putfield 75, 3) := by decide +kernel
theorem k149_46 : decode zm149.2.1 46 = .ok (.aload_n 0, 1) := by decide +kernel
theorem k149_47 : decode zm149.2.1 47 = .ok (.dup, 1) := by decide +kernel
theorem k149_48 : decode zm149.2.1 48 = .ok (.getfield 72, 3) := by decide +kernel
theorem k149_51 : decode zm149.2.1 51 = .ok (.aload_n 0, 1) := by decide +kernel
theorem k149_52 : decode zm149.2.1 52 = .ok (.getfield 72, 3) := by decide +kernel
theorem k149_55 : decode zm149.2.1 55 = .ok (.aload_n 0, 1) := by decide +kernel
theorem k149_56 : decode zm149.2.1 56 = .ok (.getfield 69, 3) := by decide +kernel
theorem k149_59 : decode zm149.2.1 59 = .ok (.if_icmp .ge 7, 3) := by decide +kernel
theorem k149_66 : decode zm149.2.1 66 = .ok (.iconst 0, 1) := by decide +kernel
theorem k149_62 : decode zm149.2.1 62 = .ok (.iconst 1, 1) := by decide +kernel
theorem k149_63 : decode zm149.2.1 63 = .ok (.goto 4, 3) := by decide +kernel
theorem k149_0 : decode zm149.2.1 0 = .ok (.aload_n 0, 1) := by decide +kernel
theorem k149_1 : decode zm149.2.1 1 = .ok (.getfield 72, 3) := by decide +kernel
theorem k149_4 : decode zm149.2.1 4 = .ok (.aload_n 0, 1) := by decide +kernel
theorem k149_5 : decode zm149.2.1 5 = .ok (.getfield 69, 3) := by decide +kernel
theorem k149_8 : decode zm149.2.1 8 = .ok (.if_icmp .ge 30, 3) := by decide +kernel
theorem k149_11 : decode zm149.2.1 11 = .ok (.aload_n 0, 1) := by decide +kernel
theorem k149_12 : decode zm149.2.1 12 = .ok (.getfield 17, 3) := by decide +kernel
theorem k149_15 : decode zm149.2.1 15 = .ok (.aload_n 0, 1) := by decide +kernel
theorem k149_16 : decode zm149.2.1 16 = .ok (.getfield 72, 3) := by decide +kernel
theorem k149_19 : decode zm149.2.1 19 = .ok (.iaload, 1) := by decide +kernel
theorem k149_20 : decode zm149.2.1 20 = .ok (.bipush 32, 2) := by decide +kernel
theorem k149_22 : decode zm149.2.1 22 = .ok (.if_icmp .ne 16, 3) := by decide +kernel
theorem k149_25 : decode zm149.2.1 25 = .ok (.aload_n 0, 1) := by decide +kernel
theorem k149_26 : decode zm149.2.1 26 = .ok (.dup, 1) := by decide +kernel
theorem k149_27 : decode zm149.2.1 27 = .ok (.getfield 72, 3) := by decide +kernel
theorem k149_30 : decode zm149.2.1 30 = .ok (.iconst 1, 1) := by decide +kernel
theorem k149_31 : decode zm149.2.1 31 = .ok (.iadd, 1) := by decide +kernel
theorem k149_32 : decode zm149.2.1 32 = .ok (.putfield 72, 3) := by decide +kernel
theorem k149_35 : decode zm149.2.1 35 = .ok (.goto (-35), 3) := by decide +kernel
theorem ci_10_85 : zix 10 85 = some 480750 := by decide +kernel
theorem lk_10_86 : zmx 10 86 = some (154, 1) := by decide +kernel
theorem ci_10_90 : zix 10 90 = some 14976400 := by decide +kernel
theorem ci_10_91 : zix 10 91 = some 626504163 := by decide +kernel
theorem ci_10_92 : zix 10 92 = some 208936 := by decide +kernel
theorem ci_10_93 : zix 10 93 = some 177198 := by decide +kernel
theorem k153_0 : decode zm153.2.1 0 = .ok (.aload_n 0, 1) := by decide +kernel
theorem k153_1 : decode zm153.2.1 1 = .ok (.ldc 85, 2) := by decide +kernel
theorem k153_3 : decode zm153.2.1 3 = .ok (.iconst 4, 1) := by decide +kernel
theorem k153_4 : decode zm153.2.1 4 = .ok (.iconst 0, 1) := by decide +kernel
theorem k153_5 : decode zm153.2.1 5 = .ok (.invokevirtual 86, 3) := by decide +kernel
theorem k153_8 : decode zm153.2.1 8 = .ok (.ifCond .eq 7, 3) := by decide +kernel
theorem k153_15 : decode zm153.2.1 15 = .ok (.aload_n 0, 1) := by decide +kernel
theorem k153_16 : decode zm153.2.1 16 = .ok (.ldc 90, 2) := by decide +kernel
theorem k153_18 : decode zm153.2.1 18 = .ok (.iconst 5, 1) := by decide +kernel
theorem k153_19 : decode zm153.2.1 19 = .ok (.iconst 0, 1) := by decide +kernel
theorem k153_20 : decode zm153.2.1 20 = .ok (.invokevirtual 86, 3) := by decide +kernel
theorem k153_23 : decode zm153.2.1 23 = .ok (.ifCond .eq 7, 3) := by decide +kernel
theorem k153_30 : decode zm153.2.1 30 = .ok (.aload_n 0, 1) := by decide +kernel
theorem k153_31 : decode zm153.2.1 31 = .ok (.ldc 91, 2) := by decide +kernel
theorem k153_33 : decode zm153.2.1 33 = .ok (.bipush 6, 2) := by decide +kernel
theorem k153_35 : decode zm153.2.1 35 = .ok (.iconst 0, 1) := by decide +kernel
theorem k153_36 : decode zm153.2.1 36 = .ok (.invokevirtual 86, 3) := by decide +kernel
theorem k153_39 : decode zm153.2.1 39 = .ok (.ifCond .eq 7, 3) := by decide +kernel
theorem k153_46 : decode zm153.2.1 46 = .ok (.aload_n 0, 1) := by decide +kernel
theorem k153_47 : decode zm153.2.1 47 = .ok (.ldc 92, 2) := by decide +kernel
theorem k153_49 : decode zm153.2.1 49 = .ok (.iconst 4, 1) := by decide +kernel
theorem k153_50 : decode zm153.2.1 50 = .ok (.iconst 0, 1) := by decide +kernel
theorem k153_51 : decode zm153.2.1 51 = .ok (.invokevirtual 86, 3) := by decide +kernel
theorem k153_54 : decode zm153.2.1 54 = .ok (.ifCond .eq 7, 3) := by decide +kernel
theorem k153_61 : decode zm153.2.1 61 = .ok (.aload_n 0, 1) := by decide +kernel
theorem k153_62 : decode zm153.2.1 62 = .ok (.ldc 93, 2) := by decide +kernel
theorem k153_64 : decode zm153.2.1 64 = .ok (.iconst 4, 1) := by decide +kernel
theorem k153_65 : decode zm153.2.1 65 = .ok (.iconst 0, 1) := by decide +kernel
theorem k153_66 : decode zm153.2.1 66 = .ok (.invokevirtual 86, 3) := by decide +kernel
theorem k153_69 : decode zm153.2.1 69 = .ok (.ifCond .eq 7, 3) := by decide +kernel
theorem k153_76 : decode zm153.2.1 76 = .ok (.iconst (-1), 1) := by decide +kernel
theorem k153_77 : decode zm153.2.1 77 = .ok (.ireturn, 1) := by decide +kernel
theorem k153_72 : decode zm153.2.1 72 = .ok (.iconst 5, 1) := by decide +kernel
theorem k153_73 : decode zm153.2.1 73 = .ok (.goto 4, 3) := by decide +kernel
theorem k153_57 : decode zm153.2.1 57 = .ok (.iconst 4, 1) := by decide +kernel
theorem k153_58 : decode zm153.2.1 58 = .ok (.goto 19, 3) := by decide +kernel
theorem k153_42 : decode zm153.2.1 42 = .ok (.iconst 3, 1) := by decide +kernel
theorem k153_43 : decode zm153.2.1 43 = .ok (.goto 34, 3) := by decide +kernel
theorem k153_26 : decode zm153.2.1 26 = .ok (.iconst 2, 1) := by decide +kernel
theorem k153_27 : decode zm153.2.1 27 = .ok (.goto 50, 3) := by decide +kernel
theorem k153_11 : decode zm153.2.1 11 = .ok (.iconst 1, 1) := by decide +kernel
theorem k153_12 : decode zm153.2.1 12 = .ok (.goto 65, 3) := by decide +kernel
theorem ci_10_94 : zix 10 94 = some 195350819 := by decide +kernel
theorem ci_10_95 : zix 10 95 = some 19061228 := by decide +kernel
theorem ci_10_96 : zix 10 96 = some 110765635 := by decide +kernel
theorem ci_10_97 : zix 10 97 = some 660976 := by decide +kernel
theorem k155_0 : decode zm155.2.1 0 = .ok (.aload_n 0, 1) := by decide +kernel
theorem k155_1 : decode zm155.2.1 1 = .ok (.ldc 94, 2) := by decide +kernel
theorem k155_3 : decode zm155.2.1 3 = .ok (.bipush 7, 2) := by decide +kernel
theorem k155_5 : decode zm155.2.1 5 = .ok (.bipush 14, 2) := by decide +kernel
theorem k155_7 : decode zm155.2.1 7 = .ok (.invokevirtual 86, 3) := by decide +kernel
theorem k155_10 : decode zm155.2.1 10 = .ok (.ifCond .eq 8, 3) := by decide +kernel
theorem k155_18 : decode zm155.2.1 18 = .ok (.aload_n 0, 1) := by decide +kernel
theorem k155_19 : decode zm155.2.1 19 = .ok (.ldc 95, 2) := by decide +kernel
theorem k155_21 : decode zm155.2.1 21 = .ok (.iconst 5, 1) := by decide +kernel
theorem k155_22 : decode zm155.2.1 22 = .ok (.iconst 0, 1) := by decide +kernel
theorem k155_23 : decode zm155.2.1 23 = .ok (.invokevirtual 86, 3) := by decide +kernel
theorem k155_26 : decode zm155.2.1 26 = .ok (.ifCond .eq 8, 3) := by decide +kernel
theorem k155_34 : decode zm155.2.1 34 = .ok (.aload_n 0, 1) := by decide +kernel
theorem k155_35 : decode zm155.2.1 35 = .ok (.ldc 96, 2) := by decide +kernel
theorem k155_37 : decode zm155.2.1 37 = .ok (.bipush 6, 2) := by decide +kernel
theorem k155_39 : decode zm155.2.1 39 = .ok (.iconst 0, 1) := by decide +kernel
theorem k155_40 : decode zm155.2.1 40 = .ok (.invokevirtual 86, 3) := by decide +kernel
theorem k155_43 : decode zm155.2.1 43 = .ok (.ifCond .eq 8, 3) := by decide +kernel
theorem k155_51 : decode zm155.2.1 51 = .ok (.aload_n 0, 1) := by decide +kernel
theorem k155_52 : decode zm155.2.1 52 = .ok (.ldc 97, 2) := by decide +kernel
theorem k155_54 : decode zm155.2.1 54 = .ok (.iconst 4, 1) := by decide +kernel
theorem k155_55 : decode zm155.2.1 55 = .ok (.iconst 0, 1) := by decide +kernel
theorem k155_56 : decode zm155.2.1 56 = .ok (.invokevirtual 86, 3) := by decide +kernel
theorem k155_59 : decode zm155.2.1 59 = .ok (.ifCond .eq 8, 3) := by decide +kernel
theorem k155_67 : decode zm155.2.1 67 = .ok (.iconst (-1), 1) := by decide +kernel
theorem k155_68 : decode zm155.2.1 68 = .ok (.ireturn, 1) := by decide +kernel
theorem k155_62 : decode zm155.2.1 62 = .ok (.bipush 10, 2) := by decide +kernel
theorem k155_64 : decode zm155.2.1 64 = .ok (.goto 4, 3) := by decide +kernel
theorem k155_46 : decode zm155.2.1 46 = .ok (.bipush 9, 2) := by decide +kernel
theorem k155_48 : decode zm155.2.1 48 = .ok (.goto 20, 3) := by decide +kernel
theorem k155_29 : decode zm155.2.1 29 = .ok (.bipush 8, 2) := by decide +kernel
theorem k155_31 : decode zm155.2.1 31 = .ok (.goto 37, 3) := by decide +kernel
theorem k155_13 : decode zm155.2.1 13 = .ok (.bipush 7, 2) := by decide +kernel
theorem k155_15 : decode zm155.2.1 15 = .ok (.goto 53, 3) := by decide +kernel
theorem cl_10_118 : zlx 10 118 = some 5 := by decide +kernel
theorem k156_0 : decode zm156.2.1 0 = .ok (.iload_n 0, 1) := by decide +kernel
theorem k156_1 : decode zm156.2.1 1 = .ok (.i2l, 1) := by decide +kernel
theorem k156_2 : decode zm156.2.1 2 = .ok (.lconst 1, 1) := by decide +kernel
theorem k156_3 : decode zm156.2.1 3 = .ok (.ldc2_w 118, 3) := by decide +kernel
theorem k156_6 : decode zm156.2.1 6 = .ok (.invokestatic 65, 3) := by decide +kernel
theorem k156_9 : decode zm156.2.1 9 = .ok (.ireturn, 1) := by decide +kernel
theorem cl_10_120 : zlx 10 120 = some 7 := by decide +kernel
theorem cl_10_122 : zlx 10 122 = some 10 := by decide +kernel
theorem k157_0 : decode zm157.2.1 0 = .ok (.iload_n 0, 1) := by decide +kernel
theorem k157_1 : decode zm157.2.1 1 = .ok (.i2l, 1) := by decide +kernel
theorem k157_2 : decode zm157.2.1 2 = .ok (.ldc2_w 120, 3) := by decide +kernel
theorem k157_5 : decode zm157.2.1 5 = .ok (.ldc2_w 122, 3) := by decide +kernel
theorem k157_8 : decode zm157.2.1 8 = .ok (.invokestatic 65, 3) := by decide +kernel
theorem k157_11 : decode zm157.2.1 11 = .ok (.ireturn, 1) := by decide +kernel
theorem k167_0 : decode zm167.2.1 0 = .ok (.iload_n 1, 1) := by decide +kernel
theorem k167_1 : decode zm167.2.1 1 = .ok (.i2l, 1) := by decide +kernel
theorem k167_2 : decode zm167.2.1 2 = .ok (.lconst 0, 1) := by decide +kernel
theorem k167_3 : decode zm167.2.1 3 = .ok (.aload_n 0, 1) := by decide +kernel
theorem k167_4 : decode zm167.2.1 4 = .ok (.getfield 149, 3) := by decide +kernel
theorem k167_7 : decode zm167.2.1 7 = .ok (.iconst 1, 1) := by decide +kernel
theorem k167_8 : decode zm167.2.1 8 = .ok (.isub, 1) := by decide +kernel
theorem k167_9 : decode zm167.2.1 9 = .ok (.i2l, 1) := by decide +kernel
theorem k167_10 : decode zm167.2.1 10 = .ok (.invokestatic 65, 3) := by decide +kernel
theorem k167_13 : decode zm167.2.1 13 = .ok (.ireturn, 1) := by decide +kernel
theorem k170_0 : decode zm170.2.1 0 = .ok (.iload_n 1, 1) := by decide +kernel
theorem k170_1 : decode zm170.2.1 1 = .ok (.i2l, 1) := by decide +kernel
theorem k170_2 : decode zm170.2.1 2 = .ok (.lconst 0, 1) := by decide +kernel
theorem k170_3 : decode zm170.2.1 3 = .ok (.aload_n 0, 1) := by decide +kernel
theorem k170_4 : decode zm170.2.1 4 = .ok (.getfield 155, 3) := by decide +kernel
theorem k170_7 : decode zm170.2.1 7 = .ok (.iconst 1, 1) := by decide +kernel
theorem k170_8 : decode zm170.2.1 8 = .ok (.isub, 1) := by decide +kernel
theorem k170_9 : decode zm170.2.1 9 = .ok (.i2l, 1) := by decide +kernel
theorem k170_10 : decode zm170.2.1 10 = .ok (.invokestatic 65, 3) := by decide +kernel
theorem k170_13 : decode zm170.2.1 13 = .ok (.ireturn, 1) := by decide +kernel
theorem fk_10_54 : zfx 10 54 = some (10, 30) := by decide +kernel
theorem lk_10_197 : zmx 10 197 = some (168, 1) := by decide +kernel
theorem ar236 : zArr 236 := zArr_of (by decide +kernel)
theorem k175_40 : decode zm175.2.1 40 = .ok (.iastore, 1) := by decide +kernel
theorem k175_41 : decode zm175.2.1 41 = .ok (.iinc 2 1, 3) := by decide +kernel
theorem k175_44 : decode zm175.2.1 44 = .ok (.goto (-42), 3) := by decide +kernel
theorem k175_2 : decode zm175.2.1 2 = .ok (.iload_n 2, 1) := by decide +kernel
theorem k175_3 : decode zm175.2.1 3 = .ok (.aload_n 0, 1) := by decide +kernel
theorem k175_4 : decode zm175.2.1 4 = .ok (.getfield 194, 3) := by decide +kernel
theorem k175_7 : decode zm175.2.1 7 = .ok (.if_icmp .ge 40, 3) := by decide +kernel
theorem k175_47 : decode zm175.2.1 47 = .ok (.return_, 1) := by decide +kernel
theorem k175_10 : decode zm175.2.1 10 = .ok (.aload_n 0, 1) := by decide +kernel
theorem k175_11 : decode zm175.2.1 11 = .ok (.getfield 54, 3) := by decide +kernel
theorem k175_14 : decode zm175.2.1 14 = .ok (.iload_n 2, 1) := by decide +kernel
theorem k175_15 : decode zm175.2.1 15 = .ok (.aload_n 0, 1) := by decide +kernel
theorem k175_16 : decode zm175.2.1 16 = .ok (.getfield 51, 3) := by decide +kernel
theorem k175_19 : decode zm175.2.1 19 = .ok (.iload_n 2, 1) := by decide +kernel
theorem k175_20 : decode zm175.2.1 20 = .ok (.iaload, 1) := by decide +kernel
theorem k175_21 : decode zm175.2.1 21 = .ok (.iconst (-1), 1) := by decide +kernel
theorem k175_22 : decode zm175.2.1 22 = .ok (.if_icmp .ne 7, 3) := by decide +kernel
theorem k175_29 : decode zm175.2.1 29 = .ok (.aload_n 0, 1) := by decide +kernel
theorem k175_30 : decode zm175.2.1 30 = .ok (.aload_n 0, 1) := by decide +kernel
theorem k175_31 : decode zm175.2.1 31 = .ok (.getfield 51, 3) := by decide +kernel
theorem k175_34 : decode zm175.2.1 34 = .ok (.iload_n 2, 1) := by decide +kernel
theorem k175_35 : decode zm175.2.1 35 = .ok (.iaload, 1) := by decide +kernel
theorem k175_36 : decode zm175.2.1 36 = .ok (.iload_n 1, 1) := by decide +kernel
theorem k175_37 : decode zm175.2.1 37 = .ok (.invokevirtual 197, 3) := by decide +kernel
theorem k175_25 : decode zm175.2.1 25 = .ok (.iconst (-1), 1) := by decide +kernel
theorem k175_26 : decode zm175.2.1 26 = .ok (.goto 14, 3) := by decide +kernel
theorem k175_0 : decode zm175.2.1 0 = .ok (.iconst 0, 1) := by decide +kernel
theorem k175_1 : decode zm175.2.1 1 = .ok (.istore_n 2, 1) := by decide +kernel
theorem cl_10_201 : zlx 10 201 = some 3 := by decide +kernel
theorem k178_0 : decode zm178.2.1 0 = .ok (.aload_n 0, 1) := by decide +kernel
theorem k178_1 : decode zm178.2.1 1 = .ok (.getfield 54, 3) := by decide +kernel
theorem k178_4 : decode zm178.2.1 4 = .ok (.iload_n 1, 1) := by decide +kernel
theorem k178_5 : decode zm178.2.1 5 = .ok (.iaload, 1) := by decide +kernel
theorem k178_6 : decode zm178.2.1 6 = .ok (.i2l, 1) := by decide +kernel
theorem k178_7 : decode zm178.2.1 7 = .ok (.lconst 1, 1) := by decide +kernel
theorem k178_8 : decode zm178.2.1 8 = .ok (.ldc2_w 201, 3) := by decide +kernel
theorem k178_11 : decode zm178.2.1 11 = .ok (.invokestatic 65, 3) := by decide +kernel
theorem k178_14 : decode zm178.2.1 14 = .ok (.ireturn, 1) := by decide +kernel
theorem k182_0 : decode zm182.2.1 0 = .ok (.iload_n 1, 1) := by decide +kernel
theorem k182_1 : decode zm182.2.1 1 = .ok (.i2l, 1) := by decide +kernel
theorem k182_2 : decode zm182.2.1 2 = .ok (.lconst 0, 1) := by decide +kernel
theorem k182_3 : decode zm182.2.1 3 = .ok (.aload_n 0, 1) := by decide +kernel
theorem k182_4 : decode zm182.2.1 4 = .ok (.getfield 185, 3) := by decide +kernel
theorem k182_7 : decode zm182.2.1 7 = .ok (.iconst 1, 1) := by decide +kernel
theorem k182_8 : decode zm182.2.1 8 = .ok (.isub, 1) := by decide +kernel
theorem k182_9 : decode zm182.2.1 9 = .ok (.i2l, 1) := by decide +kernel
theorem k182_10 : decode zm182.2.1 10 = .ok (.invokestatic 65, 3) := by decide +kernel
theorem k182_13 : decode zm182.2.1 13 = .ok (.ifCond .eq 12, 3) := by decide +kernel
theorem k182_25 : decode zm182.2.1 25 = .ok (.bipush (-3), 2) := by decide +kernel
theorem k182_27 : decode zm182.2.1 27 = .ok (.ireturn, 1) := by decide +kernel
theorem k182_16 : decode zm182.2.1 16 = .ok (.aload_n 0, 1) := by decide +kernel
theorem k182_17 : decode zm182.2.1 17 = .ok (.getfield 42, 3) := by decide +kernel
theorem k182_20 : decode zm182.2.1 20 = .ok (.iload_n 1, 1) := by decide +kernel
theorem k182_21 : decode zm182.2.1 21 = .ok (.iaload, 1) := by decide +kernel
theorem k182_22 : decode zm182.2.1 22 = .ok (.goto 5, 3) := by decide +kernel
theorem s16_511 : (Int16.ofInt 511).toInt32 = 511 := by decide
theorem s16_219 : (Int16.ofInt 219).toInt32 = 219 := by decide
theorem pi_10_1 : zdes 10 1 = "I" ∧ zfin 10 1 = false := by decide +kernel
theorem lk_10_244 : zmx 10 244 = some (189, 1) := by decide +kernel
theorem k188_66 : decode zm188.2.1 66 = .ok (.isub, 1) := by decide +kernel
theorem k188_67 : decode zm188.2.1 67 = .ok (.putfield 191, 3) := by decide +kernel
theorem k188_70 : decode zm188.2.1 70 = .ok (.aload_n 0, 1) := by decide +kernel
theorem k188_71 : decode zm188.2.1 71 = .ok (.iconst 0, 1) := by decide +kernel
theorem k188_72 : decode zm188.2.1 72 = .ok (.sipush 219, 3) := by decide +kernel
theorem k188_75 : decode zm188.2.1 75 = .ok (.bipush 73, 2) := by decide +kernel
theorem k188_77 : decode zm188.2.1 77 = .ok (.aload_n 0, 1) := by decide +kernel
theorem k188_78 : decode zm188.2.1 78 = .ok (.getfield 191, 3) := by decide +kernel
theorem k188_81 : decode zm188.2.1 81 = .ok (.imul, 1) := by decide +kernel
theorem k188_82 : decode zm188.2.1 82 = .ok (.iadd, 1) := by decide +kernel
theorem k188_83 : decode zm188.2.1 83 = .ok (.invokevirtual 244, 3) := by decide +kernel
theorem k188_86 : decode zm188.2.1 86 = .ok (.aload_n 0, 1) := by decide +kernel
theorem k188_87 : decode zm188.2.1 87 = .ok (.dup, 1) := by decide +kernel
theorem k188_88 : decode zm188.2.1 88 = .ok (.getfield 191, 3) := by decide +kernel
theorem k188_91 : decode zm188.2.1 91 = .ok (.iconst 1, 1) := by decide +kernel
theorem k188_92 : decode zm188.2.1 92 = .ok (.iadd, 1) := by decide +kernel
theorem k188_93 : decode zm188.2.1 93 = .ok (.putfield 191, 3) := by decide +kernel
theorem k188_96 : decode zm188.2.1 96 = .ok (.return_, 1) := by decide +kernel
theorem k188_47 : decode zm188.2.1 47 = .ok (.aload_n 0, 1) := by decide +kernel
theorem k188_48 : decode zm188.2.1 48 = .ok (.dup, 1) := by decide +kernel
theorem k188_49 : decode zm188.2.1 49 = .ok (.getfield 191, 3) := by decide +kernel
theorem k188_52 : decode zm188.2.1 52 = .ok (.aload_n 0, 1) := by decide +kernel
theorem k188_53 : decode zm188.2.1 53 = .ok (.getfield 191, 3) := by decide +kernel
theorem k188_56 : decode zm188.2.1 56 = .ok (.bipush 8, 2) := by decide +kernel
theorem k188_58 : decode zm188.2.1 58 = .ok (.if_icmp .ne 7, 3) := by decide +kernel
theorem k188_65 : decode zm188.2.1 65 = .ok (.iconst 0, 1) := by decide +kernel
theorem k188_61 : decode zm188.2.1 61 = .ok (.iconst 1, 1) := by decide +kernel
theorem k188_62 : decode zm188.2.1 62 = .ok (.goto 4, 3) := by decide +kernel
theorem k188_2 : decode zm188.2.1 2 = .ok (.iload_n 1, 1) := by decide +kernel
theorem k188_3 : decode zm188.2.1 3 = .ok (.sipush 511, 3) := by decide +kernel
theorem k188_6 : decode zm188.2.1 6 = .ok (.if_icmp .ge 41, 3) := by decide +kernel
theorem k188_9 : decode zm188.2.1 9 = .ok (.aload_n 0, 1) := by decide +kernel
theorem k188_10 : decode zm188.2.1 10 = .ok (.getfield 191, 3) := by decide +kernel
theorem k188_13 : decode zm188.2.1 13 = .ok (.bipush 8, 2) := by decide +kernel
theorem k188_15 : decode zm188.2.1 15 = .ok (.if_icmp .ne 32, 3) := by decide +kernel
theorem k188_18 : decode zm188.2.1 18 = .ok (.aload_n 0, 1) := by decide +kernel
theorem k188_19 : decode zm188.2.1 19 = .ok (.getfield 7, 3) := by decide +kernel
theorem k188_22 : decode zm188.2.1 22 = .ok (.sipush 219, 3) := by decide +kernel
theorem k188_25 : decode zm188.2.1 25 = .ok (.iload_n 1, 1) := by decide +kernel
theorem k188_26 : decode zm188.2.1 26 = .ok (.iadd, 1) := by decide +kernel
theorem k188_27 : decode zm188.2.1 27 = .ok (.aload_n 0, 1) := by decide +kernel
theorem k188_28 : decode zm188.2.1 28 = .ok (.getfield 7, 3) := by decide +kernel
theorem k188_31 : decode zm188.2.1 31 = .ok (.sipush 219, 3) := by decide +kernel
theorem k188_34 : decode zm188.2.1 34 = .ok (.iload_n 1, 1) := by decide +kernel
theorem k188_35 : decode zm188.2.1 35 = .ok (.iadd, 1) := by decide +kernel
theorem k188_36 : decode zm188.2.1 36 = .ok (.bipush 73, 2) := by decide +kernel
theorem k188_38 : decode zm188.2.1 38 = .ok (.iadd, 1) := by decide +kernel
theorem k188_39 : decode zm188.2.1 39 = .ok (.iaload, 1) := by decide +kernel
theorem k188_40 : decode zm188.2.1 40 = .ok (.iastore, 1) := by decide +kernel
theorem k188_41 : decode zm188.2.1 41 = .ok (.iinc 1 1, 3) := by decide +kernel
theorem k188_44 : decode zm188.2.1 44 = .ok (.goto (-42), 3) := by decide +kernel
theorem k188_0 : decode zm188.2.1 0 = .ok (.iconst 0, 1) := by decide +kernel
theorem k188_1 : decode zm188.2.1 1 = .ok (.istore_n 1, 1) := by decide +kernel
theorem b8_m4 : (Int8.ofInt (-4)).toInt32 = (-4) := by decide
theorem k197_0 : decode zm197.2.1 0 = .ok (.aload_n 0, 1) := by decide +kernel
theorem k197_1 : decode zm197.2.1 1 = .ok (.getfield 191, 3) := by decide +kernel
theorem k197_4 : decode zm197.2.1 4 = .ok (.ifCond .ne 6, 3) := by decide +kernel
theorem k197_10 : decode zm197.2.1 10 = .ok (.aload_n 0, 1) := by decide +kernel
theorem k197_11 : decode zm197.2.1 11 = .ok (.dup, 1) := by decide +kernel
theorem k197_12 : decode zm197.2.1 12 = .ok (.getfield 191, 3) := by decide +kernel
theorem k197_15 : decode zm197.2.1 15 = .ok (.iconst 1, 1) := by decide +kernel
theorem k197_16 : decode zm197.2.1 16 = .ok (.isub, 1) := by decide +kernel
theorem k197_17 : decode zm197.2.1 17 = .ok (.putfield 191, 3) := by decide +kernel
theorem k197_20 : decode zm197.2.1 20 = .ok (.aload_n 0, 1) := by decide +kernel
theorem k197_21 : decode zm197.2.1 21 = .ok (.sipush 219, 3) := by decide +kernel
theorem k197_24 : decode zm197.2.1 24 = .ok (.bipush 73, 2) := by decide +kernel
theorem k197_26 : decode zm197.2.1 26 = .ok (.aload_n 0, 1) := by decide +kernel
theorem k197_27 : decode zm197.2.1 27 = .ok (.getfield 191, 3) := by decide +kernel
theorem k197_30 : decode zm197.2.1 30 = .ok (.imul, 1) := by decide +kernel
theorem k197_31 : decode zm197.2.1 31 = .ok (.iadd, 1) := by decide +kernel
theorem k197_32 : decode zm197.2.1 32 = .ok (.iconst 0, 1) := by decide +kernel
theorem k197_33 : decode zm197.2.1 33 = .ok (.invokevirtual 244, 3) := by decide +kernel
theorem k197_36 : decode zm197.2.1 36 = .ok (.aload_n 0, 1) := by decide +kernel
theorem k197_37 : decode zm197.2.1 37 = .ok (.getfield 191, 3) := by decide +kernel
theorem k197_40 : decode zm197.2.1 40 = .ok (.ireturn, 1) := by decide +kernel
theorem k197_7 : decode zm197.2.1 7 = .ok (.bipush (-4), 2) := by decide +kernel
theorem k197_9 : decode zm197.2.1 9 = .ok (.ireturn, 1) := by decide +kernel
theorem fk_10_13 : zfx 10 13 = some (10, 2) := by decide +kernel
theorem bo224 : zBoo 224 := zBoo_of (by decide +kernel)
theorem b8_m2 : (Int8.ofInt (-2)).toInt32 = (-2) := by decide
theorem k198_0 : decode zm198.2.1 0 = .ok (.iload_n 1, 1) := by decide +kernel
theorem k198_1 : decode zm198.2.1 1 = .ok (.i2l, 1) := by decide +kernel
theorem k198_2 : decode zm198.2.1 2 = .ok (.lconst 0, 1) := by decide +kernel
theorem k198_3 : decode zm198.2.1 3 = .ok (.lconst 1, 1) := by decide +kernel
theorem k198_4 : decode zm198.2.1 4 = .ok (.invokestatic 65, 3) := by decide +kernel
theorem k198_7 : decode zm198.2.1 7 = .ok (.ifCond .ne 6, 3) := by decide +kernel
theorem k198_13 : decode zm198.2.1 13 = .ok (.aload_n 0, 1) := by decide +kernel
theorem k198_14 : decode zm198.2.1 14 = .ok (.iconst 0, 1) := by decide +kernel
theorem k198_15 : decode zm198.2.1 15 = .ok (.bipush 73, 2) := by decide +kernel
theorem k198_17 : decode zm198.2.1 17 = .ok (.iconst 1, 1) := by decide +kernel
theorem k198_18 : decode zm198.2.1 18 = .ok (.iload_n 1, 1) := by decide +kernel
theorem k198_19 : decode zm198.2.1 19 = .ok (.iadd, 1) := by decide +kernel
theorem k198_20 : decode zm198.2.1 20 = .ok (.imul, 1) := by decide +kernel
theorem k198_21 : decode zm198.2.1 21 = .ok (.invokevirtual 244, 3) := by decide +kernel
theorem k198_24 : decode zm198.2.1 24 = .ok (.aload_n 0, 1) := by decide +kernel
theorem k198_25 : decode zm198.2.1 25 = .ok (.getfield 13, 3) := by decide +kernel
theorem k198_28 : decode zm198.2.1 28 = .ok (.iload_n 1, 1) := by decide +kernel
theorem k198_29 : decode zm198.2.1 29 = .ok (.iconst 1, 1) := by decide +kernel
theorem k198_30 : decode zm198.2.1 30 = .ok (.bastore, 1) := by decide +kernel
theorem k198_31 : decode zm198.2.1 31 = .ok (.aload_n 0, 1) := by decide +kernel
theorem k198_32 : decode zm198.2.1 32 = .ok (.getfield 7, 3) := by decide +kernel
theorem k198_35 : decode zm198.2.1 35 = .ok (.iconst 0, 1) := by decide +kernel
theorem k198_36 : decode zm198.2.1 36 = .ok (.iaload, 1) := by decide +kernel
theorem k198_37 : decode zm198.2.1 37 = .ok (.ireturn, 1) := by decide +kernel
theorem k198_10 : decode zm198.2.1 10 = .ok (.bipush (-2), 2) := by decide +kernel
theorem k198_12 : decode zm198.2.1 12 = .ok (.ireturn, 1) := by decide +kernel
theorem k199_0 : decode zm199.2.1 0 = .ok (.iload_n 1, 1) := by decide +kernel
theorem k199_1 : decode zm199.2.1 1 = .ok (.i2l, 1) := by decide +kernel
theorem k199_2 : decode zm199.2.1 2 = .ok (.lconst 0, 1) := by decide +kernel
theorem k199_3 : decode zm199.2.1 3 = .ok (.lconst 1, 1) := by decide +kernel
theorem k199_4 : decode zm199.2.1 4 = .ok (.invokestatic 65, 3) := by decide +kernel
theorem k199_7 : decode zm199.2.1 7 = .ok (.ifCond .ne 6, 3) := by decide +kernel
theorem k199_13 : decode zm199.2.1 13 = .ok (.aload_n 0, 1) := by decide +kernel
theorem k199_14 : decode zm199.2.1 14 = .ok (.getfield 13, 3) := by decide +kernel
theorem k199_17 : decode zm199.2.1 17 = .ok (.iload_n 1, 1) := by decide +kernel
theorem k199_18 : decode zm199.2.1 18 = .ok (.baload, 1) := by decide +kernel
theorem k199_19 : decode zm199.2.1 19 = .ok (.ifCond .ne 6, 3) := by decide +kernel
theorem k199_25 : decode zm199.2.1 25 = .ok (.aload_n 0, 1) := by decide +kernel
theorem k199_26 : decode zm199.2.1 26 = .ok (.bipush 73, 2) := by decide +kernel
theorem k199_28 : decode zm199.2.1 28 = .ok (.iconst 1, 1) := by decide +kernel
theorem k199_29 : decode zm199.2.1 29 = .ok (.iload_n 1, 1) := by decide +kernel
theorem k199_30 : decode zm199.2.1 30 = .ok (.iadd, 1) := by decide +kernel
theorem k199_31 : decode zm199.2.1 31 = .ok (.imul, 1) := by decide +kernel
theorem k199_32 : decode zm199.2.1 32 = .ok (.iconst 0, 1) := by decide +kernel
theorem k199_33 : decode zm199.2.1 33 = .ok (.invokevirtual 244, 3) := by decide +kernel
theorem k199_36 : decode zm199.2.1 36 = .ok (.aload_n 0, 1) := by decide +kernel
theorem k199_37 : decode zm199.2.1 37 = .ok (.iconst 0, 1) := by decide +kernel
theorem k199_38 : decode zm199.2.1 38 = .ok (.putfield 191, 3) := by decide +kernel
theorem k199_41 : decode zm199.2.1 41 = .ok (.aload_n 0, 1) := by decide +kernel
theorem k199_42 : decode zm199.2.1 42 = .ok (.getfield 7, 3) := by decide +kernel
theorem k199_45 : decode zm199.2.1 45 = .ok (.iconst 0, 1) := by decide +kernel
theorem k199_46 : decode zm199.2.1 46 = .ok (.iaload, 1) := by decide +kernel
theorem k199_47 : decode zm199.2.1 47 = .ok (.ireturn, 1) := by decide +kernel
theorem k199_22 : decode zm199.2.1 22 = .ok (.bipush (-4), 2) := by decide +kernel
theorem k199_24 : decode zm199.2.1 24 = .ok (.ireturn, 1) := by decide +kernel
theorem k199_10 : decode zm199.2.1 10 = .ok (.bipush (-2), 2) := by decide +kernel
theorem k199_12 : decode zm199.2.1 12 = .ok (.ireturn, 1) := by decide +kernel
theorem lk_10_236 : zmx 10 236 = some (173, 1) := by decide +kernel
theorem lk_10_222 : zmx 10 222 = some (186, 1) := by decide +kernel
theorem k201_0 : decode zm201.2.1 0 = .ok (.aload_n 0, 1) := by decide +kernel
theorem k201_1 : decode zm201.2.1 1 = .ok (.invokevirtual 236, 3) := by decide +kernel
theorem k201_4 : decode zm201.2.1 4 = .ok (.aload_n 0, 1) := by decide +kernel
theorem k201_5 : decode zm201.2.1 5 = .ok (.getfield 185, 3) := by decide +kernel
theorem k201_8 : decode zm201.2.1 8 = .ok (.bipush 6, 2) := by decide +kernel
theorem k201_10 : decode zm201.2.1 10 = .ok (.if_icmp .gt 14, 3) := by decide +kernel
theorem k201_24 : decode zm201.2.1 24 = .ok (.iconst 0, 1) := by decide +kernel
theorem k201_25 : decode zm201.2.1 25 = .ok (.ireturn, 1) := by decide +kernel
theorem k201_13 : decode zm201.2.1 13 = .ok (.aload_n 0, 1) := by decide +kernel
theorem k201_14 : decode zm201.2.1 14 = .ok (.invokevirtual 222, 3) := by decide +kernel
theorem k201_17 : decode zm201.2.1 17 = .ok (.ifCond .ne 7, 3) := by decide +kernel
theorem k201_20 : decode zm201.2.1 20 = .ok (.iconst 1, 1) := by decide +kernel
theorem k201_21 : decode zm201.2.1 21 = .ok (.goto 4, 3) := by decide +kernel
theorem lk_10_263 : zmx 10 263 = some (203, 0) := by decide +kernel
theorem lk_10_203 : zmx 10 203 = some (177, 0) := by decide +kernel
theorem k204_69 : decode zm204.2.1 69 = .ok (.iload 6, 2) := by decide +kernel
theorem k204_71 : decode zm204.2.1 71 = .ok (.iload 4, 2) := by decide +kernel
theorem k204_73 : decode zm204.2.1 73 = .ok (.iload 7, 2) := by decide +kernel
theorem k204_75 : decode zm204.2.1 75 = .ok (.ishr, 1) := by decide +kernel
theorem k204_76 : decode zm204.2.1 76 = .ok (.iconst 1, 1) := by decide +kernel
theorem k204_77 : decode zm204.2.1 77 = .ok (.iand, 1) := by decide +kernel
theorem k204_78 : decode zm204.2.1 78 = .ok (.isub, 1) := by decide +kernel
theorem k204_79 : decode zm204.2.1 79 = .ok (.istore 6, 2) := by decide +kernel
theorem k204_81 : decode zm204.2.1 81 = .ok (.iinc 7 1, 3) := by decide +kernel
theorem k204_84 : decode zm204.2.1 84 = .ok (.goto (-30), 3) := by decide +kernel
theorem k204_54 : decode zm204.2.1 54 = .ok (.iload 4, 2) := by decide +kernel
theorem k204_56 : decode zm204.2.1 56 = .ok (.iload 7, 2) := by decide +kernel
theorem k204_58 : decode zm204.2.1 58 = .ok (.invokestatic 203, 3) := by decide +kernel
theorem k204_61 : decode zm204.2.1 61 = .ok (.ifCond .eq 8, 3) := by decide +kernel
theorem k204_64 : decode zm204.2.1 64 = .ok (.iload 6, 2) := by decide +kernel
theorem k204_66 : decode zm204.2.1 66 = .ok (.ifCond .le 21, 3) := by decide +kernel
theorem k204_87 : decode zm204.2.1 87 = .ok (.aload_n 0, 1) := by decide +kernel
theorem k204_88 : decode zm204.2.1 88 = .ok (.getfield 51, 3) := by decide +kernel
theorem k204_91 : decode zm204.2.1 91 = .ok (.iload 5, 2) := by decide +kernel
theorem k204_93 : decode zm204.2.1 93 = .ok (.aload_n 0, 1) := by decide +kernel
theorem k204_94 : decode zm204.2.1 94 = .ok (.getfield 42, 3) := by decide +kernel
theorem k204_97 : decode zm204.2.1 97 = .ok (.iload 7, 2) := by decide +kernel
theorem k204_99 : decode zm204.2.1 99 = .ok (.iaload, 1) := by decide +kernel
theorem k204_100 : decode zm204.2.1 100 = .ok (.iastore, 1) := by decide +kernel
theorem k204_101 : decode zm204.2.1 101 = .ok (.iload 4, 2) := by decide +kernel
theorem k204_103 : decode zm204.2.1 103 = .ok (.iconst 1, 1) := by decide +kernel
theorem k204_104 : decode zm204.2.1 104 = .ok (.iload 7, 2) := by decide +kernel
theorem k204_106 : decode zm204.2.1 106 = .ok (.ishl, 1) := by decide +kernel
theorem k204_107 : decode zm204.2.1 107 = .ok (.iconst (-1), 1) := by decide +kernel
theorem k204_108 : decode zm204.2.1 108 = .ok (.ixor, 1) := by decide +kernel
theorem k204_109 : decode zm204.2.1 109 = .ok (.iand, 1) := by decide +kernel
theorem k204_110 : decode zm204.2.1 110 = .ok (.istore 4, 2) := by decide +kernel
theorem k204_112 : decode zm204.2.1 112 = .ok (.iinc 5 1, 3) := by decide +kernel
theorem k204_115 : decode zm204.2.1 115 = .ok (.goto (-92), 3) := by decide +kernel
theorem k204_23 : decode zm204.2.1 23 = .ok (.iload 5, 2) := by decide +kernel
theorem k204_25 : decode zm204.2.1 25 = .ok (.aload_n 0, 1) := by decide +kernel
theorem k204_26 : decode zm204.2.1 26 = .ok (.getfield 185, 3) := by decide +kernel
theorem k204_29 : decode zm204.2.1 29 = .ok (.if_icmp .ge 89, 3) := by decide +kernel
theorem k204_118 : decode zm204.2.1 118 = .ok (.aload_n 0, 1) := by decide +kernel
theorem k204_119 : decode zm204.2.1 119 = .ok (.aload_n 0, 1) := by decide +kernel
theorem k204_120 : decode zm204.2.1 120 = .ok (.getfield 185, 3) := by decide +kernel
theorem k204_123 : decode zm204.2.1 123 = .ok (.putfield 194, 3) := by decide +kernel
theorem k204_126 : decode zm204.2.1 126 = .ok (.return_, 1) := by decide +kernel
theorem k204_32 : decode zm204.2.1 32 = .ok (.iload_n 2, 1) := by decide +kernel
theorem k204_33 : decode zm204.2.1 33 = .ok (.aload_n 0, 1) := by decide +kernel
theorem k204_34 : decode zm204.2.1 34 = .ok (.getfield 185, 3) := by decide +kernel
theorem k204_37 : decode zm204.2.1 37 = .ok (.iload 5, 2) := by decide +kernel
theorem k204_39 : decode zm204.2.1 39 = .ok (.isub, 1) := by decide +kernel
theorem k204_40 : decode zm204.2.1 40 = .ok (.idiv, 1) := by decide +kernel
theorem k204_41 : decode zm204.2.1 41 = .ok (.istore_n 2, 1) := by decide +kernel
theorem k204_42 : decode zm204.2.1 42 = .ok (.iload_n 3, 1) := by decide +kernel
theorem k204_43 : decode zm204.2.1 43 = .ok (.iload_n 2, 1) := by decide +kernel
theorem k204_44 : decode zm204.2.1 44 = .ok (.idiv, 1) := by decide +kernel
theorem k204_45 : decode zm204.2.1 45 = .ok (.istore 6, 2) := by decide +kernel
theorem k204_47 : decode zm204.2.1 47 = .ok (.iload_n 3, 1) := by decide +kernel
theorem k204_48 : decode zm204.2.1 48 = .ok (.iload_n 2, 1) := by decide +kernel
theorem k204_49 : decode zm204.2.1 49 = .ok (.irem, 1) := by decide +kernel
theorem k204_50 : decode zm204.2.1 50 = .ok (.istore_n 3, 1) := by decide +kernel
theorem k204_51 : decode zm204.2.1 51 = .ok (.iconst 0, 1) := by decide +kernel
theorem k204_52 : decode zm204.2.1 52 = .ok (.istore 7, 2) := by decide +kernel
theorem k204_0 : decode zm204.2.1 0 = .ok (.aload_n 0, 1) := by decide +kernel
theorem k204_1 : decode zm204.2.1 1 = .ok (.getfield 185, 3) := by decide +kernel
theorem k204_4 : decode zm204.2.1 4 = .ok (.invokestatic 263, 3) := by decide +kernel
theorem k204_7 : decode zm204.2.1 7 = .ok (.istore_n 2, 1) := by decide +kernel
theorem k204_8 : decode zm204.2.1 8 = .ok (.iload_n 1, 1) := by decide +kernel
theorem k204_9 : decode zm204.2.1 9 = .ok (.istore_n 3, 1) := by decide +kernel
theorem k204_10 : decode zm204.2.1 10 = .ok (.iconst 1, 1) := by decide +kernel
theorem k204_11 : decode zm204.2.1 11 = .ok (.aload_n 0, 1) := by decide +kernel
theorem k204_12 : decode zm204.2.1 12 = .ok (.getfield 185, 3) := by decide +kernel
theorem k204_15 : decode zm204.2.1 15 = .ok (.ishl, 1) := by decide +kernel
theorem k204_16 : decode zm204.2.1 16 = .ok (.iconst 1, 1) := by decide +kernel
theorem k204_17 : decode zm204.2.1 17 = .ok (.isub, 1) := by decide +kernel
theorem k204_18 : decode zm204.2.1 18 = .ok (.istore 4, 2) := by decide +kernel
theorem k204_20 : decode zm204.2.1 20 = .ok (.iconst 0, 1) := by decide +kernel
theorem k204_21 : decode zm204.2.1 21 = .ok (.istore 5, 2) := by decide +kernel
theorem k209_39 : decode zm209.2.1 39 = .ok (.istore_n 2, 1) := by decide +kernel
theorem k209_40 : decode zm209.2.1 40 = .ok (.iinc 3 1, 3) := by decide +kernel
theorem k209_43 : decode zm209.2.1 43 = .ok (.goto (-39), 3) := by decide +kernel
theorem k209_38 : decode zm209.2.1 38 = .ok (.iconst 0, 1) := by decide +kernel
theorem k209_34 : decode zm209.2.1 34 = .ok (.iconst 1, 1) := by decide +kernel
theorem k209_35 : decode zm209.2.1 35 = .ok (.goto 4, 3) := by decide +kernel
theorem k209_4 : decode zm209.2.1 4 = .ok (.iload_n 3, 1) := by decide +kernel
theorem k209_5 : decode zm209.2.1 5 = .ok (.aload_n 0, 1) := by decide +kernel
theorem k209_6 : decode zm209.2.1 6 = .ok (.getfield 185, 3) := by decide +kernel
theorem k209_9 : decode zm209.2.1 9 = .ok (.if_icmp .ge 37, 3) := by decide +kernel
theorem k209_46 : decode zm209.2.1 46 = .ok (.iload_n 2, 1) := by decide +kernel
theorem k209_47 : decode zm209.2.1 47 = .ok (.ireturn, 1) := by decide +kernel
theorem k209_12 : decode zm209.2.1 12 = .ok (.iload_n 2, 1) := by decide +kernel
theorem k209_13 : decode zm209.2.1 13 = .ok (.ifCond .eq 25, 3) := by decide +kernel
theorem k209_16 : decode zm209.2.1 16 = .ok (.iload_n 1, 1) := by decide +kernel
theorem k209_17 : decode zm209.2.1 17 = .ok (.iload_n 3, 1) := by decide +kernel
theorem k209_18 : decode zm209.2.1 18 = .ok (.invokestatic 203, 3) := by decide +kernel
theorem k209_21 : decode zm209.2.1 21 = .ok (.ifCond .eq 13, 3) := by decide +kernel
theorem k209_24 : decode zm209.2.1 24 = .ok (.aload_n 0, 1) := by decide +kernel
theorem k209_25 : decode zm209.2.1 25 = .ok (.getfield 42, 3) := by decide +kernel
theorem k209_28 : decode zm209.2.1 28 = .ok (.iload_n 3, 1) := by decide +kernel
theorem k209_29 : decode zm209.2.1 29 = .ok (.iaload, 1) := by decide +kernel
theorem k209_30 : decode zm209.2.1 30 = .ok (.iconst (-1), 1) := by decide +kernel
theorem k209_31 : decode zm209.2.1 31 = .ok (.if_icmp .eq 7, 3) := by decide +kernel
theorem k209_0 : decode zm209.2.1 0 = .ok (.iconst 1, 1) := by decide +kernel
theorem k209_1 : decode zm209.2.1 1 = .ok (.istore_n 2, 1) := by decide +kernel
theorem k209_2 : decode zm209.2.1 2 = .ok (.iconst 0, 1) := by decide +kernel
theorem k209_3 : decode zm209.2.1 3 = .ok (.istore_n 3, 1) := by decide +kernel
theorem k211_48 : decode zm211.2.1 48 = .ok (.iinc 2 1, 3) := by decide +kernel
theorem k211_51 : decode zm211.2.1 51 = .ok (.goto (-44), 3) := by decide +kernel
theorem k211_7 : decode zm211.2.1 7 = .ok (.iload_n 2, 1) := by decide +kernel
theorem k211_8 : decode zm211.2.1 8 = .ok (.aload_n 0, 1) := by decide +kernel
theorem k211_9 : decode zm211.2.1 9 = .ok (.getfield 185, 3) := by decide +kernel
theorem k211_12 : decode zm211.2.1 12 = .ok (.if_icmp .ge 42, 3) := by decide +kernel
theorem k211_54 : decode zm211.2.1 54 = .ok (.return_, 1) := by decide +kernel
theorem k211_15 : decode zm211.2.1 15 = .ok (.iload_n 1, 1) := by decide +kernel
theorem k211_16 : decode zm211.2.1 16 = .ok (.iload_n 2, 1) := by decide +kernel
theorem k211_17 : decode zm211.2.1 17 = .ok (.invokestatic 203, 3) := by decide +kernel
theorem k211_20 : decode zm211.2.1 20 = .ok (.ifCond .ne 28, 3) := by decide +kernel
theorem k211_23 : decode zm211.2.1 23 = .ok (.aload_n 0, 1) := by decide +kernel
theorem k211_24 : decode zm211.2.1 24 = .ok (.getfield 51, 3) := by decide +kernel
theorem k211_27 : decode zm211.2.1 27 = .ok (.aload_n 0, 1) := by decide +kernel
theorem k211_28 : decode zm211.2.1 28 = .ok (.getfield 194, 3) := by decide +kernel
theorem k211_31 : decode zm211.2.1 31 = .ok (.aload_n 0, 1) := by decide +kernel
theorem k211_32 : decode zm211.2.1 32 = .ok (.getfield 42, 3) := by decide +kernel
theorem k211_35 : decode zm211.2.1 35 = .ok (.iload_n 2, 1) := by decide +kernel
theorem k211_36 : decode zm211.2.1 36 = .ok (.iaload, 1) := by decide +kernel
theorem k211_37 : decode zm211.2.1 37 = .ok (.iastore, 1) := by decide +kernel
theorem k211_38 : decode zm211.2.1 38 = .ok (.aload_n 0, 1) := by decide +kernel
theorem k211_39 : decode zm211.2.1 39 = .ok (.dup, 1) := by decide +kernel
theorem k211_40 : decode zm211.2.1 40 = .ok (.getfield 194, 3) := by decide +kernel
theorem k211_43 : decode zm211.2.1 43 = .ok (.iconst 1, 1) := by decide +kernel
theorem k211_44 : decode zm211.2.1 44 = .ok (.iadd, 1) := by decide +kernel
theorem k211_45 : decode zm211.2.1 45 = .ok (.putfield 194, 3) := by decide +kernel
theorem k211_0 : decode zm211.2.1 0 = .ok (.aload_n 0, 1) := by decide +kernel
theorem k211_1 : decode zm211.2.1 1 = .ok (.iconst 0, 1) := by decide +kernel
theorem k211_2 : decode zm211.2.1 2 = .ok (.putfield 194, 3) := by decide +kernel
theorem k211_5 : decode zm211.2.1 5 = .ok (.iconst 0, 1) := by decide +kernel
theorem k211_6 : decode zm211.2.1 6 = .ok (.istore_n 2, 1) := by decide +kernel
theorem k213_46 : decode zm213.2.1 46 = .ok (.iinc 3 (-1), 3) := by decide +kernel
theorem k213_49 : decode zm213.2.1 49 = .ok (.goto (-36), 3) := by decide +kernel
theorem k213_13 : decode zm213.2.1 13 = .ok (.iload_n 3, 1) := by decide +kernel
theorem k213_14 : decode zm213.2.1 14 = .ok (.ifCond .lt 38, 3) := by decide +kernel
theorem k213_52 : decode zm213.2.1 52 = .ok (.return_, 1) := by decide +kernel
theorem k213_17 : decode zm213.2.1 17 = .ok (.aload_n 0, 1) := by decide +kernel
theorem k213_18 : decode zm213.2.1 18 = .ok (.getfield 42, 3) := by decide +kernel
theorem k213_21 : decode zm213.2.1 21 = .ok (.iload_n 3, 1) := by decide +kernel
theorem k213_22 : decode zm213.2.1 22 = .ok (.iaload, 1) := by decide +kernel
theorem k213_23 : decode zm213.2.1 23 = .ok (.iconst (-1), 1) := by decide +kernel
theorem k213_24 : decode zm213.2.1 24 = .ok (.if_icmp .ne 22, 3) := by decide +kernel
theorem k213_27 : decode zm213.2.1 27 = .ok (.aload_n 0, 1) := by decide +kernel
theorem k213_28 : decode zm213.2.1 28 = .ok (.getfield 51, 3) := by decide +kernel
theorem k213_31 : decode zm213.2.1 31 = .ok (.iload_n 3, 1) := by decide +kernel
theorem k213_32 : decode zm213.2.1 32 = .ok (.iload_n 2, 1) := by decide +kernel
theorem k213_33 : decode zm213.2.1 33 = .ok (.aload_n 0, 1) := by decide +kernel
theorem k213_34 : decode zm213.2.1 34 = .ok (.getfield 149, 3) := by decide +kernel
theorem k213_37 : decode zm213.2.1 37 = .ok (.irem, 1) := by decide +kernel
theorem k213_38 : decode zm213.2.1 38 = .ok (.iastore, 1) := by decide +kernel
theorem k213_39 : decode zm213.2.1 39 = .ok (.iload_n 2, 1) := by decide +kernel
theorem k213_40 : decode zm213.2.1 40 = .ok (.aload_n 0, 1) := by decide +kernel
theorem k213_41 : decode zm213.2.1 41 = .ok (.getfield 149, 3) := by decide +kernel
theorem k213_44 : decode zm213.2.1 44 = .ok (.idiv, 1) := by decide +kernel
theorem k213_45 : decode zm213.2.1 45 = .ok (.istore_n 2, 1) := by decide +kernel
theorem k213_0 : decode zm213.2.1 0 = .ok (.iload_n 1, 1) := by decide +kernel
theorem k213_1 : decode zm213.2.1 1 = .ok (.istore_n 2, 1) := by decide +kernel
theorem k213_2 : decode zm213.2.1 2 = .ok (.aload_n 0, 1) := by decide +kernel
theorem k213_3 : decode zm213.2.1 3 = .ok (.invokevirtual 236, 3) := by decide +kernel
theorem k213_6 : decode zm213.2.1 6 = .ok (.aload_n 0, 1) := by decide +kernel
theorem k213_7 : decode zm213.2.1 7 = .ok (.getfield 185, 3) := by decide +kernel
theorem k213_10 : decode zm213.2.1 10 = .ok (.iconst 1, 1) := by decide +kernel
theorem k213_11 : decode zm213.2.1 11 = .ok (.isub, 1) := by decide +kernel
theorem k213_12 : decode zm213.2.1 12 = .ok (.istore_n 3, 1) := by decide +kernel
theorem k214_35 : decode zm214.2.1 35 = .ok (.iload_n 1, 1) := by decide +kernel
theorem k214_36 : decode zm214.2.1 36 = .ok (.aload_n 0, 1) := by decide +kernel
theorem k214_37 : decode zm214.2.1 37 = .ok (.getfield 185, 3) := by decide +kernel
theorem k214_40 : decode zm214.2.1 40 = .ok (.if_icmp .ge 29, 3) := by decide +kernel
theorem k214_69 : decode zm214.2.1 69 = .ok (.aload_n 0, 1) := by decide +kernel
theorem k214_70 : decode zm214.2.1 70 = .ok (.getfield 48, 3) := by decide +kernel
theorem k214_73 : decode zm214.2.1 73 = .ok (.aload_n 0, 1) := by decide +kernel
theorem k214_74 : decode zm214.2.1 74 = .ok (.getfield 188, 3) := by decide +kernel
theorem k214_77 : decode zm214.2.1 77 = .ok (.aload_n 0, 1) := by decide +kernel
theorem k214_78 : decode zm214.2.1 78 = .ok (.getfield 185, 3) := by decide +kernel
theorem k214_81 : decode zm214.2.1 81 = .ok (.iastore, 1) := by decide +kernel
theorem k214_82 : decode zm214.2.1 82 = .ok (.aload_n 0, 1) := by decide +kernel
theorem k214_83 : decode zm214.2.1 83 = .ok (.dup, 1) := by decide +kernel
theorem k214_84 : decode zm214.2.1 84 = .ok (.getfield 188, 3) := by decide +kernel
theorem k214_87 : decode zm214.2.1 87 = .ok (.iconst 1, 1) := by decide +kernel
theorem k214_88 : decode zm214.2.1 88 = .ok (.iadd, 1) := by decide +kernel
theorem k214_89 : decode zm214.2.1 89 = .ok (.putfield 188, 3) := by decide +kernel
theorem k214_92 : decode zm214.2.1 92 = .ok (.aload_n 0, 1) := by decide +kernel
theorem k214_93 : decode zm214.2.1 93 = .ok (.getfield 188, 3) := by decide +kernel
theorem k214_96 : decode zm214.2.1 96 = .ok (.ireturn, 1) := by decide +kernel
theorem k214_43 : decode zm214.2.1 43 = .ok (.aload_n 0, 1) := by decide +kernel
theorem k214_44 : decode zm214.2.1 44 = .ok (.getfield 45, 3) := by decide +kernel
theorem k214_47 : decode zm214.2.1 47 = .ok (.bipush 8, 2) := by decide +kernel
theorem k214_49 : decode zm214.2.1 49 = .ok (.aload_n 0, 1) := by decide +kernel
theorem k214_50 : decode zm214.2.1 50 = .ok (.getfield 188, 3) := by decide +kernel
theorem k214_53 : decode zm214.2.1 53 = .ok (.imul, 1) := by decide +kernel
theorem k214_54 : decode zm214.2.1 54 = .ok (.iload_n 1, 1) := by decide +kernel
theorem k214_55 : decode zm214.2.1 55 = .ok (.iadd, 1) := by decide +kernel
theorem k214_56 : decode zm214.2.1 56 = .ok (.aload_n 0, 1) := by decide +kernel
theorem k214_57 : decode zm214.2.1 57 = .ok (.getfield 42, 3) := by decide +kernel
theorem k214_60 : decode zm214.2.1 60 = .ok (.iload_n 1, 1) := by decide +kernel
theorem k214_61 : decode zm214.2.1 61 = .ok (.iaload, 1) := by decide +kernel
theorem k214_62 : decode zm214.2.1 62 = .ok (.iastore, 1) := by decide +kernel
theorem k214_63 : decode zm214.2.1 63 = .ok (.iinc 1 1, 3) := by decide +kernel
theorem k214_66 : decode zm214.2.1 66 = .ok (.goto (-31), 3) := by decide +kernel
theorem k214_0 : decode zm214.2.1 0 = .ok (.aload_n 0, 1) := by decide +kernel
theorem k214_1 : decode zm214.2.1 1 = .ok (.invokevirtual 236, 3) := by decide +kernel
theorem k214_4 : decode zm214.2.1 4 = .ok (.aload_n 0, 1) := by decide +kernel
theorem k214_5 : decode zm214.2.1 5 = .ok (.getfield 194, 3) := by decide +kernel
theorem k214_8 : decode zm214.2.1 8 = .ok (.ifCond .eq 10, 3) := by decide +kernel
theorem k214_18 : decode zm214.2.1 18 = .ok (.bipush (-4), 2) := by decide +kernel
theorem k214_20 : decode zm214.2.1 20 = .ok (.ireturn, 1) := by decide +kernel
theorem k214_11 : decode zm214.2.1 11 = .ok (.aload_n 0, 1) := by decide +kernel
theorem k214_12 : decode zm214.2.1 12 = .ok (.invokevirtual 222, 3) := by decide +kernel
theorem k214_15 : decode zm214.2.1 15 = .ok (.ifCond .eq 6, 3) := by decide +kernel
theorem k214_21 : decode zm214.2.1 21 = .ok (.aload_n 0, 1) := by decide +kernel
theorem k214_22 : decode zm214.2.1 22 = .ok (.getfield 188, 3) := by decide +kernel
theorem k214_25 : decode zm214.2.1 25 = .ok (.bipush 6, 2) := by decide +kernel
theorem k214_27 : decode zm214.2.1 27 = .ok (.if_icmp .ne 6, 3) := by decide +kernel
theorem k214_33 : decode zm214.2.1 33 = .ok (.iconst 0, 1) := by decide +kernel
theorem k214_34 : decode zm214.2.1 34 = .ok (.istore_n 1, 1) := by decide +kernel
theorem k214_30 : decode zm214.2.1 30 = .ok (.bipush (-5), 2) := by decide +kernel
theorem k214_32 : decode zm214.2.1 32 = .ok (.ireturn, 1) := by decide +kernel
theorem lk_10_299 : zmx 10 299 = some (217, 1) := by decide +kernel
theorem lk_10_250 : zmx 10 250 = some (190, 1) := by decide +kernel
theorem k219_34 : decode zm219.2.1 34 = .ok (.iadd, 1) := by decide +kernel
theorem k219_35 : decode zm219.2.1 35 = .ok (.istore_n 2, 1) := by decide +kernel
theorem k219_36 : decode zm219.2.1 36 = .ok (.iinc 3 1, 3) := by decide +kernel
theorem k219_39 : decode zm219.2.1 39 = .ok (.goto (-35), 3) := by decide +kernel
theorem k219_4 : decode zm219.2.1 4 = .ok (.iload_n 3, 1) := by decide +kernel
theorem k219_5 : decode zm219.2.1 5 = .ok (.aload_n 0, 1) := by decide +kernel
theorem k219_6 : decode zm219.2.1 6 = .ok (.getfield 188, 3) := by decide +kernel
theorem k219_9 : decode zm219.2.1 9 = .ok (.if_icmp .ge 33, 3) := by decide +kernel
theorem k219_42 : decode zm219.2.1 42 = .ok (.iload_n 2, 1) := by decide +kernel
theorem k219_43 : decode zm219.2.1 43 = .ok (.ireturn, 1) := by decide +kernel
theorem k219_12 : decode zm219.2.1 12 = .ok (.aload_n 0, 1) := by decide +kernel
theorem k219_13 : decode zm219.2.1 13 = .ok (.iload_n 3, 1) := by decide +kernel
theorem k219_14 : decode zm219.2.1 14 = .ok (.invokevirtual 299, 3) := by decide +kernel
theorem k219_17 : decode zm219.2.1 17 = .ok (.iload_n 2, 1) := by decide +kernel
theorem k219_18 : decode zm219.2.1 18 = .ok (.iload_n 1, 1) := by decide +kernel
theorem k219_19 : decode zm219.2.1 19 = .ok (.iload_n 3, 1) := by decide +kernel
theorem k219_20 : decode zm219.2.1 20 = .ok (.invokestatic 203, 3) := by decide +kernel
theorem k219_23 : decode zm219.2.1 23 = .ok (.ifCond .eq 10, 3) := by decide +kernel
theorem k219_33 : decode zm219.2.1 33 = .ok (.iconst 0, 1) := by decide +kernel
theorem k219_26 : decode zm219.2.1 26 = .ok (.aload_n 0, 1) := by decide +kernel
theorem k219_27 : decode zm219.2.1 27 = .ok (.invokevirtual 250, 3) := by decide +kernel
theorem k219_30 : decode zm219.2.1 30 = .ok (.goto 4, 3) := by decide +kernel
theorem k219_0 : decode zm219.2.1 0 = .ok (.iconst 0, 1) := by decide +kernel
theorem k219_1 : decode zm219.2.1 1 = .ok (.istore_n 2, 1) := by decide +kernel
theorem k219_2 : decode zm219.2.1 2 = .ok (.iconst 0, 1) := by decide +kernel
theorem k219_3 : decode zm219.2.1 3 = .ok (.istore_n 3, 1) := by decide +kernel
theorem lk_10_231 : zmx 10 231 = some (171, 1) := by decide +kernel
theorem s16_1000 : (Int16.ofInt 1000).toInt32 = 1000 := by decide
theorem k223_69 : decode zm223.2.1 69 = .ok (.iadd, 1) := by decide +kernel
theorem k223_70 : decode zm223.2.1 70 = .ok (.istore_n 2, 1) := by decide +kernel
theorem k223_71 : decode zm223.2.1 71 = .ok (.iinc 4 1, 3) := by decide +kernel
theorem k223_74 : decode zm223.2.1 74 = .ok (.goto (-58), 3) := by decide +kernel
theorem k223_16 : decode zm223.2.1 16 = .ok (.iload 4, 2) := by decide +kernel
theorem k223_18 : decode zm223.2.1 18 = .ok (.aload_n 0, 1) := by decide +kernel
theorem k223_19 : decode zm223.2.1 19 = .ok (.getfield 185, 3) := by decide +kernel
theorem k223_22 : decode zm223.2.1 22 = .ok (.if_icmp .ge 55, 3) := by decide +kernel
theorem k223_77 : decode zm223.2.1 77 = .ok (.iload_n 2, 1) := by decide +kernel
theorem k223_78 : decode zm223.2.1 78 = .ok (.ireturn, 1) := by decide +kernel
theorem k223_25 : decode zm223.2.1 25 = .ok (.iload_n 2, 1) := by decide +kernel
theorem k223_26 : decode zm223.2.1 26 = .ok (.aload_n 0, 1) := by decide +kernel
theorem k223_27 : decode zm223.2.1 27 = .ok (.getfield 42, 3) := by decide +kernel
theorem k223_30 : decode zm223.2.1 30 = .ok (.iload 4, 2) := by decide +kernel
theorem k223_32 : decode zm223.2.1 32 = .ok (.iaload, 1) := by decide +kernel
theorem k223_33 : decode zm223.2.1 33 = .ok (.iconst (-1), 1) := by decide +kernel
theorem k223_34 : decode zm223.2.1 34 = .ok (.if_icmp .ne 7, 3) := by decide +kernel
theorem k223_41 : decode zm223.2.1 41 = .ok (.sipush 1000, 3) := by decide +kernel
theorem k223_44 : decode zm223.2.1 44 = .ok (.aload_n 0, 1) := by decide +kernel
theorem k223_45 : decode zm223.2.1 45 = .ok (.getfield 7, 3) := by decide +kernel
theorem k223_48 : decode zm223.2.1 48 = .ok (.bipush 17, 2) := by decide +kernel
theorem k223_50 : decode zm223.2.1 50 = .ok (.bipush 10, 2) := by decide +kernel
theorem k223_52 : decode zm223.2.1 52 = .ok (.iload_n 1, 1) := by decide +kernel
theorem k223_53 : decode zm223.2.1 53 = .ok (.imul, 1) := by decide +kernel
theorem k223_54 : decode zm223.2.1 54 = .ok (.iadd, 1) := by decide +kernel
theorem k223_55 : decode zm223.2.1 55 = .ok (.aload_n 0, 1) := by decide +kernel
theorem k223_56 : decode zm223.2.1 56 = .ok (.getfield 42, 3) := by decide +kernel
theorem k223_59 : decode zm223.2.1 59 = .ok (.iload 4, 2) := by decide +kernel
theorem k223_61 : decode zm223.2.1 61 = .ok (.iaload, 1) := by decide +kernel
theorem k223_62 : decode zm223.2.1 62 = .ok (.iadd, 1) := by decide +kernel
theorem k223_63 : decode zm223.2.1 63 = .ok (.iaload, 1) := by decide +kernel
theorem k223_64 : decode zm223.2.1 64 = .ok (.iconst 1, 1) := by decide +kernel
theorem k223_65 : decode zm223.2.1 65 = .ok (.iadd, 1) := by decide +kernel
theorem k223_66 : decode zm223.2.1 66 = .ok (.imul, 1) := by decide +kernel
theorem k223_67 : decode zm223.2.1 67 = .ok (.iload_n 3, 1) := by decide +kernel
theorem k223_68 : decode zm223.2.1 68 = .ok (.idiv, 1) := by decide +kernel
theorem k223_37 : decode zm223.2.1 37 = .ok (.iconst 0, 1) := by decide +kernel
theorem k223_38 : decode zm223.2.1 38 = .ok (.goto 31, 3) := by decide +kernel
theorem k223_0 : decode zm223.2.1 0 = .ok (.iconst 0, 1) := by decide +kernel
theorem k223_1 : decode zm223.2.1 1 = .ok (.istore_n 2, 1) := by decide +kernel
theorem k223_2 : decode zm223.2.1 2 = .ok (.aload_n 0, 1) := by decide +kernel
theorem k223_3 : decode zm223.2.1 3 = .ok (.iload_n 1, 1) := by decide +kernel
theorem k223_4 : decode zm223.2.1 4 = .ok (.invokevirtual 231, 3) := by decide +kernel
theorem k223_7 : decode zm223.2.1 7 = .ok (.aload_n 0, 1) := by decide +kernel
theorem k223_8 : decode zm223.2.1 8 = .ok (.getfield 149, 3) := by decide +kernel
theorem k223_11 : decode zm223.2.1 11 = .ok (.iadd, 1) := by decide +kernel
theorem k223_12 : decode zm223.2.1 12 = .ok (.istore_n 3, 1) := by decide +kernel
theorem k223_13 : decode zm223.2.1 13 = .ok (.iconst 0, 1) := by decide +kernel
theorem k223_14 : decode zm223.2.1 14 = .ok (.istore 4, 2) := by decide +kernel
theorem lk_10_313 : zmx 10 313 = some (227, 1) := by decide +kernel
theorem k229_30 : decode zm229.2.1 30 = .ok (.iadd, 1) := by decide +kernel
theorem k229_31 : decode zm229.2.1 31 = .ok (.istore_n 2, 1) := by decide +kernel
theorem k229_32 : decode zm229.2.1 32 = .ok (.iinc 3 1, 3) := by decide +kernel
theorem k229_35 : decode zm229.2.1 35 = .ok (.goto (-31), 3) := by decide +kernel
theorem k229_4 : decode zm229.2.1 4 = .ok (.iload_n 3, 1) := by decide +kernel
theorem k229_5 : decode zm229.2.1 5 = .ok (.aload_n 0, 1) := by decide +kernel
theorem k229_6 : decode zm229.2.1 6 = .ok (.getfield 155, 3) := by decide +kernel
theorem k229_9 : decode zm229.2.1 9 = .ok (.if_icmp .ge 29, 3) := by decide +kernel
theorem k229_38 : decode zm229.2.1 38 = .ok (.iload_n 2, 1) := by decide +kernel
theorem k229_39 : decode zm229.2.1 39 = .ok (.ireturn, 1) := by decide +kernel
theorem k229_12 : decode zm229.2.1 12 = .ok (.iload_n 2, 1) := by decide +kernel
theorem k229_13 : decode zm229.2.1 13 = .ok (.iload_n 1, 1) := by decide +kernel
theorem k229_14 : decode zm229.2.1 14 = .ok (.iload_n 3, 1) := by decide +kernel
theorem k229_15 : decode zm229.2.1 15 = .ok (.invokestatic 203, 3) := by decide +kernel
theorem k229_18 : decode zm229.2.1 18 = .ok (.ifCond .eq 11, 3) := by decide +kernel
theorem k229_29 : decode zm229.2.1 29 = .ok (.iconst 0, 1) := by decide +kernel
theorem k229_21 : decode zm229.2.1 21 = .ok (.aload_n 0, 1) := by decide +kernel
theorem k229_22 : decode zm229.2.1 22 = .ok (.iload_n 3, 1) := by decide +kernel
theorem k229_23 : decode zm229.2.1 23 = .ok (.invokevirtual 313, 3) := by decide +kernel
theorem k229_26 : decode zm229.2.1 26 = .ok (.goto 4, 3) := by decide +kernel
theorem k229_0 : decode zm229.2.1 0 = .ok (.iconst 0, 1) := by decide +kernel
theorem k229_1 : decode zm229.2.1 1 = .ok (.istore_n 2, 1) := by decide +kernel
theorem k229_2 : decode zm229.2.1 2 = .ok (.iconst 0, 1) := by decide +kernel
theorem k229_3 : decode zm229.2.1 3 = .ok (.istore_n 3, 1) := by decide +kernel
theorem s16_255 : (Int16.ofInt 255).toInt32 = 255 := by decide
theorem lk_0_72 : zmx 0 72 = some (13, 1) := by decide +kernel
theorem k11_0 : decode zm11.2.1 0 = .ok (.iload_n 1, 1) := by decide +kernel
theorem k11_1 : decode zm11.2.1 1 = .ok (.iconst 0, 1) := by decide +kernel
theorem k11_2 : decode zm11.2.1 2 = .ok (.sipush 255, 3) := by decide +kernel
theorem k11_5 : decode zm11.2.1 5 = .ok (.invokestatic 68, 3) := by decide +kernel
theorem k11_8 : decode zm11.2.1 8 = .ok (.ifCond .ne 6, 3) := by decide +kernel
theorem k11_14 : decode zm11.2.1 14 = .ok (.aload_n 0, 1) := by decide +kernel
theorem k11_15 : decode zm11.2.1 15 = .ok (.getfield 10, 3) := by decide +kernel
theorem k11_18 : decode zm11.2.1 18 = .ok (.iload_n 1, 1) := by decide +kernel
theorem k11_19 : decode zm11.2.1 19 = .ok (.invokevirtual 72, 3) := by decide +kernel
theorem k11_22 : decode zm11.2.1 22 = .ok (.ifCond .eq 13, 3) := by decide +kernel
theorem k11_35 : decode zm11.2.1 35 = .ok (.bipush (-5), 2) := by decide +kernel
theorem k11_37 : decode zm11.2.1 37 = .ok (.ireturn, 1) := by decide +kernel
theorem k11_25 : decode zm11.2.1 25 = .ok (.aload_n 0, 1) := by decide +kernel
theorem k11_26 : decode zm11.2.1 26 = .ok (.getfield 10, 3) := by decide +kernel
theorem k11_29 : decode zm11.2.1 29 = .ok (.getfield 76, 3) := by decide +kernel
theorem k11_32 : decode zm11.2.1 32 = .ok (.goto 5, 3) := by decide +kernel
theorem k11_11 : decode zm11.2.1 11 = .ok (.bipush (-3), 2) := by decide +kernel
theorem k11_13 : decode zm11.2.1 13 = .ok (.ireturn, 1) := by decide +kernel
theorem fk_1_28 : zfx 1 28 = some (1, 4) := by decide +kernel
theorem fk_1_41 : zfx 1 41 = some (1, 3) := by decide +kernel
theorem pi_1_3 : zdes 1 3 = "I" ∧ zfin 1 3 = false := by decide +kernel
theorem lk_1_44 : zmx 1 44 = some (21, 1) := by decide +kernel
theorem pi_1_4 : zdes 1 4 = "I" ∧ zfin 1 4 = false := by decide +kernel
theorem lk_1_91 : zmx 1 91 = some (22, 0) := by decide +kernel
theorem k20_93 : decode zm20.2.1 93 = .ok (.iload_n 1, 1) := by decide +kernel
theorem k20_94 : decode zm20.2.1 94 = .ok (.ifCond .eq 45, 3) := by decide +kernel
theorem k20_139 : decode zm20.2.1 139 = .ok (.return_, 1) := by decide +kernel
theorem k20_97 : decode zm20.2.1 97 = .ok (.aload_n 0, 1) := by decide +kernel
theorem k20_98 : decode zm20.2.1 98 = .ok (.getfield 28, 3) := by decide +kernel
theorem k20_101 : decode zm20.2.1 101 = .ok (.aload_n 0, 1) := by decide +kernel
theorem k20_102 : decode zm20.2.1 102 = .ok (.getfield 20, 3) := by decide +kernel
theorem k20_105 : decode zm20.2.1 105 = .ok (.if_icmp .ge 34, 3) := by decide +kernel
theorem k20_108 : decode zm20.2.1 108 = .ok (.aload_n 0, 1) := by decide +kernel
theorem k20_109 : decode zm20.2.1 109 = .ok (.getfield 14, 3) := by decide +kernel
theorem k20_112 : decode zm20.2.1 112 = .ok (.aload_n 0, 1) := by decide +kernel
theorem k20_113 : decode zm20.2.1 113 = .ok (.getfield 28, 3) := by decide +kernel
theorem k20_116 : decode zm20.2.1 116 = .ok (.invokevirtual 44, 3) := by decide +kernel
theorem k20_119 : decode zm20.2.1 119 = .ok (.invokestatic 91, 3) := by decide +kernel
theorem k20_122 : decode zm20.2.1 122 = .ok (.iload_n 1, 1) := by decide +kernel
theorem k20_123 : decode zm20.2.1 123 = .ok (.if_icmp .ne 16, 3) := by decide +kernel
theorem k20_126 : decode zm20.2.1 126 = .ok (.aload_n 0, 1) := by decide +kernel
theorem k20_127 : decode zm20.2.1 127 = .ok (.dup, 1) := by decide +kernel
theorem k20_128 : decode zm20.2.1 128 = .ok (.getfield 28, 3) := by decide +kernel
theorem k20_131 : decode zm20.2.1 131 = .ok (.iconst 1, 1) := by decide +kernel
theorem k20_132 : decode zm20.2.1 132 = .ok (.iadd, 1) := by decide +kernel
theorem k20_133 : decode zm20.2.1 133 = .ok (.putfield 28, 3) := by decide +kernel
theorem k20_136 : decode zm20.2.1 136 = .ok (.goto (-43), 3) := by decide +kernel
theorem k20_48 : decode zm20.2.1 48 = .ok (.aload_n 0, 1) := by decide +kernel
theorem k20_49 : decode zm20.2.1 49 = .ok (.aload_n 0, 1) := by decide +kernel
theorem k20_50 : decode zm20.2.1 50 = .ok (.getfield 41, 3) := by decide +kernel
theorem k20_53 : decode zm20.2.1 53 = .ok (.putfield 28, 3) := by decide +kernel
theorem k20_56 : decode zm20.2.1 56 = .ok (.aload_n 0, 1) := by decide +kernel
theorem k20_57 : decode zm20.2.1 57 = .ok (.getfield 41, 3) := by decide +kernel
theorem k20_60 : decode zm20.2.1 60 = .ok (.aload_n 0, 1) := by decide +kernel
theorem k20_61 : decode zm20.2.1 61 = .ok (.getfield 20, 3) := by decide +kernel
theorem k20_64 : decode zm20.2.1 64 = .ok (.if_icmp .lt 4, 3) := by decide +kernel
theorem k20_68 : decode zm20.2.1 68 = .ok (.aload_n 0, 1) := by decide +kernel
theorem k20_69 : decode zm20.2.1 69 = .ok (.getfield 14, 3) := by decide +kernel
theorem k20_72 : decode zm20.2.1 72 = .ok (.aload_n 0, 1) := by decide +kernel
theorem k20_73 : decode zm20.2.1 73 = .ok (.getfield 41, 3) := by decide +kernel
theorem k20_76 : decode zm20.2.1 76 = .ok (.invokevirtual 44, 3) := by decide +kernel
theorem k20_79 : decode zm20.2.1 79 = .ok (.invokestatic 91, 3) := by decide +kernel
theorem k20_82 : decode zm20.2.1 82 = .ok (.istore_n 1, 1) := by decide +kernel
theorem k20_83 : decode zm20.2.1 83 = .ok (.aload_n 0, 1) := by decide +kernel
theorem k20_84 : decode zm20.2.1 84 = .ok (.dup, 1) := by decide +kernel
theorem k20_85 : decode zm20.2.1 85 = .ok (.getfield 28, 3) := by decide +kernel
theorem k20_88 : decode zm20.2.1 88 = .ok (.iconst 1, 1) := by decide +kernel
theorem k20_89 : decode zm20.2.1 89 = .ok (.iadd, 1) := by decide +kernel
theorem k20_90 : decode zm20.2.1 90 = .ok (.putfield 28, 3) := by decide +kernel
theorem k20_67 : decode zm20.2.1 67 = .ok (.return_, 1) := by decide +kernel
theorem k20_8 : decode zm20.2.1 8 = .ok (.aload_n 0, 1) := by decide +kernel
theorem k20_9 : decode zm20.2.1 9 = .ok (.getfield 41, 3) := by decide +kernel
theorem k20_12 : decode zm20.2.1 12 = .ok (.aload_n 0, 1) := by decide +kernel
theorem k20_13 : decode zm20.2.1 13 = .ok (.getfield 20, 3) := by decide +kernel
theorem k20_16 : decode zm20.2.1 16 = .ok (.if_icmp .ge 32, 3) := by decide +kernel
theorem k20_19 : decode zm20.2.1 19 = .ok (.aload_n 0, 1) := by decide +kernel
theorem k20_20 : decode zm20.2.1 20 = .ok (.getfield 14, 3) := by decide +kernel
theorem k20_23 : decode zm20.2.1 23 = .ok (.aload_n 0, 1) := by decide +kernel
theorem k20_24 : decode zm20.2.1 24 = .ok (.getfield 41, 3) := by decide +kernel
theorem k20_27 : decode zm20.2.1 27 = .ok (.invokevirtual 44, 3) := by decide +kernel
theorem k20_30 : decode zm20.2.1 30 = .ok (.bipush 32, 2) := by decide +kernel
theorem k20_32 : decode zm20.2.1 32 = .ok (.if_icmp .ne 16, 3) := by decide +kernel
theorem k20_35 : decode zm20.2.1 35 = .ok (.aload_n 0, 1) := by decide +kernel
theorem k20_36 : decode zm20.2.1 36 = .ok (.dup, 1) := by decide +kernel
theorem k20_37 : decode zm20.2.1 37 = .ok (.getfield 41, 3) := by decide +kernel
theorem k20_40 : decode zm20.2.1 40 = .ok (.iconst 1, 1) := by decide +kernel
theorem k20_41 : decode zm20.2.1 41 = .ok (.iadd, 1) := by decide +kernel
theorem k20_42 : decode zm20.2.1 42 = .ok (.putfield 41, 3) := by decide +kernel
theorem k20_45 : decode zm20.2.1 45 = .ok (.goto (-37), 3) := by decide +kernel
theorem k20_0 : decode zm20.2.1 0 = .ok (.aload_n 0, 1) := by decide +kernel
theorem k20_1 : decode zm20.2.1 1 = .ok (.aload_n 0, 1) := by decide +kernel
theorem k20_2 : decode zm20.2.1 2 = .ok (.getfield 28, 3) := by decide +kernel
theorem k20_5 : decode zm20.2.1 5 = .ok (.putfield 41, 3) := by decide +kernel
theorem k38_82 : decode zm38.2.1 82 = .ok (.iload_n 3, 1) := by decide +kernel
theorem k38_83 : decode zm38.2.1 83 = .ok (.iload_n 1, 1) := by decide +kernel
theorem k38_84 : decode zm38.2.1 84 = .ok (.if_icmp .gt 7, 3) := by decide +kernel
theorem k38_91 : decode zm38.2.1 91 = .ok (.iconst (-1), 1) := by decide +kernel
theorem k38_92 : decode zm38.2.1 92 = .ok (.ireturn, 1) := by decide +kernel
theorem k38_87 : decode zm38.2.1 87 = .ok (.iload_n 3, 1) := by decide +kernel
theorem k38_88 : decode zm38.2.1 88 = .ok (.goto 4, 3) := by decide +kernel
theorem k38_0 : decode zm38.2.1 0 = .ok (.aload_n 0, 1) := by decide +kernel
theorem k38_1 : decode zm38.2.1 1 = .ok (.getfield 28, 3) := by decide +kernel
theorem k38_4 : decode zm38.2.1 4 = .ok (.aload_n 0, 1) := by decide +kernel
theorem k38_5 : decode zm38.2.1 5 = .ok (.getfield 41, 3) := by decide +kernel
theorem k38_8 : decode zm38.2.1 8 = .ok (.isub, 1) := by decide +kernel
theorem k38_9 : decode zm38.2.1 9 = .ok (.istore_n 2, 1) := by decide +kernel
theorem k38_10 : decode zm38.2.1 10 = .ok (.iload_n 2, 1) := by decide +kernel
theorem k38_11 : decode zm38.2.1 11 = .ok (.iconst 1, 1) := by decide +kernel
theorem k38_12 : decode zm38.2.1 12 = .ok (.if_icmp .lt 26, 3) := by decide +kernel
theorem k38_38 : decode zm38.2.1 38 = .ok (.iconst (-1), 1) := by decide +kernel
theorem k38_39 : decode zm38.2.1 39 = .ok (.ireturn, 1) := by decide +kernel
theorem k38_15 : decode zm38.2.1 15 = .ok (.iload_n 2, 1) := by decide +kernel
theorem k38_16 : decode zm38.2.1 16 = .ok (.iconst 2, 1) := by decide +kernel
theorem k38_17 : decode zm38.2.1 17 = .ok (.if_icmp .gt 21, 3) := by decide +kernel
theorem k38_20 : decode zm38.2.1 20 = .ok (.aload_n 0, 1) := by decide +kernel
theorem k38_21 : decode zm38.2.1 21 = .ok (.getfield 14, 3) := by decide +kernel
theorem k38_24 : decode zm38.2.1 24 = .ok (.aload_n 0, 1) := by decide +kernel
theorem k38_25 : decode zm38.2.1 25 = .ok (.getfield 41, 3) := by decide +kernel
theorem k38_28 : decode zm38.2.1 28 = .ok (.invokevirtual 44, 3) := by decide +kernel
theorem k38_31 : decode zm38.2.1 31 = .ok (.invokestatic 91, 3) := by decide +kernel
theorem k38_34 : decode zm38.2.1 34 = .ok (.iconst 2, 1) := by decide +kernel
theorem k38_35 : decode zm38.2.1 35 = .ok (.if_icmp .eq 5, 3) := by decide +kernel
theorem k38_40 : decode zm38.2.1 40 = .ok (.aload_n 0, 1) := by decide +kernel
theorem k38_41 : decode zm38.2.1 41 = .ok (.getfield 14, 3) := by decide +kernel
theorem k38_44 : decode zm38.2.1 44 = .ok (.aload_n 0, 1) := by decide +kernel
theorem k38_45 : decode zm38.2.1 45 = .ok (.getfield 41, 3) := by decide +kernel
theorem k38_48 : decode zm38.2.1 48 = .ok (.invokevirtual 44, 3) := by decide +kernel
theorem k38_51 : decode zm38.2.1 51 = .ok (.bipush 48, 2) := by decide +kernel
theorem k38_53 : decode zm38.2.1 53 = .ok (.isub, 1) := by decide +kernel
theorem k38_54 : decode zm38.2.1 54 = .ok (.istore_n 3, 1) := by decide +kernel
theorem k38_55 : decode zm38.2.1 55 = .ok (.iload_n 2, 1) := by decide +kernel
theorem k38_56 : decode zm38.2.1 56 = .ok (.iconst 2, 1) := by decide +kernel
theorem k38_57 : decode zm38.2.1 57 = .ok (.if_icmp .ne 25, 3) := by decide +kernel
theorem k38_60 : decode zm38.2.1 60 = .ok (.bipush 10, 2) := by decide +kernel
theorem k38_62 : decode zm38.2.1 62 = .ok (.iload_n 3, 1) := by decide +kernel
theorem k38_63 : decode zm38.2.1 63 = .ok (.imul, 1) := by decide +kernel
theorem k38_64 : decode zm38.2.1 64 = .ok (.aload_n 0, 1) := by decide +kernel
theorem k38_65 : decode zm38.2.1 65 = .ok (.getfield 14, 3) := by decide +kernel
theorem k38_68 : decode zm38.2.1 68 = .ok (.aload_n 0, 1) := by decide +kernel
theorem k38_69 : decode zm38.2.1 69 = .ok (.getfield 41, 3) := by decide +kernel
theorem k38_72 : decode zm38.2.1 72 = .ok (.iconst 1, 1) := by decide +kernel
theorem k38_73 : decode zm38.2.1 73 = .ok (.iadd, 1) := by decide +kernel
theorem k38_74 : decode zm38.2.1 74 = .ok (.invokevirtual 44, 3) := by decide +kernel
theorem k38_77 : decode zm38.2.1 77 = .ok (.iadd, 1) := by decide +kernel
theorem k38_78 : decode zm38.2.1 78 = .ok (.bipush 48, 2) := by decide +kernel
theorem k38_80 : decode zm38.2.1 80 = .ok (.isub, 1) := by decide +kernel
theorem k38_81 : decode zm38.2.1 81 = .ok (.istore_n 3, 1) := by decide +kernel
theorem lk_4_65 : zmx 4 65 = some (51, 1) := by decide +kernel
theorem k50_4 : decode zm50.2.1 4 = .ok (.iload_n 3, 1) := by decide +kernel
theorem k50_5 : decode zm50.2.1 5 = .ok (.iconst 4, 1) := by decide +kernel
theorem k50_6 : decode zm50.2.1 6 = .ok (.if_icmp .ge 18, 3) := by decide +kernel
theorem k50_24 : decode zm50.2.1 24 = .ok (.iload_n 2, 1) := by decide +kernel
theorem k50_25 : decode zm50.2.1 25 = .ok (.ireturn, 1) := by decide +kernel
theorem k50_9 : decode zm50.2.1 9 = .ok (.iload_n 2, 1) := by decide +kernel
theorem k50_10 : decode zm50.2.1 10 = .ok (.aload_n 0, 1) := by decide +kernel
theorem k50_11 : decode zm50.2.1 11 = .ok (.iload_n 3, 1) := by decide +kernel
theorem k50_12 : decode zm50.2.1 12 = .ok (.iload_n 1, 1) := by decide +kernel
theorem k50_13 : decode zm50.2.1 13 = .ok (.invokevirtual 65, 3) := by decide +kernel
theorem k50_16 : decode zm50.2.1 16 = .ok (.iadd, 1) := by decide +kernel
theorem k50_17 : decode zm50.2.1 17 = .ok (.istore_n 2, 1) := by decide +kernel
theorem k50_18 : decode zm50.2.1 18 = .ok (.iinc 3 1, 3) := by decide +kernel
theorem k50_21 : decode zm50.2.1 21 = .ok (.goto (-17), 3) := by decide +kernel
theorem k50_0 : decode zm50.2.1 0 = .ok (.iconst 0, 1) := by decide +kernel
theorem k50_1 : decode zm50.2.1 1 = .ok (.istore_n 2, 1) := by decide +kernel
theorem k50_2 : decode zm50.2.1 2 = .ok (.iconst 0, 1) := by decide +kernel
theorem k50_3 : decode zm50.2.1 3 = .ok (.istore_n 3, 1) := by decide +kernel
theorem k55_4 : decode zm55.2.1 4 = .ok (.iload_n 3, 1) := by decide +kernel
theorem k55_5 : decode zm55.2.1 5 = .ok (.bipush 10, 2) := by decide +kernel
theorem k55_7 : decode zm55.2.1 7 = .ok (.if_icmp .ge 18, 3) := by decide +kernel
theorem k55_25 : decode zm55.2.1 25 = .ok (.iload_n 2, 1) := by decide +kernel
theorem k55_26 : decode zm55.2.1 26 = .ok (.ireturn, 1) := by decide +kernel
theorem k55_10 : decode zm55.2.1 10 = .ok (.iload_n 2, 1) := by decide +kernel
theorem k55_11 : decode zm55.2.1 11 = .ok (.aload_n 0, 1) := by decide +kernel
theorem k55_12 : decode zm55.2.1 12 = .ok (.iload_n 1, 1) := by decide +kernel
theorem k55_13 : decode zm55.2.1 13 = .ok (.iload_n 3, 1) := by decide +kernel
theorem k55_14 : decode zm55.2.1 14 = .ok (.invokevirtual 65, 3) := by decide +kernel
theorem k55_17 : decode zm55.2.1 17 = .ok (.iadd, 1) := by decide +kernel
theorem k55_18 : decode zm55.2.1 18 = .ok (.istore_n 2, 1) := by decide +kernel
theorem k55_19 : decode zm55.2.1 19 = .ok (.iinc 3 1, 3) := by decide +kernel
theorem k55_22 : decode zm55.2.1 22 = .ok (.goto (-18), 3) := by decide +kernel
theorem k55_0 : decode zm55.2.1 0 = .ok (.iconst 0, 1) := by decide +kernel
theorem k55_1 : decode zm55.2.1 1 = .ok (.istore_n 2, 1) := by decide +kernel
theorem k55_2 : decode zm55.2.1 2 = .ok (.iconst 0, 1) := by decide +kernel
theorem k55_3 : decode zm55.2.1 3 = .ok (.istore_n 3, 1) := by decide +kernel
theorem fk_7_20 : zfx 7 20 = some (3, 4) := by decide +kernel
theorem pi_7_1 : zdes 7 1 = "I" ∧ zfin 7 1 = false := by decide +kernel
theorem fk_7_27 : zfx 7 27 = some (3, 0) := by decide +kernel
theorem fk_7_14 : zfx 7 14 = some (7, 0) := by decide +kernel
theorem lk_7_30 : zmx 7 30 = some (49, 1) := by decide +kernel
theorem lk_7_34 : zmx 7 34 = some (14, 1) := by decide +kernel
theorem rw184 : zRow 184 := ⟨by decide +kernel, zArr_of (by decide +kernel)⟩
theorem k59_10 : decode zm59.2.1 10 = .ok (.iload_n 3, 1) := by decide +kernel
theorem k59_11 : decode zm59.2.1 11 = .ok (.aload_n 1, 1) := by decide +kernel
theorem k59_12 : decode zm59.2.1 12 = .ok (.getfield 27, 3) := by decide +kernel
theorem k59_15 : decode zm59.2.1 15 = .ok (.if_icmp .ge 23, 3) := by decide +kernel
theorem k59_38 : decode zm59.2.1 38 = .ok (.return_, 1) := by decide +kernel
theorem k59_18 : decode zm59.2.1 18 = .ok (.aload_n 0, 1) := by decide +kernel
theorem k59_19 : decode zm59.2.1 19 = .ok (.getfield 14, 3) := by decide +kernel
theorem k59_22 : decode zm59.2.1 22 = .ok (.iload_n 3, 1) := by decide +kernel
theorem k59_23 : decode zm59.2.1 23 = .ok (.aload_n 1, 1) := by decide +kernel
theorem k59_24 : decode zm59.2.1 24 = .ok (.iload_n 3, 1) := by decide +kernel
theorem k59_25 : decode zm59.2.1 25 = .ok (.iload_n 2, 1) := by decide +kernel
theorem k59_26 : decode zm59.2.1 26 = .ok (.invokevirtual 30, 3) := by decide +kernel
theorem k59_29 : decode zm59.2.1 29 = .ok (.invokevirtual 34, 3) := by decide +kernel
theorem sh184 : zsh 184 = some (2, [some 185]) := by decide +kernel
theorem k59_32 : decode zm59.2.1 32 = .ok (.iinc 3 1, 3) := by decide +kernel
theorem k59_35 : decode zm59.2.1 35 = .ok (.goto (-25), 3) := by decide +kernel
theorem k59_0 : decode zm59.2.1 0 = .ok (.aload_n 0, 1) := by decide +kernel
theorem k59_1 : decode zm59.2.1 1 = .ok (.aload_n 1, 1) := by decide +kernel
theorem k59_2 : decode zm59.2.1 2 = .ok (.getfield 20, 3) := by decide +kernel
theorem k59_5 : decode zm59.2.1 5 = .ok (.putfield 26, 3) := by decide +kernel
theorem k59_8 : decode zm59.2.1 8 = .ok (.iconst 0, 1) := by decide +kernel
theorem k59_9 : decode zm59.2.1 9 = .ok (.istore_n 3, 1) := by decide +kernel
theorem lk_7_38 : zmx 7 38 = some (62, 1) := by decide +kernel
theorem lk_7_44 : zmx 7 44 = some (21, 1) := by decide +kernel
theorem k61_0 : decode zm61.2.1 0 = .ok (.aload_n 1, 1) := by decide +kernel
theorem k61_1 : decode zm61.2.1 1 = .ok (.iload_n 2, 1) := by decide +kernel
theorem k61_2 : decode zm61.2.1 2 = .ok (.invokevirtual 38, 3) := by decide +kernel
theorem k61_5 : decode zm61.2.1 5 = .ok (.istore_n 3, 1) := by decide +kernel
theorem k61_6 : decode zm61.2.1 6 = .ok (.iload_n 3, 1) := by decide +kernel
theorem k61_7 : decode zm61.2.1 7 = .ok (.iconst (-1), 1) := by decide +kernel
theorem k61_8 : decode zm61.2.1 8 = .ok (.if_icmp .ne 7, 3) := by decide +kernel
theorem k61_15 : decode zm61.2.1 15 = .ok (.aload_n 0, 1) := by decide +kernel
theorem k61_16 : decode zm61.2.1 16 = .ok (.getfield 14, 3) := by decide +kernel
theorem k61_19 : decode zm61.2.1 19 = .ok (.iload_n 3, 1) := by decide +kernel
theorem k61_20 : decode zm61.2.1 20 = .ok (.invokevirtual 44, 3) := by decide +kernel
theorem k61_23 : decode zm61.2.1 23 = .ok (.ireturn, 1) := by decide +kernel
theorem k61_11 : decode zm61.2.1 11 = .ok (.iconst (-1), 1) := by decide +kernel
theorem k61_12 : decode zm61.2.1 12 = .ok (.goto 11, 3) := by decide +kernel
theorem lk_0_108 : zmx 0 108 = some (48, 1) := by decide +kernel
theorem lk_0_163 : zmx 0 163 = some (69, 1) := by decide +kernel
theorem li180 : zLine 180 := ⟨by decide +kernel, by decide +kernel, zArr_of (by decide +kernel)⟩
theorem k68_16 : decode zm68.2.1 16 = .ok (.aload_n 0, 1) := by decide +kernel
theorem k68_17 : decode zm68.2.1 17 = .ok (.getfield 43, 3) := by decide +kernel
theorem k68_20 : decode zm68.2.1 20 = .ok (.iload_n 1, 1) := by decide +kernel
theorem k68_21 : decode zm68.2.1 21 = .ok (.invokevirtual 163, 3) := by decide +kernel
theorem k68_24 : decode zm68.2.1 24 = .ok (.ifCond .eq 13, 3) := by decide +kernel
theorem k68_37 : decode zm68.2.1 37 = .ok (.bipush (-5), 2) := by decide +kernel
theorem k68_39 : decode zm68.2.1 39 = .ok (.ireturn, 1) := by decide +kernel
theorem k68_27 : decode zm68.2.1 27 = .ok (.aload_n 0, 1) := by decide +kernel
theorem k68_28 : decode zm68.2.1 28 = .ok (.getfield 43, 3) := by decide +kernel
theorem k68_31 : decode zm68.2.1 31 = .ok (.getfield 101, 3) := by decide +kernel
theorem k68_34 : decode zm68.2.1 34 = .ok (.goto 5, 3) := by decide +kernel
theorem k68_0 : decode zm68.2.1 0 = .ok (.iload_n 1, 1) := by decide +kernel
theorem k68_1 : decode zm68.2.1 1 = .ok (.iconst (-1), 1) := by decide +kernel
theorem k68_2 : decode zm68.2.1 2 = .ok (.if_icmp .eq 14, 3) := by decide +kernel
theorem k68_5 : decode zm68.2.1 5 = .ok (.aload_n 0, 1) := by decide +kernel
theorem k68_6 : decode zm68.2.1 6 = .ok (.iload_n 1, 1) := by decide +kernel
theorem k68_7 : decode zm68.2.1 7 = .ok (.invokevirtual 108, 3) := by decide +kernel
theorem k68_10 : decode zm68.2.1 10 = .ok (.ifCond .ne 6, 3) := by decide +kernel
theorem k68_13 : decode zm68.2.1 13 = .ok (.bipush (-2), 2) := by decide +kernel
theorem k68_15 : decode zm68.2.1 15 = .ok (.ireturn, 1) := by decide +kernel
theorem lk_0_164 : zmx 0 164 = some (62, 1) := by decide +kernel
theorem k71_0 : decode zm71.2.1 0 = .ok (.iload_n 1, 1) := by decide +kernel
theorem k71_1 : decode zm71.2.1 1 = .ok (.iconst 0, 1) := by decide +kernel
theorem k71_2 : decode zm71.2.1 2 = .ok (.aload_n 0, 1) := by decide +kernel
theorem k71_3 : decode zm71.2.1 3 = .ok (.getfield 43, 3) := by decide +kernel
theorem k71_6 : decode zm71.2.1 6 = .ok (.getfield 101, 3) := by decide +kernel
theorem k71_9 : decode zm71.2.1 9 = .ok (.iconst 1, 1) := by decide +kernel
theorem k71_10 : decode zm71.2.1 10 = .ok (.isub, 1) := by decide +kernel
theorem k71_11 : decode zm71.2.1 11 = .ok (.invokestatic 68, 3) := by decide +kernel
theorem k71_14 : decode zm71.2.1 14 = .ok (.ifCond .eq 14, 3) := by decide +kernel
theorem k71_28 : decode zm71.2.1 28 = .ok (.bipush (-3), 2) := by decide +kernel
theorem k71_30 : decode zm71.2.1 30 = .ok (.ireturn, 1) := by decide +kernel
theorem k71_17 : decode zm71.2.1 17 = .ok (.aload_n 0, 1) := by decide +kernel
theorem k71_18 : decode zm71.2.1 18 = .ok (.getfield 43, 3) := by decide +kernel
theorem k71_21 : decode zm71.2.1 21 = .ok (.iload_n 1, 1) := by decide +kernel
theorem k71_22 : decode zm71.2.1 22 = .ok (.invokevirtual 164, 3) := by decide +kernel
theorem k71_25 : decode zm71.2.1 25 = .ok (.goto 5, 3) := by decide +kernel
theorem lk_6_36 : zmx 6 36 = some (77, 1) := by decide +kernel
theorem k76_0 : decode zm76.2.1 0 = .ok (.aload_n 0, 1) := by decide +kernel
theorem k76_1 : decode zm76.2.1 1 = .ok (.getfield 20, 3) := by decide +kernel
theorem k76_4 : decode zm76.2.1 4 = .ok (.ifCond .le 14, 3) := by decide +kernel
theorem k76_18 : decode zm76.2.1 18 = .ok (.iconst 0, 1) := by decide +kernel
theorem k76_19 : decode zm76.2.1 19 = .ok (.ireturn, 1) := by decide +kernel
theorem k76_7 : decode zm76.2.1 7 = .ok (.aload_n 0, 1) := by decide +kernel
theorem k76_8 : decode zm76.2.1 8 = .ok (.invokevirtual 36, 3) := by decide +kernel
theorem k76_11 : decode zm76.2.1 11 = .ok (.ifCond .ne 7, 3) := by decide +kernel
theorem k76_14 : decode zm76.2.1 14 = .ok (.iconst 1, 1) := by decide +kernel
theorem k76_15 : decode zm76.2.1 15 = .ok (.goto 4, 3) := by decide +kernel
theorem fk_5_28 : zfx 5 28 = some (5, 2) := by decide +kernel
theorem pi_5_2 : zdes 5 2 = "I" ∧ zfin 5 2 = false := by decide +kernel
theorem fk_5_11 : zfx 5 11 = some (5, 0) := by decide +kernel
theorem lk_5_31 : zmx 5 31 = some (79, 0) := by decide +kernel
theorem lk_5_35 : zmx 5 35 = some (80, 1) := by decide +kernel
theorem lk_5_39 : zmx 5 39 = some (1002, 0) := by decide +kernel
theorem k78_46 : decode zm78.2.1 46 = .ok (.aload_n 0, 1) := by decide +kernel
theorem k78_47 : decode zm78.2.1 47 = .ok (.bipush 8, 2) := by decide +kernel
theorem k78_49 : decode zm78.2.1 49 = .ok (.aload_n 0, 1) := by decide +kernel
theorem k78_50 : decode zm78.2.1 50 = .ok (.getfield 21, 3) := by decide +kernel
theorem k78_53 : decode zm78.2.1 53 = .ok (.iconst 1, 1) := by decide +kernel
theorem k78_54 : decode zm78.2.1 54 = .ok (.iadd, 1) := by decide +kernel
theorem k78_55 : decode zm78.2.1 55 = .ok (.invokestatic 39, 3) := by decide +kernel
theorem k78_58 : decode zm78.2.1 58 = .ok (.putfield 21, 3) := by decide +kernel
theorem k78_61 : decode zm78.2.1 61 = .ok (.return_, 1) := by decide +kernel
theorem k78_22 : decode zm78.2.1 22 = .ok (.putfield 28, 3) := by decide +kernel
theorem k78_25 : decode zm78.2.1 25 = .ok (.aload_n 0, 1) := by decide +kernel
theorem k78_26 : decode zm78.2.1 26 = .ok (.getfield 11, 3) := by decide +kernel
theorem k78_29 : decode zm78.2.1 29 = .ok (.aload_n 0, 1) := by decide +kernel
theorem k78_30 : decode zm78.2.1 30 = .ok (.getfield 28, 3) := by decide +kernel
theorem k78_33 : decode zm78.2.1 33 = .ok (.invokestatic 31, 3) := by decide +kernel
theorem k78_36 : decode zm78.2.1 36 = .ok (.astore_n 2, 1) := by decide +kernel
theorem k78_37 : decode zm78.2.1 37 = .ok (.aload_n 2, 1) := by decide +kernel
theorem k78_38 : decode zm78.2.1 38 = .ok (.ifnull 8, 3) := by decide +kernel
theorem k78_41 : decode zm78.2.1 41 = .ok (.aload_n 2, 1) := by decide +kernel
theorem k78_42 : decode zm78.2.1 42 = .ok (.aload_n 1, 1) := by decide +kernel
theorem k78_43 : decode zm78.2.1 43 = .ok (.invokevirtual 35, 3) := by decide +kernel
theorem k78_0 : decode zm78.2.1 0 = .ok (.aload_n 0, 1) := by decide +kernel
theorem k78_1 : decode zm78.2.1 1 = .ok (.aload_n 0, 1) := by decide +kernel
theorem k78_2 : decode zm78.2.1 2 = .ok (.getfield 28, 3) := by decide +kernel
theorem k78_5 : decode zm78.2.1 5 = .ok (.iconst 1, 1) := by decide +kernel
theorem k78_6 : decode zm78.2.1 6 = .ok (.iadd, 1) := by decide +kernel
theorem k78_7 : decode zm78.2.1 7 = .ok (.bipush 8, 2) := by decide +kernel
theorem k78_9 : decode zm78.2.1 9 = .ok (.if_icmp .ge 12, 3) := by decide +kernel
theorem k78_21 : decode zm78.2.1 21 = .ok (.iconst 0, 1) := by decide +kernel
theorem k78_12 : decode zm78.2.1 12 = .ok (.aload_n 0, 1) := by decide +kernel
theorem k78_13 : decode zm78.2.1 13 = .ok (.getfield 28, 3) := by decide +kernel
theorem k78_16 : decode zm78.2.1 16 = .ok (.iconst 1, 1) := by decide +kernel
theorem k78_17 : decode zm78.2.1 17 = .ok (.iadd, 1) := by decide +kernel
theorem k78_18 : decode zm78.2.1 18 = .ok (.goto 4, 3) := by decide +kernel
theorem fk_3_73 : zfx 3 73 = some (6, 1) := by decide +kernel
theorem lk_3_78 : zmx 3 78 = some (62, 1) := by decide +kernel
theorem k83_39 : decode zm83.2.1 39 = .ok (.iadd, 1) := by decide +kernel
theorem k83_40 : decode zm83.2.1 40 = .ok (.istore_n 2, 1) := by decide +kernel
theorem k83_41 : decode zm83.2.1 41 = .ok (.iinc 3 1, 3) := by decide +kernel
theorem k83_44 : decode zm83.2.1 44 = .ok (.goto (-40), 3) := by decide +kernel
theorem k83_4 : decode zm83.2.1 4 = .ok (.iload_n 3, 1) := by decide +kernel
theorem k83_5 : decode zm83.2.1 5 = .ok (.aload_n 1, 1) := by decide +kernel
theorem k83_6 : decode zm83.2.1 6 = .ok (.getfield 73, 3) := by decide +kernel
theorem k83_9 : decode zm83.2.1 9 = .ok (.if_icmp .ge 38, 3) := by decide +kernel
theorem k83_47 : decode zm83.2.1 47 = .ok (.iload_n 2, 1) := by decide +kernel
theorem k83_48 : decode zm83.2.1 48 = .ok (.ireturn, 1) := by decide +kernel
theorem k83_12 : decode zm83.2.1 12 = .ok (.aload_n 1, 1) := by decide +kernel
theorem k83_13 : decode zm83.2.1 13 = .ok (.iload_n 3, 1) := by decide +kernel
theorem k83_14 : decode zm83.2.1 14 = .ok (.invokevirtual 78, 3) := by decide +kernel
theorem k83_17 : decode zm83.2.1 17 = .ok (.istore 4, 2) := by decide +kernel
theorem k83_19 : decode zm83.2.1 19 = .ok (.iload_n 2, 1) := by decide +kernel
theorem k83_20 : decode zm83.2.1 20 = .ok (.iload 4, 2) := by decide +kernel
theorem k83_22 : decode zm83.2.1 22 = .ok (.iconst (-1), 1) := by decide +kernel
theorem k83_23 : decode zm83.2.1 23 = .ok (.if_icmp .ne 7, 3) := by decide +kernel
theorem k83_30 : decode zm83.2.1 30 = .ok (.aload_n 0, 1) := by decide +kernel
theorem k83_31 : decode zm83.2.1 31 = .ok (.getfield 24, 3) := by decide +kernel
theorem k83_34 : decode zm83.2.1 34 = .ok (.iload 4, 2) := by decide +kernel
theorem k83_36 : decode zm83.2.1 36 = .ok (.invokevirtual 69, 3) := by decide +kernel
theorem k83_26 : decode zm83.2.1 26 = .ok (.iconst 0, 1) := by decide +kernel
theorem k83_27 : decode zm83.2.1 27 = .ok (.goto 12, 3) := by decide +kernel
theorem k83_0 : decode zm83.2.1 0 = .ok (.iconst 0, 1) := by decide +kernel
theorem k83_1 : decode zm83.2.1 1 = .ok (.istore_n 2, 1) := by decide +kernel
theorem k83_2 : decode zm83.2.1 2 = .ok (.iconst 0, 1) := by decide +kernel
theorem k83_3 : decode zm83.2.1 3 = .ok (.istore_n 3, 1) := by decide +kernel
theorem fk_4_50 : zfx 4 50 = some (6, 1) := by decide +kernel
theorem lk_4_55 : zmx 4 55 = some (62, 1) := by decide +kernel
theorem lk_4_59 : zmx 4 59 = some (82, 1) := by decide +kernel
theorem k84_2 : decode zm84.2.1 2 = .ok (.iload_n 3, 1) := by decide +kernel
theorem k84_3 : decode zm84.2.1 3 = .ok (.aload_n 2, 1) := by decide +kernel
theorem k84_4 : decode zm84.2.1 4 = .ok (.getfield 50, 3) := by decide +kernel
theorem k84_7 : decode zm84.2.1 7 = .ok (.if_icmp .ge 27, 3) := by decide +kernel
theorem k84_34 : decode zm84.2.1 34 = .ok (.return_, 1) := by decide +kernel
theorem k84_10 : decode zm84.2.1 10 = .ok (.aload_n 0, 1) := by decide +kernel
theorem k84_11 : decode zm84.2.1 11 = .ok (.getfield 29, 3) := by decide +kernel
theorem k84_14 : decode zm84.2.1 14 = .ok (.iload_n 1, 1) := by decide +kernel
theorem k84_15 : decode zm84.2.1 15 = .ok (.bipush 10, 2) := by decide +kernel
theorem k84_17 : decode zm84.2.1 17 = .ok (.imul, 1) := by decide +kernel
theorem k84_18 : decode zm84.2.1 18 = .ok (.aload_n 2, 1) := by decide +kernel
theorem k84_19 : decode zm84.2.1 19 = .ok (.iload_n 3, 1) := by decide +kernel
theorem k84_20 : decode zm84.2.1 20 = .ok (.invokevirtual 55, 3) := by decide +kernel
theorem k84_23 : decode zm84.2.1 23 = .ok (.iadd, 1) := by decide +kernel
theorem k84_24 : decode zm84.2.1 24 = .ok (.iconst 1, 1) := by decide +kernel
theorem k84_25 : decode zm84.2.1 25 = .ok (.invokevirtual 59, 3) := by decide +kernel
theorem k84_28 : decode zm84.2.1 28 = .ok (.iinc 3 1, 3) := by decide +kernel
theorem k84_31 : decode zm84.2.1 31 = .ok (.goto (-29), 3) := by decide +kernel
theorem k84_0 : decode zm84.2.1 0 = .ok (.iconst 0, 1) := by decide +kernel
theorem k84_1 : decode zm84.2.1 1 = .ok (.istore_n 3, 1) := by decide +kernel
theorem lk_0_134 : zmx 0 134 = some (53, 1) := by decide +kernel
theorem k88_0 : decode zm88.2.1 0 = .ok (.aload_n 0, 1) := by decide +kernel
theorem k88_1 : decode zm88.2.1 1 = .ok (.iload_n 1, 1) := by decide +kernel
theorem k88_2 : decode zm88.2.1 2 = .ok (.invokevirtual 134, 3) := by decide +kernel
theorem k88_5 : decode zm88.2.1 5 = .ok (.ifCond .eq 20, 3) := by decide +kernel
theorem k88_25 : decode zm88.2.1 25 = .ok (.iconst 0, 1) := by decide +kernel
theorem k88_26 : decode zm88.2.1 26 = .ok (.ireturn, 1) := by decide +kernel
theorem k88_8 : decode zm88.2.1 8 = .ok (.aload_n 0, 1) := by decide +kernel
theorem k88_9 : decode zm88.2.1 9 = .ok (.iload_n 2, 1) := by decide +kernel
theorem k88_10 : decode zm88.2.1 10 = .ok (.invokevirtual 134, 3) := by decide +kernel
theorem k88_13 : decode zm88.2.1 13 = .ok (.ifCond .eq 12, 3) := by decide +kernel
theorem k88_16 : decode zm88.2.1 16 = .ok (.iload_n 1, 1) := by decide +kernel
theorem k88_17 : decode zm88.2.1 17 = .ok (.iload_n 2, 1) := by decide +kernel
theorem k88_18 : decode zm88.2.1 18 = .ok (.if_icmp .eq 7, 3) := by decide +kernel
theorem k88_21 : decode zm88.2.1 21 = .ok (.iconst 1, 1) := by decide +kernel
theorem k88_22 : decode zm88.2.1 22 = .ok (.goto 4, 3) := by decide +kernel
theorem k94_0 : decode zm94.2.1 0 = .ok (.aload_n 0, 1) := by decide +kernel
theorem k94_1 : decode zm94.2.1 1 = .ok (.getfield 11, 3) := by decide +kernel
theorem k94_4 : decode zm94.2.1 4 = .ok (.aload_n 0, 1) := by decide +kernel
theorem k94_5 : decode zm94.2.1 5 = .ok (.getfield 28, 3) := by decide +kernel
theorem k94_8 : decode zm94.2.1 8 = .ok (.invokestatic 31, 3) := by decide +kernel
theorem k94_11 : decode zm94.2.1 11 = .ok (.astore_n 2, 1) := by decide +kernel
theorem k94_12 : decode zm94.2.1 12 = .ok (.aload_n 0, 1) := by decide +kernel
theorem k94_13 : decode zm94.2.1 13 = .ok (.getfield 21, 3) := by decide +kernel
theorem k94_16 : decode zm94.2.1 16 = .ok (.ifCond .eq 7, 3) := by decide +kernel
theorem k94_23 : decode zm94.2.1 23 = .ok (.iconst 0, 1) := by decide +kernel
theorem k94_24 : decode zm94.2.1 24 = .ok (.ireturn, 1) := by decide +kernel
theorem k94_19 : decode zm94.2.1 19 = .ok (.aload_n 2, 1) := by decide +kernel
theorem k94_20 : decode zm94.2.1 20 = .ok (.ifnonnull 5, 3) := by decide +kernel
theorem k94_25 : decode zm94.2.1 25 = .ok (.aload_n 1, 1) := by decide +kernel
theorem k94_26 : decode zm94.2.1 26 = .ok (.aload_n 2, 1) := by decide +kernel
theorem k94_27 : decode zm94.2.1 27 = .ok (.invokevirtual 35, 3) := by decide +kernel
theorem k94_30 : decode zm94.2.1 30 = .ok (.aload_n 0, 1) := by decide +kernel
theorem k94_31 : decode zm94.2.1 31 = .ok (.aload_n 0, 1) := by decide +kernel
theorem k94_32 : decode zm94.2.1 32 = .ok (.getfield 28, 3) := by decide +kernel
theorem k94_35 : decode zm94.2.1 35 = .ok (.ifCond .le 12, 3) := by decide +kernel
theorem k94_47 : decode zm94.2.1 47 = .ok (.bipush 7, 2) := by decide +kernel
theorem k94_49 : decode zm94.2.1 49 = .ok (.putfield 28, 3) := by decide +kernel
theorem k94_52 : decode zm94.2.1 52 = .ok (.aload_n 0, 1) := by decide +kernel
theorem k94_53 : decode zm94.2.1 53 = .ok (.dup, 1) := by decide +kernel
theorem k94_54 : decode zm94.2.1 54 = .ok (.getfield 21, 3) := by decide +kernel
theorem k94_57 : decode zm94.2.1 57 = .ok (.iconst 1, 1) := by decide +kernel
theorem k94_58 : decode zm94.2.1 58 = .ok (.isub, 1) := by decide +kernel
theorem k94_59 : decode zm94.2.1 59 = .ok (.putfield 21, 3) := by decide +kernel
theorem k94_62 : decode zm94.2.1 62 = .ok (.iconst 1, 1) := by decide +kernel
theorem k94_63 : decode zm94.2.1 63 = .ok (.ireturn, 1) := by decide +kernel
theorem k94_38 : decode zm94.2.1 38 = .ok (.aload_n 0, 1) := by decide +kernel
theorem k94_39 : decode zm94.2.1 39 = .ok (.getfield 28, 3) := by decide +kernel
theorem k94_42 : decode zm94.2.1 42 = .ok (.iconst 1, 1) := by decide +kernel
theorem k94_43 : decode zm94.2.1 43 = .ok (.isub, 1) := by decide +kernel
theorem k94_44 : decode zm94.2.1 44 = .ok (.goto 5, 3) := by decide +kernel
theorem fk_5_17 : zfx 5 17 = some (5, 1) := by decide +kernel
theorem k96_0 : decode zm96.2.1 0 = .ok (.aload_n 0, 1) := by decide +kernel
theorem k96_1 : decode zm96.2.1 1 = .ok (.getfield 17, 3) := by decide +kernel
theorem k96_4 : decode zm96.2.1 4 = .ok (.iload_n 1, 1) := by decide +kernel
theorem k96_5 : decode zm96.2.1 5 = .ok (.invokestatic 31, 3) := by decide +kernel
theorem k96_8 : decode zm96.2.1 8 = .ok (.astore_n 3, 1) := by decide +kernel
theorem k96_9 : decode zm96.2.1 9 = .ok (.aload_n 3, 1) := by decide +kernel
theorem k96_10 : decode zm96.2.1 10 = .ok (.ifnull 20, 3) := by decide +kernel
theorem k96_30 : decode zm96.2.1 30 = .ok (.return_, 1) := by decide +kernel
theorem k96_13 : decode zm96.2.1 13 = .ok (.aload_n 3, 1) := by decide +kernel
theorem k96_14 : decode zm96.2.1 14 = .ok (.aload_n 2, 1) := by decide +kernel
theorem k96_15 : decode zm96.2.1 15 = .ok (.invokevirtual 35, 3) := by decide +kernel
theorem k96_18 : decode zm96.2.1 18 = .ok (.aload_n 0, 1) := by decide +kernel
theorem k96_19 : decode zm96.2.1 19 = .ok (.dup, 1) := by decide +kernel
theorem k96_20 : decode zm96.2.1 20 = .ok (.getfield 25, 3) := by decide +kernel
theorem k96_23 : decode zm96.2.1 23 = .ok (.iconst 1, 1) := by decide +kernel
theorem k96_24 : decode zm96.2.1 24 = .ok (.iload_n 1, 1) := by decide +kernel
theorem k96_25 : decode zm96.2.1 25 = .ok (.ishl, 1) := by decide +kernel
theorem k96_26 : decode zm96.2.1 26 = .ok (.ior, 1) := by decide +kernel
theorem k96_27 : decode zm96.2.1 27 = .ok (.putfield 25, 3) := by decide +kernel
theorem lk_5_45 : zmx 5 45 = some (64, 0) := by decide +kernel
theorem k98_0 : decode zm98.2.1 0 = .ok (.aload_n 0, 1) := by decide +kernel
theorem k98_1 : decode zm98.2.1 1 = .ok (.getfield 17, 3) := by decide +kernel
theorem k98_4 : decode zm98.2.1 4 = .ok (.iload_n 1, 1) := by decide +kernel
theorem k98_5 : decode zm98.2.1 5 = .ok (.invokestatic 31, 3) := by decide +kernel
theorem k98_8 : decode zm98.2.1 8 = .ok (.astore_n 3, 1) := by decide +kernel
theorem k98_9 : decode zm98.2.1 9 = .ok (.aload_n 3, 1) := by decide +kernel
theorem k98_10 : decode zm98.2.1 10 = .ok (.ifnull 14, 3) := by decide +kernel
theorem k98_24 : decode zm98.2.1 24 = .ok (.iconst 0, 1) := by decide +kernel
theorem k98_25 : decode zm98.2.1 25 = .ok (.ireturn, 1) := by decide +kernel
theorem k98_13 : decode zm98.2.1 13 = .ok (.aload_n 0, 1) := by decide +kernel
theorem k98_14 : decode zm98.2.1 14 = .ok (.getfield 25, 3) := by decide +kernel
theorem k98_17 : decode zm98.2.1 17 = .ok (.iload_n 1, 1) := by decide +kernel
theorem k98_18 : decode zm98.2.1 18 = .ok (.invokestatic 45, 3) := by decide +kernel
theorem k98_21 : decode zm98.2.1 21 = .ok (.ifCond .ne 5, 3) := by decide +kernel
theorem k98_26 : decode zm98.2.1 26 = .ok (.aload_n 2, 1) := by decide +kernel
theorem k98_27 : decode zm98.2.1 27 = .ok (.aload_n 3, 1) := by decide +kernel
theorem k98_28 : decode zm98.2.1 28 = .ok (.invokevirtual 35, 3) := by decide +kernel
theorem k98_31 : decode zm98.2.1 31 = .ok (.aload_n 0, 1) := by decide +kernel
theorem k98_32 : decode zm98.2.1 32 = .ok (.iconst 0, 1) := by decide +kernel
theorem k98_33 : decode zm98.2.1 33 = .ok (.putfield 21, 3) := by decide +kernel
theorem k98_36 : decode zm98.2.1 36 = .ok (.iconst 1, 1) := by decide +kernel
theorem k98_37 : decode zm98.2.1 37 = .ok (.ireturn, 1) := by decide +kernel
theorem lk_0_246 : zmx 0 246 = some (77, 1) := by decide +kernel
theorem k100_0 : decode zm100.2.1 0 = .ok (.aload_n 0, 1) := by decide +kernel
theorem k100_1 : decode zm100.2.1 1 = .ok (.getfield 43, 3) := by decide +kernel
theorem k100_4 : decode zm100.2.1 4 = .ok (.invokevirtual 246, 3) := by decide +kernel
theorem k100_7 : decode zm100.2.1 7 = .ok (.ifCond .ne 19, 3) := by decide +kernel
theorem k100_26 : decode zm100.2.1 26 = .ok (.iconst 0, 1) := by decide +kernel
theorem k100_27 : decode zm100.2.1 27 = .ok (.ireturn, 1) := by decide +kernel
theorem k100_10 : decode zm100.2.1 10 = .ok (.aload_n 0, 1) := by decide +kernel
theorem k100_11 : decode zm100.2.1 11 = .ok (.getfield 43, 3) := by decide +kernel
theorem k100_14 : decode zm100.2.1 14 = .ok (.getfield 101, 3) := by decide +kernel
theorem k100_17 : decode zm100.2.1 17 = .ok (.bipush 6, 2) := by decide +kernel
theorem k100_19 : decode zm100.2.1 19 = .ok (.if_icmp .gt 7, 3) := by decide +kernel
theorem k100_22 : decode zm100.2.1 22 = .ok (.iconst 1, 1) := by decide +kernel
theorem k100_23 : decode zm100.2.1 23 = .ok (.goto 4, 3) := by decide +kernel
theorem lk_6_40 : zmx 6 40 = some (104, 1) := by decide +kernel
theorem k103_51 : decode zm103.2.1 51 = .ok (.iinc 1 1, 3) := by decide +kernel
theorem k103_54 : decode zm103.2.1 54 = .ok (.goto (-52), 3) := by decide +kernel
theorem k103_12 : decode zm103.2.1 12 = .ok (.iload_n 2, 1) := by decide +kernel
theorem k103_13 : decode zm103.2.1 13 = .ok (.ifCond .le 38, 3) := by decide +kernel
theorem k103_16 : decode zm103.2.1 16 = .ok (.aload_n 0, 1) := by decide +kernel
theorem k103_17 : decode zm103.2.1 17 = .ok (.getfield 14, 3) := by decide +kernel
theorem k103_20 : decode zm103.2.1 20 = .ok (.iload_n 2, 1) := by decide +kernel
theorem k103_21 : decode zm103.2.1 21 = .ok (.iconst 1, 1) := by decide +kernel
theorem k103_22 : decode zm103.2.1 22 = .ok (.isub, 1) := by decide +kernel
theorem k103_23 : decode zm103.2.1 23 = .ok (.invokevirtual 32, 3) := by decide +kernel
theorem k103_26 : decode zm103.2.1 26 = .ok (.aload_n 0, 1) := by decide +kernel
theorem k103_27 : decode zm103.2.1 27 = .ok (.getfield 14, 3) := by decide +kernel
theorem k103_30 : decode zm103.2.1 30 = .ok (.iload_n 2, 1) := by decide +kernel
theorem k103_31 : decode zm103.2.1 31 = .ok (.invokevirtual 32, 3) := by decide +kernel
theorem k103_34 : decode zm103.2.1 34 = .ok (.if_icmp .le 17, 3) := by decide +kernel
theorem k103_37 : decode zm103.2.1 37 = .ok (.aload_n 0, 1) := by decide +kernel
theorem k103_38 : decode zm103.2.1 38 = .ok (.iload_n 2, 1) := by decide +kernel
theorem k103_39 : decode zm103.2.1 39 = .ok (.iconst 1, 1) := by decide +kernel
theorem k103_40 : decode zm103.2.1 40 = .ok (.isub, 1) := by decide +kernel
theorem k103_41 : decode zm103.2.1 41 = .ok (.iload_n 2, 1) := by decide +kernel
theorem k103_42 : decode zm103.2.1 42 = .ok (.invokevirtual 40, 3) := by decide +kernel
theorem k103_45 : decode zm103.2.1 45 = .ok (.iinc 2 (-1), 3) := by decide +kernel
theorem k103_48 : decode zm103.2.1 48 = .ok (.goto (-36), 3) := by decide +kernel
theorem k103_2 : decode zm103.2.1 2 = .ok (.iload_n 1, 1) := by decide +kernel
theorem k103_3 : decode zm103.2.1 3 = .ok (.aload_n 0, 1) := by decide +kernel
theorem k103_4 : decode zm103.2.1 4 = .ok (.getfield 20, 3) := by decide +kernel
theorem k103_7 : decode zm103.2.1 7 = .ok (.if_icmp .ge 50, 3) := by decide +kernel
theorem k103_57 : decode zm103.2.1 57 = .ok (.return_, 1) := by decide +kernel
theorem k103_10 : decode zm103.2.1 10 = .ok (.iload_n 1, 1) := by decide +kernel
theorem k103_11 : decode zm103.2.1 11 = .ok (.istore_n 2, 1) := by decide +kernel
theorem k103_0 : decode zm103.2.1 0 = .ok (.iconst 1, 1) := by decide +kernel
theorem k103_1 : decode zm103.2.1 1 = .ok (.istore_n 1, 1) := by decide +kernel
theorem fk_9_34 : zfx 9 34 = some (9, 4) := by decide +kernel
theorem sh213 : zsh 213 = some (9, [some 214, some 217, some 220, none, none, none, none]) := by decide +kernel
theorem lk_9_61 : zmx 9 61 = some (1001, 0) := by decide +kernel
theorem pi_9_4 : zdes 9 4 = "I" ∧ zfin 9 4 = false := by decide +kernel
theorem fk_9_30 : zfx 9 30 = some (9, 3) := by decide +kernel
theorem pi_9_3 : zdes 9 3 = "I" ∧ zfin 9 3 = false := by decide +kernel
theorem fk_9_18 : zfx 9 18 = some (9, 1) := by decide +kernel
theorem fk_9_12 : zfx 9 12 = some (9, 0) := by decide +kernel
theorem lk_9_37 : zmx 9 37 = some (102, 1) := by decide +kernel
theorem li217 : zLine 217 := ⟨by decide +kernel, by decide +kernel, zArr_of (by decide +kernel)⟩
theorem li214 : zLine 214 := ⟨by decide +kernel, by decide +kernel, zArr_of (by decide +kernel)⟩
theorem k105_28 : decode zm105.2.1 28 = .ok (.aload_n 0, 1) := by decide +kernel
theorem k105_29 : decode zm105.2.1 29 = .ok (.iload_n 1, 1) := by decide +kernel
theorem k105_30 : decode zm105.2.1 30 = .ok (.putfield 30, 3) := by decide +kernel
theorem k105_33 : decode zm105.2.1 33 = .ok (.aload_n 0, 1) := by decide +kernel
theorem k105_34 : decode zm105.2.1 34 = .ok (.getfield 18, 3) := by decide +kernel
theorem k105_37 : decode zm105.2.1 37 = .ok (.aload_n 0, 1) := by decide +kernel
theorem k105_38 : decode zm105.2.1 38 = .ok (.getfield 12, 3) := by decide +kernel
theorem k105_41 : decode zm105.2.1 41 = .ok (.invokevirtual 37, 3) := by decide +kernel
theorem sh217 : zsh 217 = some (6, [some 218, none]) := by decide +kernel
theorem k105_44 : decode zm105.2.1 44 = .ok (.return_, 1) := by decide +kernel
theorem k105_0 : decode zm105.2.1 0 = .ok (.aload_n 0, 1) := by decide +kernel
theorem k105_1 : decode zm105.2.1 1 = .ok (.aload_n 0, 1) := by decide +kernel
theorem k105_2 : decode zm105.2.1 2 = .ok (.getfield 34, 3) := by decide +kernel
theorem k105_5 : decode zm105.2.1 5 = .ok (.iload_n 1, 1) := by decide +kernel
theorem k105_6 : decode zm105.2.1 6 = .ok (.invokestatic 61, 3) := by decide +kernel
theorem k105_9 : decode zm105.2.1 9 = .ok (.putfield 34, 3) := by decide +kernel
theorem k105_12 : decode zm105.2.1 12 = .ok (.aload_n 0, 1) := by decide +kernel
theorem k105_13 : decode zm105.2.1 13 = .ok (.getfield 30, 3) := by decide +kernel
theorem k105_16 : decode zm105.2.1 16 = .ok (.iconst (-1), 1) := by decide +kernel
theorem k105_17 : decode zm105.2.1 17 = .ok (.if_icmp .eq 11, 3) := by decide +kernel
theorem k105_20 : decode zm105.2.1 20 = .ok (.iload_n 1, 1) := by decide +kernel
theorem k105_21 : decode zm105.2.1 21 = .ok (.aload_n 0, 1) := by decide +kernel
theorem k105_22 : decode zm105.2.1 22 = .ok (.getfield 30, 3) := by decide +kernel
theorem k105_25 : decode zm105.2.1 25 = .ok (.if_icmp .ge 19, 3) := by decide +kernel
theorem k107_101 : decode zm107.2.1 101 = .ok (.iload_n 3, 1) := by decide +kernel
theorem k107_102 : decode zm107.2.1 102 = .ok (.iload 4, 2) := by decide +kernel
theorem k107_104 : decode zm107.2.1 104 = .ok (.if_icmp .ge 19, 3) := by decide +kernel
theorem k107_123 : decode zm107.2.1 123 = .ok (.iconst 1, 1) := by decide +kernel
theorem k107_124 : decode zm107.2.1 124 = .ok (.ireturn, 1) := by decide +kernel
theorem k107_107 : decode zm107.2.1 107 = .ok (.aload_n 0, 1) := by decide +kernel
theorem k107_108 : decode zm107.2.1 108 = .ok (.iload_n 3, 1) := by decide +kernel
theorem k107_109 : decode zm107.2.1 109 = .ok (.iload 4, 2) := by decide +kernel
theorem k107_111 : decode zm107.2.1 111 = .ok (.invokevirtual 40, 3) := by decide +kernel
theorem k107_114 : decode zm107.2.1 114 = .ok (.iinc 3 1, 3) := by decide +kernel
theorem k107_117 : decode zm107.2.1 117 = .ok (.iinc 4 (-1), 3) := by decide +kernel
theorem k107_120 : decode zm107.2.1 120 = .ok (.goto (-19), 3) := by decide +kernel
theorem k107_83 : decode zm107.2.1 83 = .ok (.aload_n 0, 1) := by decide +kernel
theorem k107_84 : decode zm107.2.1 84 = .ok (.iload_n 1, 1) := by decide +kernel
theorem k107_85 : decode zm107.2.1 85 = .ok (.iload_n 2, 1) := by decide +kernel
theorem k107_86 : decode zm107.2.1 86 = .ok (.invokevirtual 40, 3) := by decide +kernel
theorem k107_89 : decode zm107.2.1 89 = .ok (.iload_n 1, 1) := by decide +kernel
theorem k107_90 : decode zm107.2.1 90 = .ok (.iconst 1, 1) := by decide +kernel
theorem k107_91 : decode zm107.2.1 91 = .ok (.iadd, 1) := by decide +kernel
theorem k107_92 : decode zm107.2.1 92 = .ok (.istore_n 3, 1) := by decide +kernel
theorem k107_93 : decode zm107.2.1 93 = .ok (.aload_n 0, 1) := by decide +kernel
theorem k107_94 : decode zm107.2.1 94 = .ok (.getfield 20, 3) := by decide +kernel
theorem k107_97 : decode zm107.2.1 97 = .ok (.iconst 1, 1) := by decide +kernel
theorem k107_98 : decode zm107.2.1 98 = .ok (.isub, 1) := by decide +kernel
theorem k107_99 : decode zm107.2.1 99 = .ok (.istore 4, 2) := by decide +kernel
theorem k107_51 : decode zm107.2.1 51 = .ok (.iload_n 2, 1) := by decide +kernel
theorem k107_52 : decode zm107.2.1 52 = .ok (.iload_n 1, 1) := by decide +kernel
theorem k107_53 : decode zm107.2.1 53 = .ok (.iconst 1, 1) := by decide +kernel
theorem k107_54 : decode zm107.2.1 54 = .ok (.iadd, 1) := by decide +kernel
theorem k107_55 : decode zm107.2.1 55 = .ok (.if_icmp .le 28, 3) := by decide +kernel
theorem k107_58 : decode zm107.2.1 58 = .ok (.aload_n 0, 1) := by decide +kernel
theorem k107_59 : decode zm107.2.1 59 = .ok (.getfield 14, 3) := by decide +kernel
theorem k107_62 : decode zm107.2.1 62 = .ok (.iload_n 2, 1) := by decide +kernel
theorem k107_63 : decode zm107.2.1 63 = .ok (.invokevirtual 32, 3) := by decide +kernel
theorem k107_66 : decode zm107.2.1 66 = .ok (.aload_n 0, 1) := by decide +kernel
theorem k107_67 : decode zm107.2.1 67 = .ok (.getfield 14, 3) := by decide +kernel
theorem k107_70 : decode zm107.2.1 70 = .ok (.iload_n 1, 1) := by decide +kernel
theorem k107_71 : decode zm107.2.1 71 = .ok (.invokevirtual 32, 3) := by decide +kernel
theorem k107_74 : decode zm107.2.1 74 = .ok (.if_icmp .gt 9, 3) := by decide +kernel
theorem k107_77 : decode zm107.2.1 77 = .ok (.iinc 2 (-1), 3) := by decide +kernel
theorem k107_80 : decode zm107.2.1 80 = .ok (.goto (-29), 3) := by decide +kernel
theorem k107_38 : decode zm107.2.1 38 = .ok (.iload_n 1, 1) := by decide +kernel
theorem k107_39 : decode zm107.2.1 39 = .ok (.ifCond .ge 5, 3) := by decide +kernel
theorem k107_44 : decode zm107.2.1 44 = .ok (.aload_n 0, 1) := by decide +kernel
theorem k107_45 : decode zm107.2.1 45 = .ok (.getfield 20, 3) := by decide +kernel
theorem k107_48 : decode zm107.2.1 48 = .ok (.iconst 1, 1) := by decide +kernel
theorem k107_49 : decode zm107.2.1 49 = .ok (.isub, 1) := by decide +kernel
theorem k107_50 : decode zm107.2.1 50 = .ok (.istore_n 2, 1) := by decide +kernel
theorem k107_42 : decode zm107.2.1 42 = .ok (.iconst 0, 1) := by decide +kernel
theorem k107_43 : decode zm107.2.1 43 = .ok (.ireturn, 1) := by decide +kernel
theorem k107_7 : decode zm107.2.1 7 = .ok (.iload_n 1, 1) := by decide +kernel
theorem k107_8 : decode zm107.2.1 8 = .ok (.ifCond .lt 30, 3) := by decide +kernel
theorem k107_11 : decode zm107.2.1 11 = .ok (.aload_n 0, 1) := by decide +kernel
theorem k107_12 : decode zm107.2.1 12 = .ok (.getfield 14, 3) := by decide +kernel
theorem k107_15 : decode zm107.2.1 15 = .ok (.iload_n 1, 1) := by decide +kernel
theorem k107_16 : decode zm107.2.1 16 = .ok (.invokevirtual 32, 3) := by decide +kernel
theorem k107_19 : decode zm107.2.1 19 = .ok (.aload_n 0, 1) := by decide +kernel
theorem k107_20 : decode zm107.2.1 20 = .ok (.getfield 14, 3) := by decide +kernel
theorem k107_23 : decode zm107.2.1 23 = .ok (.iload_n 1, 1) := by decide +kernel
theorem k107_24 : decode zm107.2.1 24 = .ok (.iconst 1, 1) := by decide +kernel
theorem k107_25 : decode zm107.2.1 25 = .ok (.iadd, 1) := by decide +kernel
theorem k107_26 : decode zm107.2.1 26 = .ok (.invokevirtual 32, 3) := by decide +kernel
theorem k107_29 : decode zm107.2.1 29 = .ok (.if_icmp .lt 9, 3) := by decide +kernel
theorem k107_32 : decode zm107.2.1 32 = .ok (.iinc 1 (-1), 3) := by decide +kernel
theorem k107_35 : decode zm107.2.1 35 = .ok (.goto (-28), 3) := by decide +kernel
theorem k107_0 : decode zm107.2.1 0 = .ok (.aload_n 0, 1) := by decide +kernel
theorem k107_1 : decode zm107.2.1 1 = .ok (.getfield 20, 3) := by decide +kernel
theorem k107_4 : decode zm107.2.1 4 = .ok (.iconst 2, 1) := by decide +kernel
theorem k107_5 : decode zm107.2.1 5 = .ok (.isub, 1) := by decide +kernel
theorem k107_6 : decode zm107.2.1 6 = .ok (.istore_n 1, 1) := by decide +kernel
theorem fk_9_70 : zfx 9 70 = some (6, 1) := by decide +kernel
theorem sh214 : zsh 214 = some (6, [some 215, none]) := by decide +kernel
theorem lk_9_83 : zmx 9 83 = some (64, 0) := by decide +kernel
theorem lk_9_87 : zmx 9 87 = some (62, 1) := by decide +kernel
theorem lk_9_90 : zmx 9 90 = some (69, 1) := by decide +kernel
theorem k112_53 : decode zm112.2.1 53 = .ok (.iinc 3 1, 3) := by decide +kernel
theorem k112_56 : decode zm112.2.1 56 = .ok (.goto (-46), 3) := by decide +kernel
theorem k112_10 : decode zm112.2.1 10 = .ok (.iload_n 3, 1) := by decide +kernel
theorem k112_11 : decode zm112.2.1 11 = .ok (.aload_n 1, 1) := by decide +kernel
theorem k112_12 : decode zm112.2.1 12 = .ok (.getfield 70, 3) := by decide +kernel
theorem k112_15 : decode zm112.2.1 15 = .ok (.if_icmp .ge 44, 3) := by decide +kernel
theorem k112_59 : decode zm112.2.1 59 = .ok (.iconst 1, 1) := by decide +kernel
theorem k112_60 : decode zm112.2.1 60 = .ok (.ireturn, 1) := by decide +kernel
theorem k112_18 : decode zm112.2.1 18 = .ok (.iload_n 2, 1) := by decide +kernel
theorem k112_19 : decode zm112.2.1 19 = .ok (.iload_n 3, 1) := by decide +kernel
theorem k112_20 : decode zm112.2.1 20 = .ok (.invokestatic 83, 3) := by decide +kernel
theorem k112_23 : decode zm112.2.1 23 = .ok (.ifCond .ne 19, 3) := by decide +kernel
theorem k112_42 : decode zm112.2.1 42 = .ok (.aload_n 1, 1) := by decide +kernel
theorem k112_43 : decode zm112.2.1 43 = .ok (.iload_n 3, 1) := by decide +kernel
theorem k112_44 : decode zm112.2.1 44 = .ok (.invokevirtual 87, 3) := by decide +kernel
theorem k112_47 : decode zm112.2.1 47 = .ok (.iconst (-1), 1) := by decide +kernel
theorem k112_48 : decode zm112.2.1 48 = .ok (.if_icmp .ne 5, 3) := by decide +kernel
theorem k112_51 : decode zm112.2.1 51 = .ok (.iconst 0, 1) := by decide +kernel
theorem k112_52 : decode zm112.2.1 52 = .ok (.ireturn, 1) := by decide +kernel
theorem k112_26 : decode zm112.2.1 26 = .ok (.aload_n 0, 1) := by decide +kernel
theorem k112_27 : decode zm112.2.1 27 = .ok (.getfield 12, 3) := by decide +kernel
theorem k112_30 : decode zm112.2.1 30 = .ok (.aload_n 1, 1) := by decide +kernel
theorem k112_31 : decode zm112.2.1 31 = .ok (.iload_n 3, 1) := by decide +kernel
theorem k112_32 : decode zm112.2.1 32 = .ok (.invokevirtual 87, 3) := by decide +kernel
theorem k112_35 : decode zm112.2.1 35 = .ok (.invokevirtual 90, 3) := by decide +kernel
theorem k112_38 : decode zm112.2.1 38 = .ok (.pop, 1) := by decide +kernel
theorem k112_39 : decode zm112.2.1 39 = .ok (.goto 14, 3) := by decide +kernel
theorem k112_0 : decode zm112.2.1 0 = .ok (.aload_n 0, 1) := by decide +kernel
theorem k112_1 : decode zm112.2.1 1 = .ok (.getfield 12, 3) := by decide +kernel
theorem k112_4 : decode zm112.2.1 4 = .ok (.iconst 0, 1) := by decide +kernel
theorem k112_5 : decode zm112.2.1 5 = .ok (.putfield 70, 3) := by decide +kernel
theorem k112_8 : decode zm112.2.1 8 = .ok (.iconst 0, 1) := by decide +kernel
theorem k112_9 : decode zm112.2.1 9 = .ok (.istore_n 3, 1) := by decide +kernel
theorem lk_9_101 : zmx 9 101 = some (115, 1) := by decide +kernel
theorem lk_9_104 : zmx 9 104 = some (116, 1) := by decide +kernel
theorem k117_5 : decode zm117.2.1 5 = .ok (.iload 4, 2) := by decide +kernel
theorem k117_7 : decode zm117.2.1 7 = .ok (.ifCond .lt 59, 3) := by decide +kernel
theorem k117_66 : decode zm117.2.1 66 = .ok (.iconst 0, 1) := by decide +kernel
theorem k117_67 : decode zm117.2.1 67 = .ok (.ireturn, 1) := by decide +kernel
theorem k117_10 : decode zm117.2.1 10 = .ok (.aload_n 1, 1) := by decide +kernel
theorem k117_11 : decode zm117.2.1 11 = .ok (.iload 4, 2) := by decide +kernel
theorem k117_13 : decode zm117.2.1 13 = .ok (.invokevirtual 101, 3) := by decide +kernel
theorem k117_16 : decode zm117.2.1 16 = .ok (.istore 5, 2) := by decide +kernel
theorem k117_18 : decode zm117.2.1 18 = .ok (.aload_n 0, 1) := by decide +kernel
theorem k117_19 : decode zm117.2.1 19 = .ok (.getfield 12, 3) := by decide +kernel
theorem k117_22 : decode zm117.2.1 22 = .ok (.iload 5, 2) := by decide +kernel
theorem k117_24 : decode zm117.2.1 24 = .ok (.invokevirtual 87, 3) := by decide +kernel
theorem k117_27 : decode zm117.2.1 27 = .ok (.iconst 1, 1) := by decide +kernel
theorem k117_28 : decode zm117.2.1 28 = .ok (.iadd, 1) := by decide +kernel
theorem k117_29 : decode zm117.2.1 29 = .ok (.istore 6, 2) := by decide +kernel
theorem k117_31 : decode zm117.2.1 31 = .ok (.iload 6, 2) := by decide +kernel
theorem k117_33 : decode zm117.2.1 33 = .ok (.iload_n 3, 1) := by decide +kernel
theorem k117_34 : decode zm117.2.1 34 = .ok (.if_icmp .ge 16, 3) := by decide +kernel
theorem k117_50 : decode zm117.2.1 50 = .ok (.aload_n 0, 1) := by decide +kernel
theorem k117_51 : decode zm117.2.1 51 = .ok (.getfield 12, 3) := by decide +kernel
theorem k117_54 : decode zm117.2.1 54 = .ok (.iload 5, 2) := by decide +kernel
theorem k117_56 : decode zm117.2.1 56 = .ok (.iconst 0, 1) := by decide +kernel
theorem k117_57 : decode zm117.2.1 57 = .ok (.invokevirtual 104, 3) := by decide +kernel
theorem k117_60 : decode zm117.2.1 60 = .ok (.iinc 4 (-1), 3) := by decide +kernel
theorem k117_63 : decode zm117.2.1 63 = .ok (.goto (-58), 3) := by decide +kernel
theorem k117_37 : decode zm117.2.1 37 = .ok (.aload_n 0, 1) := by decide +kernel
theorem k117_38 : decode zm117.2.1 38 = .ok (.getfield 12, 3) := by decide +kernel
theorem k117_41 : decode zm117.2.1 41 = .ok (.iload 5, 2) := by decide +kernel
theorem k117_43 : decode zm117.2.1 43 = .ok (.iload 6, 2) := by decide +kernel
theorem k117_45 : decode zm117.2.1 45 = .ok (.invokevirtual 104, 3) := by decide +kernel
theorem k117_48 : decode zm117.2.1 48 = .ok (.iconst 1, 1) := by decide +kernel
theorem k117_49 : decode zm117.2.1 49 = .ok (.ireturn, 1) := by decide +kernel
theorem k117_0 : decode zm117.2.1 0 = .ok (.iload_n 2, 1) := by decide +kernel
theorem k117_1 : decode zm117.2.1 1 = .ok (.iconst 1, 1) := by decide +kernel
theorem k117_2 : decode zm117.2.1 2 = .ok (.isub, 1) := by decide +kernel
theorem k117_3 : decode zm117.2.1 3 = .ok (.istore 4, 2) := by decide +kernel
theorem lk_8_38 : zmx 8 38 = some (120, 1) := by decide +kernel
theorem lk_8_42 : zmx 8 42 = some (102, 1) := by decide +kernel
theorem k119_0 : decode zm119.2.1 0 = .ok (.aload_n 0, 1) := by decide +kernel
theorem k119_1 : decode zm119.2.1 1 = .ok (.getfield 34, 3) := by decide +kernel
theorem k119_4 : decode zm119.2.1 4 = .ok (.bipush 6, 2) := by decide +kernel
theorem k119_6 : decode zm119.2.1 6 = .ok (.if_icmp .lt 5, 3) := by decide +kernel
theorem k119_11 : decode zm119.2.1 11 = .ok (.aload_n 0, 1) := by decide +kernel
theorem k119_12 : decode zm119.2.1 12 = .ok (.aload_n 0, 1) := by decide +kernel
theorem k119_13 : decode zm119.2.1 13 = .ok (.getfield 34, 3) := by decide +kernel
theorem k119_16 : decode zm119.2.1 16 = .ok (.invokevirtual 38, 3) := by decide +kernel
theorem k119_19 : decode zm119.2.1 19 = .ok (.aload_n 1, 1) := by decide +kernel
theorem k119_20 : decode zm119.2.1 20 = .ok (.invokevirtual 42, 3) := by decide +kernel
theorem k119_23 : decode zm119.2.1 23 = .ok (.aload_n 0, 1) := by decide +kernel
theorem k119_24 : decode zm119.2.1 24 = .ok (.dup, 1) := by decide +kernel
theorem k119_25 : decode zm119.2.1 25 = .ok (.getfield 34, 3) := by decide +kernel
theorem k119_28 : decode zm119.2.1 28 = .ok (.iconst 1, 1) := by decide +kernel
theorem k119_29 : decode zm119.2.1 29 = .ok (.iadd, 1) := by decide +kernel
theorem k119_30 : decode zm119.2.1 30 = .ok (.putfield 34, 3) := by decide +kernel
theorem k119_33 : decode zm119.2.1 33 = .ok (.iconst 1, 1) := by decide +kernel
theorem k119_34 : decode zm119.2.1 34 = .ok (.ireturn, 1) := by decide +kernel
theorem k119_9 : decode zm119.2.1 9 = .ok (.iconst 0, 1) := by decide +kernel
theorem k119_10 : decode zm119.2.1 10 = .ok (.ireturn, 1) := by decide +kernel
theorem fk_8_31 : zfx 8 31 = some (8, 3) := by decide +kernel
theorem lk_8_72 : zmx 8 72 = some (127, 1) := by decide +kernel
theorem rw193 : zRow 193 := ⟨by decide +kernel, zArr_of (by decide +kernel)⟩
theorem fk_8_66 : zfx 8 66 = some (8, 5) := by decide +kernel
theorem pi_8_5 : zdes 8 5 = "I" ∧ zfin 8 5 = false := by decide +kernel
theorem fk_8_69 : zfx 8 69 = some (8, 6) := by decide +kernel
theorem pi_8_6 : zdes 8 6 = "I" ∧ zfin 8 6 = false := by decide +kernel
theorem k128_0 : decode zm128.2.1 0 = .ok (.aload_n 0, 1) := by decide +kernel
theorem k128_1 : decode zm128.2.1 1 = .ok (.aload_n 0, 1) := by decide +kernel
theorem k128_2 : decode zm128.2.1 2 = .ok (.getfield 31, 3) := by decide +kernel
theorem k128_5 : decode zm128.2.1 5 = .ok (.iload_n 1, 1) := by decide +kernel
theorem k128_6 : decode zm128.2.1 6 = .ok (.invokevirtual 72, 3) := by decide +kernel
theorem k128_9 : decode zm128.2.1 9 = .ok (.istore_n 2, 1) := by decide +kernel
theorem k128_10 : decode zm128.2.1 10 = .ok (.iload_n 2, 1) := by decide +kernel
theorem k128_11 : decode zm128.2.1 11 = .ok (.aload_n 0, 1) := by decide +kernel
theorem k128_12 : decode zm128.2.1 12 = .ok (.getfield 66, 3) := by decide +kernel
theorem k128_15 : decode zm128.2.1 15 = .ok (.if_icmp .le 13, 3) := by decide +kernel
theorem k128_28 : decode zm128.2.1 28 = .ok (.return_, 1) := by decide +kernel
theorem k128_18 : decode zm128.2.1 18 = .ok (.aload_n 0, 1) := by decide +kernel
theorem k128_19 : decode zm128.2.1 19 = .ok (.iload_n 2, 1) := by decide +kernel
theorem k128_20 : decode zm128.2.1 20 = .ok (.putfield 66, 3) := by decide +kernel
theorem k128_23 : decode zm128.2.1 23 = .ok (.aload_n 0, 1) := by decide +kernel
theorem k128_24 : decode zm128.2.1 24 = .ok (.iload_n 1, 1) := by decide +kernel
theorem k128_25 : decode zm128.2.1 25 = .ok (.putfield 69, 3) := by decide +kernel
theorem lk_0_299 : zmx 0 299 = some (137, 1) := by decide +kernel
theorem k136_87 : decode zm136.2.1 87 = .ok (.iinc 6 1, 3) := by decide +kernel
theorem k136_90 : decode zm136.2.1 90 = .ok (.goto (-53), 3) := by decide +kernel
theorem k136_82 : decode zm136.2.1 82 = .ok (.istore 4, 2) := by decide +kernel
theorem k136_84 : decode zm136.2.1 84 = .ok (.iinc 2 1, 3) := by decide +kernel
theorem k136_70 : decode zm136.2.1 70 = .ok (.istore_n 3, 1) := by decide +kernel
theorem k136_71 : decode zm136.2.1 71 = .ok (.iload_n 2, 1) := by decide +kernel
theorem k136_72 : decode zm136.2.1 72 = .ok (.ifCond .ne 8, 3) := by decide +kernel
theorem k136_80 : decode zm136.2.1 80 = .ok (.iload 4, 2) := by decide +kernel
theorem k136_75 : decode zm136.2.1 75 = .ok (.iload 6, 2) := by decide +kernel
theorem k136_77 : decode zm136.2.1 77 = .ok (.goto 5, 3) := by decide +kernel
theorem k136_37 : decode zm136.2.1 37 = .ok (.iload 6, 2) := by decide +kernel
theorem k136_39 : decode zm136.2.1 39 = .ok (.aload_n 0, 1) := by decide +kernel
theorem k136_40 : decode zm136.2.1 40 = .ok (.getfield 19, 3) := by decide +kernel
theorem k136_43 : decode zm136.2.1 43 = .ok (.getfield 88, 3) := by decide +kernel
theorem k136_46 : decode zm136.2.1 46 = .ok (.if_icmp .ge 47, 3) := by decide +kernel
theorem k136_93 : decode zm136.2.1 93 = .ok (.iinc 5 1, 3) := by decide +kernel
theorem k136_96 : decode zm136.2.1 96 = .ok (.goto (-74), 3) := by decide +kernel
theorem k136_49 : decode zm136.2.1 49 = .ok (.aload_n 0, 1) := by decide +kernel
theorem k136_50 : decode zm136.2.1 50 = .ok (.iload 5, 2) := by decide +kernel
theorem k136_52 : decode zm136.2.1 52 = .ok (.iload 6, 2) := by decide +kernel
theorem k136_54 : decode zm136.2.1 54 = .ok (.invokevirtual 299, 3) := by decide +kernel
theorem k136_57 : decode zm136.2.1 57 = .ok (.ifCond .eq 30, 3) := by decide +kernel
theorem k136_60 : decode zm136.2.1 60 = .ok (.iload_n 2, 1) := by decide +kernel
theorem k136_61 : decode zm136.2.1 61 = .ok (.ifCond .ne 8, 3) := by decide +kernel
theorem k136_69 : decode zm136.2.1 69 = .ok (.iload_n 3, 1) := by decide +kernel
theorem k136_64 : decode zm136.2.1 64 = .ok (.iload 5, 2) := by decide +kernel
theorem k136_66 : decode zm136.2.1 66 = .ok (.goto 4, 3) := by decide +kernel
theorem k136_22 : decode zm136.2.1 22 = .ok (.iload 5, 2) := by decide +kernel
theorem k136_24 : decode zm136.2.1 24 = .ok (.aload_n 0, 1) := by decide +kernel
theorem k136_25 : decode zm136.2.1 25 = .ok (.getfield 19, 3) := by decide +kernel
theorem k136_28 : decode zm136.2.1 28 = .ok (.getfield 88, 3) := by decide +kernel
theorem k136_31 : decode zm136.2.1 31 = .ok (.if_icmp .ge 68, 3) := by decide +kernel
theorem k136_99 : decode zm136.2.1 99 = .ok (.iload_n 1, 1) := by decide +kernel
theorem k136_100 : decode zm136.2.1 100 = .ok (.ifCond .ne 5, 3) := by decide +kernel
theorem k136_105 : decode zm136.2.1 105 = .ok (.iload_n 1, 1) := by decide +kernel
theorem k136_106 : decode zm136.2.1 106 = .ok (.iconst 1, 1) := by decide +kernel
theorem k136_107 : decode zm136.2.1 107 = .ok (.if_icmp .ne 7, 3) := by decide +kernel
theorem k136_114 : decode zm136.2.1 114 = .ok (.iload 4, 2) := by decide +kernel
theorem k136_116 : decode zm136.2.1 116 = .ok (.ireturn, 1) := by decide +kernel
theorem k136_110 : decode zm136.2.1 110 = .ok (.iload_n 3, 1) := by decide +kernel
theorem k136_111 : decode zm136.2.1 111 = .ok (.goto 5, 3) := by decide +kernel
theorem k136_103 : decode zm136.2.1 103 = .ok (.iload_n 2, 1) := by decide +kernel
theorem k136_104 : decode zm136.2.1 104 = .ok (.ireturn, 1) := by decide +kernel
theorem k136_34 : decode zm136.2.1 34 = .ok (.iconst 0, 1) := by decide +kernel
theorem k136_35 : decode zm136.2.1 35 = .ok (.istore 6, 2) := by decide +kernel
theorem k136_0 : decode zm136.2.1 0 = .ok (.iload_n 1, 1) := by decide +kernel
theorem k136_1 : decode zm136.2.1 1 = .ok (.iconst 0, 1) := by decide +kernel
theorem k136_2 : decode zm136.2.1 2 = .ok (.iconst 2, 1) := by decide +kernel
theorem k136_3 : decode zm136.2.1 3 = .ok (.invokestatic 68, 3) := by decide +kernel
theorem k136_6 : decode zm136.2.1 6 = .ok (.ifCond .ne 6, 3) := by decide +kernel
theorem k136_12 : decode zm136.2.1 12 = .ok (.iconst 0, 1) := by decide +kernel
theorem k136_13 : decode zm136.2.1 13 = .ok (.istore_n 2, 1) := by decide +kernel
theorem k136_14 : decode zm136.2.1 14 = .ok (.iconst (-1), 1) := by decide +kernel
theorem k136_15 : decode zm136.2.1 15 = .ok (.istore_n 3, 1) := by decide +kernel
theorem k136_16 : decode zm136.2.1 16 = .ok (.iconst (-1), 1) := by decide +kernel
theorem k136_17 : decode zm136.2.1 17 = .ok (.istore 4, 2) := by decide +kernel
theorem k136_19 : decode zm136.2.1 19 = .ok (.iconst 0, 1) := by decide +kernel
theorem k136_20 : decode zm136.2.1 20 = .ok (.istore 5, 2) := by decide +kernel
theorem k136_9 : decode zm136.2.1 9 = .ok (.bipush (-3), 2) := by decide +kernel
theorem k136_11 : decode zm136.2.1 11 = .ok (.ireturn, 1) := by decide +kernel
theorem lk_4_69 : zmx 4 69 = some (90, 1) := by decide +kernel
theorem k139_4 : decode zm139.2.1 4 = .ok (.iload_n 3, 1) := by decide +kernel
theorem k139_5 : decode zm139.2.1 5 = .ok (.iconst 4, 1) := by decide +kernel
theorem k139_6 : decode zm139.2.1 6 = .ok (.if_icmp .ge 25, 3) := by decide +kernel
theorem k139_31 : decode zm139.2.1 31 = .ok (.iload_n 2, 1) := by decide +kernel
theorem k139_32 : decode zm139.2.1 32 = .ok (.ireturn, 1) := by decide +kernel
theorem k139_9 : decode zm139.2.1 9 = .ok (.iload_n 2, 1) := by decide +kernel
theorem k139_10 : decode zm139.2.1 10 = .ok (.aload_n 0, 1) := by decide +kernel
theorem k139_11 : decode zm139.2.1 11 = .ok (.iload_n 3, 1) := by decide +kernel
theorem k139_12 : decode zm139.2.1 12 = .ok (.iload_n 1, 1) := by decide +kernel
theorem k139_13 : decode zm139.2.1 13 = .ok (.invokevirtual 69, 3) := by decide +kernel
theorem k139_16 : decode zm139.2.1 16 = .ok (.aload_n 0, 1) := by decide +kernel
theorem k139_17 : decode zm139.2.1 17 = .ok (.iload_n 1, 1) := by decide +kernel
theorem k139_18 : decode zm139.2.1 18 = .ok (.iload_n 3, 1) := by decide +kernel
theorem k139_19 : decode zm139.2.1 19 = .ok (.invokevirtual 69, 3) := by decide +kernel
theorem k139_22 : decode zm139.2.1 22 = .ok (.isub, 1) := by decide +kernel
theorem k139_23 : decode zm139.2.1 23 = .ok (.iadd, 1) := by decide +kernel
theorem k139_24 : decode zm139.2.1 24 = .ok (.istore_n 2, 1) := by decide +kernel
theorem k139_25 : decode zm139.2.1 25 = .ok (.iinc 3 1, 3) := by decide +kernel
theorem k139_28 : decode zm139.2.1 28 = .ok (.goto (-24), 3) := by decide +kernel
theorem k139_0 : decode zm139.2.1 0 = .ok (.iconst 0, 1) := by decide +kernel
theorem k139_1 : decode zm139.2.1 1 = .ok (.istore_n 2, 1) := by decide +kernel
theorem k139_2 : decode zm139.2.1 2 = .ok (.iconst 0, 1) := by decide +kernel
theorem k139_3 : decode zm139.2.1 3 = .ok (.istore_n 3, 1) := by decide +kernel
theorem lk_10_98 : zmx 10 98 = some (153, 1) := by decide +kernel
theorem lk_10_102 : zmx 10 102 = some (155, 1) := by decide +kernel
theorem ci_10_105 : zix 10 105 = some 14025906 := by decide +kernel
theorem ci_10_106 : zix 10 106 = some 175572227 := by decide +kernel
theorem ci_10_107 : zix 10 107 = some 485806130 := by decide +kernel
theorem ci_10_108 : zix 10 108 = some 20100142 := by decide +kernel
theorem ci_10_109 : zix 10 109 = some 5351156 := by decide +kernel
theorem ci_10_110 : zix 10 110 = some 12982003 := by decide +kernel
theorem ci_10_111 : zix 10 111 = some 143661 := by decide +kernel
theorem b8_15 : (Int8.ofInt 15).toInt32 = 15 := by decide
theorem b8_13 : (Int8.ofInt 13).toInt32 = 13 := by decide
theorem k152_19 : decode zm152.2.1 19 = .ok (.istore_n 1, 1) := by decide +kernel
theorem k152_20 : decode zm152.2.1 20 = .ok (.iload_n 1, 1) := by decide +kernel
theorem k152_21 : decode zm152.2.1 21 = .ok (.iconst (-1), 1) := by decide +kernel
theorem k152_22 : decode zm152.2.1 22 = .ok (.if_icmp .eq 7, 3) := by decide +kernel
theorem k152_29 : decode zm152.2.1 29 = .ok (.aload_n 0, 1) := by decide +kernel
theorem k152_30 : decode zm152.2.1 30 = .ok (.ldc 105, 2) := by decide +kernel
theorem k152_32 : decode zm152.2.1 32 = .ok (.iconst 5, 1) := by decide +kernel
theorem k152_33 : decode zm152.2.1 33 = .ok (.iconst 0, 1) := by decide +kernel
theorem k152_34 : decode zm152.2.1 34 = .ok (.invokevirtual 86, 3) := by decide +kernel
theorem k152_37 : decode zm152.2.1 37 = .ok (.ifCond .eq 7, 3) := by decide +kernel
theorem k152_44 : decode zm152.2.1 44 = .ok (.aload_n 0, 1) := by decide +kernel
theorem k152_45 : decode zm152.2.1 45 = .ok (.ldc 106, 2) := by decide +kernel
theorem k152_47 : decode zm152.2.1 47 = .ok (.bipush 6, 2) := by decide +kernel
theorem k152_49 : decode zm152.2.1 49 = .ok (.iconst 0, 1) := by decide +kernel
theorem k152_50 : decode zm152.2.1 50 = .ok (.invokevirtual 86, 3) := by decide +kernel
theorem k152_53 : decode zm152.2.1 53 = .ok (.ifCond .eq 8, 3) := by decide +kernel
theorem k152_61 : decode zm152.2.1 61 = .ok (.aload_n 0, 1) := by decide +kernel
theorem k152_62 : decode zm152.2.1 62 = .ok (.ldc 107, 2) := by decide +kernel
theorem k152_64 : decode zm152.2.1 64 = .ok (.bipush 6, 2) := by decide +kernel
theorem k152_66 : decode zm152.2.1 66 = .ok (.iconst 0, 1) := by decide +kernel
theorem k152_67 : decode zm152.2.1 67 = .ok (.invokevirtual 86, 3) := by decide +kernel
theorem k152_70 : decode zm152.2.1 70 = .ok (.ifCond .eq 8, 3) := by decide +kernel
theorem k152_78 : decode zm152.2.1 78 = .ok (.aload_n 0, 1) := by decide +kernel
theorem k152_79 : decode zm152.2.1 79 = .ok (.ldc 108, 2) := by decide +kernel
theorem k152_81 : decode zm152.2.1 81 = .ok (.iconst 5, 1) := by decide +kernel
theorem k152_82 : decode zm152.2.1 82 = .ok (.iconst 0, 1) := by decide +kernel
theorem k152_83 : decode zm152.2.1 83 = .ok (.invokevirtual 86, 3) := by decide +kernel
theorem k152_86 : decode zm152.2.1 86 = .ok (.ifCond .eq 8, 3) := by decide +kernel
theorem k152_94 : decode zm152.2.1 94 = .ok (.aload_n 0, 1) := by decide +kernel
theorem k152_95 : decode zm152.2.1 95 = .ok (.ldc 109, 2) := by decide +kernel
theorem k152_97 : decode zm152.2.1 97 = .ok (.iconst 5, 1) := by decide +kernel
theorem k152_98 : decode zm152.2.1 98 = .ok (.iconst 0, 1) := by decide +kernel
theorem k152_99 : decode zm152.2.1 99 = .ok (.invokevirtual 86, 3) := by decide +kernel
theorem k152_102 : decode zm152.2.1 102 = .ok (.ifCond .eq 8, 3) := by decide +kernel
theorem k152_110 : decode zm152.2.1 110 = .ok (.aload_n 0, 1) := by decide +kernel
theorem k152_111 : decode zm152.2.1 111 = .ok (.ldc 110, 2) := by decide +kernel
theorem k152_113 : decode zm152.2.1 113 = .ok (.iconst 5, 1) := by decide +kernel
theorem k152_114 : decode zm152.2.1 114 = .ok (.iconst 0, 1) := by decide +kernel
theorem k152_115 : decode zm152.2.1 115 = .ok (.invokevirtual 86, 3) := by decide +kernel
theorem k152_118 : decode zm152.2.1 118 = .ok (.ifCond .eq 8, 3) := by decide +kernel
theorem k152_126 : decode zm152.2.1 126 = .ok (.aload_n 0, 1) := by decide +kernel
theorem k152_127 : decode zm152.2.1 127 = .ok (.ldc 111, 2) := by decide +kernel
theorem k152_129 : decode zm152.2.1 129 = .ok (.iconst 4, 1) := by decide +kernel
theorem k152_130 : decode zm152.2.1 130 = .ok (.iconst 0, 1) := by decide +kernel
theorem k152_131 : decode zm152.2.1 131 = .ok (.invokevirtual 86, 3) := by decide +kernel
theorem k152_134 : decode zm152.2.1 134 = .ok (.ifCond .eq 8, 3) := by decide +kernel
theorem k152_142 : decode zm152.2.1 142 = .ok (.iconst (-1), 1) := by decide +kernel
theorem k152_143 : decode zm152.2.1 143 = .ok (.ireturn, 1) := by decide +kernel
theorem k152_137 : decode zm152.2.1 137 = .ok (.bipush 15, 2) := by decide +kernel
theorem k152_139 : decode zm152.2.1 139 = .ok (.goto 4, 3) := by decide +kernel
theorem k152_121 : decode zm152.2.1 121 = .ok (.bipush 14, 2) := by decide +kernel
theorem k152_123 : decode zm152.2.1 123 = .ok (.goto 20, 3) := by decide +kernel
theorem k152_105 : decode zm152.2.1 105 = .ok (.bipush 13, 2) := by decide +kernel
theorem k152_107 : decode zm152.2.1 107 = .ok (.goto 36, 3) := by decide +kernel
theorem k152_89 : decode zm152.2.1 89 = .ok (.bipush 12, 2) := by decide +kernel
theorem k152_91 : decode zm152.2.1 91 = .ok (.goto 52, 3) := by decide +kernel
theorem k152_73 : decode zm152.2.1 73 = .ok (.bipush 11, 2) := by decide +kernel
theorem k152_75 : decode zm152.2.1 75 = .ok (.goto 68, 3) := by decide +kernel
theorem k152_56 : decode zm152.2.1 56 = .ok (.bipush 6, 2) := by decide +kernel
theorem k152_58 : decode zm152.2.1 58 = .ok (.goto 85, 3) := by decide +kernel
theorem k152_40 : decode zm152.2.1 40 = .ok (.iconst 0, 1) := by decide +kernel
theorem k152_41 : decode zm152.2.1 41 = .ok (.goto 102, 3) := by decide +kernel
theorem k152_25 : decode zm152.2.1 25 = .ok (.iload_n 1, 1) := by decide +kernel
theorem k152_26 : decode zm152.2.1 26 = .ok (.goto 117, 3) := by decide +kernel
theorem k152_0 : decode zm152.2.1 0 = .ok (.aload_n 0, 1) := by decide +kernel
theorem k152_1 : decode zm152.2.1 1 = .ok (.invokevirtual 98, 3) := by decide +kernel
theorem k152_4 : decode zm152.2.1 4 = .ok (.iconst (-1), 1) := by decide +kernel
theorem k152_5 : decode zm152.2.1 5 = .ok (.if_icmp .eq 10, 3) := by decide +kernel
theorem k152_15 : decode zm152.2.1 15 = .ok (.aload_n 0, 1) := by decide +kernel
theorem k152_16 : decode zm152.2.1 16 = .ok (.invokevirtual 102, 3) := by decide +kernel
theorem k152_8 : decode zm152.2.1 8 = .ok (.aload_n 0, 1) := by decide +kernel
theorem k152_9 : decode zm152.2.1 9 = .ok (.invokevirtual 98, 3) := by decide +kernel
theorem k152_12 : decode zm152.2.1 12 = .ok (.goto 7, 3) := by decide +kernel
theorem fk_10_112 : zfx 10 112 = some (10, 6) := by decide +kernel
theorem lk_10_115 : zmx 10 115 = some (149, 1) := by decide +kernel
theorem k159_51 : decode zm159.2.1 51 = .ok (.iload 5, 2) := by decide +kernel
theorem k159_53 : decode zm159.2.1 53 = .ok (.aload_n 0, 1) := by decide +kernel
theorem k159_54 : decode zm159.2.1 54 = .ok (.getfield 82, 3) := by decide +kernel
theorem k159_57 : decode zm159.2.1 57 = .ok (.if_icmp .ge 27, 3) := by decide +kernel
theorem k159_84 : decode zm159.2.1 84 = .ok (.iload 4, 2) := by decide +kernel
theorem k159_86 : decode zm159.2.1 86 = .ok (.i2l, 1) := by decide +kernel
theorem k159_87 : decode zm159.2.1 87 = .ok (.iload_n 2, 1) := by decide +kernel
theorem k159_88 : decode zm159.2.1 88 = .ok (.i2l, 1) := by decide +kernel
theorem k159_89 : decode zm159.2.1 89 = .ok (.iload_n 3, 1) := by decide +kernel
theorem k159_90 : decode zm159.2.1 90 = .ok (.i2l, 1) := by decide +kernel
theorem k159_91 : decode zm159.2.1 91 = .ok (.invokestatic 65, 3) := by decide +kernel
theorem k159_94 : decode zm159.2.1 94 = .ok (.ifCond .ne 5, 3) := by decide +kernel
theorem k159_99 : decode zm159.2.1 99 = .ok (.aload_n 0, 1) := by decide +kernel
theorem k159_100 : decode zm159.2.1 100 = .ok (.getfield 20, 3) := by decide +kernel
theorem k159_103 : decode zm159.2.1 103 = .ok (.iconst 4, 1) := by decide +kernel
theorem k159_104 : decode zm159.2.1 104 = .ok (.aload_n 0, 1) := by decide +kernel
theorem k159_105 : decode zm159.2.1 105 = .ok (.getfield 112, 3) := by decide +kernel
theorem k159_108 : decode zm159.2.1 108 = .ok (.imul, 1) := by decide +kernel
theorem k159_109 : decode zm159.2.1 109 = .ok (.iconst 1, 1) := by decide +kernel
theorem k159_110 : decode zm159.2.1 110 = .ok (.iadd, 1) := by decide +kernel
theorem k159_111 : decode zm159.2.1 111 = .ok (.iload_n 1, 1) := by decide +kernel
theorem k159_112 : decode zm159.2.1 112 = .ok (.iadd, 1) := by decide +kernel
theorem k159_113 : decode zm159.2.1 113 = .ok (.iload 4, 2) := by decide +kernel
theorem k159_115 : decode zm159.2.1 115 = .ok (.iastore, 1) := by decide +kernel
theorem k159_116 : decode zm159.2.1 116 = .ok (.aload_n 0, 1) := by decide +kernel
theorem k159_117 : decode zm159.2.1 117 = .ok (.invokevirtual 115, 3) := by decide +kernel
theorem k159_120 : decode zm159.2.1 120 = .ok (.iconst 1, 1) := by decide +kernel
theorem k159_121 : decode zm159.2.1 121 = .ok (.ireturn, 1) := by decide +kernel
theorem k159_97 : decode zm159.2.1 97 = .ok (.iconst 0, 1) := by decide +kernel
theorem k159_98 : decode zm159.2.1 98 = .ok (.ireturn, 1) := by decide +kernel
theorem k159_60 : decode zm159.2.1 60 = .ok (.bipush 10, 2) := by decide +kernel
theorem k159_62 : decode zm159.2.1 62 = .ok (.iload 4, 2) := by decide +kernel
theorem k159_64 : decode zm159.2.1 64 = .ok (.imul, 1) := by decide +kernel
theorem k159_65 : decode zm159.2.1 65 = .ok (.aload_n 0, 1) := by decide +kernel
theorem k159_66 : decode zm159.2.1 66 = .ok (.getfield 17, 3) := by decide +kernel
theorem k159_69 : decode zm159.2.1 69 = .ok (.iload 5, 2) := by decide +kernel
theorem k159_71 : decode zm159.2.1 71 = .ok (.iaload, 1) := by decide +kernel
theorem k159_72 : decode zm159.2.1 72 = .ok (.iadd, 1) := by decide +kernel
theorem k159_73 : decode zm159.2.1 73 = .ok (.bipush 48, 2) := by decide +kernel
theorem k159_75 : decode zm159.2.1 75 = .ok (.isub, 1) := by decide +kernel
theorem k159_76 : decode zm159.2.1 76 = .ok (.istore 4, 2) := by decide +kernel
theorem k159_78 : decode zm159.2.1 78 = .ok (.iinc 5 1, 3) := by decide +kernel
theorem k159_81 : decode zm159.2.1 81 = .ok (.goto (-30), 3) := by decide +kernel
theorem k159_0 : decode zm159.2.1 0 = .ok (.aload_n 0, 1) := by decide +kernel
theorem k159_1 : decode zm159.2.1 1 = .ok (.getfield 75, 3) := by decide +kernel
theorem k159_4 : decode zm159.2.1 4 = .ok (.aload_n 0, 1) := by decide +kernel
theorem k159_5 : decode zm159.2.1 5 = .ok (.getfield 69, 3) := by decide +kernel
theorem k159_8 : decode zm159.2.1 8 = .ok (.if_icmp .eq 32, 3) := by decide +kernel
theorem k159_40 : decode zm159.2.1 40 = .ok (.iconst 0, 1) := by decide +kernel
theorem k159_41 : decode zm159.2.1 41 = .ok (.ireturn, 1) := by decide +kernel
theorem k159_11 : decode zm159.2.1 11 = .ok (.aload_n 0, 1) := by decide +kernel
theorem k159_12 : decode zm159.2.1 12 = .ok (.getfield 17, 3) := by decide +kernel
theorem k159_15 : decode zm159.2.1 15 = .ok (.aload_n 0, 1) := by decide +kernel
theorem k159_16 : decode zm159.2.1 16 = .ok (.getfield 75, 3) := by decide +kernel
theorem k159_19 : decode zm159.2.1 19 = .ok (.iaload, 1) := by decide +kernel
theorem k159_20 : decode zm159.2.1 20 = .ok (.invokestatic 78, 3) := by decide +kernel
theorem k159_23 : decode zm159.2.1 23 = .ok (.iconst 2, 1) := by decide +kernel
theorem k159_24 : decode zm159.2.1 24 = .ok (.if_icmp .ne 16, 3) := by decide +kernel
theorem k159_27 : decode zm159.2.1 27 = .ok (.aload_n 0, 1) := by decide +kernel
theorem k159_28 : decode zm159.2.1 28 = .ok (.getfield 82, 3) := by decide +kernel
theorem k159_31 : decode zm159.2.1 31 = .ok (.aload_n 0, 1) := by decide +kernel
theorem k159_32 : decode zm159.2.1 32 = .ok (.getfield 75, 3) := by decide +kernel
theorem k159_35 : decode zm159.2.1 35 = .ok (.isub, 1) := by decide +kernel
theorem k159_36 : decode zm159.2.1 36 = .ok (.iconst 2, 1) := by decide +kernel
theorem k159_37 : decode zm159.2.1 37 = .ok (.if_icmp .le 5, 3) := by decide +kernel
theorem k159_42 : decode zm159.2.1 42 = .ok (.iconst 0, 1) := by decide +kernel
theorem k159_43 : decode zm159.2.1 43 = .ok (.istore 4, 2) := by decide +kernel
theorem k159_45 : decode zm159.2.1 45 = .ok (.aload_n 0, 1) := by decide +kernel
theorem k159_46 : decode zm159.2.1 46 = .ok (.getfield 75, 3) := by decide +kernel
theorem k159_49 : decode zm159.2.1 49 = .ok (.istore 5, 2) := by decide +kernel
theorem lk_10_124 : zmx 10 124 = some (156, 0) := by decide +kernel
theorem lk_10_131 : zmx 10 131 = some (157, 0) := by decide +kernel
theorem lk_10_176 : zmx 10 176 = some (165, 1) := by decide +kernel
theorem lk_10_172 : zmx 10 172 = some (164, 1) := by decide +kernel
theorem lk_10_169 : zmx 10 169 = some (163, 1) := by decide +kernel
theorem lk_10_165 : zmx 10 165 = some (162, 1) := by decide +kernel
theorem k161_128 : decode zm161.2.1 128 = .ok (.ior, 1) := by decide +kernel
theorem k161_129 : decode zm161.2.1 129 = .ok (.putfield 162, 3) := by decide +kernel
theorem k161_132 : decode zm161.2.1 132 = .ok (.return_, 1) := by decide +kernel
theorem k161_0 : decode zm161.2.1 0 = .ok (.aload_n 0, 1) := by decide +kernel
theorem k161_1 : decode zm161.2.1 1 = .ok (.getfield 20, 3) := by decide +kernel
theorem k161_4 : decode zm161.2.1 4 = .ok (.iload_n 1, 1) := by decide +kernel
theorem k161_5 : decode zm161.2.1 5 = .ok (.iaload, 1) := by decide +kernel
theorem k161_6 : decode zm161.2.1 6 = .ok (.istore_n 2, 1) := by decide +kernel
theorem k161_7 : decode zm161.2.1 7 = .ok (.aload_n 0, 1) := by decide +kernel
theorem k161_8 : decode zm161.2.1 8 = .ok (.getfield 20, 3) := by decide +kernel
theorem k161_11 : decode zm161.2.1 11 = .ok (.iload_n 1, 1) := by decide +kernel
theorem k161_12 : decode zm161.2.1 12 = .ok (.iconst 1, 1) := by decide +kernel
theorem k161_13 : decode zm161.2.1 13 = .ok (.iadd, 1) := by decide +kernel
theorem k161_14 : decode zm161.2.1 14 = .ok (.iaload, 1) := by decide +kernel
theorem k161_15 : decode zm161.2.1 15 = .ok (.istore_n 3, 1) := by decide +kernel
theorem k161_16 : decode zm161.2.1 16 = .ok (.iload_n 2, 1) := by decide +kernel
theorem k161_17 : decode zm161.2.1 17 = .ok (.invokestatic 124, 3) := by decide +kernel
theorem k161_20 : decode zm161.2.1 20 = .ok (.ifCond .eq 14, 3) := by decide +kernel
theorem k161_34 : decode zm161.2.1 34 = .ok (.iload_n 2, 1) := by decide +kernel
theorem k161_35 : decode zm161.2.1 35 = .ok (.invokestatic 131, 3) := by decide +kernel
theorem k161_38 : decode zm161.2.1 38 = .ok (.ifCond .eq 15, 3) := by decide +kernel
theorem k161_53 : decode zm161.2.1 53 = .ok (.iload_n 2, 1) := by decide +kernel
theorem k161_54 : decode zm161.2.1 54 = .ok (.bipush 6, 2) := by decide +kernel
theorem k161_56 : decode zm161.2.1 56 = .ok (.if_icmp .ne 11, 3) := by decide +kernel
theorem k161_67 : decode zm161.2.1 67 = .ok (.iload_n 2, 1) := by decide +kernel
theorem k161_68 : decode zm161.2.1 68 = .ok (.bipush 11, 2) := by decide +kernel
theorem k161_70 : decode zm161.2.1 70 = .ok (.if_icmp .ne 11, 3) := by decide +kernel
theorem k161_81 : decode zm161.2.1 81 = .ok (.iload_n 2, 1) := by decide +kernel
theorem k161_82 : decode zm161.2.1 82 = .ok (.ifCond .ne 10, 3) := by decide +kernel
theorem k161_92 : decode zm161.2.1 92 = .ok (.aload_n 0, 1) := by decide +kernel
theorem k161_93 : decode zm161.2.1 93 = .ok (.iload_n 2, 1) := by decide +kernel
theorem k161_94 : decode zm161.2.1 94 = .ok (.bipush 15, 2) := by decide +kernel
theorem k161_96 : decode zm161.2.1 96 = .ok (.if_icmp .ne 7, 3) := by decide +kernel
theorem k161_103 : decode zm161.2.1 103 = .ok (.aload_n 0, 1) := by decide +kernel
theorem k161_104 : decode zm161.2.1 104 = .ok (.getfield 162, 3) := by decide +kernel
theorem k161_107 : decode zm161.2.1 107 = .ok (.iload_n 2, 1) := by decide +kernel
theorem k161_108 : decode zm161.2.1 108 = .ok (.bipush 12, 2) := by decide +kernel
theorem k161_110 : decode zm161.2.1 110 = .ok (.if_icmp .ne 7, 3) := by decide +kernel
theorem k161_117 : decode zm161.2.1 117 = .ok (.iload_n 2, 1) := by decide +kernel
theorem k161_118 : decode zm161.2.1 118 = .ok (.bipush 13, 2) := by decide +kernel
theorem k161_120 : decode zm161.2.1 120 = .ok (.if_icmp .ne 7, 3) := by decide +kernel
theorem k161_127 : decode zm161.2.1 127 = .ok (.iconst 4, 1) := by decide +kernel
theorem k161_123 : decode zm161.2.1 123 = .ok (.iconst 2, 1) := by decide +kernel
theorem k161_124 : decode zm161.2.1 124 = .ok (.goto 4, 3) := by decide +kernel
theorem k161_113 : decode zm161.2.1 113 = .ok (.iconst 1, 1) := by decide +kernel
theorem k161_114 : decode zm161.2.1 114 = .ok (.goto 14, 3) := by decide +kernel
theorem k161_99 : decode zm161.2.1 99 = .ok (.iconst 0, 1) := by decide +kernel
theorem k161_100 : decode zm161.2.1 100 = .ok (.goto 29, 3) := by decide +kernel
theorem k161_85 : decode zm161.2.1 85 = .ok (.aload_n 0, 1) := by decide +kernel
theorem k161_86 : decode zm161.2.1 86 = .ok (.invokevirtual 176, 3) := by decide +kernel
theorem k161_89 : decode zm161.2.1 89 = .ok (.goto 43, 3) := by decide +kernel
theorem k161_73 : decode zm161.2.1 73 = .ok (.aload_n 0, 1) := by decide +kernel
theorem k161_74 : decode zm161.2.1 74 = .ok (.iload_n 3, 1) := by decide +kernel
theorem k161_75 : decode zm161.2.1 75 = .ok (.putfield 38, 3) := by decide +kernel
theorem k161_78 : decode zm161.2.1 78 = .ok (.goto 54, 3) := by decide +kernel
theorem k161_59 : decode zm161.2.1 59 = .ok (.aload_n 0, 1) := by decide +kernel
theorem k161_60 : decode zm161.2.1 60 = .ok (.iload_n 1, 1) := by decide +kernel
theorem k161_61 : decode zm161.2.1 61 = .ok (.invokevirtual 172, 3) := by decide +kernel
theorem k161_64 : decode zm161.2.1 64 = .ok (.goto 68, 3) := by decide +kernel
theorem k161_41 : decode zm161.2.1 41 = .ok (.aload_n 0, 1) := by decide +kernel
theorem k161_42 : decode zm161.2.1 42 = .ok (.iload_n 2, 1) := by decide +kernel
theorem k161_43 : decode zm161.2.1 43 = .ok (.bipush 7, 2) := by decide +kernel
theorem k161_45 : decode zm161.2.1 45 = .ok (.isub, 1) := by decide +kernel
theorem k161_46 : decode zm161.2.1 46 = .ok (.iload_n 3, 1) := by decide +kernel
theorem k161_47 : decode zm161.2.1 47 = .ok (.invokevirtual 169, 3) := by decide +kernel
theorem k161_50 : decode zm161.2.1 50 = .ok (.goto 82, 3) := by decide +kernel
theorem k161_23 : decode zm161.2.1 23 = .ok (.aload_n 0, 1) := by decide +kernel
theorem k161_24 : decode zm161.2.1 24 = .ok (.iload_n 2, 1) := by decide +kernel
theorem k161_25 : decode zm161.2.1 25 = .ok (.iconst 1, 1) := by decide +kernel
theorem k161_26 : decode zm161.2.1 26 = .ok (.isub, 1) := by decide +kernel
theorem k161_27 : decode zm161.2.1 27 = .ok (.iload_n 3, 1) := by decide +kernel
theorem k161_28 : decode zm161.2.1 28 = .ok (.invokevirtual 165, 3) := by decide +kernel
theorem k161_31 : decode zm161.2.1 31 = .ok (.goto 101, 3) := by decide +kernel
theorem lk_10_225 : zmx 10 225 = some (167, 1) := by decide +kernel
theorem k166_16 : decode zm166.2.1 16 = .ok (.iload 4, 2) := by decide +kernel
theorem k166_18 : decode zm166.2.1 18 = .ok (.aload_n 0, 1) := by decide +kernel
theorem k166_19 : decode zm166.2.1 19 = .ok (.getfield 155, 3) := by decide +kernel
theorem k166_22 : decode zm166.2.1 22 = .ok (.if_icmp .ge 27, 3) := by decide +kernel
theorem k166_49 : decode zm166.2.1 49 = .ok (.iload_n 2, 1) := by decide +kernel
theorem k166_50 : decode zm166.2.1 50 = .ok (.ifCond .ne 17, 3) := by decide +kernel
theorem k166_67 : decode zm166.2.1 67 = .ok (.iload_n 2, 1) := by decide +kernel
theorem k166_68 : decode zm166.2.1 68 = .ok (.iconst 1, 1) := by decide +kernel
theorem k166_69 : decode zm166.2.1 69 = .ok (.if_icmp .ne 12, 3) := by decide +kernel
theorem k166_81 : decode zm166.2.1 81 = .ok (.iload_n 2, 1) := by decide +kernel
theorem k166_82 : decode zm166.2.1 82 = .ok (.iconst 2, 1) := by decide +kernel
theorem k166_83 : decode zm166.2.1 83 = .ok (.if_icmp .ne 12, 3) := by decide +kernel
theorem k166_95 : decode zm166.2.1 95 = .ok (.iload_n 2, 1) := by decide +kernel
theorem k166_96 : decode zm166.2.1 96 = .ok (.iconst 3, 1) := by decide +kernel
theorem k166_97 : decode zm166.2.1 97 = .ok (.if_icmp .ne 7, 3) := by decide +kernel
theorem k166_104 : decode zm166.2.1 104 = .ok (.bipush (-3), 2) := by decide +kernel
theorem k166_106 : decode zm166.2.1 106 = .ok (.ireturn, 1) := by decide +kernel
theorem k166_100 : decode zm166.2.1 100 = .ok (.iload_n 3, 1) := by decide +kernel
theorem k166_101 : decode zm166.2.1 101 = .ok (.goto 5, 3) := by decide +kernel
theorem k166_86 : decode zm166.2.1 86 = .ok (.aload_n 0, 1) := by decide +kernel
theorem k166_87 : decode zm166.2.1 87 = .ok (.getfield 23, 3) := by decide +kernel
theorem k166_90 : decode zm166.2.1 90 = .ok (.iload_n 1, 1) := by decide +kernel
theorem k166_91 : decode zm166.2.1 91 = .ok (.iaload, 1) := by decide +kernel
theorem k166_92 : decode zm166.2.1 92 = .ok (.goto 14, 3) := by decide +kernel
theorem k166_72 : decode zm166.2.1 72 = .ok (.aload_n 0, 1) := by decide +kernel
theorem k166_73 : decode zm166.2.1 73 = .ok (.getfield 26, 3) := by decide +kernel
theorem k166_76 : decode zm166.2.1 76 = .ok (.iload_n 1, 1) := by decide +kernel
theorem k166_77 : decode zm166.2.1 77 = .ok (.iaload, 1) := by decide +kernel
theorem k166_78 : decode zm166.2.1 78 = .ok (.goto 28, 3) := by decide +kernel
theorem k166_53 : decode zm166.2.1 53 = .ok (.aload_n 0, 1) := by decide +kernel
theorem k166_54 : decode zm166.2.1 54 = .ok (.iload_n 1, 1) := by decide +kernel
theorem k166_55 : decode zm166.2.1 55 = .ok (.aload_n 0, 1) := by decide +kernel
theorem k166_56 : decode zm166.2.1 56 = .ok (.getfield 7, 3) := by decide +kernel
theorem k166_59 : decode zm166.2.1 59 = .ok (.iconst 0, 1) := by decide +kernel
theorem k166_60 : decode zm166.2.1 60 = .ok (.iaload, 1) := by decide +kernel
theorem k166_61 : decode zm166.2.1 61 = .ok (.invokevirtual 197, 3) := by decide +kernel
theorem k166_64 : decode zm166.2.1 64 = .ok (.goto 42, 3) := by decide +kernel
theorem k166_25 : decode zm166.2.1 25 = .ok (.iload_n 3, 1) := by decide +kernel
theorem k166_26 : decode zm166.2.1 26 = .ok (.aload_n 0, 1) := by decide +kernel
theorem k166_27 : decode zm166.2.1 27 = .ok (.getfield 7, 3) := by decide +kernel
theorem k166_30 : decode zm166.2.1 30 = .ok (.bipush 17, 2) := by decide +kernel
theorem k166_32 : decode zm166.2.1 32 = .ok (.bipush 10, 2) := by decide +kernel
theorem k166_34 : decode zm166.2.1 34 = .ok (.iload 4, 2) := by decide +kernel
theorem k166_36 : decode zm166.2.1 36 = .ok (.imul, 1) := by decide +kernel
theorem k166_37 : decode zm166.2.1 37 = .ok (.iadd, 1) := by decide +kernel
theorem k166_38 : decode zm166.2.1 38 = .ok (.iload_n 1, 1) := by decide +kernel
theorem k166_39 : decode zm166.2.1 39 = .ok (.iadd, 1) := by decide +kernel
theorem k166_40 : decode zm166.2.1 40 = .ok (.iaload, 1) := by decide +kernel
theorem k166_41 : decode zm166.2.1 41 = .ok (.iadd, 1) := by decide +kernel
theorem k166_42 : decode zm166.2.1 42 = .ok (.istore_n 3, 1) := by decide +kernel
theorem k166_43 : decode zm166.2.1 43 = .ok (.iinc 4 1, 3) := by decide +kernel
theorem k166_46 : decode zm166.2.1 46 = .ok (.goto (-30), 3) := by decide +kernel
theorem k166_0 : decode zm166.2.1 0 = .ok (.aload_n 0, 1) := by decide +kernel
theorem k166_1 : decode zm166.2.1 1 = .ok (.iload_n 1, 1) := by decide +kernel
theorem k166_2 : decode zm166.2.1 2 = .ok (.invokevirtual 225, 3) := by decide +kernel
theorem k166_5 : decode zm166.2.1 5 = .ok (.ifCond .ne 6, 3) := by decide +kernel
theorem k166_11 : decode zm166.2.1 11 = .ok (.iconst 0, 1) := by decide +kernel
theorem k166_12 : decode zm166.2.1 12 = .ok (.istore_n 3, 1) := by decide +kernel
theorem k166_13 : decode zm166.2.1 13 = .ok (.iconst 0, 1) := by decide +kernel
theorem k166_14 : decode zm166.2.1 14 = .ok (.istore 4, 2) := by decide +kernel
theorem k166_8 : decode zm166.2.1 8 = .ok (.bipush (-2), 2) := by decide +kernel
theorem k166_10 : decode zm166.2.1 10 = .ok (.ireturn, 1) := by decide +kernel
theorem lk_10_228 : zmx 10 228 = some (170, 1) := by decide +kernel
theorem k169_0 : decode zm169.2.1 0 = .ok (.aload_n 0, 1) := by decide +kernel
theorem k169_1 : decode zm169.2.1 1 = .ok (.iload_n 1, 1) := by decide +kernel
theorem k169_2 : decode zm169.2.1 2 = .ok (.invokevirtual 228, 3) := by decide +kernel
theorem k169_5 : decode zm169.2.1 5 = .ok (.ifCond .ne 6, 3) := by decide +kernel
theorem k169_11 : decode zm169.2.1 11 = .ok (.iload_n 2, 1) := by decide +kernel
theorem k169_12 : decode zm169.2.1 12 = .ok (.tableswitch 102 0 6 #[44, 51, 60, 69, 79, 89, 95], 44) := by decide +kernel
theorem k169_56 : decode zm169.2.1 56 = .ok (.aload_n 0, 1) := by decide +kernel
theorem k169_57 : decode zm169.2.1 57 = .ok (.getfield 32, 3) := by decide +kernel
theorem k169_60 : decode zm169.2.1 60 = .ok (.iload_n 1, 1) := by decide +kernel
theorem k169_61 : decode zm169.2.1 61 = .ok (.iaload, 1) := by decide +kernel
theorem k169_62 : decode zm169.2.1 62 = .ok (.ireturn, 1) := by decide +kernel
theorem k169_63 : decode zm169.2.1 63 = .ok (.aload_n 0, 1) := by decide +kernel
theorem k169_64 : decode zm169.2.1 64 = .ok (.getfield 7, 3) := by decide +kernel
