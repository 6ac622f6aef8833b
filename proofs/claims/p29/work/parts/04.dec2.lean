theorem dL_why_31 : decode cL_why 31 = .ok (.iconst 0, 1) := by decide +kernel
theorem dL_why_32 : decode cL_why 32 = .ok (.iload 7, 2) := by decide +kernel
theorem dL_why_34 : decode cL_why 34 = .ok (.iload 4, 2) := by decide +kernel
theorem dL_why_36 : decode cL_why 36 = .ok (.if_icmp .ne 7, 3) := by decide +kernel
theorem dL_why_39 : decode cL_why 39 = .ok (.iconst 1, 1) := by decide +kernel
theorem dL_why_40 : decode cL_why 40 = .ok (.goto 4, 3) := by decide +kernel
theorem dL_why_43 : decode cL_why 43 = .ok (.iconst 0, 1) := by decide +kernel
theorem dL_why_44 : decode cL_why 44 = .ok (.if_icmp .eq 7, 3) := by decide +kernel
theorem dL_why_47 : decode cL_why 47 = .ok (.iconst 1, 1) := by decide +kernel
theorem dL_why_48 : decode cL_why 48 = .ok (.goto 4, 3) := by decide +kernel
theorem dL_why_51 : decode cL_why 51 = .ok (.iconst 0, 1) := by decide +kernel
theorem dL_why_52 : decode cL_why 52 = .ok (.istore 8, 2) := by decide +kernel
theorem dL_why_54 : decode cL_why 54 = .ok (.iload 5, 2) := by decide +kernel
theorem dL_why_56 : decode cL_why 56 = .ok (.iload 8, 2) := by decide +kernel
theorem dL_why_58 : decode cL_why 58 = .ok (.ifCond .eq 7, 3) := by decide +kernel
theorem dL_why_61 : decode cL_why 61 = .ok (.iconst 1, 1) := by decide +kernel
theorem dL_why_62 : decode cL_why 62 = .ok (.goto 4, 3) := by decide +kernel
theorem dL_why_65 : decode cL_why 65 = .ok (.iconst 0, 1) := by decide +kernel
theorem dL_why_66 : decode cL_why 66 = .ok (.iadd, 1) := by decide +kernel
theorem dL_why_67 : decode cL_why 67 = .ok (.istore 5, 2) := by decide +kernel
theorem dL_why_69 : decode cL_why 69 = .ok (.iload 6, 2) := by decide +kernel
theorem dL_why_71 : decode cL_why 71 = .ok (.iload 8, 2) := by decide +kernel
theorem dL_why_73 : decode cL_why 73 = .ok (.ifCond .eq 18, 3) := by decide +kernel
theorem dL_why_76 : decode cL_why 76 = .ok (.aload_n 0, 1) := by decide +kernel
theorem dL_why_77 : decode cL_why 77 = .ok (.aload_n 1, 1) := by decide +kernel
theorem dL_why_78 : decode cL_why 78 = .ok (.iload 7, 2) := by decide +kernel
theorem dL_why_80 : decode cL_why 80 = .ok (.iload_n 3, 1) := by decide +kernel
theorem dL_why_81 : decode cL_why 81 = .ok (.invokestatic 63, 3) := by decide +kernel
theorem dL_why_84 : decode cL_why 84 = .ok (.ifCond .eq 7, 3) := by decide +kernel
theorem dL_why_87 : decode cL_why 87 = .ok (.iconst 1, 1) := by decide +kernel
theorem dL_why_88 : decode cL_why 88 = .ok (.goto 4, 3) := by decide +kernel
theorem dL_why_91 : decode cL_why 91 = .ok (.iconst 0, 1) := by decide +kernel
theorem dL_why_92 : decode cL_why 92 = .ok (.iadd, 1) := by decide +kernel
theorem dL_why_93 : decode cL_why 93 = .ok (.istore 6, 2) := by decide +kernel
theorem dL_why_95 : decode cL_why 95 = .ok (.iinc 7 1, 3) := by decide +kernel
theorem dL_why_98 : decode cL_why 98 = .ok (.goto (-89), 3) := by decide +kernel
theorem dL_why_101 : decode cL_why 101 = .ok (.iload 5, 2) := by decide +kernel
theorem dL_why_103 : decode cL_why 103 = .ok (.aload_n 2, 1) := by decide +kernel
theorem dL_why_104 : decode cL_why 104 = .ok (.iconst 4, 1) := by decide +kernel
theorem dL_why_105 : decode cL_why 105 = .ok (.iaload, 1) := by decide +kernel
theorem dL_why_106 : decode cL_why 106 = .ok (.if_icmp .ge 5, 3) := by decide +kernel
theorem dL_why_109 : decode cL_why 109 = .ok (.iconst 1, 1) := by decide +kernel
theorem dL_why_110 : decode cL_why 110 = .ok (.ireturn, 1) := by decide +kernel
theorem dL_why_111 : decode cL_why 111 = .ok (.iload 6, 2) := by decide +kernel
theorem dL_why_113 : decode cL_why 113 = .ok (.iload 5, 2) := by decide +kernel
theorem dL_why_115 : decode cL_why 115 = .ok (.iload 6, 2) := by decide +kernel
theorem dL_why_117 : decode cL_why 117 = .ok (.isub, 1) := by decide +kernel
theorem dL_why_118 : decode cL_why 118 = .ok (.if_icmp .gt 20, 3) := by decide +kernel
theorem dL_why_121 : decode cL_why 121 = .ok (.aload_n 2, 1) := by decide +kernel
theorem dL_why_122 : decode cL_why 122 = .ok (.iconst 5, 1) := by decide +kernel
theorem dL_why_123 : decode cL_why 123 = .ok (.iaload, 1) := by decide +kernel
theorem dL_why_124 : decode cL_why 124 = .ok (.iconst 1, 1) := by decide +kernel
theorem dL_why_125 : decode cL_why 125 = .ok (.if_icmp .ne 17, 3) := by decide +kernel
theorem dL_why_128 : decode cL_why 128 = .ok (.iload 6, 2) := by decide +kernel
theorem dL_why_130 : decode cL_why 130 = .ok (.iload 5, 2) := by decide +kernel
theorem dL_why_132 : decode cL_why 132 = .ok (.iload 6, 2) := by decide +kernel
theorem dL_why_134 : decode cL_why 134 = .ok (.isub, 1) := by decide +kernel
theorem dL_why_135 : decode cL_why 135 = .ok (.if_icmp .ne 7, 3) := by decide +kernel
theorem dL_why_138 : decode cL_why 138 = .ok (.iconst 0, 1) := by decide +kernel
theorem dL_why_139 : decode cL_why 139 = .ok (.goto 4, 3) := by decide +kernel
theorem dL_why_142 : decode cL_why 142 = .ok (.iconst 2, 1) := by decide +kernel
theorem dL_why_143 : decode cL_why 143 = .ok (.ireturn, 1) := by decide +kernel
theorem dL_much_0 : decode cL_much 0 = .ok (.aload_n 0, 1) := by decide +kernel
theorem dL_much_1 : decode cL_much 1 = .ok (.aload_n 1, 1) := by decide +kernel
theorem dL_much_2 : decode cL_much 2 = .ok (.aload_n 2, 1) := by decide +kernel
theorem dL_much_3 : decode cL_much 3 = .ok (.iload 4, 2) := by decide +kernel
theorem dL_much_5 : decode cL_much 5 = .ok (.iconst (-1), 1) := by decide +kernel
theorem dL_much_6 : decode cL_much 6 = .ok (.invokestatic 69, 3) := by decide +kernel
theorem dL_much_9 : decode cL_much 9 = .ok (.ifCond .ne 23, 3) := by decide +kernel
theorem dL_much_12 : decode cL_much 12 = .ok (.aload_n 2, 1) := by decide +kernel
theorem dL_much_13 : decode cL_much 13 = .ok (.bipush 6, 2) := by decide +kernel
theorem dL_much_15 : decode cL_much 15 = .ok (.iload_n 3, 1) := by decide +kernel
theorem dL_much_16 : decode cL_much 16 = .ok (.iadd, 1) := by decide +kernel
theorem dL_much_17 : decode cL_much 17 = .ok (.iaload, 1) := by decide +kernel
theorem dL_much_18 : decode cL_much 18 = .ok (.aload_n 0, 1) := by decide +kernel
theorem dL_much_19 : decode cL_much 19 = .ok (.iconst 2, 1) := by decide +kernel
theorem dL_much_20 : decode cL_much 20 = .ok (.iload 4, 2) := by decide +kernel
theorem dL_much_22 : decode cL_much 22 = .ok (.imul, 1) := by decide +kernel
theorem dL_much_23 : decode cL_much 23 = .ok (.iconst 1, 1) := by decide +kernel
theorem dL_much_24 : decode cL_much 24 = .ok (.iadd, 1) := by decide +kernel
theorem dL_much_25 : decode cL_much 25 = .ok (.iaload, 1) := by decide +kernel
theorem dL_much_26 : decode cL_much 26 = .ok (.imul, 1) := by decide +kernel
theorem dL_much_27 : decode cL_much 27 = .ok (.iconst 4, 1) := by decide +kernel
theorem dL_much_28 : decode cL_much 28 = .ok (.idiv, 1) := by decide +kernel
theorem dL_much_29 : decode cL_much 29 = .ok (.goto 4, 3) := by decide +kernel
theorem dL_much_32 : decode cL_much 32 = .ok (.iconst 0, 1) := by decide +kernel
theorem dL_much_33 : decode cL_much 33 = .ok (.ireturn, 1) := by decide +kernel
theorem dL_waits_0 : decode cL_waits 0 = .ok (.iconst 0, 1) := by decide +kernel
theorem dL_waits_1 : decode cL_waits 1 = .ok (.istore_n 3, 1) := by decide +kernel
theorem dL_waits_2 : decode cL_waits 2 = .ok (.iconst 0, 1) := by decide +kernel
theorem dL_waits_3 : decode cL_waits 3 = .ok (.istore 4, 2) := by decide +kernel
theorem dL_waits_5 : decode cL_waits 5 = .ok (.iload 4, 2) := by decide +kernel
theorem dL_waits_7 : decode cL_waits 7 = .ok (.aload_n 0, 1) := by decide +kernel
theorem dL_waits_8 : decode cL_waits 8 = .ok (.bipush 9, 2) := by decide +kernel
theorem dL_waits_10 : decode cL_waits 10 = .ok (.iload_n 2, 1) := by decide +kernel
theorem dL_waits_11 : decode cL_waits 11 = .ok (.iadd, 1) := by decide +kernel
theorem dL_waits_12 : decode cL_waits 12 = .ok (.iaload, 1) := by decide +kernel
theorem dL_waits_13 : decode cL_waits 13 = .ok (.if_icmp .ge 24, 3) := by decide +kernel
theorem dL_waits_16 : decode cL_waits 16 = .ok (.iload_n 3, 1) := by decide +kernel
theorem dL_waits_17 : decode cL_waits 17 = .ok (.aload_n 1, 1) := by decide +kernel
theorem dL_waits_18 : decode cL_waits 18 = .ok (.bipush 8, 2) := by decide +kernel
theorem dL_waits_20 : decode cL_waits 20 = .ok (.iload_n 2, 1) := by decide +kernel
theorem dL_waits_21 : decode cL_waits 21 = .ok (.imul, 1) := by decide +kernel
theorem dL_waits_22 : decode cL_waits 22 = .ok (.iload 4, 2) := by decide +kernel
theorem dL_waits_24 : decode cL_waits 24 = .ok (.iadd, 1) := by decide +kernel
theorem dL_waits_25 : decode cL_waits 25 = .ok (.iaload, 1) := by decide +kernel
theorem dL_waits_26 : decode cL_waits 26 = .ok (.bipush 100, 2) := by decide +kernel
theorem dL_waits_28 : decode cL_waits 28 = .ok (.irem, 1) := by decide +kernel
theorem dL_waits_29 : decode cL_waits 29 = .ok (.iadd, 1) := by decide +kernel
theorem dL_waits_30 : decode cL_waits 30 = .ok (.istore_n 3, 1) := by decide +kernel
theorem dL_waits_31 : decode cL_waits 31 = .ok (.iinc 4 1, 3) := by decide +kernel
theorem dL_waits_34 : decode cL_waits 34 = .ok (.goto (-29), 3) := by decide +kernel
theorem dL_waits_37 : decode cL_waits 37 = .ok (.iload_n 3, 1) := by decide +kernel
theorem dL_waits_38 : decode cL_waits 38 = .ok (.ireturn, 1) := by decide +kernel
theorem dL_hour_0 : decode cL_hour 0 = .ok (.iconst 0, 1) := by decide +kernel
theorem dL_hour_1 : decode cL_hour 1 = .ok (.istore 5, 2) := by decide +kernel
theorem dL_hour_3 : decode cL_hour 3 = .ok (.iconst 0, 1) := by decide +kernel
theorem dL_hour_4 : decode cL_hour 4 = .ok (.istore 6, 2) := by decide +kernel
theorem dL_hour_6 : decode cL_hour 6 = .ok (.iload 6, 2) := by decide +kernel
theorem dL_hour_8 : decode cL_hour 8 = .ok (.iconst 3, 1) := by decide +kernel
theorem dL_hour_9 : decode cL_hour 9 = .ok (.if_icmp .ge 157, 3) := by decide +kernel
theorem dL_hour_12 : decode cL_hour 12 = .ok (.aload_n 0, 1) := by decide +kernel
theorem dL_hour_13 : decode cL_hour 13 = .ok (.aload_n 1, 1) := by decide +kernel
theorem dL_hour_14 : decode cL_hour 14 = .ok (.aload_n 2, 1) := by decide +kernel
theorem dL_hour_15 : decode cL_hour 15 = .ok (.iload 6, 2) := by decide +kernel
theorem dL_hour_17 : decode cL_hour 17 = .ok (.aload_n 2, 1) := by decide +kernel
theorem dL_hour_18 : decode cL_hour 18 = .ok (.iconst 0, 1) := by decide +kernel
theorem dL_hour_19 : decode cL_hour 19 = .ok (.iaload, 1) := by decide +kernel
theorem dL_hour_20 : decode cL_hour 20 = .ok (.invokestatic 73, 3) := by decide +kernel
theorem dL_hour_23 : decode cL_hour 23 = .ok (.istore 7, 2) := by decide +kernel
theorem dL_hour_25 : decode cL_hour 25 = .ok (.iload 7, 2) := by decide +kernel
theorem dL_hour_27 : decode cL_hour 27 = .ok (.ifCond .le 133, 3) := by decide +kernel
theorem dL_hour_30 : decode cL_hour 30 = .ok (.aload_n 2, 1) := by decide +kernel
theorem dL_hour_31 : decode cL_hour 31 = .ok (.bipush 9, 2) := by decide +kernel
theorem dL_hour_33 : decode cL_hour 33 = .ok (.iload 6, 2) := by decide +kernel
theorem dL_hour_35 : decode cL_hour 35 = .ok (.iadd, 1) := by decide +kernel
theorem dL_hour_36 : decode cL_hour 36 = .ok (.iaload, 1) := by decide +kernel
theorem dL_hour_37 : decode cL_hour 37 = .ok (.ifCond .le 123, 3) := by decide +kernel
theorem dL_hour_40 : decode cL_hour 40 = .ok (.aload 4, 2) := by decide +kernel
theorem dL_hour_42 : decode cL_hour 42 = .ok (.iconst 3, 1) := by decide +kernel
theorem dL_hour_43 : decode cL_hour 43 = .ok (.aload_n 3, 1) := by decide +kernel
theorem dL_hour_44 : decode cL_hour 44 = .ok (.bipush 8, 2) := by decide +kernel
theorem dL_hour_46 : decode cL_hour 46 = .ok (.iload 6, 2) := by decide +kernel
theorem dL_hour_48 : decode cL_hour 48 = .ok (.imul, 1) := by decide +kernel
theorem dL_hour_49 : decode cL_hour 49 = .ok (.iaload, 1) := by decide +kernel
theorem dL_hour_50 : decode cL_hour 50 = .ok (.bipush 100, 2) := by decide +kernel
theorem dL_hour_52 : decode cL_hour 52 = .ok (.idiv, 1) := by decide +kernel
theorem dL_hour_53 : decode cL_hour 53 = .ok (.imul, 1) := by decide +kernel
theorem dL_hour_54 : decode cL_hour 54 = .ok (.dup2, 1) := by decide +kernel
theorem dL_hour_55 : decode cL_hour 55 = .ok (.iaload, 1) := by decide +kernel
theorem dL_hour_56 : decode cL_hour 56 = .ok (.iconst 1, 1) := by decide +kernel
theorem dL_hour_57 : decode cL_hour 57 = .ok (.iadd, 1) := by decide +kernel
theorem dL_hour_58 : decode cL_hour 58 = .ok (.iastore, 1) := by decide +kernel
theorem dL_hour_59 : decode cL_hour 59 = .ok (.aload_n 3, 1) := by decide +kernel
theorem dL_hour_60 : decode cL_hour 60 = .ok (.bipush 8, 2) := by decide +kernel
theorem dL_hour_62 : decode cL_hour 62 = .ok (.iload 6, 2) := by decide +kernel
theorem dL_hour_64 : decode cL_hour 64 = .ok (.imul, 1) := by decide +kernel
theorem dL_hour_65 : decode cL_hour 65 = .ok (.dup2, 1) := by decide +kernel
theorem dL_hour_66 : decode cL_hour 66 = .ok (.iaload, 1) := by decide +kernel
theorem dL_hour_67 : decode cL_hour 67 = .ok (.iconst 1, 1) := by decide +kernel
theorem dL_hour_68 : decode cL_hour 68 = .ok (.isub, 1) := by decide +kernel
theorem dL_hour_69 : decode cL_hour 69 = .ok (.iastore, 1) := by decide +kernel
theorem dL_hour_70 : decode cL_hour 70 = .ok (.aload_n 2, 1) := by decide +kernel
theorem dL_hour_71 : decode cL_hour 71 = .ok (.bipush 12, 2) := by decide +kernel
theorem dL_hour_73 : decode cL_hour 73 = .ok (.iload 6, 2) := by decide +kernel
theorem dL_hour_75 : decode cL_hour 75 = .ok (.iadd, 1) := by decide +kernel
theorem dL_hour_76 : decode cL_hour 76 = .ok (.dup2, 1) := by decide +kernel
theorem dL_hour_77 : decode cL_hour 77 = .ok (.iaload, 1) := by decide +kernel
theorem dL_hour_78 : decode cL_hour 78 = .ok (.iconst 1, 1) := by decide +kernel
theorem dL_hour_79 : decode cL_hour 79 = .ok (.iadd, 1) := by decide +kernel
theorem dL_hour_80 : decode cL_hour 80 = .ok (.iastore, 1) := by decide +kernel
theorem dL_hour_81 : decode cL_hour 81 = .ok (.iinc 5 1, 3) := by decide +kernel
theorem dL_hour_84 : decode cL_hour 84 = .ok (.aload_n 3, 1) := by decide +kernel
theorem dL_hour_85 : decode cL_hour 85 = .ok (.bipush 8, 2) := by decide +kernel
theorem dL_hour_87 : decode cL_hour 87 = .ok (.iload 6, 2) := by decide +kernel
theorem dL_hour_89 : decode cL_hour 89 = .ok (.imul, 1) := by decide +kernel
theorem dL_hour_90 : decode cL_hour 90 = .ok (.iaload, 1) := by decide +kernel
theorem dL_hour_91 : decode cL_hour 91 = .ok (.bipush 100, 2) := by decide +kernel
theorem dL_hour_93 : decode cL_hour 93 = .ok (.irem, 1) := by decide +kernel
theorem dL_hour_94 : decode cL_hour 94 = .ok (.ifCond .le 6, 3) := by decide +kernel
theorem dL_hour_97 : decode cL_hour 97 = .ok (.goto 57, 3) := by decide +kernel
theorem dL_hour_100 : decode cL_hour 100 = .ok (.aload_n 2, 1) := by decide +kernel
theorem dL_hour_101 : decode cL_hour 101 = .ok (.bipush 9, 2) := by decide +kernel
theorem dL_hour_103 : decode cL_hour 103 = .ok (.iload 6, 2) := by decide +kernel
theorem dL_hour_105 : decode cL_hour 105 = .ok (.iadd, 1) := by decide +kernel
theorem dL_hour_106 : decode cL_hour 106 = .ok (.dup2, 1) := by decide +kernel
theorem dL_hour_107 : decode cL_hour 107 = .ok (.iaload, 1) := by decide +kernel
theorem dL_hour_108 : decode cL_hour 108 = .ok (.iconst 1, 1) := by decide +kernel
theorem dL_hour_109 : decode cL_hour 109 = .ok (.isub, 1) := by decide +kernel
theorem dL_hour_110 : decode cL_hour 110 = .ok (.iastore, 1) := by decide +kernel
theorem dL_hour_111 : decode cL_hour 111 = .ok (.iconst 0, 1) := by decide +kernel
theorem dL_hour_112 : decode cL_hour 112 = .ok (.istore 8, 2) := by decide +kernel
theorem dL_hour_114 : decode cL_hour 114 = .ok (.iload 8, 2) := by decide +kernel
theorem dL_hour_116 : decode cL_hour 116 = .ok (.aload_n 2, 1) := by decide +kernel
theorem dL_hour_117 : decode cL_hour 117 = .ok (.bipush 9, 2) := by decide +kernel
theorem dL_hour_119 : decode cL_hour 119 = .ok (.iload 6, 2) := by decide +kernel
theorem dL_hour_121 : decode cL_hour 121 = .ok (.iadd, 1) := by decide +kernel
theorem dL_hour_122 : decode cL_hour 122 = .ok (.iaload, 1) := by decide +kernel
theorem dL_hour_123 : decode cL_hour 123 = .ok (.if_icmp .ge 31, 3) := by decide +kernel
theorem dL_hour_126 : decode cL_hour 126 = .ok (.aload_n 3, 1) := by decide +kernel
theorem dL_hour_127 : decode cL_hour 127 = .ok (.bipush 8, 2) := by decide +kernel
theorem dL_hour_129 : decode cL_hour 129 = .ok (.iload 6, 2) := by decide +kernel
theorem dL_hour_131 : decode cL_hour 131 = .ok (.imul, 1) := by decide +kernel
theorem dL_hour_132 : decode cL_hour 132 = .ok (.iload 8, 2) := by decide +kernel
theorem dL_hour_134 : decode cL_hour 134 = .ok (.iadd, 1) := by decide +kernel
theorem dL_hour_135 : decode cL_hour 135 = .ok (.aload_n 3, 1) := by decide +kernel
theorem dL_hour_136 : decode cL_hour 136 = .ok (.bipush 8, 2) := by decide +kernel
theorem dL_hour_138 : decode cL_hour 138 = .ok (.iload 6, 2) := by decide +kernel
theorem dL_hour_140 : decode cL_hour 140 = .ok (.imul, 1) := by decide +kernel
theorem dL_hour_141 : decode cL_hour 141 = .ok (.iload 8, 2) := by decide +kernel
theorem dL_hour_143 : decode cL_hour 143 = .ok (.iadd, 1) := by decide +kernel
theorem dL_hour_144 : decode cL_hour 144 = .ok (.iconst 1, 1) := by decide +kernel
theorem dL_hour_145 : decode cL_hour 145 = .ok (.iadd, 1) := by decide +kernel
theorem dL_hour_146 : decode cL_hour 146 = .ok (.iaload, 1) := by decide +kernel
theorem dL_hour_147 : decode cL_hour 147 = .ok (.iastore, 1) := by decide +kernel
theorem dL_hour_148 : decode cL_hour 148 = .ok (.iinc 8 1, 3) := by decide +kernel
theorem dL_hour_151 : decode cL_hour 151 = .ok (.goto (-37), 3) := by decide +kernel
theorem dL_hour_154 : decode cL_hour 154 = .ok (.iinc 7 (-1), 3) := by decide +kernel
theorem dL_hour_157 : decode cL_hour 157 = .ok (.goto (-132), 3) := by decide +kernel
theorem dL_hour_160 : decode cL_hour 160 = .ok (.iinc 6 1, 3) := by decide +kernel
theorem dL_hour_163 : decode cL_hour 163 = .ok (.goto (-157), 3) := by decide +kernel
theorem dL_hour_166 : decode cL_hour 166 = .ok (.aload_n 2, 1) := by decide +kernel
theorem dL_hour_167 : decode cL_hour 167 = .ok (.iconst 2, 1) := by decide +kernel
theorem dL_hour_168 : decode cL_hour 168 = .ok (.dup2, 1) := by decide +kernel
theorem dL_hour_169 : decode cL_hour 169 = .ok (.iaload, 1) := by decide +kernel
theorem dL_hour_170 : decode cL_hour 170 = .ok (.aload_n 0, 1) := by decide +kernel
theorem dL_hour_171 : decode cL_hour 171 = .ok (.aload_n 1, 1) := by decide +kernel
theorem dL_hour_172 : decode cL_hour 172 = .ok (.aload_n 2, 1) := by decide +kernel
theorem dL_hour_173 : decode cL_hour 173 = .ok (.aload_n 2, 1) := by decide +kernel
theorem dL_hour_174 : decode cL_hour 174 = .ok (.iconst 0, 1) := by decide +kernel
theorem dL_hour_175 : decode cL_hour 175 = .ok (.iaload, 1) := by decide +kernel
theorem dL_hour_176 : decode cL_hour 176 = .ok (.iconst (-1), 1) := by decide +kernel
theorem dL_hour_177 : decode cL_hour 177 = .ok (.invokestatic 69, 3) := by decide +kernel
theorem dL_hour_180 : decode cL_hour 180 = .ok (.ifCond .ne 7, 3) := by decide +kernel
theorem dL_hour_183 : decode cL_hour 183 = .ok (.iconst 1, 1) := by decide +kernel
theorem dL_hour_184 : decode cL_hour 184 = .ok (.goto 4, 3) := by decide +kernel
theorem dL_hour_187 : decode cL_hour 187 = .ok (.iconst 0, 1) := by decide +kernel
theorem dL_hour_188 : decode cL_hour 188 = .ok (.iadd, 1) := by decide +kernel
theorem dL_hour_189 : decode cL_hour 189 = .ok (.iastore, 1) := by decide +kernel
theorem dL_hour_190 : decode cL_hour 190 = .ok (.aload_n 2, 1) := by decide +kernel
theorem dL_hour_191 : decode cL_hour 191 = .ok (.iconst 1, 1) := by decide +kernel
theorem dL_hour_192 : decode cL_hour 192 = .ok (.dup2, 1) := by decide +kernel
theorem dL_hour_193 : decode cL_hour 193 = .ok (.iaload, 1) := by decide +kernel
theorem dL_hour_194 : decode cL_hour 194 = .ok (.iconst 1, 1) := by decide +kernel
theorem dL_hour_195 : decode cL_hour 195 = .ok (.iadd, 1) := by decide +kernel
theorem dL_hour_196 : decode cL_hour 196 = .ok (.iastore, 1) := by decide +kernel
theorem dL_hour_197 : decode cL_hour 197 = .ok (.aload_n 2, 1) := by decide +kernel
theorem dL_hour_198 : decode cL_hour 198 = .ok (.iconst 0, 1) := by decide +kernel
theorem dL_hour_199 : decode cL_hour 199 = .ok (.aload_n 2, 1) := by decide +kernel
theorem dL_hour_200 : decode cL_hour 200 = .ok (.iconst 0, 1) := by decide +kernel
theorem dL_hour_201 : decode cL_hour 201 = .ok (.iaload, 1) := by decide +kernel
theorem dL_hour_202 : decode cL_hour 202 = .ok (.bipush 23, 2) := by decide +kernel
theorem dL_hour_204 : decode cL_hour 204 = .ok (.if_icmp .ne 7, 3) := by decide +kernel
theorem dL_hour_207 : decode cL_hour 207 = .ok (.iconst 0, 1) := by decide +kernel
theorem dL_hour_208 : decode cL_hour 208 = .ok (.goto 8, 3) := by decide +kernel
theorem dL_hour_211 : decode cL_hour 211 = .ok (.aload_n 2, 1) := by decide +kernel
theorem dL_hour_212 : decode cL_hour 212 = .ok (.iconst 0, 1) := by decide +kernel
theorem dL_hour_213 : decode cL_hour 213 = .ok (.iaload, 1) := by decide +kernel
theorem dL_hour_214 : decode cL_hour 214 = .ok (.iconst 1, 1) := by decide +kernel
theorem dL_hour_215 : decode cL_hour 215 = .ok (.iadd, 1) := by decide +kernel
theorem dL_hour_216 : decode cL_hour 216 = .ok (.iastore, 1) := by decide +kernel
theorem dL_hour_217 : decode cL_hour 217 = .ok (.iload 5, 2) := by decide +kernel
theorem dL_hour_219 : decode cL_hour 219 = .ok (.ireturn, 1) := by decide +kernel
theorem dL_copy_0 : decode cL_copy 0 = .ok (.iconst 0, 1) := by decide +kernel
theorem dL_copy_1 : decode cL_copy 1 = .ok (.istore_n 2, 1) := by decide +kernel
theorem dL_copy_2 : decode cL_copy 2 = .ok (.iload_n 2, 1) := by decide +kernel
theorem dL_copy_3 : decode cL_copy 3 = .ok (.aload_n 0, 1) := by decide +kernel
theorem dL_copy_4 : decode cL_copy 4 = .ok (.arraylength, 1) := by decide +kernel
theorem dL_copy_5 : decode cL_copy 5 = .ok (.if_icmp .ge 15, 3) := by decide +kernel
theorem dL_copy_8 : decode cL_copy 8 = .ok (.aload_n 1, 1) := by decide +kernel
theorem dL_copy_9 : decode cL_copy 9 = .ok (.iload_n 2, 1) := by decide +kernel
theorem dL_copy_10 : decode cL_copy 10 = .ok (.aload_n 0, 1) := by decide +kernel
theorem dL_copy_11 : decode cL_copy 11 = .ok (.iload_n 2, 1) := by decide +kernel
theorem dL_copy_12 : decode cL_copy 12 = .ok (.iaload, 1) := by decide +kernel
theorem dL_copy_13 : decode cL_copy 13 = .ok (.iastore, 1) := by decide +kernel
theorem dL_copy_14 : decode cL_copy 14 = .ok (.iinc 2 1, 3) := by decide +kernel
theorem dL_copy_17 : decode cL_copy 17 = .ok (.goto (-15), 3) := by decide +kernel
theorem dL_copy_20 : decode cL_copy 20 = .ok (.return_, 1) := by decide +kernel
theorem dL_areWinds_0 : decode cL_areWinds 0 = .ok (.iconst 0, 1) := by decide +kernel
theorem dL_areWinds_1 : decode cL_areWinds 1 = .ok (.istore 4, 2) := by decide +kernel
theorem dL_areWinds_3 : decode cL_areWinds 3 = .ok (.iconst (-1), 1) := by decide +kernel
theorem dL_areWinds_4 : decode cL_areWinds 4 = .ok (.istore 5, 2) := by decide +kernel
theorem dL_areWinds_6 : decode cL_areWinds 6 = .ok (.iconst 0, 1) := by decide +kernel
theorem dL_areWinds_7 : decode cL_areWinds 7 = .ok (.istore 6, 2) := by decide +kernel
theorem dL_areWinds_9 : decode cL_areWinds 9 = .ok (.iload 6, 2) := by decide +kernel
theorem dL_areWinds_11 : decode cL_areWinds 11 = .ok (.bipush 24, 2) := by decide +kernel
theorem dL_areWinds_13 : decode cL_areWinds 13 = .ok (.if_icmp .ge 192, 3) := by decide +kernel
theorem dL_areWinds_16 : decode cL_areWinds 16 = .ok (.iconst 0, 1) := by decide +kernel
theorem dL_areWinds_17 : decode cL_areWinds 17 = .ok (.istore 7, 2) := by decide +kernel
theorem dL_areWinds_19 : decode cL_areWinds 19 = .ok (.iconst 0, 1) := by decide +kernel
theorem dL_areWinds_20 : decode cL_areWinds 20 = .ok (.istore 8, 2) := by decide +kernel
theorem dL_areWinds_22 : decode cL_areWinds 22 = .ok (.iload 8, 2) := by decide +kernel
theorem dL_areWinds_24 : decode cL_areWinds 24 = .ok (.bipush 6, 2) := by decide +kernel
theorem dL_areWinds_26 : decode cL_areWinds 26 = .ok (.if_icmp .ge 42, 3) := by decide +kernel
theorem dL_areWinds_29 : decode cL_areWinds 29 = .ok (.iload 7, 2) := by decide +kernel
theorem dL_areWinds_31 : decode cL_areWinds 31 = .ok (.aload_n 2, 1) := by decide +kernel
theorem dL_areWinds_32 : decode cL_areWinds 32 = .ok (.iconst 4, 1) := by decide +kernel
theorem dL_areWinds_33 : decode cL_areWinds 33 = .ok (.iload 8, 2) := by decide +kernel
theorem dL_areWinds_35 : decode cL_areWinds 35 = .ok (.imul, 1) := by decide +kernel
theorem dL_areWinds_36 : decode cL_areWinds 36 = .ok (.iconst 3, 1) := by decide +kernel
theorem dL_areWinds_37 : decode cL_areWinds 37 = .ok (.iadd, 1) := by decide +kernel
theorem dL_areWinds_38 : decode cL_areWinds 38 = .ok (.iaload, 1) := by decide +kernel
theorem dL_areWinds_39 : decode cL_areWinds 39 = .ok (.ifCond .ne 19, 3) := by decide +kernel
theorem dL_areWinds_42 : decode cL_areWinds 42 = .ok (.aload_n 1, 1) := by decide +kernel
theorem dL_areWinds_43 : decode cL_areWinds 43 = .ok (.aload_n 2, 1) := by decide +kernel
theorem dL_areWinds_44 : decode cL_areWinds 44 = .ok (.iload 8, 2) := by decide +kernel
theorem dL_areWinds_46 : decode cL_areWinds 46 = .ok (.iload 6, 2) := by decide +kernel
theorem dL_areWinds_48 : decode cL_areWinds 48 = .ok (.invokestatic 63, 3) := by decide +kernel
theorem dL_areWinds_51 : decode cL_areWinds 51 = .ok (.ifCond .eq 7, 3) := by decide +kernel
theorem dL_areWinds_54 : decode cL_areWinds 54 = .ok (.iconst 1, 1) := by decide +kernel
theorem dL_areWinds_55 : decode cL_areWinds 55 = .ok (.goto 4, 3) := by decide +kernel
theorem dL_areWinds_58 : decode cL_areWinds 58 = .ok (.iconst 0, 1) := by decide +kernel
theorem dL_areWinds_59 : decode cL_areWinds 59 = .ok (.iadd, 1) := by decide +kernel
theorem dL_areWinds_60 : decode cL_areWinds 60 = .ok (.istore 7, 2) := by decide +kernel
theorem dL_areWinds_62 : decode cL_areWinds 62 = .ok (.iinc 8 1, 3) := by decide +kernel
theorem dL_areWinds_65 : decode cL_areWinds 65 = .ok (.goto (-43), 3) := by decide +kernel
theorem dL_areWinds_68 : decode cL_areWinds 68 = .ok (.aload_n 1, 1) := by decide +kernel
theorem dL_areWinds_69 : decode cL_areWinds 69 = .ok (.aload_n 2, 1) := by decide +kernel
theorem dL_areWinds_70 : decode cL_areWinds 70 = .ok (.aload_n 3, 1) := by decide +kernel
theorem dL_areWinds_71 : decode cL_areWinds 71 = .ok (.iload 6, 2) := by decide +kernel
theorem dL_areWinds_73 : decode cL_areWinds 73 = .ok (.iconst (-1), 1) := by decide +kernel
theorem dL_areWinds_74 : decode cL_areWinds 74 = .ok (.invokestatic 69, 3) := by decide +kernel
theorem dL_areWinds_77 : decode cL_areWinds 77 = .ok (.istore 8, 2) := by decide +kernel
theorem dL_areWinds_79 : decode cL_areWinds 79 = .ok (.iconst 0, 1) := by decide +kernel
theorem dL_areWinds_80 : decode cL_areWinds 80 = .ok (.istore 9, 2) := by decide +kernel
theorem dL_areWinds_82 : decode cL_areWinds 82 = .ok (.iconst 0, 1) := by decide +kernel
theorem dL_areWinds_83 : decode cL_areWinds 83 = .ok (.istore 10, 2) := by decide +kernel
theorem dL_areWinds_85 : decode cL_areWinds 85 = .ok (.iload 10, 2) := by decide +kernel
theorem dL_areWinds_87 : decode cL_areWinds 87 = .ok (.iconst 3, 1) := by decide +kernel
theorem dL_areWinds_88 : decode cL_areWinds 88 = .ok (.if_icmp .ge 24, 3) := by decide +kernel
theorem dL_areWinds_91 : decode cL_areWinds 91 = .ok (.iload 9, 2) := by decide +kernel
theorem dL_areWinds_93 : decode cL_areWinds 93 = .ok (.aload_n 1, 1) := by decide +kernel
theorem dL_areWinds_94 : decode cL_areWinds 94 = .ok (.aload_n 2, 1) := by decide +kernel
theorem dL_areWinds_95 : decode cL_areWinds 95 = .ok (.aload_n 3, 1) := by decide +kernel
theorem dL_areWinds_96 : decode cL_areWinds 96 = .ok (.iload 10, 2) := by decide +kernel
theorem dL_areWinds_98 : decode cL_areWinds 98 = .ok (.iload 6, 2) := by decide +kernel
theorem dL_areWinds_100 : decode cL_areWinds 100 = .ok (.invokestatic 73, 3) := by decide +kernel
theorem dL_areWinds_103 : decode cL_areWinds 103 = .ok (.iadd, 1) := by decide +kernel
theorem dL_areWinds_104 : decode cL_areWinds 104 = .ok (.istore 9, 2) := by decide +kernel
theorem dL_areWinds_106 : decode cL_areWinds 106 = .ok (.iinc 10 1, 3) := by decide +kernel
theorem dL_areWinds_109 : decode cL_areWinds 109 = .ok (.goto (-24), 3) := by decide +kernel
theorem dL_areWinds_112 : decode cL_areWinds 112 = .ok (.iload 4, 2) := by decide +kernel
theorem dL_areWinds_114 : decode cL_areWinds 114 = .ok (.iload 8, 2) := by decide +kernel
theorem dL_areWinds_116 : decode cL_areWinds 116 = .ok (.ifCond .ne 7, 3) := by decide +kernel
theorem dL_areWinds_119 : decode cL_areWinds 119 = .ok (.iconst 1, 1) := by decide +kernel
theorem dL_areWinds_120 : decode cL_areWinds 120 = .ok (.goto 4, 3) := by decide +kernel
theorem dL_areWinds_123 : decode cL_areWinds 123 = .ok (.iconst 0, 1) := by decide +kernel
theorem dL_areWinds_124 : decode cL_areWinds 124 = .ok (.iadd, 1) := by decide +kernel
theorem dL_areWinds_125 : decode cL_areWinds 125 = .ok (.istore 4, 2) := by decide +kernel
theorem dL_areWinds_127 : decode cL_areWinds 127 = .ok (.aload_n 0, 1) := by decide +kernel
theorem dL_areWinds_128 : decode cL_areWinds 128 = .ok (.iload 6, 2) := by decide +kernel
theorem dL_areWinds_130 : decode cL_areWinds 130 = .ok (.iconst 0, 1) := by decide +kernel
theorem dL_areWinds_131 : decode cL_areWinds 131 = .ok (.invokevirtual 45, 3) := by decide +kernel
theorem dL_areWinds_134 : decode cL_areWinds 134 = .ok (.aload_n 1, 1) := by decide +kernel
theorem dL_areWinds_135 : decode cL_areWinds 135 = .ok (.iconst 2, 1) := by decide +kernel
theorem dL_areWinds_136 : decode cL_areWinds 136 = .ok (.iload 6, 2) := by decide +kernel
theorem dL_areWinds_138 : decode cL_areWinds 138 = .ok (.imul, 1) := by decide +kernel
theorem dL_areWinds_139 : decode cL_areWinds 139 = .ok (.iaload, 1) := by decide +kernel
theorem dL_areWinds_140 : decode cL_areWinds 140 = .ok (.if_icmp .ne 57, 3) := by decide +kernel
theorem dL_areWinds_143 : decode cL_areWinds 143 = .ok (.aload_n 0, 1) := by decide +kernel
theorem dL_areWinds_144 : decode cL_areWinds 144 = .ok (.iload 6, 2) := by decide +kernel
theorem dL_areWinds_146 : decode cL_areWinds 146 = .ok (.iconst 1, 1) := by decide +kernel
theorem dL_areWinds_147 : decode cL_areWinds 147 = .ok (.invokevirtual 45, 3) := by decide +kernel
theorem dL_areWinds_150 : decode cL_areWinds 150 = .ok (.aload_n 1, 1) := by decide +kernel
theorem dL_areWinds_151 : decode cL_areWinds 151 = .ok (.iconst 2, 1) := by decide +kernel
theorem dL_areWinds_152 : decode cL_areWinds 152 = .ok (.iload 6, 2) := by decide +kernel
theorem dL_areWinds_154 : decode cL_areWinds 154 = .ok (.imul, 1) := by decide +kernel
theorem dL_areWinds_155 : decode cL_areWinds 155 = .ok (.iconst 1, 1) := by decide +kernel
theorem dL_areWinds_156 : decode cL_areWinds 156 = .ok (.iadd, 1) := by decide +kernel
theorem dL_areWinds_157 : decode cL_areWinds 157 = .ok (.iaload, 1) := by decide +kernel
theorem dL_areWinds_158 : decode cL_areWinds 158 = .ok (.if_icmp .ne 39, 3) := by decide +kernel
theorem dL_areWinds_161 : decode cL_areWinds 161 = .ok (.aload_n 0, 1) := by decide +kernel
theorem dL_areWinds_162 : decode cL_areWinds 162 = .ok (.iload 6, 2) := by decide +kernel
theorem dL_areWinds_164 : decode cL_areWinds 164 = .ok (.iconst 2, 1) := by decide +kernel
theorem dL_areWinds_165 : decode cL_areWinds 165 = .ok (.invokevirtual 45, 3) := by decide +kernel
theorem dL_areWinds_168 : decode cL_areWinds 168 = .ok (.iload 7, 2) := by decide +kernel
theorem dL_areWinds_170 : decode cL_areWinds 170 = .ok (.if_icmp .ne 27, 3) := by decide +kernel
theorem dL_areWinds_173 : decode cL_areWinds 173 = .ok (.aload_n 0, 1) := by decide +kernel
theorem dL_areWinds_174 : decode cL_areWinds 174 = .ok (.iload 6, 2) := by decide +kernel
theorem dL_areWinds_176 : decode cL_areWinds 176 = .ok (.iconst 3, 1) := by decide +kernel
theorem dL_areWinds_177 : decode cL_areWinds 177 = .ok (.invokevirtual 45, 3) := by decide +kernel
theorem dL_areWinds_180 : decode cL_areWinds 180 = .ok (.iload 8, 2) := by decide +kernel
theorem dL_areWinds_182 : decode cL_areWinds 182 = .ok (.if_icmp .ne 15, 3) := by decide +kernel
theorem dL_areWinds_185 : decode cL_areWinds 185 = .ok (.aload_n 0, 1) := by decide +kernel
theorem dL_areWinds_186 : decode cL_areWinds 186 = .ok (.iload 6, 2) := by decide +kernel
theorem dL_areWinds_188 : decode cL_areWinds 188 = .ok (.iconst 4, 1) := by decide +kernel
theorem dL_areWinds_189 : decode cL_areWinds 189 = .ok (.invokevirtual 45, 3) := by decide +kernel
theorem dL_areWinds_192 : decode cL_areWinds 192 = .ok (.iload 9, 2) := by decide +kernel
theorem dL_areWinds_194 : decode cL_areWinds 194 = .ok (.if_icmp .eq 5, 3) := by decide +kernel
theorem dL_areWinds_197 : decode cL_areWinds 197 = .ok (.iconst 0, 1) := by decide +kernel
theorem dL_areWinds_198 : decode cL_areWinds 198 = .ok (.ireturn, 1) := by decide +kernel
theorem dL_areWinds_199 : decode cL_areWinds 199 = .ok (.iinc 6 1, 3) := by decide +kernel
theorem dL_areWinds_202 : decode cL_areWinds 202 = .ok (.goto (-193), 3) := by decide +kernel
theorem dL_areWinds_205 : decode cL_areWinds 205 = .ok (.bipush 23, 2) := by decide +kernel
theorem dL_areWinds_207 : decode cL_areWinds 207 = .ok (.istore 6, 2) := by decide +kernel
theorem dL_areWinds_209 : decode cL_areWinds 209 = .ok (.iload 6, 2) := by decide +kernel
theorem dL_areWinds_211 : decode cL_areWinds 211 = .ok (.ifCond .lt 37, 3) := by decide +kernel
theorem dL_areWinds_214 : decode cL_areWinds 214 = .ok (.aload_n 1, 1) := by decide +kernel
theorem dL_areWinds_215 : decode cL_areWinds 215 = .ok (.aload_n 2, 1) := by decide +kernel
theorem dL_areWinds_216 : decode cL_areWinds 216 = .ok (.aload_n 3, 1) := by decide +kernel
theorem dL_areWinds_217 : decode cL_areWinds 217 = .ok (.aload_n 3, 1) := by decide +kernel
theorem dL_areWinds_218 : decode cL_areWinds 218 = .ok (.iconst 0, 1) := by decide +kernel
theorem dL_areWinds_219 : decode cL_areWinds 219 = .ok (.iaload, 1) := by decide +kernel
theorem dL_areWinds_220 : decode cL_areWinds 220 = .ok (.iload 6, 2) := by decide +kernel
theorem dL_areWinds_222 : decode cL_areWinds 222 = .ok (.iadd, 1) := by decide +kernel
theorem dL_areWinds_223 : decode cL_areWinds 223 = .ok (.bipush 24, 2) := by decide +kernel
theorem dL_areWinds_225 : decode cL_areWinds 225 = .ok (.irem, 1) := by decide +kernel
theorem dL_areWinds_226 : decode cL_areWinds 226 = .ok (.iconst (-1), 1) := by decide +kernel
theorem dL_areWinds_227 : decode cL_areWinds 227 = .ok (.invokestatic 69, 3) := by decide +kernel
theorem dL_areWinds_230 : decode cL_areWinds 230 = .ok (.ifCond .ne 8, 3) := by decide +kernel
theorem dL_areWinds_233 : decode cL_areWinds 233 = .ok (.iload 6, 2) := by decide +kernel
theorem dL_areWinds_235 : decode cL_areWinds 235 = .ok (.goto 5, 3) := by decide +kernel
theorem dL_areWinds_238 : decode cL_areWinds 238 = .ok (.iload 5, 2) := by decide +kernel
theorem dL_areWinds_240 : decode cL_areWinds 240 = .ok (.istore 5, 2) := by decide +kernel
theorem dL_areWinds_242 : decode cL_areWinds 242 = .ok (.iinc 6 (-1), 3) := by decide +kernel
theorem dL_areWinds_245 : decode cL_areWinds 245 = .ok (.goto (-36), 3) := by decide +kernel
theorem dL_areWinds_248 : decode cL_areWinds 248 = .ok (.iconst 0, 1) := by decide +kernel
theorem dL_areWinds_249 : decode cL_areWinds 249 = .ok (.istore 6, 2) := by decide +kernel
theorem dL_areWinds_251 : decode cL_areWinds 251 = .ok (.iconst (-1), 1) := by decide +kernel
theorem dL_areWinds_252 : decode cL_areWinds 252 = .ok (.istore 7, 2) := by decide +kernel
theorem dL_areWinds_254 : decode cL_areWinds 254 = .ok (.iconst 0, 1) := by decide +kernel
theorem dL_areWinds_255 : decode cL_areWinds 255 = .ok (.istore 8, 2) := by decide +kernel
theorem dL_areWinds_257 : decode cL_areWinds 257 = .ok (.iconst 0, 1) := by decide +kernel
theorem dL_areWinds_258 : decode cL_areWinds 258 = .ok (.istore 9, 2) := by decide +kernel
theorem dL_areWinds_260 : decode cL_areWinds 260 = .ok (.iload 9, 2) := by decide +kernel
theorem dL_areWinds_262 : decode cL_areWinds 262 = .ok (.bipush 6, 2) := by decide +kernel
theorem dL_areWinds_264 : decode cL_areWinds 264 = .ok (.if_icmp .ge 211, 3) := by decide +kernel
theorem dL_areWinds_267 : decode cL_areWinds 267 = .ok (.iconst 0, 1) := by decide +kernel
theorem dL_areWinds_268 : decode cL_areWinds 268 = .ok (.istore 10, 2) := by decide +kernel
theorem dL_areWinds_270 : decode cL_areWinds 270 = .ok (.iconst 0, 1) := by decide +kernel
theorem dL_areWinds_271 : decode cL_areWinds 271 = .ok (.istore 11, 2) := by decide +kernel
theorem dL_areWinds_273 : decode cL_areWinds 273 = .ok (.iload 8, 2) := by decide +kernel
theorem dL_areWinds_275 : decode cL_areWinds 275 = .ok (.iconst 1, 1) := by decide +kernel
theorem dL_areWinds_276 : decode cL_areWinds 276 = .ok (.aload_n 2, 1) := by decide +kernel
theorem dL_areWinds_277 : decode cL_areWinds 277 = .ok (.iconst 4, 1) := by decide +kernel
theorem dL_areWinds_278 : decode cL_areWinds 278 = .ok (.iload 9, 2) := by decide +kernel
theorem dL_areWinds_280 : decode cL_areWinds 280 = .ok (.imul, 1) := by decide +kernel
theorem dL_areWinds_281 : decode cL_areWinds 281 = .ok (.iconst 3, 1) := by decide +kernel
theorem dL_areWinds_282 : decode cL_areWinds 282 = .ok (.iadd, 1) := by decide +kernel
theorem dL_areWinds_283 : decode cL_areWinds 283 = .ok (.iaload, 1) := by decide +kernel
theorem dL_areWinds_284 : decode cL_areWinds 284 = .ok (.isub, 1) := by decide +kernel
theorem dL_areWinds_285 : decode cL_areWinds 285 = .ok (.iadd, 1) := by decide +kernel
theorem dL_areWinds_286 : decode cL_areWinds 286 = .ok (.istore 8, 2) := by decide +kernel
theorem dL_areWinds_288 : decode cL_areWinds 288 = .ok (.iconst 0, 1) := by decide +kernel
theorem dL_areWinds_289 : decode cL_areWinds 289 = .ok (.istore 12, 2) := by decide +kernel
theorem dL_areWinds_291 : decode cL_areWinds 291 = .ok (.iload 12, 2) := by decide +kernel
theorem dL_areWinds_293 : decode cL_areWinds 293 = .ok (.bipush 24, 2) := by decide +kernel
theorem dL_areWinds_295 : decode cL_areWinds 295 = .ok (.if_icmp .ge 79, 3) := by decide +kernel
theorem dL_areWinds_298 : decode cL_areWinds 298 = .ok (.iload 10, 2) := by decide +kernel
theorem dL_areWinds_300 : decode cL_areWinds 300 = .ok (.aload_n 1, 1) := by decide +kernel
theorem dL_areWinds_301 : decode cL_areWinds 301 = .ok (.aload_n 2, 1) := by decide +kernel
theorem dL_areWinds_302 : decode cL_areWinds 302 = .ok (.iload 9, 2) := by decide +kernel
theorem dL_areWinds_304 : decode cL_areWinds 304 = .ok (.iload 12, 2) := by decide +kernel
theorem dL_areWinds_306 : decode cL_areWinds 306 = .ok (.invokestatic 63, 3) := by decide +kernel
theorem dL_areWinds_309 : decode cL_areWinds 309 = .ok (.ifCond .eq 7, 3) := by decide +kernel
theorem dL_areWinds_312 : decode cL_areWinds 312 = .ok (.iconst 1, 1) := by decide +kernel
theorem dL_areWinds_313 : decode cL_areWinds 313 = .ok (.goto 4, 3) := by decide +kernel
theorem dL_areWinds_316 : decode cL_areWinds 316 = .ok (.iconst 0, 1) := by decide +kernel
theorem dL_areWinds_317 : decode cL_areWinds 317 = .ok (.iadd, 1) := by decide +kernel
theorem dL_areWinds_318 : decode cL_areWinds 318 = .ok (.istore 10, 2) := by decide +kernel
theorem dL_areWinds_320 : decode cL_areWinds 320 = .ok (.iload 11, 2) := by decide +kernel
theorem dL_areWinds_322 : decode cL_areWinds 322 = .ok (.aload_n 1, 1) := by decide +kernel
theorem dL_areWinds_323 : decode cL_areWinds 323 = .ok (.aload_n 2, 1) := by decide +kernel
theorem dL_areWinds_324 : decode cL_areWinds 324 = .ok (.aload_n 3, 1) := by decide +kernel
theorem dL_areWinds_325 : decode cL_areWinds 325 = .ok (.iload 12, 2) := by decide +kernel
theorem dL_areWinds_327 : decode cL_areWinds 327 = .ok (.iconst (-1), 1) := by decide +kernel
theorem dL_areWinds_328 : decode cL_areWinds 328 = .ok (.invokestatic 69, 3) := by decide +kernel
theorem dL_areWinds_331 : decode cL_areWinds 331 = .ok (.ifCond .ne 7, 3) := by decide +kernel
theorem dL_areWinds_334 : decode cL_areWinds 334 = .ok (.iconst 1, 1) := by decide +kernel
theorem dL_areWinds_335 : decode cL_areWinds 335 = .ok (.goto 4, 3) := by decide +kernel
theorem dL_areWinds_338 : decode cL_areWinds 338 = .ok (.iconst 0, 1) := by decide +kernel
theorem dL_areWinds_339 : decode cL_areWinds 339 = .ok (.aload_n 1, 1) := by decide +kernel
theorem dL_areWinds_340 : decode cL_areWinds 340 = .ok (.aload_n 2, 1) := by decide +kernel
theorem dL_areWinds_341 : decode cL_areWinds 341 = .ok (.aload_n 3, 1) := by decide +kernel
theorem dL_areWinds_342 : decode cL_areWinds 342 = .ok (.iload 12, 2) := by decide +kernel
theorem dL_areWinds_344 : decode cL_areWinds 344 = .ok (.iload 9, 2) := by decide +kernel
theorem dL_areWinds_346 : decode cL_areWinds 346 = .ok (.invokestatic 69, 3) := by decide +kernel
theorem dL_areWinds_349 : decode cL_areWinds 349 = .ok (.ifCond .ne 7, 3) := by decide +kernel
theorem dL_areWinds_352 : decode cL_areWinds 352 = .ok (.iconst 1, 1) := by decide +kernel
theorem dL_areWinds_353 : decode cL_areWinds 353 = .ok (.goto 4, 3) := by decide +kernel
theorem dL_areWinds_356 : decode cL_areWinds 356 = .ok (.iconst 0, 1) := by decide +kernel
theorem dL_areWinds_357 : decode cL_areWinds 357 = .ok (.if_icmp .eq 7, 3) := by decide +kernel
theorem dL_areWinds_360 : decode cL_areWinds 360 = .ok (.iconst 1, 1) := by decide +kernel
theorem dL_areWinds_361 : decode cL_areWinds 361 = .ok (.goto 4, 3) := by decide +kernel
theorem dL_areWinds_364 : decode cL_areWinds 364 = .ok (.iconst 0, 1) := by decide +kernel
theorem dL_areWinds_365 : decode cL_areWinds 365 = .ok (.iadd, 1) := by decide +kernel
theorem dL_areWinds_366 : decode cL_areWinds 366 = .ok (.istore 11, 2) := by decide +kernel
theorem dL_areWinds_368 : decode cL_areWinds 368 = .ok (.iinc 12 1, 3) := by decide +kernel
theorem dL_areWinds_371 : decode cL_areWinds 371 = .ok (.goto (-80), 3) := by decide +kernel
theorem dL_areWinds_374 : decode cL_areWinds 374 = .ok (.iconst 0, 1) := by decide +kernel
theorem dL_areWinds_375 : decode cL_areWinds 375 = .ok (.istore 12, 2) := by decide +kernel
theorem dL_areWinds_377 : decode cL_areWinds 377 = .ok (.iload 12, 2) := by decide +kernel
theorem dL_areWinds_379 : decode cL_areWinds 379 = .ok (.iconst 4, 1) := by decide +kernel
theorem dL_areWinds_380 : decode cL_areWinds 380 = .ok (.if_icmp .ge 31, 3) := by decide +kernel
theorem dL_areWinds_383 : decode cL_areWinds 383 = .ok (.aload_n 0, 1) := by decide +kernel
theorem dL_areWinds_384 : decode cL_areWinds 384 = .ok (.iload 9, 2) := by decide +kernel
theorem dL_areWinds_386 : decode cL_areWinds 386 = .ok (.iload 12, 2) := by decide +kernel
theorem dL_areWinds_388 : decode cL_areWinds 388 = .ok (.invokevirtual 48, 3) := by decide +kernel
theorem dL_areWinds_391 : decode cL_areWinds 391 = .ok (.aload_n 2, 1) := by decide +kernel
theorem dL_areWinds_392 : decode cL_areWinds 392 = .ok (.iconst 4, 1) := by decide +kernel
theorem dL_areWinds_393 : decode cL_areWinds 393 = .ok (.iload 9, 2) := by decide +kernel
theorem dL_areWinds_395 : decode cL_areWinds 395 = .ok (.imul, 1) := by decide +kernel
theorem dL_areWinds_396 : decode cL_areWinds 396 = .ok (.iload 12, 2) := by decide +kernel
theorem dL_areWinds_398 : decode cL_areWinds 398 = .ok (.iadd, 1) := by decide +kernel
theorem dL_areWinds_399 : decode cL_areWinds 399 = .ok (.iaload, 1) := by decide +kernel
theorem dL_areWinds_400 : decode cL_areWinds 400 = .ok (.if_icmp .eq 5, 3) := by decide +kernel
theorem dL_areWinds_403 : decode cL_areWinds 403 = .ok (.iconst 0, 1) := by decide +kernel
theorem dL_areWinds_404 : decode cL_areWinds 404 = .ok (.ireturn, 1) := by decide +kernel
theorem dL_areWinds_405 : decode cL_areWinds 405 = .ok (.iinc 12 1, 3) := by decide +kernel
theorem dL_areWinds_408 : decode cL_areWinds 408 = .ok (.goto (-31), 3) := by decide +kernel
theorem dL_areWinds_411 : decode cL_areWinds 411 = .ok (.aload_n 0, 1) := by decide +kernel
theorem dL_areWinds_412 : decode cL_areWinds 412 = .ok (.iload 9, 2) := by decide +kernel
theorem dL_areWinds_414 : decode cL_areWinds 414 = .ok (.iconst 4, 1) := by decide +kernel
theorem dL_areWinds_415 : decode cL_areWinds 415 = .ok (.invokevirtual 48, 3) := by decide +kernel
theorem dL_areWinds_418 : decode cL_areWinds 418 = .ok (.iload 10, 2) := by decide +kernel
theorem dL_areWinds_420 : decode cL_areWinds 420 = .ok (.if_icmp .ne 15, 3) := by decide +kernel
theorem dL_areWinds_423 : decode cL_areWinds 423 = .ok (.aload_n 0, 1) := by decide +kernel
theorem dL_areWinds_424 : decode cL_areWinds 424 = .ok (.iload 9, 2) := by decide +kernel
theorem dL_areWinds_426 : decode cL_areWinds 426 = .ok (.iconst 5, 1) := by decide +kernel
theorem dL_areWinds_427 : decode cL_areWinds 427 = .ok (.invokevirtual 48, 3) := by decide +kernel
theorem dL_areWinds_430 : decode cL_areWinds 430 = .ok (.iload 11, 2) := by decide +kernel
theorem dL_areWinds_432 : decode cL_areWinds 432 = .ok (.if_icmp .eq 5, 3) := by decide +kernel
theorem dL_areWinds_435 : decode cL_areWinds 435 = .ok (.iconst 0, 1) := by decide +kernel
theorem dL_areWinds_436 : decode cL_areWinds 436 = .ok (.ireturn, 1) := by decide +kernel
theorem dL_areWinds_437 : decode cL_areWinds 437 = .ok (.iload 11, 2) := by decide +kernel
theorem dL_areWinds_439 : decode cL_areWinds 439 = .ok (.iload 7, 2) := by decide +kernel
theorem dL_areWinds_441 : decode cL_areWinds 441 = .ok (.if_icmp .le 8, 3) := by decide +kernel
theorem dL_areWinds_444 : decode cL_areWinds 444 = .ok (.iload 9, 2) := by decide +kernel
theorem dL_areWinds_446 : decode cL_areWinds 446 = .ok (.goto 5, 3) := by decide +kernel
theorem dL_areWinds_449 : decode cL_areWinds 449 = .ok (.iload 6, 2) := by decide +kernel
theorem dL_areWinds_451 : decode cL_areWinds 451 = .ok (.istore 6, 2) := by decide +kernel
theorem dL_areWinds_453 : decode cL_areWinds 453 = .ok (.iload 11, 2) := by decide +kernel
theorem dL_areWinds_455 : decode cL_areWinds 455 = .ok (.iload 7, 2) := by decide +kernel
theorem dL_areWinds_457 : decode cL_areWinds 457 = .ok (.if_icmp .le 8, 3) := by decide +kernel
theorem dL_areWinds_460 : decode cL_areWinds 460 = .ok (.iload 11, 2) := by decide +kernel
theorem dL_areWinds_462 : decode cL_areWinds 462 = .ok (.goto 5, 3) := by decide +kernel
theorem dL_areWinds_465 : decode cL_areWinds 465 = .ok (.iload 7, 2) := by decide +kernel
theorem dL_areWinds_467 : decode cL_areWinds 467 = .ok (.istore 7, 2) := by decide +kernel
theorem dL_areWinds_469 : decode cL_areWinds 469 = .ok (.iinc 9 1, 3) := by decide +kernel
theorem dL_areWinds_472 : decode cL_areWinds 472 = .ok (.goto (-212), 3) := by decide +kernel
theorem dL_areWinds_475 : decode cL_areWinds 475 = .ok (.aload_n 0, 1) := by decide +kernel
theorem dL_areWinds_476 : decode cL_areWinds 476 = .ok (.iconst 3, 1) := by decide +kernel
theorem dL_areWinds_477 : decode cL_areWinds 477 = .ok (.invokevirtual 76, 3) := by decide +kernel
theorem dL_areWinds_480 : decode cL_areWinds 480 = .ok (.iload 8, 2) := by decide +kernel
theorem dL_areWinds_482 : decode cL_areWinds 482 = .ok (.if_icmp .ne 72, 3) := by decide +kernel
theorem dL_areWinds_485 : decode cL_areWinds 485 = .ok (.aload_n 0, 1) := by decide +kernel
theorem dL_areWinds_486 : decode cL_areWinds 486 = .ok (.iconst 4, 1) := by decide +kernel
theorem dL_areWinds_487 : decode cL_areWinds 487 = .ok (.invokevirtual 76, 3) := by decide +kernel
theorem dL_areWinds_490 : decode cL_areWinds 490 = .ok (.iload 4, 2) := by decide +kernel
theorem dL_areWinds_492 : decode cL_areWinds 492 = .ok (.if_icmp .ne 62, 3) := by decide +kernel
theorem dL_areWinds_495 : decode cL_areWinds 495 = .ok (.aload_n 0, 1) := by decide +kernel
theorem dL_areWinds_496 : decode cL_areWinds 496 = .ok (.invokevirtual 79, 3) := by decide +kernel
theorem dL_areWinds_499 : decode cL_areWinds 499 = .ok (.iload 5, 2) := by decide +kernel
theorem dL_areWinds_501 : decode cL_areWinds 501 = .ok (.if_icmp .ne 53, 3) := by decide +kernel
theorem dL_areWinds_504 : decode cL_areWinds 504 = .ok (.aload_n 0, 1) := by decide +kernel
theorem dL_areWinds_505 : decode cL_areWinds 505 = .ok (.invokevirtual 82, 3) := by decide +kernel
theorem dL_areWinds_508 : decode cL_areWinds 508 = .ok (.iload 6, 2) := by decide +kernel
theorem dL_areWinds_510 : decode cL_areWinds 510 = .ok (.if_icmp .ne 44, 3) := by decide +kernel
theorem dL_areWinds_513 : decode cL_areWinds 513 = .ok (.aload_n 0, 1) := by decide +kernel
theorem dL_areWinds_514 : decode cL_areWinds 514 = .ok (.invokevirtual 85, 3) := by decide +kernel
theorem dL_areWinds_517 : decode cL_areWinds 517 = .ok (.iload 4, 2) := by decide +kernel
theorem dL_areWinds_519 : decode cL_areWinds 519 = .ok (.i2d, 1) := by decide +kernel
theorem dL_areWinds_520 : decode cL_areWinds 520 = .ok (.ldc2_w 89, 3) := by decide +kernel
theorem dL_areWinds_523 : decode cL_areWinds 523 = .ok (.ddiv, 1) := by decide +kernel
theorem dL_areWinds_524 : decode cL_areWinds 524 = .ok (.dcmp .l, 1) := by decide +kernel
theorem dL_areWinds_525 : decode cL_areWinds 525 = .ok (.ifCond .ne 29, 3) := by decide +kernel
theorem dL_areWinds_528 : decode cL_areWinds 528 = .ok (.aload_n 0, 1) := by decide +kernel
theorem dL_areWinds_529 : decode cL_areWinds 529 = .ok (.iconst 0, 1) := by decide +kernel
theorem dL_areWinds_530 : decode cL_areWinds 530 = .ok (.invokevirtual 91, 3) := by decide +kernel
theorem dL_areWinds_533 : decode cL_areWinds 533 = .ok (.aload_n 3, 1) := by decide +kernel
theorem dL_areWinds_534 : decode cL_areWinds 534 = .ok (.iconst 4, 1) := by decide +kernel
theorem dL_areWinds_535 : decode cL_areWinds 535 = .ok (.iaload, 1) := by decide +kernel
theorem dL_areWinds_536 : decode cL_areWinds 536 = .ok (.if_icmp .ne 18, 3) := by decide +kernel
theorem dL_areWinds_539 : decode cL_areWinds 539 = .ok (.aload_n 0, 1) := by decide +kernel
theorem dL_areWinds_540 : decode cL_areWinds 540 = .ok (.iconst 1, 1) := by decide +kernel
theorem dL_areWinds_541 : decode cL_areWinds 541 = .ok (.invokevirtual 91, 3) := by decide +kernel
theorem dL_areWinds_544 : decode cL_areWinds 544 = .ok (.aload_n 3, 1) := by decide +kernel
theorem dL_areWinds_545 : decode cL_areWinds 545 = .ok (.iconst 5, 1) := by decide +kernel
theorem dL_areWinds_546 : decode cL_areWinds 546 = .ok (.iaload, 1) := by decide +kernel
theorem dL_areWinds_547 : decode cL_areWinds 547 = .ok (.if_icmp .ne 7, 3) := by decide +kernel
theorem dL_areWinds_550 : decode cL_areWinds 550 = .ok (.iconst 1, 1) := by decide +kernel
theorem dL_areWinds_551 : decode cL_areWinds 551 = .ok (.goto 4, 3) := by decide +kernel
theorem dL_areWinds_554 : decode cL_areWinds 554 = .ok (.iconst 0, 1) := by decide +kernel
theorem dL_areWinds_555 : decode cL_areWinds 555 = .ok (.ireturn, 1) := by decide +kernel
theorem dL_areSacks_0 : decode cL_areSacks 0 = .ok (.iconst 0, 1) := by decide +kernel
theorem dL_areSacks_1 : decode cL_areSacks 1 = .ok (.istore 6, 2) := by decide +kernel
theorem dL_areSacks_3 : decode cL_areSacks 3 = .ok (.iconst 0, 1) := by decide +kernel
theorem dL_areSacks_4 : decode cL_areSacks 4 = .ok (.istore 7, 2) := by decide +kernel
theorem dL_areSacks_6 : decode cL_areSacks 6 = .ok (.iconst 0, 1) := by decide +kernel
theorem dL_areSacks_7 : decode cL_areSacks 7 = .ok (.istore 8, 2) := by decide +kernel
theorem dL_areSacks_9 : decode cL_areSacks 9 = .ok (.iload 8, 2) := by decide +kernel
theorem dL_areSacks_11 : decode cL_areSacks 11 = .ok (.iconst 3, 1) := by decide +kernel
theorem dL_areSacks_12 : decode cL_areSacks 12 = .ok (.if_icmp .ge 286, 3) := by decide +kernel
theorem dL_areSacks_15 : decode cL_areSacks 15 = .ok (.iconst 0, 1) := by decide +kernel
theorem dL_areSacks_16 : decode cL_areSacks 16 = .ok (.istore 9, 2) := by decide +kernel
theorem dL_areSacks_18 : decode cL_areSacks 18 = .ok (.iconst 0, 1) := by decide +kernel
theorem dL_areSacks_19 : decode cL_areSacks 19 = .ok (.istore 10, 2) := by decide +kernel
theorem dL_areSacks_21 : decode cL_areSacks 21 = .ok (.iload 10, 2) := by decide +kernel
theorem dL_areSacks_23 : decode cL_areSacks 23 = .ok (.bipush 24, 2) := by decide +kernel
theorem dL_areSacks_25 : decode cL_areSacks 25 = .ok (.if_icmp .ge 24, 3) := by decide +kernel
theorem dL_areSacks_28 : decode cL_areSacks 28 = .ok (.iload 9, 2) := by decide +kernel
theorem dL_areSacks_30 : decode cL_areSacks 30 = .ok (.aload_n 1, 1) := by decide +kernel
theorem dL_areSacks_31 : decode cL_areSacks 31 = .ok (.aload_n 2, 1) := by decide +kernel
theorem dL_areSacks_32 : decode cL_areSacks 32 = .ok (.aload_n 3, 1) := by decide +kernel
theorem dL_areSacks_33 : decode cL_areSacks 33 = .ok (.iload 8, 2) := by decide +kernel
theorem dL_areSacks_35 : decode cL_areSacks 35 = .ok (.iload 10, 2) := by decide +kernel
theorem dL_areSacks_37 : decode cL_areSacks 37 = .ok (.invokestatic 73, 3) := by decide +kernel
theorem dL_areSacks_40 : decode cL_areSacks 40 = .ok (.iadd, 1) := by decide +kernel
theorem dL_areSacks_41 : decode cL_areSacks 41 = .ok (.istore 9, 2) := by decide +kernel
theorem dL_areSacks_43 : decode cL_areSacks 43 = .ok (.iinc 10 1, 3) := by decide +kernel
theorem dL_areSacks_46 : decode cL_areSacks 46 = .ok (.goto (-25), 3) := by decide +kernel
theorem dL_areSacks_49 : decode cL_areSacks 49 = .ok (.aload_n 3, 1) := by decide +kernel
theorem dL_areSacks_50 : decode cL_areSacks 50 = .ok (.aload 4, 2) := by decide +kernel
theorem dL_areSacks_52 : decode cL_areSacks 52 = .ok (.iload 8, 2) := by decide +kernel
theorem dL_areSacks_54 : decode cL_areSacks 54 = .ok (.invokestatic 94, 3) := by decide +kernel
theorem dL_areSacks_57 : decode cL_areSacks 57 = .ok (.istore 10, 2) := by decide +kernel
theorem dL_areSacks_59 : decode cL_areSacks 59 = .ok (.iload 6, 2) := by decide +kernel
theorem dL_areSacks_61 : decode cL_areSacks 61 = .ok (.iload 10, 2) := by decide +kernel
theorem dL_areSacks_63 : decode cL_areSacks 63 = .ok (.iadd, 1) := by decide +kernel
theorem dL_areSacks_64 : decode cL_areSacks 64 = .ok (.istore 6, 2) := by decide +kernel
theorem dL_areSacks_66 : decode cL_areSacks 66 = .ok (.aload_n 0, 1) := by decide +kernel
theorem dL_areSacks_67 : decode cL_areSacks 67 = .ok (.iload 8, 2) := by decide +kernel
theorem dL_areSacks_69 : decode cL_areSacks 69 = .ok (.iconst 0, 1) := by decide +kernel
theorem dL_areSacks_70 : decode cL_areSacks 70 = .ok (.invokevirtual 51, 3) := by decide +kernel
theorem dL_areSacks_73 : decode cL_areSacks 73 = .ok (.aload_n 3, 1) := by decide +kernel
theorem dL_areSacks_74 : decode cL_areSacks 74 = .ok (.bipush 6, 2) := by decide +kernel
theorem dL_areSacks_76 : decode cL_areSacks 76 = .ok (.iload 8, 2) := by decide +kernel
theorem dL_areSacks_78 : decode cL_areSacks 78 = .ok (.iadd, 1) := by decide +kernel
theorem dL_areSacks_79 : decode cL_areSacks 79 = .ok (.iaload, 1) := by decide +kernel
theorem dL_areSacks_80 : decode cL_areSacks 80 = .ok (.if_icmp .ne 96, 3) := by decide +kernel
theorem dL_areSacks_83 : decode cL_areSacks 83 = .ok (.aload_n 0, 1) := by decide +kernel
theorem dL_areSacks_84 : decode cL_areSacks 84 = .ok (.iload 8, 2) := by decide +kernel
theorem dL_areSacks_86 : decode cL_areSacks 86 = .ok (.iconst 1, 1) := by decide +kernel
theorem dL_areSacks_87 : decode cL_areSacks 87 = .ok (.invokevirtual 51, 3) := by decide +kernel
theorem dL_areSacks_90 : decode cL_areSacks 90 = .ok (.aload_n 3, 1) := by decide +kernel
theorem dL_areSacks_91 : decode cL_areSacks 91 = .ok (.bipush 9, 2) := by decide +kernel
theorem dL_areSacks_93 : decode cL_areSacks 93 = .ok (.iload 8, 2) := by decide +kernel
theorem dL_areSacks_95 : decode cL_areSacks 95 = .ok (.iadd, 1) := by decide +kernel
theorem dL_areSacks_96 : decode cL_areSacks 96 = .ok (.iaload, 1) := by decide +kernel
theorem dL_areSacks_97 : decode cL_areSacks 97 = .ok (.if_icmp .ne 79, 3) := by decide +kernel
theorem dL_areSacks_100 : decode cL_areSacks 100 = .ok (.aload_n 0, 1) := by decide +kernel
theorem dL_areSacks_101 : decode cL_areSacks 101 = .ok (.iload 8, 2) := by decide +kernel
theorem dL_areSacks_103 : decode cL_areSacks 103 = .ok (.iconst 2, 1) := by decide +kernel
theorem dL_areSacks_104 : decode cL_areSacks 104 = .ok (.invokevirtual 51, 3) := by decide +kernel
theorem dL_areSacks_107 : decode cL_areSacks 107 = .ok (.iload 10, 2) := by decide +kernel
theorem dL_areSacks_109 : decode cL_areSacks 109 = .ok (.if_icmp .ne 67, 3) := by decide +kernel
theorem dL_areSacks_112 : decode cL_areSacks 112 = .ok (.aload_n 0, 1) := by decide +kernel
theorem dL_areSacks_113 : decode cL_areSacks 113 = .ok (.iload 8, 2) := by decide +kernel
theorem dL_areSacks_115 : decode cL_areSacks 115 = .ok (.iconst 3, 1) := by decide +kernel
theorem dL_areSacks_116 : decode cL_areSacks 116 = .ok (.invokevirtual 51, 3) := by decide +kernel
theorem dL_areSacks_119 : decode cL_areSacks 119 = .ok (.aload_n 3, 1) := by decide +kernel
theorem dL_areSacks_120 : decode cL_areSacks 120 = .ok (.bipush 12, 2) := by decide +kernel
theorem dL_areSacks_122 : decode cL_areSacks 122 = .ok (.iload 8, 2) := by decide +kernel
theorem dL_areSacks_124 : decode cL_areSacks 124 = .ok (.iadd, 1) := by decide +kernel
theorem dL_areSacks_125 : decode cL_areSacks 125 = .ok (.iaload, 1) := by decide +kernel
theorem dL_areSacks_126 : decode cL_areSacks 126 = .ok (.if_icmp .ne 50, 3) := by decide +kernel
theorem dL_areSacks_129 : decode cL_areSacks 129 = .ok (.aload_n 0, 1) := by decide +kernel
theorem dL_areSacks_130 : decode cL_areSacks 130 = .ok (.iload 8, 2) := by decide +kernel
theorem dL_areSacks_132 : decode cL_areSacks 132 = .ok (.iconst 4, 1) := by decide +kernel
theorem dL_areSacks_133 : decode cL_areSacks 133 = .ok (.invokevirtual 51, 3) := by decide +kernel
theorem dL_areSacks_136 : decode cL_areSacks 136 = .ok (.aload_n 3, 1) := by decide +kernel
theorem dL_areSacks_137 : decode cL_areSacks 137 = .ok (.bipush 9, 2) := by decide +kernel
theorem dL_areSacks_139 : decode cL_areSacks 139 = .ok (.iload 8, 2) := by decide +kernel
theorem dL_areSacks_141 : decode cL_areSacks 141 = .ok (.iadd, 1) := by decide +kernel
theorem dL_areSacks_142 : decode cL_areSacks 142 = .ok (.iaload, 1) := by decide +kernel
theorem dL_areSacks_143 : decode cL_areSacks 143 = .ok (.ifCond .ne 7, 3) := by decide +kernel
theorem dL_areSacks_146 : decode cL_areSacks 146 = .ok (.iconst (-1), 1) := by decide +kernel
theorem dL_areSacks_147 : decode cL_areSacks 147 = .ok (.goto 14, 3) := by decide +kernel
theorem dL_areSacks_150 : decode cL_areSacks 150 = .ok (.aload 4, 2) := by decide +kernel
theorem dL_areSacks_152 : decode cL_areSacks 152 = .ok (.bipush 8, 2) := by decide +kernel
theorem dL_areSacks_154 : decode cL_areSacks 154 = .ok (.iload 8, 2) := by decide +kernel
theorem dL_areSacks_156 : decode cL_areSacks 156 = .ok (.imul, 1) := by decide +kernel
theorem dL_areSacks_157 : decode cL_areSacks 157 = .ok (.iaload, 1) := by decide +kernel
theorem dL_areSacks_158 : decode cL_areSacks 158 = .ok (.bipush 100, 2) := by decide +kernel
theorem dL_areSacks_160 : decode cL_areSacks 160 = .ok (.idiv, 1) := by decide +kernel
theorem dL_areSacks_161 : decode cL_areSacks 161 = .ok (.if_icmp .ne 15, 3) := by decide +kernel
theorem dL_areSacks_164 : decode cL_areSacks 164 = .ok (.aload_n 0, 1) := by decide +kernel
theorem dL_areSacks_165 : decode cL_areSacks 165 = .ok (.iload 8, 2) := by decide +kernel
theorem dL_areSacks_167 : decode cL_areSacks 167 = .ok (.iconst 5, 1) := by decide +kernel
theorem dL_areSacks_168 : decode cL_areSacks 168 = .ok (.invokevirtual 51, 3) := by decide +kernel
theorem dL_areSacks_171 : decode cL_areSacks 171 = .ok (.iload 9, 2) := by decide +kernel
theorem dL_areSacks_173 : decode cL_areSacks 173 = .ok (.if_icmp .eq 5, 3) := by decide +kernel
theorem dL_areSacks_176 : decode cL_areSacks 176 = .ok (.iconst 0, 1) := by decide +kernel
theorem dL_areSacks_177 : decode cL_areSacks 177 = .ok (.ireturn, 1) := by decide +kernel
theorem dL_areSacks_178 : decode cL_areSacks 178 = .ok (.iconst (-1), 1) := by decide +kernel
theorem dL_areSacks_179 : decode cL_areSacks 179 = .ok (.istore 11, 2) := by decide +kernel
theorem dL_areSacks_181 : decode cL_areSacks 181 = .ok (.iload 10, 2) := by decide +kernel
theorem dL_areSacks_183 : decode cL_areSacks 183 = .ok (.ifCond .ne 6, 3) := by decide +kernel
theorem dL_areSacks_186 : decode cL_areSacks 186 = .ok (.iconst 0, 1) := by decide +kernel
theorem dL_areSacks_187 : decode cL_areSacks 187 = .ok (.istore 11, 2) := by decide +kernel
theorem dL_areSacks_189 : decode cL_areSacks 189 = .ok (.iload 10, 2) := by decide +kernel
theorem dL_areSacks_191 : decode cL_areSacks 191 = .ok (.ifCond .le 75, 3) := by decide +kernel
theorem dL_areSacks_194 : decode cL_areSacks 194 = .ok (.iload 9, 2) := by decide +kernel
theorem dL_areSacks_196 : decode cL_areSacks 196 = .ok (.ifCond .le 70, 3) := by decide +kernel
theorem dL_areSacks_199 : decode cL_areSacks 199 = .ok (.iload 10, 2) := by decide +kernel
theorem dL_areSacks_201 : decode cL_areSacks 201 = .ok (.iconst 1, 1) := by decide +kernel
theorem dL_areSacks_202 : decode cL_areSacks 202 = .ok (.isub, 1) := by decide +kernel
theorem dL_areSacks_203 : decode cL_areSacks 203 = .ok (.iload 9, 2) := by decide +kernel
theorem dL_areSacks_205 : decode cL_areSacks 205 = .ok (.idiv, 1) := by decide +kernel
theorem dL_areSacks_206 : decode cL_areSacks 206 = .ok (.bipush 24, 2) := by decide +kernel
theorem dL_areSacks_208 : decode cL_areSacks 208 = .ok (.imul, 1) := by decide +kernel
theorem dL_areSacks_209 : decode cL_areSacks 209 = .ok (.istore 11, 2) := by decide +kernel
theorem dL_areSacks_211 : decode cL_areSacks 211 = .ok (.iload 10, 2) := by decide +kernel
theorem dL_areSacks_213 : decode cL_areSacks 213 = .ok (.iload 10, 2) := by decide +kernel
theorem dL_areSacks_215 : decode cL_areSacks 215 = .ok (.iconst 1, 1) := by decide +kernel
theorem dL_areSacks_216 : decode cL_areSacks 216 = .ok (.isub, 1) := by decide +kernel
theorem dL_areSacks_217 : decode cL_areSacks 217 = .ok (.iload 9, 2) := by decide +kernel
theorem dL_areSacks_219 : decode cL_areSacks 219 = .ok (.idiv, 1) := by decide +kernel
theorem dL_areSacks_220 : decode cL_areSacks 220 = .ok (.iload 9, 2) := by decide +kernel
theorem dL_areSacks_222 : decode cL_areSacks 222 = .ok (.imul, 1) := by decide +kernel
theorem dL_areSacks_223 : decode cL_areSacks 223 = .ok (.isub, 1) := by decide +kernel
theorem dL_areSacks_224 : decode cL_areSacks 224 = .ok (.istore 10, 2) := by decide +kernel
theorem dL_areSacks_226 : decode cL_areSacks 226 = .ok (.aload_n 3, 1) := by decide +kernel
theorem dL_areSacks_227 : decode cL_areSacks 227 = .ok (.iconst 0, 1) := by decide +kernel
theorem dL_areSacks_228 : decode cL_areSacks 228 = .ok (.iaload, 1) := by decide +kernel
theorem dL_areSacks_229 : decode cL_areSacks 229 = .ok (.istore 12, 2) := by decide +kernel
theorem dL_areSacks_231 : decode cL_areSacks 231 = .ok (.iload 10, 2) := by decide +kernel
theorem dL_areSacks_233 : decode cL_areSacks 233 = .ok (.ifCond .le 33, 3) := by decide +kernel
theorem dL_areSacks_236 : decode cL_areSacks 236 = .ok (.iload 10, 2) := by decide +kernel
theorem dL_areSacks_238 : decode cL_areSacks 238 = .ok (.aload_n 1, 1) := by decide +kernel
theorem dL_areSacks_239 : decode cL_areSacks 239 = .ok (.aload_n 2, 1) := by decide +kernel
theorem dL_areSacks_240 : decode cL_areSacks 240 = .ok (.aload_n 3, 1) := by decide +kernel
theorem dL_areSacks_241 : decode cL_areSacks 241 = .ok (.iload 8, 2) := by decide +kernel
theorem dL_areSacks_243 : decode cL_areSacks 243 = .ok (.iload 12, 2) := by decide +kernel
theorem dL_areSacks_245 : decode cL_areSacks 245 = .ok (.invokestatic 73, 3) := by decide +kernel
theorem dL_areSacks_248 : decode cL_areSacks 248 = .ok (.isub, 1) := by decide +kernel
theorem dL_areSacks_249 : decode cL_areSacks 249 = .ok (.istore 10, 2) := by decide +kernel
theorem dL_areSacks_251 : decode cL_areSacks 251 = .ok (.iinc 11 1, 3) := by decide +kernel
theorem dL_areSacks_254 : decode cL_areSacks 254 = .ok (.iload 12, 2) := by decide +kernel
theorem dL_areSacks_256 : decode cL_areSacks 256 = .ok (.iconst 1, 1) := by decide +kernel
theorem dL_areSacks_257 : decode cL_areSacks 257 = .ok (.iadd, 1) := by decide +kernel
theorem dL_areSacks_258 : decode cL_areSacks 258 = .ok (.bipush 24, 2) := by decide +kernel
theorem dL_areSacks_260 : decode cL_areSacks 260 = .ok (.irem, 1) := by decide +kernel
theorem dL_areSacks_261 : decode cL_areSacks 261 = .ok (.istore 12, 2) := by decide +kernel
theorem dL_areSacks_263 : decode cL_areSacks 263 = .ok (.goto (-32), 3) := by decide +kernel
theorem dL_areSacks_266 : decode cL_areSacks 266 = .ok (.aload_n 0, 1) := by decide +kernel
theorem dL_areSacks_267 : decode cL_areSacks 267 = .ok (.iload 8, 2) := by decide +kernel
theorem dL_areSacks_269 : decode cL_areSacks 269 = .ok (.iconst 0, 1) := by decide +kernel
theorem dL_areSacks_270 : decode cL_areSacks 270 = .ok (.invokevirtual 57, 3) := by decide +kernel
theorem dL_areSacks_273 : decode cL_areSacks 273 = .ok (.iload 11, 2) := by decide +kernel
theorem dL_areSacks_275 : decode cL_areSacks 275 = .ok (.if_icmp .ne 15, 3) := by decide +kernel
theorem dL_areSacks_278 : decode cL_areSacks 278 = .ok (.aload_n 0, 1) := by decide +kernel
theorem dL_areSacks_279 : decode cL_areSacks 279 = .ok (.iload 8, 2) := by decide +kernel
theorem dL_areSacks_281 : decode cL_areSacks 281 = .ok (.iconst 1, 1) := by decide +kernel
theorem dL_areSacks_282 : decode cL_areSacks 282 = .ok (.invokevirtual 57, 3) := by decide +kernel
theorem dL_areSacks_285 : decode cL_areSacks 285 = .ok (.iload 11, 2) := by decide +kernel
theorem dL_areSacks_287 : decode cL_areSacks 287 = .ok (.if_icmp .eq 5, 3) := by decide +kernel
theorem dL_areSacks_290 : decode cL_areSacks 290 = .ok (.iconst 0, 1) := by decide +kernel
theorem dL_areSacks_291 : decode cL_areSacks 291 = .ok (.ireturn, 1) := by decide +kernel
theorem dL_areSacks_292 : decode cL_areSacks 292 = .ok (.iinc 8 1, 3) := by decide +kernel
theorem dL_areSacks_295 : decode cL_areSacks 295 = .ok (.goto (-286), 3) := by decide +kernel
theorem dL_areSacks_298 : decode cL_areSacks 298 = .ok (.iconst 0, 1) := by decide +kernel
theorem dL_areSacks_299 : decode cL_areSacks 299 = .ok (.istore 8, 2) := by decide +kernel
theorem dL_areSacks_301 : decode cL_areSacks 301 = .ok (.iload 8, 2) := by decide +kernel
theorem dL_areSacks_303 : decode cL_areSacks 303 = .ok (.iconst 5, 1) := by decide +kernel
theorem dL_areSacks_304 : decode cL_areSacks 304 = .ok (.if_icmp .ge 171, 3) := by decide +kernel
theorem dL_areSacks_307 : decode cL_areSacks 307 = .ok (.iconst 0, 1) := by decide +kernel
theorem dL_areSacks_308 : decode cL_areSacks 308 = .ok (.istore 9, 2) := by decide +kernel
theorem dL_areSacks_310 : decode cL_areSacks 310 = .ok (.iconst 0, 1) := by decide +kernel
theorem dL_areSacks_311 : decode cL_areSacks 311 = .ok (.istore 10, 2) := by decide +kernel
theorem dL_areSacks_313 : decode cL_areSacks 313 = .ok (.iload 10, 2) := by decide +kernel
theorem dL_areSacks_315 : decode cL_areSacks 315 = .ok (.iconst 3, 1) := by decide +kernel
theorem dL_areSacks_316 : decode cL_areSacks 316 = .ok (.if_icmp .ge 72, 3) := by decide +kernel
theorem dL_areSacks_319 : decode cL_areSacks 319 = .ok (.iconst 0, 1) := by decide +kernel
theorem dL_areSacks_320 : decode cL_areSacks 320 = .ok (.istore 11, 2) := by decide +kernel
theorem dL_areSacks_322 : decode cL_areSacks 322 = .ok (.iload 11, 2) := by decide +kernel
theorem dL_areSacks_324 : decode cL_areSacks 324 = .ok (.aload_n 3, 1) := by decide +kernel
theorem dL_areSacks_325 : decode cL_areSacks 325 = .ok (.bipush 9, 2) := by decide +kernel
theorem dL_areSacks_327 : decode cL_areSacks 327 = .ok (.iload 10, 2) := by decide +kernel
theorem dL_areSacks_329 : decode cL_areSacks 329 = .ok (.iadd, 1) := by decide +kernel
theorem dL_areSacks_330 : decode cL_areSacks 330 = .ok (.iaload, 1) := by decide +kernel
theorem dL_areSacks_331 : decode cL_areSacks 331 = .ok (.if_icmp .ge 51, 3) := by decide +kernel
theorem dL_areSacks_334 : decode cL_areSacks 334 = .ok (.iload 9, 2) := by decide +kernel
theorem dL_areSacks_336 : decode cL_areSacks 336 = .ok (.aload 4, 2) := by decide +kernel
theorem dL_areSacks_338 : decode cL_areSacks 338 = .ok (.bipush 8, 2) := by decide +kernel
theorem dL_areSacks_340 : decode cL_areSacks 340 = .ok (.iload 10, 2) := by decide +kernel
theorem dL_areSacks_342 : decode cL_areSacks 342 = .ok (.imul, 1) := by decide +kernel
theorem dL_areSacks_343 : decode cL_areSacks 343 = .ok (.iload 11, 2) := by decide +kernel
theorem dL_areSacks_345 : decode cL_areSacks 345 = .ok (.iadd, 1) := by decide +kernel
theorem dL_areSacks_346 : decode cL_areSacks 346 = .ok (.iaload, 1) := by decide +kernel
theorem dL_areSacks_347 : decode cL_areSacks 347 = .ok (.bipush 100, 2) := by decide +kernel
theorem dL_areSacks_349 : decode cL_areSacks 349 = .ok (.idiv, 1) := by decide +kernel
theorem dL_areSacks_350 : decode cL_areSacks 350 = .ok (.iload 8, 2) := by decide +kernel
theorem dL_areSacks_352 : decode cL_areSacks 352 = .ok (.if_icmp .ne 20, 3) := by decide +kernel
theorem dL_areSacks_355 : decode cL_areSacks 355 = .ok (.aload 4, 2) := by decide +kernel
theorem dL_areSacks_357 : decode cL_areSacks 357 = .ok (.bipush 8, 2) := by decide +kernel
theorem dL_areSacks_359 : decode cL_areSacks 359 = .ok (.iload 10, 2) := by decide +kernel
theorem dL_areSacks_361 : decode cL_areSacks 361 = .ok (.imul, 1) := by decide +kernel
theorem dL_areSacks_362 : decode cL_areSacks 362 = .ok (.iload 11, 2) := by decide +kernel
theorem dL_areSacks_364 : decode cL_areSacks 364 = .ok (.iadd, 1) := by decide +kernel
theorem dL_areSacks_365 : decode cL_areSacks 365 = .ok (.iaload, 1) := by decide +kernel
theorem dL_areSacks_366 : decode cL_areSacks 366 = .ok (.bipush 100, 2) := by decide +kernel
theorem dL_areSacks_368 : decode cL_areSacks 368 = .ok (.irem, 1) := by decide +kernel
theorem dL_areSacks_369 : decode cL_areSacks 369 = .ok (.goto 4, 3) := by decide +kernel
theorem dL_areSacks_372 : decode cL_areSacks 372 = .ok (.iconst 0, 1) := by decide +kernel
theorem dL_areSacks_373 : decode cL_areSacks 373 = .ok (.iadd, 1) := by decide +kernel
theorem dL_areSacks_374 : decode cL_areSacks 374 = .ok (.istore 9, 2) := by decide +kernel
theorem dL_areSacks_376 : decode cL_areSacks 376 = .ok (.iinc 11 1, 3) := by decide +kernel
theorem dL_areSacks_379 : decode cL_areSacks 379 = .ok (.goto (-57), 3) := by decide +kernel
theorem dL_areSacks_382 : decode cL_areSacks 382 = .ok (.iinc 10 1, 3) := by decide +kernel
theorem dL_areSacks_385 : decode cL_areSacks 385 = .ok (.goto (-72), 3) := by decide +kernel
theorem dL_areSacks_388 : decode cL_areSacks 388 = .ok (.iload 7, 2) := by decide +kernel
theorem dL_areSacks_390 : decode cL_areSacks 390 = .ok (.aload 5, 2) := by decide +kernel
theorem dL_areSacks_392 : decode cL_areSacks 392 = .ok (.iconst 3, 1) := by decide +kernel
theorem dL_areSacks_393 : decode cL_areSacks 393 = .ok (.iload 8, 2) := by decide +kernel
theorem dL_areSacks_395 : decode cL_areSacks 395 = .ok (.imul, 1) := by decide +kernel
theorem dL_areSacks_396 : decode cL_areSacks 396 = .ok (.iaload, 1) := by decide +kernel
theorem dL_areSacks_397 : decode cL_areSacks 397 = .ok (.iadd, 1) := by decide +kernel
theorem dL_areSacks_398 : decode cL_areSacks 398 = .ok (.istore 7, 2) := by decide +kernel
theorem dL_areSacks_400 : decode cL_areSacks 400 = .ok (.aload_n 0, 1) := by decide +kernel
theorem dL_areSacks_401 : decode cL_areSacks 401 = .ok (.iload 8, 2) := by decide +kernel
theorem dL_areSacks_403 : decode cL_areSacks 403 = .ok (.iconst 0, 1) := by decide +kernel
theorem dL_areSacks_404 : decode cL_areSacks 404 = .ok (.invokevirtual 54, 3) := by decide +kernel
theorem dL_areSacks_407 : decode cL_areSacks 407 = .ok (.iload 9, 2) := by decide +kernel
theorem dL_areSacks_409 : decode cL_areSacks 409 = .ok (.if_icmp .ne 58, 3) := by decide +kernel
theorem dL_areSacks_412 : decode cL_areSacks 412 = .ok (.aload_n 0, 1) := by decide +kernel
theorem dL_areSacks_413 : decode cL_areSacks 413 = .ok (.iload 8, 2) := by decide +kernel
theorem dL_areSacks_415 : decode cL_areSacks 415 = .ok (.iconst 1, 1) := by decide +kernel
theorem dL_areSacks_416 : decode cL_areSacks 416 = .ok (.invokevirtual 54, 3) := by decide +kernel
theorem dL_areSacks_419 : decode cL_areSacks 419 = .ok (.aload 5, 2) := by decide +kernel
theorem dL_areSacks_421 : decode cL_areSacks 421 = .ok (.iconst 3, 1) := by decide +kernel
theorem dL_areSacks_422 : decode cL_areSacks 422 = .ok (.iload 8, 2) := by decide +kernel
theorem dL_areSacks_424 : decode cL_areSacks 424 = .ok (.imul, 1) := by decide +kernel
theorem dL_areSacks_425 : decode cL_areSacks 425 = .ok (.iaload, 1) := by decide +kernel
theorem dL_areSacks_426 : decode cL_areSacks 426 = .ok (.if_icmp .ne 41, 3) := by decide +kernel
theorem dL_areSacks_429 : decode cL_areSacks 429 = .ok (.aload_n 0, 1) := by decide +kernel
theorem dL_areSacks_430 : decode cL_areSacks 430 = .ok (.iload 8, 2) := by decide +kernel
theorem dL_areSacks_432 : decode cL_areSacks 432 = .ok (.iconst 2, 1) := by decide +kernel
theorem dL_areSacks_433 : decode cL_areSacks 433 = .ok (.invokevirtual 54, 3) := by decide +kernel
theorem dL_areSacks_436 : decode cL_areSacks 436 = .ok (.aload 5, 2) := by decide +kernel
theorem dL_areSacks_438 : decode cL_areSacks 438 = .ok (.iconst 3, 1) := by decide +kernel
theorem dL_areSacks_439 : decode cL_areSacks 439 = .ok (.iload 8, 2) := by decide +kernel
theorem dL_areSacks_441 : decode cL_areSacks 441 = .ok (.imul, 1) := by decide +kernel
theorem dL_areSacks_442 : decode cL_areSacks 442 = .ok (.iconst 1, 1) := by decide +kernel
theorem dL_areSacks_443 : decode cL_areSacks 443 = .ok (.iadd, 1) := by decide +kernel
theorem dL_areSacks_444 : decode cL_areSacks 444 = .ok (.iaload, 1) := by decide +kernel
theorem dL_areSacks_445 : decode cL_areSacks 445 = .ok (.if_icmp .ne 22, 3) := by decide +kernel
theorem dL_areSacks_448 : decode cL_areSacks 448 = .ok (.aload_n 0, 1) := by decide +kernel
theorem dL_areSacks_449 : decode cL_areSacks 449 = .ok (.iload 8, 2) := by decide +kernel
theorem dL_areSacks_451 : decode cL_areSacks 451 = .ok (.iconst 3, 1) := by decide +kernel
theorem dL_areSacks_452 : decode cL_areSacks 452 = .ok (.invokevirtual 54, 3) := by decide +kernel
theorem dL_areSacks_455 : decode cL_areSacks 455 = .ok (.aload 5, 2) := by decide +kernel
theorem dL_areSacks_457 : decode cL_areSacks 457 = .ok (.iconst 3, 1) := by decide +kernel
theorem dL_areSacks_458 : decode cL_areSacks 458 = .ok (.iload 8, 2) := by decide +kernel
theorem dL_areSacks_460 : decode cL_areSacks 460 = .ok (.imul, 1) := by decide +kernel
theorem dL_areSacks_461 : decode cL_areSacks 461 = .ok (.iconst 2, 1) := by decide +kernel
theorem dL_areSacks_462 : decode cL_areSacks 462 = .ok (.iadd, 1) := by decide +kernel
theorem dL_areSacks_463 : decode cL_areSacks 463 = .ok (.iaload, 1) := by decide +kernel
theorem dL_areSacks_464 : decode cL_areSacks 464 = .ok (.if_icmp .eq 5, 3) := by decide +kernel
theorem dL_areSacks_467 : decode cL_areSacks 467 = .ok (.iconst 0, 1) := by decide +kernel
theorem dL_areSacks_468 : decode cL_areSacks 468 = .ok (.ireturn, 1) := by decide +kernel
theorem dL_areSacks_469 : decode cL_areSacks 469 = .ok (.iinc 8 1, 3) := by decide +kernel
theorem dL_areSacks_472 : decode cL_areSacks 472 = .ok (.goto (-171), 3) := by decide +kernel
theorem dL_areSacks_475 : decode cL_areSacks 475 = .ok (.iconst 0, 1) := by decide +kernel
theorem dL_areSacks_476 : decode cL_areSacks 476 = .ok (.istore 8, 2) := by decide +kernel
theorem dL_areSacks_478 : decode cL_areSacks 478 = .ok (.iload 8, 2) := by decide +kernel
theorem dL_areSacks_480 : decode cL_areSacks 480 = .ok (.iconst 3, 1) := by decide +kernel
theorem dL_areSacks_481 : decode cL_areSacks 481 = .ok (.if_icmp .ge 24, 3) := by decide +kernel
theorem dL_areSacks_484 : decode cL_areSacks 484 = .ok (.aload_n 0, 1) := by decide +kernel
theorem dL_areSacks_485 : decode cL_areSacks 485 = .ok (.iload 8, 2) := by decide +kernel
theorem dL_areSacks_487 : decode cL_areSacks 487 = .ok (.invokevirtual 76, 3) := by decide +kernel
theorem dL_areSacks_490 : decode cL_areSacks 490 = .ok (.aload_n 3, 1) := by decide +kernel
theorem dL_areSacks_491 : decode cL_areSacks 491 = .ok (.iload 8, 2) := by decide +kernel
theorem dL_areSacks_493 : decode cL_areSacks 493 = .ok (.iaload, 1) := by decide +kernel
theorem dL_areSacks_494 : decode cL_areSacks 494 = .ok (.if_icmp .eq 5, 3) := by decide +kernel
theorem dL_areSacks_497 : decode cL_areSacks 497 = .ok (.iconst 0, 1) := by decide +kernel
theorem dL_areSacks_498 : decode cL_areSacks 498 = .ok (.ireturn, 1) := by decide +kernel
theorem dL_areSacks_499 : decode cL_areSacks 499 = .ok (.iinc 8 1, 3) := by decide +kernel
theorem dL_areSacks_502 : decode cL_areSacks 502 = .ok (.goto (-24), 3) := by decide +kernel
theorem dL_areSacks_505 : decode cL_areSacks 505 = .ok (.aload_n 0, 1) := by decide +kernel
theorem dL_areSacks_506 : decode cL_areSacks 506 = .ok (.iconst 5, 1) := by decide +kernel
theorem dL_areSacks_507 : decode cL_areSacks 507 = .ok (.invokevirtual 76, 3) := by decide +kernel
theorem dL_areSacks_510 : decode cL_areSacks 510 = .ok (.iload 6, 2) := by decide +kernel
theorem dL_areSacks_512 : decode cL_areSacks 512 = .ok (.if_icmp .ne 30, 3) := by decide +kernel
theorem dL_areSacks_515 : decode cL_areSacks 515 = .ok (.aload_n 0, 1) := by decide +kernel
theorem dL_areSacks_516 : decode cL_areSacks 516 = .ok (.bipush 6, 2) := by decide +kernel
theorem dL_areSacks_518 : decode cL_areSacks 518 = .ok (.invokevirtual 76, 3) := by decide +kernel
theorem dL_areSacks_521 : decode cL_areSacks 521 = .ok (.iload 7, 2) := by decide +kernel
theorem dL_areSacks_523 : decode cL_areSacks 523 = .ok (.if_icmp .ne 19, 3) := by decide +kernel
theorem dL_areSacks_526 : decode cL_areSacks 526 = .ok (.aload_n 0, 1) := by decide +kernel
theorem dL_areSacks_527 : decode cL_areSacks 527 = .ok (.bipush 7, 2) := by decide +kernel
theorem dL_areSacks_529 : decode cL_areSacks 529 = .ok (.invokevirtual 76, 3) := by decide +kernel
theorem dL_areSacks_532 : decode cL_areSacks 532 = .ok (.aload_n 3, 1) := by decide +kernel
theorem dL_areSacks_533 : decode cL_areSacks 533 = .ok (.iconst 3, 1) := by decide +kernel
theorem dL_areSacks_534 : decode cL_areSacks 534 = .ok (.iaload, 1) := by decide +kernel
theorem dL_areSacks_535 : decode cL_areSacks 535 = .ok (.if_icmp .ne 7, 3) := by decide +kernel
theorem dL_areSacks_538 : decode cL_areSacks 538 = .ok (.iconst 1, 1) := by decide +kernel
theorem dL_areSacks_539 : decode cL_areSacks 539 = .ok (.goto 4, 3) := by decide +kernel
theorem dL_areSacks_542 : decode cL_areSacks 542 = .ok (.iconst 0, 1) := by decide +kernel
theorem dL_areSacks_543 : decode cL_areSacks 543 = .ok (.ireturn, 1) := by decide +kernel
theorem dL_isAhead_0 : decode cL_isAhead 0 = .ok (.bipush 15, 2) := by decide +kernel
theorem dL_isAhead_2 : decode cL_isAhead 2 = .ok (.newarray .int, 2) := by decide +kernel
theorem dL_isAhead_4 : decode cL_isAhead 4 = .ok (.astore 7, 2) := by decide +kernel
theorem dL_isAhead_6 : decode cL_isAhead 6 = .ok (.bipush 24, 2) := by decide +kernel
theorem dL_isAhead_8 : decode cL_isAhead 8 = .ok (.newarray .int, 2) := by decide +kernel
theorem dL_isAhead_10 : decode cL_isAhead 10 = .ok (.astore 8, 2) := by decide +kernel
theorem dL_isAhead_12 : decode cL_isAhead 12 = .ok (.bipush 15, 2) := by decide +kernel
theorem dL_isAhead_14 : decode cL_isAhead 14 = .ok (.newarray .int, 2) := by decide +kernel
theorem dL_isAhead_16 : decode cL_isAhead 16 = .ok (.astore 9, 2) := by decide +kernel
theorem dL_isAhead_18 : decode cL_isAhead 18 = .ok (.aload 4, 2) := by decide +kernel
theorem dL_isAhead_20 : decode cL_isAhead 20 = .ok (.aload 7, 2) := by decide +kernel
theorem dL_isAhead_22 : decode cL_isAhead 22 = .ok (.invokestatic 98, 3) := by decide +kernel
theorem dL_isAhead_25 : decode cL_isAhead 25 = .ok (.aload 5, 2) := by decide +kernel
theorem dL_isAhead_27 : decode cL_isAhead 27 = .ok (.aload 8, 2) := by decide +kernel
theorem dL_isAhead_29 : decode cL_isAhead 29 = .ok (.invokestatic 98, 3) := by decide +kernel
theorem dL_isAhead_32 : decode cL_isAhead 32 = .ok (.aload 6, 2) := by decide +kernel
theorem dL_isAhead_34 : decode cL_isAhead 34 = .ok (.aload 9, 2) := by decide +kernel
theorem dL_isAhead_36 : decode cL_isAhead 36 = .ok (.invokestatic 98, 3) := by decide +kernel
theorem dL_isAhead_39 : decode cL_isAhead 39 = .ok (.iconst 0, 1) := by decide +kernel
theorem dL_isAhead_40 : decode cL_isAhead 40 = .ok (.istore 10, 2) := by decide +kernel
theorem dL_isAhead_42 : decode cL_isAhead 42 = .ok (.iload 10, 2) := by decide +kernel
theorem dL_isAhead_44 : decode cL_isAhead 44 = .ok (.iload_n 1, 1) := by decide +kernel
theorem dL_isAhead_45 : decode cL_isAhead 45 = .ok (.if_icmp .ge 21, 3) := by decide +kernel
theorem dL_isAhead_48 : decode cL_isAhead 48 = .ok (.aload_n 2, 1) := by decide +kernel
theorem dL_isAhead_49 : decode cL_isAhead 49 = .ok (.aload_n 3, 1) := by decide +kernel
theorem dL_isAhead_50 : decode cL_isAhead 50 = .ok (.aload 7, 2) := by decide +kernel
theorem dL_isAhead_52 : decode cL_isAhead 52 = .ok (.aload 8, 2) := by decide +kernel
theorem dL_isAhead_54 : decode cL_isAhead 54 = .ok (.aload 9, 2) := by decide +kernel
theorem dL_isAhead_56 : decode cL_isAhead 56 = .ok (.invokestatic 102, 3) := by decide +kernel
theorem dL_isAhead_59 : decode cL_isAhead 59 = .ok (.pop, 1) := by decide +kernel
theorem dL_isAhead_60 : decode cL_isAhead 60 = .ok (.iinc 10 1, 3) := by decide +kernel
theorem dL_isAhead_63 : decode cL_isAhead 63 = .ok (.goto (-21), 3) := by decide +kernel
theorem dL_isAhead_66 : decode cL_isAhead 66 = .ok (.iconst 0, 1) := by decide +kernel
theorem dL_isAhead_67 : decode cL_isAhead 67 = .ok (.istore 10, 2) := by decide +kernel
theorem dL_isAhead_69 : decode cL_isAhead 69 = .ok (.iload 10, 2) := by decide +kernel
theorem dL_isAhead_71 : decode cL_isAhead 71 = .ok (.iconst 5, 1) := by decide +kernel
theorem dL_isAhead_72 : decode cL_isAhead 72 = .ok (.if_icmp .ge 36, 3) := by decide +kernel
theorem dL_isAhead_75 : decode cL_isAhead 75 = .ok (.aload_n 0, 1) := by decide +kernel
theorem dL_isAhead_76 : decode cL_isAhead 76 = .ok (.iload 10, 2) := by decide +kernel
theorem dL_isAhead_78 : decode cL_isAhead 78 = .ok (.iload_n 1, 1) := by decide +kernel
theorem dL_isAhead_79 : decode cL_isAhead 79 = .ok (.invokevirtual 60, 3) := by decide +kernel
theorem dL_isAhead_82 : decode cL_isAhead 82 = .ok (.aload 9, 2) := by decide +kernel
theorem dL_isAhead_84 : decode cL_isAhead 84 = .ok (.iconst 3, 1) := by decide +kernel
theorem dL_isAhead_85 : decode cL_isAhead 85 = .ok (.iload 10, 2) := by decide +kernel
theorem dL_isAhead_87 : decode cL_isAhead 87 = .ok (.imul, 1) := by decide +kernel
theorem dL_isAhead_88 : decode cL_isAhead 88 = .ok (.iaload, 1) := by decide +kernel
theorem dL_isAhead_89 : decode cL_isAhead 89 = .ok (.aload 6, 2) := by decide +kernel
theorem dL_isAhead_91 : decode cL_isAhead 91 = .ok (.iconst 3, 1) := by decide +kernel
theorem dL_isAhead_92 : decode cL_isAhead 92 = .ok (.iload 10, 2) := by decide +kernel
theorem dL_isAhead_94 : decode cL_isAhead 94 = .ok (.imul, 1) := by decide +kernel
theorem dL_isAhead_95 : decode cL_isAhead 95 = .ok (.iaload, 1) := by decide +kernel
theorem dL_isAhead_96 : decode cL_isAhead 96 = .ok (.isub, 1) := by decide +kernel
theorem dL_isAhead_97 : decode cL_isAhead 97 = .ok (.if_icmp .eq 5, 3) := by decide +kernel
theorem dL_isAhead_100 : decode cL_isAhead 100 = .ok (.iconst 0, 1) := by decide +kernel
theorem dL_isAhead_101 : decode cL_isAhead 101 = .ok (.ireturn, 1) := by decide +kernel
theorem dL_isAhead_102 : decode cL_isAhead 102 = .ok (.iinc 10 1, 3) := by decide +kernel
theorem dL_isAhead_105 : decode cL_isAhead 105 = .ok (.goto (-36), 3) := by decide +kernel
theorem dL_isAhead_108 : decode cL_isAhead 108 = .ok (.aload_n 0, 1) := by decide +kernel
theorem dL_isAhead_109 : decode cL_isAhead 109 = .ok (.iconst 5, 1) := by decide +kernel
theorem dL_isAhead_110 : decode cL_isAhead 110 = .ok (.iconst 0, 1) := by decide +kernel
theorem dL_isAhead_111 : decode cL_isAhead 111 = .ok (.invokestatic 106, 3) := by decide +kernel
theorem dL_isAhead_114 : decode cL_isAhead 114 = .ok (.bipush (-31), 2) := by decide +kernel
theorem dL_isAhead_116 : decode cL_isAhead 116 = .ok (.if_icmp .ne 19, 3) := by decide +kernel
theorem dL_isAhead_119 : decode cL_isAhead 119 = .ok (.aload_n 0, 1) := by decide +kernel
theorem dL_isAhead_120 : decode cL_isAhead 120 = .ok (.iconst 0, 1) := by decide +kernel
theorem dL_isAhead_121 : decode cL_isAhead 121 = .ok (.bipush 100, 2) := by decide +kernel
theorem dL_isAhead_123 : decode cL_isAhead 123 = .ok (.invokestatic 106, 3) := by decide +kernel
theorem dL_isAhead_126 : decode cL_isAhead 126 = .ok (.bipush (-32), 2) := by decide +kernel
theorem dL_isAhead_128 : decode cL_isAhead 128 = .ok (.if_icmp .ne 7, 3) := by decide +kernel
theorem dL_isAhead_131 : decode cL_isAhead 131 = .ok (.iconst 1, 1) := by decide +kernel
theorem dL_isAhead_132 : decode cL_isAhead 132 = .ok (.goto 4, 3) := by decide +kernel
theorem dL_isAhead_135 : decode cL_isAhead 135 = .ok (.iconst 0, 1) := by decide +kernel
theorem dL_isAhead_136 : decode cL_isAhead 136 = .ok (.ireturn, 1) := by decide +kernel
theorem dL_act_0 : decode cL_act 0 = .ok (.iload_n 1, 1) := by decide +kernel
theorem dL_act_1 : decode cL_act 1 = .ok (.bipush 16, 2) := by decide +kernel
theorem dL_act_3 : decode cL_act 3 = .ok (.invokestatic 109, 3) := by decide +kernel
theorem dL_act_6 : decode cL_act 6 = .ok (.istore 8, 2) := by decide +kernel
theorem dL_act_8 : decode cL_act 8 = .ok (.iload 8, 2) := by decide +kernel
theorem dL_act_10 : decode cL_act 10 = .ok (.iconst 2, 1) := by decide +kernel
theorem dL_act_11 : decode cL_act 11 = .ok (.if_icmp .ge 131, 3) := by decide +kernel
theorem dL_act_14 : decode cL_act 14 = .ok (.iload_n 2, 1) := by decide +kernel
theorem dL_act_15 : decode cL_act 15 = .ok (.bipush 24, 2) := by decide +kernel
theorem dL_act_17 : decode cL_act 17 = .ok (.invokestatic 109, 3) := by decide +kernel
theorem dL_act_20 : decode cL_act 20 = .ok (.istore 9, 2) := by decide +kernel
theorem dL_act_22 : decode cL_act 22 = .ok (.bipush 10, 2) := by decide +kernel
theorem dL_act_24 : decode cL_act 24 = .ok (.aload_n 3, 1) := by decide +kernel
theorem dL_act_25 : decode cL_act 25 = .ok (.iconst 2, 1) := by decide +kernel
theorem dL_act_26 : decode cL_act 26 = .ok (.iload 9, 2) := by decide +kernel
theorem dL_act_28 : decode cL_act 28 = .ok (.imul, 1) := by decide +kernel
theorem dL_act_29 : decode cL_act 29 = .ok (.iaload, 1) := by decide +kernel
theorem dL_act_30 : decode cL_act 30 = .ok (.imul, 1) := by decide +kernel
theorem dL_act_31 : decode cL_act 31 = .ok (.aload_n 3, 1) := by decide +kernel
theorem dL_act_32 : decode cL_act 32 = .ok (.iconst 2, 1) := by decide +kernel
theorem dL_act_33 : decode cL_act 33 = .ok (.iload 9, 2) := by decide +kernel
theorem dL_act_35 : decode cL_act 35 = .ok (.imul, 1) := by decide +kernel
theorem dL_act_36 : decode cL_act 36 = .ok (.iconst 1, 1) := by decide +kernel
theorem dL_act_37 : decode cL_act 37 = .ok (.iadd, 1) := by decide +kernel
theorem dL_act_38 : decode cL_act 38 = .ok (.iaload, 1) := by decide +kernel
theorem dL_act_39 : decode cL_act 39 = .ok (.iadd, 1) := by decide +kernel
theorem dL_act_40 : decode cL_act 40 = .ok (.istore 10, 2) := by decide +kernel
theorem dL_act_42 : decode cL_act 42 = .ok (.aload_n 3, 1) := by decide +kernel
theorem dL_act_43 : decode cL_act 43 = .ok (.iconst 2, 1) := by decide +kernel
theorem dL_act_44 : decode cL_act 44 = .ok (.iload 9, 2) := by decide +kernel
theorem dL_act_46 : decode cL_act 46 = .ok (.imul, 1) := by decide +kernel
theorem dL_act_47 : decode cL_act 47 = .ok (.iload_n 2, 1) := by decide +kernel
theorem dL_act_48 : decode cL_act 48 = .ok (.iconst 5, 1) := by decide +kernel
theorem dL_act_49 : decode cL_act 49 = .ok (.ishr, 1) := by decide +kernel
theorem dL_act_50 : decode cL_act 50 = .ok (.bipush 7, 2) := by decide +kernel
theorem dL_act_52 : decode cL_act 52 = .ok (.iand, 1) := by decide +kernel
theorem dL_act_53 : decode cL_act 53 = .ok (.iastore, 1) := by decide +kernel
theorem dL_act_54 : decode cL_act 54 = .ok (.aload_n 3, 1) := by decide +kernel
theorem dL_act_55 : decode cL_act 55 = .ok (.iconst 2, 1) := by decide +kernel
theorem dL_act_56 : decode cL_act 56 = .ok (.iload 9, 2) := by decide +kernel
theorem dL_act_58 : decode cL_act 58 = .ok (.imul, 1) := by decide +kernel
theorem dL_act_59 : decode cL_act 59 = .ok (.iconst 1, 1) := by decide +kernel
theorem dL_act_60 : decode cL_act 60 = .ok (.iadd, 1) := by decide +kernel
theorem dL_act_61 : decode cL_act 61 = .ok (.iload_n 2, 1) := by decide +kernel
theorem dL_act_62 : decode cL_act 62 = .ok (.bipush 8, 2) := by decide +kernel
theorem dL_act_64 : decode cL_act 64 = .ok (.ishr, 1) := by decide +kernel
theorem dL_act_65 : decode cL_act 65 = .ok (.bipush 10, 2) := by decide +kernel
theorem dL_act_67 : decode cL_act 67 = .ok (.invokestatic 109, 3) := by decide +kernel
theorem dL_act_70 : decode cL_act 70 = .ok (.iastore, 1) := by decide +kernel
theorem dL_act_71 : decode cL_act 71 = .ok (.aload_n 0, 1) := by decide +kernel
theorem dL_act_72 : decode cL_act 72 = .ok (.iload 9, 2) := by decide +kernel
theorem dL_act_74 : decode cL_act 74 = .ok (.aload_n 3, 1) := by decide +kernel
theorem dL_act_75 : decode cL_act 75 = .ok (.iconst 2, 1) := by decide +kernel
theorem dL_act_76 : decode cL_act 76 = .ok (.iload 9, 2) := by decide +kernel
theorem dL_act_78 : decode cL_act 78 = .ok (.imul, 1) := by decide +kernel
theorem dL_act_79 : decode cL_act 79 = .ok (.iaload, 1) := by decide +kernel
theorem dL_act_80 : decode cL_act 80 = .ok (.aload_n 3, 1) := by decide +kernel
theorem dL_act_81 : decode cL_act 81 = .ok (.iconst 2, 1) := by decide +kernel
theorem dL_act_82 : decode cL_act 82 = .ok (.iload 9, 2) := by decide +kernel
theorem dL_act_84 : decode cL_act 84 = .ok (.imul, 1) := by decide +kernel
theorem dL_act_85 : decode cL_act 85 = .ok (.iconst 1, 1) := by decide +kernel
theorem dL_act_86 : decode cL_act 86 = .ok (.iadd, 1) := by decide +kernel
theorem dL_act_87 : decode cL_act 87 = .ok (.iaload, 1) := by decide +kernel
theorem dL_act_88 : decode cL_act 88 = .ok (.invokestatic 112, 3) := by decide +kernel
theorem dL_act_91 : decode cL_act 91 = .ok (.iload 10, 2) := by decide +kernel
theorem dL_act_93 : decode cL_act 93 = .ok (.if_icmp .ne 47, 3) := by decide +kernel
theorem dL_act_96 : decode cL_act 96 = .ok (.aload_n 0, 1) := by decide +kernel
theorem dL_act_97 : decode cL_act 97 = .ok (.bipush 24, 2) := by decide +kernel
theorem dL_act_99 : decode cL_act 99 = .ok (.bipush 8, 2) := by decide +kernel
theorem dL_act_101 : decode cL_act 101 = .ok (.iconst 0, 1) := by decide +kernel
theorem dL_act_102 : decode cL_act 102 = .ok (.invokestatic 112, 3) := by decide +kernel
theorem dL_act_105 : decode cL_act 105 = .ok (.bipush (-31), 2) := by decide +kernel
theorem dL_act_107 : decode cL_act 107 = .ok (.if_icmp .ne 33, 3) := by decide +kernel
theorem dL_act_110 : decode cL_act 110 = .ok (.aload_n 0, 1) := by decide +kernel
theorem dL_act_111 : decode cL_act 111 = .ok (.iconst 0, 1) := by decide +kernel
theorem dL_act_112 : decode cL_act 112 = .ok (.bipush 8, 2) := by decide +kernel
theorem dL_act_114 : decode cL_act 114 = .ok (.iconst 0, 1) := by decide +kernel
theorem dL_act_115 : decode cL_act 115 = .ok (.invokestatic 112, 3) := by decide +kernel
theorem dL_act_118 : decode cL_act 118 = .ok (.bipush (-32), 2) := by decide +kernel
theorem dL_act_120 : decode cL_act 120 = .ok (.if_icmp .ne 20, 3) := by decide +kernel
theorem dL_act_123 : decode cL_act 123 = .ok (.aload_n 0, 1) := by decide +kernel
theorem dL_act_124 : decode cL_act 124 = .ok (.iconst 0, 1) := by decide +kernel
theorem dL_act_125 : decode cL_act 125 = .ok (.iconst 0, 1) := by decide +kernel
theorem dL_act_126 : decode cL_act 126 = .ok (.bipush 10, 2) := by decide +kernel
theorem dL_act_128 : decode cL_act 128 = .ok (.invokestatic 112, 3) := by decide +kernel
theorem dL_act_131 : decode cL_act 131 = .ok (.bipush (-32), 2) := by decide +kernel
theorem dL_act_133 : decode cL_act 133 = .ok (.if_icmp .ne 7, 3) := by decide +kernel
theorem dL_act_136 : decode cL_act 136 = .ok (.iconst 1, 1) := by decide +kernel
theorem dL_act_137 : decode cL_act 137 = .ok (.goto 4, 3) := by decide +kernel
theorem dL_act_140 : decode cL_act 140 = .ok (.iconst 0, 1) := by decide +kernel
theorem dL_act_141 : decode cL_act 141 = .ok (.ireturn, 1) := by decide +kernel
theorem dL_act_142 : decode cL_act 142 = .ok (.iload 8, 2) := by decide +kernel
theorem dL_act_144 : decode cL_act 144 = .ok (.iconst 5, 1) := by decide +kernel
theorem dL_act_145 : decode cL_act 145 = .ok (.if_icmp .ge 155, 3) := by decide +kernel
theorem dL_act_148 : decode cL_act 148 = .ok (.iload_n 2, 1) := by decide +kernel
theorem dL_act_149 : decode cL_act 149 = .ok (.bipush 24, 2) := by decide +kernel
theorem dL_act_151 : decode cL_act 151 = .ok (.invokestatic 109, 3) := by decide +kernel
theorem dL_act_154 : decode cL_act 154 = .ok (.istore 9, 2) := by decide +kernel
theorem dL_act_156 : decode cL_act 156 = .ok (.aload 4, 2) := by decide +kernel
theorem dL_act_158 : decode cL_act 158 = .ok (.iload 9, 2) := by decide +kernel
theorem dL_act_160 : decode cL_act 160 = .ok (.iaload, 1) := by decide +kernel
theorem dL_act_161 : decode cL_act 161 = .ok (.istore 10, 2) := by decide +kernel
theorem dL_act_163 : decode cL_act 163 = .ok (.iload 9, 2) := by decide +kernel
theorem dL_act_165 : decode cL_act 165 = .ok (.iconst 4, 1) := by decide +kernel
theorem dL_act_166 : decode cL_act 166 = .ok (.irem, 1) := by decide +kernel
theorem dL_act_167 : decode cL_act 167 = .ok (.istore 11, 2) := by decide +kernel
theorem dL_act_169 : decode cL_act 169 = .ok (.aload 4, 2) := by decide +kernel
theorem dL_act_171 : decode cL_act 171 = .ok (.iload 9, 2) := by decide +kernel
theorem dL_act_173 : decode cL_act 173 = .ok (.iload_n 2, 1) := by decide +kernel
theorem dL_act_174 : decode cL_act 174 = .ok (.iconst 5, 1) := by decide +kernel
theorem dL_act_175 : decode cL_act 175 = .ok (.ishr, 1) := by decide +kernel
theorem dL_act_176 : decode cL_act 176 = .ok (.iload 11, 2) := by decide +kernel
theorem dL_act_178 : decode cL_act 178 = .ok (.ifCond .ne 8, 3) := by decide +kernel
theorem dL_act_181 : decode cL_act 181 = .ok (.bipush 8, 2) := by decide +kernel
theorem dL_act_183 : decode cL_act 183 = .ok (.goto 38, 3) := by decide +kernel
theorem dL_act_186 : decode cL_act 186 = .ok (.iload 11, 2) := by decide +kernel
theorem dL_act_188 : decode cL_act 188 = .ok (.iconst 1, 1) := by decide +kernel
theorem dL_act_189 : decode cL_act 189 = .ok (.if_icmp .ne 7, 3) := by decide +kernel
theorem dL_act_192 : decode cL_act 192 = .ok (.iconst 5, 1) := by decide +kernel
theorem dL_act_193 : decode cL_act 193 = .ok (.goto 28, 3) := by decide +kernel
theorem dL_act_196 : decode cL_act 196 = .ok (.iload 11, 2) := by decide +kernel
theorem dL_act_198 : decode cL_act 198 = .ok (.iconst 2, 1) := by decide +kernel
theorem dL_act_199 : decode cL_act 199 = .ok (.if_icmp .ne 21, 3) := by decide +kernel
theorem dL_act_202 : decode cL_act 202 = .ok (.iload_n 2, 1) := by decide +kernel
theorem dL_act_203 : decode cL_act 203 = .ok (.bipush 20, 2) := by decide +kernel
theorem dL_act_205 : decode cL_act 205 = .ok (.ishr, 1) := by decide +kernel
theorem dL_act_206 : decode cL_act 206 = .ok (.iconst 1, 1) := by decide +kernel
theorem dL_act_207 : decode cL_act 207 = .ok (.iand, 1) := by decide +kernel
theorem dL_act_208 : decode cL_act 208 = .ok (.ifCond .ne 7, 3) := by decide +kernel
theorem dL_act_211 : decode cL_act 211 = .ok (.iconst 4, 1) := by decide +kernel
theorem dL_act_212 : decode cL_act 212 = .ok (.goto 9, 3) := by decide +kernel
theorem dL_act_215 : decode cL_act 215 = .ok (.bipush 10, 2) := by decide +kernel
theorem dL_act_217 : decode cL_act 217 = .ok (.goto 4, 3) := by decide +kernel
theorem dL_act_220 : decode cL_act 220 = .ok (.iconst 2, 1) := by decide +kernel
theorem dL_act_221 : decode cL_act 221 = .ok (.invokestatic 109, 3) := by decide +kernel
theorem dL_act_224 : decode cL_act 224 = .ok (.iastore, 1) := by decide +kernel
theorem dL_act_225 : decode cL_act 225 = .ok (.aload_n 0, 1) := by decide +kernel
theorem dL_act_226 : decode cL_act 226 = .ok (.iload 9, 2) := by decide +kernel
theorem dL_act_228 : decode cL_act 228 = .ok (.iconst 4, 1) := by decide +kernel
theorem dL_act_229 : decode cL_act 229 = .ok (.idiv, 1) := by decide +kernel
theorem dL_act_230 : decode cL_act 230 = .ok (.iload 11, 2) := by decide +kernel
theorem dL_act_232 : decode cL_act 232 = .ok (.aload 4, 2) := by decide +kernel
theorem dL_act_234 : decode cL_act 234 = .ok (.iload 9, 2) := by decide +kernel
theorem dL_act_236 : decode cL_act 236 = .ok (.iaload, 1) := by decide +kernel
theorem dL_act_237 : decode cL_act 237 = .ok (.invokestatic 115, 3) := by decide +kernel
theorem dL_act_240 : decode cL_act 240 = .ok (.iload 10, 2) := by decide +kernel
theorem dL_act_242 : decode cL_act 242 = .ok (.if_icmp .ne 56, 3) := by decide +kernel
theorem dL_act_245 : decode cL_act 245 = .ok (.aload_n 0, 1) := by decide +kernel
theorem dL_act_246 : decode cL_act 246 = .ok (.bipush 6, 2) := by decide +kernel
theorem dL_act_248 : decode cL_act 248 = .ok (.iconst 4, 1) := by decide +kernel
theorem dL_act_249 : decode cL_act 249 = .ok (.iconst 0, 1) := by decide +kernel
theorem dL_act_250 : decode cL_act 250 = .ok (.invokestatic 115, 3) := by decide +kernel
theorem dL_act_253 : decode cL_act 253 = .ok (.bipush (-31), 2) := by decide +kernel
theorem dL_act_255 : decode cL_act 255 = .ok (.if_icmp .ne 43, 3) := by decide +kernel
theorem dL_act_258 : decode cL_act 258 = .ok (.aload_n 0, 1) := by decide +kernel
theorem dL_act_259 : decode cL_act 259 = .ok (.iconst 0, 1) := by decide +kernel
theorem dL_act_260 : decode cL_act 260 = .ok (.iconst 4, 1) := by decide +kernel
theorem dL_act_261 : decode cL_act 261 = .ok (.iconst 0, 1) := by decide +kernel
theorem dL_act_262 : decode cL_act 262 = .ok (.invokestatic 115, 3) := by decide +kernel
theorem dL_act_265 : decode cL_act 265 = .ok (.bipush (-32), 2) := by decide +kernel
theorem dL_act_267 : decode cL_act 267 = .ok (.if_icmp .ne 31, 3) := by decide +kernel
theorem dL_act_270 : decode cL_act 270 = .ok (.aload_n 0, 1) := by decide +kernel
theorem dL_act_271 : decode cL_act 271 = .ok (.iconst 0, 1) := by decide +kernel
theorem dL_act_272 : decode cL_act 272 = .ok (.iconst 1, 1) := by decide +kernel
theorem dL_act_273 : decode cL_act 273 = .ok (.iconst 5, 1) := by decide +kernel
theorem dL_act_274 : decode cL_act 274 = .ok (.invokestatic 115, 3) := by decide +kernel
theorem dL_act_277 : decode cL_act 277 = .ok (.bipush (-32), 2) := by decide +kernel
theorem dL_act_279 : decode cL_act 279 = .ok (.if_icmp .ne 19, 3) := by decide +kernel
theorem dL_act_282 : decode cL_act 282 = .ok (.aload_n 0, 1) := by decide +kernel
theorem dL_act_283 : decode cL_act 283 = .ok (.iconst 0, 1) := by decide +kernel
theorem dL_act_284 : decode cL_act 284 = .ok (.iconst 3, 1) := by decide +kernel
theorem dL_act_285 : decode cL_act 285 = .ok (.iconst 2, 1) := by decide +kernel
theorem dL_act_286 : decode cL_act 286 = .ok (.invokestatic 115, 3) := by decide +kernel
theorem dL_act_289 : decode cL_act 289 = .ok (.bipush (-32), 2) := by decide +kernel
theorem dL_act_291 : decode cL_act 291 = .ok (.if_icmp .ne 7, 3) := by decide +kernel
theorem dL_act_294 : decode cL_act 294 = .ok (.iconst 1, 1) := by decide +kernel
theorem dL_act_295 : decode cL_act 295 = .ok (.goto 4, 3) := by decide +kernel
theorem dL_act_298 : decode cL_act 298 = .ok (.iconst 0, 1) := by decide +kernel
theorem dL_act_299 : decode cL_act 299 = .ok (.ireturn, 1) := by decide +kernel
theorem dL_act_300 : decode cL_act 300 = .ok (.iload_n 2, 1) := by decide +kernel
theorem dL_act_301 : decode cL_act 301 = .ok (.iconst 3, 1) := by decide +kernel
theorem dL_act_302 : decode cL_act 302 = .ok (.invokestatic 109, 3) := by decide +kernel
theorem dL_act_305 : decode cL_act 305 = .ok (.istore 9, 2) := by decide +kernel
theorem dL_act_307 : decode cL_act 307 = .ok (.iload 8, 2) := by decide +kernel
theorem dL_act_309 : decode cL_act 309 = .ok (.iconst 5, 1) := by decide +kernel
theorem dL_act_310 : decode cL_act 310 = .ok (.if_icmp .ne 77, 3) := by decide +kernel
theorem dL_act_313 : decode cL_act 313 = .ok (.aload 5, 2) := by decide +kernel
theorem dL_act_315 : decode cL_act 315 = .ok (.bipush 6, 2) := by decide +kernel
theorem dL_act_317 : decode cL_act 317 = .ok (.iload 9, 2) := by decide +kernel
theorem dL_act_319 : decode cL_act 319 = .ok (.iadd, 1) := by decide +kernel
theorem dL_act_320 : decode cL_act 320 = .ok (.iaload, 1) := by decide +kernel
theorem dL_act_321 : decode cL_act 321 = .ok (.istore 10, 2) := by decide +kernel
theorem dL_act_323 : decode cL_act 323 = .ok (.aload 5, 2) := by decide +kernel
theorem dL_act_325 : decode cL_act 325 = .ok (.bipush 6, 2) := by decide +kernel
theorem dL_act_327 : decode cL_act 327 = .ok (.iload 9, 2) := by decide +kernel
theorem dL_act_329 : decode cL_act 329 = .ok (.iadd, 1) := by decide +kernel
theorem dL_act_330 : decode cL_act 330 = .ok (.iload_n 2, 1) := by decide +kernel
theorem dL_act_331 : decode cL_act 331 = .ok (.iconst 2, 1) := by decide +kernel
theorem dL_act_332 : decode cL_act 332 = .ok (.ishr, 1) := by decide +kernel
theorem dL_act_333 : decode cL_act 333 = .ok (.bipush 10, 2) := by decide +kernel
theorem dL_act_335 : decode cL_act 335 = .ok (.invokestatic 109, 3) := by decide +kernel
theorem dL_act_338 : decode cL_act 338 = .ok (.iastore, 1) := by decide +kernel
theorem dL_act_339 : decode cL_act 339 = .ok (.aload_n 0, 1) := by decide +kernel
theorem dL_act_340 : decode cL_act 340 = .ok (.iload 9, 2) := by decide +kernel
theorem dL_act_342 : decode cL_act 342 = .ok (.aload 5, 2) := by decide +kernel
theorem dL_act_344 : decode cL_act 344 = .ok (.bipush 6, 2) := by decide +kernel
theorem dL_act_346 : decode cL_act 346 = .ok (.iload 9, 2) := by decide +kernel
theorem dL_act_348 : decode cL_act 348 = .ok (.iadd, 1) := by decide +kernel
theorem dL_act_349 : decode cL_act 349 = .ok (.iaload, 1) := by decide +kernel
theorem dL_act_350 : decode cL_act 350 = .ok (.invokestatic 117, 3) := by decide +kernel
theorem dL_act_353 : decode cL_act 353 = .ok (.iload 10, 2) := by decide +kernel
theorem dL_act_355 : decode cL_act 355 = .ok (.if_icmp .ne 30, 3) := by decide +kernel
theorem dL_act_358 : decode cL_act 358 = .ok (.aload_n 0, 1) := by decide +kernel
theorem dL_act_359 : decode cL_act 359 = .ok (.iconst 3, 1) := by decide +kernel
theorem dL_act_360 : decode cL_act 360 = .ok (.iconst 0, 1) := by decide +kernel
theorem dL_act_361 : decode cL_act 361 = .ok (.invokestatic 117, 3) := by decide +kernel
theorem dL_act_364 : decode cL_act 364 = .ok (.bipush (-31), 2) := by decide +kernel
theorem dL_act_366 : decode cL_act 366 = .ok (.if_icmp .ne 19, 3) := by decide +kernel
theorem dL_act_369 : decode cL_act 369 = .ok (.aload_n 0, 1) := by decide +kernel
theorem dL_act_370 : decode cL_act 370 = .ok (.iconst 0, 1) := by decide +kernel
theorem dL_act_371 : decode cL_act 371 = .ok (.bipush 10, 2) := by decide +kernel
theorem dL_act_373 : decode cL_act 373 = .ok (.invokestatic 117, 3) := by decide +kernel
theorem dL_act_376 : decode cL_act 376 = .ok (.bipush (-32), 2) := by decide +kernel
theorem dL_act_378 : decode cL_act 378 = .ok (.if_icmp .ne 7, 3) := by decide +kernel
theorem dL_act_381 : decode cL_act 381 = .ok (.iconst 1, 1) := by decide +kernel
theorem dL_act_382 : decode cL_act 382 = .ok (.goto 4, 3) := by decide +kernel
theorem dL_act_385 : decode cL_act 385 = .ok (.iconst 0, 1) := by decide +kernel
theorem dL_act_386 : decode cL_act 386 = .ok (.ireturn, 1) := by decide +kernel
theorem dL_act_387 : decode cL_act 387 = .ok (.iload 8, 2) := by decide +kernel
theorem dL_act_389 : decode cL_act 389 = .ok (.bipush 6, 2) := by decide +kernel
theorem dL_act_391 : decode cL_act 391 = .ok (.if_icmp .ne 106, 3) := by decide +kernel
theorem dL_act_394 : decode cL_act 394 = .ok (.iload_n 2, 1) := by decide +kernel
theorem dL_act_395 : decode cL_act 395 = .ok (.iconst 2, 1) := by decide +kernel
theorem dL_act_396 : decode cL_act 396 = .ok (.ishr, 1) := by decide +kernel
theorem dL_act_397 : decode cL_act 397 = .ok (.iconst 1, 1) := by decide +kernel
theorem dL_act_398 : decode cL_act 398 = .ok (.iand, 1) := by decide +kernel
theorem dL_act_399 : decode cL_act 399 = .ok (.istore 10, 2) := by decide +kernel
theorem dL_act_401 : decode cL_act 401 = .ok (.aload 5, 2) := by decide +kernel
theorem dL_act_403 : decode cL_act 403 = .ok (.iconst 4, 1) := by decide +kernel
theorem dL_act_404 : decode cL_act 404 = .ok (.iload 10, 2) := by decide +kernel
theorem dL_act_406 : decode cL_act 406 = .ok (.iadd, 1) := by decide +kernel
theorem dL_act_407 : decode cL_act 407 = .ok (.iaload, 1) := by decide +kernel
theorem dL_act_408 : decode cL_act 408 = .ok (.istore 11, 2) := by decide +kernel
theorem dL_act_410 : decode cL_act 410 = .ok (.aload 5, 2) := by decide +kernel
theorem dL_act_412 : decode cL_act 412 = .ok (.iconst 4, 1) := by decide +kernel
theorem dL_act_413 : decode cL_act 413 = .ok (.iload 10, 2) := by decide +kernel
theorem dL_act_415 : decode cL_act 415 = .ok (.iadd, 1) := by decide +kernel
theorem dL_act_416 : decode cL_act 416 = .ok (.iload 10, 2) := by decide +kernel
theorem dL_act_418 : decode cL_act 418 = .ok (.ifCond .ne 16, 3) := by decide +kernel
theorem dL_act_421 : decode cL_act 421 = .ok (.iconst 1, 1) := by decide +kernel
theorem dL_act_422 : decode cL_act 422 = .ok (.iload_n 2, 1) := by decide +kernel
theorem dL_act_423 : decode cL_act 423 = .ok (.iconst 3, 1) := by decide +kernel
theorem dL_act_424 : decode cL_act 424 = .ok (.ishr, 1) := by decide +kernel
theorem dL_act_425 : decode cL_act 425 = .ok (.bipush 6, 2) := by decide +kernel
theorem dL_act_427 : decode cL_act 427 = .ok (.invokestatic 109, 3) := by decide +kernel
theorem dL_act_430 : decode cL_act 430 = .ok (.iadd, 1) := by decide +kernel
theorem dL_act_431 : decode cL_act 431 = .ok (.goto 8, 3) := by decide +kernel
theorem dL_act_434 : decode cL_act 434 = .ok (.iload_n 2, 1) := by decide +kernel
theorem dL_act_435 : decode cL_act 435 = .ok (.iconst 3, 1) := by decide +kernel
theorem dL_act_436 : decode cL_act 436 = .ok (.ishr, 1) := by decide +kernel
theorem dL_act_437 : decode cL_act 437 = .ok (.iconst 1, 1) := by decide +kernel
theorem dL_act_438 : decode cL_act 438 = .ok (.iand, 1) := by decide +kernel
theorem dL_act_439 : decode cL_act 439 = .ok (.iastore, 1) := by decide +kernel
theorem dL_act_440 : decode cL_act 440 = .ok (.aload_n 0, 1) := by decide +kernel
theorem dL_act_441 : decode cL_act 441 = .ok (.iload 10, 2) := by decide +kernel
theorem dL_act_443 : decode cL_act 443 = .ok (.aload 5, 2) := by decide +kernel
theorem dL_act_445 : decode cL_act 445 = .ok (.iconst 4, 1) := by decide +kernel
theorem dL_act_446 : decode cL_act 446 = .ok (.iload 10, 2) := by decide +kernel
theorem dL_act_448 : decode cL_act 448 = .ok (.iadd, 1) := by decide +kernel
theorem dL_act_449 : decode cL_act 449 = .ok (.iaload, 1) := by decide +kernel
theorem dL_act_450 : decode cL_act 450 = .ok (.invokestatic 119, 3) := by decide +kernel
theorem dL_act_453 : decode cL_act 453 = .ok (.iload 11, 2) := by decide +kernel
theorem dL_act_455 : decode cL_act 455 = .ok (.if_icmp .ne 40, 3) := by decide +kernel
theorem dL_act_458 : decode cL_act 458 = .ok (.aload_n 0, 1) := by decide +kernel
theorem dL_act_459 : decode cL_act 459 = .ok (.iconst 0, 1) := by decide +kernel
theorem dL_act_460 : decode cL_act 460 = .ok (.iconst 0, 1) := by decide +kernel
theorem dL_act_461 : decode cL_act 461 = .ok (.invokestatic 119, 3) := by decide +kernel
theorem dL_act_464 : decode cL_act 464 = .ok (.bipush (-32), 2) := by decide +kernel
theorem dL_act_466 : decode cL_act 466 = .ok (.if_icmp .ne 29, 3) := by decide +kernel
theorem dL_act_469 : decode cL_act 469 = .ok (.aload_n 0, 1) := by decide +kernel
theorem dL_act_470 : decode cL_act 470 = .ok (.iconst 1, 1) := by decide +kernel
theorem dL_act_471 : decode cL_act 471 = .ok (.iconst 2, 1) := by decide +kernel
theorem dL_act_472 : decode cL_act 472 = .ok (.invokestatic 119, 3) := by decide +kernel
theorem dL_act_475 : decode cL_act 475 = .ok (.bipush (-32), 2) := by decide +kernel
theorem dL_act_477 : decode cL_act 477 = .ok (.if_icmp .ne 18, 3) := by decide +kernel
theorem dL_act_480 : decode cL_act 480 = .ok (.aload_n 0, 1) := by decide +kernel
theorem dL_act_481 : decode cL_act 481 = .ok (.iconst 2, 1) := by decide +kernel
theorem dL_act_482 : decode cL_act 482 = .ok (.iconst 0, 1) := by decide +kernel
theorem dL_act_483 : decode cL_act 483 = .ok (.invokestatic 119, 3) := by decide +kernel
theorem dL_act_486 : decode cL_act 486 = .ok (.bipush (-31), 2) := by decide +kernel
theorem dL_act_488 : decode cL_act 488 = .ok (.if_icmp .ne 7, 3) := by decide +kernel
theorem dL_act_491 : decode cL_act 491 = .ok (.iconst 1, 1) := by decide +kernel
theorem dL_act_492 : decode cL_act 492 = .ok (.goto 4, 3) := by decide +kernel
theorem dL_act_495 : decode cL_act 495 = .ok (.iconst 0, 1) := by decide +kernel
theorem dL_act_496 : decode cL_act 496 = .ok (.ireturn, 1) := by decide +kernel
theorem dL_act_497 : decode cL_act 497 = .ok (.iload 8, 2) := by decide +kernel
theorem dL_act_499 : decode cL_act 499 = .ok (.bipush 11, 2) := by decide +kernel
theorem dL_act_501 : decode cL_act 501 = .ok (.if_icmp .ge 199, 3) := by decide +kernel
theorem dL_act_504 : decode cL_act 504 = .ok (.iload_n 2, 1) := by decide +kernel
theorem dL_act_505 : decode cL_act 505 = .ok (.iconst 2, 1) := by decide +kernel
theorem dL_act_506 : decode cL_act 506 = .ok (.ishr, 1) := by decide +kernel
theorem dL_act_507 : decode cL_act 507 = .ok (.iconst 5, 1) := by decide +kernel
theorem dL_act_508 : decode cL_act 508 = .ok (.invokestatic 109, 3) := by decide +kernel
theorem dL_act_511 : decode cL_act 511 = .ok (.istore 10, 2) := by decide +kernel
theorem dL_act_513 : decode cL_act 513 = .ok (.iconst 1, 1) := by decide +kernel
theorem dL_act_514 : decode cL_act 514 = .ok (.iload_n 2, 1) := by decide +kernel
theorem dL_act_515 : decode cL_act 515 = .ok (.iconst 5, 1) := by decide +kernel
theorem dL_act_516 : decode cL_act 516 = .ok (.ishr, 1) := by decide +kernel
theorem dL_act_517 : decode cL_act 517 = .ok (.iload_n 2, 1) := by decide +kernel
theorem dL_act_518 : decode cL_act 518 = .ok (.bipush 20, 2) := by decide +kernel
theorem dL_act_520 : decode cL_act 520 = .ok (.ishr, 1) := by decide +kernel
theorem dL_act_521 : decode cL_act 521 = .ok (.iconst 1, 1) := by decide +kernel
theorem dL_act_522 : decode cL_act 522 = .ok (.iand, 1) := by decide +kernel
theorem dL_act_523 : decode cL_act 523 = .ok (.ifCond .ne 8, 3) := by decide +kernel
theorem dL_act_526 : decode cL_act 526 = .ok (.bipush 9, 2) := by decide +kernel
theorem dL_act_528 : decode cL_act 528 = .ok (.goto 5, 3) := by decide +kernel
theorem dL_act_531 : decode cL_act 531 = .ok (.bipush 99, 2) := by decide +kernel
theorem dL_act_533 : decode cL_act 533 = .ok (.invokestatic 109, 3) := by decide +kernel
theorem dL_act_536 : decode cL_act 536 = .ok (.iadd, 1) := by decide +kernel
theorem dL_act_537 : decode cL_act 537 = .ok (.istore 11, 2) := by decide +kernel
theorem dL_act_539 : decode cL_act 539 = .ok (.aload 5, 2) := by decide +kernel
theorem dL_act_541 : decode cL_act 541 = .ok (.bipush 9, 2) := by decide +kernel
theorem dL_act_543 : decode cL_act 543 = .ok (.iload 9, 2) := by decide +kernel
theorem dL_act_545 : decode cL_act 545 = .ok (.iadd, 1) := by decide +kernel
theorem dL_act_546 : decode cL_act 546 = .ok (.iaload, 1) := by decide +kernel
theorem dL_act_547 : decode cL_act 547 = .ok (.bipush 8, 2) := by decide +kernel
theorem dL_act_549 : decode cL_act 549 = .ok (.if_icmp .ne 44, 3) := by decide +kernel
theorem dL_act_552 : decode cL_act 552 = .ok (.aload 5, 2) := by decide +kernel
theorem dL_act_554 : decode cL_act 554 = .ok (.iconst 3, 1) := by decide +kernel
theorem dL_act_555 : decode cL_act 555 = .ok (.dup2, 1) := by decide +kernel
theorem dL_act_556 : decode cL_act 556 = .ok (.iaload, 1) := by decide +kernel
theorem dL_act_557 : decode cL_act 557 = .ok (.iconst 1, 1) := by decide +kernel
theorem dL_act_558 : decode cL_act 558 = .ok (.iadd, 1) := by decide +kernel
theorem dL_act_559 : decode cL_act 559 = .ok (.iastore, 1) := by decide +kernel
theorem dL_act_560 : decode cL_act 560 = .ok (.aload_n 0, 1) := by decide +kernel
theorem dL_act_561 : decode cL_act 561 = .ok (.iload 10, 2) := by decide +kernel
theorem dL_act_563 : decode cL_act 563 = .ok (.iload 9, 2) := by decide +kernel
theorem dL_act_565 : decode cL_act 565 = .ok (.iload 11, 2) := by decide +kernel
theorem dL_act_567 : decode cL_act 567 = .ok (.invokestatic 121, 3) := by decide +kernel
theorem dL_act_570 : decode cL_act 570 = .ok (.iconst (-1), 1) := by decide +kernel
theorem dL_act_571 : decode cL_act 571 = .ok (.if_icmp .ne 20, 3) := by decide +kernel
theorem dL_act_574 : decode cL_act 574 = .ok (.aload_n 0, 1) := by decide +kernel
theorem dL_act_575 : decode cL_act 575 = .ok (.iconst 5, 1) := by decide +kernel
theorem dL_act_576 : decode cL_act 576 = .ok (.iload 9, 2) := by decide +kernel
theorem dL_act_578 : decode cL_act 578 = .ok (.iconst 0, 1) := by decide +kernel
theorem dL_act_579 : decode cL_act 579 = .ok (.invokestatic 121, 3) := by decide +kernel
theorem dL_act_582 : decode cL_act 582 = .ok (.bipush (-31), 2) := by decide +kernel
theorem dL_act_584 : decode cL_act 584 = .ok (.if_icmp .ne 7, 3) := by decide +kernel
theorem dL_act_587 : decode cL_act 587 = .ok (.iconst 1, 1) := by decide +kernel
theorem dL_act_588 : decode cL_act 588 = .ok (.goto 4, 3) := by decide +kernel
theorem dL_act_591 : decode cL_act 591 = .ok (.iconst 0, 1) := by decide +kernel
theorem dL_act_592 : decode cL_act 592 = .ok (.ireturn, 1) := by decide +kernel
theorem dL_act_593 : decode cL_act 593 = .ok (.aload 6, 2) := by decide +kernel
theorem dL_act_595 : decode cL_act 595 = .ok (.bipush 8, 2) := by decide +kernel
theorem dL_act_597 : decode cL_act 597 = .ok (.iload 9, 2) := by decide +kernel
theorem dL_act_599 : decode cL_act 599 = .ok (.imul, 1) := by decide +kernel
theorem dL_act_600 : decode cL_act 600 = .ok (.aload 5, 2) := by decide +kernel
theorem dL_act_602 : decode cL_act 602 = .ok (.bipush 9, 2) := by decide +kernel
theorem dL_act_604 : decode cL_act 604 = .ok (.iload 9, 2) := by decide +kernel
theorem dL_act_606 : decode cL_act 606 = .ok (.iadd, 1) := by decide +kernel
theorem dL_act_607 : decode cL_act 607 = .ok (.iaload, 1) := by decide +kernel
theorem dL_act_608 : decode cL_act 608 = .ok (.iadd, 1) := by decide +kernel
theorem dL_act_609 : decode cL_act 609 = .ok (.bipush 100, 2) := by decide +kernel
theorem dL_act_611 : decode cL_act 611 = .ok (.iload 10, 2) := by decide +kernel
theorem dL_act_613 : decode cL_act 613 = .ok (.imul, 1) := by decide +kernel
theorem dL_act_614 : decode cL_act 614 = .ok (.iload 11, 2) := by decide +kernel
theorem dL_act_616 : decode cL_act 616 = .ok (.iadd, 1) := by decide +kernel
theorem dL_act_617 : decode cL_act 617 = .ok (.iastore, 1) := by decide +kernel
theorem dL_act_618 : decode cL_act 618 = .ok (.aload 5, 2) := by decide +kernel
theorem dL_act_620 : decode cL_act 620 = .ok (.bipush 9, 2) := by decide +kernel
theorem dL_act_622 : decode cL_act 622 = .ok (.iload 9, 2) := by decide +kernel
theorem dL_act_624 : decode cL_act 624 = .ok (.iadd, 1) := by decide +kernel
theorem dL_act_625 : decode cL_act 625 = .ok (.dup2, 1) := by decide +kernel
theorem dL_act_626 : decode cL_act 626 = .ok (.iaload, 1) := by decide +kernel
theorem dL_act_627 : decode cL_act 627 = .ok (.iconst 1, 1) := by decide +kernel
theorem dL_act_628 : decode cL_act 628 = .ok (.iadd, 1) := by decide +kernel
theorem dL_act_629 : decode cL_act 629 = .ok (.iastore, 1) := by decide +kernel
theorem dL_act_630 : decode cL_act 630 = .ok (.aload 7, 2) := by decide +kernel
theorem dL_act_632 : decode cL_act 632 = .ok (.iconst 3, 1) := by decide +kernel
theorem dL_act_633 : decode cL_act 633 = .ok (.iload 10, 2) := by decide +kernel
theorem dL_act_635 : decode cL_act 635 = .ok (.imul, 1) := by decide +kernel
theorem dL_act_636 : decode cL_act 636 = .ok (.iconst 1, 1) := by decide +kernel
theorem dL_act_637 : decode cL_act 637 = .ok (.iadd, 1) := by decide +kernel
theorem dL_act_638 : decode cL_act 638 = .ok (.dup2, 1) := by decide +kernel
theorem dL_act_639 : decode cL_act 639 = .ok (.iaload, 1) := by decide +kernel
theorem dL_act_640 : decode cL_act 640 = .ok (.iload 11, 2) := by decide +kernel
theorem dL_act_642 : decode cL_act 642 = .ok (.iadd, 1) := by decide +kernel
theorem dL_act_643 : decode cL_act 643 = .ok (.iastore, 1) := by decide +kernel
theorem dL_act_644 : decode cL_act 644 = .ok (.aload_n 0, 1) := by decide +kernel
theorem dL_act_645 : decode cL_act 645 = .ok (.iload 10, 2) := by decide +kernel
theorem dL_act_647 : decode cL_act 647 = .ok (.iload 9, 2) := by decide +kernel
theorem dL_act_649 : decode cL_act 649 = .ok (.iload 11, 2) := by decide +kernel
theorem dL_act_651 : decode cL_act 651 = .ok (.invokestatic 121, 3) := by decide +kernel
theorem dL_act_654 : decode cL_act 654 = .ok (.aload 5, 2) := by decide +kernel
theorem dL_act_656 : decode cL_act 656 = .ok (.aload 6, 2) := by decide +kernel
theorem dL_act_658 : decode cL_act 658 = .ok (.iload 9, 2) := by decide +kernel
theorem dL_act_660 : decode cL_act 660 = .ok (.invokestatic 94, 3) := by decide +kernel
theorem dL_act_663 : decode cL_act 663 = .ok (.if_icmp .ne 35, 3) := by decide +kernel
theorem dL_act_666 : decode cL_act 666 = .ok (.aload_n 0, 1) := by decide +kernel
theorem dL_act_667 : decode cL_act 667 = .ok (.iload 10, 2) := by decide +kernel
theorem dL_act_669 : decode cL_act 669 = .ok (.iload 9, 2) := by decide +kernel
theorem dL_act_671 : decode cL_act 671 = .ok (.bipush 100, 2) := by decide +kernel
theorem dL_act_673 : decode cL_act 673 = .ok (.invokestatic 121, 3) := by decide +kernel
theorem dL_act_676 : decode cL_act 676 = .ok (.bipush (-32), 2) := by decide +kernel
theorem dL_act_678 : decode cL_act 678 = .ok (.if_icmp .ne 20, 3) := by decide +kernel
theorem dL_act_681 : decode cL_act 681 = .ok (.aload_n 0, 1) := by decide +kernel
theorem dL_act_682 : decode cL_act 682 = .ok (.iload 10, 2) := by decide +kernel
theorem dL_act_684 : decode cL_act 684 = .ok (.iconst 3, 1) := by decide +kernel
theorem dL_act_685 : decode cL_act 685 = .ok (.iconst 1, 1) := by decide +kernel
theorem dL_act_686 : decode cL_act 686 = .ok (.invokestatic 121, 3) := by decide +kernel
theorem dL_act_689 : decode cL_act 689 = .ok (.bipush (-31), 2) := by decide +kernel
theorem dL_act_691 : decode cL_act 691 = .ok (.if_icmp .ne 7, 3) := by decide +kernel
theorem dL_act_694 : decode cL_act 694 = .ok (.iconst 1, 1) := by decide +kernel
theorem dL_act_695 : decode cL_act 695 = .ok (.goto 4, 3) := by decide +kernel
theorem dL_act_698 : decode cL_act 698 = .ok (.iconst 0, 1) := by decide +kernel
theorem dL_act_699 : decode cL_act 699 = .ok (.ireturn, 1) := by decide +kernel
theorem dL_act_700 : decode cL_act 700 = .ok (.iload 8, 2) := by decide +kernel
theorem dL_act_702 : decode cL_act 702 = .ok (.bipush 11, 2) := by decide +kernel
theorem dL_act_704 : decode cL_act 704 = .ok (.if_icmp .ne 119, 3) := by decide +kernel
theorem dL_act_707 : decode cL_act 707 = .ok (.aload 5, 2) := by decide +kernel
theorem dL_act_709 : decode cL_act 709 = .ok (.bipush 9, 2) := by decide +kernel
theorem dL_act_711 : decode cL_act 711 = .ok (.iload 9, 2) := by decide +kernel
theorem dL_act_713 : decode cL_act 713 = .ok (.iadd, 1) := by decide +kernel
theorem dL_act_714 : decode cL_act 714 = .ok (.iaload, 1) := by decide +kernel
theorem dL_act_715 : decode cL_act 715 = .ok (.ifCond .ne 37, 3) := by decide +kernel
theorem dL_act_718 : decode cL_act 718 = .ok (.aload 5, 2) := by decide +kernel
theorem dL_act_720 : decode cL_act 720 = .ok (.iconst 3, 1) := by decide +kernel
theorem dL_act_721 : decode cL_act 721 = .ok (.dup2, 1) := by decide +kernel
theorem dL_act_722 : decode cL_act 722 = .ok (.iaload, 1) := by decide +kernel
theorem dL_act_723 : decode cL_act 723 = .ok (.iconst 1, 1) := by decide +kernel
theorem dL_act_724 : decode cL_act 724 = .ok (.iadd, 1) := by decide +kernel
theorem dL_act_725 : decode cL_act 725 = .ok (.iastore, 1) := by decide +kernel
theorem dL_act_726 : decode cL_act 726 = .ok (.aload_n 0, 1) := by decide +kernel
theorem dL_act_727 : decode cL_act 727 = .ok (.iload 9, 2) := by decide +kernel
theorem dL_act_729 : decode cL_act 729 = .ok (.invokestatic 123, 3) := by decide +kernel
theorem dL_act_732 : decode cL_act 732 = .ok (.iconst (-1), 1) := by decide +kernel
theorem dL_act_733 : decode cL_act 733 = .ok (.if_icmp .ne 17, 3) := by decide +kernel
theorem dL_act_736 : decode cL_act 736 = .ok (.aload_n 0, 1) := by decide +kernel
theorem dL_act_737 : decode cL_act 737 = .ok (.iconst 3, 1) := by decide +kernel
theorem dL_act_738 : decode cL_act 738 = .ok (.invokestatic 123, 3) := by decide +kernel
theorem dL_act_741 : decode cL_act 741 = .ok (.bipush (-31), 2) := by decide +kernel
theorem dL_act_743 : decode cL_act 743 = .ok (.if_icmp .ne 7, 3) := by decide +kernel
theorem dL_act_746 : decode cL_act 746 = .ok (.iconst 1, 1) := by decide +kernel
theorem dL_act_747 : decode cL_act 747 = .ok (.goto 4, 3) := by decide +kernel
theorem dL_act_750 : decode cL_act 750 = .ok (.iconst 0, 1) := by decide +kernel
theorem dL_act_751 : decode cL_act 751 = .ok (.ireturn, 1) := by decide +kernel
theorem dL_act_752 : decode cL_act 752 = .ok (.aload 5, 2) := by decide +kernel
theorem dL_act_754 : decode cL_act 754 = .ok (.bipush 9, 2) := by decide +kernel
theorem dL_act_756 : decode cL_act 756 = .ok (.iload 9, 2) := by decide +kernel
theorem dL_act_758 : decode cL_act 758 = .ok (.iadd, 1) := by decide +kernel
theorem dL_act_759 : decode cL_act 759 = .ok (.dup2, 1) := by decide +kernel
theorem dL_act_760 : decode cL_act 760 = .ok (.iaload, 1) := by decide +kernel
theorem dL_act_761 : decode cL_act 761 = .ok (.iconst 1, 1) := by decide +kernel
theorem dL_act_762 : decode cL_act 762 = .ok (.isub, 1) := by decide +kernel
theorem dL_act_763 : decode cL_act 763 = .ok (.iastore, 1) := by decide +kernel
theorem dL_act_764 : decode cL_act 764 = .ok (.aload 6, 2) := by decide +kernel
theorem dL_act_766 : decode cL_act 766 = .ok (.bipush 8, 2) := by decide +kernel
theorem dL_act_768 : decode cL_act 768 = .ok (.iload 9, 2) := by decide +kernel
theorem dL_act_770 : decode cL_act 770 = .ok (.imul, 1) := by decide +kernel
theorem dL_act_771 : decode cL_act 771 = .ok (.aload 5, 2) := by decide +kernel
theorem dL_act_773 : decode cL_act 773 = .ok (.bipush 9, 2) := by decide +kernel
theorem dL_act_775 : decode cL_act 775 = .ok (.iload 9, 2) := by decide +kernel
theorem dL_act_777 : decode cL_act 777 = .ok (.iadd, 1) := by decide +kernel
theorem dL_act_778 : decode cL_act 778 = .ok (.iaload, 1) := by decide +kernel
theorem dL_act_779 : decode cL_act 779 = .ok (.iadd, 1) := by decide +kernel
theorem dL_act_780 : decode cL_act 780 = .ok (.iaload, 1) := by decide +kernel
theorem dL_act_781 : decode cL_act 781 = .ok (.istore 10, 2) := by decide +kernel
theorem dL_act_783 : decode cL_act 783 = .ok (.aload 7, 2) := by decide +kernel
theorem dL_act_785 : decode cL_act 785 = .ok (.iconst 3, 1) := by decide +kernel
theorem dL_act_786 : decode cL_act 786 = .ok (.iload 10, 2) := by decide +kernel
theorem dL_act_788 : decode cL_act 788 = .ok (.bipush 100, 2) := by decide +kernel
theorem dL_act_790 : decode cL_act 790 = .ok (.idiv, 1) := by decide +kernel
theorem dL_act_791 : decode cL_act 791 = .ok (.imul, 1) := by decide +kernel
theorem dL_act_792 : decode cL_act 792 = .ok (.iconst 2, 1) := by decide +kernel
theorem dL_act_793 : decode cL_act 793 = .ok (.iadd, 1) := by decide +kernel
theorem dL_act_794 : decode cL_act 794 = .ok (.dup2, 1) := by decide +kernel
theorem dL_act_795 : decode cL_act 795 = .ok (.iaload, 1) := by decide +kernel
theorem dL_act_796 : decode cL_act 796 = .ok (.iload 10, 2) := by decide +kernel
theorem dL_act_798 : decode cL_act 798 = .ok (.bipush 100, 2) := by decide +kernel
theorem dL_act_800 : decode cL_act 800 = .ok (.irem, 1) := by decide +kernel
theorem dL_act_801 : decode cL_act 801 = .ok (.iadd, 1) := by decide +kernel
theorem dL_act_802 : decode cL_act 802 = .ok (.iastore, 1) := by decide +kernel
theorem dL_act_803 : decode cL_act 803 = .ok (.aload_n 0, 1) := by decide +kernel
theorem dL_act_804 : decode cL_act 804 = .ok (.iload 9, 2) := by decide +kernel
theorem dL_act_806 : decode cL_act 806 = .ok (.invokestatic 123, 3) := by decide +kernel
theorem dL_act_809 : decode cL_act 809 = .ok (.iload 10, 2) := by decide +kernel
theorem dL_act_811 : decode cL_act 811 = .ok (.bipush 100, 2) := by decide +kernel
theorem dL_act_813 : decode cL_act 813 = .ok (.irem, 1) := by decide +kernel
theorem dL_act_814 : decode cL_act 814 = .ok (.if_icmp .ne 7, 3) := by decide +kernel
theorem dL_act_817 : decode cL_act 817 = .ok (.iconst 1, 1) := by decide +kernel
theorem dL_act_818 : decode cL_act 818 = .ok (.goto 4, 3) := by decide +kernel
theorem dL_act_821 : decode cL_act 821 = .ok (.iconst 0, 1) := by decide +kernel
theorem dL_act_822 : decode cL_act 822 = .ok (.ireturn, 1) := by decide +kernel
theorem dL_act_823 : decode cL_act 823 = .ok (.iconst 1, 1) := by decide +kernel
theorem dL_act_824 : decode cL_act 824 = .ok (.iload_n 2, 1) := by decide +kernel
theorem dL_act_825 : decode cL_act 825 = .ok (.iload_n 2, 1) := by decide +kernel
theorem dL_act_826 : decode cL_act 826 = .ok (.bipush 9, 2) := by decide +kernel
theorem dL_act_828 : decode cL_act 828 = .ok (.ishr, 1) := by decide +kernel
theorem dL_act_829 : decode cL_act 829 = .ok (.iconst 3, 1) := by decide +kernel
theorem dL_act_830 : decode cL_act 830 = .ok (.iand, 1) := by decide +kernel
theorem dL_act_831 : decode cL_act 831 = .ok (.ifCond .ne 8, 3) := by decide +kernel
theorem dL_act_834 : decode cL_act 834 = .ok (.bipush 99, 2) := by decide +kernel
theorem dL_act_836 : decode cL_act 836 = .ok (.goto 5, 3) := by decide +kernel
theorem dL_act_839 : decode cL_act 839 = .ok (.bipush 7, 2) := by decide +kernel
theorem dL_act_841 : decode cL_act 841 = .ok (.invokestatic 109, 3) := by decide +kernel
theorem dL_act_844 : decode cL_act 844 = .ok (.iadd, 1) := by decide +kernel
theorem dL_act_845 : decode cL_act 845 = .ok (.istore 10, 2) := by decide +kernel
theorem dL_act_847 : decode cL_act 847 = .ok (.iconst 0, 1) := by decide +kernel
theorem dL_act_848 : decode cL_act 848 = .ok (.istore 11, 2) := by decide +kernel
theorem dL_act_850 : decode cL_act 850 = .ok (.iconst 0, 1) := by decide +kernel
theorem dL_act_851 : decode cL_act 851 = .ok (.istore 12, 2) := by decide +kernel
theorem dL_act_853 : decode cL_act 853 = .ok (.iload 12, 2) := by decide +kernel
theorem dL_act_855 : decode cL_act 855 = .ok (.iload 10, 2) := by decide +kernel
theorem dL_act_857 : decode cL_act 857 = .ok (.if_icmp .ge 26, 3) := by decide +kernel
theorem dL_act_860 : decode cL_act 860 = .ok (.iload 11, 2) := by decide +kernel
theorem dL_act_862 : decode cL_act 862 = .ok (.aload_n 3, 1) := by decide +kernel
theorem dL_act_863 : decode cL_act 863 = .ok (.aload 4, 2) := by decide +kernel
theorem dL_act_865 : decode cL_act 865 = .ok (.aload 5, 2) := by decide +kernel
theorem dL_act_867 : decode cL_act 867 = .ok (.aload 6, 2) := by decide +kernel
theorem dL_act_869 : decode cL_act 869 = .ok (.aload 7, 2) := by decide +kernel
theorem dL_act_871 : decode cL_act 871 = .ok (.invokestatic 102, 3) := by decide +kernel
theorem dL_act_874 : decode cL_act 874 = .ok (.iadd, 1) := by decide +kernel
theorem dL_act_875 : decode cL_act 875 = .ok (.istore 11, 2) := by decide +kernel
theorem dL_act_877 : decode cL_act 877 = .ok (.iinc 12 1, 3) := by decide +kernel
theorem dL_act_880 : decode cL_act 880 = .ok (.goto (-27), 3) := by decide +kernel
theorem dL_act_883 : decode cL_act 883 = .ok (.aload_n 0, 1) := by decide +kernel
theorem dL_act_884 : decode cL_act 884 = .ok (.iload 10, 2) := by decide +kernel
theorem dL_act_886 : decode cL_act 886 = .ok (.invokestatic 126, 3) := by decide +kernel
theorem dL_act_889 : decode cL_act 889 = .ok (.iload 11, 2) := by decide +kernel
theorem dL_act_891 : decode cL_act 891 = .ok (.if_icmp .ne 28, 3) := by decide +kernel
theorem dL_act_894 : decode cL_act 894 = .ok (.aload_n 0, 1) := by decide +kernel
theorem dL_act_895 : decode cL_act 895 = .ok (.iconst 0, 1) := by decide +kernel
theorem dL_act_896 : decode cL_act 896 = .ok (.invokestatic 126, 3) := by decide +kernel
theorem dL_act_899 : decode cL_act 899 = .ok (.bipush (-32), 2) := by decide +kernel
theorem dL_act_901 : decode cL_act 901 = .ok (.if_icmp .ne 18, 3) := by decide +kernel
theorem dL_act_904 : decode cL_act 904 = .ok (.aload_n 0, 1) := by decide +kernel
theorem dL_act_905 : decode cL_act 905 = .ok (.bipush 100, 2) := by decide +kernel
theorem dL_act_907 : decode cL_act 907 = .ok (.invokestatic 126, 3) := by decide +kernel
theorem dL_act_910 : decode cL_act 910 = .ok (.bipush (-32), 2) := by decide +kernel
theorem dL_act_912 : decode cL_act 912 = .ok (.if_icmp .ne 7, 3) := by decide +kernel
theorem dL_act_915 : decode cL_act 915 = .ok (.iconst 1, 1) := by decide +kernel
theorem dL_act_916 : decode cL_act 916 = .ok (.goto 4, 3) := by decide +kernel
theorem dL_act_919 : decode cL_act 919 = .ok (.iconst 0, 1) := by decide +kernel
theorem dL_act_920 : decode cL_act 920 = .ok (.ireturn, 1) := by decide +kernel
theorem dL_law_0 : decode cL_law 0 = .ok (.new 10, 3) := by decide +kernel
theorem dL_law_3 : decode cL_law 3 = .ok (.dup, 1) := by decide +kernel
theorem dL_law_4 : decode cL_law 4 = .ok (.invokespecial 128, 3) := by decide +kernel
theorem dL_law_7 : decode cL_law 7 = .ok (.astore_n 1, 1) := by decide +kernel
theorem dL_law_8 : decode cL_law 8 = .ok (.bipush 48, 2) := by decide +kernel
theorem dL_law_10 : decode cL_law 10 = .ok (.newarray .int, 2) := by decide +kernel
theorem dL_law_12 : decode cL_law 12 = .ok (.astore_n 2, 1) := by decide +kernel
theorem dL_law_13 : decode cL_law 13 = .ok (.bipush 24, 2) := by decide +kernel
theorem dL_law_15 : decode cL_law 15 = .ok (.newarray .int, 2) := by decide +kernel
theorem dL_law_17 : decode cL_law 17 = .ok (.astore_n 3, 1) := by decide +kernel
theorem dL_law_18 : decode cL_law 18 = .ok (.bipush 15, 2) := by decide +kernel
theorem dL_law_20 : decode cL_law 20 = .ok (.newarray .int, 2) := by decide +kernel
theorem dL_law_22 : decode cL_law 22 = .ok (.astore 4, 2) := by decide +kernel
theorem dL_law_24 : decode cL_law 24 = .ok (.bipush 24, 2) := by decide +kernel
theorem dL_law_26 : decode cL_law 26 = .ok (.newarray .int, 2) := by decide +kernel
theorem dL_law_28 : decode cL_law 28 = .ok (.astore 5, 2) := by decide +kernel
theorem dL_law_30 : decode cL_law 30 = .ok (.bipush 15, 2) := by decide +kernel
theorem dL_law_32 : decode cL_law 32 = .ok (.newarray .int, 2) := by decide +kernel
theorem dL_law_34 : decode cL_law 34 = .ok (.astore 6, 2) := by decide +kernel
theorem dL_law_36 : decode cL_law 36 = .ok (.iconst 0, 1) := by decide +kernel
theorem dL_law_37 : decode cL_law 37 = .ok (.istore 7, 2) := by decide +kernel
theorem dL_law_39 : decode cL_law 39 = .ok (.iload 7, 2) := by decide +kernel
theorem dL_law_41 : decode cL_law 41 = .ok (.bipush 24, 2) := by decide +kernel
theorem dL_law_43 : decode cL_law 43 = .ok (.if_icmp .ge 33, 3) := by decide +kernel
theorem dL_law_46 : decode cL_law 46 = .ok (.aload_n 2, 1) := by decide +kernel
theorem dL_law_47 : decode cL_law 47 = .ok (.iconst 2, 1) := by decide +kernel
theorem dL_law_48 : decode cL_law 48 = .ok (.iload 7, 2) := by decide +kernel
theorem dL_law_50 : decode cL_law 50 = .ok (.imul, 1) := by decide +kernel
theorem dL_law_51 : decode cL_law 51 = .ok (.iload 7, 2) := by decide +kernel
theorem dL_law_53 : decode cL_law 53 = .ok (.bipush 8, 2) := by decide +kernel
theorem dL_law_55 : decode cL_law 55 = .ok (.irem, 1) := by decide +kernel
theorem dL_law_56 : decode cL_law 56 = .ok (.iastore, 1) := by decide +kernel
theorem dL_law_57 : decode cL_law 57 = .ok (.aload_n 2, 1) := by decide +kernel
theorem dL_law_58 : decode cL_law 58 = .ok (.iconst 2, 1) := by decide +kernel
theorem dL_law_59 : decode cL_law 59 = .ok (.iload 7, 2) := by decide +kernel
theorem dL_law_61 : decode cL_law 61 = .ok (.imul, 1) := by decide +kernel
theorem dL_law_62 : decode cL_law 62 = .ok (.iconst 1, 1) := by decide +kernel
theorem dL_law_63 : decode cL_law 63 = .ok (.iadd, 1) := by decide +kernel
theorem dL_law_64 : decode cL_law 64 = .ok (.iload 7, 2) := by decide +kernel
theorem dL_law_66 : decode cL_law 66 = .ok (.bipush 10, 2) := by decide +kernel
theorem dL_law_68 : decode cL_law 68 = .ok (.irem, 1) := by decide +kernel
theorem dL_law_69 : decode cL_law 69 = .ok (.iastore, 1) := by decide +kernel
theorem dL_law_70 : decode cL_law 70 = .ok (.iinc 7 1, 3) := by decide +kernel
theorem dL_law_73 : decode cL_law 73 = .ok (.goto (-34), 3) := by decide +kernel
theorem dL_law_76 : decode cL_law 76 = .ok (.iconst 0, 1) := by decide +kernel
theorem dL_law_77 : decode cL_law 77 = .ok (.istore 7, 2) := by decide +kernel
theorem dL_law_79 : decode cL_law 79 = .ok (.iload 7, 2) := by decide +kernel
theorem dL_law_81 : decode cL_law 81 = .ok (.bipush 6, 2) := by decide +kernel
theorem dL_law_83 : decode cL_law 83 = .ok (.if_icmp .ge 35, 3) := by decide +kernel
theorem dL_law_86 : decode cL_law 86 = .ok (.aload_n 3, 1) := by decide +kernel
theorem dL_law_87 : decode cL_law 87 = .ok (.iconst 4, 1) := by decide +kernel
theorem dL_law_88 : decode cL_law 88 = .ok (.iload 7, 2) := by decide +kernel
theorem dL_law_90 : decode cL_law 90 = .ok (.imul, 1) := by decide +kernel
theorem dL_law_91 : decode cL_law 91 = .ok (.iload 7, 2) := by decide +kernel
theorem dL_law_93 : decode cL_law 93 = .ok (.iastore, 1) := by decide +kernel
theorem dL_law_94 : decode cL_law 94 = .ok (.aload_n 3, 1) := by decide +kernel
theorem dL_law_95 : decode cL_law 95 = .ok (.iconst 4, 1) := by decide +kernel
theorem dL_law_96 : decode cL_law 96 = .ok (.iload 7, 2) := by decide +kernel
theorem dL_law_98 : decode cL_law 98 = .ok (.imul, 1) := by decide +kernel
theorem dL_law_99 : decode cL_law 99 = .ok (.iconst 1, 1) := by decide +kernel
theorem dL_law_100 : decode cL_law 100 = .ok (.iadd, 1) := by decide +kernel
theorem dL_law_101 : decode cL_law 101 = .ok (.iconst 2, 1) := by decide +kernel
theorem dL_law_102 : decode cL_law 102 = .ok (.iastore, 1) := by decide +kernel
theorem dL_law_103 : decode cL_law 103 = .ok (.aload_n 3, 1) := by decide +kernel
theorem dL_law_104 : decode cL_law 104 = .ok (.iconst 4, 1) := by decide +kernel
theorem dL_law_105 : decode cL_law 105 = .ok (.iload 7, 2) := by decide +kernel
theorem dL_law_107 : decode cL_law 107 = .ok (.imul, 1) := by decide +kernel
theorem dL_law_108 : decode cL_law 108 = .ok (.iconst 2, 1) := by decide +kernel
theorem dL_law_109 : decode cL_law 109 = .ok (.iadd, 1) := by decide +kernel
theorem dL_law_110 : decode cL_law 110 = .ok (.iconst 1, 1) := by decide +kernel
theorem dL_law_111 : decode cL_law 111 = .ok (.iastore, 1) := by decide +kernel
theorem dL_law_112 : decode cL_law 112 = .ok (.iinc 7 1, 3) := by decide +kernel
theorem dL_law_115 : decode cL_law 115 = .ok (.goto (-36), 3) := by decide +kernel
theorem dL_law_118 : decode cL_law 118 = .ok (.aload 4, 2) := by decide +kernel
theorem dL_law_120 : decode cL_law 120 = .ok (.iconst 4, 1) := by decide +kernel
theorem dL_law_121 : decode cL_law 121 = .ok (.iconst 3, 1) := by decide +kernel
theorem dL_law_122 : decode cL_law 122 = .ok (.iastore, 1) := by decide +kernel
theorem dL_law_123 : decode cL_law 123 = .ok (.iconst 0, 1) := by decide +kernel
theorem dL_law_124 : decode cL_law 124 = .ok (.istore 7, 2) := by decide +kernel
theorem dL_law_126 : decode cL_law 126 = .ok (.iload 7, 2) := by decide +kernel
theorem dL_law_128 : decode cL_law 128 = .ok (.iconst 3, 1) := by decide +kernel
theorem dL_law_129 : decode cL_law 129 = .ok (.if_icmp .ge 18, 3) := by decide +kernel
theorem dL_law_132 : decode cL_law 132 = .ok (.aload 4, 2) := by decide +kernel
theorem dL_law_134 : decode cL_law 134 = .ok (.bipush 6, 2) := by decide +kernel
theorem dL_law_136 : decode cL_law 136 = .ok (.iload 7, 2) := by decide +kernel
theorem dL_law_138 : decode cL_law 138 = .ok (.iadd, 1) := by decide +kernel
theorem dL_law_139 : decode cL_law 139 = .ok (.iconst 2, 1) := by decide +kernel
theorem dL_law_140 : decode cL_law 140 = .ok (.iastore, 1) := by decide +kernel
theorem dL_law_141 : decode cL_law 141 = .ok (.iinc 7 1, 3) := by decide +kernel
theorem dL_law_144 : decode cL_law 144 = .ok (.goto (-18), 3) := by decide +kernel
theorem dL_law_147 : decode cL_law 147 = .ok (.aload_n 1, 1) := by decide +kernel
theorem dL_law_148 : decode cL_law 148 = .ok (.aload_n 2, 1) := by decide +kernel
theorem dL_law_149 : decode cL_law 149 = .ok (.aload_n 3, 1) := by decide +kernel
theorem dL_law_150 : decode cL_law 150 = .ok (.aload 4, 2) := by decide +kernel
theorem dL_law_152 : decode cL_law 152 = .ok (.invokestatic 129, 3) := by decide +kernel
theorem dL_law_155 : decode cL_law 155 = .ok (.ifCond .eq 27, 3) := by decide +kernel
theorem dL_law_158 : decode cL_law 158 = .ok (.aload_n 1, 1) := by decide +kernel
theorem dL_law_159 : decode cL_law 159 = .ok (.aload_n 2, 1) := by decide +kernel
theorem dL_law_160 : decode cL_law 160 = .ok (.aload_n 3, 1) := by decide +kernel
theorem dL_law_161 : decode cL_law 161 = .ok (.aload 4, 2) := by decide +kernel
theorem dL_law_163 : decode cL_law 163 = .ok (.aload 5, 2) := by decide +kernel
theorem dL_law_165 : decode cL_law 165 = .ok (.aload 6, 2) := by decide +kernel
theorem dL_law_167 : decode cL_law 167 = .ok (.invokestatic 133, 3) := by decide +kernel
theorem dL_law_170 : decode cL_law 170 = .ok (.ifCond .eq 12, 3) := by decide +kernel
theorem dL_law_173 : decode cL_law 173 = .ok (.aload_n 1, 1) := by decide +kernel
theorem dL_law_174 : decode cL_law 174 = .ok (.invokestatic 137, 3) := by decide +kernel
theorem dL_law_177 : decode cL_law 177 = .ok (.bipush (-33), 2) := by decide +kernel
theorem dL_law_179 : decode cL_law 179 = .ok (.if_icmp .eq 5, 3) := by decide +kernel
theorem dL_law_182 : decode cL_law 182 = .ok (.iconst 0, 1) := by decide +kernel
theorem dL_law_183 : decode cL_law 183 = .ok (.ireturn, 1) := by decide +kernel
theorem dL_law_184 : decode cL_law 184 = .ok (.iconst 0, 1) := by decide +kernel
theorem dL_law_185 : decode cL_law 185 = .ok (.istore 7, 2) := by decide +kernel
theorem dL_law_187 : decode cL_law 187 = .ok (.iload 7, 2) := by decide +kernel
theorem dL_law_189 : decode cL_law 189 = .ok (.bipush 50, 2) := by decide +kernel
theorem dL_law_191 : decode cL_law 191 = .ok (.if_icmp .ge 131, 3) := by decide +kernel
theorem dL_law_194 : decode cL_law 194 = .ok (.aload_n 0, 1) := by decide +kernel
theorem dL_law_195 : decode cL_law 195 = .ok (.iconst 2, 1) := by decide +kernel
theorem dL_law_196 : decode cL_law 196 = .ok (.iload 7, 2) := by decide +kernel
theorem dL_law_198 : decode cL_law 198 = .ok (.imul, 1) := by decide +kernel
theorem dL_law_199 : decode cL_law 199 = .ok (.invokestatic 140, 3) := by decide +kernel
theorem dL_law_202 : decode cL_law 202 = .ok (.istore 8, 2) := by decide +kernel
theorem dL_law_204 : decode cL_law 204 = .ok (.aload_n 0, 1) := by decide +kernel
theorem dL_law_205 : decode cL_law 205 = .ok (.iconst 2, 1) := by decide +kernel
theorem dL_law_206 : decode cL_law 206 = .ok (.iload 7, 2) := by decide +kernel
theorem dL_law_208 : decode cL_law 208 = .ok (.imul, 1) := by decide +kernel
theorem dL_law_209 : decode cL_law 209 = .ok (.iconst 1, 1) := by decide +kernel
theorem dL_law_210 : decode cL_law 210 = .ok (.iadd, 1) := by decide +kernel
theorem dL_law_211 : decode cL_law 211 = .ok (.invokestatic 140, 3) := by decide +kernel
theorem dL_law_214 : decode cL_law 214 = .ok (.istore 9, 2) := by decide +kernel
theorem dL_law_216 : decode cL_law 216 = .ok (.aload_n 1, 1) := by decide +kernel
theorem dL_law_217 : decode cL_law 217 = .ok (.iload 7, 2) := by decide +kernel
theorem dL_law_219 : decode cL_law 219 = .ok (.iconst 3, 1) := by decide +kernel
theorem dL_law_220 : decode cL_law 220 = .ok (.if_icmp .ge 8, 3) := by decide +kernel
theorem dL_law_223 : decode cL_law 223 = .ok (.bipush 7, 2) := by decide +kernel
theorem dL_law_225 : decode cL_law 225 = .ok (.goto 5, 3) := by decide +kernel
theorem dL_law_228 : decode cL_law 228 = .ok (.iload 8, 2) := by decide +kernel
theorem dL_law_230 : decode cL_law 230 = .ok (.iload 9, 2) := by decide +kernel
theorem dL_law_232 : decode cL_law 232 = .ok (.aload_n 2, 1) := by decide +kernel
theorem dL_law_233 : decode cL_law 233 = .ok (.aload_n 3, 1) := by decide +kernel
theorem dL_law_234 : decode cL_law 234 = .ok (.aload 4, 2) := by decide +kernel
theorem dL_law_236 : decode cL_law 236 = .ok (.aload 5, 2) := by decide +kernel
theorem dL_law_238 : decode cL_law 238 = .ok (.aload 6, 2) := by decide +kernel
theorem dL_law_240 : decode cL_law 240 = .ok (.invokestatic 144, 3) := by decide +kernel
theorem dL_law_243 : decode cL_law 243 = .ok (.ifCond .eq 71, 3) := by decide +kernel
theorem dL_law_246 : decode cL_law 246 = .ok (.aload_n 1, 1) := by decide +kernel
theorem dL_law_247 : decode cL_law 247 = .ok (.aload_n 2, 1) := by decide +kernel
theorem dL_law_248 : decode cL_law 248 = .ok (.aload_n 3, 1) := by decide +kernel
theorem dL_law_249 : decode cL_law 249 = .ok (.aload 4, 2) := by decide +kernel
theorem dL_law_251 : decode cL_law 251 = .ok (.aload 5, 2) := by decide +kernel
theorem dL_law_253 : decode cL_law 253 = .ok (.aload 6, 2) := by decide +kernel
theorem dL_law_255 : decode cL_law 255 = .ok (.invokestatic 133, 3) := by decide +kernel
theorem dL_law_258 : decode cL_law 258 = .ok (.ifCond .eq 56, 3) := by decide +kernel
theorem dL_law_261 : decode cL_law 261 = .ok (.iload 7, 2) := by decide +kernel
theorem dL_law_263 : decode cL_law 263 = .ok (.iconst 2, 1) := by decide +kernel
theorem dL_law_264 : decode cL_law 264 = .ok (.irem, 1) := by decide +kernel
theorem dL_law_265 : decode cL_law 265 = .ok (.iconst 1, 1) := by decide +kernel
theorem dL_law_266 : decode cL_law 266 = .ok (.if_icmp .ne 14, 3) := by decide +kernel
theorem dL_law_269 : decode cL_law 269 = .ok (.aload_n 1, 1) := by decide +kernel
theorem dL_law_270 : decode cL_law 270 = .ok (.aload_n 2, 1) := by decide +kernel
theorem dL_law_271 : decode cL_law 271 = .ok (.aload_n 3, 1) := by decide +kernel
theorem dL_law_272 : decode cL_law 272 = .ok (.aload 4, 2) := by decide +kernel
theorem dL_law_274 : decode cL_law 274 = .ok (.invokestatic 129, 3) := by decide +kernel
theorem dL_law_277 : decode cL_law 277 = .ok (.ifCond .eq 37, 3) := by decide +kernel
theorem dL_law_280 : decode cL_law 280 = .ok (.iload 7, 2) := by decide +kernel
theorem dL_law_282 : decode cL_law 282 = .ok (.iconst 5, 1) := by decide +kernel
theorem dL_law_283 : decode cL_law 283 = .ok (.irem, 1) := by decide +kernel
theorem dL_law_284 : decode cL_law 284 = .ok (.iconst 4, 1) := by decide +kernel
theorem dL_law_285 : decode cL_law 285 = .ok (.if_icmp .ne 31, 3) := by decide +kernel
theorem dL_law_288 : decode cL_law 288 = .ok (.aload_n 1, 1) := by decide +kernel
theorem dL_law_289 : decode cL_law 289 = .ok (.iconst 1, 1) := by decide +kernel
theorem dL_law_290 : decode cL_law 290 = .ok (.iload 8, 2) := by decide +kernel
theorem dL_law_292 : decode cL_law 292 = .ok (.iconst 4, 1) := by decide +kernel
theorem dL_law_293 : decode cL_law 293 = .ok (.ishr, 1) := by decide +kernel
theorem dL_law_294 : decode cL_law 294 = .ok (.bipush 99, 2) := by decide +kernel
theorem dL_law_296 : decode cL_law 296 = .ok (.invokestatic 109, 3) := by decide +kernel
theorem dL_law_299 : decode cL_law 299 = .ok (.iadd, 1) := by decide +kernel
theorem dL_law_300 : decode cL_law 300 = .ok (.aload_n 2, 1) := by decide +kernel
theorem dL_law_301 : decode cL_law 301 = .ok (.aload_n 3, 1) := by decide +kernel
theorem dL_law_302 : decode cL_law 302 = .ok (.aload 4, 2) := by decide +kernel
theorem dL_law_304 : decode cL_law 304 = .ok (.aload 5, 2) := by decide +kernel
theorem dL_law_306 : decode cL_law 306 = .ok (.aload 6, 2) := by decide +kernel
theorem dL_law_308 : decode cL_law 308 = .ok (.invokestatic 148, 3) := by decide +kernel
theorem dL_law_311 : decode cL_law 311 = .ok (.ifCond .ne 5, 3) := by decide +kernel
theorem dL_law_314 : decode cL_law 314 = .ok (.iconst 0, 1) := by decide +kernel
theorem dL_law_315 : decode cL_law 315 = .ok (.ireturn, 1) := by decide +kernel
theorem dL_law_316 : decode cL_law 316 = .ok (.iinc 7 1, 3) := by decide +kernel
theorem dL_law_319 : decode cL_law 319 = .ok (.goto (-132), 3) := by decide +kernel
theorem dL_law_322 : decode cL_law 322 = .ok (.aload_n 1, 1) := by decide +kernel
theorem dL_law_323 : decode cL_law 323 = .ok (.bipush 24, 2) := by decide +kernel
theorem dL_law_325 : decode cL_law 325 = .ok (.iconst 5, 1) := by decide +kernel
theorem dL_law_326 : decode cL_law 326 = .ok (.invokestatic 152, 3) := by decide +kernel
theorem dL_law_329 : decode cL_law 329 = .ok (.bipush (-31), 2) := by decide +kernel
theorem dL_law_331 : decode cL_law 331 = .ok (.if_icmp .ne 111, 3) := by decide +kernel
theorem dL_law_334 : decode cL_law 334 = .ok (.aload_n 1, 1) := by decide +kernel
theorem dL_law_335 : decode cL_law 335 = .ok (.iconst 0, 1) := by decide +kernel
theorem dL_law_336 : decode cL_law 336 = .ok (.iconst 5, 1) := by decide +kernel
theorem dL_law_337 : decode cL_law 337 = .ok (.invokestatic 152, 3) := by decide +kernel
theorem dL_law_340 : decode cL_law 340 = .ok (.bipush (-32), 2) := by decide +kernel
theorem dL_law_342 : decode cL_law 342 = .ok (.if_icmp .ne 100, 3) := by decide +kernel
theorem dL_law_345 : decode cL_law 345 = .ok (.aload_n 1, 1) := by decide +kernel
theorem dL_law_346 : decode cL_law 346 = .ok (.bipush 6, 2) := by decide +kernel
theorem dL_law_348 : decode cL_law 348 = .ok (.bipush 6, 2) := by decide +kernel
theorem dL_law_350 : decode cL_law 350 = .ok (.invokestatic 154, 3) := by decide +kernel
theorem dL_law_353 : decode cL_law 353 = .ok (.bipush (-31), 2) := by decide +kernel
theorem dL_law_355 : decode cL_law 355 = .ok (.if_icmp .ne 87, 3) := by decide +kernel
theorem dL_law_358 : decode cL_law 358 = .ok (.aload_n 1, 1) := by decide +kernel
theorem dL_law_359 : decode cL_law 359 = .ok (.iconst 0, 1) := by decide +kernel
theorem dL_law_360 : decode cL_law 360 = .ok (.bipush 6, 2) := by decide +kernel
theorem dL_law_362 : decode cL_law 362 = .ok (.invokestatic 154, 3) := by decide +kernel
theorem dL_law_365 : decode cL_law 365 = .ok (.bipush (-32), 2) := by decide +kernel
theorem dL_law_367 : decode cL_law 367 = .ok (.if_icmp .ne 75, 3) := by decide +kernel
theorem dL_law_370 : decode cL_law 370 = .ok (.aload_n 1, 1) := by decide +kernel
theorem dL_law_371 : decode cL_law 371 = .ok (.iconst 3, 1) := by decide +kernel
theorem dL_law_372 : decode cL_law 372 = .ok (.bipush 6, 2) := by decide +kernel
theorem dL_law_374 : decode cL_law 374 = .ok (.invokestatic 156, 3) := by decide +kernel
theorem dL_law_377 : decode cL_law 377 = .ok (.bipush (-31), 2) := by decide +kernel
theorem dL_law_379 : decode cL_law 379 = .ok (.if_icmp .ne 63, 3) := by decide +kernel
theorem dL_law_382 : decode cL_law 382 = .ok (.aload_n 1, 1) := by decide +kernel
theorem dL_law_383 : decode cL_law 383 = .ok (.iconst 0, 1) := by decide +kernel
theorem dL_law_384 : decode cL_law 384 = .ok (.bipush 6, 2) := by decide +kernel
theorem dL_law_386 : decode cL_law 386 = .ok (.invokestatic 156, 3) := by decide +kernel
theorem dL_law_389 : decode cL_law 389 = .ok (.bipush (-32), 2) := by decide +kernel
theorem dL_law_391 : decode cL_law 391 = .ok (.if_icmp .ne 51, 3) := by decide +kernel
theorem dL_law_394 : decode cL_law 394 = .ok (.aload_n 1, 1) := by decide +kernel
theorem dL_law_395 : decode cL_law 395 = .ok (.iconst 5, 1) := by decide +kernel
theorem dL_law_396 : decode cL_law 396 = .ok (.iconst 4, 1) := by decide +kernel
theorem dL_law_397 : decode cL_law 397 = .ok (.invokestatic 158, 3) := by decide +kernel
theorem dL_law_400 : decode cL_law 400 = .ok (.bipush (-31), 2) := by decide +kernel
theorem dL_law_402 : decode cL_law 402 = .ok (.if_icmp .ne 40, 3) := by decide +kernel
theorem dL_law_405 : decode cL_law 405 = .ok (.aload_n 1, 1) := by decide +kernel
theorem dL_law_406 : decode cL_law 406 = .ok (.iconst 0, 1) := by decide +kernel
theorem dL_law_407 : decode cL_law 407 = .ok (.iconst 4, 1) := by decide +kernel
theorem dL_law_408 : decode cL_law 408 = .ok (.invokestatic 158, 3) := by decide +kernel
theorem dL_law_411 : decode cL_law 411 = .ok (.bipush (-32), 2) := by decide +kernel
theorem dL_law_413 : decode cL_law 413 = .ok (.if_icmp .ne 29, 3) := by decide +kernel
theorem dL_law_416 : decode cL_law 416 = .ok (.aload_n 1, 1) := by decide +kernel
theorem dL_law_417 : decode cL_law 417 = .ok (.iconst 3, 1) := by decide +kernel
theorem dL_law_418 : decode cL_law 418 = .ok (.iconst 2, 1) := by decide +kernel
theorem dL_law_419 : decode cL_law 419 = .ok (.invokestatic 160, 3) := by decide +kernel
theorem dL_law_422 : decode cL_law 422 = .ok (.bipush (-31), 2) := by decide +kernel
theorem dL_law_424 : decode cL_law 424 = .ok (.if_icmp .ne 18, 3) := by decide +kernel
theorem dL_law_427 : decode cL_law 427 = .ok (.aload_n 1, 1) := by decide +kernel
theorem dL_law_428 : decode cL_law 428 = .ok (.iconst 0, 1) := by decide +kernel
theorem dL_law_429 : decode cL_law 429 = .ok (.iconst 2, 1) := by decide +kernel
theorem dL_law_430 : decode cL_law 430 = .ok (.invokestatic 160, 3) := by decide +kernel
theorem dL_law_433 : decode cL_law 433 = .ok (.bipush (-32), 2) := by decide +kernel
theorem dL_law_435 : decode cL_law 435 = .ok (.if_icmp .ne 7, 3) := by decide +kernel
theorem dL_law_438 : decode cL_law 438 = .ok (.iconst 1, 1) := by decide +kernel
theorem dL_law_439 : decode cL_law 439 = .ok (.goto 4, 3) := by decide +kernel
theorem dL_law_442 : decode cL_law 442 = .ok (.iconst 0, 1) := by decide +kernel
theorem dL_law_443 : decode cL_law 443 = .ok (.ireturn, 1) := by decide +kernel
