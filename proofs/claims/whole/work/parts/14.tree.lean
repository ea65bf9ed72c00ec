theorem dX9_joinAlike_0 : decode cX9_joinAlike 0 = .ok (.aload_n 0, 1) := by decide +kernel
theorem dX9_joinAlike_1 : decode cX9_joinAlike 1 = .ok (.iconst 0, 1) := by decide +kernel
theorem dX9_joinAlike_2 : decode cX9_joinAlike 2 = .ok (.putfield 77, 3) := by decide +kernel
theorem dX9_joinAlike_5 : decode cX9_joinAlike 5 = .ok (.iconst 0, 1) := by decide +kernel
theorem dX9_joinAlike_6 : decode cX9_joinAlike 6 = .ok (.istore_n 2, 1) := by decide +kernel
theorem dX9_joinAlike_7 : decode cX9_joinAlike 7 = .ok (.iload_n 2, 1) := by decide +kernel
theorem dX9_joinAlike_8 : decode cX9_joinAlike 8 = .ok (.iconst 1, 1) := by decide +kernel
theorem dX9_joinAlike_9 : decode cX9_joinAlike 9 = .ok (.iadd, 1) := by decide +kernel
theorem dX9_joinAlike_10 : decode cX9_joinAlike 10 = .ok (.aload_n 0, 1) := by decide +kernel
theorem dX9_joinAlike_11 : decode cX9_joinAlike 11 = .ok (.getfield 32, 3) := by decide +kernel
theorem dX9_joinAlike_14 : decode cX9_joinAlike 14 = .ok (.getfield 80, 3) := by decide +kernel
theorem dX9_joinAlike_17 : decode cX9_joinAlike 17 = .ok (.if_icmp .ge 96, 3) := by decide +kernel
theorem dX9_joinAlike_20 : decode cX9_joinAlike 20 = .ok (.aload_n 0, 1) := by decide +kernel
theorem dX9_joinAlike_21 : decode cX9_joinAlike 21 = .ok (.getfield 32, 3) := by decide +kernel
theorem dX9_joinAlike_24 : decode cX9_joinAlike 24 = .ok (.getfield 81, 3) := by decide +kernel
theorem dX9_joinAlike_27 : decode cX9_joinAlike 27 = .ok (.iload_n 2, 1) := by decide +kernel
theorem dX9_joinAlike_28 : decode cX9_joinAlike 28 = .ok (.iaload, 1) := by decide +kernel
theorem dX9_joinAlike_29 : decode cX9_joinAlike 29 = .ok (.istore_n 3, 1) := by decide +kernel
theorem dX9_joinAlike_30 : decode cX9_joinAlike 30 = .ok (.iload_n 3, 1) := by decide +kernel
theorem dX9_joinAlike_31 : decode cX9_joinAlike 31 = .ok (.aload_n 0, 1) := by decide +kernel
theorem dX9_joinAlike_32 : decode cX9_joinAlike 32 = .ok (.getfield 51, 3) := by decide +kernel
theorem dX9_joinAlike_35 : decode cX9_joinAlike 35 = .ok (.if_icmp .ge 7, 3) := by decide +kernel
theorem dX9_joinAlike_38 : decode cX9_joinAlike 38 = .ok (.iconst (-1), 1) := by decide +kernel
theorem dX9_joinAlike_39 : decode cX9_joinAlike 39 = .ok (.goto 12, 3) := by decide +kernel
theorem dX9_joinAlike_42 : decode cX9_joinAlike 42 = .ok (.aload_n 1, 1) := by decide +kernel
theorem dX9_joinAlike_43 : decode cX9_joinAlike 43 = .ok (.iload_n 3, 1) := by decide +kernel
theorem dX9_joinAlike_44 : decode cX9_joinAlike 44 = .ok (.aload_n 0, 1) := by decide +kernel
theorem dX9_joinAlike_45 : decode cX9_joinAlike 45 = .ok (.getfield 42, 3) := by decide +kernel
theorem dX9_joinAlike_48 : decode cX9_joinAlike 48 = .ok (.invokevirtual 84, 3) := by decide +kernel
theorem dX9_joinAlike_51 : decode cX9_joinAlike 51 = .ok (.istore 4, 2) := by decide +kernel
theorem dX9_joinAlike_53 : decode cX9_joinAlike 53 = .ok (.aload_n 0, 1) := by decide +kernel
theorem dX9_joinAlike_54 : decode cX9_joinAlike 54 = .ok (.getfield 77, 3) := by decide +kernel
theorem dX9_joinAlike_57 : decode cX9_joinAlike 57 = .ok (.ifCond .eq 19, 3) := by decide +kernel
theorem dX9_joinAlike_60 : decode cX9_joinAlike 60 = .ok (.aload_n 0, 1) := by decide +kernel
theorem dX9_joinAlike_61 : decode cX9_joinAlike 61 = .ok (.getfield 39, 3) := by decide +kernel
theorem dX9_joinAlike_64 : decode cX9_joinAlike 64 = .ok (.aload_n 0, 1) := by decide +kernel
theorem dX9_joinAlike_65 : decode cX9_joinAlike 65 = .ok (.getfield 77, 3) := by decide +kernel
theorem dX9_joinAlike_68 : decode cX9_joinAlike 68 = .ok (.iconst 1, 1) := by decide +kernel
theorem dX9_joinAlike_69 : decode cX9_joinAlike 69 = .ok (.isub, 1) := by decide +kernel
theorem dX9_joinAlike_70 : decode cX9_joinAlike 70 = .ok (.iaload, 1) := by decide +kernel
theorem dX9_joinAlike_71 : decode cX9_joinAlike 71 = .ok (.iload 4, 2) := by decide +kernel
theorem dX9_joinAlike_73 : decode cX9_joinAlike 73 = .ok (.if_icmp .eq 34, 3) := by decide +kernel
theorem dX9_joinAlike_76 : decode cX9_joinAlike 76 = .ok (.aload_n 0, 1) := by decide +kernel
theorem dX9_joinAlike_77 : decode cX9_joinAlike 77 = .ok (.getfield 36, 3) := by decide +kernel
theorem dX9_joinAlike_80 : decode cX9_joinAlike 80 = .ok (.aload_n 0, 1) := by decide +kernel
theorem dX9_joinAlike_81 : decode cX9_joinAlike 81 = .ok (.getfield 77, 3) := by decide +kernel
theorem dX9_joinAlike_84 : decode cX9_joinAlike 84 = .ok (.iload_n 3, 1) := by decide +kernel
theorem dX9_joinAlike_85 : decode cX9_joinAlike 85 = .ok (.iastore, 1) := by decide +kernel
theorem dX9_joinAlike_86 : decode cX9_joinAlike 86 = .ok (.aload_n 0, 1) := by decide +kernel
theorem dX9_joinAlike_87 : decode cX9_joinAlike 87 = .ok (.getfield 39, 3) := by decide +kernel
theorem dX9_joinAlike_90 : decode cX9_joinAlike 90 = .ok (.aload_n 0, 1) := by decide +kernel
theorem dX9_joinAlike_91 : decode cX9_joinAlike 91 = .ok (.getfield 77, 3) := by decide +kernel
theorem dX9_joinAlike_94 : decode cX9_joinAlike 94 = .ok (.iload 4, 2) := by decide +kernel
theorem dX9_joinAlike_96 : decode cX9_joinAlike 96 = .ok (.iastore, 1) := by decide +kernel
theorem dX9_joinAlike_97 : decode cX9_joinAlike 97 = .ok (.aload_n 0, 1) := by decide +kernel
theorem dX9_joinAlike_98 : decode cX9_joinAlike 98 = .ok (.dup, 1) := by decide +kernel
theorem dX9_joinAlike_99 : decode cX9_joinAlike 99 = .ok (.getfield 77, 3) := by decide +kernel
theorem dX9_joinAlike_102 : decode cX9_joinAlike 102 = .ok (.iconst 1, 1) := by decide +kernel
theorem dX9_joinAlike_103 : decode cX9_joinAlike 103 = .ok (.iadd, 1) := by decide +kernel
theorem dX9_joinAlike_104 : decode cX9_joinAlike 104 = .ok (.putfield 77, 3) := by decide +kernel
theorem dX9_joinAlike_107 : decode cX9_joinAlike 107 = .ok (.iinc 2 1, 3) := by decide +kernel
theorem dX9_joinAlike_110 : decode cX9_joinAlike 110 = .ok (.goto (-103), 3) := by decide +kernel
theorem dX9_joinAlike_113 : decode cX9_joinAlike 113 = .ok (.aload_n 0, 1) := by decide +kernel
theorem dX9_joinAlike_114 : decode cX9_joinAlike 114 = .ok (.getfield 36, 3) := by decide +kernel
theorem dX9_joinAlike_117 : decode cX9_joinAlike 117 = .ok (.aload_n 0, 1) := by decide +kernel
theorem dX9_joinAlike_118 : decode cX9_joinAlike 118 = .ok (.getfield 77, 3) := by decide +kernel
theorem dX9_joinAlike_121 : decode cX9_joinAlike 121 = .ok (.aload_n 1, 1) := by decide +kernel
theorem dX9_joinAlike_122 : decode cX9_joinAlike 122 = .ok (.getfield 52, 3) := by decide +kernel
theorem dX9_joinAlike_125 : decode cX9_joinAlike 125 = .ok (.iastore, 1) := by decide +kernel
theorem dX9_joinAlike_126 : decode cX9_joinAlike 126 = .ok (.return_, 1) := by decide +kernel
theorem dX9_grow_0 : decode cX9_grow 0 = .ok (.aload_n 0, 1) := by decide +kernel
theorem dX9_grow_1 : decode cX9_grow 1 = .ok (.getfield 68, 3) := by decide +kernel
theorem dX9_grow_4 : decode cX9_grow 4 = .ok (.sipush 320, 3) := by decide +kernel
theorem dX9_grow_7 : decode cX9_grow 7 = .ok (.if_icmp .lt 5, 3) := by decide +kernel
theorem dX9_grow_10 : decode cX9_grow 10 = .ok (.iconst 0, 1) := by decide +kernel
theorem dX9_grow_11 : decode cX9_grow 11 = .ok (.ireturn, 1) := by decide +kernel
theorem dX9_grow_12 : decode cX9_grow 12 = .ok (.aload_n 0, 1) := by decide +kernel
theorem dX9_grow_13 : decode cX9_grow 13 = .ok (.getfield 68, 3) := by decide +kernel
theorem dX9_grow_16 : decode cX9_grow 16 = .ok (.istore 4, 2) := by decide +kernel
theorem dX9_grow_18 : decode cX9_grow 18 = .ok (.aload_n 0, 1) := by decide +kernel
theorem dX9_grow_19 : decode cX9_grow 19 = .ok (.dup, 1) := by decide +kernel
theorem dX9_grow_20 : decode cX9_grow 20 = .ok (.getfield 68, 3) := by decide +kernel
theorem dX9_grow_23 : decode cX9_grow 23 = .ok (.iconst 1, 1) := by decide +kernel
theorem dX9_grow_24 : decode cX9_grow 24 = .ok (.iadd, 1) := by decide +kernel
theorem dX9_grow_25 : decode cX9_grow 25 = .ok (.putfield 68, 3) := by decide +kernel
theorem dX9_grow_28 : decode cX9_grow 28 = .ok (.aload_n 0, 1) := by decide +kernel
theorem dX9_grow_29 : decode cX9_grow 29 = .ok (.getfield 71, 3) := by decide +kernel
theorem dX9_grow_32 : decode cX9_grow 32 = .ok (.iconst 1, 1) := by decide +kernel
theorem dX9_grow_33 : decode cX9_grow 33 = .ok (.iadd, 1) := by decide +kernel
theorem dX9_grow_34 : decode cX9_grow 34 = .ok (.aload_n 0, 1) := by decide +kernel
theorem dX9_grow_35 : decode cX9_grow 35 = .ok (.getfield 77, 3) := by decide +kernel
theorem dX9_grow_38 : decode cX9_grow 38 = .ok (.if_icmp .ge 31, 3) := by decide +kernel
theorem dX9_grow_41 : decode cX9_grow 41 = .ok (.aload_n 0, 1) := by decide +kernel
theorem dX9_grow_42 : decode cX9_grow 42 = .ok (.getfield 36, 3) := by decide +kernel
theorem dX9_grow_45 : decode cX9_grow 45 = .ok (.aload_n 0, 1) := by decide +kernel
theorem dX9_grow_46 : decode cX9_grow 46 = .ok (.getfield 71, 3) := by decide +kernel
theorem dX9_grow_49 : decode cX9_grow 49 = .ok (.iconst 1, 1) := by decide +kernel
theorem dX9_grow_50 : decode cX9_grow 50 = .ok (.iadd, 1) := by decide +kernel
theorem dX9_grow_51 : decode cX9_grow 51 = .ok (.iaload, 1) := by decide +kernel
theorem dX9_grow_52 : decode cX9_grow 52 = .ok (.iload_n 1, 1) := by decide +kernel
theorem dX9_grow_53 : decode cX9_grow 53 = .ok (.if_icmp .gt 16, 3) := by decide +kernel
theorem dX9_grow_56 : decode cX9_grow 56 = .ok (.aload_n 0, 1) := by decide +kernel
theorem dX9_grow_57 : decode cX9_grow 57 = .ok (.dup, 1) := by decide +kernel
theorem dX9_grow_58 : decode cX9_grow 58 = .ok (.getfield 71, 3) := by decide +kernel
theorem dX9_grow_61 : decode cX9_grow 61 = .ok (.iconst 1, 1) := by decide +kernel
theorem dX9_grow_62 : decode cX9_grow 62 = .ok (.iadd, 1) := by decide +kernel
theorem dX9_grow_63 : decode cX9_grow 63 = .ok (.putfield 71, 3) := by decide +kernel
theorem dX9_grow_66 : decode cX9_grow 66 = .ok (.goto (-38), 3) := by decide +kernel
theorem dX9_grow_69 : decode cX9_grow 69 = .ok (.aload_n 0, 1) := by decide +kernel
theorem dX9_grow_70 : decode cX9_grow 70 = .ok (.getfield 9, 3) := by decide +kernel
theorem dX9_grow_73 : decode cX9_grow 73 = .ok (.iload 4, 2) := by decide +kernel
theorem dX9_grow_75 : decode cX9_grow 75 = .ok (.iload_n 1, 1) := by decide +kernel
theorem dX9_grow_76 : decode cX9_grow 76 = .ok (.iastore, 1) := by decide +kernel
theorem dX9_grow_77 : decode cX9_grow 77 = .ok (.aload_n 0, 1) := by decide +kernel
theorem dX9_grow_78 : decode cX9_grow 78 = .ok (.getfield 15, 3) := by decide +kernel
theorem dX9_grow_81 : decode cX9_grow 81 = .ok (.iload 4, 2) := by decide +kernel
theorem dX9_grow_83 : decode cX9_grow 83 = .ok (.iload_n 2, 1) := by decide +kernel
theorem dX9_grow_84 : decode cX9_grow 84 = .ok (.iastore, 1) := by decide +kernel
theorem dX9_grow_85 : decode cX9_grow 85 = .ok (.aload_n 0, 1) := by decide +kernel
theorem dX9_grow_86 : decode cX9_grow 86 = .ok (.getfield 24, 3) := by decide +kernel
theorem dX9_grow_89 : decode cX9_grow 89 = .ok (.iload 4, 2) := by decide +kernel
theorem dX9_grow_91 : decode cX9_grow 91 = .ok (.aload_n 0, 1) := by decide +kernel
theorem dX9_grow_92 : decode cX9_grow 92 = .ok (.getfield 39, 3) := by decide +kernel
theorem dX9_grow_95 : decode cX9_grow 95 = .ok (.aload_n 0, 1) := by decide +kernel
theorem dX9_grow_96 : decode cX9_grow 96 = .ok (.getfield 71, 3) := by decide +kernel
theorem dX9_grow_99 : decode cX9_grow 99 = .ok (.iaload, 1) := by decide +kernel
theorem dX9_grow_100 : decode cX9_grow 100 = .ok (.iastore, 1) := by decide +kernel
theorem dX9_grow_101 : decode cX9_grow 101 = .ok (.aload_n 0, 1) := by decide +kernel
theorem dX9_grow_102 : decode cX9_grow 102 = .ok (.getfield 18, 3) := by decide +kernel
theorem dX9_grow_105 : decode cX9_grow 105 = .ok (.iload 4, 2) := by decide +kernel
theorem dX9_grow_107 : decode cX9_grow 107 = .ok (.iconst 0, 1) := by decide +kernel
theorem dX9_grow_108 : decode cX9_grow 108 = .ok (.iastore, 1) := by decide +kernel
theorem dX9_grow_109 : decode cX9_grow 109 = .ok (.aload_n 0, 1) := by decide +kernel
theorem dX9_grow_110 : decode cX9_grow 110 = .ok (.getfield 36, 3) := by decide +kernel
theorem dX9_grow_113 : decode cX9_grow 113 = .ok (.aload_n 0, 1) := by decide +kernel
theorem dX9_grow_114 : decode cX9_grow 114 = .ok (.getfield 71, 3) := by decide +kernel
theorem dX9_grow_117 : decode cX9_grow 117 = .ok (.iconst 1, 1) := by decide +kernel
theorem dX9_grow_118 : decode cX9_grow 118 = .ok (.iadd, 1) := by decide +kernel
theorem dX9_grow_119 : decode cX9_grow 119 = .ok (.iaload, 1) := by decide +kernel
theorem dX9_grow_120 : decode cX9_grow 120 = .ok (.iload_n 1, 1) := by decide +kernel
theorem dX9_grow_121 : decode cX9_grow 121 = .ok (.iload_n 2, 1) := by decide +kernel
theorem dX9_grow_122 : decode cX9_grow 122 = .ok (.iadd, 1) := by decide +kernel
theorem dX9_grow_123 : decode cX9_grow 123 = .ok (.if_icmp .ge 45, 3) := by decide +kernel
theorem dX9_grow_126 : decode cX9_grow 126 = .ok (.iload_n 3, 1) := by decide +kernel
theorem dX9_grow_127 : decode cX9_grow 127 = .ok (.bipush 11, 2) := by decide +kernel
theorem dX9_grow_129 : decode cX9_grow 129 = .ok (.if_icmp .ge 39, 3) := by decide +kernel
theorem dX9_grow_132 : decode cX9_grow 132 = .ok (.iload_n 2, 1) := by decide +kernel
theorem dX9_grow_133 : decode cX9_grow 133 = .ok (.iconst 2, 1) := by decide +kernel
theorem dX9_grow_134 : decode cX9_grow 134 = .ok (.idiv, 1) := by decide +kernel
theorem dX9_grow_135 : decode cX9_grow 135 = .ok (.istore 5, 2) := by decide +kernel
theorem dX9_grow_137 : decode cX9_grow 137 = .ok (.aload_n 0, 1) := by decide +kernel
theorem dX9_grow_138 : decode cX9_grow 138 = .ok (.iload_n 1, 1) := by decide +kernel
theorem dX9_grow_139 : decode cX9_grow 139 = .ok (.iload 5, 2) := by decide +kernel
theorem dX9_grow_141 : decode cX9_grow 141 = .ok (.iload_n 3, 1) := by decide +kernel
theorem dX9_grow_142 : decode cX9_grow 142 = .ok (.iconst 1, 1) := by decide +kernel
theorem dX9_grow_143 : decode cX9_grow 143 = .ok (.iadd, 1) := by decide +kernel
theorem dX9_grow_144 : decode cX9_grow 144 = .ok (.invokevirtual 73, 3) := by decide +kernel
theorem dX9_grow_147 : decode cX9_grow 147 = .ok (.pop, 1) := by decide +kernel
theorem dX9_grow_148 : decode cX9_grow 148 = .ok (.aload_n 0, 1) := by decide +kernel
theorem dX9_grow_149 : decode cX9_grow 149 = .ok (.getfield 18, 3) := by decide +kernel
theorem dX9_grow_152 : decode cX9_grow 152 = .ok (.iload 4, 2) := by decide +kernel
theorem dX9_grow_154 : decode cX9_grow 154 = .ok (.aload_n 0, 1) := by decide +kernel
theorem dX9_grow_155 : decode cX9_grow 155 = .ok (.iload_n 1, 1) := by decide +kernel
theorem dX9_grow_156 : decode cX9_grow 156 = .ok (.iload 5, 2) := by decide +kernel
theorem dX9_grow_158 : decode cX9_grow 158 = .ok (.iadd, 1) := by decide +kernel
theorem dX9_grow_159 : decode cX9_grow 159 = .ok (.iload 5, 2) := by decide +kernel
theorem dX9_grow_161 : decode cX9_grow 161 = .ok (.iload_n 3, 1) := by decide +kernel
theorem dX9_grow_162 : decode cX9_grow 162 = .ok (.iconst 1, 1) := by decide +kernel
theorem dX9_grow_163 : decode cX9_grow 163 = .ok (.iadd, 1) := by decide +kernel
theorem dX9_grow_164 : decode cX9_grow 164 = .ok (.invokevirtual 73, 3) := by decide +kernel
theorem dX9_grow_167 : decode cX9_grow 167 = .ok (.iastore, 1) := by decide +kernel
theorem dX9_grow_168 : decode cX9_grow 168 = .ok (.aload_n 0, 1) := by decide +kernel
theorem dX9_grow_169 : decode cX9_grow 169 = .ok (.getfield 21, 3) := by decide +kernel
theorem dX9_grow_172 : decode cX9_grow 172 = .ok (.iload 4, 2) := by decide +kernel
theorem dX9_grow_174 : decode cX9_grow 174 = .ok (.aload_n 0, 1) := by decide +kernel
theorem dX9_grow_175 : decode cX9_grow 175 = .ok (.getfield 68, 3) := by decide +kernel
theorem dX9_grow_178 : decode cX9_grow 178 = .ok (.iastore, 1) := by decide +kernel
theorem dX9_grow_179 : decode cX9_grow 179 = .ok (.iload 4, 2) := by decide +kernel
theorem dX9_grow_181 : decode cX9_grow 181 = .ok (.ireturn, 1) := by decide +kernel
theorem dX9_make_0 : decode cX9_make 0 = .ok (.aload_n 0, 1) := by decide +kernel
theorem dX9_make_1 : decode cX9_make 1 = .ok (.iload_n 2, 1) := by decide +kernel
theorem dX9_make_2 : decode cX9_make 2 = .ok (.putfield 42, 3) := by decide +kernel
theorem dX9_make_5 : decode cX9_make 5 = .ok (.aload_n 0, 1) := by decide +kernel
theorem dX9_make_6 : decode cX9_make 6 = .ok (.aload_n 1, 1) := by decide +kernel
theorem dX9_make_7 : decode cX9_make 7 = .ok (.getfield 46, 3) := by decide +kernel
theorem dX9_make_10 : decode cX9_make 10 = .ok (.putfield 51, 3) := by decide +kernel
theorem dX9_make_13 : decode cX9_make 13 = .ok (.aload_n 0, 1) := by decide +kernel
theorem dX9_make_14 : decode cX9_make 14 = .ok (.getfield 32, 3) := by decide +kernel
theorem dX9_make_17 : decode cX9_make 17 = .ok (.aload_n 1, 1) := by decide +kernel
theorem dX9_make_18 : decode cX9_make 18 = .ok (.getfield 52, 3) := by decide +kernel
theorem dX9_make_21 : decode cX9_make 21 = .ok (.invokevirtual 55, 3) := by decide +kernel
theorem dX9_make_24 : decode cX9_make 24 = .ok (.aload_n 0, 1) := by decide +kernel
theorem dX9_make_25 : decode cX9_make 25 = .ok (.getfield 32, 3) := by decide +kernel
theorem dX9_make_28 : decode cX9_make 28 = .ok (.aload_n 1, 1) := by decide +kernel
theorem dX9_make_29 : decode cX9_make 29 = .ok (.invokevirtual 58, 3) := by decide +kernel
theorem dX9_make_32 : decode cX9_make 32 = .ok (.aload_n 0, 1) := by decide +kernel
theorem dX9_make_33 : decode cX9_make 33 = .ok (.getfield 32, 3) := by decide +kernel
theorem dX9_make_36 : decode cX9_make 36 = .ok (.aload_n 0, 1) := by decide +kernel
theorem dX9_make_37 : decode cX9_make 37 = .ok (.getfield 51, 3) := by decide +kernel
theorem dX9_make_40 : decode cX9_make 40 = .ok (.invokevirtual 62, 3) := by decide +kernel
theorem dX9_make_43 : decode cX9_make 43 = .ok (.aload_n 0, 1) := by decide +kernel
theorem dX9_make_44 : decode cX9_make 44 = .ok (.aload_n 1, 1) := by decide +kernel
theorem dX9_make_45 : decode cX9_make 45 = .ok (.invokevirtual 65, 3) := by decide +kernel
theorem dX9_make_48 : decode cX9_make 48 = .ok (.aload_n 0, 1) := by decide +kernel
theorem dX9_make_49 : decode cX9_make 49 = .ok (.iconst 0, 1) := by decide +kernel
theorem dX9_make_50 : decode cX9_make 50 = .ok (.putfield 68, 3) := by decide +kernel
theorem dX9_make_53 : decode cX9_make 53 = .ok (.aload_n 0, 1) := by decide +kernel
theorem dX9_make_54 : decode cX9_make 54 = .ok (.iconst 0, 1) := by decide +kernel
theorem dX9_make_55 : decode cX9_make 55 = .ok (.putfield 71, 3) := by decide +kernel
theorem dX9_make_58 : decode cX9_make 58 = .ok (.aload_n 0, 1) := by decide +kernel
theorem dX9_make_59 : decode cX9_make 59 = .ok (.iconst 0, 1) := by decide +kernel
theorem dX9_make_60 : decode cX9_make 60 = .ok (.aload_n 1, 1) := by decide +kernel
theorem dX9_make_61 : decode cX9_make 61 = .ok (.getfield 52, 3) := by decide +kernel
theorem dX9_make_64 : decode cX9_make 64 = .ok (.iconst 0, 1) := by decide +kernel
theorem dX9_make_65 : decode cX9_make 65 = .ok (.invokevirtual 73, 3) := by decide +kernel
theorem dX9_make_68 : decode cX9_make 68 = .ok (.pop, 1) := by decide +kernel
theorem dX9_make_69 : decode cX9_make 69 = .ok (.return_, 1) := by decide +kernel
theorem dX9_open_0 : decode cX9_open 0 = .ok (.aload_n 0, 1) := by decide +kernel
theorem dX9_open_1 : decode cX9_open 1 = .ok (.getfield 9, 3) := by decide +kernel
theorem dX9_open_4 : decode cX9_open 4 = .ok (.iload_n 1, 1) := by decide +kernel
theorem dX9_open_5 : decode cX9_open 5 = .ok (.iaload, 1) := by decide +kernel
theorem dX9_open_6 : decode cX9_open 6 = .ok (.aload_n 0, 1) := by decide +kernel
theorem dX9_open_7 : decode cX9_open 7 = .ok (.getfield 15, 3) := by decide +kernel
theorem dX9_open_10 : decode cX9_open 10 = .ok (.iload_n 1, 1) := by decide +kernel
theorem dX9_open_11 : decode cX9_open 11 = .ok (.iaload, 1) := by decide +kernel
theorem dX9_open_12 : decode cX9_open 12 = .ok (.iadd, 1) := by decide +kernel
theorem dX9_open_13 : decode cX9_open 13 = .ok (.istore_n 2, 1) := by decide +kernel
theorem dX9_open_14 : decode cX9_open 14 = .ok (.iconst 0, 1) := by decide +kernel
theorem dX9_open_15 : decode cX9_open 15 = .ok (.iload_n 2, 1) := by decide +kernel
theorem dX9_open_16 : decode cX9_open 16 = .ok (.aload_n 0, 1) := by decide +kernel
theorem dX9_open_17 : decode cX9_open 17 = .ok (.getfield 9, 3) := by decide +kernel
theorem dX9_open_20 : decode cX9_open 20 = .ok (.iload_n 1, 1) := by decide +kernel
theorem dX9_open_21 : decode cX9_open 21 = .ok (.iaload, 1) := by decide +kernel
theorem dX9_open_22 : decode cX9_open 22 = .ok (.aload_n 0, 1) := by decide +kernel
theorem dX9_open_23 : decode cX9_open 23 = .ok (.getfield 51, 3) := by decide +kernel
theorem dX9_open_26 : decode cX9_open 26 = .ok (.invokestatic 88, 3) := by decide +kernel
theorem dX9_open_29 : decode cX9_open 29 = .ok (.isub, 1) := by decide +kernel
theorem dX9_open_30 : decode cX9_open 30 = .ok (.invokestatic 88, 3) := by decide +kernel
theorem dX9_open_33 : decode cX9_open 33 = .ok (.ireturn, 1) := by decide +kernel
theorem dX9_isRight_0 : decode cX9_isRight 0 = .ok (.iload_n 2, 1) := by decide +kernel
theorem dX9_isRight_1 : decode cX9_isRight 1 = .ok (.iconst 5, 1) := by decide +kernel
theorem dX9_isRight_2 : decode cX9_isRight 2 = .ok (.if_icmp .ne 10, 3) := by decide +kernel
theorem dX9_isRight_5 : decode cX9_isRight 5 = .ok (.aload_n 0, 1) := by decide +kernel
theorem dX9_isRight_6 : decode cX9_isRight 6 = .ok (.getfield 42, 3) := by decide +kernel
theorem dX9_isRight_9 : decode cX9_isRight 9 = .ok (.goto 4, 3) := by decide +kernel
theorem dX9_isRight_12 : decode cX9_isRight 12 = .ok (.iload_n 2, 1) := by decide +kernel
theorem dX9_isRight_13 : decode cX9_isRight 13 = .ok (.istore 4, 2) := by decide +kernel
theorem dX9_isRight_15 : decode cX9_isRight 15 = .ok (.aload_n 0, 1) := by decide +kernel
theorem dX9_isRight_16 : decode cX9_isRight 16 = .ok (.getfield 24, 3) := by decide +kernel
theorem dX9_isRight_19 : decode cX9_isRight 19 = .ok (.iload_n 1, 1) := by decide +kernel
theorem dX9_isRight_20 : decode cX9_isRight 20 = .ok (.iaload, 1) := by decide +kernel
theorem dX9_isRight_21 : decode cX9_isRight 21 = .ok (.iconst (-1), 1) := by decide +kernel
theorem dX9_isRight_22 : decode cX9_isRight 22 = .ok (.if_icmp .eq 23, 3) := by decide +kernel
theorem dX9_isRight_25 : decode cX9_isRight 25 = .ok (.getstatic 93, 3) := by decide +kernel
theorem dX9_isRight_28 : decode cX9_isRight 28 = .ok (.iload_n 3, 1) := by decide +kernel
theorem dX9_isRight_29 : decode cX9_isRight 29 = .ok (.bipush 6, 2) := by decide +kernel
theorem dX9_isRight_31 : decode cX9_isRight 31 = .ok (.imul, 1) := by decide +kernel
theorem dX9_isRight_32 : decode cX9_isRight 32 = .ok (.iload 4, 2) := by decide +kernel
theorem dX9_isRight_34 : decode cX9_isRight 34 = .ok (.iadd, 1) := by decide +kernel
theorem dX9_isRight_35 : decode cX9_isRight 35 = .ok (.iaload, 1) := by decide +kernel
theorem dX9_isRight_36 : decode cX9_isRight 36 = .ok (.aload_n 0, 1) := by decide +kernel
theorem dX9_isRight_37 : decode cX9_isRight 37 = .ok (.getfield 24, 3) := by decide +kernel
theorem dX9_isRight_40 : decode cX9_isRight 40 = .ok (.iload_n 1, 1) := by decide +kernel
theorem dX9_isRight_41 : decode cX9_isRight 41 = .ok (.iaload, 1) := by decide +kernel
theorem dX9_isRight_42 : decode cX9_isRight 42 = .ok (.if_icmp .ne 7, 3) := by decide +kernel
theorem dX9_isRight_45 : decode cX9_isRight 45 = .ok (.iconst 1, 1) := by decide +kernel
theorem dX9_isRight_46 : decode cX9_isRight 46 = .ok (.goto 4, 3) := by decide +kernel
theorem dX9_isRight_49 : decode cX9_isRight 49 = .ok (.iconst 0, 1) := by decide +kernel
theorem dX9_isRight_50 : decode cX9_isRight 50 = .ok (.ireturn, 1) := by decide +kernel
theorem dX9_pageKindFor_0 : decode cX9_pageKindFor 0 = .ok (.iconst 0, 1) := by decide +kernel
theorem dX9_pageKindFor_1 : decode cX9_pageKindFor 1 = .ok (.istore_n 3, 1) := by decide +kernel
theorem dX9_pageKindFor_2 : decode cX9_pageKindFor 2 = .ok (.iload_n 3, 1) := by decide +kernel
theorem dX9_pageKindFor_3 : decode cX9_pageKindFor 3 = .ok (.bipush 6, 2) := by decide +kernel
theorem dX9_pageKindFor_5 : decode cX9_pageKindFor 5 = .ok (.if_icmp .ge 27, 3) := by decide +kernel
theorem dX9_pageKindFor_8 : decode cX9_pageKindFor 8 = .ok (.aload_n 0, 1) := by decide +kernel
theorem dX9_pageKindFor_9 : decode cX9_pageKindFor 9 = .ok (.iload_n 1, 1) := by decide +kernel
theorem dX9_pageKindFor_10 : decode cX9_pageKindFor 10 = .ok (.iload_n 2, 1) := by decide +kernel
theorem dX9_pageKindFor_11 : decode cX9_pageKindFor 11 = .ok (.iload_n 3, 1) := by decide +kernel
theorem dX9_pageKindFor_12 : decode cX9_pageKindFor 12 = .ok (.invokestatic 96, 3) := by decide +kernel
theorem dX9_pageKindFor_15 : decode cX9_pageKindFor 15 = .ok (.invokevirtual 100, 3) := by decide +kernel
theorem dX9_pageKindFor_18 : decode cX9_pageKindFor 18 = .ok (.ifCond .eq 8, 3) := by decide +kernel
theorem dX9_pageKindFor_21 : decode cX9_pageKindFor 21 = .ok (.iload_n 3, 1) := by decide +kernel
theorem dX9_pageKindFor_22 : decode cX9_pageKindFor 22 = .ok (.invokestatic 96, 3) := by decide +kernel
theorem dX9_pageKindFor_25 : decode cX9_pageKindFor 25 = .ok (.ireturn, 1) := by decide +kernel
theorem dX9_pageKindFor_26 : decode cX9_pageKindFor 26 = .ok (.iinc 3 1, 3) := by decide +kernel
theorem dX9_pageKindFor_29 : decode cX9_pageKindFor 29 = .ok (.goto (-27), 3) := by decide +kernel
theorem dX9_pageKindFor_32 : decode cX9_pageKindFor 32 = .ok (.iconst (-1), 1) := by decide +kernel
theorem dX9_pageKindFor_33 : decode cX9_pageKindFor 33 = .ok (.ireturn, 1) := by decide +kernel
section G14_tree_lean_txt
variable {p : Program} {l : Launch} {e : Env} {s : State} {m : MethodId} {args : Array Value} {below : List Frame} {meth : Method} {c : Code} {H : Heap} {locs : List Loc} {ls : Array Slot} {E : Ge} {L : Lay} {fu d : Nat}
def fX9_joinAlike_j113 (fu : Nat) (a0 : Nat) (a1 : Nat) (M : Mm) : Option Mm :=
  if (M.1 a0 11) < 0 ∨ 28 ≤ ix (M.1 a0 11) then none else
  lt (wI M (a0 + 8) (ix (M.1 a0 11)) (M.1 a1 0)) fun M_125 =>
  some M_125
set_option maxRecDepth 100000 in
set_option maxHeartbeats 4000000 in
theorem wX9_joinAlike_j113 {M' : Mm}   {a0 : Nat} {a1 : Nat} {M : Mm} (B : Bx p s m args c cX9_joinAlike 5 RX9 E L) (hr : meth.sig.returnType = none) (hlk : meth.locks = false)  (h0 : At L a0 T9) (h1 : At L a1 T8) (h : fX9_joinAlike_j113 fu a0 a1 M = some M') (hR : Rx s E L M H locs) (hl : lv_has ls 5 [(0, .ref a0), (1, .ref a1)]) : W p l e (rmD (d + 1)) s m args below meth c H locs 0 0 (MQ below (QcM E L none M') args s 0 0 E.2.2.2) (F0 m 113 ls []) := by
  have hx := B.1
  have hb := B.2.1
  unfold fX9_joinAlike_j113 at h
  refine lv_aload_n hx hb dX9_joinAlike_113 rfl (lv_at hl 0 rfl) ?_
  refine gf_X9_36 B hR (h0.at0 rfl) dX9_joinAlike_114 ?_
  refine lv_aload_n hx hb dX9_joinAlike_117 rfl (lv_at hl 0 rfl) ?_
  refine gf_X9_77 B hR (h0.at0 rfl) dX9_joinAlike_118 ?_
  refine lv_aload_n hx hb dX9_joinAlike_121 rfl (lv_at hl 1 rfl) ?_
  refine gf_X9_52 B hR (h1.at0 rfl) dX9_joinAlike_122 ?_
  obtain ⟨hi_125, h⟩ := ifn_el h
  obtain ⟨M_125, eM_125, h⟩ := lt_el h
  refine r_iast B hR (h0.at 8 rfl) hi_125 dX9_joinAlike_125 (fun H locs hR => ?_)
  rw [← eM_125] at hR
  exact r_vretW B hR hr hlk h dX9_joinAlike_126
def fX9_joinAlike_j107 (fu : Nat) (k7 : Int32 → Mm → Option Mm) (a0 : Nat) (a1 : Nat) (x2 : Int32) (M : Mm) : Option Mm :=
  lt (x2 + 1) fun x2_107 =>
  k7 x2_107 M
set_option maxRecDepth 100000 in
set_option maxHeartbeats 4000000 in
theorem wX9_joinAlike_j107 {M' : Mm}  {k7 : Int32 → Mm → Option Mm} {a0 : Nat} {a1 : Nat} {x2 : Int32} {M : Mm} (B : Bx p s m args c cX9_joinAlike 5 RX9 E L) (hr : meth.sig.returnType = none) (hlk : meth.locks = false) (ih7 : ∀ (x2 : Int32) (M : Mm), k7 x2 M = some M' → ∀ (H : Heap) (locs : List Loc) (ls : Array Slot), Rx s E L M H locs → lv_has ls 5 [(0, .ref a0), (1, .ref a1), (2, .int x2)] → W p l e (rmD (d + 1)) s m args below meth c H locs 0 0 (MQ below (QcM E L none M') args s 0 0 E.2.2.2) (F0 m 7 ls [])) (h0 : At L a0 T9) (h1 : At L a1 T8) (h : fX9_joinAlike_j107 fu k7 a0 a1 x2 M = some M') (hR : Rx s E L M H locs) (hl : lv_has ls 5 [(0, .ref a0), (1, .ref a1), (2, .int x2)]) : W p l e (rmD (d + 1)) s m args below meth c H locs 0 0 (MQ below (QcM E L none M') args s 0 0 E.2.2.2) (F0 m 107 ls []) := by
  have hx := B.1
  have hb := B.2.1
  unfold fX9_joinAlike_j107 at h
  obtain ⟨x2_107, ex2_107, h⟩ := lt_el h
  refine lv_iinc (v := x2_107) (lv' := [(2, .int x2_107), (0, .ref a0), (1, .ref a1)]) hx hb dX9_joinAlike_107 hl (k := 2) rfl (by rw [ex2_107]; rfl) (by decide) rfl (fun ls hl => ?_)
  refine lv_goto (tgt := 7) hx hb dX9_joinAlike_110 (by decide) ?_
  exact ih7 x2_107 M h _ _ _ hR (lv_sub hl [1, 2, 0] rfl)
def fX9_joinAlike_j76 (fu : Nat) (k7 : Int32 → Mm → Option Mm) (a0 : Nat) (a1 : Nat) (x2 : Int32) (x3 : Int32) (x4 : Int32) (M : Mm) : Option Mm :=
  if (M.1 a0 11) < 0 ∨ 28 ≤ ix (M.1 a0 11) then none else
  lt (wI M (a0 + 8) (ix (M.1 a0 11)) x3) fun M_85 =>
  if (M_85.1 a0 11) < 0 ∨ 28 ≤ ix (M_85.1 a0 11) then none else
  lt (wI M_85 (a0 + 9) (ix (M_85.1 a0 11)) x4) fun M_96 =>
  lt (wI M_96 a0 11 ((M_96.1 a0 11) + 1)) fun M_104 =>
  fX9_joinAlike_j107 fu k7 a0 a1 x2 M_104
set_option maxRecDepth 100000 in
set_option maxHeartbeats 4000000 in
theorem wX9_joinAlike_j76 {M' : Mm}  {k7 : Int32 → Mm → Option Mm} {a0 : Nat} {a1 : Nat} {x2 : Int32} {x3 : Int32} {x4 : Int32} {M : Mm} (B : Bx p s m args c cX9_joinAlike 5 RX9 E L) (hr : meth.sig.returnType = none) (hlk : meth.locks = false) (ih7 : ∀ (x2 : Int32) (M : Mm), k7 x2 M = some M' → ∀ (H : Heap) (locs : List Loc) (ls : Array Slot), Rx s E L M H locs → lv_has ls 5 [(0, .ref a0), (1, .ref a1), (2, .int x2)] → W p l e (rmD (d + 1)) s m args below meth c H locs 0 0 (MQ below (QcM E L none M') args s 0 0 E.2.2.2) (F0 m 7 ls [])) (h0 : At L a0 T9) (h1 : At L a1 T8) (h : fX9_joinAlike_j76 fu k7 a0 a1 x2 x3 x4 M = some M') (hR : Rx s E L M H locs) (hl : lv_has ls 5 [(0, .ref a0), (1, .ref a1), (2, .int x2), (3, .int x3), (4, .int x4)]) : W p l e (rmD (d + 1)) s m args below meth c H locs 0 0 (MQ below (QcM E L none M') args s 0 0 E.2.2.2) (F0 m 76 ls []) := by
  have hx := B.1
  have hb := B.2.1
  unfold fX9_joinAlike_j76 at h
  refine lv_aload_n hx hb dX9_joinAlike_76 rfl (lv_at hl 0 rfl) ?_
  refine gf_X9_36 B hR (h0.at0 rfl) dX9_joinAlike_77 ?_
  refine lv_aload_n hx hb dX9_joinAlike_80 rfl (lv_at hl 0 rfl) ?_
  refine gf_X9_77 B hR (h0.at0 rfl) dX9_joinAlike_81 ?_
  refine lv_iload_n hx hb dX9_joinAlike_84 rfl (lv_at hl 3 rfl) ?_
  obtain ⟨hi_85, h⟩ := ifn_el h
  obtain ⟨M_85, eM_85, h⟩ := lt_el h
  refine r_iast B hR (h0.at 8 rfl) hi_85 dX9_joinAlike_85 (fun H locs hR => ?_)
  rw [← eM_85] at hR
  refine lv_aload_n hx hb dX9_joinAlike_86 rfl (lv_at hl 0 rfl) ?_
  refine gf_X9_39 B hR (h0.at0 rfl) dX9_joinAlike_87 ?_
  refine lv_aload_n hx hb dX9_joinAlike_90 rfl (lv_at hl 0 rfl) ?_
  refine gf_X9_77 B hR (h0.at0 rfl) dX9_joinAlike_91 ?_
  refine lv_iload hx hb dX9_joinAlike_94 (lv_at hl 4 rfl) ?_
  obtain ⟨hi_96, h⟩ := ifn_el h
  obtain ⟨M_96, eM_96, h⟩ := lt_el h
  refine r_iast B hR (h0.at 9 rfl) hi_96 dX9_joinAlike_96 (fun H locs hR => ?_)
  rw [← eM_96] at hR
  refine lv_aload_n hx hb dX9_joinAlike_97 rfl (lv_at hl 0 rfl) ?_
  refine lv_dup hx hb dX9_joinAlike_98 rfl ?_
  refine gf_X9_77 B hR (h0.at0 rfl) dX9_joinAlike_99 ?_
  refine lv_iconst (v := 1) hx hb dX9_joinAlike_102 (by decide) ?_
  refine lv_iadd hx hb dX9_joinAlike_103 ?_
  obtain ⟨M_104, eM_104, h⟩ := lt_el h
  refine pf_X9_77 B hR (h0.at0 rfl) dX9_joinAlike_104 (fun H locs hR => ?_)
  rw [← eM_104] at hR
  exact wX9_joinAlike_j107 B hr hlk ih7 h0 h1 h hR (lv_sub hl [0, 1, 2] rfl)
def fX9_joinAlike_j51 (fu : Nat) (k7 : Int32 → Mm → Option Mm) (a0 : Nat) (a1 : Nat) (x2 : Int32) (x3 : Int32) (t0 : Int32) (M : Mm) : Option Mm :=
  if (M.1 a0 11) = 0 then
    fX9_joinAlike_j76 fu k7 a0 a1 x2 x3 t0 M
  else
    if ((M.1 a0 11) - 1) < 0 ∨ 28 ≤ ix ((M.1 a0 11) - 1) then none else
    if (M.1 (a0 + 9) (ix ((M.1 a0 11) - 1))) = t0 then
      fX9_joinAlike_j107 fu k7 a0 a1 x2 M
    else
      fX9_joinAlike_j76 fu k7 a0 a1 x2 x3 t0 M
set_option maxRecDepth 100000 in
set_option maxHeartbeats 4000000 in
theorem wX9_joinAlike_j51 {M' : Mm}  {k7 : Int32 → Mm → Option Mm} {a0 : Nat} {a1 : Nat} {x2 : Int32} {x3 : Int32} {t0 : Int32} {M : Mm} (B : Bx p s m args c cX9_joinAlike 5 RX9 E L) (hr : meth.sig.returnType = none) (hlk : meth.locks = false) (ih7 : ∀ (x2 : Int32) (M : Mm), k7 x2 M = some M' → ∀ (H : Heap) (locs : List Loc) (ls : Array Slot), Rx s E L M H locs → lv_has ls 5 [(0, .ref a0), (1, .ref a1), (2, .int x2)] → W p l e (rmD (d + 1)) s m args below meth c H locs 0 0 (MQ below (QcM E L none M') args s 0 0 E.2.2.2) (F0 m 7 ls [])) (h0 : At L a0 T9) (h1 : At L a1 T8) (h : fX9_joinAlike_j51 fu k7 a0 a1 x2 x3 t0 M = some M') (hR : Rx s E L M H locs) (hl : lv_has ls 5 [(0, .ref a0), (1, .ref a1), (2, .int x2), (3, .int x3)]) : W p l e (rmD (d + 1)) s m args below meth c H locs 0 0 (MQ below (QcM E L none M') args s 0 0 E.2.2.2) (F0 m 51 ls [.int t0]) := by
  have hx := B.1
  have hb := B.2.1
  unfold fX9_joinAlike_j51 at h
  refine lv_istore (lv' := [(4, .int t0), (0, .ref a0), (1, .ref a1), (2, .int x2), (3, .int x3)]) hx hb dX9_joinAlike_51 hl (by decide) rfl (fun ls hl => ?_)
  refine lv_aload_n hx hb dX9_joinAlike_53 rfl (lv_at hl 1 rfl) ?_
  refine gf_X9_77 B hR (h0.at0 rfl) dX9_joinAlike_54 ?_
  refine lv_if_eq (tgt := 76) hx hb dX9_joinAlike_57 (by decide) (fun c_57 => ?_) (fun c_57 => ?_)
  · rw [if_pos c_57] at h
    exact wX9_joinAlike_j76 B hr hlk ih7 h0 h1 h hR (lv_sub hl [1, 2, 3, 4, 0] rfl)
  · rw [if_neg c_57] at h
    refine lv_aload_n hx hb dX9_joinAlike_60 rfl (lv_at hl 1 rfl) ?_
    refine gf_X9_39 B hR (h0.at0 rfl) dX9_joinAlike_61 ?_
    refine lv_aload_n hx hb dX9_joinAlike_64 rfl (lv_at hl 1 rfl) ?_
    refine gf_X9_77 B hR (h0.at0 rfl) dX9_joinAlike_65 ?_
    refine lv_iconst (v := 1) hx hb dX9_joinAlike_68 (by decide) ?_
    refine lv_isub hx hb dX9_joinAlike_69 ?_
    obtain ⟨hi_70, h⟩ := ifn_el h
    refine r_iald B hR (h0.at 9 rfl) hi_70 dX9_joinAlike_70 ?_
    refine lv_iload hx hb dX9_joinAlike_71 (lv_at hl 0 rfl) ?_
    refine lv_icmp_eq (tgt := 107) hx hb dX9_joinAlike_73 (by decide) (fun c_73 => ?_) (fun c_73 => ?_)
    · rw [if_pos c_73] at h
      exact wX9_joinAlike_j107 B hr hlk ih7 h0 h1 h hR (lv_sub hl [1, 2, 3] rfl)
    · rw [if_neg c_73] at h
      exact wX9_joinAlike_j76 B hr hlk ih7 h0 h1 h hR (lv_sub hl [1, 2, 3, 4, 0] rfl)
def fX9_joinAlike_b7 (fu : Nat) (k7 : Int32 → Mm → Option Mm) (a0 : Nat) (a1 : Nat) (x2 : Int32) (M : Mm) : Option Mm :=
  if (M.1 (a0 + 6) 1) ≤ (x2 + 1) then
    fX9_joinAlike_j113 fu a0 a1 M
  else
    if x2 < 0 ∨ 28 ≤ ix x2 then none else
    lt ((M.1 ((a0 + 6) + 1) (ix x2))) fun x3_29 =>
    if (M.1 a0 7) ≤ x3_29 then
      bi (fX8_wantedAt fu a1 x3_29 (M.1 a0 6) M) fun r_48 =>
      fX9_joinAlike_j51 fu k7 a0 a1 x2 x3_29 r_48 M
    else
      fX9_joinAlike_j51 fu k7 a0 a1 x2 x3_29 (-1) M
set_option maxRecDepth 100000 in
set_option maxHeartbeats 4000000 in
theorem wX9_joinAlike_b7 {M' : Mm}   {k7 : Int32 → Mm → Option Mm} {a0 : Nat} {a1 : Nat} {x2 : Int32} {M : Mm} (B : Bx p s m args c cX9_joinAlike 5 RX9 E L) (hr : meth.sig.returnType = none) (hlk : meth.locks = false)  (ih7 : ∀ (x2 : Int32) (M : Mm), k7 x2 M = some M' → ∀ (H : Heap) (locs : List Loc) (ls : Array Slot), Rx s E L M H locs → lv_has ls 5 [(0, .ref a0), (1, .ref a1), (2, .int x2)] → W p l e (rmD (d + 1)) s m args below meth c H locs 0 0 (MQ below (QcM E L none M') args s 0 0 E.2.2.2) (F0 m 7 ls [])) (h0 : At L a0 T9) (h1 : At L a1 T8) (h : fX9_joinAlike_b7 fu k7 a0 a1 x2 M = some M') (hR : Rx s E L M H locs) (hl : lv_has ls 5 [(0, .ref a0), (1, .ref a1), (2, .int x2)]) : W p l e (rmD (d + 1)) s m args below meth c H locs 0 0 (MQ below (QcM E L none M') args s 0 0 E.2.2.2) (F0 m 7 ls []) := by
  have hx := B.1
  have hb := B.2.1
  unfold fX9_joinAlike_b7 at h
  refine lv_iload_n hx hb dX9_joinAlike_7 rfl (lv_at hl 2 rfl) ?_
  refine lv_iconst (v := 1) hx hb dX9_joinAlike_8 (by decide) ?_
  refine lv_iadd hx hb dX9_joinAlike_9 ?_
  refine lv_aload_n hx hb dX9_joinAlike_10 rfl (lv_at hl 0 rfl) ?_
  refine gf_X9_32 B hR (h0.at0 rfl) dX9_joinAlike_11 ?_
  refine gf_X9_80 B hR ((sb_9_8 h0).at0 rfl) dX9_joinAlike_14 ?_
  refine lv_icmp_ge (tgt := 113) hx hb dX9_joinAlike_17 (by decide) (fun c_17 => ?_) (fun c_17 => ?_)
  · rw [if_pos c_17] at h
    exact wX9_joinAlike_j113 B hr hlk h0 h1 h hR (lv_sub hl [0, 1] rfl)
  · rw [if_neg c_17] at h
    refine lv_aload_n hx hb dX9_joinAlike_20 rfl (lv_at hl 0 rfl) ?_
    refine gf_X9_32 B hR (h0.at0 rfl) dX9_joinAlike_21 ?_
    refine gf_X9_81 B hR ((sb_9_8 h0).at0 rfl) dX9_joinAlike_24 ?_
    refine lv_iload_n hx hb dX9_joinAlike_27 rfl (lv_at hl 2 rfl) ?_
    obtain ⟨hi_28, h⟩ := ifn_el h
    refine r_iald B hR ((sb_9_8 h0).at 1 rfl) hi_28 dX9_joinAlike_28 ?_
    obtain ⟨x3_29, ex3_29, h⟩ := lt_el h
    refine r_nmI ex3_29 ?_
    refine lv_istore_n (lv' := [(3, .int x3_29), (0, .ref a0), (1, .ref a1), (2, .int x2)]) hx hb dX9_joinAlike_29 rfl hl (by decide) rfl (fun ls hl => ?_)
    refine lv_iload_n hx hb dX9_joinAlike_30 rfl (lv_at hl 0 rfl) ?_
    refine lv_aload_n hx hb dX9_joinAlike_31 rfl (lv_at hl 1 rfl) ?_
    refine gf_X9_51 B hR (h0.at0 rfl) dX9_joinAlike_32 ?_
    refine lv_icmp_ge (tgt := 42) hx hb dX9_joinAlike_35 (by decide) (fun c_35 => ?_) (fun c_35 => ?_)
    · rw [if_pos c_35] at h
      refine lv_aload_n hx hb dX9_joinAlike_42 rfl (lv_at hl 2 rfl) ?_
      refine lv_iload_n hx hb dX9_joinAlike_43 rfl (lv_at hl 0 rfl) ?_
      refine lv_aload_n hx hb dX9_joinAlike_44 rfl (lv_at hl 1 rfl) ?_
      refine gf_X9_42 B hR (h0.at0 rfl) dX9_joinAlike_45 ?_
      obtain ⟨r_48, hc_48, h⟩ := bi_el h
      refine iv_X9_84 B hR (h1.at0 rfl) hl.1 (mX8_wantedAt fu _ h1 hc_48) (Nat.le_of_ble_eq_true rfl) dX9_joinAlike_48 (fun H locs hR => ?_)
      exact wX9_joinAlike_j51 B hr hlk ih7 h0 h1 h hR (lv_sub hl [1, 2, 3, 0] rfl)
    · rw [if_neg c_35] at h
      refine lv_iconst (v := (-1)) hx hb dX9_joinAlike_38 (by decide) ?_
      refine lv_goto (tgt := 51) hx hb dX9_joinAlike_39 (by decide) ?_
      exact wX9_joinAlike_j51 B hr hlk ih7 h0 h1 h hR (lv_sub hl [1, 2, 3, 0] rfl)
def fX9_joinAlike_l7 (fu : Nat) (a0 : Nat) (a1 : Nat) (x2 : Int32) (M : Mm) : Option Mm := lp (fun (rec : (Int32 × Mm) → Option Mm) (s : Int32 × Mm) => fX9_joinAlike_b7 fu  (fun x2 M => rec (x2, M)) a0 a1 s.1 s.2) fu (x2, M)
set_option maxRecDepth 100000 in
set_option maxHeartbeats 4000000 in
theorem wX9_joinAlike_l7 {M' : Mm}   {a0 : Nat} {a1 : Nat} {x2 : Int32} {M : Mm} (B : Bx p s m args c cX9_joinAlike 5 RX9 E L) (hr : meth.sig.returnType = none) (hlk : meth.locks = false)  (h0 : At L a0 T9) (h1 : At L a1 T8) (h : fX9_joinAlike_l7 fu a0 a1 x2 M = some M') (hR : Rx s E L M H locs) (hl : lv_has ls 5 [(0, .ref a0), (1, .ref a1), (2, .int x2)]) : W p l e (rmD (d + 1)) s m args below meth c H locs 0 0 (MQ below (QcM E L none M') args s 0 0 E.2.2.2) (F0 m 7 ls []) := by
  refine lp_G (G := fun z : Int32 × Mm => ∀ (H : Heap) (locs : List Loc) (ls : Array Slot), Rx s E L z.2 H locs → lv_has ls 5 [(0, .ref a0), (1, .ref a1), (2, .int z.1)] → W p l e (rmD (d + 1)) s m args below meth c H locs 0 0 (MQ below (QcM E L none M') args s 0 0 E.2.2.2) (F0 m 7 ls [])) (fun rec ih z h H locs ls hR hl => ?_) fu _ h H locs ls hR hl
  exact wX9_joinAlike_b7 B hr hlk  (fun x2 M h => ih (x2, M) h) h0 h1 h hR hl
def fX9_joinAlike (fu : Nat) (a0 : Nat) (a1 : Nat) (M : Mm) : Option Mm :=
  lt (wI M a0 11 0) fun M_2 =>
  fX9_joinAlike_l7 fu a0 a1 0 M_2
set_option maxRecDepth 100000 in
set_option maxHeartbeats 4000000 in
theorem mX9_joinAlike {l : Launch} {E : Ge} {L : Lay} (fu d : Nat) {a0 : Nat} {a1 : Nat} {M : Mm} {M' : Mm}  (h0 : At L a0 T9) (h1 : At L a1 T8) (h : fX9_joinAlike fu a0 a1 M = some M') : Ct l E L yX9_joinAlike cX9_joinAlike 5 none (d + 1) [.ref a0, .ref a1] M none M' := by
  refine Ct.of (by decide) ?_
  intro p e s m below meth c hr hlk B hR
  have B : Bx p s m _ c cX9_joinAlike 5 RX9 E L := B
  have hx := B.1
  have hb := B.2.1
  have hl := lv_entry ([.ref a0, .ref a1]) (n := 5) (Nat.le_of_ble_eq_true rfl)
  rw [lg_entry_eq]
  generalize (lg_sl ([.ref a0, .ref a1]) ++ List.replicate (5 - (lg_sl ([.ref a0, .ref a1])).length) Slot.unset).toArray = ls at hl ⊢
  have hl : lv_has ls 5 [(0, .ref a0), (1, .ref a1)] := hl
  unfold fX9_joinAlike at h
  refine lv_aload_n hx hb dX9_joinAlike_0 rfl (lv_at hl 0 rfl) ?_
  refine lv_iconst (v := 0) hx hb dX9_joinAlike_1 (by decide) ?_
  obtain ⟨M_2, eM_2, h⟩ := lt_el h
  refine pf_X9_77 B hR (h0.at0 rfl) dX9_joinAlike_2 (fun H locs hR => ?_)
  rw [← eM_2] at hR
  refine lv_iconst (v := 0) hx hb dX9_joinAlike_5 (by decide) ?_
  refine lv_istore_n (lv' := [(2, .int 0), (0, .ref a0), (1, .ref a1)]) hx hb dX9_joinAlike_6 rfl hl (by decide) rfl (fun ls hl => ?_)
  exact wX9_joinAlike_l7 B hr hlk h0 h1 h hR (lv_sub hl [1, 2, 0] rfl)
def fX9_grow_j168 (fu : Nat) (fr : Nat → Int32 → Int32 → Int32 → Mm → Option (Int32 × Mm)) (a0 : Nat) (x4 : Int32) (M : Mm) : Option (Int32 × Mm) :=
  if x4 < 0 ∨ 320 ≤ ix x4 then none else
  lt (wI M (a0 + 4) (ix x4) (M.1 a0 5)) fun M_178 =>
  some (x4, M_178)
set_option maxRecDepth 100000 in
set_option maxHeartbeats 4000000 in
theorem wX9_grow_j168 {r : Int32} {M' : Mm} {fr : Nat → Int32 → Int32 → Int32 → Mm → Option (Int32 × Mm)}   {a0 : Nat} {x4 : Int32} {M : Mm} (B : Bx p s m args c cX9_grow 6 RX9 E L) (hr : meth.sig.returnType = (some .int)) (hlk : meth.locks = false) (ihr : ∀ {a0 : Nat} {x1 : Int32} {x2 : Int32} {x3 : Int32} {M : Mm} {r : Int32} {M' : Mm}, At L a0 T9 → fr a0 x1 x2 x3 M = some (r, M') → Ct l E L yX9_grow cX9_grow 6 (some .int) (d + 0) [.ref a0, .int x1, .int x2, .int x3] M (some (.int r)) M')  (h0 : At L a0 T9) (h : fX9_grow_j168 fu fr a0 x4 M = some (r, M')) (hR : Rx s E L M H locs) (hl : lv_has ls 6 [(0, .ref a0), (4, .int x4)]) : W p l e (rmD (d + 1)) s m args below meth c H locs 0 0 (MQ below (QcM E L (some (.int r)) M') args s 0 0 E.2.2.2) (F0 m 168 ls []) := by
  have hx := B.1
  have hb := B.2.1
  unfold fX9_grow_j168 at h
  refine lv_aload_n hx hb dX9_grow_168 rfl (lv_at hl 0 rfl) ?_
  refine gf_X9_21 B hR (h0.at0 rfl) dX9_grow_169 ?_
  refine lv_iload hx hb dX9_grow_172 (lv_at hl 1 rfl) ?_
  refine lv_aload_n hx hb dX9_grow_174 rfl (lv_at hl 0 rfl) ?_
  refine gf_X9_68 B hR (h0.at0 rfl) dX9_grow_175 ?_
  obtain ⟨hi_178, h⟩ := ifn_el h
  obtain ⟨M_178, eM_178, h⟩ := lt_el h
  refine r_iast B hR (h0.at 4 rfl) hi_178 dX9_grow_178 (fun H locs hR => ?_)
  rw [← eM_178] at hR
  refine lv_iload hx hb dX9_grow_179 (lv_at hl 1 rfl) ?_
  exact r_iretW B hR hr hlk h dX9_grow_181
def fX9_grow_j69 (fu : Nat) (fr : Nat → Int32 → Int32 → Int32 → Mm → Option (Int32 × Mm)) (a0 : Nat) (x1 : Int32) (x2 : Int32) (x3 : Int32) (x4 : Int32) (M : Mm) : Option (Int32 × Mm) :=
  if x4 < 0 ∨ 320 ≤ ix x4 then none else
  lt (wI M (a0 + 1) (ix x4) x1) fun M_76 =>
  lt (wI M_76 (a0 + 2) (ix x4) x2) fun M_84 =>
  if (M_84.1 a0 12) < 0 ∨ 28 ≤ ix (M_84.1 a0 12) then none else
  lt (wI M_84 (a0 + 5) (ix x4) (M_84.1 (a0 + 9) (ix (M_84.1 a0 12)))) fun M_100 =>
  lt (wI M_100 (a0 + 3) (ix x4) 0) fun M_108 =>
  if ((M_108.1 a0 12) + 1) < 0 ∨ 28 ≤ ix ((M_108.1 a0 12) + 1) then none else
  if (x1 + x2) ≤ (M_108.1 (a0 + 8) (ix ((M_108.1 a0 12) + 1))) then
    fX9_grow_j168 fu fr a0 x4 M_108
  else
    if 11 ≤ x3 then
      fX9_grow_j168 fu fr a0 x4 M_108
    else
      lt ((x2 / 2)) fun x5_135 =>
      bw (fr a0 x1 x5_135 (x3 + 1) M_108) fun r_144 M_144 =>
      bw (fr a0 (x1 + x5_135) x5_135 (x3 + 1) M_144) fun r_164 M_164 =>
      lt (wI M_164 (a0 + 3) (ix x4) r_164) fun M_167 =>
      fX9_grow_j168 fu fr a0 x4 M_167
set_option maxRecDepth 100000 in
set_option maxHeartbeats 4000000 in
theorem wX9_grow_j69 {r : Int32} {M' : Mm} {fr : Nat → Int32 → Int32 → Int32 → Mm → Option (Int32 × Mm)}   {a0 : Nat} {x1 : Int32} {x2 : Int32} {x3 : Int32} {x4 : Int32} {M : Mm} (B : Bx p s m args c cX9_grow 6 RX9 E L) (hr : meth.sig.returnType = (some .int)) (hlk : meth.locks = false) (ihr : ∀ {a0 : Nat} {x1 : Int32} {x2 : Int32} {x3 : Int32} {M : Mm} {r : Int32} {M' : Mm}, At L a0 T9 → fr a0 x1 x2 x3 M = some (r, M') → Ct l E L yX9_grow cX9_grow 6 (some .int) (d + 0) [.ref a0, .int x1, .int x2, .int x3] M (some (.int r)) M')  (h0 : At L a0 T9) (h : fX9_grow_j69 fu fr a0 x1 x2 x3 x4 M = some (r, M')) (hR : Rx s E L M H locs) (hl : lv_has ls 6 [(0, .ref a0), (1, .int x1), (2, .int x2), (3, .int x3), (4, .int x4)]) : W p l e (rmD (d + 1)) s m args below meth c H locs 0 0 (MQ below (QcM E L (some (.int r)) M') args s 0 0 E.2.2.2) (F0 m 69 ls []) := by
  have hx := B.1
  have hb := B.2.1
  unfold fX9_grow_j69 at h
  refine lv_aload_n hx hb dX9_grow_69 rfl (lv_at hl 0 rfl) ?_
  refine gf_X9_9 B hR (h0.at0 rfl) dX9_grow_70 ?_
  refine lv_iload hx hb dX9_grow_73 (lv_at hl 4 rfl) ?_
  refine lv_iload_n hx hb dX9_grow_75 rfl (lv_at hl 1 rfl) ?_
  obtain ⟨hi_76, h⟩ := ifn_el h
  obtain ⟨M_76, eM_76, h⟩ := lt_el h
  refine r_iast B hR (h0.at 1 rfl) hi_76 dX9_grow_76 (fun H locs hR => ?_)
  rw [← eM_76] at hR
  refine lv_aload_n hx hb dX9_grow_77 rfl (lv_at hl 0 rfl) ?_
  refine gf_X9_15 B hR (h0.at0 rfl) dX9_grow_78 ?_
  refine lv_iload hx hb dX9_grow_81 (lv_at hl 4 rfl) ?_
  refine lv_iload_n hx hb dX9_grow_83 rfl (lv_at hl 2 rfl) ?_
  obtain ⟨M_84, eM_84, h⟩ := lt_el h
  refine r_iast B hR (h0.at 2 rfl) hi_76 dX9_grow_84 (fun H locs hR => ?_)
  rw [← eM_84] at hR
  refine lv_aload_n hx hb dX9_grow_85 rfl (lv_at hl 0 rfl) ?_
  refine gf_X9_24 B hR (h0.at0 rfl) dX9_grow_86 ?_
  refine lv_iload hx hb dX9_grow_89 (lv_at hl 4 rfl) ?_
  refine lv_aload_n hx hb dX9_grow_91 rfl (lv_at hl 0 rfl) ?_
  refine gf_X9_39 B hR (h0.at0 rfl) dX9_grow_92 ?_
  refine lv_aload_n hx hb dX9_grow_95 rfl (lv_at hl 0 rfl) ?_
  refine gf_X9_71 B hR (h0.at0 rfl) dX9_grow_96 ?_
  obtain ⟨hi_99, h⟩ := ifn_el h
  refine r_iald B hR (h0.at 9 rfl) hi_99 dX9_grow_99 ?_
  obtain ⟨M_100, eM_100, h⟩ := lt_el h
  refine r_iast B hR (h0.at 5 rfl) hi_76 dX9_grow_100 (fun H locs hR => ?_)
  rw [← eM_100] at hR
  refine lv_aload_n hx hb dX9_grow_101 rfl (lv_at hl 0 rfl) ?_
  refine gf_X9_18 B hR (h0.at0 rfl) dX9_grow_102 ?_
  refine lv_iload hx hb dX9_grow_105 (lv_at hl 4 rfl) ?_
  refine lv_iconst (v := 0) hx hb dX9_grow_107 (by decide) ?_
  obtain ⟨M_108, eM_108, h⟩ := lt_el h
  refine r_iast B hR (h0.at 3 rfl) hi_76 dX9_grow_108 (fun H locs hR => ?_)
  rw [← eM_108] at hR
  refine lv_aload_n hx hb dX9_grow_109 rfl (lv_at hl 0 rfl) ?_
  refine gf_X9_36 B hR (h0.at0 rfl) dX9_grow_110 ?_
  refine lv_aload_n hx hb dX9_grow_113 rfl (lv_at hl 0 rfl) ?_
  refine gf_X9_71 B hR (h0.at0 rfl) dX9_grow_114 ?_
  refine lv_iconst (v := 1) hx hb dX9_grow_117 (by decide) ?_
  refine lv_iadd hx hb dX9_grow_118 ?_
  obtain ⟨hi_119, h⟩ := ifn_el h
  refine r_iald B hR (h0.at 8 rfl) hi_119 dX9_grow_119 ?_
  refine lv_iload_n hx hb dX9_grow_120 rfl (lv_at hl 1 rfl) ?_
  refine lv_iload_n hx hb dX9_grow_121 rfl (lv_at hl 2 rfl) ?_
  refine lv_iadd hx hb dX9_grow_122 ?_
  refine lv_icmp_ge (tgt := 168) hx hb dX9_grow_123 (by decide) (fun c_123 => ?_) (fun c_123 => ?_)
  · rw [if_pos c_123] at h
    exact wX9_grow_j168 B hr hlk ihr h0 h hR (lv_sub hl [0, 4] rfl)
  · rw [if_neg c_123] at h
    refine lv_iload_n hx hb dX9_grow_126 rfl (lv_at hl 3 rfl) ?_
    refine lv_bipush (v := 11) hx hb dX9_grow_127 (by decide) ?_
    refine lv_icmp_ge (tgt := 168) hx hb dX9_grow_129 (by decide) (fun c_129 => ?_) (fun c_129 => ?_)
    · rw [if_pos c_129] at h
      exact wX9_grow_j168 B hr hlk ihr h0 h hR (lv_sub hl [0, 4] rfl)
    · rw [if_neg c_129] at h
      refine lv_iload_n hx hb dX9_grow_132 rfl (lv_at hl 2 rfl) ?_
      refine lv_iconst (v := 2) hx hb dX9_grow_133 (by decide) ?_
      refine lv_idiv hx hb dX9_grow_134 (by decide) ?_
      obtain ⟨x5_135, ex5_135, h⟩ := lt_el h
      refine r_nmI ex5_135 ?_
      refine lv_istore (lv' := [(5, .int x5_135), (0, .ref a0), (1, .int x1), (2, .int x2), (3, .int x3), (4, .int x4)]) hx hb dX9_grow_135 hl (by decide) rfl (fun ls hl => ?_)
      refine lv_aload_n hx hb dX9_grow_137 rfl (lv_at hl 1 rfl) ?_
      refine lv_iload_n hx hb dX9_grow_138 rfl (lv_at hl 2 rfl) ?_
      refine lv_iload hx hb dX9_grow_139 (lv_at hl 0 rfl) ?_
      refine lv_iload_n hx hb dX9_grow_141 rfl (lv_at hl 4 rfl) ?_
      refine lv_iconst (v := 1) hx hb dX9_grow_142 (by decide) ?_
      refine lv_iadd hx hb dX9_grow_143 ?_
      obtain ⟨r_144, M_144, hc_144, h⟩ := bw_el h
      refine iv_X9_73 B hR (h0.at0 rfl) hl.1 (ihr h0 hc_144) (Nat.le_of_ble_eq_true rfl) dX9_grow_144 (fun H locs hR => ?_)
      refine lv_pop hx hb dX9_grow_147 rfl ?_
      refine lv_aload_n hx hb dX9_grow_148 rfl (lv_at hl 1 rfl) ?_
      refine gf_X9_18 B hR (h0.at0 rfl) dX9_grow_149 ?_
      refine lv_iload hx hb dX9_grow_152 (lv_at hl 5 rfl) ?_
      refine lv_aload_n hx hb dX9_grow_154 rfl (lv_at hl 1 rfl) ?_
      refine lv_iload_n hx hb dX9_grow_155 rfl (lv_at hl 2 rfl) ?_
      refine lv_iload hx hb dX9_grow_156 (lv_at hl 0 rfl) ?_
      refine lv_iadd hx hb dX9_grow_158 ?_
      refine lv_iload hx hb dX9_grow_159 (lv_at hl 0 rfl) ?_
      refine lv_iload_n hx hb dX9_grow_161 rfl (lv_at hl 4 rfl) ?_
      refine lv_iconst (v := 1) hx hb dX9_grow_162 (by decide) ?_
      refine lv_iadd hx hb dX9_grow_163 ?_
      obtain ⟨r_164, M_164, hc_164, h⟩ := bw_el h
      refine iv_X9_73 B hR (h0.at0 rfl) hl.1 (ihr h0 hc_164) (Nat.le_of_ble_eq_true rfl) dX9_grow_164 (fun H locs hR => ?_)
      obtain ⟨M_167, eM_167, h⟩ := lt_el h
      refine r_iast B hR (h0.at 3 rfl) hi_76 dX9_grow_167 (fun H locs hR => ?_)
      rw [← eM_167] at hR
      exact wX9_grow_j168 B hr hlk ihr h0 h hR (lv_sub hl [1, 5] rfl)
def fX9_grow_b28 (fu : Nat) (fr : Nat → Int32 → Int32 → Int32 → Mm → Option (Int32 × Mm)) (k28 : Mm → Option (Int32 × Mm)) (a0 : Nat) (x1 : Int32) (x2 : Int32) (x3 : Int32) (x4 : Int32) (M : Mm) : Option (Int32 × Mm) :=
  if (M.1 a0 11) ≤ ((M.1 a0 12) + 1) then
    fX9_grow_j69 fu fr a0 x1 x2 x3 x4 M
  else
    if ((M.1 a0 12) + 1) < 0 ∨ 28 ≤ ix ((M.1 a0 12) + 1) then none else
    if x1 < (M.1 (a0 + 8) (ix ((M.1 a0 12) + 1))) then
      fX9_grow_j69 fu fr a0 x1 x2 x3 x4 M
    else
      lt (wI M a0 12 ((M.1 a0 12) + 1)) fun M_63 =>
      k28 M_63
set_option maxRecDepth 100000 in
set_option maxHeartbeats 4000000 in
theorem wX9_grow_b28 {r : Int32} {M' : Mm} {fr : Nat → Int32 → Int32 → Int32 → Mm → Option (Int32 × Mm)}   {k28 : Mm → Option (Int32 × Mm)} {a0 : Nat} {x1 : Int32} {x2 : Int32} {x3 : Int32} {x4 : Int32} {M : Mm} (B : Bx p s m args c cX9_grow 6 RX9 E L) (hr : meth.sig.returnType = (some .int)) (hlk : meth.locks = false) (ihr : ∀ {a0 : Nat} {x1 : Int32} {x2 : Int32} {x3 : Int32} {M : Mm} {r : Int32} {M' : Mm}, At L a0 T9 → fr a0 x1 x2 x3 M = some (r, M') → Ct l E L yX9_grow cX9_grow 6 (some .int) (d + 0) [.ref a0, .int x1, .int x2, .int x3] M (some (.int r)) M')  (ih28 : ∀ (M : Mm), k28 M = some (r, M') → ∀ (H : Heap) (locs : List Loc) (ls : Array Slot), Rx s E L M H locs → lv_has ls 6 [(0, .ref a0), (1, .int x1), (2, .int x2), (3, .int x3), (4, .int x4)] → W p l e (rmD (d + 1)) s m args below meth c H locs 0 0 (MQ below (QcM E L (some (.int r)) M') args s 0 0 E.2.2.2) (F0 m 28 ls [])) (h0 : At L a0 T9) (h : fX9_grow_b28 fu fr k28 a0 x1 x2 x3 x4 M = some (r, M')) (hR : Rx s E L M H locs) (hl : lv_has ls 6 [(0, .ref a0), (1, .int x1), (2, .int x2), (3, .int x3), (4, .int x4)]) : W p l e (rmD (d + 1)) s m args below meth c H locs 0 0 (MQ below (QcM E L (some (.int r)) M') args s 0 0 E.2.2.2) (F0 m 28 ls []) := by
  have hx := B.1
  have hb := B.2.1
  unfold fX9_grow_b28 at h
  refine lv_aload_n hx hb dX9_grow_28 rfl (lv_at hl 0 rfl) ?_
  refine gf_X9_71 B hR (h0.at0 rfl) dX9_grow_29 ?_
  refine lv_iconst (v := 1) hx hb dX9_grow_32 (by decide) ?_
  refine lv_iadd hx hb dX9_grow_33 ?_
  refine lv_aload_n hx hb dX9_grow_34 rfl (lv_at hl 0 rfl) ?_
  refine gf_X9_77 B hR (h0.at0 rfl) dX9_grow_35 ?_
  refine lv_icmp_ge (tgt := 69) hx hb dX9_grow_38 (by decide) (fun c_38 => ?_) (fun c_38 => ?_)
  · rw [if_pos c_38] at h
    exact wX9_grow_j69 B hr hlk ihr h0 h hR hl
  · rw [if_neg c_38] at h
    refine lv_aload_n hx hb dX9_grow_41 rfl (lv_at hl 0 rfl) ?_
    refine gf_X9_36 B hR (h0.at0 rfl) dX9_grow_42 ?_
    refine lv_aload_n hx hb dX9_grow_45 rfl (lv_at hl 0 rfl) ?_
    refine gf_X9_71 B hR (h0.at0 rfl) dX9_grow_46 ?_
    refine lv_iconst (v := 1) hx hb dX9_grow_49 (by decide) ?_
    refine lv_iadd hx hb dX9_grow_50 ?_
    obtain ⟨hi_51, h⟩ := ifn_el h
    refine r_iald B hR (h0.at 8 rfl) hi_51 dX9_grow_51 ?_
    refine lv_iload_n hx hb dX9_grow_52 rfl (lv_at hl 1 rfl) ?_
    refine lv_icmp_gt (tgt := 69) hx hb dX9_grow_53 (by decide) (fun c_53 => ?_) (fun c_53 => ?_)
    · rw [if_pos c_53] at h
      exact wX9_grow_j69 B hr hlk ihr h0 h hR hl
    · rw [if_neg c_53] at h
      refine lv_aload_n hx hb dX9_grow_56 rfl (lv_at hl 0 rfl) ?_
      refine lv_dup hx hb dX9_grow_57 rfl ?_
      refine gf_X9_71 B hR (h0.at0 rfl) dX9_grow_58 ?_
      refine lv_iconst (v := 1) hx hb dX9_grow_61 (by decide) ?_
      refine lv_iadd hx hb dX9_grow_62 ?_
      obtain ⟨M_63, eM_63, h⟩ := lt_el h
      refine pf_X9_71 B hR (h0.at0 rfl) dX9_grow_63 (fun H locs hR => ?_)
      rw [← eM_63] at hR
      refine lv_goto (tgt := 28) hx hb dX9_grow_66 (by decide) ?_
      exact ih28 M_63 h _ _ _ hR hl
def fX9_grow_l28 (fu : Nat) (fr : Nat → Int32 → Int32 → Int32 → Mm → Option (Int32 × Mm)) (a0 : Nat) (x1 : Int32) (x2 : Int32) (x3 : Int32) (x4 : Int32) (M : Mm) : Option (Int32 × Mm) := lp (fun (rec : Mm → Option (Int32 × Mm)) (s : Mm) => fX9_grow_b28 fu fr  (fun M => rec (M)) a0 x1 x2 x3 x4 s) fu (M)
set_option maxRecDepth 100000 in
set_option maxHeartbeats 4000000 in
theorem wX9_grow_l28 {r : Int32} {M' : Mm} {fr : Nat → Int32 → Int32 → Int32 → Mm → Option (Int32 × Mm)}   {a0 : Nat} {x1 : Int32} {x2 : Int32} {x3 : Int32} {x4 : Int32} {M : Mm} (B : Bx p s m args c cX9_grow 6 RX9 E L) (hr : meth.sig.returnType = (some .int)) (hlk : meth.locks = false) (ihr : ∀ {a0 : Nat} {x1 : Int32} {x2 : Int32} {x3 : Int32} {M : Mm} {r : Int32} {M' : Mm}, At L a0 T9 → fr a0 x1 x2 x3 M = some (r, M') → Ct l E L yX9_grow cX9_grow 6 (some .int) (d + 0) [.ref a0, .int x1, .int x2, .int x3] M (some (.int r)) M')  (h0 : At L a0 T9) (h : fX9_grow_l28 fu fr a0 x1 x2 x3 x4 M = some (r, M')) (hR : Rx s E L M H locs) (hl : lv_has ls 6 [(0, .ref a0), (1, .int x1), (2, .int x2), (3, .int x3), (4, .int x4)]) : W p l e (rmD (d + 1)) s m args below meth c H locs 0 0 (MQ below (QcM E L (some (.int r)) M') args s 0 0 E.2.2.2) (F0 m 28 ls []) := by
  refine lp_G (G := fun z : Mm => ∀ (H : Heap) (locs : List Loc) (ls : Array Slot), Rx s E L z H locs → lv_has ls 6 [(0, .ref a0), (1, .int x1), (2, .int x2), (3, .int x3), (4, .int x4)] → W p l e (rmD (d + 1)) s m args below meth c H locs 0 0 (MQ below (QcM E L (some (.int r)) M') args s 0 0 E.2.2.2) (F0 m 28 ls [])) (fun rec ih z h H locs ls hR hl => ?_) fu _ h H locs ls hR hl
  exact wX9_grow_b28 B hr hlk ihr  (fun M h => ih (M) h) h0 h hR hl
def fX9_grow_R (fu : Nat) (fr : Nat → Int32 → Int32 → Int32 → Mm → Option (Int32 × Mm)) (a0 : Nat) (x1 : Int32) (x2 : Int32) (x3 : Int32) (M : Mm) : Option (Int32 × Mm) :=
  if (M.1 a0 5) < 320 then
    lt ((M.1 a0 5)) fun x4_16 =>
    lt (wI M a0 5 ((M.1 a0 5) + 1)) fun M_25 =>
    fX9_grow_l28 fu fr a0 x1 x2 x3 x4_16 M_25
  else
    some (0, M)
set_option maxRecDepth 100000 in
set_option maxHeartbeats 4000000 in
theorem mX9_grow_R {l : Launch} {E : Ge} {L : Lay} (fu d : Nat) {a0 : Nat} {x1 : Int32} {x2 : Int32} {x3 : Int32} {M : Mm} {r : Int32} {M' : Mm} {fr : Nat → Int32 → Int32 → Int32 → Mm → Option (Int32 × Mm)} (ihr : ∀ {a0 : Nat} {x1 : Int32} {x2 : Int32} {x3 : Int32} {M : Mm} {r : Int32} {M' : Mm}, At L a0 T9 → fr a0 x1 x2 x3 M = some (r, M') → Ct l E L yX9_grow cX9_grow 6 (some .int) (d + 0) [.ref a0, .int x1, .int x2, .int x3] M (some (.int r)) M') (h0 : At L a0 T9) (h : fX9_grow_R fu fr a0 x1 x2 x3 M = some (r, M')) : Ct l E L yX9_grow cX9_grow 6 (some .int) (d + 1) [.ref a0, .int x1, .int x2, .int x3] M (some (.int r)) M' := by
  refine Ct.of (by decide) ?_
  intro p e s m below meth c hr hlk B hR
  have B : Bx p s m _ c cX9_grow 6 RX9 E L := B
  have hx := B.1
  have hb := B.2.1
  have hl := lv_entry ([.ref a0, .int x1, .int x2, .int x3]) (n := 6) (Nat.le_of_ble_eq_true rfl)
  rw [lg_entry_eq]
  generalize (lg_sl ([.ref a0, .int x1, .int x2, .int x3]) ++ List.replicate (6 - (lg_sl ([.ref a0, .int x1, .int x2, .int x3])).length) Slot.unset).toArray = ls at hl ⊢
  have hl : lv_has ls 6 [(0, .ref a0), (1, .int x1), (2, .int x2), (3, .int x3)] := hl
  unfold fX9_grow_R at h
  refine lv_aload_n hx hb dX9_grow_0 rfl (lv_at hl 0 rfl) ?_
  refine gf_X9_68 B hR (h0.at0 rfl) dX9_grow_1 ?_
  refine lv_sipush (v := 320) hx hb dX9_grow_4 (by decide) ?_
  refine lv_icmp_lt (tgt := 12) hx hb dX9_grow_7 (by decide) (fun c_7 => ?_) (fun c_7 => ?_)
  · rw [if_pos c_7] at h
    refine lv_aload_n hx hb dX9_grow_12 rfl (lv_at hl 0 rfl) ?_
    refine gf_X9_68 B hR (h0.at0 rfl) dX9_grow_13 ?_
    obtain ⟨x4_16, ex4_16, h⟩ := lt_el h
    refine r_nmI ex4_16 ?_
    refine lv_istore (lv' := [(4, .int x4_16), (0, .ref a0), (1, .int x1), (2, .int x2), (3, .int x3)]) hx hb dX9_grow_16 hl (by decide) rfl (fun ls hl => ?_)
    refine lv_aload_n hx hb dX9_grow_18 rfl (lv_at hl 1 rfl) ?_
    refine lv_dup hx hb dX9_grow_19 rfl ?_
    refine gf_X9_68 B hR (h0.at0 rfl) dX9_grow_20 ?_
    refine lv_iconst (v := 1) hx hb dX9_grow_23 (by decide) ?_
    refine lv_iadd hx hb dX9_grow_24 ?_
    obtain ⟨M_25, eM_25, h⟩ := lt_el h
    refine pf_X9_68 B hR (h0.at0 rfl) dX9_grow_25 (fun H locs hR => ?_)
    rw [← eM_25] at hR
    exact wX9_grow_l28 B hr hlk ihr h0 h hR (lv_sub hl [1, 2, 3, 4, 0] rfl)
  · rw [if_neg c_7] at h
    refine lv_iconst (v := 0) hx hb dX9_grow_10 (by decide) ?_
    exact r_iretW B hR hr hlk h dX9_grow_11
def fX9_grow (fu : Nat) : Nat → Nat → Int32 → Int32 → Int32 → Mm → Option (Int32 × Mm)
  | 0 => fun _ _ _ _ _ => none
  | dp + 1 => fun a0 x1 x2 x3 M => fX9_grow_R fu (fX9_grow fu dp) a0 x1 x2 x3 M
theorem mX9_grow_N {l : Launch} {E : Ge} {L : Lay} (fu dp : Nat) : ∀ (d : Nat) {a0 : Nat} {x1 : Int32} {x2 : Int32} {x3 : Int32} {M : Mm} {r : Int32} {M' : Mm} (h0 : At L a0 T9) (h : fX9_grow fu dp a0 x1 x2 x3 M = some (r, M')), Ct l E L yX9_grow cX9_grow 6 (some .int) (d + dp + 0) [.ref a0, .int x1, .int x2, .int x3] M (some (.int r)) M' := by
  induction dp with
  | zero => intro d _ _ _ _ _ _ _ _ h; cases h
  | succ dp ih => intro d _ _ _ _ _ _ _ h0 h; exact mX9_grow_R fu (d + dp) (fr := fX9_grow fu dp) (fun h0 h => ih d h0 h) h0 h
theorem mX9_grow {l : Launch} {E : Ge} {L : Lay} (fu d : Nat) {a0 : Nat} {x1 : Int32} {x2 : Int32} {x3 : Int32} {M : Mm} {r : Int32} {M' : Mm} (h0 : At L a0 T9) (h : fX9_grow fu 16 a0 x1 x2 x3 M = some (r, M')) : Ct l E L yX9_grow cX9_grow 6 (some .int) (d + 16) [.ref a0, .int x1, .int x2, .int x3] M (some (.int r)) M' := mX9_grow_N fu 16 d h0 h
def fX9_make (fu : Nat) (a0 : Nat) (a1 : Nat) (x2 : Int32) (M : Mm) : Option Mm :=
  lt (wI M a0 6 x2) fun M_2 =>
  lt (wI M_2 a0 7 (M_2.1 a1 4)) fun M_10 =>
  bm (fX2_begin fu 28 (a0 + 6) (M_10.1 a1 0) M_10) fun M_21 =>
  bm (fX2_cutSpans fu 28 (a0 + 6) a1 M_21) fun M_29 =>
  bm (fX2_cut fu 28 (a0 + 6) (M_29.1 a0 7) M_29) fun M_40 =>
  bm (fX9_joinAlike fu a0 a1 M_40) fun M_45 =>
  lt (wI M_45 a0 5 0) fun M_50 =>
  lt (wI M_50 a0 12 0) fun M_55 =>
  bw (fX9_grow fu 16 a0 0 (M_55.1 a1 0) 0 M_55) fun r_65 M_65 =>
  some M_65
set_option maxRecDepth 100000 in
set_option maxHeartbeats 4000000 in
theorem mX9_make {l : Launch} {E : Ge} {L : Lay} (fu d : Nat) {a0 : Nat} {a1 : Nat} {x2 : Int32} {M : Mm} {M' : Mm}  (h0 : At L a0 T9) (h1 : At L a1 T8) (h : fX9_make fu a0 a1 x2 M = some M') : Ct l E L yX9_make cX9_make 3 none (d + 17) [.ref a0, .ref a1, .int x2] M none M' := by
  refine Ct.of (by decide) ?_
  intro p e s m below meth c hr hlk B hR
  have B : Bx p s m _ c cX9_make 3 RX9 E L := B
  have hx := B.1
  have hb := B.2.1
  have hl := lv_entry ([.ref a0, .ref a1, .int x2]) (n := 3) (Nat.le_of_ble_eq_true rfl)
  rw [lg_entry_eq]
  generalize (lg_sl ([.ref a0, .ref a1, .int x2]) ++ List.replicate (3 - (lg_sl ([.ref a0, .ref a1, .int x2])).length) Slot.unset).toArray = ls at hl ⊢
  have hl : lv_has ls 3 [(0, .ref a0), (1, .ref a1), (2, .int x2)] := hl
  unfold fX9_make at h
  refine lv_aload_n hx hb dX9_make_0 rfl (lv_at hl 0 rfl) ?_
  refine lv_iload_n hx hb dX9_make_1 rfl (lv_at hl 2 rfl) ?_
  obtain ⟨M_2, eM_2, h⟩ := lt_el h
  refine pf_X9_42 B hR (h0.at0 rfl) dX9_make_2 (fun H locs hR => ?_)
  rw [← eM_2] at hR
  refine lv_aload_n hx hb dX9_make_5 rfl (lv_at hl 0 rfl) ?_
  refine lv_aload_n hx hb dX9_make_6 rfl (lv_at hl 1 rfl) ?_
  refine gf_X9_46 B hR (h1.at0 rfl) dX9_make_7 ?_
  obtain ⟨M_10, eM_10, h⟩ := lt_el h
  refine pf_X9_51 B hR (h0.at0 rfl) dX9_make_10 (fun H locs hR => ?_)
  rw [← eM_10] at hR
  refine lv_aload_n hx hb dX9_make_13 rfl (lv_at hl 0 rfl) ?_
  refine gf_X9_32 B hR (h0.at0 rfl) dX9_make_14 ?_
  refine lv_aload_n hx hb dX9_make_17 rfl (lv_at hl 1 rfl) ?_
  refine gf_X9_52 B hR (h1.at0 rfl) dX9_make_18 ?_
  obtain ⟨M_21, hc_21, h⟩ := bm_el h
  refine iv_X9_55 B hR ((sb_9_8 h0).at0 rfl) hl.1 (mX2_begin fu _ (sb_9_8 h0) hc_21) (Nat.le_of_ble_eq_true rfl) dX9_make_21 (fun H locs hR => ?_)
  refine lv_aload_n hx hb dX9_make_24 rfl (lv_at hl 0 rfl) ?_
  refine gf_X9_32 B hR (h0.at0 rfl) dX9_make_25 ?_
  refine lv_aload_n hx hb dX9_make_28 rfl (lv_at hl 1 rfl) ?_
  obtain ⟨M_29, hc_29, h⟩ := bm_el h
  refine iv_X9_58 B hR ((sb_9_8 h0).at0 rfl) hl.1 (mX2_cutSpans fu _ (sb_9_8 h0) h1 hc_29) (Nat.le_of_ble_eq_true rfl) dX9_make_29 (fun H locs hR => ?_)
  refine lv_aload_n hx hb dX9_make_32 rfl (lv_at hl 0 rfl) ?_
  refine gf_X9_32 B hR (h0.at0 rfl) dX9_make_33 ?_
  refine lv_aload_n hx hb dX9_make_36 rfl (lv_at hl 0 rfl) ?_
  refine gf_X9_51 B hR (h0.at0 rfl) dX9_make_37 ?_
  obtain ⟨M_40, hc_40, h⟩ := bm_el h
  refine iv_X9_62 B hR ((sb_9_8 h0).at0 rfl) hl.1 (mX2_cut fu _ (sb_9_8 h0) hc_40) (Nat.le_of_ble_eq_true rfl) dX9_make_40 (fun H locs hR => ?_)
  refine lv_aload_n hx hb dX9_make_43 rfl (lv_at hl 0 rfl) ?_
  refine lv_aload_n hx hb dX9_make_44 rfl (lv_at hl 1 rfl) ?_
  obtain ⟨M_45, hc_45, h⟩ := bm_el h
  refine iv_X9_65 B hR (h0.at0 rfl) hl.1 (mX9_joinAlike fu _ h0 h1 hc_45) (Nat.le_of_ble_eq_true rfl) dX9_make_45 (fun H locs hR => ?_)
  refine lv_aload_n hx hb dX9_make_48 rfl (lv_at hl 0 rfl) ?_
  refine lv_iconst (v := 0) hx hb dX9_make_49 (by decide) ?_
  obtain ⟨M_50, eM_50, h⟩ := lt_el h
  refine pf_X9_68 B hR (h0.at0 rfl) dX9_make_50 (fun H locs hR => ?_)
  rw [← eM_50] at hR
  refine lv_aload_n hx hb dX9_make_53 rfl (lv_at hl 0 rfl) ?_
  refine lv_iconst (v := 0) hx hb dX9_make_54 (by decide) ?_
  obtain ⟨M_55, eM_55, h⟩ := lt_el h
  refine pf_X9_71 B hR (h0.at0 rfl) dX9_make_55 (fun H locs hR => ?_)
  rw [← eM_55] at hR
  refine lv_aload_n hx hb dX9_make_58 rfl (lv_at hl 0 rfl) ?_
  refine lv_iconst (v := 0) hx hb dX9_make_59 (by decide) ?_
  refine lv_aload_n hx hb dX9_make_60 rfl (lv_at hl 1 rfl) ?_
  refine gf_X9_52 B hR (h1.at0 rfl) dX9_make_61 ?_
  refine lv_iconst (v := 0) hx hb dX9_make_64 (by decide) ?_
  obtain ⟨r_65, M_65, hc_65, h⟩ := bw_el h
  refine iv_X9_73 B hR (h0.at0 rfl) hl.1 (mX9_grow fu _ h0 hc_65) (Nat.le_of_ble_eq_true rfl) dX9_make_65 (fun H locs hR => ?_)
  refine lv_pop hx hb dX9_make_68 rfl ?_
  exact r_vretW B hR hr hlk h dX9_make_69
def fX9_open (fu : Nat) (a0 : Nat) (x1 : Int32) (M : Mm) : Option Int32 :=
  if x1 < 0 ∨ 320 ≤ ix x1 then none else
  lt (((M.1 (a0 + 1) (ix x1)) + (M.1 (a0 + 2) (ix x1)))) fun x2_13 =>
  some (if 0 < (x2_13 - (if (M.1 (a0 + 1) (ix x1)) < (M.1 a0 7) then (M.1 a0 7) else (M.1 (a0 + 1) (ix x1)))) then (x2_13 - (if (M.1 (a0 + 1) (ix x1)) < (M.1 a0 7) then (M.1 a0 7) else (M.1 (a0 + 1) (ix x1)))) else 0)
set_option maxRecDepth 100000 in
set_option maxHeartbeats 4000000 in
theorem mX9_open {l : Launch} {E : Ge} {L : Lay} (fu d : Nat) {a0 : Nat} {x1 : Int32} {M : Mm} {r : Int32}  (h0 : At L a0 T9) (h : fX9_open fu a0 x1 M = some r) : Ct l E L yX9_open cX9_open 3 (some .int) (d + 1) [.ref a0, .int x1] M (some (.int r)) M := by
  refine Ct.of (by decide) ?_
  intro p e s m below meth c hr hlk B hR
  have B : Bx p s m _ c cX9_open 3 RX9 E L := B
  have hx := B.1
  have hb := B.2.1
  have hl := lv_entry ([.ref a0, .int x1]) (n := 3) (Nat.le_of_ble_eq_true rfl)
  rw [lg_entry_eq]
  generalize (lg_sl ([.ref a0, .int x1]) ++ List.replicate (3 - (lg_sl ([.ref a0, .int x1])).length) Slot.unset).toArray = ls at hl ⊢
  have hl : lv_has ls 3 [(0, .ref a0), (1, .int x1)] := hl
  unfold fX9_open at h
  refine lv_aload_n hx hb dX9_open_0 rfl (lv_at hl 0 rfl) ?_
  refine gf_X9_9 B hR (h0.at0 rfl) dX9_open_1 ?_
  refine lv_iload_n hx hb dX9_open_4 rfl (lv_at hl 1 rfl) ?_
  obtain ⟨hi_5, h⟩ := ifn_el h
  refine r_iald B hR (h0.at 1 rfl) hi_5 dX9_open_5 ?_
  refine lv_aload_n hx hb dX9_open_6 rfl (lv_at hl 0 rfl) ?_
  refine gf_X9_15 B hR (h0.at0 rfl) dX9_open_7 ?_
  refine lv_iload_n hx hb dX9_open_10 rfl (lv_at hl 1 rfl) ?_
  refine r_iald B hR (h0.at 2 rfl) hi_5 dX9_open_11 ?_
  refine lv_iadd hx hb dX9_open_12 ?_
  obtain ⟨x2_13, ex2_13, h⟩ := lt_el h
  refine r_nmI ex2_13 ?_
  refine lv_istore_n (lv' := [(2, .int x2_13), (0, .ref a0), (1, .int x1)]) hx hb dX9_open_13 rfl hl (by decide) rfl (fun ls hl => ?_)
  refine lv_iconst (v := 0) hx hb dX9_open_14 (by decide) ?_
  refine lv_iload_n hx hb dX9_open_15 rfl (lv_at hl 0 rfl) ?_
  refine lv_aload_n hx hb dX9_open_16 rfl (lv_at hl 1 rfl) ?_
  refine gf_X9_9 B hR (h0.at0 rfl) dX9_open_17 ?_
  refine lv_iload_n hx hb dX9_open_20 rfl (lv_at hl 2 rfl) ?_
  refine r_iald B hR (h0.at 1 rfl) hi_5 dX9_open_21 ?_
  refine lv_aload_n hx hb dX9_open_22 rfl (lv_at hl 1 rfl) ?_
  refine gf_X9_51 B hR (h0.at0 rfl) dX9_open_23 ?_
  refine mm_X9_88 B hl.1 (Nat.le_of_ble_eq_true rfl) dX9_open_26 ?_
  refine lv_isub hx hb dX9_open_29 ?_
  refine mm_X9_88 B hl.1 (Nat.le_of_ble_eq_true rfl) dX9_open_30 ?_
  exact r_iretP B hR hr hlk h dX9_open_33
def fX9_isRight_j50 (fu : Nat) (t0 : Int32) (M : Mm) : Option Int32 :=
  gd (t0 = 0 ∨ t0 = 1) <|
  some t0
set_option maxRecDepth 100000 in
set_option maxHeartbeats 4000000 in
theorem wX9_isRight_j50 {r : Int32}   {t0 : Int32} {M : Mm} (B : Bx p s m args c cX9_isRight 5 RX9 E L) (hr : meth.sig.returnType = (some .boolean)) (hlk : meth.locks = false)   (h : fX9_isRight_j50 fu t0 M = some r) (hR : Rx s E L M H locs) (hl : lv_has ls 5 []) : W p l e (rmD (d + 0)) s m args below meth c H locs 0 0 (MQ below (QcM E L (some (.int r)) M) args s 0 0 E.2.2.2) (F0 m 50 ls [.int t0]) := by
  have hx := B.1
  have hb := B.2.1
  unfold fX9_isRight_j50 at h
  obtain ⟨hz_50, h⟩ := gd_el h
  exact r_zretP B hR hr hlk hz_50 h dX9_isRight_50
def fX9_isRight_j45 (fu : Nat) (M : Mm) : Option Int32 :=
  fX9_isRight_j50 fu 1 M
set_option maxRecDepth 100000 in
set_option maxHeartbeats 4000000 in
theorem wX9_isRight_j45 {r : Int32}    {M : Mm} (B : Bx p s m args c cX9_isRight 5 RX9 E L) (hr : meth.sig.returnType = (some .boolean)) (hlk : meth.locks = false)   (h : fX9_isRight_j45 fu M = some r) (hR : Rx s E L M H locs) (hl : lv_has ls 5 []) : W p l e (rmD (d + 0)) s m args below meth c H locs 0 0 (MQ below (QcM E L (some (.int r)) M) args s 0 0 E.2.2.2) (F0 m 45 ls []) := by
  have hx := B.1
  have hb := B.2.1
  unfold fX9_isRight_j45 at h
  refine lv_iconst (v := 1) hx hb dX9_isRight_45 (by decide) ?_
  refine lv_goto (tgt := 50) hx hb dX9_isRight_46 (by decide) ?_
  exact wX9_isRight_j50 B hr hlk  h hR hl
def fX9_isRight_j13 (fu : Nat) (a0 : Nat) (x1 : Int32) (x3 : Int32) (t0 : Int32) (M : Mm) : Option Int32 :=
  if x1 < 0 ∨ 320 ≤ ix x1 then none else
  if (M.1 (a0 + 5) (ix x1)) = (-1) then
    fX9_isRight_j45 fu M
  else
    if ((x3 * 6) + t0) < 0 ∨ 36 ≤ ix ((x3 * 6) + t0) then none else
    if (seenT.getD (ix ((x3 * 6) + t0)) 0) = (M.1 (a0 + 5) (ix x1)) then
      fX9_isRight_j45 fu M
    else
      fX9_isRight_j50 fu 0 M
set_option maxRecDepth 100000 in
set_option maxHeartbeats 4000000 in
theorem wX9_isRight_j13 {r : Int32}   {a0 : Nat} {x1 : Int32} {x3 : Int32} {t0 : Int32} {M : Mm} (B : Bx p s m args c cX9_isRight 5 RX9 E L) (hr : meth.sig.returnType = (some .boolean)) (hlk : meth.locks = false)  (h0 : At L a0 T9) (h : fX9_isRight_j13 fu a0 x1 x3 t0 M = some r) (hR : Rx s E L M H locs) (hl : lv_has ls 5 [(0, .ref a0), (1, .int x1), (3, .int x3)]) : W p l e (rmD (d + 0)) s m args below meth c H locs 0 0 (MQ below (QcM E L (some (.int r)) M) args s 0 0 E.2.2.2) (F0 m 13 ls [.int t0]) := by
  have hx := B.1
  have hb := B.2.1
  unfold fX9_isRight_j13 at h
  refine lv_istore (lv' := [(4, .int t0), (0, .ref a0), (1, .int x1), (3, .int x3)]) hx hb dX9_isRight_13 hl (by decide) rfl (fun ls hl => ?_)
  refine lv_aload_n hx hb dX9_isRight_15 rfl (lv_at hl 1 rfl) ?_
  refine gf_X9_24 B hR (h0.at0 rfl) dX9_isRight_16 ?_
  refine lv_iload_n hx hb dX9_isRight_19 rfl (lv_at hl 2 rfl) ?_
  obtain ⟨hi_20, h⟩ := ifn_el h
  refine r_iald B hR (h0.at 5 rfl) hi_20 dX9_isRight_20 ?_
  refine lv_iconst (v := (-1)) hx hb dX9_isRight_21 (by decide) ?_
  refine lv_icmp_eq (tgt := 45) hx hb dX9_isRight_22 (by decide) (fun c_22 => ?_) (fun c_22 => ?_)
  · rw [if_pos c_22] at h
    exact wX9_isRight_j45 B hr hlk  h hR (lv_sub hl [] rfl)
  · rw [if_neg c_22] at h
    refine gs_X9_93 B hR dX9_isRight_25 ?_
    refine lv_iload_n hx hb dX9_isRight_28 rfl (lv_at hl 3 rfl) ?_
    refine lv_bipush (v := 6) hx hb dX9_isRight_29 (by decide) ?_
    refine lv_imul hx hb dX9_isRight_31 ?_
    refine lv_iload hx hb dX9_isRight_32 (lv_at hl 0 rfl) ?_
    refine lv_iadd hx hb dX9_isRight_34 ?_
    obtain ⟨hi_35, h⟩ := ifn_el h
    refine r_tald B hR B.2.2.2.2.2.2.2.2.1.2 hi_35 dX9_isRight_35 ?_
    refine lv_aload_n hx hb dX9_isRight_36 rfl (lv_at hl 1 rfl) ?_
    refine gf_X9_24 B hR (h0.at0 rfl) dX9_isRight_37 ?_
    refine lv_iload_n hx hb dX9_isRight_40 rfl (lv_at hl 2 rfl) ?_
    refine r_iald B hR (h0.at 5 rfl) hi_20 dX9_isRight_41 ?_
    refine lv_icmp_ne (tgt := 49) hx hb dX9_isRight_42 (by decide) (fun c_42 => ?_) (fun c_42 => ?_)
    · rw [if_neg c_42] at h
      refine lv_iconst (v := 0) hx hb dX9_isRight_49 (by decide) ?_
      exact wX9_isRight_j50 B hr hlk  h hR (lv_sub hl [] rfl)
    · rw [if_pos c_42] at h
      exact wX9_isRight_j45 B hr hlk  h hR (lv_sub hl [] rfl)
def fX9_isRight (fu : Nat) (a0 : Nat) (x1 : Int32) (x2 : Int32) (x3 : Int32) (M : Mm) : Option Int32 :=
  if x2 = 5 then
    fX9_isRight_j13 fu a0 x1 x3 (M.1 a0 6) M
  else
    fX9_isRight_j13 fu a0 x1 x3 x2 M
set_option maxRecDepth 100000 in
set_option maxHeartbeats 4000000 in
theorem mX9_isRight {l : Launch} {E : Ge} {L : Lay} (fu d : Nat) {a0 : Nat} {x1 : Int32} {x2 : Int32} {x3 : Int32} {M : Mm} {r : Int32}  (h0 : At L a0 T9) (h : fX9_isRight fu a0 x1 x2 x3 M = some r) : Ct l E L yX9_isRight cX9_isRight 5 (some .boolean) (d + 0) [.ref a0, .int x1, .int x2, .int x3] M (some (.int r)) M := by
  refine Ct.of (by decide) ?_
  intro p e s m below meth c hr hlk B hR
  have B : Bx p s m _ c cX9_isRight 5 RX9 E L := B
  have hx := B.1
  have hb := B.2.1
  have hl := lv_entry ([.ref a0, .int x1, .int x2, .int x3]) (n := 5) (Nat.le_of_ble_eq_true rfl)
  rw [lg_entry_eq]
  generalize (lg_sl ([.ref a0, .int x1, .int x2, .int x3]) ++ List.replicate (5 - (lg_sl ([.ref a0, .int x1, .int x2, .int x3])).length) Slot.unset).toArray = ls at hl ⊢
  have hl : lv_has ls 5 [(0, .ref a0), (1, .int x1), (2, .int x2), (3, .int x3)] := hl
  unfold fX9_isRight at h
  refine lv_iload_n hx hb dX9_isRight_0 rfl (lv_at hl 2 rfl) ?_
  refine lv_iconst (v := 5) hx hb dX9_isRight_1 (by decide) ?_
  refine lv_icmp_ne (tgt := 12) hx hb dX9_isRight_2 (by decide) (fun c_2 => ?_) (fun c_2 => ?_)
  · rw [if_neg c_2] at h
    refine lv_iload_n hx hb dX9_isRight_12 rfl (lv_at hl 2 rfl) ?_
    exact wX9_isRight_j13 B hr hlk h0 h hR (lv_sub hl [0, 1, 3] rfl)
  · rw [if_pos c_2] at h
    refine lv_aload_n hx hb dX9_isRight_5 rfl (lv_at hl 0 rfl) ?_
    refine gf_X9_42 B hR (h0.at0 rfl) dX9_isRight_6 ?_
    refine lv_goto (tgt := 13) hx hb dX9_isRight_9 (by decide) ?_
    exact wX9_isRight_j13 B hr hlk h0 h hR (lv_sub hl [0, 1, 3] rfl)
def fX9_pageKindFor_j32 (fu : Nat) (M : Mm) : Option Int32 :=
  some (-1)
set_option maxRecDepth 100000 in
set_option maxHeartbeats 4000000 in
theorem wX9_pageKindFor_j32 {r : Int32}    {M : Mm} (B : Bx p s m args c cX9_pageKindFor 4 RX9 E L) (hr : meth.sig.returnType = (some .int)) (hlk : meth.locks = false)   (h : fX9_pageKindFor_j32 fu M = some r) (hR : Rx s E L M H locs) (hl : lv_has ls 4 []) : W p l e (rmD (d + 1)) s m args below meth c H locs 0 0 (MQ below (QcM E L (some (.int r)) M) args s 0 0 E.2.2.2) (F0 m 32 ls []) := by
  have hx := B.1
  have hb := B.2.1
  unfold fX9_pageKindFor_j32 at h
  refine lv_iconst (v := (-1)) hx hb dX9_pageKindFor_32 (by decide) ?_
  exact r_iretP B hR hr hlk h dX9_pageKindFor_33
def fX9_pageKindFor_j21 (fu : Nat) (x3 : Int32) (M : Mm) : Option Int32 :=
  bi (fX10_pageKindInTurn fu x3) fun r_22 =>
  some r_22
set_option maxRecDepth 100000 in
set_option maxHeartbeats 4000000 in
theorem wX9_pageKindFor_j21 {r : Int32}   {x3 : Int32} {M : Mm} (B : Bx p s m args c cX9_pageKindFor 4 RX9 E L) (hr : meth.sig.returnType = (some .int)) (hlk : meth.locks = false)   (h : fX9_pageKindFor_j21 fu x3 M = some r) (hR : Rx s E L M H locs) (hl : lv_has ls 4 [(3, .int x3)]) : W p l e (rmD (d + 1)) s m args below meth c H locs 0 0 (MQ below (QcM E L (some (.int r)) M) args s 0 0 E.2.2.2) (F0 m 21 ls []) := by
  have hx := B.1
  have hb := B.2.1
  unfold fX9_pageKindFor_j21 at h
  refine lv_iload_n hx hb dX9_pageKindFor_21 rfl (lv_at hl 0 rfl) ?_
  obtain ⟨r_22, hc_22, h⟩ := bi_el h
  refine is_X9_96 B hR hl.1 (mX10_pageKindInTurn fu _  hc_22) (Nat.le_of_ble_eq_true rfl) dX9_pageKindFor_22 (fun H locs hR => ?_)
  exact r_iretP B hR hr hlk h dX9_pageKindFor_25
def fX9_pageKindFor_b2 (fu : Nat) (k2 : Int32 → Option Int32) (a0 : Nat) (x1 : Int32) (x2 : Int32) (x3 : Int32) (M : Mm) : Option Int32 :=
  if 6 ≤ x3 then
    fX9_pageKindFor_j32 fu M
  else
    bi (fX10_pageKindInTurn fu x3) fun r_12 =>
    bi (fX9_isRight fu a0 x1 x2 r_12 M) fun r_15 =>
    if r_15 = 0 then
      lt (x3 + 1) fun x3_26 =>
      k2 x3_26
    else
      fX9_pageKindFor_j21 fu x3 M
set_option maxRecDepth 100000 in
set_option maxHeartbeats 4000000 in
theorem wX9_pageKindFor_b2 {r : Int32}   {k2 : Int32 → Option Int32} {a0 : Nat} {x1 : Int32} {x2 : Int32} {x3 : Int32} {M : Mm} (B : Bx p s m args c cX9_pageKindFor 4 RX9 E L) (hr : meth.sig.returnType = (some .int)) (hlk : meth.locks = false)  (ih2 : ∀ (x3 : Int32), k2 x3 = some r → ∀ (H : Heap) (locs : List Loc) (ls : Array Slot), Rx s E L M H locs → lv_has ls 4 [(0, .ref a0), (1, .int x1), (2, .int x2), (3, .int x3)] → W p l e (rmD (d + 1)) s m args below meth c H locs 0 0 (MQ below (QcM E L (some (.int r)) M) args s 0 0 E.2.2.2) (F0 m 2 ls [])) (h0 : At L a0 T9) (h : fX9_pageKindFor_b2 fu k2 a0 x1 x2 x3 M = some r) (hR : Rx s E L M H locs) (hl : lv_has ls 4 [(0, .ref a0), (1, .int x1), (2, .int x2), (3, .int x3)]) : W p l e (rmD (d + 1)) s m args below meth c H locs 0 0 (MQ below (QcM E L (some (.int r)) M) args s 0 0 E.2.2.2) (F0 m 2 ls []) := by
  have hx := B.1
  have hb := B.2.1
  unfold fX9_pageKindFor_b2 at h
  refine lv_iload_n hx hb dX9_pageKindFor_2 rfl (lv_at hl 3 rfl) ?_
  refine lv_bipush (v := 6) hx hb dX9_pageKindFor_3 (by decide) ?_
  refine lv_icmp_ge (tgt := 32) hx hb dX9_pageKindFor_5 (by decide) (fun c_5 => ?_) (fun c_5 => ?_)
  · rw [if_pos c_5] at h
    exact wX9_pageKindFor_j32 B hr hlk  h hR (lv_sub hl [] rfl)
  · rw [if_neg c_5] at h
    refine lv_aload_n hx hb dX9_pageKindFor_8 rfl (lv_at hl 0 rfl) ?_
    refine lv_iload_n hx hb dX9_pageKindFor_9 rfl (lv_at hl 1 rfl) ?_
    refine lv_iload_n hx hb dX9_pageKindFor_10 rfl (lv_at hl 2 rfl) ?_
    refine lv_iload_n hx hb dX9_pageKindFor_11 rfl (lv_at hl 3 rfl) ?_
    obtain ⟨r_12, hc_12, h⟩ := bi_el h
    refine is_X9_96 B hR hl.1 (mX10_pageKindInTurn fu _  hc_12) (Nat.le_of_ble_eq_true rfl) dX9_pageKindFor_12 (fun H locs hR => ?_)
    obtain ⟨r_15, hc_15, h⟩ := bi_el h
    refine iv_X9_100 B hR (h0.at0 rfl) hl.1 (mX9_isRight fu _ h0 hc_15) (Nat.le_of_ble_eq_true rfl) dX9_pageKindFor_15 (fun H locs hR => ?_)
    refine lv_if_eq (tgt := 26) hx hb dX9_pageKindFor_18 (by decide) (fun c_18 => ?_) (fun c_18 => ?_)
    · rw [if_pos c_18] at h
      obtain ⟨x3_26, ex3_26, h⟩ := lt_el h
      refine lv_iinc (v := x3_26) (lv' := [(3, .int x3_26), (0, .ref a0), (1, .int x1), (2, .int x2)]) hx hb dX9_pageKindFor_26 hl (k := 3) rfl (by rw [ex3_26]; rfl) (by decide) rfl (fun ls hl => ?_)
      refine lv_goto (tgt := 2) hx hb dX9_pageKindFor_29 (by decide) ?_
      exact ih2 x3_26 h _ _ _ hR (lv_sub hl [1, 2, 3, 0] rfl)
    · rw [if_neg c_18] at h
      exact wX9_pageKindFor_j21 B hr hlk  h hR (lv_sub hl [3] rfl)
def fX9_pageKindFor_l2 (fu : Nat) (a0 : Nat) (x1 : Int32) (x2 : Int32) (M : Mm) (x3 : Int32) : Option Int32 := lp (fun (rec : Int32 → Option Int32) (s : Int32) => fX9_pageKindFor_b2 fu  (fun x3 => rec (x3)) a0 x1 x2 s M) fu (x3)
set_option maxRecDepth 100000 in
set_option maxHeartbeats 4000000 in
theorem wX9_pageKindFor_l2 {r : Int32}   {a0 : Nat} {x1 : Int32} {x2 : Int32} {x3 : Int32} {M : Mm} (B : Bx p s m args c cX9_pageKindFor 4 RX9 E L) (hr : meth.sig.returnType = (some .int)) (hlk : meth.locks = false)  (h0 : At L a0 T9) (h : fX9_pageKindFor_l2 fu a0 x1 x2 M x3 = some r) (hR : Rx s E L M H locs) (hl : lv_has ls 4 [(0, .ref a0), (1, .int x1), (2, .int x2), (3, .int x3)]) : W p l e (rmD (d + 1)) s m args below meth c H locs 0 0 (MQ below (QcM E L (some (.int r)) M) args s 0 0 E.2.2.2) (F0 m 2 ls []) := by
  refine lp_G (G := fun z : Int32 => ∀ (H : Heap) (locs : List Loc) (ls : Array Slot), Rx s E L M H locs → lv_has ls 4 [(0, .ref a0), (1, .int x1), (2, .int x2), (3, .int z)] → W p l e (rmD (d + 1)) s m args below meth c H locs 0 0 (MQ below (QcM E L (some (.int r)) M) args s 0 0 E.2.2.2) (F0 m 2 ls [])) (fun rec ih z h H locs ls hR hl => ?_) fu _ h H locs ls hR hl
  exact wX9_pageKindFor_b2 B hr hlk  (fun x3 h => ih (x3) h) h0 h hR hl
def fX9_pageKindFor (fu : Nat) (a0 : Nat) (x1 : Int32) (x2 : Int32) (M : Mm) : Option Int32 :=
  fX9_pageKindFor_l2 fu a0 x1 x2 M 0
set_option maxRecDepth 100000 in
set_option maxHeartbeats 4000000 in
theorem mX9_pageKindFor {l : Launch} {E : Ge} {L : Lay} (fu d : Nat) {a0 : Nat} {x1 : Int32} {x2 : Int32} {M : Mm} {r : Int32}  (h0 : At L a0 T9) (h : fX9_pageKindFor fu a0 x1 x2 M = some r) : Ct l E L yX9_pageKindFor cX9_pageKindFor 4 (some .int) (d + 1) [.ref a0, .int x1, .int x2] M (some (.int r)) M := by
  refine Ct.of (by decide) ?_
  intro p e s m below meth c hr hlk B hR
  have B : Bx p s m _ c cX9_pageKindFor 4 RX9 E L := B
  have hx := B.1
  have hb := B.2.1
  have hl := lv_entry ([.ref a0, .int x1, .int x2]) (n := 4) (Nat.le_of_ble_eq_true rfl)
  rw [lg_entry_eq]
  generalize (lg_sl ([.ref a0, .int x1, .int x2]) ++ List.replicate (4 - (lg_sl ([.ref a0, .int x1, .int x2])).length) Slot.unset).toArray = ls at hl ⊢
  have hl : lv_has ls 4 [(0, .ref a0), (1, .int x1), (2, .int x2)] := hl
  unfold fX9_pageKindFor at h
  refine lv_iconst (v := 0) hx hb dX9_pageKindFor_0 (by decide) ?_
  refine lv_istore_n (lv' := [(3, .int 0), (0, .ref a0), (1, .int x1), (2, .int x2)]) hx hb dX9_pageKindFor_1 rfl hl (by decide) rfl (fun ls hl => ?_)
  exact wX9_pageKindFor_l2 B hr hlk h0 h hR (lv_sub hl [1, 2, 3, 0] rfl)
end G14_tree_lean_txt
