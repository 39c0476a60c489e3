theorem dX4_work_120 : decode cX4_work 120 = .ok (.iload_n 1, 1) := by decide +kernel
theorem dX4_work_121 : decode cX4_work 121 = .ok (.iload_n 2, 1) := by decide +kernel
theorem dX4_work_122 : decode cX4_work 122 = .ok (.iadd, 1) := by decide +kernel
theorem dX4_work_123 : decode cX4_work 123 = .ok (.ireturn, 1) := by decide +kernel
theorem dX4_work_124 : decode cX4_work 124 = .ok (.iload_n 1, 1) := by decide +kernel
theorem dX4_work_125 : decode cX4_work 125 = .ok (.iload_n 2, 1) := by decide +kernel
theorem dX4_work_126 : decode cX4_work 126 = .ok (.isub, 1) := by decide +kernel
theorem dX4_work_127 : decode cX4_work 127 = .ok (.ireturn, 1) := by decide +kernel
theorem dX4_work_128 : decode cX4_work 128 = .ok (.iload_n 1, 1) := by decide +kernel
theorem dX4_work_129 : decode cX4_work 129 = .ok (.iload_n 2, 1) := by decide +kernel
theorem dX4_work_130 : decode cX4_work 130 = .ok (.imul, 1) := by decide +kernel
theorem dX4_work_131 : decode cX4_work 131 = .ok (.ireturn, 1) := by decide +kernel
theorem dX4_work_132 : decode cX4_work 132 = .ok (.iload_n 2, 1) := by decide +kernel
theorem dX4_work_133 : decode cX4_work 133 = .ok (.ifCond .ne 7, 3) := by decide +kernel
theorem dX4_work_136 : decode cX4_work 136 = .ok (.iconst 0, 1) := by decide +kernel
theorem dX4_work_137 : decode cX4_work 137 = .ok (.goto 6, 3) := by decide +kernel
theorem dX4_work_140 : decode cX4_work 140 = .ok (.iload_n 1, 1) := by decide +kernel
theorem dX4_work_141 : decode cX4_work 141 = .ok (.iload_n 2, 1) := by decide +kernel
theorem dX4_work_142 : decode cX4_work 142 = .ok (.idiv, 1) := by decide +kernel
theorem dX4_work_143 : decode cX4_work 143 = .ok (.ireturn, 1) := by decide +kernel
theorem dX4_work_144 : decode cX4_work 144 = .ok (.iload_n 2, 1) := by decide +kernel
theorem dX4_work_145 : decode cX4_work 145 = .ok (.ifCond .ne 7, 3) := by decide +kernel
theorem dX4_work_148 : decode cX4_work 148 = .ok (.iconst 0, 1) := by decide +kernel
theorem dX4_work_149 : decode cX4_work 149 = .ok (.goto 6, 3) := by decide +kernel
theorem dX4_work_152 : decode cX4_work 152 = .ok (.iload_n 1, 1) := by decide +kernel
theorem dX4_work_153 : decode cX4_work 153 = .ok (.iload_n 2, 1) := by decide +kernel
theorem dX4_work_154 : decode cX4_work 154 = .ok (.irem, 1) := by decide +kernel
theorem dX4_work_155 : decode cX4_work 155 = .ok (.ireturn, 1) := by decide +kernel
theorem dX4_work_156 : decode cX4_work 156 = .ok (.iload_n 1, 1) := by decide +kernel
theorem dX4_work_157 : decode cX4_work 157 = .ok (.iload_n 2, 1) := by decide +kernel
theorem dX4_work_158 : decode cX4_work 158 = .ok (.iand, 1) := by decide +kernel
theorem dX4_work_159 : decode cX4_work 159 = .ok (.ireturn, 1) := by decide +kernel
theorem dX4_work_160 : decode cX4_work 160 = .ok (.iload_n 1, 1) := by decide +kernel
theorem dX4_work_161 : decode cX4_work 161 = .ok (.iload_n 2, 1) := by decide +kernel
theorem dX4_work_162 : decode cX4_work 162 = .ok (.if_icmp .ne 7, 3) := by decide +kernel
theorem dX4_work_165 : decode cX4_work 165 = .ok (.iconst 1, 1) := by decide +kernel
theorem dX4_work_166 : decode cX4_work 166 = .ok (.goto 4, 3) := by decide +kernel
theorem dX4_work_169 : decode cX4_work 169 = .ok (.iconst 0, 1) := by decide +kernel
theorem dX4_work_170 : decode cX4_work 170 = .ok (.ireturn, 1) := by decide +kernel
theorem dX4_work_171 : decode cX4_work 171 = .ok (.iload_n 1, 1) := by decide +kernel
theorem dX4_work_172 : decode cX4_work 172 = .ok (.iload_n 2, 1) := by decide +kernel
theorem dX4_work_173 : decode cX4_work 173 = .ok (.if_icmp .ge 7, 3) := by decide +kernel
theorem dX4_work_176 : decode cX4_work 176 = .ok (.iconst 1, 1) := by decide +kernel
theorem dX4_work_177 : decode cX4_work 177 = .ok (.goto 4, 3) := by decide +kernel
theorem dX4_work_180 : decode cX4_work 180 = .ok (.iconst 0, 1) := by decide +kernel
theorem dX4_work_181 : decode cX4_work 181 = .ok (.ireturn, 1) := by decide +kernel
theorem dX4_work_182 : decode cX4_work 182 = .ok (.iload_n 1, 1) := by decide +kernel
theorem dX4_work_183 : decode cX4_work 183 = .ok (.iload_n 2, 1) := by decide +kernel
theorem dX4_work_184 : decode cX4_work 184 = .ok (.if_icmp .le 7, 3) := by decide +kernel
theorem dX4_work_187 : decode cX4_work 187 = .ok (.iconst 1, 1) := by decide +kernel
theorem dX4_work_188 : decode cX4_work 188 = .ok (.goto 4, 3) := by decide +kernel
theorem dX4_work_191 : decode cX4_work 191 = .ok (.iconst 0, 1) := by decide +kernel
theorem dX4_work_192 : decode cX4_work 192 = .ok (.ireturn, 1) := by decide +kernel
theorem dX4_work_193 : decode cX4_work 193 = .ok (.iload_n 1, 1) := by decide +kernel
theorem dX4_work_194 : decode cX4_work 194 = .ok (.iload_n 2, 1) := by decide +kernel
theorem dX4_work_195 : decode cX4_work 195 = .ok (.if_icmp .eq 7, 3) := by decide +kernel
theorem dX4_work_198 : decode cX4_work 198 = .ok (.iconst 1, 1) := by decide +kernel
theorem dX4_work_199 : decode cX4_work 199 = .ok (.goto 4, 3) := by decide +kernel
theorem dX4_work_202 : decode cX4_work 202 = .ok (.iconst 0, 1) := by decide +kernel
theorem dX4_work_203 : decode cX4_work 203 = .ok (.ireturn, 1) := by decide +kernel
theorem dX5_init_0 : decode cX5_init 0 = .ok (.aload_n 0, 1) := by decide +kernel
theorem dX5_init_1 : decode cX5_init 1 = .ok (.invokespecial 3, 3) := by decide +kernel
theorem dX5_init_4 : decode cX5_init 4 = .ok (.aload_n 0, 1) := by decide +kernel
theorem dX5_init_5 : decode cX5_init 5 = .ok (.bipush 60, 2) := by decide +kernel
theorem dX5_init_7 : decode cX5_init 7 = .ok (.newarray .int, 2) := by decide +kernel
theorem dX5_init_9 : decode cX5_init 9 = .ok (.putfield 9, 3) := by decide +kernel
theorem dX5_init_12 : decode cX5_init 12 = .ok (.aload_n 0, 1) := by decide +kernel
theorem dX5_init_13 : decode cX5_init 13 = .ok (.bipush 60, 2) := by decide +kernel
theorem dX5_init_15 : decode cX5_init 15 = .ok (.newarray .int, 2) := by decide +kernel
theorem dX5_init_17 : decode cX5_init 17 = .ok (.putfield 15, 3) := by decide +kernel
theorem dX5_init_20 : decode cX5_init 20 = .ok (.aload_n 0, 1) := by decide +kernel
theorem dX5_init_21 : decode cX5_init 21 = .ok (.bipush 60, 2) := by decide +kernel
theorem dX5_init_23 : decode cX5_init 23 = .ok (.newarray .int, 2) := by decide +kernel
theorem dX5_init_25 : decode cX5_init 25 = .ok (.putfield 18, 3) := by decide +kernel
theorem dX5_init_28 : decode cX5_init 28 = .ok (.aload_n 0, 1) := by decide +kernel
theorem dX5_init_29 : decode cX5_init 29 = .ok (.bipush 60, 2) := by decide +kernel
theorem dX5_init_31 : decode cX5_init 31 = .ok (.newarray .int, 2) := by decide +kernel
theorem dX5_init_33 : decode cX5_init 33 = .ok (.putfield 21, 3) := by decide +kernel
theorem dX5_init_36 : decode cX5_init 36 = .ok (.aload_n 0, 1) := by decide +kernel
theorem dX5_init_37 : decode cX5_init 37 = .ok (.bipush 60, 2) := by decide +kernel
theorem dX5_init_39 : decode cX5_init 39 = .ok (.newarray .int, 2) := by decide +kernel
theorem dX5_init_41 : decode cX5_init 41 = .ok (.putfield 24, 3) := by decide +kernel
theorem dX5_init_44 : decode cX5_init 44 = .ok (.aload_n 0, 1) := by decide +kernel
theorem dX5_init_45 : decode cX5_init 45 = .ok (.bipush 60, 2) := by decide +kernel
theorem dX5_init_47 : decode cX5_init 47 = .ok (.newarray .int, 2) := by decide +kernel
theorem dX5_init_49 : decode cX5_init 49 = .ok (.putfield 27, 3) := by decide +kernel
theorem dX5_init_52 : decode cX5_init 52 = .ok (.aload_n 0, 1) := by decide +kernel
theorem dX5_init_53 : decode cX5_init 53 = .ok (.bipush 60, 2) := by decide +kernel
theorem dX5_init_55 : decode cX5_init 55 = .ok (.newarray .long, 2) := by decide +kernel
theorem dX5_init_57 : decode cX5_init 57 = .ok (.putfield 30, 3) := by decide +kernel
theorem dX5_init_60 : decode cX5_init 60 = .ok (.aload_n 0, 1) := by decide +kernel
theorem dX5_init_61 : decode cX5_init 61 = .ok (.bipush 120, 2) := by decide +kernel
theorem dX5_init_63 : decode cX5_init 63 = .ok (.newarray .int, 2) := by decide +kernel
theorem dX5_init_65 : decode cX5_init 65 = .ok (.putfield 34, 3) := by decide +kernel
theorem dX5_init_68 : decode cX5_init 68 = .ok (.aload_n 0, 1) := by decide +kernel
theorem dX5_init_69 : decode cX5_init 69 = .ok (.bipush 120, 2) := by decide +kernel
theorem dX5_init_71 : decode cX5_init 71 = .ok (.newarray .int, 2) := by decide +kernel
theorem dX5_init_73 : decode cX5_init 73 = .ok (.putfield 37, 3) := by decide +kernel
theorem dX5_init_76 : decode cX5_init 76 = .ok (.aload_n 0, 1) := by decide +kernel
theorem dX5_init_77 : decode cX5_init 77 = .ok (.bipush 126, 2) := by decide +kernel
theorem dX5_init_79 : decode cX5_init 79 = .ok (.newarray .int, 2) := by decide +kernel
theorem dX5_init_81 : decode cX5_init 81 = .ok (.putfield 40, 3) := by decide +kernel
theorem dX5_init_84 : decode cX5_init 84 = .ok (.aload_n 0, 1) := by decide +kernel
theorem dX5_init_85 : decode cX5_init 85 = .ok (.bipush 126, 2) := by decide +kernel
theorem dX5_init_87 : decode cX5_init 87 = .ok (.newarray .int, 2) := by decide +kernel
theorem dX5_init_89 : decode cX5_init 89 = .ok (.putfield 43, 3) := by decide +kernel
theorem dX5_init_92 : decode cX5_init 92 = .ok (.aload_n 0, 1) := by decide +kernel
theorem dX5_init_93 : decode cX5_init 93 = .ok (.bipush 6, 2) := by decide +kernel
theorem dX5_init_95 : decode cX5_init 95 = .ok (.newarray .long, 2) := by decide +kernel
theorem dX5_init_97 : decode cX5_init 97 = .ok (.putfield 46, 3) := by decide +kernel
theorem dX5_init_100 : decode cX5_init 100 = .ok (.aload_n 0, 1) := by decide +kernel
theorem dX5_init_101 : decode cX5_init 101 = .ok (.sipush 900, 3) := by decide +kernel
theorem dX5_init_104 : decode cX5_init 104 = .ok (.newarray .int, 2) := by decide +kernel
theorem dX5_init_106 : decode cX5_init 106 = .ok (.putfield 51, 3) := by decide +kernel
theorem dX5_init_109 : decode cX5_init 109 = .ok (.aload_n 0, 1) := by decide +kernel
theorem dX5_init_110 : decode cX5_init 110 = .ok (.invokevirtual 54, 3) := by decide +kernel
theorem dX5_init_113 : decode cX5_init 113 = .ok (.return_, 1) := by decide +kernel
theorem dX5_clear_0 : decode cX5_clear 0 = .ok (.aload_n 0, 1) := by decide +kernel
theorem dX5_clear_1 : decode cX5_clear 1 = .ok (.iconst 0, 1) := by decide +kernel
theorem dX5_clear_2 : decode cX5_clear 2 = .ok (.putfield 57, 3) := by decide +kernel
theorem dX5_clear_5 : decode cX5_clear 5 = .ok (.aload_n 0, 1) := by decide +kernel
theorem dX5_clear_6 : decode cX5_clear 6 = .ok (.iconst 0, 1) := by decide +kernel
theorem dX5_clear_7 : decode cX5_clear 7 = .ok (.putfield 61, 3) := by decide +kernel
theorem dX5_clear_10 : decode cX5_clear 10 = .ok (.aload_n 0, 1) := by decide +kernel
theorem dX5_clear_11 : decode cX5_clear 11 = .ok (.iconst 0, 1) := by decide +kernel
theorem dX5_clear_12 : decode cX5_clear 12 = .ok (.putfield 64, 3) := by decide +kernel
theorem dX5_clear_15 : decode cX5_clear 15 = .ok (.aload_n 0, 1) := by decide +kernel
theorem dX5_clear_16 : decode cX5_clear 16 = .ok (.getfield 40, 3) := by decide +kernel
theorem dX5_clear_19 : decode cX5_clear 19 = .ok (.iconst (-1), 1) := by decide +kernel
theorem dX5_clear_20 : decode cX5_clear 20 = .ok (.invokestatic 67, 3) := by decide +kernel
theorem dX5_clear_23 : decode cX5_clear 23 = .ok (.aload_n 0, 1) := by decide +kernel
theorem dX5_clear_24 : decode cX5_clear 24 = .ok (.getfield 43, 3) := by decide +kernel
theorem dX5_clear_27 : decode cX5_clear 27 = .ok (.iconst (-1), 1) := by decide +kernel
theorem dX5_clear_28 : decode cX5_clear 28 = .ok (.invokestatic 67, 3) := by decide +kernel
theorem dX5_clear_31 : decode cX5_clear 31 = .ok (.return_, 1) := by decide +kernel
theorem dX5_procs_0 : decode cX5_procs 0 = .ok (.aload_n 0, 1) := by decide +kernel
theorem dX5_procs_1 : decode cX5_procs 1 = .ok (.getfield 61, 3) := by decide +kernel
theorem dX5_procs_4 : decode cX5_procs 4 = .ok (.ireturn, 1) := by decide +kernel
theorem dX5_steps_0 : decode cX5_steps 0 = .ok (.aload_n 0, 1) := by decide +kernel
theorem dX5_steps_1 : decode cX5_steps 1 = .ok (.getfield 57, 3) := by decide +kernel
theorem dX5_steps_4 : decode cX5_steps 4 = .ok (.ireturn, 1) := by decide +kernel
theorem dX5_procNamed_0 : decode cX5_procNamed 0 = .ok (.iconst 0, 1) := by decide +kernel
theorem dX5_procNamed_1 : decode cX5_procNamed 1 = .ok (.istore_n 3, 1) := by decide +kernel
theorem dX5_procNamed_2 : decode cX5_procNamed 2 = .ok (.iload_n 3, 1) := by decide +kernel
theorem dX5_procNamed_3 : decode cX5_procNamed 3 = .ok (.aload_n 0, 1) := by decide +kernel
theorem dX5_procNamed_4 : decode cX5_procNamed 4 = .ok (.getfield 61, 3) := by decide +kernel
theorem dX5_procNamed_7 : decode cX5_procNamed 7 = .ok (.if_icmp .ge 22, 3) := by decide +kernel
theorem dX5_procNamed_10 : decode cX5_procNamed 10 = .ok (.aload_n 0, 1) := by decide +kernel
theorem dX5_procNamed_11 : decode cX5_procNamed 11 = .ok (.getfield 46, 3) := by decide +kernel
theorem dX5_procNamed_14 : decode cX5_procNamed 14 = .ok (.iload_n 3, 1) := by decide +kernel
theorem dX5_procNamed_15 : decode cX5_procNamed 15 = .ok (.laload, 1) := by decide +kernel
theorem dX5_procNamed_16 : decode cX5_procNamed 16 = .ok (.lload_n 1, 1) := by decide +kernel
theorem dX5_procNamed_17 : decode cX5_procNamed 17 = .ok (.lcmp, 1) := by decide +kernel
theorem dX5_procNamed_18 : decode cX5_procNamed 18 = .ok (.ifCond .ne 5, 3) := by decide +kernel
theorem dX5_procNamed_21 : decode cX5_procNamed 21 = .ok (.iload_n 3, 1) := by decide +kernel
theorem dX5_procNamed_22 : decode cX5_procNamed 22 = .ok (.ireturn, 1) := by decide +kernel
theorem dX5_procNamed_23 : decode cX5_procNamed 23 = .ok (.iinc 3 1, 3) := by decide +kernel
theorem dX5_procNamed_26 : decode cX5_procNamed 26 = .ok (.goto (-24), 3) := by decide +kernel
theorem dX5_procNamed_29 : decode cX5_procNamed 29 = .ok (.iconst (-1), 1) := by decide +kernel
theorem dX5_procNamed_30 : decode cX5_procNamed 30 = .ok (.ireturn, 1) := by decide +kernel
theorem dX5_addProc_0 : decode cX5_addProc 0 = .ok (.aload_n 0, 1) := by decide +kernel
theorem dX5_addProc_1 : decode cX5_addProc 1 = .ok (.getfield 61, 3) := by decide +kernel
theorem dX5_addProc_4 : decode cX5_addProc 4 = .ok (.bipush 6, 2) := by decide +kernel
theorem dX5_addProc_6 : decode cX5_addProc 6 = .ok (.if_icmp .lt 6, 3) := by decide +kernel
theorem dX5_addProc_9 : decode cX5_addProc 9 = .ok (.bipush 120, 2) := by decide +kernel
theorem dX5_addProc_11 : decode cX5_addProc 11 = .ok (.ireturn, 1) := by decide +kernel
theorem dX5_addProc_12 : decode cX5_addProc 12 = .ok (.aload_n 0, 1) := by decide +kernel
theorem dX5_addProc_13 : decode cX5_addProc 13 = .ok (.getfield 46, 3) := by decide +kernel
theorem dX5_addProc_16 : decode cX5_addProc 16 = .ok (.aload_n 0, 1) := by decide +kernel
theorem dX5_addProc_17 : decode cX5_addProc 17 = .ok (.getfield 61, 3) := by decide +kernel
theorem dX5_addProc_20 : decode cX5_addProc 20 = .ok (.lload_n 1, 1) := by decide +kernel
theorem dX5_addProc_21 : decode cX5_addProc 21 = .ok (.lastore, 1) := by decide +kernel
theorem dX5_addProc_22 : decode cX5_addProc 22 = .ok (.aload_n 0, 1) := by decide +kernel
theorem dX5_addProc_23 : decode cX5_addProc 23 = .ok (.dup, 1) := by decide +kernel
theorem dX5_addProc_24 : decode cX5_addProc 24 = .ok (.getfield 61, 3) := by decide +kernel
theorem dX5_addProc_27 : decode cX5_addProc 27 = .ok (.iconst 1, 1) := by decide +kernel
theorem dX5_addProc_28 : decode cX5_addProc 28 = .ok (.iadd, 1) := by decide +kernel
theorem dX5_addProc_29 : decode cX5_addProc 29 = .ok (.putfield 61, 3) := by decide +kernel
theorem dX5_addProc_32 : decode cX5_addProc 32 = .ok (.bipush 120, 2) := by decide +kernel
theorem dX5_addProc_34 : decode cX5_addProc 34 = .ok (.aload_n 0, 1) := by decide +kernel
theorem dX5_addProc_35 : decode cX5_addProc 35 = .ok (.getfield 61, 3) := by decide +kernel
theorem dX5_addProc_38 : decode cX5_addProc 38 = .ok (.iadd, 1) := by decide +kernel
theorem dX5_addProc_39 : decode cX5_addProc 39 = .ok (.iconst 1, 1) := by decide +kernel
theorem dX5_addProc_40 : decode cX5_addProc 40 = .ok (.isub, 1) := by decide +kernel
theorem dX5_addProc_41 : decode cX5_addProc 41 = .ok (.ireturn, 1) := by decide +kernel
theorem dX5_addStep_0 : decode cX5_addStep 0 = .ok (.aload_n 0, 1) := by decide +kernel
theorem dX5_addStep_1 : decode cX5_addStep 1 = .ok (.getfield 57, 3) := by decide +kernel
theorem dX5_addStep_4 : decode cX5_addStep 4 = .ok (.bipush 60, 2) := by decide +kernel
theorem dX5_addStep_6 : decode cX5_addStep 6 = .ok (.if_icmp .lt 5, 3) := by decide +kernel
theorem dX5_addStep_9 : decode cX5_addStep 9 = .ok (.iconst (-1), 1) := by decide +kernel
theorem dX5_addStep_10 : decode cX5_addStep 10 = .ok (.ireturn, 1) := by decide +kernel
theorem dX5_addStep_11 : decode cX5_addStep 11 = .ok (.aload_n 0, 1) := by decide +kernel
theorem dX5_addStep_12 : decode cX5_addStep 12 = .ok (.getfield 57, 3) := by decide +kernel
theorem dX5_addStep_15 : decode cX5_addStep 15 = .ok (.istore_n 3, 1) := by decide +kernel
theorem dX5_addStep_16 : decode cX5_addStep 16 = .ok (.aload_n 0, 1) := by decide +kernel
theorem dX5_addStep_17 : decode cX5_addStep 17 = .ok (.dup, 1) := by decide +kernel
theorem dX5_addStep_18 : decode cX5_addStep 18 = .ok (.getfield 57, 3) := by decide +kernel
theorem dX5_addStep_21 : decode cX5_addStep 21 = .ok (.iconst 1, 1) := by decide +kernel
theorem dX5_addStep_22 : decode cX5_addStep 22 = .ok (.iadd, 1) := by decide +kernel
theorem dX5_addStep_23 : decode cX5_addStep 23 = .ok (.putfield 57, 3) := by decide +kernel
theorem dX5_addStep_26 : decode cX5_addStep 26 = .ok (.aload_n 0, 1) := by decide +kernel
theorem dX5_addStep_27 : decode cX5_addStep 27 = .ok (.getfield 9, 3) := by decide +kernel
theorem dX5_addStep_30 : decode cX5_addStep 30 = .ok (.iload_n 3, 1) := by decide +kernel
theorem dX5_addStep_31 : decode cX5_addStep 31 = .ok (.iload_n 1, 1) := by decide +kernel
theorem dX5_addStep_32 : decode cX5_addStep 32 = .ok (.iastore, 1) := by decide +kernel
theorem dX5_addStep_33 : decode cX5_addStep 33 = .ok (.aload_n 0, 1) := by decide +kernel
theorem dX5_addStep_34 : decode cX5_addStep 34 = .ok (.getfield 15, 3) := by decide +kernel
theorem dX5_addStep_37 : decode cX5_addStep 37 = .ok (.iload_n 3, 1) := by decide +kernel
theorem dX5_addStep_38 : decode cX5_addStep 38 = .ok (.iload_n 2, 1) := by decide +kernel
theorem dX5_addStep_39 : decode cX5_addStep 39 = .ok (.iastore, 1) := by decide +kernel
theorem dX5_addStep_40 : decode cX5_addStep 40 = .ok (.aload_n 0, 1) := by decide +kernel
theorem dX5_addStep_41 : decode cX5_addStep 41 = .ok (.getfield 18, 3) := by decide +kernel
theorem dX5_addStep_44 : decode cX5_addStep 44 = .ok (.iload_n 3, 1) := by decide +kernel
theorem dX5_addStep_45 : decode cX5_addStep 45 = .ok (.iconst (-1), 1) := by decide +kernel
theorem dX5_addStep_46 : decode cX5_addStep 46 = .ok (.iastore, 1) := by decide +kernel
theorem dX5_addStep_47 : decode cX5_addStep 47 = .ok (.aload_n 0, 1) := by decide +kernel
theorem dX5_addStep_48 : decode cX5_addStep 48 = .ok (.getfield 21, 3) := by decide +kernel
theorem dX5_addStep_51 : decode cX5_addStep 51 = .ok (.iload_n 3, 1) := by decide +kernel
theorem dX5_addStep_52 : decode cX5_addStep 52 = .ok (.aload_n 0, 1) := by decide +kernel
theorem dX5_addStep_53 : decode cX5_addStep 53 = .ok (.getfield 43, 3) := by decide +kernel
theorem dX5_addStep_56 : decode cX5_addStep 56 = .ok (.iload_n 2, 1) := by decide +kernel
theorem dX5_addStep_57 : decode cX5_addStep 57 = .ok (.iaload, 1) := by decide +kernel
theorem dX5_addStep_58 : decode cX5_addStep 58 = .ok (.iastore, 1) := by decide +kernel
theorem dX5_addStep_59 : decode cX5_addStep 59 = .ok (.aload_n 0, 1) := by decide +kernel
theorem dX5_addStep_60 : decode cX5_addStep 60 = .ok (.getfield 43, 3) := by decide +kernel
theorem dX5_addStep_63 : decode cX5_addStep 63 = .ok (.iload_n 2, 1) := by decide +kernel
theorem dX5_addStep_64 : decode cX5_addStep 64 = .ok (.iaload, 1) := by decide +kernel
theorem dX5_addStep_65 : decode cX5_addStep 65 = .ok (.iconst (-1), 1) := by decide +kernel
theorem dX5_addStep_66 : decode cX5_addStep 66 = .ok (.if_icmp .ne 13, 3) := by decide +kernel
theorem dX5_addStep_69 : decode cX5_addStep 69 = .ok (.aload_n 0, 1) := by decide +kernel
theorem dX5_addStep_70 : decode cX5_addStep 70 = .ok (.getfield 40, 3) := by decide +kernel
theorem dX5_addStep_73 : decode cX5_addStep 73 = .ok (.iload_n 2, 1) := by decide +kernel
theorem dX5_addStep_74 : decode cX5_addStep 74 = .ok (.iload_n 3, 1) := by decide +kernel
theorem dX5_addStep_75 : decode cX5_addStep 75 = .ok (.iastore, 1) := by decide +kernel
theorem dX5_addStep_76 : decode cX5_addStep 76 = .ok (.goto 15, 3) := by decide +kernel
theorem dX5_addStep_79 : decode cX5_addStep 79 = .ok (.aload_n 0, 1) := by decide +kernel
theorem dX5_addStep_80 : decode cX5_addStep 80 = .ok (.getfield 18, 3) := by decide +kernel
theorem dX5_addStep_83 : decode cX5_addStep 83 = .ok (.aload_n 0, 1) := by decide +kernel
theorem dX5_addStep_84 : decode cX5_addStep 84 = .ok (.getfield 43, 3) := by decide +kernel
theorem dX5_addStep_87 : decode cX5_addStep 87 = .ok (.iload_n 2, 1) := by decide +kernel
theorem dX5_addStep_88 : decode cX5_addStep 88 = .ok (.iaload, 1) := by decide +kernel
theorem dX5_addStep_89 : decode cX5_addStep 89 = .ok (.iload_n 3, 1) := by decide +kernel
theorem dX5_addStep_90 : decode cX5_addStep 90 = .ok (.iastore, 1) := by decide +kernel
theorem dX5_addStep_91 : decode cX5_addStep 91 = .ok (.aload_n 0, 1) := by decide +kernel
theorem dX5_addStep_92 : decode cX5_addStep 92 = .ok (.getfield 43, 3) := by decide +kernel
theorem dX5_addStep_95 : decode cX5_addStep 95 = .ok (.iload_n 2, 1) := by decide +kernel
theorem dX5_addStep_96 : decode cX5_addStep 96 = .ok (.iload_n 3, 1) := by decide +kernel
theorem dX5_addStep_97 : decode cX5_addStep 97 = .ok (.iastore, 1) := by decide +kernel
theorem dX5_addStep_98 : decode cX5_addStep 98 = .ok (.iload_n 3, 1) := by decide +kernel
theorem dX5_addStep_99 : decode cX5_addStep 99 = .ok (.ireturn, 1) := by decide +kernel
theorem dX5_setVars_0 : decode cX5_setVars 0 = .ok (.aload_n 0, 1) := by decide +kernel
theorem dX5_setVars_1 : decode cX5_setVars 1 = .ok (.getfield 24, 3) := by decide +kernel
theorem dX5_setVars_4 : decode cX5_setVars 4 = .ok (.iload_n 1, 1) := by decide +kernel
theorem dX5_setVars_5 : decode cX5_setVars 5 = .ok (.iload_n 2, 1) := by decide +kernel
theorem dX5_setVars_6 : decode cX5_setVars 6 = .ok (.iastore, 1) := by decide +kernel
theorem dX5_setVars_7 : decode cX5_setVars 7 = .ok (.aload_n 0, 1) := by decide +kernel
theorem dX5_setVars_8 : decode cX5_setVars 8 = .ok (.getfield 27, 3) := by decide +kernel
theorem dX5_setVars_11 : decode cX5_setVars 11 = .ok (.iload_n 1, 1) := by decide +kernel
theorem dX5_setVars_12 : decode cX5_setVars 12 = .ok (.iload_n 3, 1) := by decide +kernel
theorem dX5_setVars_13 : decode cX5_setVars 13 = .ok (.iastore, 1) := by decide +kernel
theorem dX5_setVars_14 : decode cX5_setVars 14 = .ok (.return_, 1) := by decide +kernel
theorem dX5_setCalled_0 : decode cX5_setCalled 0 = .ok (.aload_n 0, 1) := by decide +kernel
theorem dX5_setCalled_1 : decode cX5_setCalled 1 = .ok (.getfield 30, 3) := by decide +kernel
theorem dX5_setCalled_4 : decode cX5_setCalled 4 = .ok (.iload_n 1, 1) := by decide +kernel
theorem dX5_setCalled_5 : decode cX5_setCalled 5 = .ok (.lload_n 2, 1) := by decide +kernel
theorem dX5_setCalled_6 : decode cX5_setCalled 6 = .ok (.lastore, 1) := by decide +kernel
theorem dX5_setCalled_7 : decode cX5_setCalled 7 = .ok (.return_, 1) := by decide +kernel
theorem dX5_findCalled_0 : decode cX5_findCalled 0 = .ok (.iconst 0, 1) := by decide +kernel
theorem dX5_findCalled_1 : decode cX5_findCalled 1 = .ok (.istore_n 1, 1) := by decide +kernel
theorem dX5_findCalled_2 : decode cX5_findCalled 2 = .ok (.iload_n 1, 1) := by decide +kernel
theorem dX5_findCalled_3 : decode cX5_findCalled 3 = .ok (.aload_n 0, 1) := by decide +kernel
theorem dX5_findCalled_4 : decode cX5_findCalled 4 = .ok (.getfield 57, 3) := by decide +kernel
theorem dX5_findCalled_7 : decode cX5_findCalled 7 = .ok (.if_icmp .ge 59, 3) := by decide +kernel
theorem dX5_findCalled_10 : decode cX5_findCalled 10 = .ok (.aload_n 0, 1) := by decide +kernel
theorem dX5_findCalled_11 : decode cX5_findCalled 11 = .ok (.getfield 9, 3) := by decide +kernel
theorem dX5_findCalled_14 : decode cX5_findCalled 14 = .ok (.iload_n 1, 1) := by decide +kernel
theorem dX5_findCalled_15 : decode cX5_findCalled 15 = .ok (.iaload, 1) := by decide +kernel
theorem dX5_findCalled_16 : decode cX5_findCalled 16 = .ok (.bipush 6, 2) := by decide +kernel
theorem dX5_findCalled_18 : decode cX5_findCalled 18 = .ok (.if_icmp .eq 14, 3) := by decide +kernel
theorem dX5_findCalled_21 : decode cX5_findCalled 21 = .ok (.aload_n 0, 1) := by decide +kernel
theorem dX5_findCalled_22 : decode cX5_findCalled 22 = .ok (.getfield 9, 3) := by decide +kernel
theorem dX5_findCalled_25 : decode cX5_findCalled 25 = .ok (.iload_n 1, 1) := by decide +kernel
theorem dX5_findCalled_26 : decode cX5_findCalled 26 = .ok (.iaload, 1) := by decide +kernel
theorem dX5_findCalled_27 : decode cX5_findCalled 27 = .ok (.bipush 7, 2) := by decide +kernel
theorem dX5_findCalled_29 : decode cX5_findCalled 29 = .ok (.if_icmp .ne 31, 3) := by decide +kernel
theorem dX5_findCalled_32 : decode cX5_findCalled 32 = .ok (.aload_n 0, 1) := by decide +kernel
theorem dX5_findCalled_33 : decode cX5_findCalled 33 = .ok (.getfield 24, 3) := by decide +kernel
theorem dX5_findCalled_36 : decode cX5_findCalled 36 = .ok (.iload_n 1, 1) := by decide +kernel
theorem dX5_findCalled_37 : decode cX5_findCalled 37 = .ok (.aload_n 0, 1) := by decide +kernel
theorem dX5_findCalled_38 : decode cX5_findCalled 38 = .ok (.aload_n 0, 1) := by decide +kernel
theorem dX5_findCalled_39 : decode cX5_findCalled 39 = .ok (.getfield 30, 3) := by decide +kernel
theorem dX5_findCalled_42 : decode cX5_findCalled 42 = .ok (.iload_n 1, 1) := by decide +kernel
theorem dX5_findCalled_43 : decode cX5_findCalled 43 = .ok (.laload, 1) := by decide +kernel
theorem dX5_findCalled_44 : decode cX5_findCalled 44 = .ok (.invokevirtual 73, 3) := by decide +kernel
theorem dX5_findCalled_47 : decode cX5_findCalled 47 = .ok (.iastore, 1) := by decide +kernel
theorem dX5_findCalled_48 : decode cX5_findCalled 48 = .ok (.aload_n 0, 1) := by decide +kernel
theorem dX5_findCalled_49 : decode cX5_findCalled 49 = .ok (.getfield 24, 3) := by decide +kernel
theorem dX5_findCalled_52 : decode cX5_findCalled 52 = .ok (.iload_n 1, 1) := by decide +kernel
theorem dX5_findCalled_53 : decode cX5_findCalled 53 = .ok (.iaload, 1) := by decide +kernel
theorem dX5_findCalled_54 : decode cX5_findCalled 54 = .ok (.iconst (-1), 1) := by decide +kernel
theorem dX5_findCalled_55 : decode cX5_findCalled 55 = .ok (.if_icmp .ne 5, 3) := by decide +kernel
theorem dX5_findCalled_58 : decode cX5_findCalled 58 = .ok (.iconst 0, 1) := by decide +kernel
theorem dX5_findCalled_59 : decode cX5_findCalled 59 = .ok (.ireturn, 1) := by decide +kernel
theorem dX5_findCalled_60 : decode cX5_findCalled 60 = .ok (.iinc 1 1, 3) := by decide +kernel
theorem dX5_findCalled_63 : decode cX5_findCalled 63 = .ok (.goto (-61), 3) := by decide +kernel
theorem dX5_findCalled_66 : decode cX5_findCalled 66 = .ok (.iconst 1, 1) := by decide +kernel
theorem dX5_findCalled_67 : decode cX5_findCalled 67 = .ok (.ireturn, 1) := by decide +kernel
theorem dX5_addCode_0 : decode cX5_addCode 0 = .ok (.aload_n 0, 1) := by decide +kernel
theorem dX5_addCode_1 : decode cX5_addCode 1 = .ok (.getfield 64, 3) := by decide +kernel
theorem dX5_addCode_4 : decode cX5_addCode 4 = .ok (.aload_n 0, 1) := by decide +kernel
theorem dX5_addCode_5 : decode cX5_addCode 5 = .ok (.getfield 51, 3) := by decide +kernel
theorem dX5_addCode_8 : decode cX5_addCode 8 = .ok (.arraylength, 1) := by decide +kernel
theorem dX5_addCode_9 : decode cX5_addCode 9 = .ok (.if_icmp .ge 23, 3) := by decide +kernel
theorem dX5_addCode_12 : decode cX5_addCode 12 = .ok (.aload_n 0, 1) := by decide +kernel
theorem dX5_addCode_13 : decode cX5_addCode 13 = .ok (.getfield 51, 3) := by decide +kernel
theorem dX5_addCode_16 : decode cX5_addCode 16 = .ok (.aload_n 0, 1) := by decide +kernel
theorem dX5_addCode_17 : decode cX5_addCode 17 = .ok (.getfield 64, 3) := by decide +kernel
theorem dX5_addCode_20 : decode cX5_addCode 20 = .ok (.iload_n 1, 1) := by decide +kernel
theorem dX5_addCode_21 : decode cX5_addCode 21 = .ok (.iastore, 1) := by decide +kernel
theorem dX5_addCode_22 : decode cX5_addCode 22 = .ok (.aload_n 0, 1) := by decide +kernel
theorem dX5_addCode_23 : decode cX5_addCode 23 = .ok (.dup, 1) := by decide +kernel
theorem dX5_addCode_24 : decode cX5_addCode 24 = .ok (.getfield 64, 3) := by decide +kernel
theorem dX5_addCode_27 : decode cX5_addCode 27 = .ok (.iconst 1, 1) := by decide +kernel
theorem dX5_addCode_28 : decode cX5_addCode 28 = .ok (.iadd, 1) := by decide +kernel
theorem dX5_addCode_29 : decode cX5_addCode 29 = .ok (.putfield 64, 3) := by decide +kernel
theorem dX5_addCode_32 : decode cX5_addCode 32 = .ok (.return_, 1) := by decide +kernel
theorem dX5_beginSum_0 : decode cX5_beginSum 0 = .ok (.aload_n 0, 1) := by decide +kernel
theorem dX5_beginSum_1 : decode cX5_beginSum 1 = .ok (.getfield 34, 3) := by decide +kernel
theorem dX5_beginSum_4 : decode cX5_beginSum 4 = .ok (.iconst 2, 1) := by decide +kernel
theorem dX5_beginSum_5 : decode cX5_beginSum 5 = .ok (.iload_n 1, 1) := by decide +kernel
theorem dX5_beginSum_6 : decode cX5_beginSum 6 = .ok (.imul, 1) := by decide +kernel
theorem dX5_beginSum_7 : decode cX5_beginSum 7 = .ok (.iload_n 2, 1) := by decide +kernel
theorem dX5_beginSum_8 : decode cX5_beginSum 8 = .ok (.iadd, 1) := by decide +kernel
theorem dX5_beginSum_9 : decode cX5_beginSum 9 = .ok (.aload_n 0, 1) := by decide +kernel
theorem dX5_beginSum_10 : decode cX5_beginSum 10 = .ok (.getfield 64, 3) := by decide +kernel
theorem dX5_beginSum_13 : decode cX5_beginSum 13 = .ok (.iastore, 1) := by decide +kernel
theorem dX5_beginSum_14 : decode cX5_beginSum 14 = .ok (.return_, 1) := by decide +kernel
theorem dX5_endSum_0 : decode cX5_endSum 0 = .ok (.aload_n 0, 1) := by decide +kernel
theorem dX5_endSum_1 : decode cX5_endSum 1 = .ok (.getfield 37, 3) := by decide +kernel
theorem dX5_endSum_4 : decode cX5_endSum 4 = .ok (.iconst 2, 1) := by decide +kernel
theorem dX5_endSum_5 : decode cX5_endSum 5 = .ok (.iload_n 1, 1) := by decide +kernel
theorem dX5_endSum_6 : decode cX5_endSum 6 = .ok (.imul, 1) := by decide +kernel
theorem dX5_endSum_7 : decode cX5_endSum 7 = .ok (.iload_n 2, 1) := by decide +kernel
theorem dX5_endSum_8 : decode cX5_endSum 8 = .ok (.iadd, 1) := by decide +kernel
theorem dX5_endSum_9 : decode cX5_endSum 9 = .ok (.aload_n 0, 1) := by decide +kernel
theorem dX5_endSum_10 : decode cX5_endSum 10 = .ok (.getfield 64, 3) := by decide +kernel
theorem dX5_endSum_13 : decode cX5_endSum 13 = .ok (.iastore, 1) := by decide +kernel
theorem dX5_endSum_14 : decode cX5_endSum 14 = .ok (.return_, 1) := by decide +kernel
theorem dX5_kindOf_0 : decode cX5_kindOf 0 = .ok (.aload_n 0, 1) := by decide +kernel
theorem dX5_kindOf_1 : decode cX5_kindOf 1 = .ok (.getfield 9, 3) := by decide +kernel
theorem dX5_kindOf_4 : decode cX5_kindOf 4 = .ok (.iload_n 1, 1) := by decide +kernel
theorem dX5_kindOf_5 : decode cX5_kindOf 5 = .ok (.iaload, 1) := by decide +kernel
theorem dX5_kindOf_6 : decode cX5_kindOf 6 = .ok (.ireturn, 1) := by decide +kernel
theorem dX5_bodyOf_0 : decode cX5_bodyOf 0 = .ok (.aload_n 0, 1) := by decide +kernel
theorem dX5_bodyOf_1 : decode cX5_bodyOf 1 = .ok (.getfield 15, 3) := by decide +kernel
theorem dX5_bodyOf_4 : decode cX5_bodyOf 4 = .ok (.iload_n 1, 1) := by decide +kernel
theorem dX5_bodyOf_5 : decode cX5_bodyOf 5 = .ok (.iaload, 1) := by decide +kernel
theorem dX5_bodyOf_6 : decode cX5_bodyOf 6 = .ok (.ireturn, 1) := by decide +kernel
theorem dX5_leftOf_0 : decode cX5_leftOf 0 = .ok (.aload_n 0, 1) := by decide +kernel
theorem dX5_leftOf_1 : decode cX5_leftOf 1 = .ok (.getfield 24, 3) := by decide +kernel
theorem dX5_leftOf_4 : decode cX5_leftOf 4 = .ok (.iload_n 1, 1) := by decide +kernel
theorem dX5_leftOf_5 : decode cX5_leftOf 5 = .ok (.iaload, 1) := by decide +kernel
theorem dX5_leftOf_6 : decode cX5_leftOf 6 = .ok (.ireturn, 1) := by decide +kernel
theorem dX5_rightOf_0 : decode cX5_rightOf 0 = .ok (.aload_n 0, 1) := by decide +kernel
theorem dX5_rightOf_1 : decode cX5_rightOf 1 = .ok (.getfield 27, 3) := by decide +kernel
theorem dX5_rightOf_4 : decode cX5_rightOf 4 = .ok (.iload_n 1, 1) := by decide +kernel
theorem dX5_rightOf_5 : decode cX5_rightOf 5 = .ok (.iaload, 1) := by decide +kernel
theorem dX5_rightOf_6 : decode cX5_rightOf 6 = .ok (.ireturn, 1) := by decide +kernel
theorem dX5_beginOf_0 : decode cX5_beginOf 0 = .ok (.aload_n 0, 1) := by decide +kernel
theorem dX5_beginOf_1 : decode cX5_beginOf 1 = .ok (.getfield 34, 3) := by decide +kernel
theorem dX5_beginOf_4 : decode cX5_beginOf 4 = .ok (.iconst 2, 1) := by decide +kernel
theorem dX5_beginOf_5 : decode cX5_beginOf 5 = .ok (.iload_n 1, 1) := by decide +kernel
theorem dX5_beginOf_6 : decode cX5_beginOf 6 = .ok (.imul, 1) := by decide +kernel
theorem dX5_beginOf_7 : decode cX5_beginOf 7 = .ok (.iload_n 2, 1) := by decide +kernel
theorem dX5_beginOf_8 : decode cX5_beginOf 8 = .ok (.iadd, 1) := by decide +kernel
theorem dX5_beginOf_9 : decode cX5_beginOf 9 = .ok (.iaload, 1) := by decide +kernel
theorem dX5_beginOf_10 : decode cX5_beginOf 10 = .ok (.ireturn, 1) := by decide +kernel
theorem dX5_endOf_0 : decode cX5_endOf 0 = .ok (.aload_n 0, 1) := by decide +kernel
theorem dX5_endOf_1 : decode cX5_endOf 1 = .ok (.getfield 37, 3) := by decide +kernel
theorem dX5_endOf_4 : decode cX5_endOf 4 = .ok (.iconst 2, 1) := by decide +kernel
theorem dX5_endOf_5 : decode cX5_endOf 5 = .ok (.iload_n 1, 1) := by decide +kernel
theorem dX5_endOf_6 : decode cX5_endOf 6 = .ok (.imul, 1) := by decide +kernel
theorem dX5_endOf_7 : decode cX5_endOf 7 = .ok (.iload_n 2, 1) := by decide +kernel
theorem dX5_endOf_8 : decode cX5_endOf 8 = .ok (.iadd, 1) := by decide +kernel
theorem dX5_endOf_9 : decode cX5_endOf 9 = .ok (.iaload, 1) := by decide +kernel
theorem dX5_endOf_10 : decode cX5_endOf 10 = .ok (.ireturn, 1) := by decide +kernel
theorem dX5_codeAt_0 : decode cX5_codeAt 0 = .ok (.aload_n 0, 1) := by decide +kernel
theorem dX5_codeAt_1 : decode cX5_codeAt 1 = .ok (.getfield 51, 3) := by decide +kernel
theorem dX5_codeAt_4 : decode cX5_codeAt 4 = .ok (.iload_n 1, 1) := by decide +kernel
theorem dX5_codeAt_5 : decode cX5_codeAt 5 = .ok (.iaload, 1) := by decide +kernel
theorem dX5_codeAt_6 : decode cX5_codeAt 6 = .ok (.ireturn, 1) := by decide +kernel
theorem dX5_startOf_0 : decode cX5_startOf 0 = .ok (.iload_n 2, 1) := by decide +kernel
theorem dX5_startOf_1 : decode cX5_startOf 1 = .ok (.ifCond .eq 12, 3) := by decide +kernel
theorem dX5_startOf_4 : decode cX5_startOf 4 = .ok (.aload_n 0, 1) := by decide +kernel
theorem dX5_startOf_5 : decode cX5_startOf 5 = .ok (.getfield 43, 3) := by decide +kernel
theorem dX5_startOf_8 : decode cX5_startOf 8 = .ok (.iload_n 1, 1) := by decide +kernel
theorem dX5_startOf_9 : decode cX5_startOf 9 = .ok (.iaload, 1) := by decide +kernel
theorem dX5_startOf_10 : decode cX5_startOf 10 = .ok (.goto 9, 3) := by decide +kernel
theorem dX5_startOf_13 : decode cX5_startOf 13 = .ok (.aload_n 0, 1) := by decide +kernel
theorem dX5_startOf_14 : decode cX5_startOf 14 = .ok (.getfield 40, 3) := by decide +kernel
theorem dX5_startOf_17 : decode cX5_startOf 17 = .ok (.iload_n 1, 1) := by decide +kernel
theorem dX5_startOf_18 : decode cX5_startOf 18 = .ok (.iaload, 1) := by decide +kernel
theorem dX5_startOf_19 : decode cX5_startOf 19 = .ok (.ireturn, 1) := by decide +kernel
theorem dX5_behind_0 : decode cX5_behind 0 = .ok (.iload_n 2, 1) := by decide +kernel
theorem dX5_behind_1 : decode cX5_behind 1 = .ok (.ifCond .eq 12, 3) := by decide +kernel
theorem dX5_behind_4 : decode cX5_behind 4 = .ok (.aload_n 0, 1) := by decide +kernel
theorem dX5_behind_5 : decode cX5_behind 5 = .ok (.getfield 21, 3) := by decide +kernel
theorem dX5_behind_8 : decode cX5_behind 8 = .ok (.iload_n 1, 1) := by decide +kernel
theorem dX5_behind_9 : decode cX5_behind 9 = .ok (.iaload, 1) := by decide +kernel
theorem dX5_behind_10 : decode cX5_behind 10 = .ok (.goto 9, 3) := by decide +kernel
theorem dX5_behind_13 : decode cX5_behind 13 = .ok (.aload_n 0, 1) := by decide +kernel
theorem dX5_behind_14 : decode cX5_behind 14 = .ok (.getfield 18, 3) := by decide +kernel
theorem dX5_behind_17 : decode cX5_behind 17 = .ok (.iload_n 1, 1) := by decide +kernel
theorem dX5_behind_18 : decode cX5_behind 18 = .ok (.iaload, 1) := by decide +kernel
theorem dX5_behind_19 : decode cX5_behind 19 = .ok (.ireturn, 1) := by decide +kernel
theorem dX6_init_0 : decode cX6_init 0 = .ok (.aload_n 0, 1) := by decide +kernel
theorem dX6_init_1 : decode cX6_init 1 = .ok (.invokespecial 3, 3) := by decide +kernel
theorem dX6_init_4 : decode cX6_init 4 = .ok (.aload_n 0, 1) := by decide +kernel
theorem dX6_init_5 : decode cX6_init 5 = .ok (.bipush 6, 2) := by decide +kernel
theorem dX6_init_7 : decode cX6_init 7 = .ok (.newarray .int, 2) := by decide +kernel
theorem dX6_init_9 : decode cX6_init 9 = .ok (.putfield 9, 3) := by decide +kernel
theorem dX6_init_12 : decode cX6_init 12 = .ok (.aload_n 0, 1) := by decide +kernel
theorem dX6_init_13 : decode cX6_init 13 = .ok (.bipush 7, 2) := by decide +kernel
theorem dX6_init_15 : decode cX6_init 15 = .ok (.newarray .int, 2) := by decide +kernel
theorem dX6_init_17 : decode cX6_init 17 = .ok (.putfield 15, 3) := by decide +kernel
theorem dX6_init_20 : decode cX6_init 20 = .ok (.aload_n 0, 1) := by decide +kernel
theorem dX6_init_21 : decode cX6_init 21 = .ok (.aload_n 1, 1) := by decide +kernel
theorem dX6_init_22 : decode cX6_init 22 = .ok (.putfield 18, 3) := by decide +kernel
theorem dX6_init_25 : decode cX6_init 25 = .ok (.aload_n 0, 1) := by decide +kernel
theorem dX6_init_26 : decode cX6_init 26 = .ok (.aload_n 2, 1) := by decide +kernel
theorem dX6_init_27 : decode cX6_init 27 = .ok (.putfield 22, 3) := by decide +kernel
theorem dX6_init_30 : decode cX6_init 30 = .ok (.return_, 1) := by decide +kernel
theorem dX6_readInto_0 : decode cX6_readInto 0 = .ok (.aload_n 0, 1) := by decide +kernel
theorem dX6_readInto_1 : decode cX6_readInto 1 = .ok (.aload_n 1, 1) := by decide +kernel
theorem dX6_readInto_2 : decode cX6_readInto 2 = .ok (.putfield 22, 3) := by decide +kernel
theorem dX6_readInto_5 : decode cX6_readInto 5 = .ok (.aload_n 0, 1) := by decide +kernel
theorem dX6_readInto_6 : decode cX6_readInto 6 = .ok (.getfield 22, 3) := by decide +kernel
theorem dX6_readInto_9 : decode cX6_readInto 9 = .ok (.invokevirtual 26, 3) := by decide +kernel
theorem dX6_readInto_12 : decode cX6_readInto 12 = .ok (.aload_n 0, 1) := by decide +kernel
theorem dX6_readInto_13 : decode cX6_readInto 13 = .ok (.iconst (-1), 1) := by decide +kernel
theorem dX6_readInto_14 : decode cX6_readInto 14 = .ok (.putfield 31, 3) := by decide +kernel
theorem dX6_readInto_17 : decode cX6_readInto 17 = .ok (.aload_n 0, 1) := by decide +kernel
theorem dX6_readInto_18 : decode cX6_readInto 18 = .ok (.iconst 0, 1) := by decide +kernel
theorem dX6_readInto_19 : decode cX6_readInto 19 = .ok (.putfield 35, 3) := by decide +kernel
theorem dX6_readInto_22 : decode cX6_readInto 22 = .ok (.aload_n 0, 1) := by decide +kernel
theorem dX6_readInto_23 : decode cX6_readInto 23 = .ok (.iconst 0, 1) := by decide +kernel
theorem dX6_readInto_24 : decode cX6_readInto 24 = .ok (.putfield 38, 3) := by decide +kernel
theorem dX6_readInto_27 : decode cX6_readInto 27 = .ok (.aload_n 0, 1) := by decide +kernel
theorem dX6_readInto_28 : decode cX6_readInto 28 = .ok (.getfield 18, 3) := by decide +kernel
theorem dX6_readInto_31 : decode cX6_readInto 31 = .ok (.invokevirtual 41, 3) := by decide +kernel
theorem dX6_readInto_34 : decode cX6_readInto 34 = .ok (.iconst 0, 1) := by decide +kernel
theorem dX6_readInto_35 : decode cX6_readInto 35 = .ok (.istore_n 2, 1) := by decide +kernel
theorem dX6_readInto_36 : decode cX6_readInto 36 = .ok (.iload_n 2, 1) := by decide +kernel
theorem dX6_readInto_37 : decode cX6_readInto 37 = .ok (.sipush 900, 3) := by decide +kernel
theorem dX6_readInto_40 : decode cX6_readInto 40 = .ok (.if_icmp .gt 91, 3) := by decide +kernel
theorem dX6_readInto_43 : decode cX6_readInto 43 = .ok (.aload_n 0, 1) := by decide +kernel
theorem dX6_readInto_44 : decode cX6_readInto 44 = .ok (.getfield 18, 3) := by decide +kernel
theorem dX6_readInto_47 : decode cX6_readInto 47 = .ok (.invokevirtual 46, 3) := by decide +kernel
theorem dX6_readInto_50 : decode cX6_readInto 50 = .ok (.ifCond .eq 81, 3) := by decide +kernel
theorem dX6_readInto_53 : decode cX6_readInto 53 = .ok (.aload_n 0, 1) := by decide +kernel
theorem dX6_readInto_54 : decode cX6_readInto 54 = .ok (.getfield 18, 3) := by decide +kernel
theorem dX6_readInto_57 : decode cX6_readInto 57 = .ok (.invokevirtual 50, 3) := by decide +kernel
theorem dX6_readInto_60 : decode cX6_readInto 60 = .ok (.ifCond .ne 71, 3) := by decide +kernel
theorem dX6_readInto_63 : decode cX6_readInto 63 = .ok (.aload_n 0, 1) := by decide +kernel
theorem dX6_readInto_64 : decode cX6_readInto 64 = .ok (.getfield 31, 3) := by decide +kernel
theorem dX6_readInto_67 : decode cX6_readInto 67 = .ok (.iconst (-1), 1) := by decide +kernel
theorem dX6_readInto_68 : decode cX6_readInto 68 = .ok (.if_icmp .ne 10, 3) := by decide +kernel
theorem dX6_readInto_71 : decode cX6_readInto 71 = .ok (.aload_n 0, 1) := by decide +kernel
theorem dX6_readInto_72 : decode cX6_readInto 72 = .ok (.invokevirtual 54, 3) := by decide +kernel
theorem dX6_readInto_75 : decode cX6_readInto 75 = .ok (.goto 50, 3) := by decide +kernel
theorem dX6_readInto_78 : decode cX6_readInto 78 = .ok (.aload_n 0, 1) := by decide +kernel
theorem dX6_readInto_79 : decode cX6_readInto 79 = .ok (.getfield 18, 3) := by decide +kernel
theorem dX6_readInto_82 : decode cX6_readInto 82 = .ok (.invokevirtual 57, 3) := by decide +kernel
theorem dX6_readInto_85 : decode cX6_readInto 85 = .ok (.ifCond .lt 22, 3) := by decide +kernel
theorem dX6_readInto_88 : decode cX6_readInto 88 = .ok (.aload_n 0, 1) := by decide +kernel
theorem dX6_readInto_89 : decode cX6_readInto 89 = .ok (.getfield 18, 3) := by decide +kernel
theorem dX6_readInto_92 : decode cX6_readInto 92 = .ok (.invokevirtual 57, 3) := by decide +kernel
theorem dX6_readInto_95 : decode cX6_readInto 95 = .ok (.bipush 7, 2) := by decide +kernel
theorem dX6_readInto_97 : decode cX6_readInto 97 = .ok (.if_icmp .gt 10, 3) := by decide +kernel
theorem dX6_readInto_100 : decode cX6_readInto 100 = .ok (.aload_n 0, 1) := by decide +kernel
theorem dX6_readInto_101 : decode cX6_readInto 101 = .ok (.invokevirtual 60, 3) := by decide +kernel
theorem dX6_readInto_104 : decode cX6_readInto 104 = .ok (.goto 21, 3) := by decide +kernel
theorem dX6_readInto_107 : decode cX6_readInto 107 = .ok (.aload_n 0, 1) := by decide +kernel
theorem dX6_readInto_108 : decode cX6_readInto 108 = .ok (.getfield 35, 3) := by decide +kernel
theorem dX6_readInto_111 : decode cX6_readInto 111 = .ok (.ifCond .le 10, 3) := by decide +kernel
theorem dX6_readInto_114 : decode cX6_readInto 114 = .ok (.aload_n 0, 1) := by decide +kernel
theorem dX6_readInto_115 : decode cX6_readInto 115 = .ok (.invokevirtual 63, 3) := by decide +kernel
theorem dX6_readInto_118 : decode cX6_readInto 118 = .ok (.goto 7, 3) := by decide +kernel
theorem dX6_readInto_121 : decode cX6_readInto 121 = .ok (.aload_n 0, 1) := by decide +kernel
theorem dX6_readInto_122 : decode cX6_readInto 122 = .ok (.invokevirtual 66, 3) := by decide +kernel
theorem dX6_readInto_125 : decode cX6_readInto 125 = .ok (.iinc 2 1, 3) := by decide +kernel
theorem dX6_readInto_128 : decode cX6_readInto 128 = .ok (.goto (-92), 3) := by decide +kernel
theorem dX6_readInto_131 : decode cX6_readInto 131 = .ok (.aload_n 0, 1) := by decide +kernel
theorem dX6_readInto_132 : decode cX6_readInto 132 = .ok (.getfield 31, 3) := by decide +kernel
theorem dX6_readInto_135 : decode cX6_readInto 135 = .ok (.iconst (-1), 1) := by decide +kernel
theorem dX6_readInto_136 : decode cX6_readInto 136 = .ok (.if_icmp .eq 11, 3) := by decide +kernel
theorem dX6_readInto_139 : decode cX6_readInto 139 = .ok (.aload_n 0, 1) := by decide +kernel
theorem dX6_readInto_140 : decode cX6_readInto 140 = .ok (.getfield 18, 3) := by decide +kernel
theorem dX6_readInto_143 : decode cX6_readInto 143 = .ok (.iconst 1, 1) := by decide +kernel
theorem dX6_readInto_144 : decode cX6_readInto 144 = .ok (.invokevirtual 69, 3) := by decide +kernel
theorem dX6_readInto_147 : decode cX6_readInto 147 = .ok (.aload_n 0, 1) := by decide +kernel
theorem dX6_readInto_148 : decode cX6_readInto 148 = .ok (.getfield 18, 3) := by decide +kernel
theorem dX6_readInto_151 : decode cX6_readInto 151 = .ok (.invokevirtual 50, 3) := by decide +kernel
theorem dX6_readInto_154 : decode cX6_readInto 154 = .ok (.ifCond .ne 21, 3) := by decide +kernel
theorem dX6_readInto_157 : decode cX6_readInto 157 = .ok (.aload_n 0, 1) := by decide +kernel
theorem dX6_readInto_158 : decode cX6_readInto 158 = .ok (.getfield 22, 3) := by decide +kernel
theorem dX6_readInto_161 : decode cX6_readInto 161 = .ok (.invokevirtual 73, 3) := by decide +kernel
theorem dX6_readInto_164 : decode cX6_readInto 164 = .ok (.ifCond .ne 11, 3) := by decide +kernel
theorem dX6_readInto_167 : decode cX6_readInto 167 = .ok (.aload_n 0, 1) := by decide +kernel
theorem dX6_readInto_168 : decode cX6_readInto 168 = .ok (.getfield 18, 3) := by decide +kernel
theorem dX6_readInto_171 : decode cX6_readInto 171 = .ok (.iconst 5, 1) := by decide +kernel
theorem dX6_readInto_172 : decode cX6_readInto 172 = .ok (.invokevirtual 69, 3) := by decide +kernel
theorem dX6_readInto_175 : decode cX6_readInto 175 = .ok (.aload_n 0, 1) := by decide +kernel
theorem dX6_readInto_176 : decode cX6_readInto 176 = .ok (.getfield 18, 3) := by decide +kernel
theorem dX6_readInto_179 : decode cX6_readInto 179 = .ok (.invokevirtual 50, 3) := by decide +kernel
theorem dX6_readInto_182 : decode cX6_readInto 182 = .ok (.ifCond .ne 7, 3) := by decide +kernel
theorem dX6_readInto_185 : decode cX6_readInto 185 = .ok (.iconst 1, 1) := by decide +kernel
theorem dX6_readInto_186 : decode cX6_readInto 186 = .ok (.goto 4, 3) := by decide +kernel
theorem dX6_readInto_189 : decode cX6_readInto 189 = .ok (.iconst 0, 1) := by decide +kernel
theorem dX6_readInto_190 : decode cX6_readInto 190 = .ok (.ireturn, 1) := by decide +kernel
theorem dX6_readHead_0 : decode cX6_readHead 0 = .ok (.aload_n 0, 1) := by decide +kernel
theorem dX6_readHead_1 : decode cX6_readHead 1 = .ok (.getfield 18, 3) := by decide +kernel
theorem dX6_readHead_4 : decode cX6_readHead 4 = .ok (.invokevirtual 57, 3) := by decide +kernel
theorem dX6_readHead_7 : decode cX6_readHead 7 = .ok (.bipush 8, 2) := by decide +kernel
theorem dX6_readHead_9 : decode cX6_readHead 9 = .ok (.if_icmp .ne 23, 3) := by decide +kernel
theorem dX6_readHead_12 : decode cX6_readHead 12 = .ok (.aload_n 0, 1) := by decide +kernel
theorem dX6_readHead_13 : decode cX6_readHead 13 = .ok (.getfield 22, 3) := by decide +kernel
theorem dX6_readHead_16 : decode cX6_readHead 16 = .ok (.invokevirtual 76, 3) := by decide +kernel
theorem dX6_readHead_19 : decode cX6_readHead 19 = .ok (.bipush 6, 2) := by decide +kernel
theorem dX6_readHead_21 : decode cX6_readHead 21 = .ok (.if_icmp .lt 11, 3) := by decide +kernel
theorem dX6_readHead_24 : decode cX6_readHead 24 = .ok (.aload_n 0, 1) := by decide +kernel
theorem dX6_readHead_25 : decode cX6_readHead 25 = .ok (.getfield 18, 3) := by decide +kernel
theorem dX6_readHead_28 : decode cX6_readHead 28 = .ok (.iconst 4, 1) := by decide +kernel
theorem dX6_readHead_29 : decode cX6_readHead 29 = .ok (.invokevirtual 69, 3) := by decide +kernel
theorem dX6_readHead_32 : decode cX6_readHead 32 = .ok (.aload_n 0, 1) := by decide +kernel
theorem dX6_readHead_33 : decode cX6_readHead 33 = .ok (.getfield 18, 3) := by decide +kernel
theorem dX6_readHead_36 : decode cX6_readHead 36 = .ok (.bipush 8, 2) := by decide +kernel
theorem dX6_readHead_38 : decode cX6_readHead 38 = .ok (.invokevirtual 79, 3) := by decide +kernel
theorem dX6_readHead_41 : decode cX6_readHead 41 = .ok (.aload_n 0, 1) := by decide +kernel
theorem dX6_readHead_42 : decode cX6_readHead 42 = .ok (.getfield 18, 3) := by decide +kernel
theorem dX6_readHead_45 : decode cX6_readHead 45 = .ok (.invokevirtual 82, 3) := by decide +kernel
theorem dX6_readHead_48 : decode cX6_readHead 48 = .ok (.lstore_n 1, 1) := by decide +kernel
theorem dX6_readHead_49 : decode cX6_readHead 49 = .ok (.aload_n 0, 1) := by decide +kernel
theorem dX6_readHead_50 : decode cX6_readHead 50 = .ok (.getfield 18, 3) := by decide +kernel
theorem dX6_readHead_53 : decode cX6_readHead 53 = .ok (.invokevirtual 86, 3) := by decide +kernel
theorem dX6_readHead_56 : decode cX6_readHead 56 = .ok (.ifCond .eq 23, 3) := by decide +kernel
theorem dX6_readHead_59 : decode cX6_readHead 59 = .ok (.aload_n 0, 1) := by decide +kernel
theorem dX6_readHead_60 : decode cX6_readHead 60 = .ok (.getfield 22, 3) := by decide +kernel
theorem dX6_readHead_63 : decode cX6_readHead 63 = .ok (.lload_n 1, 1) := by decide +kernel
theorem dX6_readHead_64 : decode cX6_readHead 64 = .ok (.invokevirtual 89, 3) := by decide +kernel
theorem dX6_readHead_67 : decode cX6_readHead 67 = .ok (.iconst (-1), 1) := by decide +kernel
theorem dX6_readHead_68 : decode cX6_readHead 68 = .ok (.if_icmp .eq 11, 3) := by decide +kernel
theorem dX6_readHead_71 : decode cX6_readHead 71 = .ok (.aload_n 0, 1) := by decide +kernel
theorem dX6_readHead_72 : decode cX6_readHead 72 = .ok (.getfield 18, 3) := by decide +kernel
theorem dX6_readHead_75 : decode cX6_readHead 75 = .ok (.iconst 3, 1) := by decide +kernel
theorem dX6_readHead_76 : decode cX6_readHead 76 = .ok (.invokevirtual 69, 3) := by decide +kernel
theorem dX6_readHead_79 : decode cX6_readHead 79 = .ok (.aload_n 0, 1) := by decide +kernel
theorem dX6_readHead_80 : decode cX6_readHead 80 = .ok (.getfield 18, 3) := by decide +kernel
theorem dX6_readHead_83 : decode cX6_readHead 83 = .ok (.invokevirtual 93, 3) := by decide +kernel
theorem dX6_readHead_86 : decode cX6_readHead 86 = .ok (.aload_n 0, 1) := by decide +kernel
theorem dX6_readHead_87 : decode cX6_readHead 87 = .ok (.getfield 18, 3) := by decide +kernel
theorem dX6_readHead_90 : decode cX6_readHead 90 = .ok (.bipush 9, 2) := by decide +kernel
theorem dX6_readHead_92 : decode cX6_readHead 92 = .ok (.invokevirtual 79, 3) := by decide +kernel
theorem dX6_readHead_95 : decode cX6_readHead 95 = .ok (.aload_n 0, 1) := by decide +kernel
theorem dX6_readHead_96 : decode cX6_readHead 96 = .ok (.getfield 18, 3) := by decide +kernel
theorem dX6_readHead_99 : decode cX6_readHead 99 = .ok (.invokevirtual 50, 3) := by decide +kernel
theorem dX6_readHead_102 : decode cX6_readHead 102 = .ok (.ifCond .ne 15, 3) := by decide +kernel
theorem dX6_readHead_105 : decode cX6_readHead 105 = .ok (.aload_n 0, 1) := by decide +kernel
theorem dX6_readHead_106 : decode cX6_readHead 106 = .ok (.aload_n 0, 1) := by decide +kernel
theorem dX6_readHead_107 : decode cX6_readHead 107 = .ok (.getfield 22, 3) := by decide +kernel
theorem dX6_readHead_110 : decode cX6_readHead 110 = .ok (.lload_n 1, 1) := by decide +kernel
theorem dX6_readHead_111 : decode cX6_readHead 111 = .ok (.invokevirtual 96, 3) := by decide +kernel
theorem dX6_readHead_114 : decode cX6_readHead 114 = .ok (.putfield 31, 3) := by decide +kernel
theorem dX6_readHead_117 : decode cX6_readHead 117 = .ok (.return_, 1) := by decide +kernel
theorem dX6_readTail_0 : decode cX6_readTail 0 = .ok (.aload_n 0, 1) := by decide +kernel
theorem dX6_readTail_1 : decode cX6_readTail 1 = .ok (.getfield 18, 3) := by decide +kernel
theorem dX6_readTail_4 : decode cX6_readTail 4 = .ok (.bipush 10, 2) := by decide +kernel
theorem dX6_readTail_6 : decode cX6_readTail 6 = .ok (.invokevirtual 79, 3) := by decide +kernel
theorem dX6_readTail_9 : decode cX6_readTail 9 = .ok (.aload_n 0, 1) := by decide +kernel
theorem dX6_readTail_10 : decode cX6_readTail 10 = .ok (.getfield 18, 3) := by decide +kernel
theorem dX6_readTail_13 : decode cX6_readTail 13 = .ok (.bipush 59, 2) := by decide +kernel
theorem dX6_readTail_15 : decode cX6_readTail 15 = .ok (.invokevirtual 99, 3) := by decide +kernel
theorem dX6_readTail_18 : decode cX6_readTail 18 = .ok (.aload_n 0, 1) := by decide +kernel
theorem dX6_readTail_19 : decode cX6_readTail 19 = .ok (.iconst (-1), 1) := by decide +kernel
theorem dX6_readTail_20 : decode cX6_readTail 20 = .ok (.putfield 31, 3) := by decide +kernel
theorem dX6_readTail_23 : decode cX6_readTail 23 = .ok (.return_, 1) := by decide +kernel
theorem dX6_readStep_0 : decode cX6_readStep 0 = .ok (.aload_n 0, 1) := by decide +kernel
theorem dX6_readStep_1 : decode cX6_readStep 1 = .ok (.getfield 18, 3) := by decide +kernel
theorem dX6_readStep_4 : decode cX6_readStep 4 = .ok (.invokevirtual 57, 3) := by decide +kernel
theorem dX6_readStep_7 : decode cX6_readStep 7 = .ok (.istore_n 1, 1) := by decide +kernel
theorem dX6_readStep_8 : decode cX6_readStep 8 = .ok (.iload_n 1, 1) := by decide +kernel
theorem dX6_readStep_9 : decode cX6_readStep 9 = .ok (.iconst 4, 1) := by decide +kernel
theorem dX6_readStep_10 : decode cX6_readStep 10 = .ok (.if_icmp .eq 8, 3) := by decide +kernel
theorem dX6_readStep_13 : decode cX6_readStep 13 = .ok (.iload_n 1, 1) := by decide +kernel
theorem dX6_readStep_14 : decode cX6_readStep 14 = .ok (.iconst 5, 1) := by decide +kernel
theorem dX6_readStep_15 : decode cX6_readStep 15 = .ok (.if_icmp .ne 7, 3) := by decide +kernel
theorem dX6_readStep_18 : decode cX6_readStep 18 = .ok (.iconst 1, 1) := by decide +kernel
theorem dX6_readStep_19 : decode cX6_readStep 19 = .ok (.goto 4, 3) := by decide +kernel
theorem dX6_readStep_22 : decode cX6_readStep 22 = .ok (.iconst 0, 1) := by decide +kernel
theorem dX6_readStep_23 : decode cX6_readStep 23 = .ok (.istore_n 2, 1) := by decide +kernel
theorem dX6_readStep_24 : decode cX6_readStep 24 = .ok (.aload_n 0, 1) := by decide +kernel
theorem dX6_readStep_25 : decode cX6_readStep 25 = .ok (.getfield 22, 3) := by decide +kernel
theorem dX6_readStep_28 : decode cX6_readStep 28 = .ok (.invokevirtual 102, 3) := by decide +kernel
theorem dX6_readStep_31 : decode cX6_readStep 31 = .ok (.bipush 60, 2) := by decide +kernel
theorem dX6_readStep_33 : decode cX6_readStep 33 = .ok (.if_icmp .ge 16, 3) := by decide +kernel
theorem dX6_readStep_36 : decode cX6_readStep 36 = .ok (.iload_n 2, 1) := by decide +kernel
theorem dX6_readStep_37 : decode cX6_readStep 37 = .ok (.ifCond .eq 21, 3) := by decide +kernel
theorem dX6_readStep_40 : decode cX6_readStep 40 = .ok (.aload_n 0, 1) := by decide +kernel
theorem dX6_readStep_41 : decode cX6_readStep 41 = .ok (.getfield 35, 3) := by decide +kernel
theorem dX6_readStep_44 : decode cX6_readStep 44 = .ok (.bipush 6, 2) := by decide +kernel
theorem dX6_readStep_46 : decode cX6_readStep 46 = .ok (.if_icmp .lt 12, 3) := by decide +kernel
theorem dX6_readStep_49 : decode cX6_readStep 49 = .ok (.aload_n 0, 1) := by decide +kernel
theorem dX6_readStep_50 : decode cX6_readStep 50 = .ok (.getfield 18, 3) := by decide +kernel
theorem dX6_readStep_53 : decode cX6_readStep 53 = .ok (.iconst 4, 1) := by decide +kernel
theorem dX6_readStep_54 : decode cX6_readStep 54 = .ok (.invokevirtual 69, 3) := by decide +kernel
theorem dX6_readStep_57 : decode cX6_readStep 57 = .ok (.return_, 1) := by decide +kernel
theorem dX6_readStep_58 : decode cX6_readStep 58 = .ok (.aload_n 0, 1) := by decide +kernel
theorem dX6_readStep_59 : decode cX6_readStep 59 = .ok (.getfield 22, 3) := by decide +kernel
theorem dX6_readStep_62 : decode cX6_readStep 62 = .ok (.iload_n 1, 1) := by decide +kernel
theorem dX6_readStep_63 : decode cX6_readStep 63 = .ok (.aload_n 0, 1) := by decide +kernel
theorem dX6_readStep_64 : decode cX6_readStep 64 = .ok (.getfield 31, 3) := by decide +kernel
theorem dX6_readStep_67 : decode cX6_readStep 67 = .ok (.invokevirtual 105, 3) := by decide +kernel
theorem dX6_readStep_70 : decode cX6_readStep 70 = .ok (.istore_n 3, 1) := by decide +kernel
theorem dX6_readStep_71 : decode cX6_readStep 71 = .ok (.aload_n 0, 1) := by decide +kernel
theorem dX6_readStep_72 : decode cX6_readStep 72 = .ok (.getfield 18, 3) := by decide +kernel
theorem dX6_readStep_75 : decode cX6_readStep 75 = .ok (.invokevirtual 109, 3) := by decide +kernel
theorem dX6_readStep_78 : decode cX6_readStep 78 = .ok (.iload_n 1, 1) := by decide +kernel
theorem dX6_readStep_79 : decode cX6_readStep 79 = .ok (.tableswitch 119 3 7 #[111, 33, 33, 86, 86], 33) := by decide +kernel
theorem dX6_readStep_112 : decode cX6_readStep 112 = .ok (.aload_n 0, 1) := by decide +kernel
theorem dX6_readStep_113 : decode cX6_readStep 113 = .ok (.iload_n 3, 1) := by decide +kernel
theorem dX6_readStep_114 : decode cX6_readStep 114 = .ok (.iconst 0, 1) := by decide +kernel
theorem dX6_readStep_115 : decode cX6_readStep 115 = .ok (.invokevirtual 112, 3) := by decide +kernel
theorem dX6_readStep_118 : decode cX6_readStep 118 = .ok (.aload_n 0, 1) := by decide +kernel
theorem dX6_readStep_119 : decode cX6_readStep 119 = .ok (.getfield 18, 3) := by decide +kernel
theorem dX6_readStep_122 : decode cX6_readStep 122 = .ok (.iload_n 1, 1) := by decide +kernel
theorem dX6_readStep_123 : decode cX6_readStep 123 = .ok (.iconst 4, 1) := by decide +kernel
theorem dX6_readStep_124 : decode cX6_readStep 124 = .ok (.if_icmp .ne 8, 3) := by decide +kernel
theorem dX6_readStep_127 : decode cX6_readStep 127 = .ok (.bipush 11, 2) := by decide +kernel
theorem dX6_readStep_129 : decode cX6_readStep 129 = .ok (.goto 5, 3) := by decide +kernel
theorem dX6_readStep_132 : decode cX6_readStep 132 = .ok (.bipush 14, 2) := by decide +kernel
theorem dX6_readStep_134 : decode cX6_readStep 134 = .ok (.invokevirtual 79, 3) := by decide +kernel
theorem dX6_readStep_137 : decode cX6_readStep 137 = .ok (.aload_n 0, 1) := by decide +kernel
theorem dX6_readStep_138 : decode cX6_readStep 138 = .ok (.getfield 9, 3) := by decide +kernel
theorem dX6_readStep_141 : decode cX6_readStep 141 = .ok (.aload_n 0, 1) := by decide +kernel
theorem dX6_readStep_142 : decode cX6_readStep 142 = .ok (.getfield 35, 3) := by decide +kernel
theorem dX6_readStep_145 : decode cX6_readStep 145 = .ok (.iload_n 3, 1) := by decide +kernel
theorem dX6_readStep_146 : decode cX6_readStep 146 = .ok (.iastore, 1) := by decide +kernel
theorem dX6_readStep_147 : decode cX6_readStep 147 = .ok (.aload_n 0, 1) := by decide +kernel
theorem dX6_readStep_148 : decode cX6_readStep 148 = .ok (.dup, 1) := by decide +kernel
theorem dX6_readStep_149 : decode cX6_readStep 149 = .ok (.getfield 35, 3) := by decide +kernel
theorem dX6_readStep_152 : decode cX6_readStep 152 = .ok (.iconst 1, 1) := by decide +kernel
theorem dX6_readStep_153 : decode cX6_readStep 153 = .ok (.iadd, 1) := by decide +kernel
theorem dX6_readStep_154 : decode cX6_readStep 154 = .ok (.putfield 35, 3) := by decide +kernel
theorem dX6_readStep_157 : decode cX6_readStep 157 = .ok (.aload_n 0, 1) := by decide +kernel
theorem dX6_readStep_158 : decode cX6_readStep 158 = .ok (.iconst 2, 1) := by decide +kernel
theorem dX6_readStep_159 : decode cX6_readStep 159 = .ok (.iload_n 3, 1) := by decide +kernel
theorem dX6_readStep_160 : decode cX6_readStep 160 = .ok (.imul, 1) := by decide +kernel
theorem dX6_readStep_161 : decode cX6_readStep 161 = .ok (.putfield 31, 3) := by decide +kernel
theorem dX6_readStep_164 : decode cX6_readStep 164 = .ok (.return_, 1) := by decide +kernel
theorem dX6_readStep_165 : decode cX6_readStep 165 = .ok (.aload_n 0, 1) := by decide +kernel
theorem dX6_readStep_166 : decode cX6_readStep 166 = .ok (.getfield 22, 3) := by decide +kernel
theorem dX6_readStep_169 : decode cX6_readStep 169 = .ok (.iload_n 3, 1) := by decide +kernel
theorem dX6_readStep_170 : decode cX6_readStep 170 = .ok (.aload_n 0, 1) := by decide +kernel
theorem dX6_readStep_171 : decode cX6_readStep 171 = .ok (.getfield 18, 3) := by decide +kernel
theorem dX6_readStep_174 : decode cX6_readStep 174 = .ok (.invokevirtual 82, 3) := by decide +kernel
theorem dX6_readStep_177 : decode cX6_readStep 177 = .ok (.invokevirtual 116, 3) := by decide +kernel
theorem dX6_readStep_180 : decode cX6_readStep 180 = .ok (.aload_n 0, 1) := by decide +kernel
theorem dX6_readStep_181 : decode cX6_readStep 181 = .ok (.getfield 18, 3) := by decide +kernel
theorem dX6_readStep_184 : decode cX6_readStep 184 = .ok (.invokevirtual 93, 3) := by decide +kernel
theorem dX6_readStep_187 : decode cX6_readStep 187 = .ok (.goto 16, 3) := by decide +kernel
theorem dX6_readStep_190 : decode cX6_readStep 190 = .ok (.aload_n 0, 1) := by decide +kernel
theorem dX6_readStep_191 : decode cX6_readStep 191 = .ok (.iload_n 3, 1) := by decide +kernel
theorem dX6_readStep_192 : decode cX6_readStep 192 = .ok (.invokevirtual 120, 3) := by decide +kernel
theorem dX6_readStep_195 : decode cX6_readStep 195 = .ok (.goto 8, 3) := by decide +kernel
theorem dX6_readStep_198 : decode cX6_readStep 198 = .ok (.aload_n 0, 1) := by decide +kernel
theorem dX6_readStep_199 : decode cX6_readStep 199 = .ok (.iload_n 3, 1) := by decide +kernel
theorem dX6_readStep_200 : decode cX6_readStep 200 = .ok (.invokevirtual 123, 3) := by decide +kernel
theorem dX6_readStep_203 : decode cX6_readStep 203 = .ok (.aload_n 0, 1) := by decide +kernel
theorem dX6_readStep_204 : decode cX6_readStep 204 = .ok (.getfield 18, 3) := by decide +kernel
theorem dX6_readStep_207 : decode cX6_readStep 207 = .ok (.bipush 59, 2) := by decide +kernel
theorem dX6_readStep_209 : decode cX6_readStep 209 = .ok (.invokevirtual 99, 3) := by decide +kernel
theorem dX6_readStep_212 : decode cX6_readStep 212 = .ok (.return_, 1) := by decide +kernel
theorem dX6_endBody_0 : decode cX6_endBody 0 = .ok (.aload_n 0, 1) := by decide +kernel
theorem dX6_endBody_1 : decode cX6_endBody 1 = .ok (.getfield 9, 3) := by decide +kernel
theorem dX6_endBody_4 : decode cX6_endBody 4 = .ok (.aload_n 0, 1) := by decide +kernel
theorem dX6_endBody_5 : decode cX6_endBody 5 = .ok (.getfield 35, 3) := by decide +kernel
theorem dX6_endBody_8 : decode cX6_endBody 8 = .ok (.iconst 1, 1) := by decide +kernel
theorem dX6_endBody_9 : decode cX6_endBody 9 = .ok (.isub, 1) := by decide +kernel
theorem dX6_endBody_10 : decode cX6_endBody 10 = .ok (.iaload, 1) := by decide +kernel
theorem dX6_endBody_11 : decode cX6_endBody 11 = .ok (.istore_n 1, 1) := by decide +kernel
theorem dX6_endBody_12 : decode cX6_endBody 12 = .ok (.aload_n 0, 1) := by decide +kernel
theorem dX6_endBody_13 : decode cX6_endBody 13 = .ok (.getfield 22, 3) := by decide +kernel
theorem dX6_endBody_16 : decode cX6_endBody 16 = .ok (.iload_n 1, 1) := by decide +kernel
theorem dX6_endBody_17 : decode cX6_endBody 17 = .ok (.invokevirtual 126, 3) := by decide +kernel
theorem dX6_endBody_20 : decode cX6_endBody 20 = .ok (.iconst 4, 1) := by decide +kernel
theorem dX6_endBody_21 : decode cX6_endBody 21 = .ok (.if_icmp .ne 7, 3) := by decide +kernel
theorem dX6_endBody_24 : decode cX6_endBody 24 = .ok (.iconst 1, 1) := by decide +kernel
theorem dX6_endBody_25 : decode cX6_endBody 25 = .ok (.goto 4, 3) := by decide +kernel
theorem dX6_endBody_28 : decode cX6_endBody 28 = .ok (.iconst 0, 1) := by decide +kernel
theorem dX6_endBody_29 : decode cX6_endBody 29 = .ok (.istore_n 2, 1) := by decide +kernel
theorem dX6_endBody_30 : decode cX6_endBody 30 = .ok (.aload_n 0, 1) := by decide +kernel
theorem dX6_endBody_31 : decode cX6_endBody 31 = .ok (.getfield 31, 3) := by decide +kernel
theorem dX6_endBody_34 : decode cX6_endBody 34 = .ok (.iconst 2, 1) := by decide +kernel
theorem dX6_endBody_35 : decode cX6_endBody 35 = .ok (.iload_n 1, 1) := by decide +kernel
theorem dX6_endBody_36 : decode cX6_endBody 36 = .ok (.imul, 1) := by decide +kernel
theorem dX6_endBody_37 : decode cX6_endBody 37 = .ok (.if_icmp .ne 31, 3) := by decide +kernel
theorem dX6_endBody_40 : decode cX6_endBody 40 = .ok (.aload_n 0, 1) := by decide +kernel
theorem dX6_endBody_41 : decode cX6_endBody 41 = .ok (.getfield 18, 3) := by decide +kernel
theorem dX6_endBody_44 : decode cX6_endBody 44 = .ok (.iload_n 2, 1) := by decide +kernel
theorem dX6_endBody_45 : decode cX6_endBody 45 = .ok (.ifCond .eq 8, 3) := by decide +kernel
theorem dX6_endBody_48 : decode cX6_endBody 48 = .ok (.bipush 12, 2) := by decide +kernel
theorem dX6_endBody_50 : decode cX6_endBody 50 = .ok (.goto 5, 3) := by decide +kernel
theorem dX6_endBody_53 : decode cX6_endBody 53 = .ok (.bipush 15, 2) := by decide +kernel
theorem dX6_endBody_55 : decode cX6_endBody 55 = .ok (.invokevirtual 79, 3) := by decide +kernel
theorem dX6_endBody_58 : decode cX6_endBody 58 = .ok (.aload_n 0, 1) := by decide +kernel
theorem dX6_endBody_59 : decode cX6_endBody 59 = .ok (.iconst 2, 1) := by decide +kernel
theorem dX6_endBody_60 : decode cX6_endBody 60 = .ok (.iload_n 1, 1) := by decide +kernel
theorem dX6_endBody_61 : decode cX6_endBody 61 = .ok (.imul, 1) := by decide +kernel
theorem dX6_endBody_62 : decode cX6_endBody 62 = .ok (.iconst 1, 1) := by decide +kernel
theorem dX6_endBody_63 : decode cX6_endBody 63 = .ok (.iadd, 1) := by decide +kernel
theorem dX6_endBody_64 : decode cX6_endBody 64 = .ok (.putfield 31, 3) := by decide +kernel
theorem dX6_endBody_67 : decode cX6_endBody 67 = .ok (.return_, 1) := by decide +kernel
theorem dX6_endBody_68 : decode cX6_endBody 68 = .ok (.aload_n 0, 1) := by decide +kernel
theorem dX6_endBody_69 : decode cX6_endBody 69 = .ok (.getfield 18, 3) := by decide +kernel
theorem dX6_endBody_72 : decode cX6_endBody 72 = .ok (.iload_n 2, 1) := by decide +kernel
theorem dX6_endBody_73 : decode cX6_endBody 73 = .ok (.ifCond .eq 8, 3) := by decide +kernel
theorem dX6_endBody_76 : decode cX6_endBody 76 = .ok (.bipush 13, 2) := by decide +kernel
theorem dX6_endBody_78 : decode cX6_endBody 78 = .ok (.goto 5, 3) := by decide +kernel
theorem dX6_endBody_81 : decode cX6_endBody 81 = .ok (.bipush 16, 2) := by decide +kernel
theorem dX6_endBody_83 : decode cX6_endBody 83 = .ok (.invokevirtual 79, 3) := by decide +kernel
theorem dX6_endBody_86 : decode cX6_endBody 86 = .ok (.aload_n 0, 1) := by decide +kernel
theorem dX6_endBody_87 : decode cX6_endBody 87 = .ok (.iload_n 1, 1) := by decide +kernel
theorem dX6_endBody_88 : decode cX6_endBody 88 = .ok (.iconst 1, 1) := by decide +kernel
theorem dX6_endBody_89 : decode cX6_endBody 89 = .ok (.invokevirtual 112, 3) := by decide +kernel
theorem dX6_endBody_92 : decode cX6_endBody 92 = .ok (.aload_n 0, 1) := by decide +kernel
theorem dX6_endBody_93 : decode cX6_endBody 93 = .ok (.getfield 18, 3) := by decide +kernel
theorem dX6_endBody_96 : decode cX6_endBody 96 = .ok (.bipush 59, 2) := by decide +kernel
theorem dX6_endBody_98 : decode cX6_endBody 98 = .ok (.invokevirtual 99, 3) := by decide +kernel
theorem dX6_endBody_101 : decode cX6_endBody 101 = .ok (.aload_n 0, 1) := by decide +kernel
theorem dX6_endBody_102 : decode cX6_endBody 102 = .ok (.dup, 1) := by decide +kernel
theorem dX6_endBody_103 : decode cX6_endBody 103 = .ok (.getfield 35, 3) := by decide +kernel
theorem dX6_endBody_106 : decode cX6_endBody 106 = .ok (.iconst 1, 1) := by decide +kernel
theorem dX6_endBody_107 : decode cX6_endBody 107 = .ok (.isub, 1) := by decide +kernel
theorem dX6_endBody_108 : decode cX6_endBody 108 = .ok (.putfield 35, 3) := by decide +kernel
theorem dX6_endBody_111 : decode cX6_endBody 111 = .ok (.aload_n 0, 1) := by decide +kernel
theorem dX6_endBody_112 : decode cX6_endBody 112 = .ok (.aload_n 0, 1) := by decide +kernel
theorem dX6_endBody_113 : decode cX6_endBody 113 = .ok (.getfield 22, 3) := by decide +kernel
theorem dX6_endBody_116 : decode cX6_endBody 116 = .ok (.iload_n 1, 1) := by decide +kernel
theorem dX6_endBody_117 : decode cX6_endBody 117 = .ok (.invokevirtual 130, 3) := by decide +kernel
theorem dX6_endBody_120 : decode cX6_endBody 120 = .ok (.putfield 31, 3) := by decide +kernel
theorem dX6_endBody_123 : decode cX6_endBody 123 = .ok (.return_, 1) := by decide +kernel
theorem dX6_readSwap_0 : decode cX6_readSwap 0 = .ok (.aload_n 0, 1) := by decide +kernel
theorem dX6_readSwap_1 : decode cX6_readSwap 1 = .ok (.invokevirtual 133, 3) := by decide +kernel
theorem dX6_readSwap_4 : decode cX6_readSwap 4 = .ok (.istore_n 2, 1) := by decide +kernel
theorem dX6_readSwap_5 : decode cX6_readSwap 5 = .ok (.aload_n 0, 1) := by decide +kernel
theorem dX6_readSwap_6 : decode cX6_readSwap 6 = .ok (.iload_n 2, 1) := by decide +kernel
theorem dX6_readSwap_7 : decode cX6_readSwap 7 = .ok (.bipush 10, 2) := by decide +kernel
theorem dX6_readSwap_9 : decode cX6_readSwap 9 = .ok (.if_icmp .lt 9, 3) := by decide +kernel
theorem dX6_readSwap_12 : decode cX6_readSwap 12 = .ok (.sipush 256, 3) := by decide +kernel
theorem dX6_readSwap_15 : decode cX6_readSwap 15 = .ok (.goto 6, 3) := by decide +kernel
theorem dX6_readSwap_18 : decode cX6_readSwap 18 = .ok (.iconst 1, 1) := by decide +kernel
theorem dX6_readSwap_19 : decode cX6_readSwap 19 = .ok (.iload_n 2, 1) := by decide +kernel
theorem dX6_readSwap_20 : decode cX6_readSwap 20 = .ok (.ishl, 1) := by decide +kernel
theorem dX6_readSwap_21 : decode cX6_readSwap 21 = .ok (.putfield 38, 3) := by decide +kernel
theorem dX6_readSwap_24 : decode cX6_readSwap 24 = .ok (.iload_n 2, 1) := by decide +kernel
theorem dX6_readSwap_25 : decode cX6_readSwap 25 = .ok (.bipush 20, 2) := by decide +kernel
theorem dX6_readSwap_27 : decode cX6_readSwap 27 = .ok (.if_icmp .lt 18, 3) := by decide +kernel
theorem dX6_readSwap_30 : decode cX6_readSwap 30 = .ok (.aload_n 0, 1) := by decide +kernel
theorem dX6_readSwap_31 : decode cX6_readSwap 31 = .ok (.dup, 1) := by decide +kernel
theorem dX6_readSwap_32 : decode cX6_readSwap 32 = .ok (.getfield 38, 3) := by decide +kernel
theorem dX6_readSwap_35 : decode cX6_readSwap 35 = .ok (.iconst 1, 1) := by decide +kernel
theorem dX6_readSwap_36 : decode cX6_readSwap 36 = .ok (.iload_n 2, 1) := by decide +kernel
theorem dX6_readSwap_37 : decode cX6_readSwap 37 = .ok (.bipush 20, 2) := by decide +kernel
theorem dX6_readSwap_39 : decode cX6_readSwap 39 = .ok (.isub, 1) := by decide +kernel
theorem dX6_readSwap_40 : decode cX6_readSwap 40 = .ok (.ishl, 1) := by decide +kernel
theorem dX6_readSwap_41 : decode cX6_readSwap 41 = .ok (.ior, 1) := by decide +kernel
theorem dX6_readSwap_42 : decode cX6_readSwap 42 = .ok (.putfield 38, 3) := by decide +kernel
theorem dX6_readSwap_45 : decode cX6_readSwap 45 = .ok (.aload_n 0, 1) := by decide +kernel
theorem dX6_readSwap_46 : decode cX6_readSwap 46 = .ok (.invokevirtual 133, 3) := by decide +kernel
theorem dX6_readSwap_49 : decode cX6_readSwap 49 = .ok (.istore_n 3, 1) := by decide +kernel
theorem dX6_readSwap_50 : decode cX6_readSwap 50 = .ok (.aload_n 0, 1) := by decide +kernel
theorem dX6_readSwap_51 : decode cX6_readSwap 51 = .ok (.iconst 0, 1) := by decide +kernel
theorem dX6_readSwap_52 : decode cX6_readSwap 52 = .ok (.putfield 38, 3) := by decide +kernel
theorem dX6_readSwap_55 : decode cX6_readSwap 55 = .ok (.aload_n 0, 1) := by decide +kernel
theorem dX6_readSwap_56 : decode cX6_readSwap 56 = .ok (.getfield 22, 3) := by decide +kernel
theorem dX6_readSwap_59 : decode cX6_readSwap 59 = .ok (.iload_n 1, 1) := by decide +kernel
theorem dX6_readSwap_60 : decode cX6_readSwap 60 = .ok (.iload_n 2, 1) := by decide +kernel
theorem dX6_readSwap_61 : decode cX6_readSwap 61 = .ok (.iload_n 3, 1) := by decide +kernel
theorem dX6_readSwap_62 : decode cX6_readSwap 62 = .ok (.invokevirtual 136, 3) := by decide +kernel
theorem dX6_readSwap_65 : decode cX6_readSwap 65 = .ok (.return_, 1) := by decide +kernel
theorem dX6_readChange_0 : decode cX6_readChange 0 = .ok (.aload_n 0, 1) := by decide +kernel
theorem dX6_readChange_1 : decode cX6_readChange 1 = .ok (.invokevirtual 133, 3) := by decide +kernel
theorem dX6_readChange_4 : decode cX6_readChange 4 = .ok (.istore_n 2, 1) := by decide +kernel
theorem dX6_readChange_5 : decode cX6_readChange 5 = .ok (.aload_n 0, 1) := by decide +kernel
theorem dX6_readChange_6 : decode cX6_readChange 6 = .ok (.getfield 22, 3) := by decide +kernel
theorem dX6_readChange_9 : decode cX6_readChange 9 = .ok (.iload_n 1, 1) := by decide +kernel
theorem dX6_readChange_10 : decode cX6_readChange 10 = .ok (.iload_n 2, 1) := by decide +kernel
theorem dX6_readChange_11 : decode cX6_readChange 11 = .ok (.iload_n 2, 1) := by decide +kernel
theorem dX6_readChange_12 : decode cX6_readChange 12 = .ok (.invokevirtual 136, 3) := by decide +kernel
theorem dX6_readChange_15 : decode cX6_readChange 15 = .ok (.aload_n 0, 1) := by decide +kernel
theorem dX6_readChange_16 : decode cX6_readChange 16 = .ok (.iload_n 2, 1) := by decide +kernel
theorem dX6_readChange_17 : decode cX6_readChange 17 = .ok (.bipush 10, 2) := by decide +kernel
theorem dX6_readChange_19 : decode cX6_readChange 19 = .ok (.if_icmp .lt 9, 3) := by decide +kernel
theorem dX6_readChange_22 : decode cX6_readChange 22 = .ok (.sipush 256, 3) := by decide +kernel
theorem dX6_readChange_25 : decode cX6_readChange 25 = .ok (.goto 6, 3) := by decide +kernel
theorem dX6_readChange_28 : decode cX6_readChange 28 = .ok (.iconst 1, 1) := by decide +kernel
theorem dX6_readChange_29 : decode cX6_readChange 29 = .ok (.iload_n 2, 1) := by decide +kernel
theorem dX6_readChange_30 : decode cX6_readChange 30 = .ok (.ishl, 1) := by decide +kernel
theorem dX6_readChange_31 : decode cX6_readChange 31 = .ok (.putfield 38, 3) := by decide +kernel
theorem dX6_readChange_34 : decode cX6_readChange 34 = .ok (.aload_n 0, 1) := by decide +kernel
theorem dX6_readChange_35 : decode cX6_readChange 35 = .ok (.getfield 22, 3) := by decide +kernel
theorem dX6_readChange_38 : decode cX6_readChange 38 = .ok (.iload_n 1, 1) := by decide +kernel
theorem dX6_readChange_39 : decode cX6_readChange 39 = .ok (.iconst 0, 1) := by decide +kernel
theorem dX6_readChange_40 : decode cX6_readChange 40 = .ok (.invokevirtual 140, 3) := by decide +kernel
theorem dX6_readChange_43 : decode cX6_readChange 43 = .ok (.aload_n 0, 1) := by decide +kernel
theorem dX6_readChange_44 : decode cX6_readChange 44 = .ok (.invokevirtual 143, 3) := by decide +kernel
theorem dX6_readChange_47 : decode cX6_readChange 47 = .ok (.aload_n 0, 1) := by decide +kernel
theorem dX6_readChange_48 : decode cX6_readChange 48 = .ok (.getfield 22, 3) := by decide +kernel
theorem dX6_readChange_51 : decode cX6_readChange 51 = .ok (.iload_n 1, 1) := by decide +kernel
theorem dX6_readChange_52 : decode cX6_readChange 52 = .ok (.iconst 0, 1) := by decide +kernel
theorem dX6_readChange_53 : decode cX6_readChange 53 = .ok (.invokevirtual 146, 3) := by decide +kernel
theorem dX6_readChange_56 : decode cX6_readChange 56 = .ok (.aload_n 0, 1) := by decide +kernel
theorem dX6_readChange_57 : decode cX6_readChange 57 = .ok (.iconst 0, 1) := by decide +kernel
theorem dX6_readChange_58 : decode cX6_readChange 58 = .ok (.putfield 38, 3) := by decide +kernel
theorem dX6_readChange_61 : decode cX6_readChange 61 = .ok (.return_, 1) := by decide +kernel
theorem dX6_readTest_0 : decode cX6_readTest 0 = .ok (.aload_n 0, 1) := by decide +kernel
theorem dX6_readTest_1 : decode cX6_readTest 1 = .ok (.getfield 22, 3) := by decide +kernel
theorem dX6_readTest_4 : decode cX6_readTest 4 = .ok (.iload_n 1, 1) := by decide +kernel
theorem dX6_readTest_5 : decode cX6_readTest 5 = .ok (.iload_n 2, 1) := by decide +kernel
theorem dX6_readTest_6 : decode cX6_readTest 6 = .ok (.invokevirtual 140, 3) := by decide +kernel
theorem dX6_readTest_9 : decode cX6_readTest 9 = .ok (.aload_n 0, 1) := by decide +kernel
theorem dX6_readTest_10 : decode cX6_readTest 10 = .ok (.invokevirtual 143, 3) := by decide +kernel
theorem dX6_readTest_13 : decode cX6_readTest 13 = .ok (.aload_n 0, 1) := by decide +kernel
theorem dX6_readTest_14 : decode cX6_readTest 14 = .ok (.getfield 18, 3) := by decide +kernel
theorem dX6_readTest_17 : decode cX6_readTest 17 = .ok (.invokevirtual 46, 3) := by decide +kernel
theorem dX6_readTest_20 : decode cX6_readTest 20 = .ok (.istore_n 3, 1) := by decide +kernel
theorem dX6_readTest_21 : decode cX6_readTest 21 = .ok (.iload_n 3, 1) := by decide +kernel
theorem dX6_readTest_22 : decode cX6_readTest 22 = .ok (.bipush 61, 2) := by decide +kernel
theorem dX6_readTest_24 : decode cX6_readTest 24 = .ok (.if_icmp .eq 21, 3) := by decide +kernel
theorem dX6_readTest_27 : decode cX6_readTest 27 = .ok (.iload_n 3, 1) := by decide +kernel
theorem dX6_readTest_28 : decode cX6_readTest 28 = .ok (.bipush 60, 2) := by decide +kernel
theorem dX6_readTest_30 : decode cX6_readTest 30 = .ok (.if_icmp .eq 15, 3) := by decide +kernel
theorem dX6_readTest_33 : decode cX6_readTest 33 = .ok (.iload_n 3, 1) := by decide +kernel
theorem dX6_readTest_34 : decode cX6_readTest 34 = .ok (.bipush 62, 2) := by decide +kernel
theorem dX6_readTest_36 : decode cX6_readTest 36 = .ok (.if_icmp .eq 9, 3) := by decide +kernel
theorem dX6_readTest_39 : decode cX6_readTest 39 = .ok (.iload_n 3, 1) := by decide +kernel
theorem dX6_readTest_40 : decode cX6_readTest 40 = .ok (.bipush 33, 2) := by decide +kernel
theorem dX6_readTest_42 : decode cX6_readTest 42 = .ok (.if_icmp .ne 13, 3) := by decide +kernel
theorem dX6_readTest_45 : decode cX6_readTest 45 = .ok (.aload_n 0, 1) := by decide +kernel
theorem dX6_readTest_46 : decode cX6_readTest 46 = .ok (.getfield 18, 3) := by decide +kernel
theorem dX6_readTest_49 : decode cX6_readTest 49 = .ok (.invokevirtual 109, 3) := by decide +kernel
theorem dX6_readTest_52 : decode cX6_readTest 52 = .ok (.goto 11, 3) := by decide +kernel
theorem dX6_readTest_55 : decode cX6_readTest 55 = .ok (.aload_n 0, 1) := by decide +kernel
theorem dX6_readTest_56 : decode cX6_readTest 56 = .ok (.getfield 18, 3) := by decide +kernel
theorem dX6_readTest_59 : decode cX6_readTest 59 = .ok (.iconst 1, 1) := by decide +kernel
theorem dX6_readTest_60 : decode cX6_readTest 60 = .ok (.invokevirtual 69, 3) := by decide +kernel
theorem dX6_readTest_63 : decode cX6_readTest 63 = .ok (.aload_n 0, 1) := by decide +kernel
theorem dX6_readTest_64 : decode cX6_readTest 64 = .ok (.invokevirtual 143, 3) := by decide +kernel
theorem dX6_readTest_67 : decode cX6_readTest 67 = .ok (.aload_n 0, 1) := by decide +kernel
theorem dX6_readTest_68 : decode cX6_readTest 68 = .ok (.getfield 22, 3) := by decide +kernel
theorem dX6_readTest_71 : decode cX6_readTest 71 = .ok (.iload_n 3, 1) := by decide +kernel
theorem dX6_readTest_72 : decode cX6_readTest 72 = .ok (.ineg, 1) := by decide +kernel
theorem dX6_readTest_73 : decode cX6_readTest 73 = .ok (.invokevirtual 149, 3) := by decide +kernel
theorem dX6_readTest_76 : decode cX6_readTest 76 = .ok (.aload_n 0, 1) := by decide +kernel
theorem dX6_readTest_77 : decode cX6_readTest 77 = .ok (.getfield 22, 3) := by decide +kernel
theorem dX6_readTest_80 : decode cX6_readTest 80 = .ok (.iload_n 1, 1) := by decide +kernel
theorem dX6_readTest_81 : decode cX6_readTest 81 = .ok (.iload_n 2, 1) := by decide +kernel
theorem dX6_readTest_82 : decode cX6_readTest 82 = .ok (.invokevirtual 146, 3) := by decide +kernel
theorem dX6_readTest_85 : decode cX6_readTest 85 = .ok (.return_, 1) := by decide +kernel
theorem dX6_readSum_0 : decode cX6_readSum 0 = .ok (.aload_n 0, 1) := by decide +kernel
theorem dX6_readSum_1 : decode cX6_readSum 1 = .ok (.iconst 0, 1) := by decide +kernel
theorem dX6_readSum_2 : decode cX6_readSum 2 = .ok (.putfield 152, 3) := by decide +kernel
theorem dX6_readSum_5 : decode cX6_readSum 5 = .ok (.aload_n 0, 1) := by decide +kernel
theorem dX6_readSum_6 : decode cX6_readSum 6 = .ok (.iconst 0, 1) := by decide +kernel
theorem dX6_readSum_7 : decode cX6_readSum 7 = .ok (.putfield 155, 3) := by decide +kernel
theorem dX6_readSum_10 : decode cX6_readSum 10 = .ok (.aload_n 0, 1) := by decide +kernel
theorem dX6_readSum_11 : decode cX6_readSum 11 = .ok (.getfield 15, 3) := by decide +kernel
theorem dX6_readSum_14 : decode cX6_readSum 14 = .ok (.iconst 0, 1) := by decide +kernel
theorem dX6_readSum_15 : decode cX6_readSum 15 = .ok (.iconst 0, 1) := by decide +kernel
theorem dX6_readSum_16 : decode cX6_readSum 16 = .ok (.iastore, 1) := by decide +kernel
theorem dX6_readSum_17 : decode cX6_readSum 17 = .ok (.iconst 1, 1) := by decide +kernel
theorem dX6_readSum_18 : decode cX6_readSum 18 = .ok (.istore_n 1, 1) := by decide +kernel
theorem dX6_readSum_19 : decode cX6_readSum 19 = .ok (.iconst 0, 1) := by decide +kernel
theorem dX6_readSum_20 : decode cX6_readSum 20 = .ok (.istore_n 2, 1) := by decide +kernel
theorem dX6_readSum_21 : decode cX6_readSum 21 = .ok (.iload_n 2, 1) := by decide +kernel
theorem dX6_readSum_22 : decode cX6_readSum 22 = .ok (.sipush 900, 3) := by decide +kernel
theorem dX6_readSum_25 : decode cX6_readSum 25 = .ok (.if_icmp .gt 91, 3) := by decide +kernel
theorem dX6_readSum_28 : decode cX6_readSum 28 = .ok (.iload_n 1, 1) := by decide +kernel
theorem dX6_readSum_29 : decode cX6_readSum 29 = .ok (.ifCond .eq 87, 3) := by decide +kernel
theorem dX6_readSum_32 : decode cX6_readSum 32 = .ok (.aload_n 0, 1) := by decide +kernel
theorem dX6_readSum_33 : decode cX6_readSum 33 = .ok (.getfield 18, 3) := by decide +kernel
theorem dX6_readSum_36 : decode cX6_readSum 36 = .ok (.invokevirtual 46, 3) := by decide +kernel
theorem dX6_readSum_39 : decode cX6_readSum 39 = .ok (.bipush 40, 2) := by decide +kernel
theorem dX6_readSum_41 : decode cX6_readSum 41 = .ok (.if_icmp .ne 10, 3) := by decide +kernel
theorem dX6_readSum_44 : decode cX6_readSum 44 = .ok (.aload_n 0, 1) := by decide +kernel
theorem dX6_readSum_45 : decode cX6_readSum 45 = .ok (.invokevirtual 158, 3) := by decide +kernel
theorem dX6_readSum_48 : decode cX6_readSum 48 = .ok (.goto 62, 3) := by decide +kernel
theorem dX6_readSum_51 : decode cX6_readSum 51 = .ok (.aload_n 0, 1) := by decide +kernel
theorem dX6_readSum_52 : decode cX6_readSum 52 = .ok (.invokevirtual 161, 3) := by decide +kernel
theorem dX6_readSum_55 : decode cX6_readSum 55 = .ok (.aload_n 0, 1) := by decide +kernel
theorem dX6_readSum_56 : decode cX6_readSum 56 = .ok (.getfield 18, 3) := by decide +kernel
theorem dX6_readSum_59 : decode cX6_readSum 59 = .ok (.invokevirtual 46, 3) := by decide +kernel
theorem dX6_readSum_62 : decode cX6_readSum 62 = .ok (.iconst 2, 1) := by decide +kernel
theorem dX6_readSum_63 : decode cX6_readSum 63 = .ok (.if_icmp .ne 27, 3) := by decide +kernel
theorem dX6_readSum_66 : decode cX6_readSum 66 = .ok (.aload_n 0, 1) := by decide +kernel
theorem dX6_readSum_67 : decode cX6_readSum 67 = .ok (.getfield 22, 3) := by decide +kernel
theorem dX6_readSum_70 : decode cX6_readSum 70 = .ok (.aload_n 0, 1) := by decide +kernel
theorem dX6_readSum_71 : decode cX6_readSum 71 = .ok (.getfield 18, 3) := by decide +kernel
theorem dX6_readSum_74 : decode cX6_readSum 74 = .ok (.invokevirtual 164, 3) := by decide +kernel
theorem dX6_readSum_77 : decode cX6_readSum 77 = .ok (.invokevirtual 149, 3) := by decide +kernel
theorem dX6_readSum_80 : decode cX6_readSum 80 = .ok (.aload_n 0, 1) := by decide +kernel
theorem dX6_readSum_81 : decode cX6_readSum 81 = .ok (.getfield 18, 3) := by decide +kernel
theorem dX6_readSum_84 : decode cX6_readSum 84 = .ok (.invokevirtual 109, 3) := by decide +kernel
theorem dX6_readSum_87 : decode cX6_readSum 87 = .ok (.goto 18, 3) := by decide +kernel
theorem dX6_readSum_90 : decode cX6_readSum 90 = .ok (.aload_n 0, 1) := by decide +kernel
theorem dX6_readSum_91 : decode cX6_readSum 91 = .ok (.getfield 22, 3) := by decide +kernel
theorem dX6_readSum_94 : decode cX6_readSum 94 = .ok (.sipush 10000, 3) := by decide +kernel
theorem dX6_readSum_97 : decode cX6_readSum 97 = .ok (.aload_n 0, 1) := by decide +kernel
theorem dX6_readSum_98 : decode cX6_readSum 98 = .ok (.invokevirtual 133, 3) := by decide +kernel
theorem dX6_readSum_101 : decode cX6_readSum 101 = .ok (.iadd, 1) := by decide +kernel
theorem dX6_readSum_102 : decode cX6_readSum 102 = .ok (.invokevirtual 149, 3) := by decide +kernel
theorem dX6_readSum_105 : decode cX6_readSum 105 = .ok (.aload_n 0, 1) := by decide +kernel
theorem dX6_readSum_106 : decode cX6_readSum 106 = .ok (.invokevirtual 167, 3) := by decide +kernel
theorem dX6_readSum_109 : decode cX6_readSum 109 = .ok (.istore_n 1, 1) := by decide +kernel
theorem dX6_readSum_110 : decode cX6_readSum 110 = .ok (.iinc 2 1, 3) := by decide +kernel
theorem dX6_readSum_113 : decode cX6_readSum 113 = .ok (.goto (-92), 3) := by decide +kernel
theorem dX6_readSum_116 : decode cX6_readSum 116 = .ok (.return_, 1) := by decide +kernel
theorem dX6_openBracket_0 : decode cX6_openBracket 0 = .ok (.aload_n 0, 1) := by decide +kernel
theorem dX6_openBracket_1 : decode cX6_openBracket 1 = .ok (.getfield 155, 3) := by decide +kernel
theorem dX6_openBracket_4 : decode cX6_openBracket 4 = .ok (.bipush 6, 2) := by decide +kernel
theorem dX6_openBracket_6 : decode cX6_openBracket 6 = .ok (.if_icmp .lt 12, 3) := by decide +kernel
theorem dX6_openBracket_9 : decode cX6_openBracket 9 = .ok (.aload_n 0, 1) := by decide +kernel
theorem dX6_openBracket_10 : decode cX6_openBracket 10 = .ok (.getfield 18, 3) := by decide +kernel
theorem dX6_openBracket_13 : decode cX6_openBracket 13 = .ok (.iconst 4, 1) := by decide +kernel
theorem dX6_openBracket_14 : decode cX6_openBracket 14 = .ok (.invokevirtual 69, 3) := by decide +kernel
theorem dX6_openBracket_17 : decode cX6_openBracket 17 = .ok (.return_, 1) := by decide +kernel
theorem dX6_openBracket_18 : decode cX6_openBracket 18 = .ok (.aload_n 0, 1) := by decide +kernel
theorem dX6_openBracket_19 : decode cX6_openBracket 19 = .ok (.dup, 1) := by decide +kernel
theorem dX6_openBracket_20 : decode cX6_openBracket 20 = .ok (.getfield 155, 3) := by decide +kernel
theorem dX6_openBracket_23 : decode cX6_openBracket 23 = .ok (.iconst 1, 1) := by decide +kernel
theorem dX6_openBracket_24 : decode cX6_openBracket 24 = .ok (.iadd, 1) := by decide +kernel
theorem dX6_openBracket_25 : decode cX6_openBracket 25 = .ok (.putfield 155, 3) := by decide +kernel
theorem dX6_openBracket_28 : decode cX6_openBracket 28 = .ok (.aload_n 0, 1) := by decide +kernel
theorem dX6_openBracket_29 : decode cX6_openBracket 29 = .ok (.getfield 15, 3) := by decide +kernel
theorem dX6_openBracket_32 : decode cX6_openBracket 32 = .ok (.aload_n 0, 1) := by decide +kernel
theorem dX6_openBracket_33 : decode cX6_openBracket 33 = .ok (.getfield 155, 3) := by decide +kernel
theorem dX6_openBracket_36 : decode cX6_openBracket 36 = .ok (.iconst 0, 1) := by decide +kernel
theorem dX6_openBracket_37 : decode cX6_openBracket 37 = .ok (.iastore, 1) := by decide +kernel
theorem dX6_openBracket_38 : decode cX6_openBracket 38 = .ok (.aload_n 0, 1) := by decide +kernel
theorem dX6_openBracket_39 : decode cX6_openBracket 39 = .ok (.getfield 18, 3) := by decide +kernel
theorem dX6_openBracket_42 : decode cX6_openBracket 42 = .ok (.invokevirtual 109, 3) := by decide +kernel
theorem dX6_openBracket_45 : decode cX6_openBracket 45 = .ok (.return_, 1) := by decide +kernel
theorem dX6_countAtom_0 : decode cX6_countAtom 0 = .ok (.aload_n 0, 1) := by decide +kernel
theorem dX6_countAtom_1 : decode cX6_countAtom 1 = .ok (.getfield 18, 3) := by decide +kernel
theorem dX6_countAtom_4 : decode cX6_countAtom 4 = .ok (.invokevirtual 170, 3) := by decide +kernel
theorem dX6_countAtom_7 : decode cX6_countAtom 7 = .ok (.istore_n 1, 1) := by decide +kernel
theorem dX6_countAtom_8 : decode cX6_countAtom 8 = .ok (.aload_n 0, 1) := by decide +kernel
theorem dX6_countAtom_9 : decode cX6_countAtom 9 = .ok (.getfield 18, 3) := by decide +kernel
theorem dX6_countAtom_12 : decode cX6_countAtom 12 = .ok (.invokevirtual 46, 3) := by decide +kernel
theorem dX6_countAtom_15 : decode cX6_countAtom 15 = .ok (.iconst 2, 1) := by decide +kernel
theorem dX6_countAtom_16 : decode cX6_countAtom 16 = .ok (.if_icmp .eq 19, 3) := by decide +kernel
theorem dX6_countAtom_19 : decode cX6_countAtom 19 = .ok (.iload_n 1, 1) := by decide +kernel
theorem dX6_countAtom_20 : decode cX6_countAtom 20 = .ok (.iconst (-1), 1) := by decide +kernel
theorem dX6_countAtom_21 : decode cX6_countAtom 21 = .ok (.if_icmp .eq 18, 3) := by decide +kernel
theorem dX6_countAtom_24 : decode cX6_countAtom 24 = .ok (.aload_n 0, 1) := by decide +kernel
theorem dX6_countAtom_25 : decode cX6_countAtom 25 = .ok (.getfield 38, 3) := by decide +kernel
theorem dX6_countAtom_28 : decode cX6_countAtom 28 = .ok (.iload_n 1, 1) := by decide +kernel
theorem dX6_countAtom_29 : decode cX6_countAtom 29 = .ok (.ishr, 1) := by decide +kernel
theorem dX6_countAtom_30 : decode cX6_countAtom 30 = .ok (.iconst 1, 1) := by decide +kernel
theorem dX6_countAtom_31 : decode cX6_countAtom 31 = .ok (.iand, 1) := by decide +kernel
theorem dX6_countAtom_32 : decode cX6_countAtom 32 = .ok (.ifCond .ne 7, 3) := by decide +kernel
theorem dX6_countAtom_35 : decode cX6_countAtom 35 = .ok (.iconst 1, 1) := by decide +kernel
theorem dX6_countAtom_36 : decode cX6_countAtom 36 = .ok (.goto 4, 3) := by decide +kernel
theorem dX6_countAtom_39 : decode cX6_countAtom 39 = .ok (.iconst 0, 1) := by decide +kernel
theorem dX6_countAtom_40 : decode cX6_countAtom 40 = .ok (.istore_n 2, 1) := by decide +kernel
theorem dX6_countAtom_41 : decode cX6_countAtom 41 = .ok (.iload_n 2, 1) := by decide +kernel
theorem dX6_countAtom_42 : decode cX6_countAtom 42 = .ok (.ifCond .eq 20, 3) := by decide +kernel
theorem dX6_countAtom_45 : decode cX6_countAtom 45 = .ok (.aload_n 0, 1) := by decide +kernel
theorem dX6_countAtom_46 : decode cX6_countAtom 46 = .ok (.getfield 152, 3) := by decide +kernel
theorem dX6_countAtom_49 : decode cX6_countAtom 49 = .ok (.bipush 12, 2) := by decide +kernel
theorem dX6_countAtom_51 : decode cX6_countAtom 51 = .ok (.if_icmp .lt 11, 3) := by decide +kernel
theorem dX6_countAtom_54 : decode cX6_countAtom 54 = .ok (.aload_n 0, 1) := by decide +kernel
theorem dX6_countAtom_55 : decode cX6_countAtom 55 = .ok (.getfield 18, 3) := by decide +kernel
theorem dX6_countAtom_58 : decode cX6_countAtom 58 = .ok (.iconst 4, 1) := by decide +kernel
theorem dX6_countAtom_59 : decode cX6_countAtom 59 = .ok (.invokevirtual 69, 3) := by decide +kernel
theorem dX6_countAtom_62 : decode cX6_countAtom 62 = .ok (.aload_n 0, 1) := by decide +kernel
theorem dX6_countAtom_63 : decode cX6_countAtom 63 = .ok (.dup, 1) := by decide +kernel
theorem dX6_countAtom_64 : decode cX6_countAtom 64 = .ok (.getfield 152, 3) := by decide +kernel
theorem dX6_countAtom_67 : decode cX6_countAtom 67 = .ok (.iconst 1, 1) := by decide +kernel
theorem dX6_countAtom_68 : decode cX6_countAtom 68 = .ok (.iadd, 1) := by decide +kernel
theorem dX6_countAtom_69 : decode cX6_countAtom 69 = .ok (.putfield 152, 3) := by decide +kernel
theorem dX6_countAtom_72 : decode cX6_countAtom 72 = .ok (.return_, 1) := by decide +kernel
theorem dX6_endFactor_0 : decode cX6_endFactor 0 = .ok (.aload_n 0, 1) := by decide +kernel
theorem dX6_endFactor_1 : decode cX6_endFactor 1 = .ok (.invokevirtual 173, 3) := by decide +kernel
theorem dX6_endFactor_4 : decode cX6_endFactor 4 = .ok (.aload_n 0, 1) := by decide +kernel
theorem dX6_endFactor_5 : decode cX6_endFactor 5 = .ok (.getfield 155, 3) := by decide +kernel
theorem dX6_endFactor_8 : decode cX6_endFactor 8 = .ok (.ifCond .le 39, 3) := by decide +kernel
theorem dX6_endFactor_11 : decode cX6_endFactor 11 = .ok (.aload_n 0, 1) := by decide +kernel
theorem dX6_endFactor_12 : decode cX6_endFactor 12 = .ok (.getfield 18, 3) := by decide +kernel
theorem dX6_endFactor_15 : decode cX6_endFactor 15 = .ok (.invokevirtual 46, 3) := by decide +kernel
theorem dX6_endFactor_18 : decode cX6_endFactor 18 = .ok (.bipush 41, 2) := by decide +kernel
theorem dX6_endFactor_20 : decode cX6_endFactor 20 = .ok (.if_icmp .ne 27, 3) := by decide +kernel
theorem dX6_endFactor_23 : decode cX6_endFactor 23 = .ok (.aload_n 0, 1) := by decide +kernel
theorem dX6_endFactor_24 : decode cX6_endFactor 24 = .ok (.getfield 18, 3) := by decide +kernel
theorem dX6_endFactor_27 : decode cX6_endFactor 27 = .ok (.invokevirtual 109, 3) := by decide +kernel
theorem dX6_endFactor_30 : decode cX6_endFactor 30 = .ok (.aload_n 0, 1) := by decide +kernel
theorem dX6_endFactor_31 : decode cX6_endFactor 31 = .ok (.dup, 1) := by decide +kernel
theorem dX6_endFactor_32 : decode cX6_endFactor 32 = .ok (.getfield 155, 3) := by decide +kernel
theorem dX6_endFactor_35 : decode cX6_endFactor 35 = .ok (.iconst 1, 1) := by decide +kernel
theorem dX6_endFactor_36 : decode cX6_endFactor 36 = .ok (.isub, 1) := by decide +kernel
theorem dX6_endFactor_37 : decode cX6_endFactor 37 = .ok (.putfield 155, 3) := by decide +kernel
theorem dX6_endFactor_40 : decode cX6_endFactor 40 = .ok (.aload_n 0, 1) := by decide +kernel
theorem dX6_endFactor_41 : decode cX6_endFactor 41 = .ok (.invokevirtual 173, 3) := by decide +kernel
theorem dX6_endFactor_44 : decode cX6_endFactor 44 = .ok (.goto (-40), 3) := by decide +kernel
theorem dX6_endFactor_47 : decode cX6_endFactor 47 = .ok (.aload_n 0, 1) := by decide +kernel
theorem dX6_endFactor_48 : decode cX6_endFactor 48 = .ok (.getfield 18, 3) := by decide +kernel
theorem dX6_endFactor_51 : decode cX6_endFactor 51 = .ok (.invokevirtual 46, 3) := by decide +kernel
theorem dX6_endFactor_54 : decode cX6_endFactor 54 = .ok (.tableswitch 83 37 47 #[58, 58, 83, 83, 83, 58, 58, 83, 58, 83, 58], 58) := by decide +kernel
theorem dX6_endFactor_112 : decode cX6_endFactor 112 = .ok (.aload_n 0, 1) := by decide +kernel
theorem dX6_endFactor_113 : decode cX6_endFactor 113 = .ok (.getfield 15, 3) := by decide +kernel
theorem dX6_endFactor_116 : decode cX6_endFactor 116 = .ok (.aload_n 0, 1) := by decide +kernel
theorem dX6_endFactor_117 : decode cX6_endFactor 117 = .ok (.getfield 155, 3) := by decide +kernel
theorem dX6_endFactor_120 : decode cX6_endFactor 120 = .ok (.aload_n 0, 1) := by decide +kernel
theorem dX6_endFactor_121 : decode cX6_endFactor 121 = .ok (.getfield 18, 3) := by decide +kernel
theorem dX6_endFactor_124 : decode cX6_endFactor 124 = .ok (.invokevirtual 46, 3) := by decide +kernel
theorem dX6_endFactor_127 : decode cX6_endFactor 127 = .ok (.iastore, 1) := by decide +kernel
theorem dX6_endFactor_128 : decode cX6_endFactor 128 = .ok (.aload_n 0, 1) := by decide +kernel
theorem dX6_endFactor_129 : decode cX6_endFactor 129 = .ok (.getfield 18, 3) := by decide +kernel
theorem dX6_endFactor_132 : decode cX6_endFactor 132 = .ok (.invokevirtual 109, 3) := by decide +kernel
theorem dX6_endFactor_135 : decode cX6_endFactor 135 = .ok (.iconst 1, 1) := by decide +kernel
theorem dX6_endFactor_136 : decode cX6_endFactor 136 = .ok (.ireturn, 1) := by decide +kernel
theorem dX6_endFactor_137 : decode cX6_endFactor 137 = .ok (.aload_n 0, 1) := by decide +kernel
theorem dX6_endFactor_138 : decode cX6_endFactor 138 = .ok (.getfield 155, 3) := by decide +kernel
theorem dX6_endFactor_141 : decode cX6_endFactor 141 = .ok (.ifCond .le 11, 3) := by decide +kernel
theorem dX6_endFactor_144 : decode cX6_endFactor 144 = .ok (.aload_n 0, 1) := by decide +kernel
theorem dX6_endFactor_145 : decode cX6_endFactor 145 = .ok (.getfield 18, 3) := by decide +kernel
theorem dX6_endFactor_148 : decode cX6_endFactor 148 = .ok (.iconst 1, 1) := by decide +kernel
theorem dX6_endFactor_149 : decode cX6_endFactor 149 = .ok (.invokevirtual 69, 3) := by decide +kernel
theorem dX6_endFactor_152 : decode cX6_endFactor 152 = .ok (.iconst 0, 1) := by decide +kernel
theorem dX6_endFactor_153 : decode cX6_endFactor 153 = .ok (.ireturn, 1) := by decide +kernel
theorem dX6_doWaiting_0 : decode cX6_doWaiting 0 = .ok (.aload_n 0, 1) := by decide +kernel
theorem dX6_doWaiting_1 : decode cX6_doWaiting 1 = .ok (.getfield 15, 3) := by decide +kernel
theorem dX6_doWaiting_4 : decode cX6_doWaiting 4 = .ok (.aload_n 0, 1) := by decide +kernel
theorem dX6_doWaiting_5 : decode cX6_doWaiting 5 = .ok (.getfield 155, 3) := by decide +kernel
theorem dX6_doWaiting_8 : decode cX6_doWaiting 8 = .ok (.iaload, 1) := by decide +kernel
theorem dX6_doWaiting_9 : decode cX6_doWaiting 9 = .ok (.ifCond .eq 30, 3) := by decide +kernel
theorem dX6_doWaiting_12 : decode cX6_doWaiting 12 = .ok (.aload_n 0, 1) := by decide +kernel
theorem dX6_doWaiting_13 : decode cX6_doWaiting 13 = .ok (.getfield 22, 3) := by decide +kernel
theorem dX6_doWaiting_16 : decode cX6_doWaiting 16 = .ok (.aload_n 0, 1) := by decide +kernel
theorem dX6_doWaiting_17 : decode cX6_doWaiting 17 = .ok (.getfield 15, 3) := by decide +kernel
theorem dX6_doWaiting_20 : decode cX6_doWaiting 20 = .ok (.aload_n 0, 1) := by decide +kernel
theorem dX6_doWaiting_21 : decode cX6_doWaiting 21 = .ok (.getfield 155, 3) := by decide +kernel
theorem dX6_doWaiting_24 : decode cX6_doWaiting 24 = .ok (.iaload, 1) := by decide +kernel
theorem dX6_doWaiting_25 : decode cX6_doWaiting 25 = .ok (.ineg, 1) := by decide +kernel
theorem dX6_doWaiting_26 : decode cX6_doWaiting 26 = .ok (.invokevirtual 149, 3) := by decide +kernel
theorem dX6_doWaiting_29 : decode cX6_doWaiting 29 = .ok (.aload_n 0, 1) := by decide +kernel
theorem dX6_doWaiting_30 : decode cX6_doWaiting 30 = .ok (.getfield 15, 3) := by decide +kernel
theorem dX6_doWaiting_33 : decode cX6_doWaiting 33 = .ok (.aload_n 0, 1) := by decide +kernel
theorem dX6_doWaiting_34 : decode cX6_doWaiting 34 = .ok (.getfield 155, 3) := by decide +kernel
theorem dX6_doWaiting_37 : decode cX6_doWaiting 37 = .ok (.iconst 0, 1) := by decide +kernel
theorem dX6_doWaiting_38 : decode cX6_doWaiting 38 = .ok (.iastore, 1) := by decide +kernel
theorem dX6_doWaiting_39 : decode cX6_doWaiting 39 = .ok (.return_, 1) := by decide +kernel
theorem dX6_readVar_0 : decode cX6_readVar 0 = .ok (.aload_n 0, 1) := by decide +kernel
theorem dX6_readVar_1 : decode cX6_readVar 1 = .ok (.getfield 18, 3) := by decide +kernel
theorem dX6_readVar_4 : decode cX6_readVar 4 = .ok (.invokevirtual 170, 3) := by decide +kernel
theorem dX6_readVar_7 : decode cX6_readVar 7 = .ok (.istore_n 1, 1) := by decide +kernel
theorem dX6_readVar_8 : decode cX6_readVar 8 = .ok (.iload_n 1, 1) := by decide +kernel
theorem dX6_readVar_9 : decode cX6_readVar 9 = .ok (.iconst (-1), 1) := by decide +kernel
theorem dX6_readVar_10 : decode cX6_readVar 10 = .ok (.if_icmp .ne 13, 3) := by decide +kernel
theorem dX6_readVar_13 : decode cX6_readVar 13 = .ok (.aload_n 0, 1) := by decide +kernel
theorem dX6_readVar_14 : decode cX6_readVar 14 = .ok (.getfield 18, 3) := by decide +kernel
theorem dX6_readVar_17 : decode cX6_readVar 17 = .ok (.iconst 1, 1) := by decide +kernel
theorem dX6_readVar_18 : decode cX6_readVar 18 = .ok (.invokevirtual 69, 3) := by decide +kernel
theorem dX6_readVar_21 : decode cX6_readVar 21 = .ok (.iconst 0, 1) := by decide +kernel
theorem dX6_readVar_22 : decode cX6_readVar 22 = .ok (.ireturn, 1) := by decide +kernel
theorem dX6_readVar_23 : decode cX6_readVar 23 = .ok (.aload_n 0, 1) := by decide +kernel
theorem dX6_readVar_24 : decode cX6_readVar 24 = .ok (.getfield 38, 3) := by decide +kernel
theorem dX6_readVar_27 : decode cX6_readVar 27 = .ok (.iload_n 1, 1) := by decide +kernel
theorem dX6_readVar_28 : decode cX6_readVar 28 = .ok (.ishr, 1) := by decide +kernel
theorem dX6_readVar_29 : decode cX6_readVar 29 = .ok (.iconst 1, 1) := by decide +kernel
theorem dX6_readVar_30 : decode cX6_readVar 30 = .ok (.iand, 1) := by decide +kernel
theorem dX6_readVar_31 : decode cX6_readVar 31 = .ok (.ifCond .eq 13, 3) := by decide +kernel
theorem dX6_readVar_34 : decode cX6_readVar 34 = .ok (.aload_n 0, 1) := by decide +kernel
theorem dX6_readVar_35 : decode cX6_readVar 35 = .ok (.getfield 18, 3) := by decide +kernel
theorem dX6_readVar_38 : decode cX6_readVar 38 = .ok (.iconst 3, 1) := by decide +kernel
theorem dX6_readVar_39 : decode cX6_readVar 39 = .ok (.invokevirtual 69, 3) := by decide +kernel
theorem dX6_readVar_42 : decode cX6_readVar 42 = .ok (.iconst 0, 1) := by decide +kernel
theorem dX6_readVar_43 : decode cX6_readVar 43 = .ok (.ireturn, 1) := by decide +kernel
theorem dX6_readVar_44 : decode cX6_readVar 44 = .ok (.aload_n 0, 1) := by decide +kernel
theorem dX6_readVar_45 : decode cX6_readVar 45 = .ok (.getfield 18, 3) := by decide +kernel
theorem dX6_readVar_48 : decode cX6_readVar 48 = .ok (.invokevirtual 109, 3) := by decide +kernel
theorem dX6_readVar_51 : decode cX6_readVar 51 = .ok (.iload_n 1, 1) := by decide +kernel
theorem dX6_readVar_52 : decode cX6_readVar 52 = .ok (.bipush 8, 2) := by decide +kernel
theorem dX6_readVar_54 : decode cX6_readVar 54 = .ok (.if_icmp .eq 5, 3) := by decide +kernel
theorem dX6_readVar_57 : decode cX6_readVar 57 = .ok (.iload_n 1, 1) := by decide +kernel
theorem dX6_readVar_58 : decode cX6_readVar 58 = .ok (.ireturn, 1) := by decide +kernel
theorem dX6_readVar_59 : decode cX6_readVar 59 = .ok (.aload_n 0, 1) := by decide +kernel
theorem dX6_readVar_60 : decode cX6_readVar 60 = .ok (.getfield 18, 3) := by decide +kernel
theorem dX6_readVar_63 : decode cX6_readVar 63 = .ok (.bipush 91, 2) := by decide +kernel
theorem dX6_readVar_65 : decode cX6_readVar 65 = .ok (.invokevirtual 99, 3) := by decide +kernel
theorem dX6_readVar_68 : decode cX6_readVar 68 = .ok (.aload_n 0, 1) := by decide +kernel
theorem dX6_readVar_69 : decode cX6_readVar 69 = .ok (.invokevirtual 176, 3) := by decide +kernel
theorem dX6_readVar_72 : decode cX6_readVar 72 = .ok (.istore_n 2, 1) := by decide +kernel
theorem dX6_readVar_73 : decode cX6_readVar 73 = .ok (.aload_n 0, 1) := by decide +kernel
theorem dX6_readVar_74 : decode cX6_readVar 74 = .ok (.getfield 18, 3) := by decide +kernel
theorem dX6_readVar_77 : decode cX6_readVar 77 = .ok (.bipush 93, 2) := by decide +kernel
theorem dX6_readVar_79 : decode cX6_readVar 79 = .ok (.invokevirtual 99, 3) := by decide +kernel
theorem dX6_readVar_82 : decode cX6_readVar 82 = .ok (.iload_n 2, 1) := by decide +kernel
theorem dX6_readVar_83 : decode cX6_readVar 83 = .ok (.ireturn, 1) := by decide +kernel
theorem dX6_readPlace_0 : decode cX6_readPlace 0 = .ok (.aload_n 0, 1) := by decide +kernel
theorem dX6_readPlace_1 : decode cX6_readPlace 1 = .ok (.getfield 18, 3) := by decide +kernel
theorem dX6_readPlace_4 : decode cX6_readPlace 4 = .ok (.invokevirtual 170, 3) := by decide +kernel
theorem dX6_readPlace_7 : decode cX6_readPlace 7 = .ok (.istore_n 1, 1) := by decide +kernel
theorem dX6_readPlace_8 : decode cX6_readPlace 8 = .ok (.aload_n 0, 1) := by decide +kernel
theorem dX6_readPlace_9 : decode cX6_readPlace 9 = .ok (.getfield 18, 3) := by decide +kernel
theorem dX6_readPlace_12 : decode cX6_readPlace 12 = .ok (.invokevirtual 164, 3) := by decide +kernel
theorem dX6_readPlace_15 : decode cX6_readPlace 15 = .ok (.istore_n 2, 1) := by decide +kernel
theorem dX6_readPlace_16 : decode cX6_readPlace 16 = .ok (.aload_n 0, 1) := by decide +kernel
theorem dX6_readPlace_17 : decode cX6_readPlace 17 = .ok (.getfield 18, 3) := by decide +kernel
theorem dX6_readPlace_20 : decode cX6_readPlace 20 = .ok (.invokevirtual 46, 3) := by decide +kernel
theorem dX6_readPlace_23 : decode cX6_readPlace 23 = .ok (.iconst 2, 1) := by decide +kernel
theorem dX6_readPlace_24 : decode cX6_readPlace 24 = .ok (.if_icmp .ne 7, 3) := by decide +kernel
theorem dX6_readPlace_27 : decode cX6_readPlace 27 = .ok (.iconst 1, 1) := by decide +kernel
theorem dX6_readPlace_28 : decode cX6_readPlace 28 = .ok (.goto 4, 3) := by decide +kernel
theorem dX6_readPlace_31 : decode cX6_readPlace 31 = .ok (.iconst 0, 1) := by decide +kernel
theorem dX6_readPlace_32 : decode cX6_readPlace 32 = .ok (.istore_n 3, 1) := by decide +kernel
theorem dX6_readPlace_33 : decode cX6_readPlace 33 = .ok (.iload_n 3, 1) := by decide +kernel
theorem dX6_readPlace_34 : decode cX6_readPlace 34 = .ok (.ifCond .ne 24, 3) := by decide +kernel
theorem dX6_readPlace_37 : decode cX6_readPlace 37 = .ok (.iload_n 1, 1) := by decide +kernel
theorem dX6_readPlace_38 : decode cX6_readPlace 38 = .ok (.iconst (-1), 1) := by decide +kernel
theorem dX6_readPlace_39 : decode cX6_readPlace 39 = .ok (.if_icmp .eq 9, 3) := by decide +kernel
theorem dX6_readPlace_42 : decode cX6_readPlace 42 = .ok (.iload_n 1, 1) := by decide +kernel
theorem dX6_readPlace_43 : decode cX6_readPlace 43 = .ok (.bipush 8, 2) := by decide +kernel
theorem dX6_readPlace_45 : decode cX6_readPlace 45 = .ok (.if_icmp .ne 13, 3) := by decide +kernel
theorem dX6_readPlace_48 : decode cX6_readPlace 48 = .ok (.aload_n 0, 1) := by decide +kernel
theorem dX6_readPlace_49 : decode cX6_readPlace 49 = .ok (.getfield 18, 3) := by decide +kernel
theorem dX6_readPlace_52 : decode cX6_readPlace 52 = .ok (.iconst 1, 1) := by decide +kernel
theorem dX6_readPlace_53 : decode cX6_readPlace 53 = .ok (.invokevirtual 69, 3) := by decide +kernel
theorem dX6_readPlace_56 : decode cX6_readPlace 56 = .ok (.iconst 0, 1) := by decide +kernel
theorem dX6_readPlace_57 : decode cX6_readPlace 57 = .ok (.ireturn, 1) := by decide +kernel
theorem dX6_readPlace_58 : decode cX6_readPlace 58 = .ok (.iload_n 3, 1) := by decide +kernel
theorem dX6_readPlace_59 : decode cX6_readPlace 59 = .ok (.ifCond .eq 19, 3) := by decide +kernel
theorem dX6_readPlace_62 : decode cX6_readPlace 62 = .ok (.iload_n 2, 1) := by decide +kernel
theorem dX6_readPlace_63 : decode cX6_readPlace 63 = .ok (.bipush 10, 2) := by decide +kernel
theorem dX6_readPlace_65 : decode cX6_readPlace 65 = .ok (.if_icmp .lt 13, 3) := by decide +kernel
theorem dX6_readPlace_68 : decode cX6_readPlace 68 = .ok (.aload_n 0, 1) := by decide +kernel
theorem dX6_readPlace_69 : decode cX6_readPlace 69 = .ok (.getfield 18, 3) := by decide +kernel
theorem dX6_readPlace_72 : decode cX6_readPlace 72 = .ok (.iconst 2, 1) := by decide +kernel
theorem dX6_readPlace_73 : decode cX6_readPlace 73 = .ok (.invokevirtual 69, 3) := by decide +kernel
theorem dX6_readPlace_76 : decode cX6_readPlace 76 = .ok (.iconst 0, 1) := by decide +kernel
theorem dX6_readPlace_77 : decode cX6_readPlace 77 = .ok (.ireturn, 1) := by decide +kernel
theorem dX6_readPlace_78 : decode cX6_readPlace 78 = .ok (.iload_n 3, 1) := by decide +kernel
theorem dX6_readPlace_79 : decode cX6_readPlace 79 = .ok (.ifCond .ne 24, 3) := by decide +kernel
theorem dX6_readPlace_82 : decode cX6_readPlace 82 = .ok (.aload_n 0, 1) := by decide +kernel
theorem dX6_readPlace_83 : decode cX6_readPlace 83 = .ok (.getfield 38, 3) := by decide +kernel
theorem dX6_readPlace_86 : decode cX6_readPlace 86 = .ok (.iload_n 1, 1) := by decide +kernel
theorem dX6_readPlace_87 : decode cX6_readPlace 87 = .ok (.ishr, 1) := by decide +kernel
theorem dX6_readPlace_88 : decode cX6_readPlace 88 = .ok (.iconst 1, 1) := by decide +kernel
theorem dX6_readPlace_89 : decode cX6_readPlace 89 = .ok (.iand, 1) := by decide +kernel
theorem dX6_readPlace_90 : decode cX6_readPlace 90 = .ok (.ifCond .eq 13, 3) := by decide +kernel
theorem dX6_readPlace_93 : decode cX6_readPlace 93 = .ok (.aload_n 0, 1) := by decide +kernel
theorem dX6_readPlace_94 : decode cX6_readPlace 94 = .ok (.getfield 18, 3) := by decide +kernel
theorem dX6_readPlace_97 : decode cX6_readPlace 97 = .ok (.iconst 3, 1) := by decide +kernel
theorem dX6_readPlace_98 : decode cX6_readPlace 98 = .ok (.invokevirtual 69, 3) := by decide +kernel
theorem dX6_readPlace_101 : decode cX6_readPlace 101 = .ok (.iconst 0, 1) := by decide +kernel
theorem dX6_readPlace_102 : decode cX6_readPlace 102 = .ok (.ireturn, 1) := by decide +kernel
theorem dX6_readPlace_103 : decode cX6_readPlace 103 = .ok (.aload_n 0, 1) := by decide +kernel
theorem dX6_readPlace_104 : decode cX6_readPlace 104 = .ok (.getfield 18, 3) := by decide +kernel
theorem dX6_readPlace_107 : decode cX6_readPlace 107 = .ok (.invokevirtual 109, 3) := by decide +kernel
theorem dX6_readPlace_110 : decode cX6_readPlace 110 = .ok (.iload_n 3, 1) := by decide +kernel
theorem dX6_readPlace_111 : decode cX6_readPlace 111 = .ok (.ifCond .eq 10, 3) := by decide +kernel
theorem dX6_readPlace_114 : decode cX6_readPlace 114 = .ok (.bipush 10, 2) := by decide +kernel
theorem dX6_readPlace_116 : decode cX6_readPlace 116 = .ok (.iload_n 2, 1) := by decide +kernel
theorem dX6_readPlace_117 : decode cX6_readPlace 117 = .ok (.iadd, 1) := by decide +kernel
theorem dX6_readPlace_118 : decode cX6_readPlace 118 = .ok (.goto 7, 3) := by decide +kernel
theorem dX6_readPlace_121 : decode cX6_readPlace 121 = .ok (.bipush 20, 2) := by decide +kernel
theorem dX6_readPlace_123 : decode cX6_readPlace 123 = .ok (.iload_n 1, 1) := by decide +kernel
theorem dX6_readPlace_124 : decode cX6_readPlace 124 = .ok (.iadd, 1) := by decide +kernel
theorem dX6_readPlace_125 : decode cX6_readPlace 125 = .ok (.ireturn, 1) := by decide +kernel
theorem dX7_init_0 : decode cX7_init 0 = .ok (.aload_n 0, 1) := by decide +kernel
theorem dX7_init_1 : decode cX7_init 1 = .ok (.invokespecial 3, 3) := by decide +kernel
theorem dX7_init_4 : decode cX7_init 4 = .ok (.aload_n 0, 1) := by decide +kernel
theorem dX7_init_5 : decode cX7_init 5 = .ok (.getstatic 9, 3) := by decide +kernel
theorem dX7_init_8 : decode cX7_init 8 = .ok (.arraylength, 1) := by decide +kernel
theorem dX7_init_9 : decode cX7_init 9 = .ok (.newarray .int, 2) := by decide +kernel
theorem dX7_init_11 : decode cX7_init 11 = .ok (.putfield 15, 3) := by decide +kernel
theorem dX7_init_14 : decode cX7_init 14 = .ok (.aload_n 0, 1) := by decide +kernel
theorem dX7_init_15 : decode cX7_init 15 = .ok (.bipush 40, 2) := by decide +kernel
theorem dX7_init_17 : decode cX7_init 17 = .ok (.newarray .int, 2) := by decide +kernel
theorem dX7_init_19 : decode cX7_init 19 = .ok (.putfield 18, 3) := by decide +kernel
theorem dX7_init_22 : decode cX7_init 22 = .ok (.aload_n 0, 1) := by decide +kernel
theorem dX7_init_23 : decode cX7_init 23 = .ok (.bipush 13, 2) := by decide +kernel
theorem dX7_init_25 : decode cX7_init 25 = .ok (.newarray .int, 2) := by decide +kernel
theorem dX7_init_27 : decode cX7_init 27 = .ok (.putfield 21, 3) := by decide +kernel
theorem dX7_init_30 : decode cX7_init 30 = .ok (.aload_n 0, 1) := by decide +kernel
theorem dX7_init_31 : decode cX7_init 31 = .ok (.bipush 13, 2) := by decide +kernel
theorem dX7_init_33 : decode cX7_init 33 = .ok (.newarray .int, 2) := by decide +kernel
theorem dX7_init_35 : decode cX7_init 35 = .ok (.putfield 24, 3) := by decide +kernel
theorem dX7_init_38 : decode cX7_init 38 = .ok (.aload_n 0, 1) := by decide +kernel
theorem dX7_init_39 : decode cX7_init 39 = .ok (.iconst 0, 1) := by decide +kernel
theorem dX7_init_40 : decode cX7_init 40 = .ok (.newarray .int, 2) := by decide +kernel
theorem dX7_init_42 : decode cX7_init 42 = .ok (.putfield 27, 3) := by decide +kernel
theorem dX7_init_45 : decode cX7_init 45 = .ok (.aload_n 0, 1) := by decide +kernel
theorem dX7_init_46 : decode cX7_init 46 = .ok (.iconst 0, 1) := by decide +kernel
theorem dX7_init_47 : decode cX7_init 47 = .ok (.newarray .int, 2) := by decide +kernel
theorem dX7_init_49 : decode cX7_init 49 = .ok (.putfield 30, 3) := by decide +kernel
theorem dX7_init_52 : decode cX7_init 52 = .ok (.aload_n 0, 1) := by decide +kernel
theorem dX7_init_53 : decode cX7_init 53 = .ok (.iconst (-1), 1) := by decide +kernel
theorem dX7_init_54 : decode cX7_init 54 = .ok (.putfield 33, 3) := by decide +kernel
theorem dX7_init_57 : decode cX7_init 57 = .ok (.return_, 1) := by decide +kernel
theorem dX7_find_0 : decode cX7_find 0 = .ok (.iload_n 2, 1) := by decide +kernel
theorem dX7_find_1 : decode cX7_find 1 = .ok (.aload_n 0, 1) := by decide +kernel
theorem dX7_find_2 : decode cX7_find 2 = .ok (.getfield 33, 3) := by decide +kernel
theorem dX7_find_5 : decode cX7_find 5 = .ok (.if_icmp .eq 8, 3) := by decide +kernel
theorem dX7_find_8 : decode cX7_find 8 = .ok (.aload_n 0, 1) := by decide +kernel
theorem dX7_find_9 : decode cX7_find 9 = .ok (.iload_n 2, 1) := by decide +kernel
theorem dX7_find_10 : decode cX7_find 10 = .ok (.invokevirtual 37, 3) := by decide +kernel
theorem dX7_find_13 : decode cX7_find 13 = .ok (.aload_n 0, 1) := by decide +kernel
theorem dX7_find_14 : decode cX7_find 14 = .ok (.aload_n 1, 1) := by decide +kernel
theorem dX7_find_15 : decode cX7_find 15 = .ok (.invokestatic 41, 3) := by decide +kernel
theorem dX7_find_18 : decode cX7_find 18 = .ok (.putfield 45, 3) := by decide +kernel
theorem dX7_find_21 : decode cX7_find 21 = .ok (.iconst 0, 1) := by decide +kernel
theorem dX7_find_22 : decode cX7_find 22 = .ok (.istore 4, 2) := by decide +kernel
theorem dX7_find_24 : decode cX7_find 24 = .ok (.iload 4, 2) := by decide +kernel
theorem dX7_find_26 : decode cX7_find 26 = .ok (.bipush 40, 2) := by decide +kernel
theorem dX7_find_28 : decode cX7_find 28 = .ok (.if_icmp .ge 41, 3) := by decide +kernel
theorem dX7_find_31 : decode cX7_find 31 = .ok (.aload_n 0, 1) := by decide +kernel
theorem dX7_find_32 : decode cX7_find 32 = .ok (.aload_n 0, 1) := by decide +kernel
theorem dX7_find_33 : decode cX7_find 33 = .ok (.getfield 45, 3) := by decide +kernel
theorem dX7_find_36 : decode cX7_find 36 = .ok (.invokevirtual 48, 3) := by decide +kernel
theorem dX7_find_39 : decode cX7_find 39 = .ok (.ifCond .ge 30, 3) := by decide +kernel
theorem dX7_find_42 : decode cX7_find 42 = .ok (.aload_n 0, 1) := by decide +kernel
theorem dX7_find_43 : decode cX7_find 43 = .ok (.getfield 52, 3) := by decide +kernel
theorem dX7_find_46 : decode cX7_find 46 = .ok (.ifCond .ne 23, 3) := by decide +kernel
theorem dX7_find_49 : decode cX7_find 49 = .ok (.aload_n 0, 1) := by decide +kernel
theorem dX7_find_50 : decode cX7_find 50 = .ok (.getfield 56, 3) := by decide +kernel
theorem dX7_find_53 : decode cX7_find 53 = .ok (.sipush 5040, 3) := by decide +kernel
theorem dX7_find_56 : decode cX7_find 56 = .ok (.if_icmp .gt 13, 3) := by decide +kernel
theorem dX7_find_59 : decode cX7_find 59 = .ok (.aload_n 0, 1) := by decide +kernel
theorem dX7_find_60 : decode cX7_find 60 = .ok (.invokevirtual 59, 3) := by decide +kernel
theorem dX7_find_63 : decode cX7_find 63 = .ok (.iinc 4 1, 3) := by decide +kernel
theorem dX7_find_66 : decode cX7_find 66 = .ok (.goto (-42), 3) := by decide +kernel
theorem dX7_find_69 : decode cX7_find 69 = .ok (.iconst 0, 1) := by decide +kernel
theorem dX7_find_70 : decode cX7_find 70 = .ok (.istore 4, 2) := by decide +kernel
theorem dX7_find_72 : decode cX7_find 72 = .ok (.aload_n 0, 1) := by decide +kernel
theorem dX7_find_73 : decode cX7_find 73 = .ok (.aload_n 0, 1) := by decide +kernel
theorem dX7_find_74 : decode cX7_find 74 = .ok (.getfield 45, 3) := by decide +kernel
theorem dX7_find_77 : decode cX7_find 77 = .ok (.invokevirtual 48, 3) := by decide +kernel
theorem dX7_find_80 : decode cX7_find 80 = .ok (.ifCond .ge 20, 3) := by decide +kernel
theorem dX7_find_83 : decode cX7_find 83 = .ok (.aload_n 0, 1) := by decide +kernel
theorem dX7_find_84 : decode cX7_find 84 = .ok (.getfield 52, 3) := by decide +kernel
theorem dX7_find_87 : decode cX7_find 87 = .ok (.ifCond .eq 7, 3) := by decide +kernel
theorem dX7_find_90 : decode cX7_find 90 = .ok (.iconst (-1), 1) := by decide +kernel
theorem dX7_find_91 : decode cX7_find 91 = .ok (.goto 7, 3) := by decide +kernel
theorem dX7_find_94 : decode cX7_find 94 = .ok (.aload_n 0, 1) := by decide +kernel
theorem dX7_find_95 : decode cX7_find 95 = .ok (.invokevirtual 62, 3) := by decide +kernel
theorem dX7_find_98 : decode cX7_find 98 = .ok (.istore 4, 2) := by decide +kernel
theorem dX7_find_100 : decode cX7_find 100 = .ok (.iload 4, 2) := by decide +kernel
theorem dX7_find_102 : decode cX7_find 102 = .ok (.ifCond .ge 5, 3) := by decide +kernel
theorem dX7_find_105 : decode cX7_find 105 = .ok (.iconst 0, 1) := by decide +kernel
theorem dX7_find_106 : decode cX7_find 106 = .ok (.ireturn, 1) := by decide +kernel
theorem dX7_find_107 : decode cX7_find 107 = .ok (.aload_n 0, 1) := by decide +kernel
theorem dX7_find_108 : decode cX7_find 108 = .ok (.iload 4, 2) := by decide +kernel
theorem dX7_find_110 : decode cX7_find 110 = .ok (.invokevirtual 66, 3) := by decide +kernel
theorem dX7_find_113 : decode cX7_find 113 = .ok (.istore 5, 2) := by decide +kernel
theorem dX7_find_115 : decode cX7_find 115 = .ok (.aload_n 3, 1) := by decide +kernel
theorem dX7_find_116 : decode cX7_find 116 = .ok (.iconst 3, 1) := by decide +kernel
theorem dX7_find_117 : decode cX7_find 117 = .ok (.invokevirtual 69, 3) := by decide +kernel
theorem dX7_find_120 : decode cX7_find 120 = .ok (.iconst 0, 1) := by decide +kernel
theorem dX7_find_121 : decode cX7_find 121 = .ok (.istore 6, 2) := by decide +kernel
theorem dX7_find_123 : decode cX7_find 123 = .ok (.iload 6, 2) := by decide +kernel
theorem dX7_find_125 : decode cX7_find 125 = .ok (.iload 5, 2) := by decide +kernel
theorem dX7_find_127 : decode cX7_find 127 = .ok (.if_icmp .ge 20, 3) := by decide +kernel
theorem dX7_find_130 : decode cX7_find 130 = .ok (.aload_n 3, 1) := by decide +kernel
theorem dX7_find_131 : decode cX7_find 131 = .ok (.aload_n 0, 1) := by decide +kernel
theorem dX7_find_132 : decode cX7_find 132 = .ok (.getfield 18, 3) := by decide +kernel
theorem dX7_find_135 : decode cX7_find 135 = .ok (.iload 6, 2) := by decide +kernel
theorem dX7_find_137 : decode cX7_find 137 = .ok (.iaload, 1) := by decide +kernel
theorem dX7_find_138 : decode cX7_find 138 = .ok (.invokestatic 74, 3) := by decide +kernel
theorem dX7_find_141 : decode cX7_find 141 = .ok (.iinc 6 1, 3) := by decide +kernel
theorem dX7_find_144 : decode cX7_find 144 = .ok (.goto (-21), 3) := by decide +kernel
theorem dX7_find_147 : decode cX7_find 147 = .ok (.iconst 1, 1) := by decide +kernel
theorem dX7_find_148 : decode cX7_find 148 = .ok (.ireturn, 1) := by decide +kernel
theorem dX7_addPicked_0 : decode cX7_addPicked 0 = .ok (.iload_n 1, 1) := by decide +kernel
theorem dX7_addPicked_1 : decode cX7_addPicked 1 = .ok (.bipush 64, 2) := by decide +kernel
theorem dX7_addPicked_3 : decode cX7_addPicked 3 = .ok (.if_icmp .ge 17, 3) := by decide +kernel
theorem dX7_addPicked_6 : decode cX7_addPicked 6 = .ok (.aload_n 0, 1) := by decide +kernel
theorem dX7_addPicked_7 : decode cX7_addPicked 7 = .ok (.iload_n 1, 1) := by decide +kernel
theorem dX7_addPicked_8 : decode cX7_addPicked 8 = .ok (.iconst 3, 1) := by decide +kernel
theorem dX7_addPicked_9 : decode cX7_addPicked 9 = .ok (.ishr, 1) := by decide +kernel
theorem dX7_addPicked_10 : decode cX7_addPicked 10 = .ok (.iload_n 1, 1) := by decide +kernel
theorem dX7_addPicked_11 : decode cX7_addPicked 11 = .ok (.bipush 7, 2) := by decide +kernel
theorem dX7_addPicked_13 : decode cX7_addPicked 13 = .ok (.iand, 1) := by decide +kernel
theorem dX7_addPicked_14 : decode cX7_addPicked 14 = .ok (.invokevirtual 78, 3) := by decide +kernel
theorem dX7_addPicked_17 : decode cX7_addPicked 17 = .ok (.goto 22, 3) := by decide +kernel
theorem dX7_addPicked_20 : decode cX7_addPicked 20 = .ok (.aload_n 0, 1) := by decide +kernel
theorem dX7_addPicked_21 : decode cX7_addPicked 21 = .ok (.iload_n 1, 1) := by decide +kernel
theorem dX7_addPicked_22 : decode cX7_addPicked 22 = .ok (.bipush 64, 2) := by decide +kernel
theorem dX7_addPicked_24 : decode cX7_addPicked 24 = .ok (.isub, 1) := by decide +kernel
theorem dX7_addPicked_25 : decode cX7_addPicked 25 = .ok (.iconst 5, 1) := by decide +kernel
theorem dX7_addPicked_26 : decode cX7_addPicked 26 = .ok (.ishr, 1) := by decide +kernel
theorem dX7_addPicked_27 : decode cX7_addPicked 27 = .ok (.iload_n 1, 1) := by decide +kernel
theorem dX7_addPicked_28 : decode cX7_addPicked 28 = .ok (.iconst 3, 1) := by decide +kernel
theorem dX7_addPicked_29 : decode cX7_addPicked 29 = .ok (.ishr, 1) := by decide +kernel
theorem dX7_addPicked_30 : decode cX7_addPicked 30 = .ok (.iconst 3, 1) := by decide +kernel
theorem dX7_addPicked_31 : decode cX7_addPicked 31 = .ok (.iand, 1) := by decide +kernel
theorem dX7_addPicked_32 : decode cX7_addPicked 32 = .ok (.iload_n 1, 1) := by decide +kernel
theorem dX7_addPicked_33 : decode cX7_addPicked 33 = .ok (.bipush 7, 2) := by decide +kernel
theorem dX7_addPicked_35 : decode cX7_addPicked 35 = .ok (.iand, 1) := by decide +kernel
theorem dX7_addPicked_36 : decode cX7_addPicked 36 = .ok (.invokevirtual 82, 3) := by decide +kernel
theorem dX7_addPicked_39 : decode cX7_addPicked 39 = .ok (.return_, 1) := by decide +kernel
theorem dX7_undoing_0 : decode cX7_undoing 0 = .ok (.iconst 0, 1) := by decide +kernel
theorem dX7_undoing_1 : decode cX7_undoing 1 = .ok (.istore_n 1, 1) := by decide +kernel
theorem dX7_undoing_2 : decode cX7_undoing 2 = .ok (.iconst 0, 1) := by decide +kernel
theorem dX7_undoing_3 : decode cX7_undoing 3 = .ok (.istore_n 2, 1) := by decide +kernel
theorem dX7_undoing_4 : decode cX7_undoing 4 = .ok (.iload_n 2, 1) := by decide +kernel
theorem dX7_undoing_5 : decode cX7_undoing 5 = .ok (.bipush 8, 2) := by decide +kernel
theorem dX7_undoing_7 : decode cX7_undoing 7 = .ok (.if_icmp .ge 48, 3) := by decide +kernel
theorem dX7_undoing_10 : decode cX7_undoing 10 = .ok (.aload_n 0, 1) := by decide +kernel
theorem dX7_undoing_11 : decode cX7_undoing 11 = .ok (.iload_n 2, 1) := by decide +kernel
theorem dX7_undoing_12 : decode cX7_undoing 12 = .ok (.iconst 0, 1) := by decide +kernel
theorem dX7_undoing_13 : decode cX7_undoing 13 = .ok (.invokevirtual 86, 3) := by decide +kernel
theorem dX7_undoing_16 : decode cX7_undoing 16 = .ok (.istore_n 3, 1) := by decide +kernel
theorem dX7_undoing_17 : decode cX7_undoing 17 = .ok (.iconst 0, 1) := by decide +kernel
theorem dX7_undoing_18 : decode cX7_undoing 18 = .ok (.istore 4, 2) := by decide +kernel
theorem dX7_undoing_20 : decode cX7_undoing 20 = .ok (.iload 4, 2) := by decide +kernel
theorem dX7_undoing_22 : decode cX7_undoing 22 = .ok (.iconst 3, 1) := by decide +kernel
theorem dX7_undoing_23 : decode cX7_undoing 23 = .ok (.if_icmp .ge 26, 3) := by decide +kernel
theorem dX7_undoing_26 : decode cX7_undoing 26 = .ok (.iload_n 1, 1) := by decide +kernel
theorem dX7_undoing_27 : decode cX7_undoing 27 = .ok (.iload_n 2, 1) := by decide +kernel
theorem dX7_undoing_28 : decode cX7_undoing 28 = .ok (.iload 4, 2) := by decide +kernel
theorem dX7_undoing_30 : decode cX7_undoing 30 = .ok (.ishr, 1) := by decide +kernel
theorem dX7_undoing_31 : decode cX7_undoing 31 = .ok (.iconst 1, 1) := by decide +kernel
theorem dX7_undoing_32 : decode cX7_undoing 32 = .ok (.iand, 1) := by decide +kernel
theorem dX7_undoing_33 : decode cX7_undoing 33 = .ok (.bipush 8, 2) := by decide +kernel
theorem dX7_undoing_35 : decode cX7_undoing 35 = .ok (.iload 4, 2) := by decide +kernel
theorem dX7_undoing_37 : decode cX7_undoing 37 = .ok (.imul, 1) := by decide +kernel
theorem dX7_undoing_38 : decode cX7_undoing 38 = .ok (.iload_n 3, 1) := by decide +kernel
theorem dX7_undoing_39 : decode cX7_undoing 39 = .ok (.iadd, 1) := by decide +kernel
theorem dX7_undoing_40 : decode cX7_undoing 40 = .ok (.ishl, 1) := by decide +kernel
theorem dX7_undoing_41 : decode cX7_undoing 41 = .ok (.ior, 1) := by decide +kernel
theorem dX7_undoing_42 : decode cX7_undoing 42 = .ok (.istore_n 1, 1) := by decide +kernel
theorem dX7_undoing_43 : decode cX7_undoing 43 = .ok (.iinc 4 1, 3) := by decide +kernel
theorem dX7_undoing_46 : decode cX7_undoing 46 = .ok (.goto (-26), 3) := by decide +kernel
theorem dX7_undoing_49 : decode cX7_undoing 49 = .ok (.iinc 2 1, 3) := by decide +kernel
theorem dX7_undoing_52 : decode cX7_undoing 52 = .ok (.goto (-48), 3) := by decide +kernel
theorem dX7_undoing_55 : decode cX7_undoing 55 = .ok (.iload_n 1, 1) := by decide +kernel
theorem dX7_undoing_56 : decode cX7_undoing 56 = .ok (.ireturn, 1) := by decide +kernel
theorem dX7_pass_0 : decode cX7_pass 0 = .ok (.sipush 255, 3) := by decide +kernel
theorem dX7_pass_3 : decode cX7_pass 3 = .ok (.istore_n 2, 1) := by decide +kernel
theorem dX7_pass_4 : decode cX7_pass 4 = .ok (.iload_n 0, 1) := by decide +kernel
theorem dX7_pass_5 : decode cX7_pass 5 = .ok (.iconst 1, 1) := by decide +kernel
theorem dX7_pass_6 : decode cX7_pass 6 = .ok (.iand, 1) := by decide +kernel
theorem dX7_pass_7 : decode cX7_pass 7 = .ok (.ifCond .eq 7, 3) := by decide +kernel
theorem dX7_pass_10 : decode cX7_pass 10 = .ok (.iload_n 2, 1) := by decide +kernel
theorem dX7_pass_11 : decode cX7_pass 11 = .ok (.iload_n 1, 1) := by decide +kernel
theorem dX7_pass_12 : decode cX7_pass 12 = .ok (.iand, 1) := by decide +kernel
theorem dX7_pass_13 : decode cX7_pass 13 = .ok (.istore_n 2, 1) := by decide +kernel
theorem dX7_pass_14 : decode cX7_pass 14 = .ok (.iload_n 0, 1) := by decide +kernel
theorem dX7_pass_15 : decode cX7_pass 15 = .ok (.iconst 2, 1) := by decide +kernel
theorem dX7_pass_16 : decode cX7_pass 16 = .ok (.iand, 1) := by decide +kernel
theorem dX7_pass_17 : decode cX7_pass 17 = .ok (.ifCond .eq 10, 3) := by decide +kernel
theorem dX7_pass_20 : decode cX7_pass 20 = .ok (.iload_n 2, 1) := by decide +kernel
theorem dX7_pass_21 : decode cX7_pass 21 = .ok (.iload_n 1, 1) := by decide +kernel
theorem dX7_pass_22 : decode cX7_pass 22 = .ok (.bipush 8, 2) := by decide +kernel
theorem dX7_pass_24 : decode cX7_pass 24 = .ok (.ishr, 1) := by decide +kernel
theorem dX7_pass_25 : decode cX7_pass 25 = .ok (.iand, 1) := by decide +kernel
theorem dX7_pass_26 : decode cX7_pass 26 = .ok (.istore_n 2, 1) := by decide +kernel
theorem dX7_pass_27 : decode cX7_pass 27 = .ok (.iload_n 0, 1) := by decide +kernel
theorem dX7_pass_28 : decode cX7_pass 28 = .ok (.iconst 4, 1) := by decide +kernel
theorem dX7_pass_29 : decode cX7_pass 29 = .ok (.iand, 1) := by decide +kernel
theorem dX7_pass_30 : decode cX7_pass 30 = .ok (.ifCond .eq 10, 3) := by decide +kernel
theorem dX7_pass_33 : decode cX7_pass 33 = .ok (.iload_n 2, 1) := by decide +kernel
theorem dX7_pass_34 : decode cX7_pass 34 = .ok (.iload_n 1, 1) := by decide +kernel
theorem dX7_pass_35 : decode cX7_pass 35 = .ok (.bipush 16, 2) := by decide +kernel
theorem dX7_pass_37 : decode cX7_pass 37 = .ok (.ishr, 1) := by decide +kernel
theorem dX7_pass_38 : decode cX7_pass 38 = .ok (.iand, 1) := by decide +kernel
theorem dX7_pass_39 : decode cX7_pass 39 = .ok (.istore_n 2, 1) := by decide +kernel
theorem dX7_pass_40 : decode cX7_pass 40 = .ok (.iload_n 0, 1) := by decide +kernel
theorem dX7_pass_41 : decode cX7_pass 41 = .ok (.bipush 64, 2) := by decide +kernel
theorem dX7_pass_43 : decode cX7_pass 43 = .ok (.if_icmp .ge 12, 3) := by decide +kernel
theorem dX7_pass_46 : decode cX7_pass 46 = .ok (.iload_n 1, 1) := by decide +kernel
theorem dX7_pass_47 : decode cX7_pass 47 = .ok (.iload_n 2, 1) := by decide +kernel
theorem dX7_pass_48 : decode cX7_pass 48 = .ok (.iload_n 0, 1) := by decide +kernel
theorem dX7_pass_49 : decode cX7_pass 49 = .ok (.bipush 24, 2) := by decide +kernel
theorem dX7_pass_51 : decode cX7_pass 51 = .ok (.iand, 1) := by decide +kernel
theorem dX7_pass_52 : decode cX7_pass 52 = .ok (.ishl, 1) := by decide +kernel
theorem dX7_pass_53 : decode cX7_pass 53 = .ok (.ixor, 1) := by decide +kernel
theorem dX7_pass_54 : decode cX7_pass 54 = .ok (.ireturn, 1) := by decide +kernel
theorem dX7_pass_55 : decode cX7_pass 55 = .ok (.iload_n 0, 1) := by decide +kernel
theorem dX7_pass_56 : decode cX7_pass 56 = .ok (.bipush 64, 2) := by decide +kernel
theorem dX7_pass_58 : decode cX7_pass 58 = .ok (.isub, 1) := by decide +kernel
theorem dX7_pass_59 : decode cX7_pass 59 = .ok (.iconst 5, 1) := by decide +kernel
theorem dX7_pass_60 : decode cX7_pass 60 = .ok (.ishr, 1) := by decide +kernel
theorem dX7_pass_61 : decode cX7_pass 61 = .ok (.iconst 3, 1) := by decide +kernel
theorem dX7_pass_62 : decode cX7_pass 62 = .ok (.ishl, 1) := by decide +kernel
theorem dX7_pass_63 : decode cX7_pass 63 = .ok (.istore_n 3, 1) := by decide +kernel
theorem dX7_pass_64 : decode cX7_pass 64 = .ok (.iload_n 0, 1) := by decide +kernel
theorem dX7_pass_65 : decode cX7_pass 65 = .ok (.bipush 24, 2) := by decide +kernel
theorem dX7_pass_67 : decode cX7_pass 67 = .ok (.iand, 1) := by decide +kernel
theorem dX7_pass_68 : decode cX7_pass 68 = .ok (.istore 4, 2) := by decide +kernel
theorem dX7_pass_70 : decode cX7_pass 70 = .ok (.iload_n 1, 1) := by decide +kernel
theorem dX7_pass_71 : decode cX7_pass 71 = .ok (.iload_n 3, 1) := by decide +kernel
theorem dX7_pass_72 : decode cX7_pass 72 = .ok (.ishr, 1) := by decide +kernel
theorem dX7_pass_73 : decode cX7_pass 73 = .ok (.iload_n 1, 1) := by decide +kernel
theorem dX7_pass_74 : decode cX7_pass 74 = .ok (.iload 4, 2) := by decide +kernel
theorem dX7_pass_76 : decode cX7_pass 76 = .ok (.ishr, 1) := by decide +kernel
theorem dX7_pass_77 : decode cX7_pass 77 = .ok (.ixor, 1) := by decide +kernel
theorem dX7_pass_78 : decode cX7_pass 78 = .ok (.iload_n 2, 1) := by decide +kernel
theorem dX7_pass_79 : decode cX7_pass 79 = .ok (.iand, 1) := by decide +kernel
theorem dX7_pass_80 : decode cX7_pass 80 = .ok (.istore 5, 2) := by decide +kernel
theorem dX7_pass_82 : decode cX7_pass 82 = .ok (.iload_n 1, 1) := by decide +kernel
theorem dX7_pass_83 : decode cX7_pass 83 = .ok (.iload 5, 2) := by decide +kernel
theorem dX7_pass_85 : decode cX7_pass 85 = .ok (.iload_n 3, 1) := by decide +kernel
theorem dX7_pass_86 : decode cX7_pass 86 = .ok (.ishl, 1) := by decide +kernel
theorem dX7_pass_87 : decode cX7_pass 87 = .ok (.ixor, 1) := by decide +kernel
theorem dX7_pass_88 : decode cX7_pass 88 = .ok (.iload 5, 2) := by decide +kernel
theorem dX7_pass_90 : decode cX7_pass 90 = .ok (.iload 4, 2) := by decide +kernel
theorem dX7_pass_92 : decode cX7_pass 92 = .ok (.ishl, 1) := by decide +kernel
theorem dX7_pass_93 : decode cX7_pass 93 = .ok (.ixor, 1) := by decide +kernel
theorem dX7_pass_94 : decode cX7_pass 94 = .ok (.ireturn, 1) := by decide +kernel
theorem dX7_kindOf_0 : decode cX7_kindOf 0 = .ok (.iload_n 0, 1) := by decide +kernel
theorem dX7_kindOf_1 : decode cX7_kindOf 1 = .ok (.bipush 64, 2) := by decide +kernel
theorem dX7_kindOf_3 : decode cX7_kindOf 3 = .ok (.if_icmp .ge 7, 3) := by decide +kernel
theorem dX7_kindOf_6 : decode cX7_kindOf 6 = .ok (.iconst 0, 1) := by decide +kernel
theorem dX7_kindOf_7 : decode cX7_kindOf 7 = .ok (.goto 4, 3) := by decide +kernel
theorem dX7_kindOf_10 : decode cX7_kindOf 10 = .ok (.iconst 3, 1) := by decide +kernel
theorem dX7_kindOf_11 : decode cX7_kindOf 11 = .ok (.iload_n 0, 1) := by decide +kernel
theorem dX7_kindOf_12 : decode cX7_kindOf 12 = .ok (.bipush 7, 2) := by decide +kernel
theorem dX7_kindOf_14 : decode cX7_kindOf 14 = .ok (.iand, 1) := by decide +kernel
theorem dX7_kindOf_15 : decode cX7_kindOf 15 = .ok (.invokestatic 90, 3) := by decide +kernel
theorem dX7_kindOf_18 : decode cX7_kindOf 18 = .ok (.iadd, 1) := by decide +kernel
theorem dX7_kindOf_19 : decode cX7_kindOf 19 = .ok (.ireturn, 1) := by decide +kernel
theorem dX7_beginNear_0 : decode cX7_beginNear 0 = .ok (.aload_n 0, 1) := by decide +kernel
theorem dX7_beginNear_1 : decode cX7_beginNear 1 = .ok (.getfield 27, 3) := by decide +kernel
theorem dX7_beginNear_4 : decode cX7_beginNear 4 = .ok (.arraylength, 1) := by decide +kernel
theorem dX7_beginNear_5 : decode cX7_beginNear 5 = .ok (.ifCond .ne 23, 3) := by decide +kernel
theorem dX7_beginNear_8 : decode cX7_beginNear 8 = .ok (.aload_n 0, 1) := by decide +kernel
theorem dX7_beginNear_9 : decode cX7_beginNear 9 = .ok (.ldc 95, 2) := by decide +kernel
theorem dX7_beginNear_11 : decode cX7_beginNear 11 = .ok (.newarray .int, 2) := by decide +kernel
theorem dX7_beginNear_13 : decode cX7_beginNear 13 = .ok (.putfield 27, 3) := by decide +kernel
theorem dX7_beginNear_16 : decode cX7_beginNear 16 = .ok (.aload_n 0, 1) := by decide +kernel
theorem dX7_beginNear_17 : decode cX7_beginNear 17 = .ok (.sipush 16384, 3) := by decide +kernel
theorem dX7_beginNear_20 : decode cX7_beginNear 20 = .ok (.newarray .int, 2) := by decide +kernel
theorem dX7_beginNear_22 : decode cX7_beginNear 22 = .ok (.putfield 30, 3) := by decide +kernel
theorem dX7_beginNear_25 : decode cX7_beginNear 25 = .ok (.goto 11, 3) := by decide +kernel
theorem dX7_beginNear_28 : decode cX7_beginNear 28 = .ok (.aload_n 0, 1) := by decide +kernel
theorem dX7_beginNear_29 : decode cX7_beginNear 29 = .ok (.getfield 27, 3) := by decide +kernel
theorem dX7_beginNear_32 : decode cX7_beginNear 32 = .ok (.iconst 0, 1) := by decide +kernel
theorem dX7_beginNear_33 : decode cX7_beginNear 33 = .ok (.invokestatic 96, 3) := by decide +kernel
theorem dX7_beginNear_36 : decode cX7_beginNear 36 = .ok (.aload_n 0, 1) := by decide +kernel
theorem dX7_beginNear_37 : decode cX7_beginNear 37 = .ok (.iload_n 1, 1) := by decide +kernel
theorem dX7_beginNear_38 : decode cX7_beginNear 38 = .ok (.putfield 33, 3) := by decide +kernel
theorem dX7_beginNear_41 : decode cX7_beginNear 41 = .ok (.aload_n 0, 1) := by decide +kernel
theorem dX7_beginNear_42 : decode cX7_beginNear 42 = .ok (.iconst 0, 1) := by decide +kernel
theorem dX7_beginNear_43 : decode cX7_beginNear 43 = .ok (.putfield 102, 3) := by decide +kernel
theorem dX7_beginNear_46 : decode cX7_beginNear 46 = .ok (.iconst 0, 1) := by decide +kernel
theorem dX7_beginNear_47 : decode cX7_beginNear 47 = .ok (.istore_n 2, 1) := by decide +kernel
theorem dX7_beginNear_48 : decode cX7_beginNear 48 = .ok (.iload_n 2, 1) := by decide +kernel
theorem dX7_beginNear_49 : decode cX7_beginNear 49 = .ok (.getstatic 9, 3) := by decide +kernel
theorem dX7_beginNear_52 : decode cX7_beginNear 52 = .ok (.arraylength, 1) := by decide +kernel
theorem dX7_beginNear_53 : decode cX7_beginNear 53 = .ok (.if_icmp .ge 48, 3) := by decide +kernel
theorem dX7_beginNear_56 : decode cX7_beginNear 56 = .ok (.iload_n 1, 1) := by decide +kernel
theorem dX7_beginNear_57 : decode cX7_beginNear 57 = .ok (.getstatic 9, 3) := by decide +kernel
theorem dX7_beginNear_60 : decode cX7_beginNear 60 = .ok (.iload_n 2, 1) := by decide +kernel
theorem dX7_beginNear_61 : decode cX7_beginNear 61 = .ok (.iaload, 1) := by decide +kernel
theorem dX7_beginNear_62 : decode cX7_beginNear 62 = .ok (.invokestatic 105, 3) := by decide +kernel
theorem dX7_beginNear_65 : decode cX7_beginNear 65 = .ok (.ishr, 1) := by decide +kernel
theorem dX7_beginNear_66 : decode cX7_beginNear 66 = .ok (.iconst 1, 1) := by decide +kernel
theorem dX7_beginNear_67 : decode cX7_beginNear 67 = .ok (.iand, 1) := by decide +kernel
theorem dX7_beginNear_68 : decode cX7_beginNear 68 = .ok (.ifCond .eq 27, 3) := by decide +kernel
theorem dX7_beginNear_71 : decode cX7_beginNear 71 = .ok (.aload_n 0, 1) := by decide +kernel
theorem dX7_beginNear_72 : decode cX7_beginNear 72 = .ok (.getfield 15, 3) := by decide +kernel
theorem dX7_beginNear_75 : decode cX7_beginNear 75 = .ok (.aload_n 0, 1) := by decide +kernel
theorem dX7_beginNear_76 : decode cX7_beginNear 76 = .ok (.getfield 102, 3) := by decide +kernel
theorem dX7_beginNear_79 : decode cX7_beginNear 79 = .ok (.getstatic 9, 3) := by decide +kernel
theorem dX7_beginNear_82 : decode cX7_beginNear 82 = .ok (.iload_n 2, 1) := by decide +kernel
theorem dX7_beginNear_83 : decode cX7_beginNear 83 = .ok (.iaload, 1) := by decide +kernel
theorem dX7_beginNear_84 : decode cX7_beginNear 84 = .ok (.iastore, 1) := by decide +kernel
theorem dX7_beginNear_85 : decode cX7_beginNear 85 = .ok (.aload_n 0, 1) := by decide +kernel
theorem dX7_beginNear_86 : decode cX7_beginNear 86 = .ok (.dup, 1) := by decide +kernel
theorem dX7_beginNear_87 : decode cX7_beginNear 87 = .ok (.getfield 102, 3) := by decide +kernel
theorem dX7_beginNear_90 : decode cX7_beginNear 90 = .ok (.iconst 1, 1) := by decide +kernel
theorem dX7_beginNear_91 : decode cX7_beginNear 91 = .ok (.iadd, 1) := by decide +kernel
theorem dX7_beginNear_92 : decode cX7_beginNear 92 = .ok (.putfield 102, 3) := by decide +kernel
theorem dX7_beginNear_95 : decode cX7_beginNear 95 = .ok (.iinc 2 1, 3) := by decide +kernel
theorem dX7_beginNear_98 : decode cX7_beginNear 98 = .ok (.goto (-50), 3) := by decide +kernel
theorem dX7_beginNear_101 : decode cX7_beginNear 101 = .ok (.aload_n 0, 1) := by decide +kernel
theorem dX7_beginNear_102 : decode cX7_beginNear 102 = .ok (.iconst 0, 1) := by decide +kernel
theorem dX7_beginNear_103 : decode cX7_beginNear 103 = .ok (.putfield 56, 3) := by decide +kernel
theorem dX7_beginNear_106 : decode cX7_beginNear 106 = .ok (.aload_n 0, 1) := by decide +kernel
theorem dX7_beginNear_107 : decode cX7_beginNear 107 = .ok (.iconst 0, 1) := by decide +kernel
theorem dX7_beginNear_108 : decode cX7_beginNear 108 = .ok (.putfield 108, 3) := by decide +kernel
theorem dX7_beginNear_111 : decode cX7_beginNear 111 = .ok (.aload_n 0, 1) := by decide +kernel
theorem dX7_beginNear_112 : decode cX7_beginNear 112 = .ok (.iconst 0, 1) := by decide +kernel
theorem dX7_beginNear_113 : decode cX7_beginNear 113 = .ok (.putfield 111, 3) := by decide +kernel
theorem dX7_beginNear_116 : decode cX7_beginNear 116 = .ok (.aload_n 0, 1) := by decide +kernel
theorem dX7_beginNear_117 : decode cX7_beginNear 117 = .ok (.iconst 0, 1) := by decide +kernel
theorem dX7_beginNear_118 : decode cX7_beginNear 118 = .ok (.putfield 52, 3) := by decide +kernel
theorem dX7_beginNear_121 : decode cX7_beginNear 121 = .ok (.aload_n 0, 1) := by decide +kernel
theorem dX7_beginNear_122 : decode cX7_beginNear 122 = .ok (.ldc 114, 2) := by decide +kernel
theorem dX7_beginNear_124 : decode cX7_beginNear 124 = .ok (.invokevirtual 115, 3) := by decide +kernel
theorem dX7_beginNear_127 : decode cX7_beginNear 127 = .ok (.return_, 1) := by decide +kernel
theorem dX7_growNear_0 : decode cX7_growNear 0 = .ok (.aload_n 0, 1) := by decide +kernel
theorem dX7_growNear_1 : decode cX7_growNear 1 = .ok (.getfield 108, 3) := by decide +kernel
theorem dX7_growNear_4 : decode cX7_growNear 4 = .ok (.istore_n 1, 1) := by decide +kernel
theorem dX7_growNear_5 : decode cX7_growNear 5 = .ok (.aload_n 0, 1) := by decide +kernel
theorem dX7_growNear_6 : decode cX7_growNear 6 = .ok (.getfield 56, 3) := by decide +kernel
theorem dX7_growNear_9 : decode cX7_growNear 9 = .ok (.istore_n 2, 1) := by decide +kernel
theorem dX7_growNear_10 : decode cX7_growNear 10 = .ok (.aload_n 0, 1) := by decide +kernel
theorem dX7_growNear_11 : decode cX7_growNear 11 = .ok (.aload_n 0, 1) := by decide +kernel
theorem dX7_growNear_12 : decode cX7_growNear 12 = .ok (.getfield 56, 3) := by decide +kernel
theorem dX7_growNear_15 : decode cX7_growNear 15 = .ok (.putfield 108, 3) := by decide +kernel
theorem dX7_growNear_18 : decode cX7_growNear 18 = .ok (.aload_n 0, 1) := by decide +kernel
theorem dX7_growNear_19 : decode cX7_growNear 19 = .ok (.dup, 1) := by decide +kernel
theorem dX7_growNear_20 : decode cX7_growNear 20 = .ok (.getfield 111, 3) := by decide +kernel
theorem dX7_growNear_23 : decode cX7_growNear 23 = .ok (.iconst 1, 1) := by decide +kernel
theorem dX7_growNear_24 : decode cX7_growNear 24 = .ok (.iadd, 1) := by decide +kernel
theorem dX7_growNear_25 : decode cX7_growNear 25 = .ok (.putfield 111, 3) := by decide +kernel
theorem dX7_growNear_28 : decode cX7_growNear 28 = .ok (.iload_n 1, 1) := by decide +kernel
theorem dX7_growNear_29 : decode cX7_growNear 29 = .ok (.istore_n 3, 1) := by decide +kernel
theorem dX7_growNear_30 : decode cX7_growNear 30 = .ok (.iload_n 3, 1) := by decide +kernel
theorem dX7_growNear_31 : decode cX7_growNear 31 = .ok (.iload_n 2, 1) := by decide +kernel
theorem dX7_growNear_32 : decode cX7_growNear 32 = .ok (.if_icmp .ge 47, 3) := by decide +kernel
theorem dX7_growNear_35 : decode cX7_growNear 35 = .ok (.iconst 0, 1) := by decide +kernel
theorem dX7_growNear_36 : decode cX7_growNear 36 = .ok (.istore 4, 2) := by decide +kernel
theorem dX7_growNear_38 : decode cX7_growNear 38 = .ok (.iload 4, 2) := by decide +kernel
theorem dX7_growNear_40 : decode cX7_growNear 40 = .ok (.aload_n 0, 1) := by decide +kernel
theorem dX7_growNear_41 : decode cX7_growNear 41 = .ok (.getfield 102, 3) := by decide +kernel
theorem dX7_growNear_44 : decode cX7_growNear 44 = .ok (.if_icmp .ge 29, 3) := by decide +kernel
theorem dX7_growNear_47 : decode cX7_growNear 47 = .ok (.aload_n 0, 1) := by decide +kernel
theorem dX7_growNear_48 : decode cX7_growNear 48 = .ok (.aload_n 0, 1) := by decide +kernel
theorem dX7_growNear_49 : decode cX7_growNear 49 = .ok (.getfield 15, 3) := by decide +kernel
theorem dX7_growNear_52 : decode cX7_growNear 52 = .ok (.iload 4, 2) := by decide +kernel
theorem dX7_growNear_54 : decode cX7_growNear 54 = .ok (.iaload, 1) := by decide +kernel
theorem dX7_growNear_55 : decode cX7_growNear 55 = .ok (.aload_n 0, 1) := by decide +kernel
theorem dX7_growNear_56 : decode cX7_growNear 56 = .ok (.getfield 30, 3) := by decide +kernel
theorem dX7_growNear_59 : decode cX7_growNear 59 = .ok (.iload_n 3, 1) := by decide +kernel
theorem dX7_growNear_60 : decode cX7_growNear 60 = .ok (.iaload, 1) := by decide +kernel
theorem dX7_growNear_61 : decode cX7_growNear 61 = .ok (.invokestatic 118, 3) := by decide +kernel
theorem dX7_growNear_64 : decode cX7_growNear 64 = .ok (.invokevirtual 115, 3) := by decide +kernel
theorem dX7_growNear_67 : decode cX7_growNear 67 = .ok (.iinc 4 1, 3) := by decide +kernel
theorem dX7_growNear_70 : decode cX7_growNear 70 = .ok (.goto (-32), 3) := by decide +kernel
theorem dX7_growNear_73 : decode cX7_growNear 73 = .ok (.iinc 3 1, 3) := by decide +kernel
theorem dX7_growNear_76 : decode cX7_growNear 76 = .ok (.goto (-46), 3) := by decide +kernel
theorem dX7_growNear_79 : decode cX7_growNear 79 = .ok (.aload_n 0, 1) := by decide +kernel
theorem dX7_growNear_80 : decode cX7_growNear 80 = .ok (.aload_n 0, 1) := by decide +kernel
theorem dX7_growNear_81 : decode cX7_growNear 81 = .ok (.getfield 56, 3) := by decide +kernel
theorem dX7_growNear_84 : decode cX7_growNear 84 = .ok (.iload_n 2, 1) := by decide +kernel
theorem dX7_growNear_85 : decode cX7_growNear 85 = .ok (.if_icmp .ne 7, 3) := by decide +kernel
theorem dX7_growNear_88 : decode cX7_growNear 88 = .ok (.iconst 1, 1) := by decide +kernel
theorem dX7_growNear_89 : decode cX7_growNear 89 = .ok (.goto 4, 3) := by decide +kernel
theorem dX7_growNear_92 : decode cX7_growNear 92 = .ok (.iconst 0, 1) := by decide +kernel
theorem dX7_growNear_93 : decode cX7_growNear 93 = .ok (.putfield 52, 3) := by decide +kernel
theorem dX7_growNear_96 : decode cX7_growNear 96 = .ok (.return_, 1) := by decide +kernel
theorem dX7_keep_0 : decode cX7_keep 0 = .ok (.aload_n 0, 1) := by decide +kernel
theorem dX7_keep_1 : decode cX7_keep 1 = .ok (.iload_n 1, 1) := by decide +kernel
theorem dX7_keep_2 : decode cX7_keep 2 = .ok (.invokevirtual 122, 3) := by decide +kernel
theorem dX7_keep_5 : decode cX7_keep 5 = .ok (.istore_n 2, 1) := by decide +kernel
theorem dX7_keep_6 : decode cX7_keep 6 = .ok (.aload_n 0, 1) := by decide +kernel
theorem dX7_keep_7 : decode cX7_keep 7 = .ok (.getfield 27, 3) := by decide +kernel
theorem dX7_keep_10 : decode cX7_keep 10 = .ok (.iload_n 2, 1) := by decide +kernel
theorem dX7_keep_11 : decode cX7_keep 11 = .ok (.iaload, 1) := by decide +kernel
theorem dX7_keep_12 : decode cX7_keep 12 = .ok (.ifCond .ne 50, 3) := by decide +kernel
theorem dX7_keep_15 : decode cX7_keep 15 = .ok (.aload_n 0, 1) := by decide +kernel
theorem dX7_keep_16 : decode cX7_keep 16 = .ok (.getfield 56, 3) := by decide +kernel
theorem dX7_keep_19 : decode cX7_keep 19 = .ok (.aload_n 0, 1) := by decide +kernel
theorem dX7_keep_20 : decode cX7_keep 20 = .ok (.getfield 30, 3) := by decide +kernel
theorem dX7_keep_23 : decode cX7_keep 23 = .ok (.arraylength, 1) := by decide +kernel
theorem dX7_keep_24 : decode cX7_keep 24 = .ok (.if_icmp .ge 38, 3) := by decide +kernel
theorem dX7_keep_27 : decode cX7_keep 27 = .ok (.aload_n 0, 1) := by decide +kernel
theorem dX7_keep_28 : decode cX7_keep 28 = .ok (.getfield 27, 3) := by decide +kernel
theorem dX7_keep_31 : decode cX7_keep 31 = .ok (.iload_n 2, 1) := by decide +kernel
theorem dX7_keep_32 : decode cX7_keep 32 = .ok (.aload_n 0, 1) := by decide +kernel
theorem dX7_keep_33 : decode cX7_keep 33 = .ok (.getfield 111, 3) := by decide +kernel
theorem dX7_keep_36 : decode cX7_keep 36 = .ok (.bipush 24, 2) := by decide +kernel
theorem dX7_keep_38 : decode cX7_keep 38 = .ok (.ishl, 1) := by decide +kernel
theorem dX7_keep_39 : decode cX7_keep 39 = .ok (.iload_n 1, 1) := by decide +kernel
theorem dX7_keep_40 : decode cX7_keep 40 = .ok (.ior, 1) := by decide +kernel
theorem dX7_keep_41 : decode cX7_keep 41 = .ok (.iastore, 1) := by decide +kernel
theorem dX7_keep_42 : decode cX7_keep 42 = .ok (.aload_n 0, 1) := by decide +kernel
theorem dX7_keep_43 : decode cX7_keep 43 = .ok (.getfield 30, 3) := by decide +kernel
theorem dX7_keep_46 : decode cX7_keep 46 = .ok (.aload_n 0, 1) := by decide +kernel
theorem dX7_keep_47 : decode cX7_keep 47 = .ok (.getfield 56, 3) := by decide +kernel
theorem dX7_keep_50 : decode cX7_keep 50 = .ok (.iload_n 1, 1) := by decide +kernel
theorem dX7_keep_51 : decode cX7_keep 51 = .ok (.iastore, 1) := by decide +kernel
theorem dX7_keep_52 : decode cX7_keep 52 = .ok (.aload_n 0, 1) := by decide +kernel
theorem dX7_keep_53 : decode cX7_keep 53 = .ok (.dup, 1) := by decide +kernel
theorem dX7_keep_54 : decode cX7_keep 54 = .ok (.getfield 56, 3) := by decide +kernel
theorem dX7_keep_57 : decode cX7_keep 57 = .ok (.iconst 1, 1) := by decide +kernel
theorem dX7_keep_58 : decode cX7_keep 58 = .ok (.iadd, 1) := by decide +kernel
theorem dX7_keep_59 : decode cX7_keep 59 = .ok (.putfield 56, 3) := by decide +kernel
theorem dX7_keep_62 : decode cX7_keep 62 = .ok (.return_, 1) := by decide +kernel
theorem dX7_distance_0 : decode cX7_distance 0 = .ok (.aload_n 0, 1) := by decide +kernel
theorem dX7_distance_1 : decode cX7_distance 1 = .ok (.getfield 27, 3) := by decide +kernel
theorem dX7_distance_4 : decode cX7_distance 4 = .ok (.aload_n 0, 1) := by decide +kernel
theorem dX7_distance_5 : decode cX7_distance 5 = .ok (.iload_n 1, 1) := by decide +kernel
theorem dX7_distance_6 : decode cX7_distance 6 = .ok (.invokevirtual 122, 3) := by decide +kernel
theorem dX7_distance_9 : decode cX7_distance 9 = .ok (.iaload, 1) := by decide +kernel
theorem dX7_distance_10 : decode cX7_distance 10 = .ok (.istore_n 2, 1) := by decide +kernel
theorem dX7_distance_11 : decode cX7_distance 11 = .ok (.iload_n 2, 1) := by decide +kernel
theorem dX7_distance_12 : decode cX7_distance 12 = .ok (.ifCond .ne 7, 3) := by decide +kernel
theorem dX7_distance_15 : decode cX7_distance 15 = .ok (.iconst (-1), 1) := by decide +kernel
theorem dX7_distance_16 : decode cX7_distance 16 = .ok (.goto 7, 3) := by decide +kernel
theorem dX7_distance_19 : decode cX7_distance 19 = .ok (.iload_n 2, 1) := by decide +kernel
theorem dX7_distance_20 : decode cX7_distance 20 = .ok (.bipush 24, 2) := by decide +kernel
theorem dX7_distance_22 : decode cX7_distance 22 = .ok (.ishr, 1) := by decide +kernel
theorem dX7_distance_23 : decode cX7_distance 23 = .ok (.ireturn, 1) := by decide +kernel
theorem dX7_slotOf_0 : decode cX7_slotOf 0 = .ok (.iload_n 1, 1) := by decide +kernel
theorem dX7_slotOf_1 : decode cX7_slotOf 1 = .ok (.ldc 125, 2) := by decide +kernel
theorem dX7_slotOf_3 : decode cX7_slotOf 3 = .ok (.imul, 1) := by decide +kernel
theorem dX7_slotOf_4 : decode cX7_slotOf 4 = .ok (.bipush 17, 2) := by decide +kernel
theorem dX7_slotOf_6 : decode cX7_slotOf 6 = .ok (.iushr, 1) := by decide +kernel
theorem dX7_slotOf_7 : decode cX7_slotOf 7 = .ok (.istore_n 2, 1) := by decide +kernel
theorem dX7_slotOf_8 : decode cX7_slotOf 8 = .ok (.iconst 0, 1) := by decide +kernel
theorem dX7_slotOf_9 : decode cX7_slotOf 9 = .ok (.istore_n 3, 1) := by decide +kernel
theorem dX7_slotOf_10 : decode cX7_slotOf 10 = .ok (.iload_n 3, 1) := by decide +kernel
theorem dX7_slotOf_11 : decode cX7_slotOf 11 = .ok (.ldc 95, 2) := by decide +kernel
theorem dX7_slotOf_13 : decode cX7_slotOf 13 = .ok (.if_icmp .ge 39, 3) := by decide +kernel
theorem dX7_slotOf_16 : decode cX7_slotOf 16 = .ok (.aload_n 0, 1) := by decide +kernel
theorem dX7_slotOf_17 : decode cX7_slotOf 17 = .ok (.getfield 27, 3) := by decide +kernel
theorem dX7_slotOf_20 : decode cX7_slotOf 20 = .ok (.iload_n 2, 1) := by decide +kernel
theorem dX7_slotOf_21 : decode cX7_slotOf 21 = .ok (.iaload, 1) := by decide +kernel
theorem dX7_slotOf_22 : decode cX7_slotOf 22 = .ok (.ifCond .eq 30, 3) := by decide +kernel
theorem dX7_slotOf_25 : decode cX7_slotOf 25 = .ok (.aload_n 0, 1) := by decide +kernel
theorem dX7_slotOf_26 : decode cX7_slotOf 26 = .ok (.getfield 27, 3) := by decide +kernel
theorem dX7_slotOf_29 : decode cX7_slotOf 29 = .ok (.iload_n 2, 1) := by decide +kernel
theorem dX7_slotOf_30 : decode cX7_slotOf 30 = .ok (.iaload, 1) := by decide +kernel
theorem dX7_slotOf_31 : decode cX7_slotOf 31 = .ok (.ldc 126, 2) := by decide +kernel
theorem dX7_slotOf_33 : decode cX7_slotOf 33 = .ok (.iand, 1) := by decide +kernel
theorem dX7_slotOf_34 : decode cX7_slotOf 34 = .ok (.iload_n 1, 1) := by decide +kernel
theorem dX7_slotOf_35 : decode cX7_slotOf 35 = .ok (.if_icmp .eq 17, 3) := by decide +kernel
theorem dX7_slotOf_38 : decode cX7_slotOf 38 = .ok (.iload_n 2, 1) := by decide +kernel
theorem dX7_slotOf_39 : decode cX7_slotOf 39 = .ok (.iconst 1, 1) := by decide +kernel
theorem dX7_slotOf_40 : decode cX7_slotOf 40 = .ok (.iadd, 1) := by decide +kernel
theorem dX7_slotOf_41 : decode cX7_slotOf 41 = .ok (.sipush 32767, 3) := by decide +kernel
theorem dX7_slotOf_44 : decode cX7_slotOf 44 = .ok (.iand, 1) := by decide +kernel
theorem dX7_slotOf_45 : decode cX7_slotOf 45 = .ok (.istore_n 2, 1) := by decide +kernel
theorem dX7_slotOf_46 : decode cX7_slotOf 46 = .ok (.iinc 3 1, 3) := by decide +kernel
theorem dX7_slotOf_49 : decode cX7_slotOf 49 = .ok (.goto (-39), 3) := by decide +kernel
theorem dX7_slotOf_52 : decode cX7_slotOf 52 = .ok (.iload_n 2, 1) := by decide +kernel
theorem dX7_slotOf_53 : decode cX7_slotOf 53 = .ok (.ireturn, 1) := by decide +kernel
theorem dX7_stepsToRim_0 : decode cX7_stepsToRim 0 = .ok (.aload_n 0, 1) := by decide +kernel
theorem dX7_stepsToRim_1 : decode cX7_stepsToRim 1 = .ok (.getfield 24, 3) := by decide +kernel
theorem dX7_stepsToRim_4 : decode cX7_stepsToRim 4 = .ok (.iconst 0, 1) := by decide +kernel
theorem dX7_stepsToRim_5 : decode cX7_stepsToRim 5 = .ok (.aload_n 0, 1) := by decide +kernel
theorem dX7_stepsToRim_6 : decode cX7_stepsToRim 6 = .ok (.getfield 45, 3) := by decide +kernel
theorem dX7_stepsToRim_9 : decode cX7_stepsToRim 9 = .ok (.iastore, 1) := by decide +kernel
theorem dX7_stepsToRim_10 : decode cX7_stepsToRim 10 = .ok (.iconst 1, 1) := by decide +kernel
theorem dX7_stepsToRim_11 : decode cX7_stepsToRim 11 = .ok (.istore_n 1, 1) := by decide +kernel
theorem dX7_stepsToRim_12 : decode cX7_stepsToRim 12 = .ok (.iload_n 1, 1) := by decide +kernel
theorem dX7_stepsToRim_13 : decode cX7_stepsToRim 13 = .ok (.bipush 12, 2) := by decide +kernel
theorem dX7_stepsToRim_15 : decode cX7_stepsToRim 15 = .ok (.if_icmp .gt 19, 3) := by decide +kernel
theorem dX7_stepsToRim_18 : decode cX7_stepsToRim 18 = .ok (.aload_n 0, 1) := by decide +kernel
theorem dX7_stepsToRim_19 : decode cX7_stepsToRim 19 = .ok (.iload_n 1, 1) := by decide +kernel
theorem dX7_stepsToRim_20 : decode cX7_stepsToRim 20 = .ok (.invokevirtual 127, 3) := by decide +kernel
theorem dX7_stepsToRim_23 : decode cX7_stepsToRim 23 = .ok (.ifCond .eq 5, 3) := by decide +kernel
theorem dX7_stepsToRim_26 : decode cX7_stepsToRim 26 = .ok (.iload_n 1, 1) := by decide +kernel
theorem dX7_stepsToRim_27 : decode cX7_stepsToRim 27 = .ok (.ireturn, 1) := by decide +kernel
theorem dX7_stepsToRim_28 : decode cX7_stepsToRim 28 = .ok (.iinc 1 1, 3) := by decide +kernel
theorem dX7_stepsToRim_31 : decode cX7_stepsToRim 31 = .ok (.goto (-19), 3) := by decide +kernel
theorem dX7_stepsToRim_34 : decode cX7_stepsToRim 34 = .ok (.iconst (-1), 1) := by decide +kernel
theorem dX7_stepsToRim_35 : decode cX7_stepsToRim 35 = .ok (.ireturn, 1) := by decide +kernel
theorem dX7_reachRim_0 : decode cX7_reachRim 0 = .ok (.iconst 0, 1) := by decide +kernel
theorem dX7_reachRim_1 : decode cX7_reachRim 1 = .ok (.istore_n 2, 1) := by decide +kernel
theorem dX7_reachRim_2 : decode cX7_reachRim 2 = .ok (.aload_n 0, 1) := by decide +kernel
theorem dX7_reachRim_3 : decode cX7_reachRim 3 = .ok (.getfield 21, 3) := by decide +kernel
theorem dX7_reachRim_6 : decode cX7_reachRim 6 = .ok (.iconst 0, 1) := by decide +kernel
theorem dX7_reachRim_7 : decode cX7_reachRim 7 = .ok (.iconst 0, 1) := by decide +kernel
theorem dX7_reachRim_8 : decode cX7_reachRim 8 = .ok (.iastore, 1) := by decide +kernel
theorem dX7_reachRim_9 : decode cX7_reachRim 9 = .ok (.iconst 0, 1) := by decide +kernel
theorem dX7_reachRim_10 : decode cX7_reachRim 10 = .ok (.istore_n 3, 1) := by decide +kernel
theorem dX7_reachRim_11 : decode cX7_reachRim 11 = .ok (.iload_n 3, 1) := by decide +kernel
theorem dX7_reachRim_12 : decode cX7_reachRim 12 = .ok (.ldc 131, 2) := by decide +kernel
theorem dX7_reachRim_14 : decode cX7_reachRim 14 = .ok (.if_icmp .ge 131, 3) := by decide +kernel
theorem dX7_reachRim_17 : decode cX7_reachRim 17 = .ok (.iload_n 2, 1) := by decide +kernel
theorem dX7_reachRim_18 : decode cX7_reachRim 18 = .ok (.ifCond .lt 127, 3) := by decide +kernel
theorem dX7_reachRim_21 : decode cX7_reachRim 21 = .ok (.iload_n 2, 1) := by decide +kernel
theorem dX7_reachRim_22 : decode cX7_reachRim 22 = .ok (.iload_n 1, 1) := by decide +kernel
theorem dX7_reachRim_23 : decode cX7_reachRim 23 = .ok (.if_icmp .ge 79, 3) := by decide +kernel
theorem dX7_reachRim_26 : decode cX7_reachRim 26 = .ok (.aload_n 0, 1) := by decide +kernel
theorem dX7_reachRim_27 : decode cX7_reachRim 27 = .ok (.getfield 21, 3) := by decide +kernel
theorem dX7_reachRim_30 : decode cX7_reachRim 30 = .ok (.iload_n 2, 1) := by decide +kernel
theorem dX7_reachRim_31 : decode cX7_reachRim 31 = .ok (.iaload, 1) := by decide +kernel
theorem dX7_reachRim_32 : decode cX7_reachRim 32 = .ok (.aload_n 0, 1) := by decide +kernel
theorem dX7_reachRim_33 : decode cX7_reachRim 33 = .ok (.getfield 102, 3) := by decide +kernel
theorem dX7_reachRim_36 : decode cX7_reachRim 36 = .ok (.if_icmp .ge 66, 3) := by decide +kernel
theorem dX7_reachRim_39 : decode cX7_reachRim 39 = .ok (.aload_n 0, 1) := by decide +kernel
theorem dX7_reachRim_40 : decode cX7_reachRim 40 = .ok (.getfield 18, 3) := by decide +kernel
theorem dX7_reachRim_43 : decode cX7_reachRim 43 = .ok (.iload_n 2, 1) := by decide +kernel
theorem dX7_reachRim_44 : decode cX7_reachRim 44 = .ok (.aload_n 0, 1) := by decide +kernel
theorem dX7_reachRim_45 : decode cX7_reachRim 45 = .ok (.getfield 15, 3) := by decide +kernel
theorem dX7_reachRim_48 : decode cX7_reachRim 48 = .ok (.aload_n 0, 1) := by decide +kernel
theorem dX7_reachRim_49 : decode cX7_reachRim 49 = .ok (.getfield 21, 3) := by decide +kernel
theorem dX7_reachRim_52 : decode cX7_reachRim 52 = .ok (.iload_n 2, 1) := by decide +kernel
theorem dX7_reachRim_53 : decode cX7_reachRim 53 = .ok (.iaload, 1) := by decide +kernel
theorem dX7_reachRim_54 : decode cX7_reachRim 54 = .ok (.iaload, 1) := by decide +kernel
theorem dX7_reachRim_55 : decode cX7_reachRim 55 = .ok (.iastore, 1) := by decide +kernel
theorem dX7_reachRim_56 : decode cX7_reachRim 56 = .ok (.aload_n 0, 1) := by decide +kernel
theorem dX7_reachRim_57 : decode cX7_reachRim 57 = .ok (.getfield 21, 3) := by decide +kernel
theorem dX7_reachRim_60 : decode cX7_reachRim 60 = .ok (.iload_n 2, 1) := by decide +kernel
theorem dX7_reachRim_61 : decode cX7_reachRim 61 = .ok (.dup2, 1) := by decide +kernel
theorem dX7_reachRim_62 : decode cX7_reachRim 62 = .ok (.iaload, 1) := by decide +kernel
theorem dX7_reachRim_63 : decode cX7_reachRim 63 = .ok (.iconst 1, 1) := by decide +kernel
theorem dX7_reachRim_64 : decode cX7_reachRim 64 = .ok (.iadd, 1) := by decide +kernel
theorem dX7_reachRim_65 : decode cX7_reachRim 65 = .ok (.iastore, 1) := by decide +kernel
theorem dX7_reachRim_66 : decode cX7_reachRim 66 = .ok (.aload_n 0, 1) := by decide +kernel
theorem dX7_reachRim_67 : decode cX7_reachRim 67 = .ok (.getfield 24, 3) := by decide +kernel
theorem dX7_reachRim_70 : decode cX7_reachRim 70 = .ok (.iload_n 2, 1) := by decide +kernel
theorem dX7_reachRim_71 : decode cX7_reachRim 71 = .ok (.iconst 1, 1) := by decide +kernel
theorem dX7_reachRim_72 : decode cX7_reachRim 72 = .ok (.iadd, 1) := by decide +kernel
theorem dX7_reachRim_73 : decode cX7_reachRim 73 = .ok (.aload_n 0, 1) := by decide +kernel
theorem dX7_reachRim_74 : decode cX7_reachRim 74 = .ok (.getfield 18, 3) := by decide +kernel
theorem dX7_reachRim_77 : decode cX7_reachRim 77 = .ok (.iload_n 2, 1) := by decide +kernel
theorem dX7_reachRim_78 : decode cX7_reachRim 78 = .ok (.iaload, 1) := by decide +kernel
theorem dX7_reachRim_79 : decode cX7_reachRim 79 = .ok (.aload_n 0, 1) := by decide +kernel
theorem dX7_reachRim_80 : decode cX7_reachRim 80 = .ok (.getfield 24, 3) := by decide +kernel
theorem dX7_reachRim_83 : decode cX7_reachRim 83 = .ok (.iload_n 2, 1) := by decide +kernel
theorem dX7_reachRim_84 : decode cX7_reachRim 84 = .ok (.iaload, 1) := by decide +kernel
theorem dX7_reachRim_85 : decode cX7_reachRim 85 = .ok (.invokestatic 118, 3) := by decide +kernel
theorem dX7_reachRim_88 : decode cX7_reachRim 88 = .ok (.iastore, 1) := by decide +kernel
theorem dX7_reachRim_89 : decode cX7_reachRim 89 = .ok (.iinc 2 1, 3) := by decide +kernel
theorem dX7_reachRim_92 : decode cX7_reachRim 92 = .ok (.aload_n 0, 1) := by decide +kernel
theorem dX7_reachRim_93 : decode cX7_reachRim 93 = .ok (.getfield 21, 3) := by decide +kernel
theorem dX7_reachRim_96 : decode cX7_reachRim 96 = .ok (.iload_n 2, 1) := by decide +kernel
theorem dX7_reachRim_97 : decode cX7_reachRim 97 = .ok (.iconst 0, 1) := by decide +kernel
theorem dX7_reachRim_98 : decode cX7_reachRim 98 = .ok (.iastore, 1) := by decide +kernel
theorem dX7_reachRim_99 : decode cX7_reachRim 99 = .ok (.goto 40, 3) := by decide +kernel
theorem dX7_reachRim_102 : decode cX7_reachRim 102 = .ok (.iload_n 2, 1) := by decide +kernel
theorem dX7_reachRim_103 : decode cX7_reachRim 103 = .ok (.iload_n 1, 1) := by decide +kernel
theorem dX7_reachRim_104 : decode cX7_reachRim 104 = .ok (.if_icmp .ne 32, 3) := by decide +kernel
theorem dX7_reachRim_107 : decode cX7_reachRim 107 = .ok (.aload_n 0, 1) := by decide +kernel
theorem dX7_reachRim_108 : decode cX7_reachRim 108 = .ok (.aload_n 0, 1) := by decide +kernel
theorem dX7_reachRim_109 : decode cX7_reachRim 109 = .ok (.getfield 24, 3) := by decide +kernel
theorem dX7_reachRim_112 : decode cX7_reachRim 112 = .ok (.iload_n 2, 1) := by decide +kernel
theorem dX7_reachRim_113 : decode cX7_reachRim 113 = .ok (.iaload, 1) := by decide +kernel
theorem dX7_reachRim_114 : decode cX7_reachRim 114 = .ok (.invokevirtual 48, 3) := by decide +kernel
theorem dX7_reachRim_117 : decode cX7_reachRim 117 = .ok (.aload_n 0, 1) := by decide +kernel
theorem dX7_reachRim_118 : decode cX7_reachRim 118 = .ok (.getfield 111, 3) := by decide +kernel
theorem dX7_reachRim_121 : decode cX7_reachRim 121 = .ok (.if_icmp .ne 15, 3) := by decide +kernel
theorem dX7_reachRim_124 : decode cX7_reachRim 124 = .ok (.aload_n 0, 1) := by decide +kernel
theorem dX7_reachRim_125 : decode cX7_reachRim 125 = .ok (.aload_n 0, 1) := by decide +kernel
theorem dX7_reachRim_126 : decode cX7_reachRim 126 = .ok (.getfield 24, 3) := by decide +kernel
theorem dX7_reachRim_129 : decode cX7_reachRim 129 = .ok (.iload_n 2, 1) := by decide +kernel
theorem dX7_reachRim_130 : decode cX7_reachRim 130 = .ok (.iaload, 1) := by decide +kernel
theorem dX7_reachRim_131 : decode cX7_reachRim 131 = .ok (.putfield 45, 3) := by decide +kernel
theorem dX7_reachRim_134 : decode cX7_reachRim 134 = .ok (.iconst 1, 1) := by decide +kernel
theorem dX7_reachRim_135 : decode cX7_reachRim 135 = .ok (.ireturn, 1) := by decide +kernel
theorem dX7_reachRim_136 : decode cX7_reachRim 136 = .ok (.iinc 2 (-1), 3) := by decide +kernel
theorem dX7_reachRim_139 : decode cX7_reachRim 139 = .ok (.iinc 3 1, 3) := by decide +kernel
theorem dX7_reachRim_142 : decode cX7_reachRim 142 = .ok (.goto (-131), 3) := by decide +kernel
theorem dX7_reachRim_145 : decode cX7_reachRim 145 = .ok (.iconst 0, 1) := by decide +kernel
theorem dX7_reachRim_146 : decode cX7_reachRim 146 = .ok (.ireturn, 1) := by decide +kernel
theorem dX7_walkHome_0 : decode cX7_walkHome 0 = .ok (.iload_n 1, 1) := by decide +kernel
theorem dX7_walkHome_1 : decode cX7_walkHome 1 = .ok (.istore_n 2, 1) := by decide +kernel
theorem dX7_walkHome_2 : decode cX7_walkHome 2 = .ok (.aload_n 0, 1) := by decide +kernel
theorem dX7_walkHome_3 : decode cX7_walkHome 3 = .ok (.aload_n 0, 1) := by decide +kernel
theorem dX7_walkHome_4 : decode cX7_walkHome 4 = .ok (.getfield 45, 3) := by decide +kernel
theorem dX7_walkHome_7 : decode cX7_walkHome 7 = .ok (.invokevirtual 48, 3) := by decide +kernel
theorem dX7_walkHome_10 : decode cX7_walkHome 10 = .ok (.istore_n 3, 1) := by decide +kernel
theorem dX7_walkHome_11 : decode cX7_walkHome 11 = .ok (.iload_n 3, 1) := by decide +kernel
theorem dX7_walkHome_12 : decode cX7_walkHome 12 = .ok (.ifCond .le 51, 3) := by decide +kernel
theorem dX7_walkHome_15 : decode cX7_walkHome 15 = .ok (.iload_n 2, 1) := by decide +kernel
theorem dX7_walkHome_16 : decode cX7_walkHome 16 = .ok (.aload_n 0, 1) := by decide +kernel
theorem dX7_walkHome_17 : decode cX7_walkHome 17 = .ok (.getfield 18, 3) := by decide +kernel
theorem dX7_walkHome_20 : decode cX7_walkHome 20 = .ok (.arraylength, 1) := by decide +kernel
theorem dX7_walkHome_21 : decode cX7_walkHome 21 = .ok (.if_icmp .ge 42, 3) := by decide +kernel
theorem dX7_walkHome_24 : decode cX7_walkHome 24 = .ok (.aload_n 0, 1) := by decide +kernel
theorem dX7_walkHome_25 : decode cX7_walkHome 25 = .ok (.getfield 18, 3) := by decide +kernel
theorem dX7_walkHome_28 : decode cX7_walkHome 28 = .ok (.iload_n 2, 1) := by decide +kernel
theorem dX7_walkHome_29 : decode cX7_walkHome 29 = .ok (.aload_n 0, 1) := by decide +kernel
theorem dX7_walkHome_30 : decode cX7_walkHome 30 = .ok (.iload_n 3, 1) := by decide +kernel
theorem dX7_walkHome_31 : decode cX7_walkHome 31 = .ok (.iconst 1, 1) := by decide +kernel
theorem dX7_walkHome_32 : decode cX7_walkHome 32 = .ok (.isub, 1) := by decide +kernel
theorem dX7_walkHome_33 : decode cX7_walkHome 33 = .ok (.invokevirtual 132, 3) := by decide +kernel
theorem dX7_walkHome_36 : decode cX7_walkHome 36 = .ok (.iastore, 1) := by decide +kernel
theorem dX7_walkHome_37 : decode cX7_walkHome 37 = .ok (.aload_n 0, 1) := by decide +kernel
theorem dX7_walkHome_38 : decode cX7_walkHome 38 = .ok (.aload_n 0, 1) := by decide +kernel
theorem dX7_walkHome_39 : decode cX7_walkHome 39 = .ok (.getfield 18, 3) := by decide +kernel
theorem dX7_walkHome_42 : decode cX7_walkHome 42 = .ok (.iload_n 2, 1) := by decide +kernel
theorem dX7_walkHome_43 : decode cX7_walkHome 43 = .ok (.iaload, 1) := by decide +kernel
theorem dX7_walkHome_44 : decode cX7_walkHome 44 = .ok (.aload_n 0, 1) := by decide +kernel
theorem dX7_walkHome_45 : decode cX7_walkHome 45 = .ok (.getfield 45, 3) := by decide +kernel
theorem dX7_walkHome_48 : decode cX7_walkHome 48 = .ok (.invokestatic 118, 3) := by decide +kernel
theorem dX7_walkHome_51 : decode cX7_walkHome 51 = .ok (.putfield 45, 3) := by decide +kernel
theorem dX7_walkHome_54 : decode cX7_walkHome 54 = .ok (.iinc 2 1, 3) := by decide +kernel
theorem dX7_walkHome_57 : decode cX7_walkHome 57 = .ok (.iinc 3 (-1), 3) := by decide +kernel
theorem dX7_walkHome_60 : decode cX7_walkHome 60 = .ok (.goto (-49), 3) := by decide +kernel
theorem dX7_walkHome_63 : decode cX7_walkHome 63 = .ok (.iload_n 2, 1) := by decide +kernel
theorem dX7_walkHome_64 : decode cX7_walkHome 64 = .ok (.ireturn, 1) := by decide +kernel
theorem dX7_stepNearer_0 : decode cX7_stepNearer 0 = .ok (.iconst 0, 1) := by decide +kernel
theorem dX7_stepNearer_1 : decode cX7_stepNearer 1 = .ok (.istore_n 2, 1) := by decide +kernel
theorem dX7_stepNearer_2 : decode cX7_stepNearer 2 = .ok (.iload_n 2, 1) := by decide +kernel
theorem dX7_stepNearer_3 : decode cX7_stepNearer 3 = .ok (.aload_n 0, 1) := by decide +kernel
theorem dX7_stepNearer_4 : decode cX7_stepNearer 4 = .ok (.getfield 102, 3) := by decide +kernel
theorem dX7_stepNearer_7 : decode cX7_stepNearer 7 = .ok (.if_icmp .ge 37, 3) := by decide +kernel
theorem dX7_stepNearer_10 : decode cX7_stepNearer 10 = .ok (.aload_n 0, 1) := by decide +kernel
theorem dX7_stepNearer_11 : decode cX7_stepNearer 11 = .ok (.aload_n 0, 1) := by decide +kernel
theorem dX7_stepNearer_12 : decode cX7_stepNearer 12 = .ok (.getfield 15, 3) := by decide +kernel
theorem dX7_stepNearer_15 : decode cX7_stepNearer 15 = .ok (.iload_n 2, 1) := by decide +kernel
theorem dX7_stepNearer_16 : decode cX7_stepNearer 16 = .ok (.iaload, 1) := by decide +kernel
theorem dX7_stepNearer_17 : decode cX7_stepNearer 17 = .ok (.aload_n 0, 1) := by decide +kernel
theorem dX7_stepNearer_18 : decode cX7_stepNearer 18 = .ok (.getfield 45, 3) := by decide +kernel
theorem dX7_stepNearer_21 : decode cX7_stepNearer 21 = .ok (.invokestatic 118, 3) := by decide +kernel
theorem dX7_stepNearer_24 : decode cX7_stepNearer 24 = .ok (.invokevirtual 48, 3) := by decide +kernel
theorem dX7_stepNearer_27 : decode cX7_stepNearer 27 = .ok (.iload_n 1, 1) := by decide +kernel
theorem dX7_stepNearer_28 : decode cX7_stepNearer 28 = .ok (.if_icmp .ne 10, 3) := by decide +kernel
theorem dX7_stepNearer_31 : decode cX7_stepNearer 31 = .ok (.aload_n 0, 1) := by decide +kernel
theorem dX7_stepNearer_32 : decode cX7_stepNearer 32 = .ok (.getfield 15, 3) := by decide +kernel
theorem dX7_stepNearer_35 : decode cX7_stepNearer 35 = .ok (.iload_n 2, 1) := by decide +kernel
theorem dX7_stepNearer_36 : decode cX7_stepNearer 36 = .ok (.iaload, 1) := by decide +kernel
theorem dX7_stepNearer_37 : decode cX7_stepNearer 37 = .ok (.ireturn, 1) := by decide +kernel
theorem dX7_stepNearer_38 : decode cX7_stepNearer 38 = .ok (.iinc 2 1, 3) := by decide +kernel
theorem dX7_stepNearer_41 : decode cX7_stepNearer 41 = .ok (.goto (-39), 3) := by decide +kernel
theorem dX7_stepNearer_44 : decode cX7_stepNearer 44 = .ok (.iconst 0, 1) := by decide +kernel
theorem dX7_stepNearer_45 : decode cX7_stepNearer 45 = .ok (.ireturn, 1) := by decide +kernel
theorem dX8_init_0 : decode cX8_init 0 = .ok (.aload_n 0, 1) := by decide +kernel
theorem dX8_init_1 : decode cX8_init 1 = .ok (.invokespecial 3, 3) := by decide +kernel
theorem dX8_init_4 : decode cX8_init 4 = .ok (.aload_n 0, 1) := by decide +kernel
theorem dX8_init_5 : decode cX8_init 5 = .ok (.sipush 256, 3) := by decide +kernel
theorem dX8_init_8 : decode cX8_init 8 = .ok (.newarray .int, 2) := by decide +kernel
theorem dX8_init_10 : decode cX8_init 10 = .ok (.putfield 9, 3) := by decide +kernel
theorem dX8_init_13 : decode cX8_init 13 = .ok (.aload_n 0, 1) := by decide +kernel
theorem dX8_init_14 : decode cX8_init 14 = .ok (.bipush 40, 2) := by decide +kernel
theorem dX8_init_16 : decode cX8_init 16 = .ok (.newarray .int, 2) := by decide +kernel
theorem dX8_init_18 : decode cX8_init 18 = .ok (.putfield 15, 3) := by decide +kernel
theorem dX8_init_21 : decode cX8_init 21 = .ok (.aload_n 0, 1) := by decide +kernel
theorem dX8_init_22 : decode cX8_init 22 = .ok (.bipush 40, 2) := by decide +kernel
theorem dX8_init_24 : decode cX8_init 24 = .ok (.newarray .int, 2) := by decide +kernel
theorem dX8_init_26 : decode cX8_init 26 = .ok (.putfield 18, 3) := by decide +kernel
theorem dX8_init_29 : decode cX8_init 29 = .ok (.return_, 1) := by decide +kernel
theorem dX8_oddness_0 : decode cX8_oddness 0 = .ok (.aload_n 1, 1) := by decide +kernel
theorem dX8_oddness_1 : decode cX8_oddness 1 = .ok (.aload_n 0, 1) := by decide +kernel
theorem dX8_oddness_2 : decode cX8_oddness 2 = .ok (.getfield 9, 3) := by decide +kernel
theorem dX8_oddness_5 : decode cX8_oddness 5 = .ok (.invokevirtual 21, 3) := by decide +kernel
theorem dX8_oddness_8 : decode cX8_oddness 8 = .ok (.iconst 0, 1) := by decide +kernel
theorem dX8_oddness_9 : decode cX8_oddness 9 = .ok (.istore_n 2, 1) := by decide +kernel
theorem dX8_oddness_10 : decode cX8_oddness 10 = .ok (.iconst 0, 1) := by decide +kernel
theorem dX8_oddness_11 : decode cX8_oddness 11 = .ok (.istore_n 3, 1) := by decide +kernel
theorem dX8_oddness_12 : decode cX8_oddness 12 = .ok (.iload_n 3, 1) := by decide +kernel
theorem dX8_oddness_13 : decode cX8_oddness 13 = .ok (.aload_n 1, 1) := by decide +kernel
theorem dX8_oddness_14 : decode cX8_oddness 14 = .ok (.invokevirtual 27, 3) := by decide +kernel
theorem dX8_oddness_17 : decode cX8_oddness 17 = .ok (.if_icmp .ge 31, 3) := by decide +kernel
theorem dX8_oddness_20 : decode cX8_oddness 20 = .ok (.aload_n 0, 1) := by decide +kernel
theorem dX8_oddness_21 : decode cX8_oddness 21 = .ok (.getfield 9, 3) := by decide +kernel
theorem dX8_oddness_24 : decode cX8_oddness 24 = .ok (.iload_n 3, 1) := by decide +kernel
theorem dX8_oddness_25 : decode cX8_oddness 25 = .ok (.iaload, 1) := by decide +kernel
theorem dX8_oddness_26 : decode cX8_oddness 26 = .ok (.iconst (-1), 1) := by decide +kernel
theorem dX8_oddness_27 : decode cX8_oddness 27 = .ok (.if_icmp .eq 15, 3) := by decide +kernel
theorem dX8_oddness_30 : decode cX8_oddness 30 = .ok (.iload_n 2, 1) := by decide +kernel
theorem dX8_oddness_31 : decode cX8_oddness 31 = .ok (.aload_n 0, 1) := by decide +kernel
theorem dX8_oddness_32 : decode cX8_oddness 32 = .ok (.iload_n 3, 1) := by decide +kernel
theorem dX8_oddness_33 : decode cX8_oddness 33 = .ok (.invokevirtual 31, 3) := by decide +kernel
theorem dX8_oddness_36 : decode cX8_oddness 36 = .ok (.iconst 1, 1) := by decide +kernel
theorem dX8_oddness_37 : decode cX8_oddness 37 = .ok (.isub, 1) := by decide +kernel
theorem dX8_oddness_38 : decode cX8_oddness 38 = .ok (.iconst 1, 1) := by decide +kernel
theorem dX8_oddness_39 : decode cX8_oddness 39 = .ok (.iand, 1) := by decide +kernel
theorem dX8_oddness_40 : decode cX8_oddness 40 = .ok (.ixor, 1) := by decide +kernel
theorem dX8_oddness_41 : decode cX8_oddness 41 = .ok (.istore_n 2, 1) := by decide +kernel
theorem dX8_oddness_42 : decode cX8_oddness 42 = .ok (.iinc 3 1, 3) := by decide +kernel
theorem dX8_oddness_45 : decode cX8_oddness 45 = .ok (.goto (-33), 3) := by decide +kernel
theorem dX8_oddness_48 : decode cX8_oddness 48 = .ok (.iload_n 2, 1) := by decide +kernel
theorem dX8_oddness_49 : decode cX8_oddness 49 = .ok (.ireturn, 1) := by decide +kernel
theorem dX8_runsTillAllAreThere_0 : decode cX8_runsTillAllAreThere 0 = .ok (.aload_n 1, 1) := by decide +kernel
theorem dX8_runsTillAllAreThere_1 : decode cX8_runsTillAllAreThere 1 = .ok (.aload_n 0, 1) := by decide +kernel
theorem dX8_runsTillAllAreThere_2 : decode cX8_runsTillAllAreThere 2 = .ok (.getfield 9, 3) := by decide +kernel
theorem dX8_runsTillAllAreThere_5 : decode cX8_runsTillAllAreThere 5 = .ok (.invokevirtual 21, 3) := by decide +kernel
theorem dX8_runsTillAllAreThere_8 : decode cX8_runsTillAllAreThere 8 = .ok (.lconst 1, 1) := by decide +kernel
theorem dX8_runsTillAllAreThere_9 : decode cX8_runsTillAllAreThere 9 = .ok (.lstore_n 2, 1) := by decide +kernel
theorem dX8_runsTillAllAreThere_10 : decode cX8_runsTillAllAreThere 10 = .ok (.iconst 0, 1) := by decide +kernel
theorem dX8_runsTillAllAreThere_11 : decode cX8_runsTillAllAreThere 11 = .ok (.istore 4, 2) := by decide +kernel
theorem dX8_runsTillAllAreThere_13 : decode cX8_runsTillAllAreThere 13 = .ok (.iload 4, 2) := by decide +kernel
theorem dX8_runsTillAllAreThere_15 : decode cX8_runsTillAllAreThere 15 = .ok (.aload_n 1, 1) := by decide +kernel
theorem dX8_runsTillAllAreThere_16 : decode cX8_runsTillAllAreThere 16 = .ok (.invokevirtual 27, 3) := by decide +kernel
theorem dX8_runsTillAllAreThere_19 : decode cX8_runsTillAllAreThere 19 = .ok (.if_icmp .ge 41, 3) := by decide +kernel
theorem dX8_runsTillAllAreThere_22 : decode cX8_runsTillAllAreThere 22 = .ok (.aload_n 0, 1) := by decide +kernel
theorem dX8_runsTillAllAreThere_23 : decode cX8_runsTillAllAreThere 23 = .ok (.getfield 9, 3) := by decide +kernel
theorem dX8_runsTillAllAreThere_26 : decode cX8_runsTillAllAreThere 26 = .ok (.iload 4, 2) := by decide +kernel
theorem dX8_runsTillAllAreThere_28 : decode cX8_runsTillAllAreThere 28 = .ok (.iaload, 1) := by decide +kernel
theorem dX8_runsTillAllAreThere_29 : decode cX8_runsTillAllAreThere 29 = .ok (.iconst (-1), 1) := by decide +kernel
theorem dX8_runsTillAllAreThere_30 : decode cX8_runsTillAllAreThere 30 = .ok (.if_icmp .eq 24, 3) := by decide +kernel
theorem dX8_runsTillAllAreThere_33 : decode cX8_runsTillAllAreThere 33 = .ok (.aload_n 0, 1) := by decide +kernel
theorem dX8_runsTillAllAreThere_34 : decode cX8_runsTillAllAreThere 34 = .ok (.iload 4, 2) := by decide +kernel
theorem dX8_runsTillAllAreThere_36 : decode cX8_runsTillAllAreThere 36 = .ok (.invokevirtual 31, 3) := by decide +kernel
theorem dX8_runsTillAllAreThere_39 : decode cX8_runsTillAllAreThere 39 = .ok (.i2l, 1) := by decide +kernel
theorem dX8_runsTillAllAreThere_40 : decode cX8_runsTillAllAreThere 40 = .ok (.lstore 5, 2) := by decide +kernel
theorem dX8_runsTillAllAreThere_42 : decode cX8_runsTillAllAreThere 42 = .ok (.lload_n 2, 1) := by decide +kernel
theorem dX8_runsTillAllAreThere_43 : decode cX8_runsTillAllAreThere 43 = .ok (.lload_n 2, 1) := by decide +kernel
theorem dX8_runsTillAllAreThere_44 : decode cX8_runsTillAllAreThere 44 = .ok (.lload 5, 2) := by decide +kernel
theorem dX8_runsTillAllAreThere_46 : decode cX8_runsTillAllAreThere 46 = .ok (.invokestatic 35, 3) := by decide +kernel
theorem dX8_runsTillAllAreThere_49 : decode cX8_runsTillAllAreThere 49 = .ok (.ldiv, 1) := by decide +kernel
theorem dX8_runsTillAllAreThere_50 : decode cX8_runsTillAllAreThere 50 = .ok (.lload 5, 2) := by decide +kernel
theorem dX8_runsTillAllAreThere_52 : decode cX8_runsTillAllAreThere 52 = .ok (.lmul, 1) := by decide +kernel
theorem dX8_runsTillAllAreThere_53 : decode cX8_runsTillAllAreThere 53 = .ok (.lstore_n 2, 1) := by decide +kernel
theorem dX8_runsTillAllAreThere_54 : decode cX8_runsTillAllAreThere 54 = .ok (.iinc 4 1, 3) := by decide +kernel
theorem dX8_runsTillAllAreThere_57 : decode cX8_runsTillAllAreThere 57 = .ok (.goto (-44), 3) := by decide +kernel
theorem dX8_runsTillAllAreThere_60 : decode cX8_runsTillAllAreThere 60 = .ok (.lload_n 2, 1) := by decide +kernel
theorem dX8_runsTillAllAreThere_61 : decode cX8_runsTillAllAreThere 61 = .ok (.lreturn, 1) := by decide +kernel
theorem dX8_takeCycle_0 : decode cX8_takeCycle 0 = .ok (.iconst 0, 1) := by decide +kernel
theorem dX8_takeCycle_1 : decode cX8_takeCycle 1 = .ok (.istore_n 2, 1) := by decide +kernel
theorem dX8_takeCycle_2 : decode cX8_takeCycle 2 = .ok (.iload_n 1, 1) := by decide +kernel
theorem dX8_takeCycle_3 : decode cX8_takeCycle 3 = .ok (.istore_n 3, 1) := by decide +kernel
theorem dX8_takeCycle_4 : decode cX8_takeCycle 4 = .ok (.iload_n 2, 1) := by decide +kernel
theorem dX8_takeCycle_5 : decode cX8_takeCycle 5 = .ok (.sipush 256, 3) := by decide +kernel
theorem dX8_takeCycle_8 : decode cX8_takeCycle 8 = .ok (.if_icmp .ge 37, 3) := by decide +kernel
theorem dX8_takeCycle_11 : decode cX8_takeCycle 11 = .ok (.aload_n 0, 1) := by decide +kernel
theorem dX8_takeCycle_12 : decode cX8_takeCycle 12 = .ok (.getfield 9, 3) := by decide +kernel
theorem dX8_takeCycle_15 : decode cX8_takeCycle 15 = .ok (.iload_n 3, 1) := by decide +kernel
theorem dX8_takeCycle_16 : decode cX8_takeCycle 16 = .ok (.iaload, 1) := by decide +kernel
theorem dX8_takeCycle_17 : decode cX8_takeCycle 17 = .ok (.iconst (-1), 1) := by decide +kernel
theorem dX8_takeCycle_18 : decode cX8_takeCycle 18 = .ok (.if_icmp .eq 27, 3) := by decide +kernel
theorem dX8_takeCycle_21 : decode cX8_takeCycle 21 = .ok (.aload_n 0, 1) := by decide +kernel
theorem dX8_takeCycle_22 : decode cX8_takeCycle 22 = .ok (.getfield 9, 3) := by decide +kernel
theorem dX8_takeCycle_25 : decode cX8_takeCycle 25 = .ok (.iload_n 3, 1) := by decide +kernel
theorem dX8_takeCycle_26 : decode cX8_takeCycle 26 = .ok (.iaload, 1) := by decide +kernel
theorem dX8_takeCycle_27 : decode cX8_takeCycle 27 = .ok (.istore 4, 2) := by decide +kernel
theorem dX8_takeCycle_29 : decode cX8_takeCycle 29 = .ok (.aload_n 0, 1) := by decide +kernel
theorem dX8_takeCycle_30 : decode cX8_takeCycle 30 = .ok (.getfield 9, 3) := by decide +kernel
theorem dX8_takeCycle_33 : decode cX8_takeCycle 33 = .ok (.iload_n 3, 1) := by decide +kernel
theorem dX8_takeCycle_34 : decode cX8_takeCycle 34 = .ok (.iconst (-1), 1) := by decide +kernel
theorem dX8_takeCycle_35 : decode cX8_takeCycle 35 = .ok (.iastore, 1) := by decide +kernel
theorem dX8_takeCycle_36 : decode cX8_takeCycle 36 = .ok (.iload 4, 2) := by decide +kernel
theorem dX8_takeCycle_38 : decode cX8_takeCycle 38 = .ok (.istore_n 3, 1) := by decide +kernel
theorem dX8_takeCycle_39 : decode cX8_takeCycle 39 = .ok (.iinc 2 1, 3) := by decide +kernel
theorem dX8_takeCycle_42 : decode cX8_takeCycle 42 = .ok (.goto (-38), 3) := by decide +kernel
theorem dX8_takeCycle_45 : decode cX8_takeCycle 45 = .ok (.iload_n 2, 1) := by decide +kernel
theorem dX8_takeCycle_46 : decode cX8_takeCycle 46 = .ok (.ireturn, 1) := by decide +kernel
theorem dX8_greatestCommon_0 : decode cX8_greatestCommon 0 = .ok (.lload_n 0, 1) := by decide +kernel
theorem dX8_greatestCommon_1 : decode cX8_greatestCommon 1 = .ok (.lstore 4, 2) := by decide +kernel
theorem dX8_greatestCommon_3 : decode cX8_greatestCommon 3 = .ok (.lload_n 2, 1) := by decide +kernel
theorem dX8_greatestCommon_4 : decode cX8_greatestCommon 4 = .ok (.lstore 6, 2) := by decide +kernel
theorem dX8_greatestCommon_6 : decode cX8_greatestCommon 6 = .ok (.iconst 0, 1) := by decide +kernel
theorem dX8_greatestCommon_7 : decode cX8_greatestCommon 7 = .ok (.istore 8, 2) := by decide +kernel
theorem dX8_greatestCommon_9 : decode cX8_greatestCommon 9 = .ok (.iload 8, 2) := by decide +kernel
theorem dX8_greatestCommon_11 : decode cX8_greatestCommon 11 = .ok (.sipush 200, 3) := by decide +kernel
theorem dX8_greatestCommon_14 : decode cX8_greatestCommon 14 = .ok (.if_icmp .ge 31, 3) := by decide +kernel
theorem dX8_greatestCommon_17 : decode cX8_greatestCommon 17 = .ok (.lload 6, 2) := by decide +kernel
theorem dX8_greatestCommon_19 : decode cX8_greatestCommon 19 = .ok (.lconst 0, 1) := by decide +kernel
theorem dX8_greatestCommon_20 : decode cX8_greatestCommon 20 = .ok (.lcmp, 1) := by decide +kernel
theorem dX8_greatestCommon_21 : decode cX8_greatestCommon 21 = .ok (.ifCond .le 24, 3) := by decide +kernel
theorem dX8_greatestCommon_24 : decode cX8_greatestCommon 24 = .ok (.lload 4, 2) := by decide +kernel
theorem dX8_greatestCommon_26 : decode cX8_greatestCommon 26 = .ok (.lload 6, 2) := by decide +kernel
theorem dX8_greatestCommon_28 : decode cX8_greatestCommon 28 = .ok (.lrem, 1) := by decide +kernel
theorem dX8_greatestCommon_29 : decode cX8_greatestCommon 29 = .ok (.lstore 9, 2) := by decide +kernel
theorem dX8_greatestCommon_31 : decode cX8_greatestCommon 31 = .ok (.lload 6, 2) := by decide +kernel
theorem dX8_greatestCommon_33 : decode cX8_greatestCommon 33 = .ok (.lstore 4, 2) := by decide +kernel
theorem dX8_greatestCommon_35 : decode cX8_greatestCommon 35 = .ok (.lload 9, 2) := by decide +kernel
theorem dX8_greatestCommon_37 : decode cX8_greatestCommon 37 = .ok (.lstore 6, 2) := by decide +kernel
theorem dX8_greatestCommon_39 : decode cX8_greatestCommon 39 = .ok (.iinc 8 1, 3) := by decide +kernel
theorem dX8_greatestCommon_42 : decode cX8_greatestCommon 42 = .ok (.goto (-33), 3) := by decide +kernel
theorem dX8_greatestCommon_45 : decode cX8_greatestCommon 45 = .ok (.lload 4, 2) := by decide +kernel
theorem dX8_greatestCommon_47 : decode cX8_greatestCommon 47 = .ok (.lconst 0, 1) := by decide +kernel
theorem dX8_greatestCommon_48 : decode cX8_greatestCommon 48 = .ok (.lcmp, 1) := by decide +kernel
theorem dX8_greatestCommon_49 : decode cX8_greatestCommon 49 = .ok (.ifCond .le 8, 3) := by decide +kernel
theorem dX8_greatestCommon_52 : decode cX8_greatestCommon 52 = .ok (.lload 4, 2) := by decide +kernel
theorem dX8_greatestCommon_54 : decode cX8_greatestCommon 54 = .ok (.goto 4, 3) := by decide +kernel
theorem dX8_greatestCommon_57 : decode cX8_greatestCommon 57 = .ok (.lconst 1, 1) := by decide +kernel
theorem dX8_greatestCommon_58 : decode cX8_greatestCommon 58 = .ok (.lreturn, 1) := by decide +kernel
theorem dX8_layInto_0 : decode cX8_layInto 0 = .ok (.aload_n 1, 1) := by decide +kernel
theorem dX8_layInto_1 : decode cX8_layInto 1 = .ok (.aload_n 0, 1) := by decide +kernel
theorem dX8_layInto_2 : decode cX8_layInto 2 = .ok (.getfield 9, 3) := by decide +kernel
theorem dX8_layInto_5 : decode cX8_layInto 5 = .ok (.invokevirtual 21, 3) := by decide +kernel
theorem dX8_layInto_8 : decode cX8_layInto 8 = .ok (.aload_n 0, 1) := by decide +kernel
theorem dX8_layInto_9 : decode cX8_layInto 9 = .ok (.iconst 0, 1) := by decide +kernel
theorem dX8_layInto_10 : decode cX8_layInto 10 = .ok (.putfield 39, 3) := by decide +kernel
theorem dX8_layInto_13 : decode cX8_layInto 13 = .ok (.aload_n 1, 1) := by decide +kernel
theorem dX8_layInto_14 : decode cX8_layInto 14 = .ok (.invokevirtual 27, 3) := by decide +kernel
theorem dX8_layInto_17 : decode cX8_layInto 17 = .ok (.istore_n 3, 1) := by decide +kernel
theorem dX8_layInto_18 : decode cX8_layInto 18 = .ok (.iconst 0, 1) := by decide +kernel
theorem dX8_layInto_19 : decode cX8_layInto 19 = .ok (.istore 4, 2) := by decide +kernel
theorem dX8_layInto_21 : decode cX8_layInto 21 = .ok (.iload 4, 2) := by decide +kernel
theorem dX8_layInto_23 : decode cX8_layInto 23 = .ok (.iload_n 3, 1) := by decide +kernel
theorem dX8_layInto_24 : decode cX8_layInto 24 = .ok (.if_icmp .ge 29, 3) := by decide +kernel
theorem dX8_layInto_27 : decode cX8_layInto 27 = .ok (.aload_n 0, 1) := by decide +kernel
theorem dX8_layInto_28 : decode cX8_layInto 28 = .ok (.getfield 39, 3) := by decide +kernel
theorem dX8_layInto_31 : decode cX8_layInto 31 = .ok (.bipush 40, 2) := by decide +kernel
theorem dX8_layInto_33 : decode cX8_layInto 33 = .ok (.if_icmp .gt 20, 3) := by decide +kernel
theorem dX8_layInto_36 : decode cX8_layInto 36 = .ok (.aload_n 0, 1) := by decide +kernel
theorem dX8_layInto_37 : decode cX8_layInto 37 = .ok (.iload 4, 2) := by decide +kernel
theorem dX8_layInto_39 : decode cX8_layInto 39 = .ok (.aload_n 1, 1) := by decide +kernel
theorem dX8_layInto_40 : decode cX8_layInto 40 = .ok (.invokevirtual 43, 3) := by decide +kernel
theorem dX8_layInto_43 : decode cX8_layInto 43 = .ok (.iload_n 3, 1) := by decide +kernel
theorem dX8_layInto_44 : decode cX8_layInto 44 = .ok (.invokevirtual 46, 3) := by decide +kernel
theorem dX8_layInto_47 : decode cX8_layInto 47 = .ok (.iinc 4 1, 3) := by decide +kernel
theorem dX8_layInto_50 : decode cX8_layInto 50 = .ok (.goto (-29), 3) := by decide +kernel
theorem dX8_layInto_53 : decode cX8_layInto 53 = .ok (.aload_n 0, 1) := by decide +kernel
theorem dX8_layInto_54 : decode cX8_layInto 54 = .ok (.getfield 39, 3) := by decide +kernel
theorem dX8_layInto_57 : decode cX8_layInto 57 = .ok (.bipush 40, 2) := by decide +kernel
theorem dX8_layInto_59 : decode cX8_layInto 59 = .ok (.if_icmp .le 5, 3) := by decide +kernel
theorem dX8_layInto_62 : decode cX8_layInto 62 = .ok (.iconst 0, 1) := by decide +kernel
theorem dX8_layInto_63 : decode cX8_layInto 63 = .ok (.ireturn, 1) := by decide +kernel
theorem dX8_layInto_64 : decode cX8_layInto 64 = .ok (.aload_n 2, 1) := by decide +kernel
theorem dX8_layInto_65 : decode cX8_layInto 65 = .ok (.aload_n 1, 1) := by decide +kernel
theorem dX8_layInto_66 : decode cX8_layInto 66 = .ok (.invokevirtual 43, 3) := by decide +kernel
theorem dX8_layInto_69 : decode cX8_layInto 69 = .ok (.invokevirtual 50, 3) := by decide +kernel
theorem dX8_layInto_72 : decode cX8_layInto 72 = .ok (.aload_n 0, 1) := by decide +kernel
theorem dX8_layInto_73 : decode cX8_layInto 73 = .ok (.getfield 39, 3) := by decide +kernel
theorem dX8_layInto_76 : decode cX8_layInto 76 = .ok (.iconst 1, 1) := by decide +kernel
theorem dX8_layInto_77 : decode cX8_layInto 77 = .ok (.isub, 1) := by decide +kernel
theorem dX8_layInto_78 : decode cX8_layInto 78 = .ok (.istore 4, 2) := by decide +kernel
theorem dX8_layInto_80 : decode cX8_layInto 80 = .ok (.iload 4, 2) := by decide +kernel
theorem dX8_layInto_82 : decode cX8_layInto 82 = .ok (.ifCond .lt 27, 3) := by decide +kernel
theorem dX8_layInto_85 : decode cX8_layInto 85 = .ok (.aload_n 2, 1) := by decide +kernel
theorem dX8_layInto_86 : decode cX8_layInto 86 = .ok (.aload_n 0, 1) := by decide +kernel
theorem dX8_layInto_87 : decode cX8_layInto 87 = .ok (.getfield 15, 3) := by decide +kernel
theorem dX8_layInto_90 : decode cX8_layInto 90 = .ok (.iload 4, 2) := by decide +kernel
theorem dX8_layInto_92 : decode cX8_layInto 92 = .ok (.iaload, 1) := by decide +kernel
theorem dX8_layInto_93 : decode cX8_layInto 93 = .ok (.aload_n 0, 1) := by decide +kernel
theorem dX8_layInto_94 : decode cX8_layInto 94 = .ok (.getfield 18, 3) := by decide +kernel
theorem dX8_layInto_97 : decode cX8_layInto 97 = .ok (.iload 4, 2) := by decide +kernel
theorem dX8_layInto_99 : decode cX8_layInto 99 = .ok (.iaload, 1) := by decide +kernel
theorem dX8_layInto_100 : decode cX8_layInto 100 = .ok (.invokevirtual 54, 3) := by decide +kernel
theorem dX8_layInto_103 : decode cX8_layInto 103 = .ok (.iinc 4 (-1), 3) := by decide +kernel
theorem dX8_layInto_106 : decode cX8_layInto 106 = .ok (.goto (-26), 3) := by decide +kernel
theorem dX8_layInto_109 : decode cX8_layInto 109 = .ok (.iconst 1, 1) := by decide +kernel
theorem dX8_layInto_110 : decode cX8_layInto 110 = .ok (.ireturn, 1) := by decide +kernel
theorem dX8_mendRow_0 : decode cX8_mendRow 0 = .ok (.iconst 0, 1) := by decide +kernel
theorem dX8_mendRow_1 : decode cX8_mendRow 1 = .ok (.istore 4, 2) := by decide +kernel
theorem dX8_mendRow_3 : decode cX8_mendRow 3 = .ok (.iload 4, 2) := by decide +kernel
theorem dX8_mendRow_5 : decode cX8_mendRow 5 = .ok (.iload_n 2, 1) := by decide +kernel
theorem dX8_mendRow_6 : decode cX8_mendRow 6 = .ok (.if_icmp .ge 40, 3) := by decide +kernel
theorem dX8_mendRow_9 : decode cX8_mendRow 9 = .ok (.iload_n 1, 1) := by decide +kernel
theorem dX8_mendRow_10 : decode cX8_mendRow 10 = .ok (.aload_n 0, 1) := by decide +kernel
theorem dX8_mendRow_11 : decode cX8_mendRow 11 = .ok (.getfield 9, 3) := by decide +kernel
theorem dX8_mendRow_14 : decode cX8_mendRow 14 = .ok (.iload_n 1, 1) := by decide +kernel
theorem dX8_mendRow_15 : decode cX8_mendRow 15 = .ok (.iaload, 1) := by decide +kernel
theorem dX8_mendRow_16 : decode cX8_mendRow 16 = .ok (.iconst (-1), 1) := by decide +kernel
theorem dX8_mendRow_17 : decode cX8_mendRow 17 = .ok (.ixor, 1) := by decide +kernel
theorem dX8_mendRow_18 : decode cX8_mendRow 18 = .ok (.iand, 1) := by decide +kernel
theorem dX8_mendRow_19 : decode cX8_mendRow 19 = .ok (.iconst 1, 1) := by decide +kernel
theorem dX8_mendRow_20 : decode cX8_mendRow 20 = .ok (.iload 4, 2) := by decide +kernel
theorem dX8_mendRow_22 : decode cX8_mendRow 22 = .ok (.ishl, 1) := by decide +kernel
theorem dX8_mendRow_23 : decode cX8_mendRow 23 = .ok (.iand, 1) := by decide +kernel
theorem dX8_mendRow_24 : decode cX8_mendRow 24 = .ok (.ifCond .eq 16, 3) := by decide +kernel
theorem dX8_mendRow_27 : decode cX8_mendRow 27 = .ok (.aload_n 0, 1) := by decide +kernel
theorem dX8_mendRow_28 : decode cX8_mendRow 28 = .ok (.iload 4, 2) := by decide +kernel
theorem dX8_mendRow_30 : decode cX8_mendRow 30 = .ok (.aload_n 0, 1) := by decide +kernel
theorem dX8_mendRow_31 : decode cX8_mendRow 31 = .ok (.getfield 9, 3) := by decide +kernel
theorem dX8_mendRow_34 : decode cX8_mendRow 34 = .ok (.iload_n 1, 1) := by decide +kernel
theorem dX8_mendRow_35 : decode cX8_mendRow 35 = .ok (.iaload, 1) := by decide +kernel
theorem dX8_mendRow_36 : decode cX8_mendRow 36 = .ok (.iload_n 3, 1) := by decide +kernel
theorem dX8_mendRow_37 : decode cX8_mendRow 37 = .ok (.invokevirtual 58, 3) := by decide +kernel
theorem dX8_mendRow_40 : decode cX8_mendRow 40 = .ok (.iinc 4 1, 3) := by decide +kernel
theorem dX8_mendRow_43 : decode cX8_mendRow 43 = .ok (.goto (-40), 3) := by decide +kernel
theorem dX8_mendRow_46 : decode cX8_mendRow 46 = .ok (.iconst 0, 1) := by decide +kernel
theorem dX8_mendRow_47 : decode cX8_mendRow 47 = .ok (.istore 4, 2) := by decide +kernel
theorem dX8_mendRow_49 : decode cX8_mendRow 49 = .ok (.iload 4, 2) := by decide +kernel
theorem dX8_mendRow_51 : decode cX8_mendRow 51 = .ok (.iload_n 2, 1) := by decide +kernel
theorem dX8_mendRow_52 : decode cX8_mendRow 52 = .ok (.if_icmp .ge 47, 3) := by decide +kernel
theorem dX8_mendRow_55 : decode cX8_mendRow 55 = .ok (.aload_n 0, 1) := by decide +kernel
theorem dX8_mendRow_56 : decode cX8_mendRow 56 = .ok (.getfield 9, 3) := by decide +kernel
theorem dX8_mendRow_59 : decode cX8_mendRow 59 = .ok (.iload_n 1, 1) := by decide +kernel
theorem dX8_mendRow_60 : decode cX8_mendRow 60 = .ok (.iaload, 1) := by decide +kernel
theorem dX8_mendRow_61 : decode cX8_mendRow 61 = .ok (.iload_n 1, 1) := by decide +kernel
theorem dX8_mendRow_62 : decode cX8_mendRow 62 = .ok (.iconst (-1), 1) := by decide +kernel
theorem dX8_mendRow_63 : decode cX8_mendRow 63 = .ok (.ixor, 1) := by decide +kernel
theorem dX8_mendRow_64 : decode cX8_mendRow 64 = .ok (.iand, 1) := by decide +kernel
theorem dX8_mendRow_65 : decode cX8_mendRow 65 = .ok (.iconst 1, 1) := by decide +kernel
theorem dX8_mendRow_66 : decode cX8_mendRow 66 = .ok (.iload 4, 2) := by decide +kernel
theorem dX8_mendRow_68 : decode cX8_mendRow 68 = .ok (.ishl, 1) := by decide +kernel
theorem dX8_mendRow_69 : decode cX8_mendRow 69 = .ok (.iand, 1) := by decide +kernel
theorem dX8_mendRow_70 : decode cX8_mendRow 70 = .ok (.ifCond .eq 23, 3) := by decide +kernel
theorem dX8_mendRow_73 : decode cX8_mendRow 73 = .ok (.aload_n 0, 1) := by decide +kernel
theorem dX8_mendRow_74 : decode cX8_mendRow 74 = .ok (.iload 4, 2) := by decide +kernel
theorem dX8_mendRow_76 : decode cX8_mendRow 76 = .ok (.aload_n 0, 1) := by decide +kernel
theorem dX8_mendRow_77 : decode cX8_mendRow 77 = .ok (.getfield 9, 3) := by decide +kernel
theorem dX8_mendRow_80 : decode cX8_mendRow 80 = .ok (.iload_n 1, 1) := by decide +kernel
theorem dX8_mendRow_81 : decode cX8_mendRow 81 = .ok (.iaload, 1) := by decide +kernel
theorem dX8_mendRow_82 : decode cX8_mendRow 82 = .ok (.iconst 1, 1) := by decide +kernel
theorem dX8_mendRow_83 : decode cX8_mendRow 83 = .ok (.iload 4, 2) := by decide +kernel
theorem dX8_mendRow_85 : decode cX8_mendRow 85 = .ok (.ishl, 1) := by decide +kernel
theorem dX8_mendRow_86 : decode cX8_mendRow 86 = .ok (.iconst (-1), 1) := by decide +kernel
theorem dX8_mendRow_87 : decode cX8_mendRow 87 = .ok (.ixor, 1) := by decide +kernel
theorem dX8_mendRow_88 : decode cX8_mendRow 88 = .ok (.iand, 1) := by decide +kernel
theorem dX8_mendRow_89 : decode cX8_mendRow 89 = .ok (.iload_n 3, 1) := by decide +kernel
theorem dX8_mendRow_90 : decode cX8_mendRow 90 = .ok (.invokevirtual 58, 3) := by decide +kernel
theorem dX8_mendRow_93 : decode cX8_mendRow 93 = .ok (.iinc 4 1, 3) := by decide +kernel
theorem dX8_mendRow_96 : decode cX8_mendRow 96 = .ok (.goto (-47), 3) := by decide +kernel
theorem dX8_mendRow_99 : decode cX8_mendRow 99 = .ok (.return_, 1) := by decide +kernel
theorem dX8_layTurn_0 : decode cX8_layTurn 0 = .ok (.iconst 0, 1) := by decide +kernel
theorem dX8_layTurn_1 : decode cX8_layTurn 1 = .ok (.istore 4, 2) := by decide +kernel
theorem dX8_layTurn_3 : decode cX8_layTurn 3 = .ok (.iload 4, 2) := by decide +kernel
theorem dX8_layTurn_5 : decode cX8_layTurn 5 = .ok (.iload_n 3, 1) := by decide +kernel
theorem dX8_layTurn_6 : decode cX8_layTurn 6 = .ok (.if_icmp .ge 35, 3) := by decide +kernel
theorem dX8_layTurn_9 : decode cX8_layTurn 9 = .ok (.aload_n 0, 1) := by decide +kernel
theorem dX8_layTurn_10 : decode cX8_layTurn 10 = .ok (.getfield 9, 3) := by decide +kernel
theorem dX8_layTurn_13 : decode cX8_layTurn 13 = .ok (.iload 4, 2) := by decide +kernel
theorem dX8_layTurn_15 : decode cX8_layTurn 15 = .ok (.iaload, 1) := by decide +kernel
theorem dX8_layTurn_16 : decode cX8_layTurn 16 = .ok (.iload_n 2, 1) := by decide +kernel
theorem dX8_layTurn_17 : decode cX8_layTurn 17 = .ok (.iand, 1) := by decide +kernel
theorem dX8_layTurn_18 : decode cX8_layTurn 18 = .ok (.iload_n 2, 1) := by decide +kernel
theorem dX8_layTurn_19 : decode cX8_layTurn 19 = .ok (.if_icmp .ne 16, 3) := by decide +kernel
theorem dX8_layTurn_22 : decode cX8_layTurn 22 = .ok (.aload_n 0, 1) := by decide +kernel
theorem dX8_layTurn_23 : decode cX8_layTurn 23 = .ok (.getfield 9, 3) := by decide +kernel
theorem dX8_layTurn_26 : decode cX8_layTurn 26 = .ok (.iload 4, 2) := by decide +kernel
theorem dX8_layTurn_28 : decode cX8_layTurn 28 = .ok (.dup2, 1) := by decide +kernel
theorem dX8_layTurn_29 : decode cX8_layTurn 29 = .ok (.iaload, 1) := by decide +kernel
theorem dX8_layTurn_30 : decode cX8_layTurn 30 = .ok (.iconst 1, 1) := by decide +kernel
theorem dX8_layTurn_31 : decode cX8_layTurn 31 = .ok (.iload_n 1, 1) := by decide +kernel
theorem dX8_layTurn_32 : decode cX8_layTurn 32 = .ok (.ishl, 1) := by decide +kernel
theorem dX8_layTurn_33 : decode cX8_layTurn 33 = .ok (.ixor, 1) := by decide +kernel
theorem dX8_layTurn_34 : decode cX8_layTurn 34 = .ok (.iastore, 1) := by decide +kernel
theorem dX8_layTurn_35 : decode cX8_layTurn 35 = .ok (.iinc 4 1, 3) := by decide +kernel
theorem dX8_layTurn_38 : decode cX8_layTurn 38 = .ok (.goto (-35), 3) := by decide +kernel
theorem dX8_layTurn_41 : decode cX8_layTurn 41 = .ok (.aload_n 0, 1) := by decide +kernel
theorem dX8_layTurn_42 : decode cX8_layTurn 42 = .ok (.getfield 39, 3) := by decide +kernel
theorem dX8_layTurn_45 : decode cX8_layTurn 45 = .ok (.bipush 40, 2) := by decide +kernel
theorem dX8_layTurn_47 : decode cX8_layTurn 47 = .ok (.if_icmp .ge 23, 3) := by decide +kernel
theorem dX8_layTurn_50 : decode cX8_layTurn 50 = .ok (.aload_n 0, 1) := by decide +kernel
theorem dX8_layTurn_51 : decode cX8_layTurn 51 = .ok (.getfield 15, 3) := by decide +kernel
theorem dX8_layTurn_54 : decode cX8_layTurn 54 = .ok (.aload_n 0, 1) := by decide +kernel
theorem dX8_layTurn_55 : decode cX8_layTurn 55 = .ok (.getfield 39, 3) := by decide +kernel
theorem dX8_layTurn_58 : decode cX8_layTurn 58 = .ok (.iload_n 1, 1) := by decide +kernel
theorem dX8_layTurn_59 : decode cX8_layTurn 59 = .ok (.iastore, 1) := by decide +kernel
theorem dX8_layTurn_60 : decode cX8_layTurn 60 = .ok (.aload_n 0, 1) := by decide +kernel
theorem dX8_layTurn_61 : decode cX8_layTurn 61 = .ok (.getfield 18, 3) := by decide +kernel
theorem dX8_layTurn_64 : decode cX8_layTurn 64 = .ok (.aload_n 0, 1) := by decide +kernel
theorem dX8_layTurn_65 : decode cX8_layTurn 65 = .ok (.getfield 39, 3) := by decide +kernel
theorem dX8_layTurn_68 : decode cX8_layTurn 68 = .ok (.iload_n 2, 1) := by decide +kernel
theorem dX8_layTurn_69 : decode cX8_layTurn 69 = .ok (.iastore, 1) := by decide +kernel
theorem dX8_layTurn_70 : decode cX8_layTurn 70 = .ok (.aload_n 0, 1) := by decide +kernel
theorem dX8_layTurn_71 : decode cX8_layTurn 71 = .ok (.dup, 1) := by decide +kernel
theorem dX8_layTurn_72 : decode cX8_layTurn 72 = .ok (.getfield 39, 3) := by decide +kernel
theorem dX8_layTurn_75 : decode cX8_layTurn 75 = .ok (.iconst 1, 1) := by decide +kernel
theorem dX8_layTurn_76 : decode cX8_layTurn 76 = .ok (.iadd, 1) := by decide +kernel
theorem dX8_layTurn_77 : decode cX8_layTurn 77 = .ok (.putfield 39, 3) := by decide +kernel
theorem dX8_layTurn_80 : decode cX8_layTurn 80 = .ok (.return_, 1) := by decide +kernel
theorem dX9_init_0 : decode cX9_init 0 = .ok (.aload_n 0, 1) := by decide +kernel
theorem dX9_init_1 : decode cX9_init 1 = .ok (.invokespecial 5, 3) := by decide +kernel
theorem dX9_init_4 : decode cX9_init 4 = .ok (.aload_n 0, 1) := by decide +kernel
theorem dX9_init_5 : decode cX9_init 5 = .ok (.sipush 900, 3) := by decide +kernel
theorem dX9_init_8 : decode cX9_init 8 = .ok (.newarray .int, 2) := by decide +kernel
theorem dX9_init_10 : decode cX9_init 10 = .ok (.putfield 11, 3) := by decide +kernel
theorem dX9_init_13 : decode cX9_init 13 = .ok (.aload_n 0, 1) := by decide +kernel
theorem dX9_init_14 : decode cX9_init 14 = .ok (.sipush 901, 3) := by decide +kernel
theorem dX9_init_17 : decode cX9_init 17 = .ok (.newarray .int, 2) := by decide +kernel
theorem dX9_init_19 : decode cX9_init 19 = .ok (.putfield 15, 3) := by decide +kernel
theorem dX9_init_22 : decode cX9_init 22 = .ok (.aload_n 0, 1) := by decide +kernel
theorem dX9_init_23 : decode cX9_init 23 = .ok (.sipush 901, 3) := by decide +kernel
theorem dX9_init_26 : decode cX9_init 26 = .ok (.newarray .int, 2) := by decide +kernel
theorem dX9_init_28 : decode cX9_init 28 = .ok (.putfield 18, 3) := by decide +kernel
theorem dX9_init_31 : decode cX9_init 31 = .ok (.aload_n 0, 1) := by decide +kernel
theorem dX9_init_32 : decode cX9_init 32 = .ok (.sipush 901, 3) := by decide +kernel
theorem dX9_init_35 : decode cX9_init 35 = .ok (.newarray .int, 2) := by decide +kernel
theorem dX9_init_37 : decode cX9_init 37 = .ok (.putfield 21, 3) := by decide +kernel
theorem dX9_init_40 : decode cX9_init 40 = .ok (.aload_n 0, 1) := by decide +kernel
theorem dX9_init_41 : decode cX9_init 41 = .ok (.sipush 901, 3) := by decide +kernel
theorem dX9_init_44 : decode cX9_init 44 = .ok (.newarray .long, 2) := by decide +kernel
theorem dX9_init_46 : decode cX9_init 46 = .ok (.putfield 24, 3) := by decide +kernel
theorem dX9_init_49 : decode cX9_init 49 = .ok (.aload_n 0, 1) := by decide +kernel
theorem dX9_init_50 : decode cX9_init 50 = .ok (.iconst (-1), 1) := by decide +kernel
theorem dX9_init_51 : decode cX9_init 51 = .ok (.putfield 28, 3) := by decide +kernel
theorem dX9_init_54 : decode cX9_init 54 = .ok (.return_, 1) := by decide +kernel
theorem dX9_take_0 : decode cX9_take 0 = .ok (.aload_n 0, 1) := by decide +kernel
theorem dX9_take_1 : decode cX9_take 1 = .ok (.getfield 32, 3) := by decide +kernel
theorem dX9_take_4 : decode cX9_take 4 = .ok (.bipush 20, 2) := by decide +kernel
theorem dX9_take_6 : decode cX9_take 6 = .ok (.iadd, 1) := by decide +kernel
theorem dX9_take_7 : decode cX9_take 7 = .ok (.sipush 900, 3) := by decide +kernel
theorem dX9_take_10 : decode cX9_take 10 = .ok (.if_icmp .le 6, 3) := by decide +kernel
theorem dX9_take_13 : decode cX9_take 13 = .ok (.bipush (-3), 2) := by decide +kernel
theorem dX9_take_15 : decode cX9_take 15 = .ok (.ireturn, 1) := by decide +kernel
theorem dX9_take_16 : decode cX9_take 16 = .ok (.aload_n 0, 1) := by decide +kernel
theorem dX9_take_17 : decode cX9_take 17 = .ok (.iload_n 1, 1) := by decide +kernel
theorem dX9_take_18 : decode cX9_take 18 = .ok (.invokevirtual 35, 3) := by decide +kernel
theorem dX9_take_21 : decode cX9_take 21 = .ok (.aload_n 0, 1) := by decide +kernel
theorem dX9_take_22 : decode cX9_take 22 = .ok (.iload_n 2, 1) := by decide +kernel
theorem dX9_take_23 : decode cX9_take 23 = .ok (.invokevirtual 35, 3) := by decide +kernel
theorem dX9_take_26 : decode cX9_take 26 = .ok (.aload_n 0, 1) := by decide +kernel
theorem dX9_take_27 : decode cX9_take 27 = .ok (.iload_n 3, 1) := by decide +kernel
theorem dX9_take_28 : decode cX9_take 28 = .ok (.invokevirtual 35, 3) := by decide +kernel
theorem dX9_take_31 : decode cX9_take 31 = .ok (.aload_n 0, 1) := by decide +kernel
theorem dX9_take_32 : decode cX9_take 32 = .ok (.iload 4, 2) := by decide +kernel
theorem dX9_take_34 : decode cX9_take 34 = .ok (.invokevirtual 35, 3) := by decide +kernel
theorem dX9_take_37 : decode cX9_take 37 = .ok (.aload_n 0, 1) := by decide +kernel
theorem dX9_take_38 : decode cX9_take 38 = .ok (.iload 5, 2) := by decide +kernel
theorem dX9_take_40 : decode cX9_take 40 = .ok (.invokevirtual 35, 3) := by decide +kernel
theorem dX9_take_43 : decode cX9_take 43 = .ok (.aload_n 0, 1) := by decide +kernel
theorem dX9_take_44 : decode cX9_take 44 = .ok (.getfield 32, 3) := by decide +kernel
theorem dX9_take_47 : decode cX9_take 47 = .ok (.ireturn, 1) := by decide +kernel
theorem dX9_takeFour_0 : decode cX9_takeFour 0 = .ok (.bipush 24, 2) := by decide +kernel
theorem dX9_takeFour_2 : decode cX9_takeFour 2 = .ok (.istore_n 2, 1) := by decide +kernel
theorem dX9_takeFour_3 : decode cX9_takeFour 3 = .ok (.iload_n 2, 1) := by decide +kernel
theorem dX9_takeFour_4 : decode cX9_takeFour 4 = .ok (.ifCond .lt 45, 3) := by decide +kernel
theorem dX9_takeFour_7 : decode cX9_takeFour 7 = .ok (.aload_n 0, 1) := by decide +kernel
theorem dX9_takeFour_8 : decode cX9_takeFour 8 = .ok (.getfield 32, 3) := by decide +kernel
theorem dX9_takeFour_11 : decode cX9_takeFour 11 = .ok (.sipush 900, 3) := by decide +kernel
theorem dX9_takeFour_14 : decode cX9_takeFour 14 = .ok (.if_icmp .ge 35, 3) := by decide +kernel
theorem dX9_takeFour_17 : decode cX9_takeFour 17 = .ok (.aload_n 0, 1) := by decide +kernel
theorem dX9_takeFour_18 : decode cX9_takeFour 18 = .ok (.getfield 11, 3) := by decide +kernel
theorem dX9_takeFour_21 : decode cX9_takeFour 21 = .ok (.aload_n 0, 1) := by decide +kernel
theorem dX9_takeFour_22 : decode cX9_takeFour 22 = .ok (.getfield 32, 3) := by decide +kernel
theorem dX9_takeFour_25 : decode cX9_takeFour 25 = .ok (.iload_n 1, 1) := by decide +kernel
theorem dX9_takeFour_26 : decode cX9_takeFour 26 = .ok (.iload_n 2, 1) := by decide +kernel
theorem dX9_takeFour_27 : decode cX9_takeFour 27 = .ok (.iushr, 1) := by decide +kernel
theorem dX9_takeFour_28 : decode cX9_takeFour 28 = .ok (.sipush 255, 3) := by decide +kernel
theorem dX9_takeFour_31 : decode cX9_takeFour 31 = .ok (.iand, 1) := by decide +kernel
theorem dX9_takeFour_32 : decode cX9_takeFour 32 = .ok (.iastore, 1) := by decide +kernel
theorem dX9_takeFour_33 : decode cX9_takeFour 33 = .ok (.aload_n 0, 1) := by decide +kernel
theorem dX9_takeFour_34 : decode cX9_takeFour 34 = .ok (.dup, 1) := by decide +kernel
theorem dX9_takeFour_35 : decode cX9_takeFour 35 = .ok (.getfield 32, 3) := by decide +kernel
theorem dX9_takeFour_38 : decode cX9_takeFour 38 = .ok (.iconst 1, 1) := by decide +kernel
theorem dX9_takeFour_39 : decode cX9_takeFour 39 = .ok (.iadd, 1) := by decide +kernel
theorem dX9_takeFour_40 : decode cX9_takeFour 40 = .ok (.putfield 32, 3) := by decide +kernel
theorem dX9_takeFour_43 : decode cX9_takeFour 43 = .ok (.iinc 2 (-8), 3) := by decide +kernel
theorem dX9_takeFour_46 : decode cX9_takeFour 46 = .ok (.goto (-43), 3) := by decide +kernel
theorem dX9_takeFour_49 : decode cX9_takeFour 49 = .ok (.return_, 1) := by decide +kernel
theorem dX9_cutTo_0 : decode cX9_cutTo 0 = .ok (.iload_n 1, 1) := by decide +kernel
theorem dX9_cutTo_1 : decode cX9_cutTo 1 = .ok (.ifCond .lt 11, 3) := by decide +kernel
theorem dX9_cutTo_4 : decode cX9_cutTo 4 = .ok (.iload_n 1, 1) := by decide +kernel
theorem dX9_cutTo_5 : decode cX9_cutTo 5 = .ok (.aload_n 0, 1) := by decide +kernel
theorem dX9_cutTo_6 : decode cX9_cutTo 6 = .ok (.getfield 32, 3) := by decide +kernel
theorem dX9_cutTo_9 : decode cX9_cutTo 9 = .ok (.if_icmp .le 5, 3) := by decide +kernel
theorem dX9_cutTo_12 : decode cX9_cutTo 12 = .ok (.iconst (-1), 1) := by decide +kernel
theorem dX9_cutTo_13 : decode cX9_cutTo 13 = .ok (.ireturn, 1) := by decide +kernel
theorem dX9_cutTo_14 : decode cX9_cutTo 14 = .ok (.aload_n 0, 1) := by decide +kernel
theorem dX9_cutTo_15 : decode cX9_cutTo 15 = .ok (.iload_n 1, 1) := by decide +kernel
theorem dX9_cutTo_16 : decode cX9_cutTo 16 = .ok (.putfield 32, 3) := by decide +kernel
theorem dX9_cutTo_19 : decode cX9_cutTo 19 = .ok (.iload_n 1, 1) := by decide +kernel
theorem dX9_cutTo_20 : decode cX9_cutTo 20 = .ok (.ireturn, 1) := by decide +kernel
theorem dX9_empty_0 : decode cX9_empty 0 = .ok (.aload_n 0, 1) := by decide +kernel
theorem dX9_empty_1 : decode cX9_empty 1 = .ok (.iconst 0, 1) := by decide +kernel
theorem dX9_empty_2 : decode cX9_empty 2 = .ok (.putfield 32, 3) := by decide +kernel
theorem dX9_empty_5 : decode cX9_empty 5 = .ok (.return_, 1) := by decide +kernel
theorem dX9_length_0 : decode cX9_length 0 = .ok (.aload_n 0, 1) := by decide +kernel
theorem dX9_length_1 : decode cX9_length 1 = .ok (.getfield 32, 3) := by decide +kernel
theorem dX9_length_4 : decode cX9_length 4 = .ok (.ireturn, 1) := by decide +kernel
theorem dX9_faultKind_0 : decode cX9_faultKind 0 = .ok (.aload_n 0, 1) := by decide +kernel
theorem dX9_faultKind_1 : decode cX9_faultKind 1 = .ok (.getfield 39, 3) := by decide +kernel
theorem dX9_faultKind_4 : decode cX9_faultKind 4 = .ok (.ireturn, 1) := by decide +kernel
theorem dX9_faultPlace_0 : decode cX9_faultPlace 0 = .ok (.aload_n 0, 1) := by decide +kernel
theorem dX9_faultPlace_1 : decode cX9_faultPlace 1 = .ok (.getfield 28, 3) := by decide +kernel
theorem dX9_faultPlace_4 : decode cX9_faultPlace 4 = .ok (.ireturn, 1) := by decide +kernel
theorem dX9_begin_0 : decode cX9_begin 0 = .ok (.aload_n 0, 1) := by decide +kernel
theorem dX9_begin_1 : decode cX9_begin 1 = .ok (.invokevirtual 42, 3) := by decide +kernel
theorem dX9_begin_4 : decode cX9_begin 4 = .ok (.aload_n 0, 1) := by decide +kernel
theorem dX9_begin_5 : decode cX9_begin 5 = .ok (.iconst 0, 1) := by decide +kernel
theorem dX9_begin_6 : decode cX9_begin 6 = .ok (.putfield 45, 3) := by decide +kernel
theorem dX9_begin_9 : decode cX9_begin 9 = .ok (.aload_n 0, 1) := by decide +kernel
theorem dX9_begin_10 : decode cX9_begin 10 = .ok (.aload_n 0, 1) := by decide +kernel
theorem dX9_begin_11 : decode cX9_begin 11 = .ok (.getfield 15, 3) := by decide +kernel
theorem dX9_begin_14 : decode cX9_begin 14 = .ok (.iconst 0, 1) := by decide +kernel
theorem dX9_begin_15 : decode cX9_begin 15 = .ok (.iaload, 1) := by decide +kernel
theorem dX9_begin_16 : decode cX9_begin 16 = .ok (.putfield 48, 3) := by decide +kernel
theorem dX9_begin_19 : decode cX9_begin 19 = .ok (.aload_n 0, 1) := by decide +kernel
theorem dX9_begin_20 : decode cX9_begin 20 = .ok (.aload_n 0, 1) := by decide +kernel
theorem dX9_begin_21 : decode cX9_begin 21 = .ok (.getfield 18, 3) := by decide +kernel
theorem dX9_begin_24 : decode cX9_begin 24 = .ok (.iconst 0, 1) := by decide +kernel
theorem dX9_begin_25 : decode cX9_begin 25 = .ok (.iaload, 1) := by decide +kernel
theorem dX9_begin_26 : decode cX9_begin 26 = .ok (.putfield 51, 3) := by decide +kernel
theorem dX9_begin_29 : decode cX9_begin 29 = .ok (.aload_n 0, 1) := by decide +kernel
theorem dX9_begin_30 : decode cX9_begin 30 = .ok (.iconst 0, 1) := by decide +kernel
theorem dX9_begin_31 : decode cX9_begin 31 = .ok (.putfield 39, 3) := by decide +kernel
theorem dX9_begin_34 : decode cX9_begin 34 = .ok (.aload_n 0, 1) := by decide +kernel
theorem dX9_begin_35 : decode cX9_begin 35 = .ok (.iconst (-1), 1) := by decide +kernel
theorem dX9_begin_36 : decode cX9_begin 36 = .ok (.putfield 28, 3) := by decide +kernel
theorem dX9_begin_39 : decode cX9_begin 39 = .ok (.return_, 1) := by decide +kernel
theorem dX9_advance_0 : decode cX9_advance 0 = .ok (.aload_n 0, 1) := by decide +kernel
theorem dX9_advance_1 : decode cX9_advance 1 = .ok (.getfield 39, 3) := by decide +kernel
theorem dX9_advance_4 : decode cX9_advance 4 = .ok (.ifCond .ne 52, 3) := by decide +kernel
theorem dX9_advance_7 : decode cX9_advance 7 = .ok (.aload_n 0, 1) := by decide +kernel
theorem dX9_advance_8 : decode cX9_advance 8 = .ok (.getfield 45, 3) := by decide +kernel
theorem dX9_advance_11 : decode cX9_advance 11 = .ok (.aload_n 0, 1) := by decide +kernel
theorem dX9_advance_12 : decode cX9_advance 12 = .ok (.getfield 54, 3) := by decide +kernel
theorem dX9_advance_15 : decode cX9_advance 15 = .ok (.iconst 1, 1) := by decide +kernel
theorem dX9_advance_16 : decode cX9_advance 16 = .ok (.isub, 1) := by decide +kernel
theorem dX9_advance_17 : decode cX9_advance 17 = .ok (.if_icmp .ge 39, 3) := by decide +kernel
theorem dX9_advance_20 : decode cX9_advance 20 = .ok (.aload_n 0, 1) := by decide +kernel
theorem dX9_advance_21 : decode cX9_advance 21 = .ok (.dup, 1) := by decide +kernel
theorem dX9_advance_22 : decode cX9_advance 22 = .ok (.getfield 45, 3) := by decide +kernel
theorem dX9_advance_25 : decode cX9_advance 25 = .ok (.iconst 1, 1) := by decide +kernel
theorem dX9_advance_26 : decode cX9_advance 26 = .ok (.iadd, 1) := by decide +kernel
theorem dX9_advance_27 : decode cX9_advance 27 = .ok (.putfield 45, 3) := by decide +kernel
theorem dX9_advance_30 : decode cX9_advance 30 = .ok (.aload_n 0, 1) := by decide +kernel
theorem dX9_advance_31 : decode cX9_advance 31 = .ok (.aload_n 0, 1) := by decide +kernel
theorem dX9_advance_32 : decode cX9_advance 32 = .ok (.getfield 15, 3) := by decide +kernel
theorem dX9_advance_35 : decode cX9_advance 35 = .ok (.aload_n 0, 1) := by decide +kernel
theorem dX9_advance_36 : decode cX9_advance 36 = .ok (.getfield 45, 3) := by decide +kernel
theorem dX9_advance_39 : decode cX9_advance 39 = .ok (.iaload, 1) := by decide +kernel
theorem dX9_advance_40 : decode cX9_advance 40 = .ok (.putfield 48, 3) := by decide +kernel
theorem dX9_advance_43 : decode cX9_advance 43 = .ok (.aload_n 0, 1) := by decide +kernel
theorem dX9_advance_44 : decode cX9_advance 44 = .ok (.aload_n 0, 1) := by decide +kernel
theorem dX9_advance_45 : decode cX9_advance 45 = .ok (.getfield 18, 3) := by decide +kernel
theorem dX9_advance_48 : decode cX9_advance 48 = .ok (.aload_n 0, 1) := by decide +kernel
theorem dX9_advance_49 : decode cX9_advance 49 = .ok (.getfield 45, 3) := by decide +kernel
theorem dX9_advance_52 : decode cX9_advance 52 = .ok (.iaload, 1) := by decide +kernel
theorem dX9_advance_53 : decode cX9_advance 53 = .ok (.putfield 51, 3) := by decide +kernel
theorem dX9_advance_56 : decode cX9_advance 56 = .ok (.return_, 1) := by decide +kernel
theorem dX9_scan_0 : decode cX9_scan 0 = .ok (.aload_n 0, 1) := by decide +kernel
theorem dX9_scan_1 : decode cX9_scan 1 = .ok (.iconst 0, 1) := by decide +kernel
theorem dX9_scan_2 : decode cX9_scan 2 = .ok (.putfield 54, 3) := by decide +kernel
theorem dX9_scan_5 : decode cX9_scan 5 = .ok (.iconst 0, 1) := by decide +kernel
theorem dX9_scan_6 : decode cX9_scan 6 = .ok (.istore_n 1, 1) := by decide +kernel
theorem dX9_scan_7 : decode cX9_scan 7 = .ok (.iconst 0, 1) := by decide +kernel
theorem dX9_scan_8 : decode cX9_scan 8 = .ok (.istore_n 2, 1) := by decide +kernel
theorem dX9_scan_9 : decode cX9_scan 9 = .ok (.iload_n 2, 1) := by decide +kernel
theorem dX9_scan_10 : decode cX9_scan 10 = .ok (.sipush 900, 3) := by decide +kernel
theorem dX9_scan_13 : decode cX9_scan 13 = .ok (.if_icmp .ge 95, 3) := by decide +kernel
theorem dX9_scan_16 : decode cX9_scan 16 = .ok (.iload_n 1, 1) := by decide +kernel
theorem dX9_scan_17 : decode cX9_scan 17 = .ok (.aload_n 0, 1) := by decide +kernel
theorem dX9_scan_18 : decode cX9_scan 18 = .ok (.getfield 32, 3) := by decide +kernel
theorem dX9_scan_21 : decode cX9_scan 21 = .ok (.if_icmp .ge 87, 3) := by decide +kernel
theorem dX9_scan_24 : decode cX9_scan 24 = .ok (.aload_n 0, 1) := by decide +kernel
theorem dX9_scan_25 : decode cX9_scan 25 = .ok (.getfield 11, 3) := by decide +kernel
theorem dX9_scan_28 : decode cX9_scan 28 = .ok (.iload_n 1, 1) := by decide +kernel
theorem dX9_scan_29 : decode cX9_scan 29 = .ok (.iaload, 1) := by decide +kernel
theorem dX9_scan_30 : decode cX9_scan 30 = .ok (.istore_n 3, 1) := by decide +kernel
theorem dX9_scan_31 : decode cX9_scan 31 = .ok (.iload_n 3, 1) := by decide +kernel
theorem dX9_scan_32 : decode cX9_scan 32 = .ok (.bipush 32, 2) := by decide +kernel
theorem dX9_scan_34 : decode cX9_scan 34 = .ok (.if_icmp .eq 9, 3) := by decide +kernel
theorem dX9_scan_37 : decode cX9_scan 37 = .ok (.iload_n 3, 1) := by decide +kernel
theorem dX9_scan_38 : decode cX9_scan 38 = .ok (.bipush 10, 2) := by decide +kernel
theorem dX9_scan_40 : decode cX9_scan 40 = .ok (.if_icmp .ne 9, 3) := by decide +kernel
theorem dX9_scan_43 : decode cX9_scan 43 = .ok (.iinc 1 1, 3) := by decide +kernel
theorem dX9_scan_46 : decode cX9_scan 46 = .ok (.goto 56, 3) := by decide +kernel
theorem dX9_scan_49 : decode cX9_scan 49 = .ok (.iload_n 3, 1) := by decide +kernel
theorem dX9_scan_50 : decode cX9_scan 50 = .ok (.invokestatic 57, 3) := by decide +kernel
theorem dX9_scan_53 : decode cX9_scan 53 = .ok (.ifCond .eq 12, 3) := by decide +kernel
theorem dX9_scan_56 : decode cX9_scan 56 = .ok (.aload_n 0, 1) := by decide +kernel
theorem dX9_scan_57 : decode cX9_scan 57 = .ok (.iload_n 1, 1) := by decide +kernel
theorem dX9_scan_58 : decode cX9_scan 58 = .ok (.invokevirtual 61, 3) := by decide +kernel
theorem dX9_scan_61 : decode cX9_scan 61 = .ok (.istore_n 1, 1) := by decide +kernel
theorem dX9_scan_62 : decode cX9_scan 62 = .ok (.goto 40, 3) := by decide +kernel
theorem dX9_scan_65 : decode cX9_scan 65 = .ok (.iload_n 3, 1) := by decide +kernel
theorem dX9_scan_66 : decode cX9_scan 66 = .ok (.invokestatic 65, 3) := by decide +kernel
theorem dX9_scan_69 : decode cX9_scan 69 = .ok (.ifCond .eq 12, 3) := by decide +kernel
theorem dX9_scan_72 : decode cX9_scan 72 = .ok (.aload_n 0, 1) := by decide +kernel
theorem dX9_scan_73 : decode cX9_scan 73 = .ok (.iload_n 1, 1) := by decide +kernel
theorem dX9_scan_74 : decode cX9_scan 74 = .ok (.invokevirtual 68, 3) := by decide +kernel
theorem dX9_scan_77 : decode cX9_scan 77 = .ok (.istore_n 1, 1) := by decide +kernel
theorem dX9_scan_78 : decode cX9_scan 78 = .ok (.goto 24, 3) := by decide +kernel
theorem dX9_scan_81 : decode cX9_scan 81 = .ok (.aload_n 0, 1) := by decide +kernel
theorem dX9_scan_82 : decode cX9_scan 82 = .ok (.iload_n 3, 1) := by decide +kernel
theorem dX9_scan_83 : decode cX9_scan 83 = .ok (.invokestatic 71, 3) := by decide +kernel
theorem dX9_scan_86 : decode cX9_scan 86 = .ok (.ifCond .eq 7, 3) := by decide +kernel
theorem dX9_scan_89 : decode cX9_scan 89 = .ok (.iload_n 3, 1) := by decide +kernel
theorem dX9_scan_90 : decode cX9_scan 90 = .ok (.goto 4, 3) := by decide +kernel
theorem dX9_scan_93 : decode cX9_scan 93 = .ok (.iconst 3, 1) := by decide +kernel
theorem dX9_scan_94 : decode cX9_scan 94 = .ok (.iload_n 1, 1) := by decide +kernel
theorem dX9_scan_95 : decode cX9_scan 95 = .ok (.lconst 0, 1) := by decide +kernel
theorem dX9_scan_96 : decode cX9_scan 96 = .ok (.invokevirtual 74, 3) := by decide +kernel
theorem dX9_scan_99 : decode cX9_scan 99 = .ok (.iinc 1 1, 3) := by decide +kernel
theorem dX9_scan_102 : decode cX9_scan 102 = .ok (.iinc 2 1, 3) := by decide +kernel
theorem dX9_scan_105 : decode cX9_scan 105 = .ok (.goto (-96), 3) := by decide +kernel
theorem dX9_scan_108 : decode cX9_scan 108 = .ok (.aload_n 0, 1) := by decide +kernel
theorem dX9_scan_109 : decode cX9_scan 109 = .ok (.iconst 0, 1) := by decide +kernel
theorem dX9_scan_110 : decode cX9_scan 110 = .ok (.aload_n 0, 1) := by decide +kernel
theorem dX9_scan_111 : decode cX9_scan 111 = .ok (.getfield 32, 3) := by decide +kernel
theorem dX9_scan_114 : decode cX9_scan 114 = .ok (.lconst 0, 1) := by decide +kernel
theorem dX9_scan_115 : decode cX9_scan 115 = .ok (.invokevirtual 74, 3) := by decide +kernel
theorem dX9_scan_118 : decode cX9_scan 118 = .ok (.return_, 1) := by decide +kernel
theorem dX9_scanWord_0 : decode cX9_scanWord 0 = .ok (.lconst 0, 1) := by decide +kernel
theorem dX9_scanWord_1 : decode cX9_scanWord 1 = .ok (.lstore_n 2, 1) := by decide +kernel
theorem dX9_scanWord_2 : decode cX9_scanWord 2 = .ok (.iload_n 1, 1) := by decide +kernel
theorem dX9_scanWord_3 : decode cX9_scanWord 3 = .ok (.istore 4, 2) := by decide +kernel
theorem dX9_scanWord_5 : decode cX9_scanWord 5 = .ok (.iload 4, 2) := by decide +kernel
theorem dX9_scanWord_7 : decode cX9_scanWord 7 = .ok (.aload_n 0, 1) := by decide +kernel
theorem dX9_scanWord_8 : decode cX9_scanWord 8 = .ok (.getfield 32, 3) := by decide +kernel
theorem dX9_scanWord_11 : decode cX9_scanWord 11 = .ok (.if_icmp .ge 36, 3) := by decide +kernel
theorem dX9_scanWord_14 : decode cX9_scanWord 14 = .ok (.aload_n 0, 1) := by decide +kernel
theorem dX9_scanWord_15 : decode cX9_scanWord 15 = .ok (.getfield 11, 3) := by decide +kernel
theorem dX9_scanWord_18 : decode cX9_scanWord 18 = .ok (.iload 4, 2) := by decide +kernel
theorem dX9_scanWord_20 : decode cX9_scanWord 20 = .ok (.iaload, 1) := by decide +kernel
theorem dX9_scanWord_21 : decode cX9_scanWord 21 = .ok (.invokestatic 57, 3) := by decide +kernel
theorem dX9_scanWord_24 : decode cX9_scanWord 24 = .ok (.ifCond .eq 23, 3) := by decide +kernel
theorem dX9_scanWord_27 : decode cX9_scanWord 27 = .ok (.lload_n 2, 1) := by decide +kernel
theorem dX9_scanWord_28 : decode cX9_scanWord 28 = .ok (.bipush 8, 2) := by decide +kernel
theorem dX9_scanWord_30 : decode cX9_scanWord 30 = .ok (.lshl, 1) := by decide +kernel
theorem dX9_scanWord_31 : decode cX9_scanWord 31 = .ok (.aload_n 0, 1) := by decide +kernel
theorem dX9_scanWord_32 : decode cX9_scanWord 32 = .ok (.getfield 11, 3) := by decide +kernel
theorem dX9_scanWord_35 : decode cX9_scanWord 35 = .ok (.iload 4, 2) := by decide +kernel
theorem dX9_scanWord_37 : decode cX9_scanWord 37 = .ok (.iaload, 1) := by decide +kernel
theorem dX9_scanWord_38 : decode cX9_scanWord 38 = .ok (.i2l, 1) := by decide +kernel
theorem dX9_scanWord_39 : decode cX9_scanWord 39 = .ok (.lor, 1) := by decide +kernel
theorem dX9_scanWord_40 : decode cX9_scanWord 40 = .ok (.lstore_n 2, 1) := by decide +kernel
theorem dX9_scanWord_41 : decode cX9_scanWord 41 = .ok (.iinc 4 1, 3) := by decide +kernel
theorem dX9_scanWord_44 : decode cX9_scanWord 44 = .ok (.goto (-39), 3) := by decide +kernel
theorem dX9_scanWord_47 : decode cX9_scanWord 47 = .ok (.aload_n 0, 1) := by decide +kernel
theorem dX9_scanWord_48 : decode cX9_scanWord 48 = .ok (.iload 4, 2) := by decide +kernel
theorem dX9_scanWord_50 : decode cX9_scanWord 50 = .ok (.iload_n 1, 1) := by decide +kernel
theorem dX9_scanWord_51 : decode cX9_scanWord 51 = .ok (.isub, 1) := by decide +kernel
theorem dX9_scanWord_52 : decode cX9_scanWord 52 = .ok (.bipush 8, 2) := by decide +kernel
theorem dX9_scanWord_54 : decode cX9_scanWord 54 = .ok (.if_icmp .le 7, 3) := by decide +kernel
theorem dX9_scanWord_57 : decode cX9_scanWord 57 = .ok (.iconst 3, 1) := by decide +kernel
theorem dX9_scanWord_58 : decode cX9_scanWord 58 = .ok (.goto 4, 3) := by decide +kernel
theorem dX9_scanWord_61 : decode cX9_scanWord 61 = .ok (.iconst 1, 1) := by decide +kernel
theorem dX9_scanWord_62 : decode cX9_scanWord 62 = .ok (.iload_n 1, 1) := by decide +kernel
theorem dX9_scanWord_63 : decode cX9_scanWord 63 = .ok (.lload_n 2, 1) := by decide +kernel
theorem dX9_scanWord_64 : decode cX9_scanWord 64 = .ok (.invokevirtual 74, 3) := by decide +kernel
theorem dX9_scanWord_67 : decode cX9_scanWord 67 = .ok (.iload 4, 2) := by decide +kernel
theorem dX9_scanWord_69 : decode cX9_scanWord 69 = .ok (.ireturn, 1) := by decide +kernel
theorem dX9_scanNumber_0 : decode cX9_scanNumber 0 = .ok (.lconst 0, 1) := by decide +kernel
theorem dX9_scanNumber_1 : decode cX9_scanNumber 1 = .ok (.lstore_n 2, 1) := by decide +kernel
theorem dX9_scanNumber_2 : decode cX9_scanNumber 2 = .ok (.iload_n 1, 1) := by decide +kernel
theorem dX9_scanNumber_3 : decode cX9_scanNumber 3 = .ok (.istore 4, 2) := by decide +kernel
theorem dX9_scanNumber_5 : decode cX9_scanNumber 5 = .ok (.iload 4, 2) := by decide +kernel
theorem dX9_scanNumber_7 : decode cX9_scanNumber 7 = .ok (.aload_n 0, 1) := by decide +kernel
theorem dX9_scanNumber_8 : decode cX9_scanNumber 8 = .ok (.getfield 32, 3) := by decide +kernel
theorem dX9_scanNumber_11 : decode cX9_scanNumber 11 = .ok (.if_icmp .ge 41, 3) := by decide +kernel
theorem dX9_scanNumber_14 : decode cX9_scanNumber 14 = .ok (.aload_n 0, 1) := by decide +kernel
theorem dX9_scanNumber_15 : decode cX9_scanNumber 15 = .ok (.getfield 11, 3) := by decide +kernel
theorem dX9_scanNumber_18 : decode cX9_scanNumber 18 = .ok (.iload 4, 2) := by decide +kernel
theorem dX9_scanNumber_20 : decode cX9_scanNumber 20 = .ok (.iaload, 1) := by decide +kernel
theorem dX9_scanNumber_21 : decode cX9_scanNumber 21 = .ok (.invokestatic 65, 3) := by decide +kernel
theorem dX9_scanNumber_24 : decode cX9_scanNumber 24 = .ok (.ifCond .eq 28, 3) := by decide +kernel
theorem dX9_scanNumber_27 : decode cX9_scanNumber 27 = .ok (.lload_n 2, 1) := by decide +kernel
theorem dX9_scanNumber_28 : decode cX9_scanNumber 28 = .ok (.ldc2_w 78, 3) := by decide +kernel
theorem dX9_scanNumber_31 : decode cX9_scanNumber 31 = .ok (.lmul, 1) := by decide +kernel
theorem dX9_scanNumber_32 : decode cX9_scanNumber 32 = .ok (.aload_n 0, 1) := by decide +kernel
theorem dX9_scanNumber_33 : decode cX9_scanNumber 33 = .ok (.getfield 11, 3) := by decide +kernel
theorem dX9_scanNumber_36 : decode cX9_scanNumber 36 = .ok (.iload 4, 2) := by decide +kernel
theorem dX9_scanNumber_38 : decode cX9_scanNumber 38 = .ok (.iaload, 1) := by decide +kernel
theorem dX9_scanNumber_39 : decode cX9_scanNumber 39 = .ok (.i2l, 1) := by decide +kernel
theorem dX9_scanNumber_40 : decode cX9_scanNumber 40 = .ok (.ladd, 1) := by decide +kernel
theorem dX9_scanNumber_41 : decode cX9_scanNumber 41 = .ok (.ldc2_w 80, 3) := by decide +kernel
theorem dX9_scanNumber_44 : decode cX9_scanNumber 44 = .ok (.lsub, 1) := by decide +kernel
theorem dX9_scanNumber_45 : decode cX9_scanNumber 45 = .ok (.lstore_n 2, 1) := by decide +kernel
theorem dX9_scanNumber_46 : decode cX9_scanNumber 46 = .ok (.iinc 4 1, 3) := by decide +kernel
theorem dX9_scanNumber_49 : decode cX9_scanNumber 49 = .ok (.goto (-44), 3) := by decide +kernel
theorem dX9_scanNumber_52 : decode cX9_scanNumber 52 = .ok (.aload_n 0, 1) := by decide +kernel
theorem dX9_scanNumber_53 : decode cX9_scanNumber 53 = .ok (.iload 4, 2) := by decide +kernel
theorem dX9_scanNumber_55 : decode cX9_scanNumber 55 = .ok (.iload_n 1, 1) := by decide +kernel
theorem dX9_scanNumber_56 : decode cX9_scanNumber 56 = .ok (.isub, 1) := by decide +kernel
theorem dX9_scanNumber_57 : decode cX9_scanNumber 57 = .ok (.iconst 4, 1) := by decide +kernel
theorem dX9_scanNumber_58 : decode cX9_scanNumber 58 = .ok (.if_icmp .le 7, 3) := by decide +kernel
theorem dX9_scanNumber_61 : decode cX9_scanNumber 61 = .ok (.iconst 3, 1) := by decide +kernel
theorem dX9_scanNumber_62 : decode cX9_scanNumber 62 = .ok (.goto 4, 3) := by decide +kernel
theorem dX9_scanNumber_65 : decode cX9_scanNumber 65 = .ok (.iconst 2, 1) := by decide +kernel
theorem dX9_scanNumber_66 : decode cX9_scanNumber 66 = .ok (.iload_n 1, 1) := by decide +kernel
theorem dX9_scanNumber_67 : decode cX9_scanNumber 67 = .ok (.lload_n 2, 1) := by decide +kernel
theorem dX9_scanNumber_68 : decode cX9_scanNumber 68 = .ok (.invokevirtual 74, 3) := by decide +kernel
theorem dX9_scanNumber_71 : decode cX9_scanNumber 71 = .ok (.iload 4, 2) := by decide +kernel
theorem dX9_scanNumber_73 : decode cX9_scanNumber 73 = .ok (.ireturn, 1) := by decide +kernel
theorem dX9_addToken_0 : decode cX9_addToken 0 = .ok (.aload_n 0, 1) := by decide +kernel
theorem dX9_addToken_1 : decode cX9_addToken 1 = .ok (.getfield 54, 3) := by decide +kernel
theorem dX9_addToken_4 : decode cX9_addToken 4 = .ok (.sipush 901, 3) := by decide +kernel
theorem dX9_addToken_7 : decode cX9_addToken 7 = .ok (.if_icmp .lt 4, 3) := by decide +kernel
theorem dX9_addToken_10 : decode cX9_addToken 10 = .ok (.return_, 1) := by decide +kernel
theorem dX9_addToken_11 : decode cX9_addToken 11 = .ok (.aload_n 0, 1) := by decide +kernel
theorem dX9_addToken_12 : decode cX9_addToken 12 = .ok (.getfield 15, 3) := by decide +kernel
theorem dX9_addToken_15 : decode cX9_addToken 15 = .ok (.aload_n 0, 1) := by decide +kernel
theorem dX9_addToken_16 : decode cX9_addToken 16 = .ok (.getfield 54, 3) := by decide +kernel
theorem dX9_addToken_19 : decode cX9_addToken 19 = .ok (.iload_n 1, 1) := by decide +kernel
theorem dX9_addToken_20 : decode cX9_addToken 20 = .ok (.iastore, 1) := by decide +kernel
theorem dX9_addToken_21 : decode cX9_addToken 21 = .ok (.aload_n 0, 1) := by decide +kernel
theorem dX9_addToken_22 : decode cX9_addToken 22 = .ok (.getfield 18, 3) := by decide +kernel
theorem dX9_addToken_25 : decode cX9_addToken 25 = .ok (.aload_n 0, 1) := by decide +kernel
theorem dX9_addToken_26 : decode cX9_addToken 26 = .ok (.getfield 54, 3) := by decide +kernel
theorem dX9_addToken_29 : decode cX9_addToken 29 = .ok (.iconst (-1), 1) := by decide +kernel
theorem dX9_addToken_30 : decode cX9_addToken 30 = .ok (.iastore, 1) := by decide +kernel
theorem dX9_addToken_31 : decode cX9_addToken 31 = .ok (.aload_n 0, 1) := by decide +kernel
theorem dX9_addToken_32 : decode cX9_addToken 32 = .ok (.getfield 21, 3) := by decide +kernel
theorem dX9_addToken_35 : decode cX9_addToken 35 = .ok (.aload_n 0, 1) := by decide +kernel
theorem dX9_addToken_36 : decode cX9_addToken 36 = .ok (.getfield 54, 3) := by decide +kernel
theorem dX9_addToken_39 : decode cX9_addToken 39 = .ok (.iload_n 2, 1) := by decide +kernel
theorem dX9_addToken_40 : decode cX9_addToken 40 = .ok (.iastore, 1) := by decide +kernel
theorem dX9_addToken_41 : decode cX9_addToken 41 = .ok (.aload_n 0, 1) := by decide +kernel
theorem dX9_addToken_42 : decode cX9_addToken 42 = .ok (.getfield 24, 3) := by decide +kernel
theorem dX9_addToken_45 : decode cX9_addToken 45 = .ok (.aload_n 0, 1) := by decide +kernel
theorem dX9_addToken_46 : decode cX9_addToken 46 = .ok (.getfield 54, 3) := by decide +kernel
theorem dX9_addToken_49 : decode cX9_addToken 49 = .ok (.lload_n 3, 1) := by decide +kernel
theorem dX9_addToken_50 : decode cX9_addToken 50 = .ok (.lastore, 1) := by decide +kernel
theorem dX9_addToken_51 : decode cX9_addToken 51 = .ok (.iconst 0, 1) := by decide +kernel
theorem dX9_addToken_52 : decode cX9_addToken 52 = .ok (.istore 5, 2) := by decide +kernel
theorem dX9_addToken_54 : decode cX9_addToken 54 = .ok (.iload 5, 2) := by decide +kernel
theorem dX9_addToken_56 : decode cX9_addToken 56 = .ok (.getstatic 82, 3) := by decide +kernel
theorem dX9_addToken_59 : decode cX9_addToken 59 = .ok (.arraylength, 1) := by decide +kernel
theorem dX9_addToken_60 : decode cX9_addToken 60 = .ok (.if_icmp .ge 36, 3) := by decide +kernel
theorem dX9_addToken_63 : decode cX9_addToken 63 = .ok (.iload_n 1, 1) := by decide +kernel
theorem dX9_addToken_64 : decode cX9_addToken 64 = .ok (.iconst 1, 1) := by decide +kernel
theorem dX9_addToken_65 : decode cX9_addToken 65 = .ok (.if_icmp .ne 31, 3) := by decide +kernel
theorem dX9_addToken_68 : decode cX9_addToken 68 = .ok (.getstatic 82, 3) := by decide +kernel
theorem dX9_addToken_71 : decode cX9_addToken 71 = .ok (.iload 5, 2) := by decide +kernel
theorem dX9_addToken_73 : decode cX9_addToken 73 = .ok (.laload, 1) := by decide +kernel
theorem dX9_addToken_74 : decode cX9_addToken 74 = .ok (.lload_n 3, 1) := by decide +kernel
theorem dX9_addToken_75 : decode cX9_addToken 75 = .ok (.lcmp, 1) := by decide +kernel
theorem dX9_addToken_76 : decode cX9_addToken 76 = .ok (.ifCond .ne 14, 3) := by decide +kernel
theorem dX9_addToken_79 : decode cX9_addToken 79 = .ok (.aload_n 0, 1) := by decide +kernel
theorem dX9_addToken_80 : decode cX9_addToken 80 = .ok (.getfield 18, 3) := by decide +kernel
theorem dX9_addToken_83 : decode cX9_addToken 83 = .ok (.aload_n 0, 1) := by decide +kernel
theorem dX9_addToken_84 : decode cX9_addToken 84 = .ok (.getfield 54, 3) := by decide +kernel
theorem dX9_addToken_87 : decode cX9_addToken 87 = .ok (.iload 5, 2) := by decide +kernel
theorem dX9_addToken_89 : decode cX9_addToken 89 = .ok (.iastore, 1) := by decide +kernel
theorem dX9_addToken_90 : decode cX9_addToken 90 = .ok (.iinc 5 1, 3) := by decide +kernel
theorem dX9_addToken_93 : decode cX9_addToken 93 = .ok (.goto (-39), 3) := by decide +kernel
theorem dX9_addToken_96 : decode cX9_addToken 96 = .ok (.aload_n 0, 1) := by decide +kernel
theorem dX9_addToken_97 : decode cX9_addToken 97 = .ok (.dup, 1) := by decide +kernel
theorem dX9_addToken_98 : decode cX9_addToken 98 = .ok (.getfield 54, 3) := by decide +kernel
theorem dX9_addToken_101 : decode cX9_addToken 101 = .ok (.iconst 1, 1) := by decide +kernel
theorem dX9_addToken_102 : decode cX9_addToken 102 = .ok (.iadd, 1) := by decide +kernel
theorem dX9_addToken_103 : decode cX9_addToken 103 = .ok (.putfield 54, 3) := by decide +kernel
theorem dX9_addToken_106 : decode cX9_addToken 106 = .ok (.return_, 1) := by decide +kernel
theorem dX9_isSmall_0 : decode cX9_isSmall 0 = .ok (.iload_n 0, 1) := by decide +kernel
theorem dX9_isSmall_1 : decode cX9_isSmall 1 = .ok (.bipush 97, 2) := by decide +kernel
theorem dX9_isSmall_3 : decode cX9_isSmall 3 = .ok (.if_icmp .lt 13, 3) := by decide +kernel
theorem dX9_isSmall_6 : decode cX9_isSmall 6 = .ok (.iload_n 0, 1) := by decide +kernel
theorem dX9_isSmall_7 : decode cX9_isSmall 7 = .ok (.bipush 122, 2) := by decide +kernel
theorem dX9_isSmall_9 : decode cX9_isSmall 9 = .ok (.if_icmp .gt 7, 3) := by decide +kernel
theorem dX9_isSmall_12 : decode cX9_isSmall 12 = .ok (.iconst 1, 1) := by decide +kernel
theorem dX9_isSmall_13 : decode cX9_isSmall 13 = .ok (.goto 4, 3) := by decide +kernel
theorem dX9_isSmall_16 : decode cX9_isSmall 16 = .ok (.iconst 0, 1) := by decide +kernel
theorem dX9_isSmall_17 : decode cX9_isSmall 17 = .ok (.ireturn, 1) := by decide +kernel
theorem dX9_isDigit_0 : decode cX9_isDigit 0 = .ok (.iload_n 0, 1) := by decide +kernel
theorem dX9_isDigit_1 : decode cX9_isDigit 1 = .ok (.bipush 48, 2) := by decide +kernel
theorem dX9_isDigit_3 : decode cX9_isDigit 3 = .ok (.if_icmp .lt 13, 3) := by decide +kernel
theorem dX9_isDigit_6 : decode cX9_isDigit 6 = .ok (.iload_n 0, 1) := by decide +kernel
theorem dX9_isDigit_7 : decode cX9_isDigit 7 = .ok (.bipush 57, 2) := by decide +kernel
theorem dX9_isDigit_9 : decode cX9_isDigit 9 = .ok (.if_icmp .gt 7, 3) := by decide +kernel
theorem dX9_isDigit_12 : decode cX9_isDigit 12 = .ok (.iconst 1, 1) := by decide +kernel
theorem dX9_isDigit_13 : decode cX9_isDigit 13 = .ok (.goto 4, 3) := by decide +kernel
theorem dX9_isDigit_16 : decode cX9_isDigit 16 = .ok (.iconst 0, 1) := by decide +kernel
theorem dX9_isDigit_17 : decode cX9_isDigit 17 = .ok (.ireturn, 1) := by decide +kernel
theorem dX9_isSign_0 : decode cX9_isSign 0 = .ok (.iload_n 0, 1) := by decide +kernel
theorem dX9_isSign_1 : decode cX9_isSign 1 = .ok (.tableswitch 261 33 93 #[259, 261, 261, 261, 259, 259, 261, 259, 259, 259, 259, 261, 259, 261, 259, 261, 261, 261, 261, 261, 261, 261, 261, 261, 261, 261, 259, 259, 259, 259, 261, 261, 261, 261, 261, 261, 261, 261, 261, 261, 261, 261, 261, 261, 261, 261, 261, 261, 261, 261, 261, 261, 261, 261, 261, 261, 261, 261, 259, 261, 259], 259) := by decide +kernel
theorem dX9_isSign_260 : decode cX9_isSign 260 = .ok (.iconst 1, 1) := by decide +kernel
theorem dX9_isSign_261 : decode cX9_isSign 261 = .ok (.ireturn, 1) := by decide +kernel
theorem dX9_isSign_262 : decode cX9_isSign 262 = .ok (.iconst 0, 1) := by decide +kernel
theorem dX9_isSign_263 : decode cX9_isSign 263 = .ok (.ireturn, 1) := by decide +kernel
theorem dX9_fail_0 : decode cX9_fail 0 = .ok (.aload_n 0, 1) := by decide +kernel
theorem dX9_fail_1 : decode cX9_fail 1 = .ok (.getfield 39, 3) := by decide +kernel
theorem dX9_fail_4 : decode cX9_fail 4 = .ok (.ifCond .ne 21, 3) := by decide +kernel
theorem dX9_fail_7 : decode cX9_fail 7 = .ok (.aload_n 0, 1) := by decide +kernel
theorem dX9_fail_8 : decode cX9_fail 8 = .ok (.iload_n 1, 1) := by decide +kernel
theorem dX9_fail_9 : decode cX9_fail 9 = .ok (.putfield 39, 3) := by decide +kernel
theorem dX9_fail_12 : decode cX9_fail 12 = .ok (.aload_n 0, 1) := by decide +kernel
theorem dX9_fail_13 : decode cX9_fail 13 = .ok (.aload_n 0, 1) := by decide +kernel
theorem dX9_fail_14 : decode cX9_fail 14 = .ok (.getfield 21, 3) := by decide +kernel
theorem dX9_fail_17 : decode cX9_fail 17 = .ok (.aload_n 0, 1) := by decide +kernel
theorem dX9_fail_18 : decode cX9_fail 18 = .ok (.getfield 45, 3) := by decide +kernel
theorem dX9_fail_21 : decode cX9_fail 21 = .ok (.iaload, 1) := by decide +kernel
theorem dX9_fail_22 : decode cX9_fail 22 = .ok (.putfield 28, 3) := by decide +kernel
theorem dX9_fail_25 : decode cX9_fail 25 = .ok (.aload_n 0, 1) := by decide +kernel
theorem dX9_fail_26 : decode cX9_fail 26 = .ok (.iconst 3, 1) := by decide +kernel
theorem dX9_fail_27 : decode cX9_fail 27 = .ok (.putfield 48, 3) := by decide +kernel
theorem dX9_fail_30 : decode cX9_fail 30 = .ok (.aload_n 0, 1) := by decide +kernel
theorem dX9_fail_31 : decode cX9_fail 31 = .ok (.iconst (-1), 1) := by decide +kernel
theorem dX9_fail_32 : decode cX9_fail 32 = .ok (.putfield 51, 3) := by decide +kernel
theorem dX9_fail_35 : decode cX9_fail 35 = .ok (.return_, 1) := by decide +kernel
theorem dX9_failed_0 : decode cX9_failed 0 = .ok (.aload_n 0, 1) := by decide +kernel
theorem dX9_failed_1 : decode cX9_failed 1 = .ok (.getfield 39, 3) := by decide +kernel
theorem dX9_failed_4 : decode cX9_failed 4 = .ok (.ifCond .eq 7, 3) := by decide +kernel
theorem dX9_failed_7 : decode cX9_failed 7 = .ok (.iconst 1, 1) := by decide +kernel
theorem dX9_failed_8 : decode cX9_failed 8 = .ok (.goto 4, 3) := by decide +kernel
theorem dX9_failed_11 : decode cX9_failed 11 = .ok (.iconst 0, 1) := by decide +kernel
theorem dX9_failed_12 : decode cX9_failed 12 = .ok (.ireturn, 1) := by decide +kernel
theorem dX9_kind_0 : decode cX9_kind 0 = .ok (.aload_n 0, 1) := by decide +kernel
theorem dX9_kind_1 : decode cX9_kind 1 = .ok (.getfield 48, 3) := by decide +kernel
theorem dX9_kind_4 : decode cX9_kind 4 = .ok (.ireturn, 1) := by decide +kernel
theorem dX9_key_0 : decode cX9_key 0 = .ok (.aload_n 0, 1) := by decide +kernel
theorem dX9_key_1 : decode cX9_key 1 = .ok (.getfield 51, 3) := by decide +kernel
theorem dX9_key_4 : decode cX9_key 4 = .ok (.ireturn, 1) := by decide +kernel
theorem dX9_number_0 : decode cX9_number 0 = .ok (.aload_n 0, 1) := by decide +kernel
theorem dX9_number_1 : decode cX9_number 1 = .ok (.getfield 24, 3) := by decide +kernel
theorem dX9_number_4 : decode cX9_number 4 = .ok (.aload_n 0, 1) := by decide +kernel
theorem dX9_number_5 : decode cX9_number 5 = .ok (.getfield 45, 3) := by decide +kernel
theorem dX9_number_8 : decode cX9_number 8 = .ok (.laload, 1) := by decide +kernel
theorem dX9_number_9 : decode cX9_number 9 = .ok (.l2i, 1) := by decide +kernel
theorem dX9_number_10 : decode cX9_number 10 = .ok (.ireturn, 1) := by decide +kernel
theorem dX9_word_0 : decode cX9_word 0 = .ok (.aload_n 0, 1) := by decide +kernel
theorem dX9_word_1 : decode cX9_word 1 = .ok (.getfield 24, 3) := by decide +kernel
theorem dX9_word_4 : decode cX9_word 4 = .ok (.aload_n 0, 1) := by decide +kernel
theorem dX9_word_5 : decode cX9_word 5 = .ok (.getfield 45, 3) := by decide +kernel
theorem dX9_word_8 : decode cX9_word 8 = .ok (.laload, 1) := by decide +kernel
theorem dX9_word_9 : decode cX9_word 9 = .ok (.lreturn, 1) := by decide +kernel
theorem dX9_letter_0 : decode cX9_letter 0 = .ok (.aload_n 0, 1) := by decide +kernel
theorem dX9_letter_1 : decode cX9_letter 1 = .ok (.getfield 24, 3) := by decide +kernel
theorem dX9_letter_4 : decode cX9_letter 4 = .ok (.aload_n 0, 1) := by decide +kernel
theorem dX9_letter_5 : decode cX9_letter 5 = .ok (.getfield 45, 3) := by decide +kernel
theorem dX9_letter_8 : decode cX9_letter 8 = .ok (.laload, 1) := by decide +kernel
theorem dX9_letter_9 : decode cX9_letter 9 = .ok (.lstore_n 1, 1) := by decide +kernel
theorem dX9_letter_10 : decode cX9_letter 10 = .ok (.aload_n 0, 1) := by decide +kernel
theorem dX9_letter_11 : decode cX9_letter 11 = .ok (.getfield 48, 3) := by decide +kernel
theorem dX9_letter_14 : decode cX9_letter 14 = .ok (.iconst 1, 1) := by decide +kernel
theorem dX9_letter_15 : decode cX9_letter 15 = .ok (.if_icmp .eq 5, 3) := by decide +kernel
theorem dX9_letter_18 : decode cX9_letter 18 = .ok (.iconst (-1), 1) := by decide +kernel
theorem dX9_letter_19 : decode cX9_letter 19 = .ok (.ireturn, 1) := by decide +kernel
theorem dX9_letter_20 : decode cX9_letter 20 = .ok (.lload_n 1, 1) := by decide +kernel
theorem dX9_letter_21 : decode cX9_letter 21 = .ok (.ldc2_w 85, 3) := by decide +kernel
theorem dX9_letter_24 : decode cX9_letter 24 = .ok (.lcmp, 1) := by decide +kernel
theorem dX9_letter_25 : decode cX9_letter 25 = .ok (.ifCond .lt 18, 3) := by decide +kernel
theorem dX9_letter_28 : decode cX9_letter 28 = .ok (.lload_n 1, 1) := by decide +kernel
theorem dX9_letter_29 : decode cX9_letter 29 = .ok (.ldc2_w 87, 3) := by decide +kernel
theorem dX9_letter_32 : decode cX9_letter 32 = .ok (.lcmp, 1) := by decide +kernel
theorem dX9_letter_33 : decode cX9_letter 33 = .ok (.ifCond .gt 10, 3) := by decide +kernel
theorem dX9_letter_36 : decode cX9_letter 36 = .ok (.lload_n 1, 1) := by decide +kernel
theorem dX9_letter_37 : decode cX9_letter 37 = .ok (.ldc2_w 85, 3) := by decide +kernel
theorem dX9_letter_40 : decode cX9_letter 40 = .ok (.lsub, 1) := by decide +kernel
theorem dX9_letter_41 : decode cX9_letter 41 = .ok (.l2i, 1) := by decide +kernel
theorem dX9_letter_42 : decode cX9_letter 42 = .ok (.ireturn, 1) := by decide +kernel
theorem dX9_letter_43 : decode cX9_letter 43 = .ok (.lload_n 1, 1) := by decide +kernel
theorem dX9_letter_44 : decode cX9_letter 44 = .ok (.ldc2_w 89, 3) := by decide +kernel
theorem dX9_letter_47 : decode cX9_letter 47 = .ok (.lcmp, 1) := by decide +kernel
theorem dX9_letter_48 : decode cX9_letter 48 = .ok (.ifCond .ne 8, 3) := by decide +kernel
theorem dX9_letter_51 : decode cX9_letter 51 = .ok (.bipush 8, 2) := by decide +kernel
theorem dX9_letter_53 : decode cX9_letter 53 = .ok (.goto 4, 3) := by decide +kernel
theorem dX9_letter_56 : decode cX9_letter 56 = .ok (.iconst (-1), 1) := by decide +kernel
theorem dX9_letter_57 : decode cX9_letter 57 = .ok (.ireturn, 1) := by decide +kernel
theorem dX9_seesName_0 : decode cX9_seesName 0 = .ok (.aload_n 0, 1) := by decide +kernel
theorem dX9_seesName_1 : decode cX9_seesName 1 = .ok (.getfield 48, 3) := by decide +kernel
theorem dX9_seesName_4 : decode cX9_seesName 4 = .ok (.iconst 1, 1) := by decide +kernel
theorem dX9_seesName_5 : decode cX9_seesName 5 = .ok (.if_icmp .ne 39, 3) := by decide +kernel
