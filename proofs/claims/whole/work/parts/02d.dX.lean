theorem dX1_init_0 : decode cX1_init 0 = .ok (.aload_n 0, 1) := by decide +kernel
theorem dX1_init_1 : decode cX1_init 1 = .ok (.iconst 0, 1) := by decide +kernel
theorem dX1_init_2 : decode cX1_init 2 = .ok (.invokespecial 3, 3) := by decide +kernel
theorem dX1_init_5 : decode cX1_init 5 = .ok (.aload_n 0, 1) := by decide +kernel
theorem dX1_init_6 : decode cX1_init 6 = .ok (.iconst 0, 1) := by decide +kernel
theorem dX1_init_7 : decode cX1_init 7 = .ok (.putfield 9, 3) := by decide +kernel
theorem dX1_init_10 : decode cX1_init 10 = .ok (.return_, 1) := by decide +kernel
theorem dX1_stateBehind_0 : decode cX1_stateBehind 0 = .ok (.iload_n 0, 1) := by decide +kernel
theorem dX1_stateBehind_1 : decode cX1_stateBehind 1 = .ok (.tableswitch 39 3 6 #[31, 33, 35, 37], 31) := by decide +kernel
theorem dX1_stateBehind_32 : decode cX1_stateBehind 32 = .ok (.iconst 2, 1) := by decide +kernel
theorem dX1_stateBehind_33 : decode cX1_stateBehind 33 = .ok (.ireturn, 1) := by decide +kernel
theorem dX1_stateBehind_34 : decode cX1_stateBehind 34 = .ok (.iconst 3, 1) := by decide +kernel
theorem dX1_stateBehind_35 : decode cX1_stateBehind 35 = .ok (.ireturn, 1) := by decide +kernel
theorem dX1_stateBehind_36 : decode cX1_stateBehind 36 = .ok (.iconst 4, 1) := by decide +kernel
theorem dX1_stateBehind_37 : decode cX1_stateBehind 37 = .ok (.ireturn, 1) := by decide +kernel
theorem dX1_stateBehind_38 : decode cX1_stateBehind 38 = .ok (.iconst 5, 1) := by decide +kernel
theorem dX1_stateBehind_39 : decode cX1_stateBehind 39 = .ok (.ireturn, 1) := by decide +kernel
theorem dX1_stateBehind_40 : decode cX1_stateBehind 40 = .ok (.iload_n 1, 1) := by decide +kernel
theorem dX1_stateBehind_41 : decode cX1_stateBehind 41 = .ok (.ifCond .eq 7, 3) := by decide +kernel
theorem dX1_stateBehind_44 : decode cX1_stateBehind 44 = .ok (.iconst 5, 1) := by decide +kernel
theorem dX1_stateBehind_45 : decode cX1_stateBehind 45 = .ok (.goto 4, 3) := by decide +kernel
theorem dX1_stateBehind_48 : decode cX1_stateBehind 48 = .ok (.iconst 4, 1) := by decide +kernel
theorem dX1_stateBehind_49 : decode cX1_stateBehind 49 = .ok (.ireturn, 1) := by decide +kernel
theorem dX1_begin_0 : decode cX1_begin 0 = .ok (.aload_n 0, 1) := by decide +kernel
theorem dX1_begin_1 : decode cX1_begin 1 = .ok (.iconst 1, 1) := by decide +kernel
theorem dX1_begin_2 : decode cX1_begin 2 = .ok (.invokevirtual 15, 3) := by decide +kernel
theorem dX1_begin_5 : decode cX1_begin 5 = .ok (.aload_n 0, 1) := by decide +kernel
theorem dX1_begin_6 : decode cX1_begin 6 = .ok (.iconst 1, 1) := by decide +kernel
theorem dX1_begin_7 : decode cX1_begin 7 = .ok (.aload_n 1, 1) := by decide +kernel
theorem dX1_begin_8 : decode cX1_begin 8 = .ok (.invokevirtual 18, 3) := by decide +kernel
theorem dX1_begin_11 : decode cX1_begin 11 = .ok (.invokevirtual 24, 3) := by decide +kernel
theorem dX1_begin_14 : decode cX1_begin 14 = .ok (.aload_n 1, 1) := by decide +kernel
theorem dX1_begin_15 : decode cX1_begin 15 = .ok (.iconst 1, 1) := by decide +kernel
theorem dX1_begin_16 : decode cX1_begin 16 = .ok (.aload_n 0, 1) := by decide +kernel
theorem dX1_begin_17 : decode cX1_begin 17 = .ok (.getfield 28, 3) := by decide +kernel
theorem dX1_begin_20 : decode cX1_begin 20 = .ok (.aload_n 1, 1) := by decide +kernel
theorem dX1_begin_21 : decode cX1_begin 21 = .ok (.getfield 31, 3) := by decide +kernel
theorem dX1_begin_24 : decode cX1_begin 24 = .ok (.invokevirtual 34, 3) := by decide +kernel
theorem dX1_begin_27 : decode cX1_begin 27 = .ok (.return_, 1) := by decide +kernel
theorem dX1_recover_0 : decode cX1_recover 0 = .ok (.aload_n 0, 1) := by decide +kernel
theorem dX1_recover_1 : decode cX1_recover 1 = .ok (.invokevirtual 38, 3) := by decide +kernel
theorem dX1_recover_4 : decode cX1_recover 4 = .ok (.tableswitch 120 3 6 #[32, 57, 83, 109], 32) := by decide +kernel
theorem dX1_recover_36 : decode cX1_recover 36 = .ok (.aload_n 0, 1) := by decide +kernel
theorem dX1_recover_37 : decode cX1_recover 37 = .ok (.iconst 2, 1) := by decide +kernel
theorem dX1_recover_38 : decode cX1_recover 38 = .ok (.aload_n 1, 1) := by decide +kernel
theorem dX1_recover_39 : decode cX1_recover 39 = .ok (.invokevirtual 18, 3) := by decide +kernel
theorem dX1_recover_42 : decode cX1_recover 42 = .ok (.invokevirtual 24, 3) := by decide +kernel
theorem dX1_recover_45 : decode cX1_recover 45 = .ok (.aload_n 1, 1) := by decide +kernel
theorem dX1_recover_46 : decode cX1_recover 46 = .ok (.iconst 4, 1) := by decide +kernel
theorem dX1_recover_47 : decode cX1_recover 47 = .ok (.aload_n 0, 1) := by decide +kernel
theorem dX1_recover_48 : decode cX1_recover 48 = .ok (.getfield 28, 3) := by decide +kernel
theorem dX1_recover_51 : decode cX1_recover 51 = .ok (.aload_n 1, 1) := by decide +kernel
theorem dX1_recover_52 : decode cX1_recover 52 = .ok (.getfield 31, 3) := by decide +kernel
theorem dX1_recover_55 : decode cX1_recover 55 = .ok (.invokevirtual 34, 3) := by decide +kernel
theorem dX1_recover_58 : decode cX1_recover 58 = .ok (.goto 71, 3) := by decide +kernel
theorem dX1_recover_61 : decode cX1_recover 61 = .ok (.aload_n 0, 1) := by decide +kernel
theorem dX1_recover_62 : decode cX1_recover 62 = .ok (.iconst 3, 1) := by decide +kernel
theorem dX1_recover_63 : decode cX1_recover 63 = .ok (.aload_n 1, 1) := by decide +kernel
theorem dX1_recover_64 : decode cX1_recover 64 = .ok (.invokevirtual 18, 3) := by decide +kernel
theorem dX1_recover_67 : decode cX1_recover 67 = .ok (.invokevirtual 24, 3) := by decide +kernel
theorem dX1_recover_70 : decode cX1_recover 70 = .ok (.aload_n 1, 1) := by decide +kernel
theorem dX1_recover_71 : decode cX1_recover 71 = .ok (.bipush 6, 2) := by decide +kernel
theorem dX1_recover_73 : decode cX1_recover 73 = .ok (.aload_n 0, 1) := by decide +kernel
theorem dX1_recover_74 : decode cX1_recover 74 = .ok (.getfield 28, 3) := by decide +kernel
theorem dX1_recover_77 : decode cX1_recover 77 = .ok (.aload_n 1, 1) := by decide +kernel
theorem dX1_recover_78 : decode cX1_recover 78 = .ok (.getfield 31, 3) := by decide +kernel
theorem dX1_recover_81 : decode cX1_recover 81 = .ok (.invokevirtual 34, 3) := by decide +kernel
theorem dX1_recover_84 : decode cX1_recover 84 = .ok (.goto 45, 3) := by decide +kernel
theorem dX1_recover_87 : decode cX1_recover 87 = .ok (.aload_n 0, 1) := by decide +kernel
theorem dX1_recover_88 : decode cX1_recover 88 = .ok (.iconst 4, 1) := by decide +kernel
theorem dX1_recover_89 : decode cX1_recover 89 = .ok (.aload_n 1, 1) := by decide +kernel
theorem dX1_recover_90 : decode cX1_recover 90 = .ok (.invokevirtual 18, 3) := by decide +kernel
theorem dX1_recover_93 : decode cX1_recover 93 = .ok (.invokevirtual 24, 3) := by decide +kernel
theorem dX1_recover_96 : decode cX1_recover 96 = .ok (.aload_n 1, 1) := by decide +kernel
theorem dX1_recover_97 : decode cX1_recover 97 = .ok (.bipush 7, 2) := by decide +kernel
theorem dX1_recover_99 : decode cX1_recover 99 = .ok (.aload_n 0, 1) := by decide +kernel
theorem dX1_recover_100 : decode cX1_recover 100 = .ok (.getfield 28, 3) := by decide +kernel
theorem dX1_recover_103 : decode cX1_recover 103 = .ok (.aload_n 1, 1) := by decide +kernel
theorem dX1_recover_104 : decode cX1_recover 104 = .ok (.getfield 31, 3) := by decide +kernel
theorem dX1_recover_107 : decode cX1_recover 107 = .ok (.invokevirtual 34, 3) := by decide +kernel
theorem dX1_recover_110 : decode cX1_recover 110 = .ok (.goto 19, 3) := by decide +kernel
theorem dX1_recover_113 : decode cX1_recover 113 = .ok (.aload_n 0, 1) := by decide +kernel
theorem dX1_recover_114 : decode cX1_recover 114 = .ok (.iconst 5, 1) := by decide +kernel
theorem dX1_recover_115 : decode cX1_recover 115 = .ok (.sipush 160, 3) := by decide +kernel
theorem dX1_recover_118 : decode cX1_recover 118 = .ok (.invokevirtual 24, 3) := by decide +kernel
theorem dX1_recover_121 : decode cX1_recover 121 = .ok (.goto 8, 3) := by decide +kernel
theorem dX1_recover_124 : decode cX1_recover 124 = .ok (.aload_n 0, 1) := by decide +kernel
theorem dX1_recover_125 : decode cX1_recover 125 = .ok (.aload_n 1, 1) := by decide +kernel
theorem dX1_recover_126 : decode cX1_recover 126 = .ok (.invokevirtual 41, 3) := by decide +kernel
theorem dX1_recover_129 : decode cX1_recover 129 = .ok (.return_, 1) := by decide +kernel
theorem dX1_receive_0 : decode cX1_receive 0 = .ok (.iload_n 2, 1) := by decide +kernel
theorem dX1_receive_1 : decode cX1_receive 1 = .ok (.tableswitch 198 2 9 #[47, 91, 198, 107, 198, 198, 132, 165], 47) := by decide +kernel
theorem dX1_receive_48 : decode cX1_receive 48 = .ok (.aload_n 0, 1) := by decide +kernel
theorem dX1_receive_49 : decode cX1_receive 49 = .ok (.getfield 45, 3) := by decide +kernel
theorem dX1_receive_52 : decode cX1_receive 52 = .ok (.iconst 1, 1) := by decide +kernel
theorem dX1_receive_53 : decode cX1_receive 53 = .ok (.if_icmp .ne 146, 3) := by decide +kernel
theorem dX1_receive_56 : decode cX1_receive 56 = .ok (.aload_n 0, 1) := by decide +kernel
theorem dX1_receive_57 : decode cX1_receive 57 = .ok (.aload_n 1, 1) := by decide +kernel
theorem dX1_receive_58 : decode cX1_receive 58 = .ok (.iload_n 3, 1) := by decide +kernel
theorem dX1_receive_59 : decode cX1_receive 59 = .ok (.invokevirtual 48, 3) := by decide +kernel
theorem dX1_receive_62 : decode cX1_receive 62 = .ok (.ifCond .eq 137, 3) := by decide +kernel
theorem dX1_receive_65 : decode cX1_receive 65 = .ok (.aload_n 1, 1) := by decide +kernel
theorem dX1_receive_66 : decode cX1_receive 66 = .ok (.getfield 52, 3) := by decide +kernel
theorem dX1_receive_69 : decode cX1_receive 69 = .ok (.getfield 56, 3) := by decide +kernel
theorem dX1_receive_72 : decode cX1_receive 72 = .ok (.iconst 2, 1) := by decide +kernel
theorem dX1_receive_73 : decode cX1_receive 73 = .ok (.if_icmp .ne 11, 3) := by decide +kernel
theorem dX1_receive_76 : decode cX1_receive 76 = .ok (.aload_n 0, 1) := by decide +kernel
theorem dX1_receive_77 : decode cX1_receive 77 = .ok (.aload_n 1, 1) := by decide +kernel
theorem dX1_receive_78 : decode cX1_receive 78 = .ok (.invokevirtual 61, 3) := by decide +kernel
theorem dX1_receive_81 : decode cX1_receive 81 = .ok (.goto 118, 3) := by decide +kernel
theorem dX1_receive_84 : decode cX1_receive 84 = .ok (.aload_n 0, 1) := by decide +kernel
theorem dX1_receive_85 : decode cX1_receive 85 = .ok (.aload_n 1, 1) := by decide +kernel
theorem dX1_receive_86 : decode cX1_receive 86 = .ok (.invokevirtual 64, 3) := by decide +kernel
theorem dX1_receive_89 : decode cX1_receive 89 = .ok (.goto 110, 3) := by decide +kernel
theorem dX1_receive_92 : decode cX1_receive 92 = .ok (.aload_n 0, 1) := by decide +kernel
theorem dX1_receive_93 : decode cX1_receive 93 = .ok (.getfield 45, 3) := by decide +kernel
theorem dX1_receive_96 : decode cX1_receive 96 = .ok (.iconst 1, 1) := by decide +kernel
theorem dX1_receive_97 : decode cX1_receive 97 = .ok (.if_icmp .ne 102, 3) := by decide +kernel
theorem dX1_receive_100 : decode cX1_receive 100 = .ok (.aload_n 0, 1) := by decide +kernel
theorem dX1_receive_101 : decode cX1_receive 101 = .ok (.aload_n 1, 1) := by decide +kernel
theorem dX1_receive_102 : decode cX1_receive 102 = .ok (.invokevirtual 41, 3) := by decide +kernel
theorem dX1_receive_105 : decode cX1_receive 105 = .ok (.goto 94, 3) := by decide +kernel
theorem dX1_receive_108 : decode cX1_receive 108 = .ok (.aload_n 0, 1) := by decide +kernel
theorem dX1_receive_109 : decode cX1_receive 109 = .ok (.getfield 45, 3) := by decide +kernel
theorem dX1_receive_112 : decode cX1_receive 112 = .ok (.iconst 2, 1) := by decide +kernel
theorem dX1_receive_113 : decode cX1_receive 113 = .ok (.if_icmp .ne 86, 3) := by decide +kernel
theorem dX1_receive_116 : decode cX1_receive 116 = .ok (.aload_n 0, 1) := by decide +kernel
theorem dX1_receive_117 : decode cX1_receive 117 = .ok (.aload_n 1, 1) := by decide +kernel
theorem dX1_receive_118 : decode cX1_receive 118 = .ok (.iload_n 3, 1) := by decide +kernel
theorem dX1_receive_119 : decode cX1_receive 119 = .ok (.invokevirtual 48, 3) := by decide +kernel
theorem dX1_receive_122 : decode cX1_receive 122 = .ok (.ifCond .eq 77, 3) := by decide +kernel
theorem dX1_receive_125 : decode cX1_receive 125 = .ok (.aload_n 0, 1) := by decide +kernel
theorem dX1_receive_126 : decode cX1_receive 126 = .ok (.aload_n 1, 1) := by decide +kernel
theorem dX1_receive_127 : decode cX1_receive 127 = .ok (.invokevirtual 61, 3) := by decide +kernel
theorem dX1_receive_130 : decode cX1_receive 130 = .ok (.goto 69, 3) := by decide +kernel
theorem dX1_receive_133 : decode cX1_receive 133 = .ok (.aload_n 0, 1) := by decide +kernel
theorem dX1_receive_134 : decode cX1_receive 134 = .ok (.invokevirtual 67, 3) := by decide +kernel
theorem dX1_receive_137 : decode cX1_receive 137 = .ok (.ifCond .eq 62, 3) := by decide +kernel
theorem dX1_receive_140 : decode cX1_receive 140 = .ok (.aload_n 0, 1) := by decide +kernel
theorem dX1_receive_141 : decode cX1_receive 141 = .ok (.aload_n 1, 1) := by decide +kernel
theorem dX1_receive_142 : decode cX1_receive 142 = .ok (.iload_n 3, 1) := by decide +kernel
theorem dX1_receive_143 : decode cX1_receive 143 = .ok (.invokevirtual 48, 3) := by decide +kernel
theorem dX1_receive_146 : decode cX1_receive 146 = .ok (.ifCond .eq 53, 3) := by decide +kernel
theorem dX1_receive_149 : decode cX1_receive 149 = .ok (.aload_n 0, 1) := by decide +kernel
theorem dX1_receive_150 : decode cX1_receive 150 = .ok (.bipush 6, 2) := by decide +kernel
theorem dX1_receive_152 : decode cX1_receive 152 = .ok (.invokevirtual 15, 3) := by decide +kernel
theorem dX1_receive_155 : decode cX1_receive 155 = .ok (.aload_n 0, 1) := by decide +kernel
theorem dX1_receive_156 : decode cX1_receive 156 = .ok (.iconst 5, 1) := by decide +kernel
theorem dX1_receive_157 : decode cX1_receive 157 = .ok (.sipush 160, 3) := by decide +kernel
theorem dX1_receive_160 : decode cX1_receive 160 = .ok (.invokevirtual 24, 3) := by decide +kernel
theorem dX1_receive_163 : decode cX1_receive 163 = .ok (.goto 36, 3) := by decide +kernel
theorem dX1_receive_166 : decode cX1_receive 166 = .ok (.aload_n 0, 1) := by decide +kernel
theorem dX1_receive_167 : decode cX1_receive 167 = .ok (.invokevirtual 67, 3) := by decide +kernel
theorem dX1_receive_170 : decode cX1_receive 170 = .ok (.ifCond .ne 11, 3) := by decide +kernel
theorem dX1_receive_173 : decode cX1_receive 173 = .ok (.aload_n 0, 1) := by decide +kernel
theorem dX1_receive_174 : decode cX1_receive 174 = .ok (.getfield 45, 3) := by decide +kernel
theorem dX1_receive_177 : decode cX1_receive 177 = .ok (.iconst 5, 1) := by decide +kernel
theorem dX1_receive_178 : decode cX1_receive 178 = .ok (.if_icmp .ne 21, 3) := by decide +kernel
theorem dX1_receive_181 : decode cX1_receive 181 = .ok (.aload_n 1, 1) := by decide +kernel
theorem dX1_receive_182 : decode cX1_receive 182 = .ok (.aload_n 0, 1) := by decide +kernel
theorem dX1_receive_183 : decode cX1_receive 183 = .ok (.invokevirtual 71, 3) := by decide +kernel
theorem dX1_receive_186 : decode cX1_receive 186 = .ok (.aload_n 0, 1) := by decide +kernel
theorem dX1_receive_187 : decode cX1_receive 187 = .ok (.getfield 28, 3) := by decide +kernel
theorem dX1_receive_190 : decode cX1_receive 190 = .ok (.iconst 1, 1) := by decide +kernel
theorem dX1_receive_191 : decode cX1_receive 191 = .ok (.iload_n 3, 1) := by decide +kernel
theorem dX1_receive_192 : decode cX1_receive 192 = .ok (.ishl, 1) := by decide +kernel
theorem dX1_receive_193 : decode cX1_receive 193 = .ok (.invokevirtual 34, 3) := by decide +kernel
theorem dX1_receive_196 : decode cX1_receive 196 = .ok (.goto 3, 3) := by decide +kernel
theorem dX1_receive_199 : decode cX1_receive 199 = .ok (.return_, 1) := by decide +kernel
theorem dX1_timeOut_0 : decode cX1_timeOut 0 = .ok (.aload_n 0, 1) := by decide +kernel
theorem dX1_timeOut_1 : decode cX1_timeOut 1 = .ok (.getfield 45, 3) := by decide +kernel
theorem dX1_timeOut_4 : decode cX1_timeOut 4 = .ok (.tableswitch 82 1 4 #[32, 40, 48, 48], 32) := by decide +kernel
theorem dX1_timeOut_36 : decode cX1_timeOut 36 = .ok (.aload_n 0, 1) := by decide +kernel
theorem dX1_timeOut_37 : decode cX1_timeOut 37 = .ok (.aload_n 1, 1) := by decide +kernel
theorem dX1_timeOut_38 : decode cX1_timeOut 38 = .ok (.invokevirtual 41, 3) := by decide +kernel
theorem dX1_timeOut_41 : decode cX1_timeOut 41 = .ok (.goto 45, 3) := by decide +kernel
theorem dX1_timeOut_44 : decode cX1_timeOut 44 = .ok (.aload_n 0, 1) := by decide +kernel
theorem dX1_timeOut_45 : decode cX1_timeOut 45 = .ok (.aload_n 1, 1) := by decide +kernel
theorem dX1_timeOut_46 : decode cX1_timeOut 46 = .ok (.invokevirtual 61, 3) := by decide +kernel
theorem dX1_timeOut_49 : decode cX1_timeOut 49 = .ok (.goto 37, 3) := by decide +kernel
theorem dX1_timeOut_52 : decode cX1_timeOut 52 = .ok (.aload_n 0, 1) := by decide +kernel
theorem dX1_timeOut_53 : decode cX1_timeOut 53 = .ok (.aload_n 1, 1) := by decide +kernel
theorem dX1_timeOut_54 : decode cX1_timeOut 54 = .ok (.invokevirtual 18, 3) := by decide +kernel
theorem dX1_timeOut_57 : decode cX1_timeOut 57 = .ok (.putfield 74, 3) := by decide +kernel
theorem dX1_timeOut_60 : decode cX1_timeOut 60 = .ok (.aload_n 1, 1) := by decide +kernel
theorem dX1_timeOut_61 : decode cX1_timeOut 61 = .ok (.aload_n 0, 1) := by decide +kernel
theorem dX1_timeOut_62 : decode cX1_timeOut 62 = .ok (.invokevirtual 71, 3) := by decide +kernel
theorem dX1_timeOut_65 : decode cX1_timeOut 65 = .ok (.aload_n 0, 1) := by decide +kernel
theorem dX1_timeOut_66 : decode cX1_timeOut 66 = .ok (.getfield 28, 3) := by decide +kernel
theorem dX1_timeOut_69 : decode cX1_timeOut 69 = .ok (.aload_n 1, 1) := by decide +kernel
theorem dX1_timeOut_70 : decode cX1_timeOut 70 = .ok (.getfield 31, 3) := by decide +kernel
theorem dX1_timeOut_73 : decode cX1_timeOut 73 = .ok (.aload_n 0, 1) := by decide +kernel
theorem dX1_timeOut_74 : decode cX1_timeOut 74 = .ok (.getfield 9, 3) := by decide +kernel
theorem dX1_timeOut_77 : decode cX1_timeOut 77 = .ok (.iconst (-1), 1) := by decide +kernel
theorem dX1_timeOut_78 : decode cX1_timeOut 78 = .ok (.ixor, 1) := by decide +kernel
theorem dX1_timeOut_79 : decode cX1_timeOut 79 = .ok (.iand, 1) := by decide +kernel
theorem dX1_timeOut_80 : decode cX1_timeOut 80 = .ok (.invokevirtual 34, 3) := by decide +kernel
theorem dX1_timeOut_83 : decode cX1_timeOut 83 = .ok (.goto 3, 3) := by decide +kernel
theorem dX1_timeOut_86 : decode cX1_timeOut 86 = .ok (.return_, 1) := by decide +kernel
theorem dX1_preCommit_0 : decode cX1_preCommit 0 = .ok (.aload_n 0, 1) := by decide +kernel
theorem dX1_preCommit_1 : decode cX1_preCommit 1 = .ok (.iconst 3, 1) := by decide +kernel
theorem dX1_preCommit_2 : decode cX1_preCommit 2 = .ok (.invokevirtual 15, 3) := by decide +kernel
theorem dX1_preCommit_5 : decode cX1_preCommit 5 = .ok (.aload_n 0, 1) := by decide +kernel
theorem dX1_preCommit_6 : decode cX1_preCommit 6 = .ok (.iconst 2, 1) := by decide +kernel
theorem dX1_preCommit_7 : decode cX1_preCommit 7 = .ok (.aload_n 1, 1) := by decide +kernel
theorem dX1_preCommit_8 : decode cX1_preCommit 8 = .ok (.invokevirtual 18, 3) := by decide +kernel
theorem dX1_preCommit_11 : decode cX1_preCommit 11 = .ok (.invokevirtual 24, 3) := by decide +kernel
theorem dX1_preCommit_14 : decode cX1_preCommit 14 = .ok (.aload_n 1, 1) := by decide +kernel
theorem dX1_preCommit_15 : decode cX1_preCommit 15 = .ok (.iconst 4, 1) := by decide +kernel
theorem dX1_preCommit_16 : decode cX1_preCommit 16 = .ok (.aload_n 0, 1) := by decide +kernel
theorem dX1_preCommit_17 : decode cX1_preCommit 17 = .ok (.getfield 28, 3) := by decide +kernel
theorem dX1_preCommit_20 : decode cX1_preCommit 20 = .ok (.aload_n 1, 1) := by decide +kernel
theorem dX1_preCommit_21 : decode cX1_preCommit 21 = .ok (.getfield 31, 3) := by decide +kernel
theorem dX1_preCommit_24 : decode cX1_preCommit 24 = .ok (.invokevirtual 34, 3) := by decide +kernel
theorem dX1_preCommit_27 : decode cX1_preCommit 27 = .ok (.return_, 1) := by decide +kernel
theorem dX1_decideCommit_0 : decode cX1_decideCommit 0 = .ok (.aload_n 0, 1) := by decide +kernel
theorem dX1_decideCommit_1 : decode cX1_decideCommit 1 = .ok (.iconst 4, 1) := by decide +kernel
theorem dX1_decideCommit_2 : decode cX1_decideCommit 2 = .ok (.invokevirtual 15, 3) := by decide +kernel
theorem dX1_decideCommit_5 : decode cX1_decideCommit 5 = .ok (.aload_n 0, 1) := by decide +kernel
theorem dX1_decideCommit_6 : decode cX1_decideCommit 6 = .ok (.iconst 3, 1) := by decide +kernel
theorem dX1_decideCommit_7 : decode cX1_decideCommit 7 = .ok (.aload_n 1, 1) := by decide +kernel
theorem dX1_decideCommit_8 : decode cX1_decideCommit 8 = .ok (.invokevirtual 18, 3) := by decide +kernel
theorem dX1_decideCommit_11 : decode cX1_decideCommit 11 = .ok (.invokevirtual 24, 3) := by decide +kernel
theorem dX1_decideCommit_14 : decode cX1_decideCommit 14 = .ok (.aload_n 1, 1) := by decide +kernel
theorem dX1_decideCommit_15 : decode cX1_decideCommit 15 = .ok (.bipush 6, 2) := by decide +kernel
theorem dX1_decideCommit_17 : decode cX1_decideCommit 17 = .ok (.aload_n 0, 1) := by decide +kernel
theorem dX1_decideCommit_18 : decode cX1_decideCommit 18 = .ok (.getfield 28, 3) := by decide +kernel
theorem dX1_decideCommit_21 : decode cX1_decideCommit 21 = .ok (.aload_n 1, 1) := by decide +kernel
theorem dX1_decideCommit_22 : decode cX1_decideCommit 22 = .ok (.getfield 31, 3) := by decide +kernel
theorem dX1_decideCommit_25 : decode cX1_decideCommit 25 = .ok (.invokevirtual 34, 3) := by decide +kernel
theorem dX1_decideCommit_28 : decode cX1_decideCommit 28 = .ok (.return_, 1) := by decide +kernel
theorem dX1_decideAbort_0 : decode cX1_decideAbort 0 = .ok (.aload_n 1, 1) := by decide +kernel
theorem dX1_decideAbort_1 : decode cX1_decideAbort 1 = .ok (.getfield 77, 3) := by decide +kernel
theorem dX1_decideAbort_4 : decode cX1_decideAbort 4 = .ok (.ifCond .eq 14, 3) := by decide +kernel
theorem dX1_decideAbort_7 : decode cX1_decideAbort 7 = .ok (.aload_n 0, 1) := by decide +kernel
theorem dX1_decideAbort_8 : decode cX1_decideAbort 8 = .ok (.iconst 5, 1) := by decide +kernel
theorem dX1_decideAbort_9 : decode cX1_decideAbort 9 = .ok (.sipush 160, 3) := by decide +kernel
theorem dX1_decideAbort_12 : decode cX1_decideAbort 12 = .ok (.invokevirtual 24, 3) := by decide +kernel
theorem dX1_decideAbort_15 : decode cX1_decideAbort 15 = .ok (.goto 17, 3) := by decide +kernel
theorem dX1_decideAbort_18 : decode cX1_decideAbort 18 = .ok (.aload_n 0, 1) := by decide +kernel
theorem dX1_decideAbort_19 : decode cX1_decideAbort 19 = .ok (.iconst 5, 1) := by decide +kernel
theorem dX1_decideAbort_20 : decode cX1_decideAbort 20 = .ok (.invokevirtual 15, 3) := by decide +kernel
theorem dX1_decideAbort_23 : decode cX1_decideAbort 23 = .ok (.aload_n 0, 1) := by decide +kernel
theorem dX1_decideAbort_24 : decode cX1_decideAbort 24 = .ok (.iconst 4, 1) := by decide +kernel
theorem dX1_decideAbort_25 : decode cX1_decideAbort 25 = .ok (.aload_n 1, 1) := by decide +kernel
theorem dX1_decideAbort_26 : decode cX1_decideAbort 26 = .ok (.invokevirtual 18, 3) := by decide +kernel
theorem dX1_decideAbort_29 : decode cX1_decideAbort 29 = .ok (.invokevirtual 24, 3) := by decide +kernel
theorem dX1_decideAbort_32 : decode cX1_decideAbort 32 = .ok (.aload_n 1, 1) := by decide +kernel
theorem dX1_decideAbort_33 : decode cX1_decideAbort 33 = .ok (.bipush 7, 2) := by decide +kernel
theorem dX1_decideAbort_35 : decode cX1_decideAbort 35 = .ok (.aload_n 0, 1) := by decide +kernel
theorem dX1_decideAbort_36 : decode cX1_decideAbort 36 = .ok (.getfield 28, 3) := by decide +kernel
theorem dX1_decideAbort_39 : decode cX1_decideAbort 39 = .ok (.aload_n 1, 1) := by decide +kernel
theorem dX1_decideAbort_40 : decode cX1_decideAbort 40 = .ok (.getfield 31, 3) := by decide +kernel
theorem dX1_decideAbort_43 : decode cX1_decideAbort 43 = .ok (.invokevirtual 34, 3) := by decide +kernel
theorem dX1_decideAbort_46 : decode cX1_decideAbort 46 = .ok (.return_, 1) := by decide +kernel
theorem dX1_turnTo_0 : decode cX1_turnTo 0 = .ok (.aload_n 0, 1) := by decide +kernel
theorem dX1_turnTo_1 : decode cX1_turnTo 1 = .ok (.iload_n 1, 1) := by decide +kernel
theorem dX1_turnTo_2 : decode cX1_turnTo 2 = .ok (.putfield 45, 3) := by decide +kernel
theorem dX1_turnTo_5 : decode cX1_turnTo 5 = .ok (.aload_n 0, 1) := by decide +kernel
theorem dX1_turnTo_6 : decode cX1_turnTo 6 = .ok (.iload_n 2, 1) := by decide +kernel
theorem dX1_turnTo_7 : decode cX1_turnTo 7 = .ok (.putfield 74, 3) := by decide +kernel
theorem dX1_turnTo_10 : decode cX1_turnTo 10 = .ok (.aload_n 0, 1) := by decide +kernel
theorem dX1_turnTo_11 : decode cX1_turnTo 11 = .ok (.iconst 0, 1) := by decide +kernel
theorem dX1_turnTo_12 : decode cX1_turnTo 12 = .ok (.putfield 9, 3) := by decide +kernel
theorem dX1_turnTo_15 : decode cX1_turnTo 15 = .ok (.return_, 1) := by decide +kernel
theorem dX1_allCounted_0 : decode cX1_allCounted 0 = .ok (.aload_n 0, 1) := by decide +kernel
theorem dX1_allCounted_1 : decode cX1_allCounted 1 = .ok (.dup, 1) := by decide +kernel
theorem dX1_allCounted_2 : decode cX1_allCounted 2 = .ok (.getfield 9, 3) := by decide +kernel
theorem dX1_allCounted_5 : decode cX1_allCounted 5 = .ok (.iconst 1, 1) := by decide +kernel
theorem dX1_allCounted_6 : decode cX1_allCounted 6 = .ok (.iload_n 2, 1) := by decide +kernel
theorem dX1_allCounted_7 : decode cX1_allCounted 7 = .ok (.ishl, 1) := by decide +kernel
theorem dX1_allCounted_8 : decode cX1_allCounted 8 = .ok (.ior, 1) := by decide +kernel
theorem dX1_allCounted_9 : decode cX1_allCounted 9 = .ok (.putfield 9, 3) := by decide +kernel
theorem dX1_allCounted_12 : decode cX1_allCounted 12 = .ok (.aload_n 0, 1) := by decide +kernel
theorem dX1_allCounted_13 : decode cX1_allCounted 13 = .ok (.getfield 9, 3) := by decide +kernel
theorem dX1_allCounted_16 : decode cX1_allCounted 16 = .ok (.aload_n 1, 1) := by decide +kernel
theorem dX1_allCounted_17 : decode cX1_allCounted 17 = .ok (.getfield 31, 3) := by decide +kernel
theorem dX1_allCounted_20 : decode cX1_allCounted 20 = .ok (.if_icmp .ne 7, 3) := by decide +kernel
theorem dX1_allCounted_23 : decode cX1_allCounted 23 = .ok (.iconst 1, 1) := by decide +kernel
theorem dX1_allCounted_24 : decode cX1_allCounted 24 = .ok (.goto 4, 3) := by decide +kernel
theorem dX1_allCounted_27 : decode cX1_allCounted 27 = .ok (.iconst 0, 1) := by decide +kernel
theorem dX1_allCounted_28 : decode cX1_allCounted 28 = .ok (.ireturn, 1) := by decide +kernel
theorem dX1_tellsDecision_0 : decode cX1_tellsDecision 0 = .ok (.aload_n 0, 1) := by decide +kernel
theorem dX1_tellsDecision_1 : decode cX1_tellsDecision 1 = .ok (.getfield 45, 3) := by decide +kernel
theorem dX1_tellsDecision_4 : decode cX1_tellsDecision 4 = .ok (.iconst 3, 1) := by decide +kernel
theorem dX1_tellsDecision_5 : decode cX1_tellsDecision 5 = .ok (.if_icmp .eq 11, 3) := by decide +kernel
theorem dX1_tellsDecision_8 : decode cX1_tellsDecision 8 = .ok (.aload_n 0, 1) := by decide +kernel
theorem dX1_tellsDecision_9 : decode cX1_tellsDecision 9 = .ok (.getfield 45, 3) := by decide +kernel
theorem dX1_tellsDecision_12 : decode cX1_tellsDecision 12 = .ok (.iconst 4, 1) := by decide +kernel
theorem dX1_tellsDecision_13 : decode cX1_tellsDecision 13 = .ok (.if_icmp .ne 7, 3) := by decide +kernel
theorem dX1_tellsDecision_16 : decode cX1_tellsDecision 16 = .ok (.iconst 1, 1) := by decide +kernel
theorem dX1_tellsDecision_17 : decode cX1_tellsDecision 17 = .ok (.goto 4, 3) := by decide +kernel
theorem dX1_tellsDecision_20 : decode cX1_tellsDecision 20 = .ok (.iconst 0, 1) := by decide +kernel
theorem dX1_tellsDecision_21 : decode cX1_tellsDecision 21 = .ok (.ireturn, 1) := by decide +kernel
theorem dX1_decision_0 : decode cX1_decision 0 = .ok (.aload_n 0, 1) := by decide +kernel
theorem dX1_decision_1 : decode cX1_decision 1 = .ok (.iconst 4, 1) := by decide +kernel
theorem dX1_decision_2 : decode cX1_decision 2 = .ok (.aload_n 0, 1) := by decide +kernel
theorem dX1_decision_3 : decode cX1_decision 3 = .ok (.getfield 81, 3) := by decide +kernel
theorem dX1_decision_6 : decode cX1_decision 6 = .ok (.invokevirtual 84, 3) := by decide +kernel
theorem dX1_decision_9 : decode cX1_decision 9 = .ok (.ifCond .eq 8, 3) := by decide +kernel
theorem dX1_decision_12 : decode cX1_decision 12 = .ok (.bipush 6, 2) := by decide +kernel
theorem dX1_decision_14 : decode cX1_decision 14 = .ok (.goto 5, 3) := by decide +kernel
theorem dX1_decision_17 : decode cX1_decision 17 = .ok (.bipush 7, 2) := by decide +kernel
theorem dX1_decision_19 : decode cX1_decision 19 = .ok (.ireturn, 1) := by decide +kernel
theorem dX3_init_0 : decode cX3_init 0 = .ok (.aload_n 0, 1) := by decide +kernel
theorem dX3_init_1 : decode cX3_init 1 = .ok (.iload_n 1, 1) := by decide +kernel
theorem dX3_init_2 : decode cX3_init 2 = .ok (.invokespecial 3, 3) := by decide +kernel
theorem dX3_init_5 : decode cX3_init 5 = .ok (.return_, 1) := by decide +kernel
theorem dX3_stateBehind_0 : decode cX3_stateBehind 0 = .ok (.iload_n 0, 1) := by decide +kernel
theorem dX3_stateBehind_1 : decode cX3_stateBehind 1 = .ok (.tableswitch 33 2 4 #[27, 29, 31], 27) := by decide +kernel
theorem dX3_stateBehind_28 : decode cX3_stateBehind 28 = .ok (.iconst 1, 1) := by decide +kernel
theorem dX3_stateBehind_29 : decode cX3_stateBehind 29 = .ok (.ireturn, 1) := by decide +kernel
theorem dX3_stateBehind_30 : decode cX3_stateBehind 30 = .ok (.iconst 2, 1) := by decide +kernel
theorem dX3_stateBehind_31 : decode cX3_stateBehind 31 = .ok (.ireturn, 1) := by decide +kernel
theorem dX3_stateBehind_32 : decode cX3_stateBehind 32 = .ok (.iconst 3, 1) := by decide +kernel
theorem dX3_stateBehind_33 : decode cX3_stateBehind 33 = .ok (.ireturn, 1) := by decide +kernel
theorem dX3_stateBehind_34 : decode cX3_stateBehind 34 = .ok (.iconst 4, 1) := by decide +kernel
theorem dX3_stateBehind_35 : decode cX3_stateBehind 35 = .ok (.ireturn, 1) := by decide +kernel
theorem dX3_recover_0 : decode cX3_recover 0 = .ok (.aload_n 0, 1) := by decide +kernel
theorem dX3_recover_1 : decode cX3_recover 1 = .ok (.invokevirtual 9, 3) := by decide +kernel
theorem dX3_recover_4 : decode cX3_recover 4 = .ok (.istore_n 2, 1) := by decide +kernel
theorem dX3_recover_5 : decode cX3_recover 5 = .ok (.iload_n 2, 1) := by decide +kernel
theorem dX3_recover_6 : decode cX3_recover 6 = .ok (.ifCond .ne 8, 3) := by decide +kernel
theorem dX3_recover_9 : decode cX3_recover 9 = .ok (.aload_n 0, 1) := by decide +kernel
theorem dX3_recover_10 : decode cX3_recover 10 = .ok (.iconst 5, 1) := by decide +kernel
theorem dX3_recover_11 : decode cX3_recover 11 = .ok (.invokevirtual 15, 3) := by decide +kernel
theorem dX3_recover_14 : decode cX3_recover 14 = .ok (.aload_n 0, 1) := by decide +kernel
theorem dX3_recover_15 : decode cX3_recover 15 = .ok (.iload_n 2, 1) := by decide +kernel
theorem dX3_recover_16 : decode cX3_recover 16 = .ok (.invokestatic 18, 3) := by decide +kernel
theorem dX3_recover_19 : decode cX3_recover 19 = .ok (.sipush 160, 3) := by decide +kernel
theorem dX3_recover_22 : decode cX3_recover 22 = .ok (.invokevirtual 22, 3) := by decide +kernel
theorem dX3_recover_25 : decode cX3_recover 25 = .ok (.aload_n 0, 1) := by decide +kernel
theorem dX3_recover_26 : decode cX3_recover 26 = .ok (.getfield 26, 3) := by decide +kernel
theorem dX3_recover_29 : decode cX3_recover 29 = .ok (.iconst 1, 1) := by decide +kernel
theorem dX3_recover_30 : decode cX3_recover 30 = .ok (.if_icmp .ne 14, 3) := by decide +kernel
theorem dX3_recover_33 : decode cX3_recover 33 = .ok (.aload_n 0, 1) := by decide +kernel
theorem dX3_recover_34 : decode cX3_recover 34 = .ok (.aload_n 1, 1) := by decide +kernel
theorem dX3_recover_35 : decode cX3_recover 35 = .ok (.getfield 30, 3) := by decide +kernel
theorem dX3_recover_38 : decode cX3_recover 38 = .ok (.putfield 35, 3) := by decide +kernel
theorem dX3_recover_41 : decode cX3_recover 41 = .ok (.goto 19, 3) := by decide +kernel
theorem dX3_recover_44 : decode cX3_recover 44 = .ok (.aload_n 0, 1) := by decide +kernel
theorem dX3_recover_45 : decode cX3_recover 45 = .ok (.getfield 26, 3) := by decide +kernel
theorem dX3_recover_48 : decode cX3_recover 48 = .ok (.iconst 2, 1) := by decide +kernel
theorem dX3_recover_49 : decode cX3_recover 49 = .ok (.if_icmp .ne 11, 3) := by decide +kernel
theorem dX3_recover_52 : decode cX3_recover 52 = .ok (.aload_n 0, 1) := by decide +kernel
theorem dX3_recover_53 : decode cX3_recover 53 = .ok (.aload_n 1, 1) := by decide +kernel
theorem dX3_recover_54 : decode cX3_recover 54 = .ok (.invokevirtual 38, 3) := by decide +kernel
theorem dX3_recover_57 : decode cX3_recover 57 = .ok (.putfield 35, 3) := by decide +kernel
theorem dX3_recover_60 : decode cX3_recover 60 = .ok (.return_, 1) := by decide +kernel
theorem dX3_receive_0 : decode cX3_receive 0 = .ok (.iload_n 2, 1) := by decide +kernel
theorem dX3_receive_1 : decode cX3_receive 1 = .ok (.tableswitch 202 1 9 #[51, 202, 202, 106, 202, 114, 114, 202, 153], 51) := by decide +kernel
theorem dX3_receive_52 : decode cX3_receive 52 = .ok (.aload_n 0, 1) := by decide +kernel
theorem dX3_receive_53 : decode cX3_receive 53 = .ok (.getfield 26, 3) := by decide +kernel
theorem dX3_receive_56 : decode cX3_receive 56 = .ok (.ifCond .ne 25, 3) := by decide +kernel
theorem dX3_receive_59 : decode cX3_receive 59 = .ok (.aload_n 1, 1) := by decide +kernel
theorem dX3_receive_60 : decode cX3_receive 60 = .ok (.getfield 41, 3) := by decide +kernel
theorem dX3_receive_63 : decode cX3_receive 63 = .ok (.aload_n 0, 1) := by decide +kernel
theorem dX3_receive_64 : decode cX3_receive 64 = .ok (.getfield 45, 3) := by decide +kernel
theorem dX3_receive_67 : decode cX3_receive 67 = .ok (.invokevirtual 48, 3) := by decide +kernel
theorem dX3_receive_70 : decode cX3_receive 70 = .ok (.ifCond .eq 11, 3) := by decide +kernel
theorem dX3_receive_73 : decode cX3_receive 73 = .ok (.aload_n 0, 1) := by decide +kernel
theorem dX3_receive_74 : decode cX3_receive 74 = .ok (.aload_n 1, 1) := by decide +kernel
theorem dX3_receive_75 : decode cX3_receive 75 = .ok (.invokevirtual 54, 3) := by decide +kernel
theorem dX3_receive_78 : decode cX3_receive 78 = .ok (.goto 125, 3) := by decide +kernel
theorem dX3_receive_81 : decode cX3_receive 81 = .ok (.aload_n 0, 1) := by decide +kernel
theorem dX3_receive_82 : decode cX3_receive 82 = .ok (.getfield 26, 3) := by decide +kernel
theorem dX3_receive_85 : decode cX3_receive 85 = .ok (.ifCond .ne 118, 3) := by decide +kernel
theorem dX3_receive_88 : decode cX3_receive 88 = .ok (.aload_n 0, 1) := by decide +kernel
theorem dX3_receive_89 : decode cX3_receive 89 = .ok (.bipush 7, 2) := by decide +kernel
theorem dX3_receive_91 : decode cX3_receive 91 = .ok (.invokevirtual 58, 3) := by decide +kernel
theorem dX3_receive_94 : decode cX3_receive 94 = .ok (.aload_n 1, 1) := by decide +kernel
theorem dX3_receive_95 : decode cX3_receive 95 = .ok (.iconst 3, 1) := by decide +kernel
theorem dX3_receive_96 : decode cX3_receive 96 = .ok (.aload_n 0, 1) := by decide +kernel
theorem dX3_receive_97 : decode cX3_receive 97 = .ok (.getfield 45, 3) := by decide +kernel
theorem dX3_receive_100 : decode cX3_receive 100 = .ok (.iconst 1, 1) := by decide +kernel
theorem dX3_receive_101 : decode cX3_receive 101 = .ok (.invokevirtual 61, 3) := by decide +kernel
theorem dX3_receive_104 : decode cX3_receive 104 = .ok (.goto 99, 3) := by decide +kernel
theorem dX3_receive_107 : decode cX3_receive 107 = .ok (.aload_n 0, 1) := by decide +kernel
theorem dX3_receive_108 : decode cX3_receive 108 = .ok (.aload_n 1, 1) := by decide +kernel
theorem dX3_receive_109 : decode cX3_receive 109 = .ok (.invokevirtual 65, 3) := by decide +kernel
theorem dX3_receive_112 : decode cX3_receive 112 = .ok (.goto 91, 3) := by decide +kernel
theorem dX3_receive_115 : decode cX3_receive 115 = .ok (.aload_n 0, 1) := by decide +kernel
theorem dX3_receive_116 : decode cX3_receive 116 = .ok (.invokevirtual 68, 3) := by decide +kernel
theorem dX3_receive_119 : decode cX3_receive 119 = .ok (.ifCond .ne 8, 3) := by decide +kernel
theorem dX3_receive_122 : decode cX3_receive 122 = .ok (.aload_n 0, 1) := by decide +kernel
theorem dX3_receive_123 : decode cX3_receive 123 = .ok (.iload_n 2, 1) := by decide +kernel
theorem dX3_receive_124 : decode cX3_receive 124 = .ok (.invokevirtual 58, 3) := by decide +kernel
theorem dX3_receive_127 : decode cX3_receive 127 = .ok (.iload_n 2, 1) := by decide +kernel
theorem dX3_receive_128 : decode cX3_receive 128 = .ok (.bipush 6, 2) := by decide +kernel
theorem dX3_receive_130 : decode cX3_receive 130 = .ok (.if_icmp .eq 10, 3) := by decide +kernel
theorem dX3_receive_133 : decode cX3_receive 133 = .ok (.aload_n 1, 1) := by decide +kernel
theorem dX3_receive_134 : decode cX3_receive 134 = .ok (.getfield 72, 3) := by decide +kernel
theorem dX3_receive_137 : decode cX3_receive 137 = .ok (.ifCond .ne 66, 3) := by decide +kernel
theorem dX3_receive_140 : decode cX3_receive 140 = .ok (.aload_n 1, 1) := by decide +kernel
theorem dX3_receive_141 : decode cX3_receive 141 = .ok (.bipush 8, 2) := by decide +kernel
theorem dX3_receive_143 : decode cX3_receive 143 = .ok (.aload_n 0, 1) := by decide +kernel
theorem dX3_receive_144 : decode cX3_receive 144 = .ok (.getfield 45, 3) := by decide +kernel
theorem dX3_receive_147 : decode cX3_receive 147 = .ok (.iconst 1, 1) := by decide +kernel
theorem dX3_receive_148 : decode cX3_receive 148 = .ok (.invokevirtual 61, 3) := by decide +kernel
theorem dX3_receive_151 : decode cX3_receive 151 = .ok (.goto 52, 3) := by decide +kernel
theorem dX3_receive_154 : decode cX3_receive 154 = .ok (.aload_n 0, 1) := by decide +kernel
theorem dX3_receive_155 : decode cX3_receive 155 = .ok (.getfield 26, 3) := by decide +kernel
theorem dX3_receive_158 : decode cX3_receive 158 = .ok (.ifCond .ne 9, 3) := by decide +kernel
theorem dX3_receive_161 : decode cX3_receive 161 = .ok (.aload_n 0, 1) := by decide +kernel
theorem dX3_receive_162 : decode cX3_receive 162 = .ok (.bipush 7, 2) := by decide +kernel
theorem dX3_receive_164 : decode cX3_receive 164 = .ok (.invokevirtual 58, 3) := by decide +kernel
theorem dX3_receive_167 : decode cX3_receive 167 = .ok (.aload_n 0, 1) := by decide +kernel
theorem dX3_receive_168 : decode cX3_receive 168 = .ok (.invokevirtual 68, 3) := by decide +kernel
theorem dX3_receive_171 : decode cX3_receive 171 = .ok (.ifCond .eq 32, 3) := by decide +kernel
theorem dX3_receive_174 : decode cX3_receive 174 = .ok (.aload_n 1, 1) := by decide +kernel
theorem dX3_receive_175 : decode cX3_receive 175 = .ok (.aload_n 0, 1) := by decide +kernel
theorem dX3_receive_176 : decode cX3_receive 176 = .ok (.getfield 26, 3) := by decide +kernel
theorem dX3_receive_179 : decode cX3_receive 179 = .ok (.iconst 3, 1) := by decide +kernel
theorem dX3_receive_180 : decode cX3_receive 180 = .ok (.if_icmp .ne 8, 3) := by decide +kernel
theorem dX3_receive_183 : decode cX3_receive 183 = .ok (.bipush 6, 2) := by decide +kernel
theorem dX3_receive_185 : decode cX3_receive 185 = .ok (.goto 5, 3) := by decide +kernel
theorem dX3_receive_188 : decode cX3_receive 188 = .ok (.bipush 7, 2) := by decide +kernel
theorem dX3_receive_190 : decode cX3_receive 190 = .ok (.aload_n 0, 1) := by decide +kernel
theorem dX3_receive_191 : decode cX3_receive 191 = .ok (.getfield 45, 3) := by decide +kernel
theorem dX3_receive_194 : decode cX3_receive 194 = .ok (.iconst 1, 1) := by decide +kernel
theorem dX3_receive_195 : decode cX3_receive 195 = .ok (.iload_n 3, 1) := by decide +kernel
theorem dX3_receive_196 : decode cX3_receive 196 = .ok (.ishl, 1) := by decide +kernel
theorem dX3_receive_197 : decode cX3_receive 197 = .ok (.invokevirtual 61, 3) := by decide +kernel
theorem dX3_receive_200 : decode cX3_receive 200 = .ok (.goto 3, 3) := by decide +kernel
theorem dX3_receive_203 : decode cX3_receive 203 = .ok (.return_, 1) := by decide +kernel
theorem dX3_timeOut_0 : decode cX3_timeOut 0 = .ok (.aload_n 0, 1) := by decide +kernel
theorem dX3_timeOut_1 : decode cX3_timeOut 1 = .ok (.getfield 26, 3) := by decide +kernel
theorem dX3_timeOut_4 : decode cX3_timeOut 4 = .ok (.iconst 2, 1) := by decide +kernel
theorem dX3_timeOut_5 : decode cX3_timeOut 5 = .ok (.if_icmp .ne 12, 3) := by decide +kernel
theorem dX3_timeOut_8 : decode cX3_timeOut 8 = .ok (.aload_n 0, 1) := by decide +kernel
theorem dX3_timeOut_9 : decode cX3_timeOut 9 = .ok (.bipush 6, 2) := by decide +kernel
theorem dX3_timeOut_11 : decode cX3_timeOut 11 = .ok (.invokevirtual 58, 3) := by decide +kernel
theorem dX3_timeOut_14 : decode cX3_timeOut 14 = .ok (.goto 72, 3) := by decide +kernel
theorem dX3_timeOut_17 : decode cX3_timeOut 17 = .ok (.aload_n 0, 1) := by decide +kernel
theorem dX3_timeOut_18 : decode cX3_timeOut 18 = .ok (.getfield 26, 3) := by decide +kernel
theorem dX3_timeOut_21 : decode cX3_timeOut 21 = .ok (.iconst 1, 1) := by decide +kernel
theorem dX3_timeOut_22 : decode cX3_timeOut 22 = .ok (.if_icmp .ne 50, 3) := by decide +kernel
theorem dX3_timeOut_25 : decode cX3_timeOut 25 = .ok (.aload_n 1, 1) := by decide +kernel
theorem dX3_timeOut_26 : decode cX3_timeOut 26 = .ok (.getfield 41, 3) := by decide +kernel
theorem dX3_timeOut_29 : decode cX3_timeOut 29 = .ok (.getfield 76, 3) := by decide +kernel
theorem dX3_timeOut_32 : decode cX3_timeOut 32 = .ok (.iconst 2, 1) := by decide +kernel
theorem dX3_timeOut_33 : decode cX3_timeOut 33 = .ok (.if_icmp .ne 39, 3) := by decide +kernel
theorem dX3_timeOut_36 : decode cX3_timeOut 36 = .ok (.aload_n 0, 1) := by decide +kernel
theorem dX3_timeOut_37 : decode cX3_timeOut 37 = .ok (.aload_n 1, 1) := by decide +kernel
theorem dX3_timeOut_38 : decode cX3_timeOut 38 = .ok (.invokevirtual 38, 3) := by decide +kernel
theorem dX3_timeOut_41 : decode cX3_timeOut 41 = .ok (.putfield 35, 3) := by decide +kernel
theorem dX3_timeOut_44 : decode cX3_timeOut 44 = .ok (.aload_n 1, 1) := by decide +kernel
theorem dX3_timeOut_45 : decode cX3_timeOut 45 = .ok (.bipush 9, 2) := by decide +kernel
theorem dX3_timeOut_47 : decode cX3_timeOut 47 = .ok (.aload_n 0, 1) := by decide +kernel
theorem dX3_timeOut_48 : decode cX3_timeOut 48 = .ok (.getfield 45, 3) := by decide +kernel
theorem dX3_timeOut_51 : decode cX3_timeOut 51 = .ok (.aload_n 1, 1) := by decide +kernel
theorem dX3_timeOut_52 : decode cX3_timeOut 52 = .ok (.getfield 79, 3) := by decide +kernel
theorem dX3_timeOut_55 : decode cX3_timeOut 55 = .ok (.iconst 1, 1) := by decide +kernel
theorem dX3_timeOut_56 : decode cX3_timeOut 56 = .ok (.ior, 1) := by decide +kernel
theorem dX3_timeOut_57 : decode cX3_timeOut 57 = .ok (.iconst 1, 1) := by decide +kernel
theorem dX3_timeOut_58 : decode cX3_timeOut 58 = .ok (.aload_n 0, 1) := by decide +kernel
theorem dX3_timeOut_59 : decode cX3_timeOut 59 = .ok (.getfield 45, 3) := by decide +kernel
theorem dX3_timeOut_62 : decode cX3_timeOut 62 = .ok (.ishl, 1) := by decide +kernel
theorem dX3_timeOut_63 : decode cX3_timeOut 63 = .ok (.iconst (-1), 1) := by decide +kernel
theorem dX3_timeOut_64 : decode cX3_timeOut 64 = .ok (.ixor, 1) := by decide +kernel
theorem dX3_timeOut_65 : decode cX3_timeOut 65 = .ok (.iand, 1) := by decide +kernel
theorem dX3_timeOut_66 : decode cX3_timeOut 66 = .ok (.invokevirtual 61, 3) := by decide +kernel
theorem dX3_timeOut_69 : decode cX3_timeOut 69 = .ok (.goto 17, 3) := by decide +kernel
theorem dX3_timeOut_72 : decode cX3_timeOut 72 = .ok (.aload_n 0, 1) := by decide +kernel
theorem dX3_timeOut_73 : decode cX3_timeOut 73 = .ok (.getfield 26, 3) := by decide +kernel
theorem dX3_timeOut_76 : decode cX3_timeOut 76 = .ok (.iconst 1, 1) := by decide +kernel
theorem dX3_timeOut_77 : decode cX3_timeOut 77 = .ok (.if_icmp .ne 9, 3) := by decide +kernel
theorem dX3_timeOut_80 : decode cX3_timeOut 80 = .ok (.aload_n 0, 1) := by decide +kernel
theorem dX3_timeOut_81 : decode cX3_timeOut 81 = .ok (.bipush 7, 2) := by decide +kernel
theorem dX3_timeOut_83 : decode cX3_timeOut 83 = .ok (.invokevirtual 58, 3) := by decide +kernel
theorem dX3_timeOut_86 : decode cX3_timeOut 86 = .ok (.return_, 1) := by decide +kernel
theorem dX3_sayYes_0 : decode cX3_sayYes 0 = .ok (.aload_n 0, 1) := by decide +kernel
theorem dX3_sayYes_1 : decode cX3_sayYes 1 = .ok (.iconst 2, 1) := by decide +kernel
theorem dX3_sayYes_2 : decode cX3_sayYes 2 = .ok (.invokevirtual 15, 3) := by decide +kernel
theorem dX3_sayYes_5 : decode cX3_sayYes 5 = .ok (.aload_n 0, 1) := by decide +kernel
theorem dX3_sayYes_6 : decode cX3_sayYes 6 = .ok (.iconst 1, 1) := by decide +kernel
theorem dX3_sayYes_7 : decode cX3_sayYes 7 = .ok (.aload_n 1, 1) := by decide +kernel
theorem dX3_sayYes_8 : decode cX3_sayYes 8 = .ok (.invokevirtual 38, 3) := by decide +kernel
theorem dX3_sayYes_11 : decode cX3_sayYes 11 = .ok (.invokevirtual 22, 3) := by decide +kernel
theorem dX3_sayYes_14 : decode cX3_sayYes 14 = .ok (.aload_n 1, 1) := by decide +kernel
theorem dX3_sayYes_15 : decode cX3_sayYes 15 = .ok (.iconst 2, 1) := by decide +kernel
theorem dX3_sayYes_16 : decode cX3_sayYes 16 = .ok (.aload_n 0, 1) := by decide +kernel
theorem dX3_sayYes_17 : decode cX3_sayYes 17 = .ok (.getfield 45, 3) := by decide +kernel
theorem dX3_sayYes_20 : decode cX3_sayYes 20 = .ok (.iconst 1, 1) := by decide +kernel
theorem dX3_sayYes_21 : decode cX3_sayYes 21 = .ok (.invokevirtual 61, 3) := by decide +kernel
theorem dX3_sayYes_24 : decode cX3_sayYes 24 = .ok (.return_, 1) := by decide +kernel
theorem dX3_hearPre_0 : decode cX3_hearPre 0 = .ok (.aload_n 0, 1) := by decide +kernel
theorem dX3_hearPre_1 : decode cX3_hearPre 1 = .ok (.getfield 26, 3) := by decide +kernel
theorem dX3_hearPre_4 : decode cX3_hearPre 4 = .ok (.iconst 1, 1) := by decide +kernel
theorem dX3_hearPre_5 : decode cX3_hearPre 5 = .ok (.if_icmp .ne 30, 3) := by decide +kernel
theorem dX3_hearPre_8 : decode cX3_hearPre 8 = .ok (.aload_n 0, 1) := by decide +kernel
theorem dX3_hearPre_9 : decode cX3_hearPre 9 = .ok (.iconst 3, 1) := by decide +kernel
theorem dX3_hearPre_10 : decode cX3_hearPre 10 = .ok (.invokevirtual 15, 3) := by decide +kernel
theorem dX3_hearPre_13 : decode cX3_hearPre 13 = .ok (.aload_n 0, 1) := by decide +kernel
theorem dX3_hearPre_14 : decode cX3_hearPre 14 = .ok (.iconst 2, 1) := by decide +kernel
theorem dX3_hearPre_15 : decode cX3_hearPre 15 = .ok (.aload_n 1, 1) := by decide +kernel
theorem dX3_hearPre_16 : decode cX3_hearPre 16 = .ok (.invokevirtual 38, 3) := by decide +kernel
theorem dX3_hearPre_19 : decode cX3_hearPre 19 = .ok (.invokevirtual 22, 3) := by decide +kernel
theorem dX3_hearPre_22 : decode cX3_hearPre 22 = .ok (.aload_n 1, 1) := by decide +kernel
theorem dX3_hearPre_23 : decode cX3_hearPre 23 = .ok (.iconst 5, 1) := by decide +kernel
theorem dX3_hearPre_24 : decode cX3_hearPre 24 = .ok (.aload_n 0, 1) := by decide +kernel
theorem dX3_hearPre_25 : decode cX3_hearPre 25 = .ok (.getfield 45, 3) := by decide +kernel
theorem dX3_hearPre_28 : decode cX3_hearPre 28 = .ok (.iconst 1, 1) := by decide +kernel
theorem dX3_hearPre_29 : decode cX3_hearPre 29 = .ok (.invokevirtual 61, 3) := by decide +kernel
theorem dX3_hearPre_32 : decode cX3_hearPre 32 = .ok (.goto 21, 3) := by decide +kernel
theorem dX3_hearPre_35 : decode cX3_hearPre 35 = .ok (.aload_n 0, 1) := by decide +kernel
theorem dX3_hearPre_36 : decode cX3_hearPre 36 = .ok (.getfield 26, 3) := by decide +kernel
theorem dX3_hearPre_39 : decode cX3_hearPre 39 = .ok (.iconst 2, 1) := by decide +kernel
theorem dX3_hearPre_40 : decode cX3_hearPre 40 = .ok (.if_icmp .ne 13, 3) := by decide +kernel
theorem dX3_hearPre_43 : decode cX3_hearPre 43 = .ok (.aload_n 1, 1) := by decide +kernel
theorem dX3_hearPre_44 : decode cX3_hearPre 44 = .ok (.iconst 5, 1) := by decide +kernel
theorem dX3_hearPre_45 : decode cX3_hearPre 45 = .ok (.aload_n 0, 1) := by decide +kernel
theorem dX3_hearPre_46 : decode cX3_hearPre 46 = .ok (.getfield 45, 3) := by decide +kernel
theorem dX3_hearPre_49 : decode cX3_hearPre 49 = .ok (.iconst 1, 1) := by decide +kernel
theorem dX3_hearPre_50 : decode cX3_hearPre 50 = .ok (.invokevirtual 61, 3) := by decide +kernel
theorem dX3_hearPre_53 : decode cX3_hearPre 53 = .ok (.return_, 1) := by decide +kernel
theorem dX3_isSettled_0 : decode cX3_isSettled 0 = .ok (.aload_n 0, 1) := by decide +kernel
theorem dX3_isSettled_1 : decode cX3_isSettled 1 = .ok (.getfield 26, 3) := by decide +kernel
theorem dX3_isSettled_4 : decode cX3_isSettled 4 = .ok (.iconst 3, 1) := by decide +kernel
theorem dX3_isSettled_5 : decode cX3_isSettled 5 = .ok (.if_icmp .eq 11, 3) := by decide +kernel
theorem dX3_isSettled_8 : decode cX3_isSettled 8 = .ok (.aload_n 0, 1) := by decide +kernel
theorem dX3_isSettled_9 : decode cX3_isSettled 9 = .ok (.getfield 26, 3) := by decide +kernel
theorem dX3_isSettled_12 : decode cX3_isSettled 12 = .ok (.iconst 4, 1) := by decide +kernel
theorem dX3_isSettled_13 : decode cX3_isSettled 13 = .ok (.if_icmp .ne 7, 3) := by decide +kernel
theorem dX3_isSettled_16 : decode cX3_isSettled 16 = .ok (.iconst 1, 1) := by decide +kernel
theorem dX3_isSettled_17 : decode cX3_isSettled 17 = .ok (.goto 4, 3) := by decide +kernel
theorem dX3_isSettled_20 : decode cX3_isSettled 20 = .ok (.iconst 0, 1) := by decide +kernel
theorem dX3_isSettled_21 : decode cX3_isSettled 21 = .ok (.ireturn, 1) := by decide +kernel
theorem dX3_settle_0 : decode cX3_settle 0 = .ok (.aload_n 0, 1) := by decide +kernel
theorem dX3_settle_1 : decode cX3_settle 1 = .ok (.iload_n 1, 1) := by decide +kernel
theorem dX3_settle_2 : decode cX3_settle 2 = .ok (.bipush 6, 2) := by decide +kernel
theorem dX3_settle_4 : decode cX3_settle 4 = .ok (.if_icmp .ne 7, 3) := by decide +kernel
theorem dX3_settle_7 : decode cX3_settle 7 = .ok (.iconst 4, 1) := by decide +kernel
theorem dX3_settle_8 : decode cX3_settle 8 = .ok (.goto 4, 3) := by decide +kernel
theorem dX3_settle_11 : decode cX3_settle 11 = .ok (.iconst 5, 1) := by decide +kernel
theorem dX3_settle_12 : decode cX3_settle 12 = .ok (.invokevirtual 15, 3) := by decide +kernel
theorem dX3_settle_15 : decode cX3_settle 15 = .ok (.aload_n 0, 1) := by decide +kernel
theorem dX3_settle_16 : decode cX3_settle 16 = .ok (.iload_n 1, 1) := by decide +kernel
theorem dX3_settle_17 : decode cX3_settle 17 = .ok (.bipush 6, 2) := by decide +kernel
theorem dX3_settle_19 : decode cX3_settle 19 = .ok (.if_icmp .ne 7, 3) := by decide +kernel
theorem dX3_settle_22 : decode cX3_settle 22 = .ok (.iconst 3, 1) := by decide +kernel
theorem dX3_settle_23 : decode cX3_settle 23 = .ok (.goto 4, 3) := by decide +kernel
theorem dX3_settle_26 : decode cX3_settle 26 = .ok (.iconst 4, 1) := by decide +kernel
theorem dX3_settle_27 : decode cX3_settle 27 = .ok (.sipush 160, 3) := by decide +kernel
theorem dX3_settle_30 : decode cX3_settle 30 = .ok (.invokevirtual 22, 3) := by decide +kernel
theorem dX3_settle_33 : decode cX3_settle 33 = .ok (.return_, 1) := by decide +kernel
theorem dX4_init_0 : decode cX4_init 0 = .ok (.aload_n 0, 1) := by decide +kernel
theorem dX4_init_1 : decode cX4_init 1 = .ok (.invokespecial 3, 3) := by decide +kernel
theorem dX4_init_4 : decode cX4_init 4 = .ok (.aload_n 0, 1) := by decide +kernel
theorem dX4_init_5 : decode cX4_init 5 = .ok (.new 9, 3) := by decide +kernel
theorem dX4_init_8 : decode cX4_init 8 = .ok (.dup, 1) := by decide +kernel
theorem dX4_init_9 : decode cX4_init 9 = .ok (.invokespecial 11, 3) := by decide +kernel
theorem dX4_init_12 : decode cX4_init 12 = .ok (.putfield 12, 3) := by decide +kernel
theorem dX4_init_15 : decode cX4_init 15 = .ok (.aload_n 0, 1) := by decide +kernel
theorem dX4_init_16 : decode cX4_init 16 = .ok (.bipush 6, 2) := by decide +kernel
theorem dX4_init_18 : decode cX4_init 18 = .ok (.anewarray 18, 3) := by decide +kernel
theorem dX4_init_21 : decode cX4_init 21 = .ok (.putfield 20, 3) := by decide +kernel
theorem dX4_init_24 : decode cX4_init 24 = .ok (.aload_n 0, 1) := by decide +kernel
theorem dX4_init_25 : decode cX4_init 25 = .ok (.iconst 0, 1) := by decide +kernel
theorem dX4_init_26 : decode cX4_init 26 = .ok (.putfield 24, 3) := by decide +kernel
theorem dX4_init_29 : decode cX4_init 29 = .ok (.aload_n 0, 1) := by decide +kernel
theorem dX4_init_30 : decode cX4_init 30 = .ok (.lconst 0, 1) := by decide +kernel
theorem dX4_init_31 : decode cX4_init 31 = .ok (.putfield 28, 3) := by decide +kernel
theorem dX4_init_34 : decode cX4_init 34 = .ok (.aload_n 0, 1) := by decide +kernel
theorem dX4_init_35 : decode cX4_init 35 = .ok (.iconst 0, 1) := by decide +kernel
theorem dX4_init_36 : decode cX4_init 36 = .ok (.putfield 32, 3) := by decide +kernel
theorem dX4_init_39 : decode cX4_init 39 = .ok (.aload_n 0, 1) := by decide +kernel
theorem dX4_init_40 : decode cX4_init 40 = .ok (.iconst 0, 1) := by decide +kernel
theorem dX4_init_41 : decode cX4_init 41 = .ok (.putfield 36, 3) := by decide +kernel
theorem dX4_init_44 : decode cX4_init 44 = .ok (.aload_n 0, 1) := by decide +kernel
theorem dX4_init_45 : decode cX4_init 45 = .ok (.iconst 0, 1) := by decide +kernel
theorem dX4_init_46 : decode cX4_init 46 = .ok (.putfield 39, 3) := by decide +kernel
theorem dX4_init_49 : decode cX4_init 49 = .ok (.aload_n 0, 1) := by decide +kernel
theorem dX4_init_50 : decode cX4_init 50 = .ok (.iconst 0, 1) := by decide +kernel
theorem dX4_init_51 : decode cX4_init 51 = .ok (.putfield 42, 3) := by decide +kernel
theorem dX4_init_54 : decode cX4_init 54 = .ok (.aload_n 0, 1) := by decide +kernel
theorem dX4_init_55 : decode cX4_init 55 = .ok (.sipush 200, 3) := by decide +kernel
theorem dX4_init_58 : decode cX4_init 58 = .ok (.newarray .int, 2) := by decide +kernel
theorem dX4_init_60 : decode cX4_init 60 = .ok (.putfield 45, 3) := by decide +kernel
theorem dX4_init_63 : decode cX4_init 63 = .ok (.aload_n 0, 1) := by decide +kernel
theorem dX4_init_64 : decode cX4_init 64 = .ok (.sipush 200, 3) := by decide +kernel
theorem dX4_init_67 : decode cX4_init 67 = .ok (.newarray .int, 2) := by decide +kernel
theorem dX4_init_69 : decode cX4_init 69 = .ok (.putfield 49, 3) := by decide +kernel
theorem dX4_init_72 : decode cX4_init 72 = .ok (.aload_n 0, 1) := by decide +kernel
theorem dX4_init_73 : decode cX4_init 73 = .ok (.sipush 200, 3) := by decide +kernel
theorem dX4_init_76 : decode cX4_init 76 = .ok (.newarray .int, 2) := by decide +kernel
theorem dX4_init_78 : decode cX4_init 78 = .ok (.putfield 52, 3) := by decide +kernel
theorem dX4_init_81 : decode cX4_init 81 = .ok (.aload_n 0, 1) := by decide +kernel
theorem dX4_init_82 : decode cX4_init 82 = .ok (.sipush 200, 3) := by decide +kernel
theorem dX4_init_85 : decode cX4_init 85 = .ok (.newarray .int, 2) := by decide +kernel
theorem dX4_init_87 : decode cX4_init 87 = .ok (.putfield 55, 3) := by decide +kernel
theorem dX4_init_90 : decode cX4_init 90 = .ok (.aload_n 0, 1) := by decide +kernel
theorem dX4_init_91 : decode cX4_init 91 = .ok (.sipush 200, 3) := by decide +kernel
theorem dX4_init_94 : decode cX4_init 94 = .ok (.newarray .int, 2) := by decide +kernel
theorem dX4_init_96 : decode cX4_init 96 = .ok (.putfield 58, 3) := by decide +kernel
theorem dX4_init_99 : decode cX4_init 99 = .ok (.aload_n 0, 1) := by decide +kernel
theorem dX4_init_100 : decode cX4_init 100 = .ok (.sipush 366, 3) := by decide +kernel
theorem dX4_init_103 : decode cX4_init 103 = .ok (.newarray .int, 2) := by decide +kernel
theorem dX4_init_105 : decode cX4_init 105 = .ok (.putfield 61, 3) := by decide +kernel
theorem dX4_init_108 : decode cX4_init 108 = .ok (.aload_n 0, 1) := by decide +kernel
theorem dX4_init_109 : decode cX4_init 109 = .ok (.sipush 366, 3) := by decide +kernel
theorem dX4_init_112 : decode cX4_init 112 = .ok (.newarray .int, 2) := by decide +kernel
theorem dX4_init_114 : decode cX4_init 114 = .ok (.putfield 64, 3) := by decide +kernel
theorem dX4_init_117 : decode cX4_init 117 = .ok (.aload_n 0, 1) := by decide +kernel
theorem dX4_init_118 : decode cX4_init 118 = .ok (.bipush 61, 2) := by decide +kernel
theorem dX4_init_120 : decode cX4_init 120 = .ok (.newarray .int, 2) := by decide +kernel
theorem dX4_init_122 : decode cX4_init 122 = .ok (.putfield 67, 3) := by decide +kernel
theorem dX4_init_125 : decode cX4_init 125 = .ok (.aload_n 0, 1) := by decide +kernel
theorem dX4_init_126 : decode cX4_init 126 = .ok (.aload_n 1, 1) := by decide +kernel
theorem dX4_init_127 : decode cX4_init 127 = .ok (.putfield 70, 3) := by decide +kernel
theorem dX4_init_130 : decode cX4_init 130 = .ok (.aload_n 0, 1) := by decide +kernel
theorem dX4_init_131 : decode cX4_init 131 = .ok (.getfield 20, 3) := by decide +kernel
theorem dX4_init_134 : decode cX4_init 134 = .ok (.iconst 0, 1) := by decide +kernel
theorem dX4_init_135 : decode cX4_init 135 = .ok (.aload_n 0, 1) := by decide +kernel
theorem dX4_init_136 : decode cX4_init 136 = .ok (.getfield 12, 3) := by decide +kernel
theorem dX4_init_139 : decode cX4_init 139 = .ok (.aastore, 1) := by decide +kernel
theorem dX4_init_140 : decode cX4_init 140 = .ok (.iconst 1, 1) := by decide +kernel
theorem dX4_init_141 : decode cX4_init 141 = .ok (.istore_n 2, 1) := by decide +kernel
theorem dX4_init_142 : decode cX4_init 142 = .ok (.iload_n 2, 1) := by decide +kernel
theorem dX4_init_143 : decode cX4_init 143 = .ok (.bipush 6, 2) := by decide +kernel
theorem dX4_init_145 : decode cX4_init 145 = .ok (.if_icmp .ge 23, 3) := by decide +kernel
theorem dX4_init_148 : decode cX4_init 148 = .ok (.aload_n 0, 1) := by decide +kernel
theorem dX4_init_149 : decode cX4_init 149 = .ok (.getfield 20, 3) := by decide +kernel
theorem dX4_init_152 : decode cX4_init 152 = .ok (.iload_n 2, 1) := by decide +kernel
theorem dX4_init_153 : decode cX4_init 153 = .ok (.new 74, 3) := by decide +kernel
theorem dX4_init_156 : decode cX4_init 156 = .ok (.dup, 1) := by decide +kernel
theorem dX4_init_157 : decode cX4_init 157 = .ok (.iload_n 2, 1) := by decide +kernel
theorem dX4_init_158 : decode cX4_init 158 = .ok (.invokespecial 76, 3) := by decide +kernel
theorem dX4_init_161 : decode cX4_init 161 = .ok (.aastore, 1) := by decide +kernel
theorem dX4_init_162 : decode cX4_init 162 = .ok (.iinc 2 1, 3) := by decide +kernel
theorem dX4_init_165 : decode cX4_init 165 = .ok (.goto (-23), 3) := by decide +kernel
theorem dX4_init_168 : decode cX4_init 168 = .ok (.return_, 1) := by decide +kernel
theorem dX4_play_0 : decode cX4_play 0 = .ok (.aload_n 0, 1) := by decide +kernel
theorem dX4_play_1 : decode cX4_play 1 = .ok (.lload_n 1, 1) := by decide +kernel
theorem dX4_play_2 : decode cX4_play 2 = .ok (.putfield 28, 3) := by decide +kernel
theorem dX4_play_5 : decode cX4_play 5 = .ok (.aload_n 0, 1) := by decide +kernel
theorem dX4_play_6 : decode cX4_play 6 = .ok (.iload_n 3, 1) := by decide +kernel
theorem dX4_play_7 : decode cX4_play 7 = .ok (.putfield 24, 3) := by decide +kernel
theorem dX4_play_10 : decode cX4_play 10 = .ok (.aload_n 0, 1) := by decide +kernel
theorem dX4_play_11 : decode cX4_play 11 = .ok (.aload_n 0, 1) := by decide +kernel
theorem dX4_play_12 : decode cX4_play 12 = .ok (.getfield 70, 3) := by decide +kernel
theorem dX4_play_15 : decode cX4_play 15 = .ok (.invokevirtual 79, 3) := by decide +kernel
theorem dX4_play_18 : decode cX4_play 18 = .ok (.putfield 32, 3) := by decide +kernel
theorem dX4_play_21 : decode cX4_play 21 = .ok (.aload_n 0, 1) := by decide +kernel
theorem dX4_play_22 : decode cX4_play 22 = .ok (.iconst 0, 1) := by decide +kernel
theorem dX4_play_23 : decode cX4_play 23 = .ok (.putfield 42, 3) := by decide +kernel
theorem dX4_play_26 : decode cX4_play 26 = .ok (.iconst 0, 1) := by decide +kernel
theorem dX4_play_27 : decode cX4_play 27 = .ok (.istore 4, 2) := by decide +kernel
theorem dX4_play_29 : decode cX4_play 29 = .ok (.iload 4, 2) := by decide +kernel
theorem dX4_play_31 : decode cX4_play 31 = .ok (.bipush 6, 2) := by decide +kernel
theorem dX4_play_33 : decode cX4_play 33 = .ok (.if_icmp .ge 19, 3) := by decide +kernel
theorem dX4_play_36 : decode cX4_play 36 = .ok (.aload_n 0, 1) := by decide +kernel
theorem dX4_play_37 : decode cX4_play 37 = .ok (.getfield 20, 3) := by decide +kernel
theorem dX4_play_40 : decode cX4_play 40 = .ok (.iload 4, 2) := by decide +kernel
theorem dX4_play_42 : decode cX4_play 42 = .ok (.aaload, 1) := by decide +kernel
theorem dX4_play_43 : decode cX4_play 43 = .ok (.invokevirtual 84, 3) := by decide +kernel
theorem dX4_play_46 : decode cX4_play 46 = .ok (.iinc 4 1, 3) := by decide +kernel
theorem dX4_play_49 : decode cX4_play 49 = .ok (.goto (-20), 3) := by decide +kernel
theorem dX4_play_52 : decode cX4_play 52 = .ok (.iconst 0, 1) := by decide +kernel
theorem dX4_play_53 : decode cX4_play 53 = .ok (.istore 4, 2) := by decide +kernel
theorem dX4_play_55 : decode cX4_play 55 = .ok (.iconst 0, 1) := by decide +kernel
theorem dX4_play_56 : decode cX4_play 56 = .ok (.istore 5, 2) := by decide +kernel
theorem dX4_play_58 : decode cX4_play 58 = .ok (.iconst 0, 1) := by decide +kernel
theorem dX4_play_59 : decode cX4_play 59 = .ok (.istore 6, 2) := by decide +kernel
theorem dX4_play_61 : decode cX4_play 61 = .ok (.iload 6, 2) := by decide +kernel
theorem dX4_play_63 : decode cX4_play 63 = .ok (.bipush 60, 2) := by decide +kernel
theorem dX4_play_65 : decode cX4_play 65 = .ok (.if_icmp .gt 83, 3) := by decide +kernel
theorem dX4_play_68 : decode cX4_play 68 = .ok (.iload 5, 2) := by decide +kernel
theorem dX4_play_70 : decode cX4_play 70 = .ok (.ifCond .ne 78, 3) := by decide +kernel
theorem dX4_play_73 : decode cX4_play 73 = .ok (.aload_n 0, 1) := by decide +kernel
theorem dX4_play_74 : decode cX4_play 74 = .ok (.iload 6, 2) := by decide +kernel
theorem dX4_play_76 : decode cX4_play 76 = .ok (.putfield 36, 3) := by decide +kernel
theorem dX4_play_79 : decode cX4_play 79 = .ok (.aload_n 0, 1) := by decide +kernel
theorem dX4_play_80 : decode cX4_play 80 = .ok (.getfield 42, 3) := by decide +kernel
theorem dX4_play_83 : decode cX4_play 83 = .ok (.istore 7, 2) := by decide +kernel
theorem dX4_play_85 : decode cX4_play 85 = .ok (.aload_n 0, 1) := by decide +kernel
theorem dX4_play_86 : decode cX4_play 86 = .ok (.invokevirtual 87, 3) := by decide +kernel
theorem dX4_play_89 : decode cX4_play 89 = .ok (.aload_n 0, 1) := by decide +kernel
theorem dX4_play_90 : decode cX4_play 90 = .ok (.invokevirtual 90, 3) := by decide +kernel
theorem dX4_play_93 : decode cX4_play 93 = .ok (.aload_n 0, 1) := by decide +kernel
theorem dX4_play_94 : decode cX4_play 94 = .ok (.iload 4, 2) := by decide +kernel
theorem dX4_play_96 : decode cX4_play 96 = .ok (.iload 7, 2) := by decide +kernel
theorem dX4_play_98 : decode cX4_play 98 = .ok (.invokevirtual 93, 3) := by decide +kernel
theorem dX4_play_101 : decode cX4_play 101 = .ok (.aload_n 0, 1) := by decide +kernel
theorem dX4_play_102 : decode cX4_play 102 = .ok (.invokevirtual 97, 3) := by decide +kernel
theorem dX4_play_105 : decode cX4_play 105 = .ok (.iload 7, 2) := by decide +kernel
theorem dX4_play_107 : decode cX4_play 107 = .ok (.istore 4, 2) := by decide +kernel
theorem dX4_play_109 : decode cX4_play 109 = .ok (.aload_n 0, 1) := by decide +kernel
theorem dX4_play_110 : decode cX4_play 110 = .ok (.iload 6, 2) := by decide +kernel
theorem dX4_play_112 : decode cX4_play 112 = .ok (.putfield 39, 3) := by decide +kernel
theorem dX4_play_115 : decode cX4_play 115 = .ok (.aload_n 0, 1) := by decide +kernel
theorem dX4_play_116 : decode cX4_play 116 = .ok (.invokevirtual 100, 3) := by decide +kernel
theorem dX4_play_119 : decode cX4_play 119 = .ok (.aload_n 0, 1) := by decide +kernel
theorem dX4_play_120 : decode cX4_play 120 = .ok (.getfield 42, 3) := by decide +kernel
theorem dX4_play_123 : decode cX4_play 123 = .ok (.iload 7, 2) := by decide +kernel
theorem dX4_play_125 : decode cX4_play 125 = .ok (.if_icmp .ne 14, 3) := by decide +kernel
theorem dX4_play_128 : decode cX4_play 128 = .ok (.aload_n 0, 1) := by decide +kernel
theorem dX4_play_129 : decode cX4_play 129 = .ok (.invokevirtual 103, 3) := by decide +kernel
theorem dX4_play_132 : decode cX4_play 132 = .ok (.ifCond .ne 7, 3) := by decide +kernel
theorem dX4_play_135 : decode cX4_play 135 = .ok (.iconst 1, 1) := by decide +kernel
theorem dX4_play_136 : decode cX4_play 136 = .ok (.goto 4, 3) := by decide +kernel
theorem dX4_play_139 : decode cX4_play 139 = .ok (.iconst 0, 1) := by decide +kernel
theorem dX4_play_140 : decode cX4_play 140 = .ok (.istore 5, 2) := by decide +kernel
theorem dX4_play_142 : decode cX4_play 142 = .ok (.iinc 6 1, 3) := by decide +kernel
theorem dX4_play_145 : decode cX4_play 145 = .ok (.goto (-84), 3) := by decide +kernel
theorem dX4_play_148 : decode cX4_play 148 = .ok (.return_, 1) := by decide +kernel
theorem dX4_comeUp_0 : decode cX4_comeUp 0 = .ok (.iconst 0, 1) := by decide +kernel
theorem dX4_comeUp_1 : decode cX4_comeUp 1 = .ok (.istore_n 1, 1) := by decide +kernel
theorem dX4_comeUp_2 : decode cX4_comeUp 2 = .ok (.iload_n 1, 1) := by decide +kernel
theorem dX4_comeUp_3 : decode cX4_comeUp 3 = .ok (.aload_n 0, 1) := by decide +kernel
theorem dX4_comeUp_4 : decode cX4_comeUp 4 = .ok (.getfield 70, 3) := by decide +kernel
theorem dX4_comeUp_7 : decode cX4_comeUp 7 = .ok (.getfield 107, 3) := by decide +kernel
theorem dX4_comeUp_10 : decode cX4_comeUp 10 = .ok (.if_icmp .gt 45, 3) := by decide +kernel
theorem dX4_comeUp_13 : decode cX4_comeUp 13 = .ok (.aload_n 0, 1) := by decide +kernel
theorem dX4_comeUp_14 : decode cX4_comeUp 14 = .ok (.getfield 70, 3) := by decide +kernel
theorem dX4_comeUp_17 : decode cX4_comeUp 17 = .ok (.getfield 110, 3) := by decide +kernel
theorem dX4_comeUp_20 : decode cX4_comeUp 20 = .ok (.iload_n 1, 1) := by decide +kernel
theorem dX4_comeUp_21 : decode cX4_comeUp 21 = .ok (.iaload, 1) := by decide +kernel
theorem dX4_comeUp_22 : decode cX4_comeUp 22 = .ok (.aload_n 0, 1) := by decide +kernel
theorem dX4_comeUp_23 : decode cX4_comeUp 23 = .ok (.getfield 36, 3) := by decide +kernel
theorem dX4_comeUp_26 : decode cX4_comeUp 26 = .ok (.if_icmp .ne 23, 3) := by decide +kernel
theorem dX4_comeUp_29 : decode cX4_comeUp 29 = .ok (.aload_n 0, 1) := by decide +kernel
theorem dX4_comeUp_30 : decode cX4_comeUp 30 = .ok (.getfield 20, 3) := by decide +kernel
theorem dX4_comeUp_33 : decode cX4_comeUp 33 = .ok (.iload_n 1, 1) := by decide +kernel
theorem dX4_comeUp_34 : decode cX4_comeUp 34 = .ok (.aaload, 1) := by decide +kernel
theorem dX4_comeUp_35 : decode cX4_comeUp 35 = .ok (.iconst 1, 1) := by decide +kernel
theorem dX4_comeUp_36 : decode cX4_comeUp 36 = .ok (.putfield 113, 3) := by decide +kernel
theorem dX4_comeUp_39 : decode cX4_comeUp 39 = .ok (.aload_n 0, 1) := by decide +kernel
theorem dX4_comeUp_40 : decode cX4_comeUp 40 = .ok (.getfield 20, 3) := by decide +kernel
theorem dX4_comeUp_43 : decode cX4_comeUp 43 = .ok (.iload_n 1, 1) := by decide +kernel
theorem dX4_comeUp_44 : decode cX4_comeUp 44 = .ok (.aaload, 1) := by decide +kernel
theorem dX4_comeUp_45 : decode cX4_comeUp 45 = .ok (.aload_n 0, 1) := by decide +kernel
theorem dX4_comeUp_46 : decode cX4_comeUp 46 = .ok (.invokevirtual 116, 3) := by decide +kernel
theorem dX4_comeUp_49 : decode cX4_comeUp 49 = .ok (.iinc 1 1, 3) := by decide +kernel
theorem dX4_comeUp_52 : decode cX4_comeUp 52 = .ok (.goto (-50), 3) := by decide +kernel
theorem dX4_comeUp_55 : decode cX4_comeUp 55 = .ok (.return_, 1) := by decide +kernel
theorem dX4_goDown_0 : decode cX4_goDown 0 = .ok (.iconst 0, 1) := by decide +kernel
theorem dX4_goDown_1 : decode cX4_goDown 1 = .ok (.istore_n 1, 1) := by decide +kernel
theorem dX4_goDown_2 : decode cX4_goDown 2 = .ok (.iload_n 1, 1) := by decide +kernel
theorem dX4_goDown_3 : decode cX4_goDown 3 = .ok (.aload_n 0, 1) := by decide +kernel
theorem dX4_goDown_4 : decode cX4_goDown 4 = .ok (.getfield 70, 3) := by decide +kernel
theorem dX4_goDown_7 : decode cX4_goDown 7 = .ok (.getfield 107, 3) := by decide +kernel
theorem dX4_goDown_10 : decode cX4_goDown 10 = .ok (.if_icmp .gt 34, 3) := by decide +kernel
theorem dX4_goDown_13 : decode cX4_goDown 13 = .ok (.aload_n 0, 1) := by decide +kernel
theorem dX4_goDown_14 : decode cX4_goDown 14 = .ok (.getfield 70, 3) := by decide +kernel
theorem dX4_goDown_17 : decode cX4_goDown 17 = .ok (.getfield 120, 3) := by decide +kernel
theorem dX4_goDown_20 : decode cX4_goDown 20 = .ok (.iload_n 1, 1) := by decide +kernel
theorem dX4_goDown_21 : decode cX4_goDown 21 = .ok (.iaload, 1) := by decide +kernel
theorem dX4_goDown_22 : decode cX4_goDown 22 = .ok (.aload_n 0, 1) := by decide +kernel
theorem dX4_goDown_23 : decode cX4_goDown 23 = .ok (.getfield 36, 3) := by decide +kernel
theorem dX4_goDown_26 : decode cX4_goDown 26 = .ok (.if_icmp .ne 12, 3) := by decide +kernel
theorem dX4_goDown_29 : decode cX4_goDown 29 = .ok (.aload_n 0, 1) := by decide +kernel
theorem dX4_goDown_30 : decode cX4_goDown 30 = .ok (.getfield 20, 3) := by decide +kernel
theorem dX4_goDown_33 : decode cX4_goDown 33 = .ok (.iload_n 1, 1) := by decide +kernel
theorem dX4_goDown_34 : decode cX4_goDown 34 = .ok (.aaload, 1) := by decide +kernel
theorem dX4_goDown_35 : decode cX4_goDown 35 = .ok (.invokevirtual 123, 3) := by decide +kernel
theorem dX4_goDown_38 : decode cX4_goDown 38 = .ok (.iinc 1 1, 3) := by decide +kernel
theorem dX4_goDown_41 : decode cX4_goDown 41 = .ok (.goto (-39), 3) := by decide +kernel
theorem dX4_goDown_44 : decode cX4_goDown 44 = .ok (.return_, 1) := by decide +kernel
theorem dX4_deliver_0 : decode cX4_deliver 0 = .ok (.iload_n 1, 1) := by decide +kernel
theorem dX4_deliver_1 : decode cX4_deliver 1 = .ok (.istore_n 3, 1) := by decide +kernel
theorem dX4_deliver_2 : decode cX4_deliver 2 = .ok (.iload_n 3, 1) := by decide +kernel
theorem dX4_deliver_3 : decode cX4_deliver 3 = .ok (.iload_n 2, 1) := by decide +kernel
theorem dX4_deliver_4 : decode cX4_deliver 4 = .ok (.if_icmp .ge 86, 3) := by decide +kernel
theorem dX4_deliver_7 : decode cX4_deliver 7 = .ok (.aload_n 0, 1) := by decide +kernel
theorem dX4_deliver_8 : decode cX4_deliver 8 = .ok (.getfield 20, 3) := by decide +kernel
theorem dX4_deliver_11 : decode cX4_deliver 11 = .ok (.aload_n 0, 1) := by decide +kernel
theorem dX4_deliver_12 : decode cX4_deliver 12 = .ok (.getfield 52, 3) := by decide +kernel
theorem dX4_deliver_15 : decode cX4_deliver 15 = .ok (.iload_n 3, 1) := by decide +kernel
theorem dX4_deliver_16 : decode cX4_deliver 16 = .ok (.iaload, 1) := by decide +kernel
theorem dX4_deliver_17 : decode cX4_deliver 17 = .ok (.aaload, 1) := by decide +kernel
theorem dX4_deliver_18 : decode cX4_deliver 18 = .ok (.astore 4, 2) := by decide +kernel
theorem dX4_deliver_20 : decode cX4_deliver 20 = .ok (.aload_n 0, 1) := by decide +kernel
theorem dX4_deliver_21 : decode cX4_deliver 21 = .ok (.getfield 28, 3) := by decide +kernel
theorem dX4_deliver_24 : decode cX4_deliver 24 = .ok (.iload_n 3, 1) := by decide +kernel
theorem dX4_deliver_25 : decode cX4_deliver 25 = .ok (.invokestatic 126, 3) := by decide +kernel
theorem dX4_deliver_28 : decode cX4_deliver 28 = .ok (.ifCond .eq 13, 3) := by decide +kernel
theorem dX4_deliver_31 : decode cX4_deliver 31 = .ok (.aload_n 0, 1) := by decide +kernel
theorem dX4_deliver_32 : decode cX4_deliver 32 = .ok (.getfield 58, 3) := by decide +kernel
theorem dX4_deliver_35 : decode cX4_deliver 35 = .ok (.iload_n 3, 1) := by decide +kernel
theorem dX4_deliver_36 : decode cX4_deliver 36 = .ok (.iconst 1, 1) := by decide +kernel
theorem dX4_deliver_37 : decode cX4_deliver 37 = .ok (.iastore, 1) := by decide +kernel
theorem dX4_deliver_38 : decode cX4_deliver 38 = .ok (.goto 46, 3) := by decide +kernel
theorem dX4_deliver_41 : decode cX4_deliver 41 = .ok (.aload 4, 2) := by decide +kernel
theorem dX4_deliver_43 : decode cX4_deliver 43 = .ok (.getfield 113, 3) := by decide +kernel
theorem dX4_deliver_46 : decode cX4_deliver 46 = .ok (.ifCond .ne 13, 3) := by decide +kernel
theorem dX4_deliver_49 : decode cX4_deliver 49 = .ok (.aload_n 0, 1) := by decide +kernel
theorem dX4_deliver_50 : decode cX4_deliver 50 = .ok (.getfield 58, 3) := by decide +kernel
theorem dX4_deliver_53 : decode cX4_deliver 53 = .ok (.iload_n 3, 1) := by decide +kernel
theorem dX4_deliver_54 : decode cX4_deliver 54 = .ok (.iconst 2, 1) := by decide +kernel
theorem dX4_deliver_55 : decode cX4_deliver 55 = .ok (.iastore, 1) := by decide +kernel
theorem dX4_deliver_56 : decode cX4_deliver 56 = .ok (.goto 28, 3) := by decide +kernel
theorem dX4_deliver_59 : decode cX4_deliver 59 = .ok (.aload_n 0, 1) := by decide +kernel
theorem dX4_deliver_60 : decode cX4_deliver 60 = .ok (.getfield 58, 3) := by decide +kernel
theorem dX4_deliver_63 : decode cX4_deliver 63 = .ok (.iload_n 3, 1) := by decide +kernel
theorem dX4_deliver_64 : decode cX4_deliver 64 = .ok (.iconst 0, 1) := by decide +kernel
theorem dX4_deliver_65 : decode cX4_deliver 65 = .ok (.iastore, 1) := by decide +kernel
theorem dX4_deliver_66 : decode cX4_deliver 66 = .ok (.aload 4, 2) := by decide +kernel
theorem dX4_deliver_68 : decode cX4_deliver 68 = .ok (.aload_n 0, 1) := by decide +kernel
theorem dX4_deliver_69 : decode cX4_deliver 69 = .ok (.aload_n 0, 1) := by decide +kernel
theorem dX4_deliver_70 : decode cX4_deliver 70 = .ok (.getfield 45, 3) := by decide +kernel
theorem dX4_deliver_73 : decode cX4_deliver 73 = .ok (.iload_n 3, 1) := by decide +kernel
theorem dX4_deliver_74 : decode cX4_deliver 74 = .ok (.iaload, 1) := by decide +kernel
theorem dX4_deliver_75 : decode cX4_deliver 75 = .ok (.aload_n 0, 1) := by decide +kernel
theorem dX4_deliver_76 : decode cX4_deliver 76 = .ok (.getfield 49, 3) := by decide +kernel
theorem dX4_deliver_79 : decode cX4_deliver 79 = .ok (.iload_n 3, 1) := by decide +kernel
theorem dX4_deliver_80 : decode cX4_deliver 80 = .ok (.iaload, 1) := by decide +kernel
theorem dX4_deliver_81 : decode cX4_deliver 81 = .ok (.invokevirtual 130, 3) := by decide +kernel
theorem dX4_deliver_84 : decode cX4_deliver 84 = .ok (.iinc 3 1, 3) := by decide +kernel
theorem dX4_deliver_87 : decode cX4_deliver 87 = .ok (.goto (-85), 3) := by decide +kernel
theorem dX4_deliver_90 : decode cX4_deliver 90 = .ok (.return_, 1) := by decide +kernel
theorem dX4_endWaits_0 : decode cX4_endWaits 0 = .ok (.aload_n 0, 1) := by decide +kernel
theorem dX4_endWaits_1 : decode cX4_endWaits 1 = .ok (.getfield 36, 3) := by decide +kernel
theorem dX4_endWaits_4 : decode cX4_endWaits 4 = .ok (.ifCond .ne 21, 3) := by decide +kernel
theorem dX4_endWaits_7 : decode cX4_endWaits 7 = .ok (.aload_n 0, 1) := by decide +kernel
theorem dX4_endWaits_8 : decode cX4_endWaits 8 = .ok (.getfield 12, 3) := by decide +kernel
theorem dX4_endWaits_11 : decode cX4_endWaits 11 = .ok (.getfield 134, 3) := by decide +kernel
theorem dX4_endWaits_14 : decode cX4_endWaits 14 = .ok (.ifCond .eq 11, 3) := by decide +kernel
theorem dX4_endWaits_17 : decode cX4_endWaits 17 = .ok (.aload_n 0, 1) := by decide +kernel
theorem dX4_endWaits_18 : decode cX4_endWaits 18 = .ok (.getfield 12, 3) := by decide +kernel
theorem dX4_endWaits_21 : decode cX4_endWaits 21 = .ok (.aload_n 0, 1) := by decide +kernel
theorem dX4_endWaits_22 : decode cX4_endWaits 22 = .ok (.invokevirtual 135, 3) := by decide +kernel
theorem dX4_endWaits_25 : decode cX4_endWaits 25 = .ok (.iconst 0, 1) := by decide +kernel
theorem dX4_endWaits_26 : decode cX4_endWaits 26 = .ok (.istore_n 1, 1) := by decide +kernel
theorem dX4_endWaits_27 : decode cX4_endWaits 27 = .ok (.iload_n 1, 1) := by decide +kernel
theorem dX4_endWaits_28 : decode cX4_endWaits 28 = .ok (.aload_n 0, 1) := by decide +kernel
theorem dX4_endWaits_29 : decode cX4_endWaits 29 = .ok (.getfield 70, 3) := by decide +kernel
theorem dX4_endWaits_32 : decode cX4_endWaits 32 = .ok (.getfield 107, 3) := by decide +kernel
theorem dX4_endWaits_35 : decode cX4_endWaits 35 = .ok (.if_icmp .gt 59, 3) := by decide +kernel
theorem dX4_endWaits_38 : decode cX4_endWaits 38 = .ok (.aload_n 0, 1) := by decide +kernel
theorem dX4_endWaits_39 : decode cX4_endWaits 39 = .ok (.getfield 20, 3) := by decide +kernel
theorem dX4_endWaits_42 : decode cX4_endWaits 42 = .ok (.iload_n 1, 1) := by decide +kernel
theorem dX4_endWaits_43 : decode cX4_endWaits 43 = .ok (.aaload, 1) := by decide +kernel
theorem dX4_endWaits_44 : decode cX4_endWaits 44 = .ok (.getfield 113, 3) := by decide +kernel
theorem dX4_endWaits_47 : decode cX4_endWaits 47 = .ok (.ifCond .eq 41, 3) := by decide +kernel
theorem dX4_endWaits_50 : decode cX4_endWaits 50 = .ok (.aload_n 0, 1) := by decide +kernel
theorem dX4_endWaits_51 : decode cX4_endWaits 51 = .ok (.getfield 20, 3) := by decide +kernel
theorem dX4_endWaits_54 : decode cX4_endWaits 54 = .ok (.iload_n 1, 1) := by decide +kernel
theorem dX4_endWaits_55 : decode cX4_endWaits 55 = .ok (.aaload, 1) := by decide +kernel
theorem dX4_endWaits_56 : decode cX4_endWaits 56 = .ok (.getfield 138, 3) := by decide +kernel
theorem dX4_endWaits_59 : decode cX4_endWaits 59 = .ok (.aload_n 0, 1) := by decide +kernel
theorem dX4_endWaits_60 : decode cX4_endWaits 60 = .ok (.getfield 36, 3) := by decide +kernel
theorem dX4_endWaits_63 : decode cX4_endWaits 63 = .ok (.if_icmp .gt 25, 3) := by decide +kernel
theorem dX4_endWaits_66 : decode cX4_endWaits 66 = .ok (.aload_n 0, 1) := by decide +kernel
theorem dX4_endWaits_67 : decode cX4_endWaits 67 = .ok (.getfield 20, 3) := by decide +kernel
theorem dX4_endWaits_70 : decode cX4_endWaits 70 = .ok (.iload_n 1, 1) := by decide +kernel
theorem dX4_endWaits_71 : decode cX4_endWaits 71 = .ok (.aaload, 1) := by decide +kernel
theorem dX4_endWaits_72 : decode cX4_endWaits 72 = .ok (.sipush 160, 3) := by decide +kernel
theorem dX4_endWaits_75 : decode cX4_endWaits 75 = .ok (.putfield 138, 3) := by decide +kernel
theorem dX4_endWaits_78 : decode cX4_endWaits 78 = .ok (.aload_n 0, 1) := by decide +kernel
theorem dX4_endWaits_79 : decode cX4_endWaits 79 = .ok (.getfield 20, 3) := by decide +kernel
theorem dX4_endWaits_82 : decode cX4_endWaits 82 = .ok (.iload_n 1, 1) := by decide +kernel
theorem dX4_endWaits_83 : decode cX4_endWaits 83 = .ok (.aaload, 1) := by decide +kernel
theorem dX4_endWaits_84 : decode cX4_endWaits 84 = .ok (.aload_n 0, 1) := by decide +kernel
theorem dX4_endWaits_85 : decode cX4_endWaits 85 = .ok (.invokevirtual 141, 3) := by decide +kernel
theorem dX4_endWaits_88 : decode cX4_endWaits 88 = .ok (.iinc 1 1, 3) := by decide +kernel
theorem dX4_endWaits_91 : decode cX4_endWaits 91 = .ok (.goto (-64), 3) := by decide +kernel
theorem dX4_endWaits_94 : decode cX4_endWaits 94 = .ok (.return_, 1) := by decide +kernel
theorem dX4_keepMoment_0 : decode cX4_keepMoment 0 = .ok (.aload_n 0, 1) := by decide +kernel
theorem dX4_keepMoment_1 : decode cX4_keepMoment 1 = .ok (.getfield 36, 3) := by decide +kernel
theorem dX4_keepMoment_4 : decode cX4_keepMoment 4 = .ok (.bipush 6, 2) := by decide +kernel
theorem dX4_keepMoment_6 : decode cX4_keepMoment 6 = .ok (.imul, 1) := by decide +kernel
theorem dX4_keepMoment_7 : decode cX4_keepMoment 7 = .ok (.istore_n 1, 1) := by decide +kernel
theorem dX4_keepMoment_8 : decode cX4_keepMoment 8 = .ok (.iconst 0, 1) := by decide +kernel
theorem dX4_keepMoment_9 : decode cX4_keepMoment 9 = .ok (.istore_n 2, 1) := by decide +kernel
theorem dX4_keepMoment_10 : decode cX4_keepMoment 10 = .ok (.iload_n 2, 1) := by decide +kernel
theorem dX4_keepMoment_11 : decode cX4_keepMoment 11 = .ok (.aload_n 0, 1) := by decide +kernel
theorem dX4_keepMoment_12 : decode cX4_keepMoment 12 = .ok (.getfield 70, 3) := by decide +kernel
theorem dX4_keepMoment_15 : decode cX4_keepMoment 15 = .ok (.getfield 107, 3) := by decide +kernel
theorem dX4_keepMoment_18 : decode cX4_keepMoment 18 = .ok (.if_icmp .gt 60, 3) := by decide +kernel
theorem dX4_keepMoment_21 : decode cX4_keepMoment 21 = .ok (.aload_n 0, 1) := by decide +kernel
theorem dX4_keepMoment_22 : decode cX4_keepMoment 22 = .ok (.getfield 61, 3) := by decide +kernel
theorem dX4_keepMoment_25 : decode cX4_keepMoment 25 = .ok (.iload_n 1, 1) := by decide +kernel
theorem dX4_keepMoment_26 : decode cX4_keepMoment 26 = .ok (.iload_n 2, 1) := by decide +kernel
theorem dX4_keepMoment_27 : decode cX4_keepMoment 27 = .ok (.iadd, 1) := by decide +kernel
theorem dX4_keepMoment_28 : decode cX4_keepMoment 28 = .ok (.aload_n 0, 1) := by decide +kernel
theorem dX4_keepMoment_29 : decode cX4_keepMoment 29 = .ok (.getfield 20, 3) := by decide +kernel
theorem dX4_keepMoment_32 : decode cX4_keepMoment 32 = .ok (.iload_n 2, 1) := by decide +kernel
theorem dX4_keepMoment_33 : decode cX4_keepMoment 33 = .ok (.aaload, 1) := by decide +kernel
theorem dX4_keepMoment_34 : decode cX4_keepMoment 34 = .ok (.getfield 113, 3) := by decide +kernel
theorem dX4_keepMoment_37 : decode cX4_keepMoment 37 = .ok (.ifCond .eq 15, 3) := by decide +kernel
theorem dX4_keepMoment_40 : decode cX4_keepMoment 40 = .ok (.aload_n 0, 1) := by decide +kernel
theorem dX4_keepMoment_41 : decode cX4_keepMoment 41 = .ok (.getfield 20, 3) := by decide +kernel
theorem dX4_keepMoment_44 : decode cX4_keepMoment 44 = .ok (.iload_n 2, 1) := by decide +kernel
theorem dX4_keepMoment_45 : decode cX4_keepMoment 45 = .ok (.aaload, 1) := by decide +kernel
theorem dX4_keepMoment_46 : decode cX4_keepMoment 46 = .ok (.getfield 144, 3) := by decide +kernel
theorem dX4_keepMoment_49 : decode cX4_keepMoment 49 = .ok (.goto 5, 3) := by decide +kernel
theorem dX4_keepMoment_52 : decode cX4_keepMoment 52 = .ok (.bipush 9, 2) := by decide +kernel
theorem dX4_keepMoment_54 : decode cX4_keepMoment 54 = .ok (.iastore, 1) := by decide +kernel
theorem dX4_keepMoment_55 : decode cX4_keepMoment 55 = .ok (.aload_n 0, 1) := by decide +kernel
theorem dX4_keepMoment_56 : decode cX4_keepMoment 56 = .ok (.getfield 64, 3) := by decide +kernel
theorem dX4_keepMoment_59 : decode cX4_keepMoment 59 = .ok (.iload_n 1, 1) := by decide +kernel
theorem dX4_keepMoment_60 : decode cX4_keepMoment 60 = .ok (.iload_n 2, 1) := by decide +kernel
theorem dX4_keepMoment_61 : decode cX4_keepMoment 61 = .ok (.iadd, 1) := by decide +kernel
theorem dX4_keepMoment_62 : decode cX4_keepMoment 62 = .ok (.aload_n 0, 1) := by decide +kernel
theorem dX4_keepMoment_63 : decode cX4_keepMoment 63 = .ok (.getfield 20, 3) := by decide +kernel
theorem dX4_keepMoment_66 : decode cX4_keepMoment 66 = .ok (.iload_n 2, 1) := by decide +kernel
theorem dX4_keepMoment_67 : decode cX4_keepMoment 67 = .ok (.aaload, 1) := by decide +kernel
theorem dX4_keepMoment_68 : decode cX4_keepMoment 68 = .ok (.getfield 147, 3) := by decide +kernel
theorem dX4_keepMoment_71 : decode cX4_keepMoment 71 = .ok (.iastore, 1) := by decide +kernel
theorem dX4_keepMoment_72 : decode cX4_keepMoment 72 = .ok (.iinc 2 1, 3) := by decide +kernel
theorem dX4_keepMoment_75 : decode cX4_keepMoment 75 = .ok (.goto (-65), 3) := by decide +kernel
theorem dX4_keepMoment_78 : decode cX4_keepMoment 78 = .ok (.aload_n 0, 1) := by decide +kernel
theorem dX4_keepMoment_79 : decode cX4_keepMoment 79 = .ok (.getfield 67, 3) := by decide +kernel
theorem dX4_keepMoment_82 : decode cX4_keepMoment 82 = .ok (.aload_n 0, 1) := by decide +kernel
theorem dX4_keepMoment_83 : decode cX4_keepMoment 83 = .ok (.getfield 36, 3) := by decide +kernel
theorem dX4_keepMoment_86 : decode cX4_keepMoment 86 = .ok (.aload_n 0, 1) := by decide +kernel
theorem dX4_keepMoment_87 : decode cX4_keepMoment 87 = .ok (.getfield 42, 3) := by decide +kernel
theorem dX4_keepMoment_90 : decode cX4_keepMoment 90 = .ok (.iastore, 1) := by decide +kernel
theorem dX4_keepMoment_91 : decode cX4_keepMoment 91 = .ok (.return_, 1) := by decide +kernel
theorem dX4_isAnythingAhead_0 : decode cX4_isAnythingAhead 0 = .ok (.iconst 0, 1) := by decide +kernel
theorem dX4_isAnythingAhead_1 : decode cX4_isAnythingAhead 1 = .ok (.istore_n 1, 1) := by decide +kernel
theorem dX4_isAnythingAhead_2 : decode cX4_isAnythingAhead 2 = .ok (.iload_n 1, 1) := by decide +kernel
theorem dX4_isAnythingAhead_3 : decode cX4_isAnythingAhead 3 = .ok (.aload_n 0, 1) := by decide +kernel
theorem dX4_isAnythingAhead_4 : decode cX4_isAnythingAhead 4 = .ok (.getfield 70, 3) := by decide +kernel
theorem dX4_isAnythingAhead_7 : decode cX4_isAnythingAhead 7 = .ok (.getfield 107, 3) := by decide +kernel
theorem dX4_isAnythingAhead_10 : decode cX4_isAnythingAhead 10 = .ok (.if_icmp .gt 42, 3) := by decide +kernel
theorem dX4_isAnythingAhead_13 : decode cX4_isAnythingAhead 13 = .ok (.aload_n 0, 1) := by decide +kernel
theorem dX4_isAnythingAhead_14 : decode cX4_isAnythingAhead 14 = .ok (.getfield 20, 3) := by decide +kernel
theorem dX4_isAnythingAhead_17 : decode cX4_isAnythingAhead 17 = .ok (.iload_n 1, 1) := by decide +kernel
theorem dX4_isAnythingAhead_18 : decode cX4_isAnythingAhead 18 = .ok (.aaload, 1) := by decide +kernel
theorem dX4_isAnythingAhead_19 : decode cX4_isAnythingAhead 19 = .ok (.getfield 138, 3) := by decide +kernel
theorem dX4_isAnythingAhead_22 : decode cX4_isAnythingAhead 22 = .ok (.sipush 160, 3) := by decide +kernel
theorem dX4_isAnythingAhead_25 : decode cX4_isAnythingAhead 25 = .ok (.if_icmp .ne 19, 3) := by decide +kernel
theorem dX4_isAnythingAhead_28 : decode cX4_isAnythingAhead 28 = .ok (.aload_n 0, 1) := by decide +kernel
theorem dX4_isAnythingAhead_29 : decode cX4_isAnythingAhead 29 = .ok (.getfield 70, 3) := by decide +kernel
theorem dX4_isAnythingAhead_32 : decode cX4_isAnythingAhead 32 = .ok (.getfield 110, 3) := by decide +kernel
theorem dX4_isAnythingAhead_35 : decode cX4_isAnythingAhead 35 = .ok (.iload_n 1, 1) := by decide +kernel
theorem dX4_isAnythingAhead_36 : decode cX4_isAnythingAhead 36 = .ok (.iaload, 1) := by decide +kernel
theorem dX4_isAnythingAhead_37 : decode cX4_isAnythingAhead 37 = .ok (.aload_n 0, 1) := by decide +kernel
theorem dX4_isAnythingAhead_38 : decode cX4_isAnythingAhead 38 = .ok (.getfield 36, 3) := by decide +kernel
theorem dX4_isAnythingAhead_41 : decode cX4_isAnythingAhead 41 = .ok (.if_icmp .le 5, 3) := by decide +kernel
theorem dX4_isAnythingAhead_44 : decode cX4_isAnythingAhead 44 = .ok (.iconst 1, 1) := by decide +kernel
theorem dX4_isAnythingAhead_45 : decode cX4_isAnythingAhead 45 = .ok (.ireturn, 1) := by decide +kernel
theorem dX4_isAnythingAhead_46 : decode cX4_isAnythingAhead 46 = .ok (.iinc 1 1, 3) := by decide +kernel
theorem dX4_isAnythingAhead_49 : decode cX4_isAnythingAhead 49 = .ok (.goto (-47), 3) := by decide +kernel
theorem dX4_isAnythingAhead_52 : decode cX4_isAnythingAhead 52 = .ok (.iconst 0, 1) := by decide +kernel
theorem dX4_isAnythingAhead_53 : decode cX4_isAnythingAhead 53 = .ok (.ireturn, 1) := by decide +kernel
theorem dX4_waitEnd_0 : decode cX4_waitEnd 0 = .ok (.aload_n 0, 1) := by decide +kernel
theorem dX4_waitEnd_1 : decode cX4_waitEnd 1 = .ok (.getfield 36, 3) := by decide +kernel
theorem dX4_waitEnd_4 : decode cX4_waitEnd 4 = .ok (.aload_n 0, 1) := by decide +kernel
theorem dX4_waitEnd_5 : decode cX4_waitEnd 5 = .ok (.getfield 70, 3) := by decide +kernel
theorem dX4_waitEnd_8 : decode cX4_waitEnd 8 = .ok (.getfield 150, 3) := by decide +kernel
theorem dX4_waitEnd_11 : decode cX4_waitEnd 11 = .ok (.iadd, 1) := by decide +kernel
theorem dX4_waitEnd_12 : decode cX4_waitEnd 12 = .ok (.ireturn, 1) := by decide +kernel
theorem dX4_send_0 : decode cX4_send 0 = .ok (.iconst 0, 1) := by decide +kernel
theorem dX4_send_1 : decode cX4_send 1 = .ok (.istore 4, 2) := by decide +kernel
theorem dX4_send_3 : decode cX4_send 3 = .ok (.iload 4, 2) := by decide +kernel
theorem dX4_send_5 : decode cX4_send 5 = .ok (.aload_n 0, 1) := by decide +kernel
theorem dX4_send_6 : decode cX4_send 6 = .ok (.getfield 70, 3) := by decide +kernel
theorem dX4_send_9 : decode cX4_send 9 = .ok (.getfield 107, 3) := by decide +kernel
theorem dX4_send_12 : decode cX4_send 12 = .ok (.if_icmp .gt 92, 3) := by decide +kernel
theorem dX4_send_15 : decode cX4_send 15 = .ok (.iload_n 3, 1) := by decide +kernel
theorem dX4_send_16 : decode cX4_send 16 = .ok (.iload 4, 2) := by decide +kernel
theorem dX4_send_18 : decode cX4_send 18 = .ok (.ishr, 1) := by decide +kernel
theorem dX4_send_19 : decode cX4_send 19 = .ok (.iconst 1, 1) := by decide +kernel
theorem dX4_send_20 : decode cX4_send 20 = .ok (.iand, 1) := by decide +kernel
theorem dX4_send_21 : decode cX4_send 21 = .ok (.ifCond .eq 77, 3) := by decide +kernel
theorem dX4_send_24 : decode cX4_send 24 = .ok (.aload_n 0, 1) := by decide +kernel
theorem dX4_send_25 : decode cX4_send 25 = .ok (.getfield 42, 3) := by decide +kernel
theorem dX4_send_28 : decode cX4_send 28 = .ok (.sipush 200, 3) := by decide +kernel
theorem dX4_send_31 : decode cX4_send 31 = .ok (.if_icmp .ge 67, 3) := by decide +kernel
theorem dX4_send_34 : decode cX4_send 34 = .ok (.aload_n 0, 1) := by decide +kernel
theorem dX4_send_35 : decode cX4_send 35 = .ok (.getfield 45, 3) := by decide +kernel
theorem dX4_send_38 : decode cX4_send 38 = .ok (.aload_n 0, 1) := by decide +kernel
theorem dX4_send_39 : decode cX4_send 39 = .ok (.getfield 42, 3) := by decide +kernel
theorem dX4_send_42 : decode cX4_send 42 = .ok (.iload_n 1, 1) := by decide +kernel
theorem dX4_send_43 : decode cX4_send 43 = .ok (.iastore, 1) := by decide +kernel
theorem dX4_send_44 : decode cX4_send 44 = .ok (.aload_n 0, 1) := by decide +kernel
theorem dX4_send_45 : decode cX4_send 45 = .ok (.getfield 49, 3) := by decide +kernel
theorem dX4_send_48 : decode cX4_send 48 = .ok (.aload_n 0, 1) := by decide +kernel
theorem dX4_send_49 : decode cX4_send 49 = .ok (.getfield 42, 3) := by decide +kernel
theorem dX4_send_52 : decode cX4_send 52 = .ok (.iload_n 2, 1) := by decide +kernel
theorem dX4_send_53 : decode cX4_send 53 = .ok (.iastore, 1) := by decide +kernel
theorem dX4_send_54 : decode cX4_send 54 = .ok (.aload_n 0, 1) := by decide +kernel
theorem dX4_send_55 : decode cX4_send 55 = .ok (.getfield 52, 3) := by decide +kernel
theorem dX4_send_58 : decode cX4_send 58 = .ok (.aload_n 0, 1) := by decide +kernel
theorem dX4_send_59 : decode cX4_send 59 = .ok (.getfield 42, 3) := by decide +kernel
theorem dX4_send_62 : decode cX4_send 62 = .ok (.iload 4, 2) := by decide +kernel
theorem dX4_send_64 : decode cX4_send 64 = .ok (.iastore, 1) := by decide +kernel
theorem dX4_send_65 : decode cX4_send 65 = .ok (.aload_n 0, 1) := by decide +kernel
theorem dX4_send_66 : decode cX4_send 66 = .ok (.getfield 55, 3) := by decide +kernel
theorem dX4_send_69 : decode cX4_send 69 = .ok (.aload_n 0, 1) := by decide +kernel
theorem dX4_send_70 : decode cX4_send 70 = .ok (.getfield 42, 3) := by decide +kernel
theorem dX4_send_73 : decode cX4_send 73 = .ok (.aload_n 0, 1) := by decide +kernel
theorem dX4_send_74 : decode cX4_send 74 = .ok (.getfield 36, 3) := by decide +kernel
theorem dX4_send_77 : decode cX4_send 77 = .ok (.iastore, 1) := by decide +kernel
theorem dX4_send_78 : decode cX4_send 78 = .ok (.aload_n 0, 1) := by decide +kernel
theorem dX4_send_79 : decode cX4_send 79 = .ok (.getfield 58, 3) := by decide +kernel
theorem dX4_send_82 : decode cX4_send 82 = .ok (.aload_n 0, 1) := by decide +kernel
theorem dX4_send_83 : decode cX4_send 83 = .ok (.getfield 42, 3) := by decide +kernel
theorem dX4_send_86 : decode cX4_send 86 = .ok (.iconst 3, 1) := by decide +kernel
theorem dX4_send_87 : decode cX4_send 87 = .ok (.iastore, 1) := by decide +kernel
theorem dX4_send_88 : decode cX4_send 88 = .ok (.aload_n 0, 1) := by decide +kernel
theorem dX4_send_89 : decode cX4_send 89 = .ok (.dup, 1) := by decide +kernel
theorem dX4_send_90 : decode cX4_send 90 = .ok (.getfield 42, 3) := by decide +kernel
theorem dX4_send_93 : decode cX4_send 93 = .ok (.iconst 1, 1) := by decide +kernel
theorem dX4_send_94 : decode cX4_send 94 = .ok (.iadd, 1) := by decide +kernel
theorem dX4_send_95 : decode cX4_send 95 = .ok (.putfield 42, 3) := by decide +kernel
theorem dX4_send_98 : decode cX4_send 98 = .ok (.iinc 4 1, 3) := by decide +kernel
theorem dX4_send_101 : decode cX4_send 101 = .ok (.goto (-98), 3) := by decide +kernel
theorem dX4_send_104 : decode cX4_send 104 = .ok (.return_, 1) := by decide +kernel
theorem dX4_wasSent_0 : decode cX4_wasSent 0 = .ok (.iload_n 1, 1) := by decide +kernel
theorem dX4_wasSent_1 : decode cX4_wasSent 1 = .ok (.ifCond .lt 15, 3) := by decide +kernel
theorem dX4_wasSent_4 : decode cX4_wasSent 4 = .ok (.iload_n 1, 1) := by decide +kernel
theorem dX4_wasSent_5 : decode cX4_wasSent 5 = .ok (.aload_n 0, 1) := by decide +kernel
theorem dX4_wasSent_6 : decode cX4_wasSent 6 = .ok (.getfield 42, 3) := by decide +kernel
theorem dX4_wasSent_9 : decode cX4_wasSent 9 = .ok (.if_icmp .ge 7, 3) := by decide +kernel
theorem dX4_wasSent_12 : decode cX4_wasSent 12 = .ok (.iconst 1, 1) := by decide +kernel
theorem dX4_wasSent_13 : decode cX4_wasSent 13 = .ok (.goto 4, 3) := by decide +kernel
theorem dX4_wasSent_16 : decode cX4_wasSent 16 = .ok (.iconst 0, 1) := by decide +kernel
theorem dX4_wasSent_17 : decode cX4_wasSent 17 = .ok (.ireturn, 1) := by decide +kernel
theorem dX4_moment_0 : decode cX4_moment 0 = .ok (.iload_n 1, 1) := by decide +kernel
theorem dX4_moment_1 : decode cX4_moment 1 = .ok (.aload_n 0, 1) := by decide +kernel
theorem dX4_moment_2 : decode cX4_moment 2 = .ok (.getfield 39, 3) := by decide +kernel
theorem dX4_moment_5 : decode cX4_moment 5 = .ok (.invokestatic 153, 3) := by decide +kernel
theorem dX4_moment_8 : decode cX4_moment 8 = .ok (.bipush 6, 2) := by decide +kernel
theorem dX4_moment_10 : decode cX4_moment 10 = .ok (.imul, 1) := by decide +kernel
theorem dX4_moment_11 : decode cX4_moment 11 = .ok (.iload_n 2, 1) := by decide +kernel
theorem dX4_moment_12 : decode cX4_moment 12 = .ok (.iadd, 1) := by decide +kernel
theorem dX4_moment_13 : decode cX4_moment 13 = .ok (.ireturn, 1) := by decide +kernel
theorem dX4_stateAt_0 : decode cX4_stateAt 0 = .ok (.aload_n 0, 1) := by decide +kernel
theorem dX4_stateAt_1 : decode cX4_stateAt 1 = .ok (.getfield 61, 3) := by decide +kernel
theorem dX4_stateAt_4 : decode cX4_stateAt 4 = .ok (.aload_n 0, 1) := by decide +kernel
theorem dX4_stateAt_5 : decode cX4_stateAt 5 = .ok (.iload_n 1, 1) := by decide +kernel
theorem dX4_stateAt_6 : decode cX4_stateAt 6 = .ok (.iload_n 2, 1) := by decide +kernel
theorem dX4_stateAt_7 : decode cX4_stateAt 7 = .ok (.invokevirtual 159, 3) := by decide +kernel
theorem dX4_stateAt_10 : decode cX4_stateAt 10 = .ok (.iaload, 1) := by decide +kernel
theorem dX4_stateAt_11 : decode cX4_stateAt 11 = .ok (.ireturn, 1) := by decide +kernel
theorem dX4_lengthAt_0 : decode cX4_lengthAt 0 = .ok (.aload_n 0, 1) := by decide +kernel
theorem dX4_lengthAt_1 : decode cX4_lengthAt 1 = .ok (.getfield 64, 3) := by decide +kernel
theorem dX4_lengthAt_4 : decode cX4_lengthAt 4 = .ok (.aload_n 0, 1) := by decide +kernel
theorem dX4_lengthAt_5 : decode cX4_lengthAt 5 = .ok (.iload_n 1, 1) := by decide +kernel
theorem dX4_lengthAt_6 : decode cX4_lengthAt 6 = .ok (.iload_n 2, 1) := by decide +kernel
theorem dX4_lengthAt_7 : decode cX4_lengthAt 7 = .ok (.invokevirtual 159, 3) := by decide +kernel
theorem dX4_lengthAt_10 : decode cX4_lengthAt 10 = .ok (.iaload, 1) := by decide +kernel
theorem dX4_lengthAt_11 : decode cX4_lengthAt 11 = .ok (.ireturn, 1) := by decide +kernel
theorem dX4_sentAt_0 : decode cX4_sentAt 0 = .ok (.aload_n 0, 1) := by decide +kernel
theorem dX4_sentAt_1 : decode cX4_sentAt 1 = .ok (.getfield 67, 3) := by decide +kernel
theorem dX4_sentAt_4 : decode cX4_sentAt 4 = .ok (.iload_n 1, 1) := by decide +kernel
theorem dX4_sentAt_5 : decode cX4_sentAt 5 = .ok (.aload_n 0, 1) := by decide +kernel
theorem dX4_sentAt_6 : decode cX4_sentAt 6 = .ok (.getfield 39, 3) := by decide +kernel
theorem dX4_sentAt_9 : decode cX4_sentAt 9 = .ok (.invokestatic 153, 3) := by decide +kernel
theorem dX4_sentAt_12 : decode cX4_sentAt 12 = .ok (.iaload, 1) := by decide +kernel
theorem dX4_sentAt_13 : decode cX4_sentAt 13 = .ok (.ireturn, 1) := by decide +kernel
theorem dX4_decisionAt_0 : decode cX4_decisionAt 0 = .ok (.aload_n 0, 1) := by decide +kernel
theorem dX4_decisionAt_1 : decode cX4_decisionAt 1 = .ok (.iload_n 1, 1) := by decide +kernel
theorem dX4_decisionAt_2 : decode cX4_decisionAt 2 = .ok (.iload_n 2, 1) := by decide +kernel
theorem dX4_decisionAt_3 : decode cX4_decisionAt 3 = .ok (.invokevirtual 162, 3) := by decide +kernel
theorem dX4_decisionAt_6 : decode cX4_decisionAt 6 = .ok (.istore_n 3, 1) := by decide +kernel
theorem dX4_decisionAt_7 : decode cX4_decisionAt 7 = .ok (.aload_n 0, 1) := by decide +kernel
theorem dX4_decisionAt_8 : decode cX4_decisionAt 8 = .ok (.getfield 20, 3) := by decide +kernel
theorem dX4_decisionAt_11 : decode cX4_decisionAt 11 = .ok (.iload_n 2, 1) := by decide +kernel
theorem dX4_decisionAt_12 : decode cX4_decisionAt 12 = .ok (.aaload, 1) := by decide +kernel
theorem dX4_decisionAt_13 : decode cX4_decisionAt 13 = .ok (.iconst 4, 1) := by decide +kernel
theorem dX4_decisionAt_14 : decode cX4_decisionAt 14 = .ok (.iload_n 3, 1) := by decide +kernel
theorem dX4_decisionAt_15 : decode cX4_decisionAt 15 = .ok (.invokevirtual 165, 3) := by decide +kernel
theorem dX4_decisionAt_18 : decode cX4_decisionAt 18 = .ok (.ifCond .eq 5, 3) := by decide +kernel
theorem dX4_decisionAt_21 : decode cX4_decisionAt 21 = .ok (.iconst 1, 1) := by decide +kernel
theorem dX4_decisionAt_22 : decode cX4_decisionAt 22 = .ok (.ireturn, 1) := by decide +kernel
theorem dX4_decisionAt_23 : decode cX4_decisionAt 23 = .ok (.aload_n 0, 1) := by decide +kernel
theorem dX4_decisionAt_24 : decode cX4_decisionAt 24 = .ok (.getfield 20, 3) := by decide +kernel
theorem dX4_decisionAt_27 : decode cX4_decisionAt 27 = .ok (.iload_n 2, 1) := by decide +kernel
theorem dX4_decisionAt_28 : decode cX4_decisionAt 28 = .ok (.aaload, 1) := by decide +kernel
theorem dX4_decisionAt_29 : decode cX4_decisionAt 29 = .ok (.iconst 5, 1) := by decide +kernel
theorem dX4_decisionAt_30 : decode cX4_decisionAt 30 = .ok (.iload_n 3, 1) := by decide +kernel
theorem dX4_decisionAt_31 : decode cX4_decisionAt 31 = .ok (.invokevirtual 165, 3) := by decide +kernel
theorem dX4_decisionAt_34 : decode cX4_decisionAt 34 = .ok (.ifCond .eq 5, 3) := by decide +kernel
theorem dX4_decisionAt_37 : decode cX4_decisionAt 37 = .ok (.iconst 2, 1) := by decide +kernel
theorem dX4_decisionAt_38 : decode cX4_decisionAt 38 = .ok (.ireturn, 1) := by decide +kernel
theorem dX4_decisionAt_39 : decode cX4_decisionAt 39 = .ok (.iload_n 2, 1) := by decide +kernel
theorem dX4_decisionAt_40 : decode cX4_decisionAt 40 = .ok (.ifCond .ne 24, 3) := by decide +kernel
theorem dX4_decisionAt_43 : decode cX4_decisionAt 43 = .ok (.aload_n 0, 1) := by decide +kernel
theorem dX4_decisionAt_44 : decode cX4_decisionAt 44 = .ok (.getfield 24, 3) := by decide +kernel
theorem dX4_decisionAt_47 : decode cX4_decisionAt 47 = .ok (.ifCond .eq 17, 3) := by decide +kernel
theorem dX4_decisionAt_50 : decode cX4_decisionAt 50 = .ok (.aload_n 0, 1) := by decide +kernel
theorem dX4_decisionAt_51 : decode cX4_decisionAt 51 = .ok (.iload_n 1, 1) := by decide +kernel
theorem dX4_decisionAt_52 : decode cX4_decisionAt 52 = .ok (.iload_n 2, 1) := by decide +kernel
theorem dX4_decisionAt_53 : decode cX4_decisionAt 53 = .ok (.invokevirtual 169, 3) := by decide +kernel
theorem dX4_decisionAt_56 : decode cX4_decisionAt 56 = .ok (.iconst 5, 1) := by decide +kernel
theorem dX4_decisionAt_57 : decode cX4_decisionAt 57 = .ok (.if_icmp .ne 7, 3) := by decide +kernel
theorem dX4_decisionAt_60 : decode cX4_decisionAt 60 = .ok (.iconst 2, 1) := by decide +kernel
theorem dX4_decisionAt_61 : decode cX4_decisionAt 61 = .ok (.goto 4, 3) := by decide +kernel
theorem dX4_decisionAt_64 : decode cX4_decisionAt 64 = .ok (.iconst 0, 1) := by decide +kernel
theorem dX4_decisionAt_65 : decode cX4_decisionAt 65 = .ok (.ireturn, 1) := by decide +kernel
theorem dX4_isAlikeAt_0 : decode cX4_isAlikeAt 0 = .ok (.iconst 0, 1) := by decide +kernel
theorem dX4_isAlikeAt_1 : decode cX4_isAlikeAt 1 = .ok (.istore_n 2, 1) := by decide +kernel
theorem dX4_isAlikeAt_2 : decode cX4_isAlikeAt 2 = .ok (.iconst 0, 1) := by decide +kernel
theorem dX4_isAlikeAt_3 : decode cX4_isAlikeAt 3 = .ok (.istore_n 3, 1) := by decide +kernel
theorem dX4_isAlikeAt_4 : decode cX4_isAlikeAt 4 = .ok (.iload_n 3, 1) := by decide +kernel
theorem dX4_isAlikeAt_5 : decode cX4_isAlikeAt 5 = .ok (.aload_n 0, 1) := by decide +kernel
theorem dX4_isAlikeAt_6 : decode cX4_isAlikeAt 6 = .ok (.getfield 70, 3) := by decide +kernel
theorem dX4_isAlikeAt_9 : decode cX4_isAlikeAt 9 = .ok (.getfield 107, 3) := by decide +kernel
theorem dX4_isAlikeAt_12 : decode cX4_isAlikeAt 12 = .ok (.if_icmp .gt 18, 3) := by decide +kernel
theorem dX4_isAlikeAt_15 : decode cX4_isAlikeAt 15 = .ok (.iload_n 2, 1) := by decide +kernel
theorem dX4_isAlikeAt_16 : decode cX4_isAlikeAt 16 = .ok (.aload_n 0, 1) := by decide +kernel
theorem dX4_isAlikeAt_17 : decode cX4_isAlikeAt 17 = .ok (.iload_n 1, 1) := by decide +kernel
theorem dX4_isAlikeAt_18 : decode cX4_isAlikeAt 18 = .ok (.iload_n 3, 1) := by decide +kernel
theorem dX4_isAlikeAt_19 : decode cX4_isAlikeAt 19 = .ok (.invokevirtual 172, 3) := by decide +kernel
theorem dX4_isAlikeAt_22 : decode cX4_isAlikeAt 22 = .ok (.ior, 1) := by decide +kernel
theorem dX4_isAlikeAt_23 : decode cX4_isAlikeAt 23 = .ok (.istore_n 2, 1) := by decide +kernel
theorem dX4_isAlikeAt_24 : decode cX4_isAlikeAt 24 = .ok (.iinc 3 1, 3) := by decide +kernel
theorem dX4_isAlikeAt_27 : decode cX4_isAlikeAt 27 = .ok (.goto (-23), 3) := by decide +kernel
theorem dX4_isAlikeAt_30 : decode cX4_isAlikeAt 30 = .ok (.iload_n 2, 1) := by decide +kernel
theorem dX4_isAlikeAt_31 : decode cX4_isAlikeAt 31 = .ok (.iconst 3, 1) := by decide +kernel
theorem dX4_isAlikeAt_32 : decode cX4_isAlikeAt 32 = .ok (.if_icmp .eq 7, 3) := by decide +kernel
theorem dX4_isAlikeAt_35 : decode cX4_isAlikeAt 35 = .ok (.iconst 1, 1) := by decide +kernel
theorem dX4_isAlikeAt_36 : decode cX4_isAlikeAt 36 = .ok (.goto 4, 3) := by decide +kernel
theorem dX4_isAlikeAt_39 : decode cX4_isAlikeAt 39 = .ok (.iconst 0, 1) := by decide +kernel
theorem dX4_isAlikeAt_40 : decode cX4_isAlikeAt 40 = .ok (.ireturn, 1) := by decide +kernel
theorem dX4_whoIsBlocked_0 : decode cX4_whoIsBlocked 0 = .ok (.iconst 0, 1) := by decide +kernel
theorem dX4_whoIsBlocked_1 : decode cX4_whoIsBlocked 1 = .ok (.istore_n 1, 1) := by decide +kernel
theorem dX4_whoIsBlocked_2 : decode cX4_whoIsBlocked 2 = .ok (.iconst 1, 1) := by decide +kernel
theorem dX4_whoIsBlocked_3 : decode cX4_whoIsBlocked 3 = .ok (.istore_n 2, 1) := by decide +kernel
theorem dX4_whoIsBlocked_4 : decode cX4_whoIsBlocked 4 = .ok (.iload_n 2, 1) := by decide +kernel
theorem dX4_whoIsBlocked_5 : decode cX4_whoIsBlocked 5 = .ok (.aload_n 0, 1) := by decide +kernel
theorem dX4_whoIsBlocked_6 : decode cX4_whoIsBlocked 6 = .ok (.getfield 70, 3) := by decide +kernel
theorem dX4_whoIsBlocked_9 : decode cX4_whoIsBlocked 9 = .ok (.getfield 107, 3) := by decide +kernel
theorem dX4_whoIsBlocked_12 : decode cX4_whoIsBlocked 12 = .ok (.if_icmp .gt 33, 3) := by decide +kernel
theorem dX4_whoIsBlocked_15 : decode cX4_whoIsBlocked 15 = .ok (.aload_n 0, 1) := by decide +kernel
theorem dX4_whoIsBlocked_16 : decode cX4_whoIsBlocked 16 = .ok (.bipush 60, 2) := by decide +kernel
theorem dX4_whoIsBlocked_18 : decode cX4_whoIsBlocked 18 = .ok (.iload_n 2, 1) := by decide +kernel
theorem dX4_whoIsBlocked_19 : decode cX4_whoIsBlocked 19 = .ok (.invokevirtual 169, 3) := by decide +kernel
theorem dX4_whoIsBlocked_22 : decode cX4_whoIsBlocked 22 = .ok (.istore_n 3, 1) := by decide +kernel
theorem dX4_whoIsBlocked_23 : decode cX4_whoIsBlocked 23 = .ok (.iload_n 3, 1) := by decide +kernel
theorem dX4_whoIsBlocked_24 : decode cX4_whoIsBlocked 24 = .ok (.iconst 1, 1) := by decide +kernel
theorem dX4_whoIsBlocked_25 : decode cX4_whoIsBlocked 25 = .ok (.if_icmp .eq 8, 3) := by decide +kernel
theorem dX4_whoIsBlocked_28 : decode cX4_whoIsBlocked 28 = .ok (.iload_n 3, 1) := by decide +kernel
theorem dX4_whoIsBlocked_29 : decode cX4_whoIsBlocked 29 = .ok (.iconst 2, 1) := by decide +kernel
theorem dX4_whoIsBlocked_30 : decode cX4_whoIsBlocked 30 = .ok (.if_icmp .ne 9, 3) := by decide +kernel
theorem dX4_whoIsBlocked_33 : decode cX4_whoIsBlocked 33 = .ok (.iload_n 1, 1) := by decide +kernel
theorem dX4_whoIsBlocked_34 : decode cX4_whoIsBlocked 34 = .ok (.iconst 1, 1) := by decide +kernel
theorem dX4_whoIsBlocked_35 : decode cX4_whoIsBlocked 35 = .ok (.iload_n 2, 1) := by decide +kernel
theorem dX4_whoIsBlocked_36 : decode cX4_whoIsBlocked 36 = .ok (.ishl, 1) := by decide +kernel
theorem dX4_whoIsBlocked_37 : decode cX4_whoIsBlocked 37 = .ok (.ior, 1) := by decide +kernel
theorem dX4_whoIsBlocked_38 : decode cX4_whoIsBlocked 38 = .ok (.istore_n 1, 1) := by decide +kernel
theorem dX4_whoIsBlocked_39 : decode cX4_whoIsBlocked 39 = .ok (.iinc 2 1, 3) := by decide +kernel
theorem dX4_whoIsBlocked_42 : decode cX4_whoIsBlocked 42 = .ok (.goto (-38), 3) := by decide +kernel
theorem dX4_whoIsBlocked_45 : decode cX4_whoIsBlocked 45 = .ok (.iload_n 1, 1) := by decide +kernel
theorem dX4_whoIsBlocked_46 : decode cX4_whoIsBlocked 46 = .ok (.ireturn, 1) := by decide +kernel
theorem dX4_quietTick_0 : decode cX4_quietTick 0 = .ok (.aload_n 0, 1) := by decide +kernel
theorem dX4_quietTick_1 : decode cX4_quietTick 1 = .ok (.getfield 39, 3) := by decide +kernel
theorem dX4_quietTick_4 : decode cX4_quietTick 4 = .ok (.istore_n 1, 1) := by decide +kernel
theorem dX4_quietTick_5 : decode cX4_quietTick 5 = .ok (.iload_n 1, 1) := by decide +kernel
theorem dX4_quietTick_6 : decode cX4_quietTick 6 = .ok (.ifCond .le 17, 3) := by decide +kernel
theorem dX4_quietTick_9 : decode cX4_quietTick 9 = .ok (.aload_n 0, 1) := by decide +kernel
theorem dX4_quietTick_10 : decode cX4_quietTick 10 = .ok (.iload_n 1, 1) := by decide +kernel
theorem dX4_quietTick_11 : decode cX4_quietTick 11 = .ok (.invokevirtual 175, 3) := by decide +kernel
theorem dX4_quietTick_14 : decode cX4_quietTick 14 = .ok (.ifCond .eq 9, 3) := by decide +kernel
theorem dX4_quietTick_17 : decode cX4_quietTick 17 = .ok (.iinc 1 (-1), 3) := by decide +kernel
theorem dX4_quietTick_20 : decode cX4_quietTick 20 = .ok (.goto (-15), 3) := by decide +kernel
theorem dX4_quietTick_23 : decode cX4_quietTick 23 = .ok (.iload_n 1, 1) := by decide +kernel
theorem dX4_quietTick_24 : decode cX4_quietTick 24 = .ok (.ireturn, 1) := by decide +kernel
theorem dX4_isSameAsBefore_0 : decode cX4_isSameAsBefore 0 = .ok (.iconst 0, 1) := by decide +kernel
theorem dX4_isSameAsBefore_1 : decode cX4_isSameAsBefore 1 = .ok (.istore_n 2, 1) := by decide +kernel
theorem dX4_isSameAsBefore_2 : decode cX4_isSameAsBefore 2 = .ok (.iload_n 2, 1) := by decide +kernel
theorem dX4_isSameAsBefore_3 : decode cX4_isSameAsBefore 3 = .ok (.aload_n 0, 1) := by decide +kernel
theorem dX4_isSameAsBefore_4 : decode cX4_isSameAsBefore 4 = .ok (.getfield 70, 3) := by decide +kernel
theorem dX4_isSameAsBefore_7 : decode cX4_isSameAsBefore 7 = .ok (.getfield 107, 3) := by decide +kernel
theorem dX4_isSameAsBefore_10 : decode cX4_isSameAsBefore 10 = .ok (.if_icmp .gt 45, 3) := by decide +kernel
theorem dX4_isSameAsBefore_13 : decode cX4_isSameAsBefore 13 = .ok (.aload_n 0, 1) := by decide +kernel
theorem dX4_isSameAsBefore_14 : decode cX4_isSameAsBefore 14 = .ok (.iload_n 1, 1) := by decide +kernel
theorem dX4_isSameAsBefore_15 : decode cX4_isSameAsBefore 15 = .ok (.iload_n 2, 1) := by decide +kernel
theorem dX4_isSameAsBefore_16 : decode cX4_isSameAsBefore 16 = .ok (.invokevirtual 169, 3) := by decide +kernel
theorem dX4_isSameAsBefore_19 : decode cX4_isSameAsBefore 19 = .ok (.aload_n 0, 1) := by decide +kernel
theorem dX4_isSameAsBefore_20 : decode cX4_isSameAsBefore 20 = .ok (.iload_n 1, 1) := by decide +kernel
theorem dX4_isSameAsBefore_21 : decode cX4_isSameAsBefore 21 = .ok (.iconst 1, 1) := by decide +kernel
theorem dX4_isSameAsBefore_22 : decode cX4_isSameAsBefore 22 = .ok (.isub, 1) := by decide +kernel
theorem dX4_isSameAsBefore_23 : decode cX4_isSameAsBefore 23 = .ok (.iload_n 2, 1) := by decide +kernel
theorem dX4_isSameAsBefore_24 : decode cX4_isSameAsBefore 24 = .ok (.invokevirtual 169, 3) := by decide +kernel
theorem dX4_isSameAsBefore_27 : decode cX4_isSameAsBefore 27 = .ok (.if_icmp .ne 20, 3) := by decide +kernel
theorem dX4_isSameAsBefore_30 : decode cX4_isSameAsBefore 30 = .ok (.aload_n 0, 1) := by decide +kernel
theorem dX4_isSameAsBefore_31 : decode cX4_isSameAsBefore 31 = .ok (.iload_n 1, 1) := by decide +kernel
theorem dX4_isSameAsBefore_32 : decode cX4_isSameAsBefore 32 = .ok (.iload_n 2, 1) := by decide +kernel
theorem dX4_isSameAsBefore_33 : decode cX4_isSameAsBefore 33 = .ok (.invokevirtual 162, 3) := by decide +kernel
theorem dX4_isSameAsBefore_36 : decode cX4_isSameAsBefore 36 = .ok (.aload_n 0, 1) := by decide +kernel
theorem dX4_isSameAsBefore_37 : decode cX4_isSameAsBefore 37 = .ok (.iload_n 1, 1) := by decide +kernel
theorem dX4_isSameAsBefore_38 : decode cX4_isSameAsBefore 38 = .ok (.iconst 1, 1) := by decide +kernel
theorem dX4_isSameAsBefore_39 : decode cX4_isSameAsBefore 39 = .ok (.isub, 1) := by decide +kernel
theorem dX4_isSameAsBefore_40 : decode cX4_isSameAsBefore 40 = .ok (.iload_n 2, 1) := by decide +kernel
theorem dX4_isSameAsBefore_41 : decode cX4_isSameAsBefore 41 = .ok (.invokevirtual 162, 3) := by decide +kernel
theorem dX4_isSameAsBefore_44 : decode cX4_isSameAsBefore 44 = .ok (.if_icmp .eq 5, 3) := by decide +kernel
theorem dX4_isSameAsBefore_47 : decode cX4_isSameAsBefore 47 = .ok (.iconst 0, 1) := by decide +kernel
theorem dX4_isSameAsBefore_48 : decode cX4_isSameAsBefore 48 = .ok (.ireturn, 1) := by decide +kernel
theorem dX4_isSameAsBefore_49 : decode cX4_isSameAsBefore 49 = .ok (.iinc 2 1, 3) := by decide +kernel
theorem dX4_isSameAsBefore_52 : decode cX4_isSameAsBefore 52 = .ok (.goto (-50), 3) := by decide +kernel
theorem dX4_isSameAsBefore_55 : decode cX4_isSameAsBefore 55 = .ok (.iconst 1, 1) := by decide +kernel
theorem dX4_isSameAsBefore_56 : decode cX4_isSameAsBefore 56 = .ok (.ireturn, 1) := by decide +kernel
theorem dX5_init_0 : decode cX5_init 0 = .ok (.aload_n 0, 1) := by decide +kernel
theorem dX5_init_1 : decode cX5_init 1 = .ok (.invokespecial 3, 3) := by decide +kernel
theorem dX5_init_4 : decode cX5_init 4 = .ok (.aload_n 0, 1) := by decide +kernel
theorem dX5_init_5 : decode cX5_init 5 = .ok (.iconst 3, 1) := by decide +kernel
theorem dX5_init_6 : decode cX5_init 6 = .ok (.putfield 9, 3) := by decide +kernel
theorem dX5_init_9 : decode cX5_init 9 = .ok (.aload_n 0, 1) := by decide +kernel
theorem dX5_init_10 : decode cX5_init 10 = .ok (.iconst 2, 1) := by decide +kernel
theorem dX5_init_11 : decode cX5_init 11 = .ok (.putfield 15, 3) := by decide +kernel
theorem dX5_init_14 : decode cX5_init 14 = .ok (.aload_n 0, 1) := by decide +kernel
theorem dX5_init_15 : decode cX5_init 15 = .ok (.iconst 4, 1) := by decide +kernel
theorem dX5_init_16 : decode cX5_init 16 = .ok (.putfield 18, 3) := by decide +kernel
theorem dX5_init_19 : decode cX5_init 19 = .ok (.aload_n 0, 1) := by decide +kernel
theorem dX5_init_20 : decode cX5_init 20 = .ok (.iconst 0, 1) := by decide +kernel
theorem dX5_init_21 : decode cX5_init 21 = .ok (.putfield 21, 3) := by decide +kernel
theorem dX5_init_24 : decode cX5_init 24 = .ok (.aload_n 0, 1) := by decide +kernel
theorem dX5_init_25 : decode cX5_init 25 = .ok (.bipush 62, 2) := by decide +kernel
theorem dX5_init_27 : decode cX5_init 27 = .ok (.putfield 25, 3) := by decide +kernel
theorem dX5_init_30 : decode cX5_init 30 = .ok (.aload_n 0, 1) := by decide +kernel
theorem dX5_init_31 : decode cX5_init 31 = .ok (.lconst 0, 1) := by decide +kernel
theorem dX5_init_32 : decode cX5_init 32 = .ok (.putfield 28, 3) := by decide +kernel
theorem dX5_init_35 : decode cX5_init 35 = .ok (.aload_n 0, 1) := by decide +kernel
theorem dX5_init_36 : decode cX5_init 36 = .ok (.bipush 6, 2) := by decide +kernel
theorem dX5_init_38 : decode cX5_init 38 = .ok (.newarray .int, 2) := by decide +kernel
theorem dX5_init_40 : decode cX5_init 40 = .ok (.putfield 32, 3) := by decide +kernel
theorem dX5_init_43 : decode cX5_init 43 = .ok (.aload_n 0, 1) := by decide +kernel
theorem dX5_init_44 : decode cX5_init 44 = .ok (.bipush 6, 2) := by decide +kernel
theorem dX5_init_46 : decode cX5_init 46 = .ok (.newarray .int, 2) := by decide +kernel
theorem dX5_init_48 : decode cX5_init 48 = .ok (.putfield 36, 3) := by decide +kernel
theorem dX5_init_51 : decode cX5_init 51 = .ok (.aload_n 0, 1) := by decide +kernel
theorem dX5_init_52 : decode cX5_init 52 = .ok (.iconst 1, 1) := by decide +kernel
theorem dX5_init_53 : decode cX5_init 53 = .ok (.putfield 39, 3) := by decide +kernel
theorem dX5_init_56 : decode cX5_init 56 = .ok (.aload_n 0, 1) := by decide +kernel
theorem dX5_init_57 : decode cX5_init 57 = .ok (.getfield 32, 3) := by decide +kernel
theorem dX5_init_60 : decode cX5_init 60 = .ok (.iconst (-1), 1) := by decide +kernel
theorem dX5_init_61 : decode cX5_init 61 = .ok (.invokestatic 42, 3) := by decide +kernel
theorem dX5_init_64 : decode cX5_init 64 = .ok (.aload_n 0, 1) := by decide +kernel
theorem dX5_init_65 : decode cX5_init 65 = .ok (.getfield 36, 3) := by decide +kernel
theorem dX5_init_68 : decode cX5_init 68 = .ok (.iconst (-1), 1) := by decide +kernel
theorem dX5_init_69 : decode cX5_init 69 = .ok (.invokestatic 42, 3) := by decide +kernel
theorem dX5_init_72 : decode cX5_init 72 = .ok (.return_, 1) := by decide +kernel
theorem dX5_takeFrom_0 : decode cX5_takeFrom 0 = .ok (.aload_n 0, 1) := by decide +kernel
theorem dX5_takeFrom_1 : decode cX5_takeFrom 1 = .ok (.aload_n 1, 1) := by decide +kernel
theorem dX5_takeFrom_2 : decode cX5_takeFrom 2 = .ok (.getfield 9, 3) := by decide +kernel
theorem dX5_takeFrom_5 : decode cX5_takeFrom 5 = .ok (.putfield 9, 3) := by decide +kernel
theorem dX5_takeFrom_8 : decode cX5_takeFrom 8 = .ok (.aload_n 0, 1) := by decide +kernel
theorem dX5_takeFrom_9 : decode cX5_takeFrom 9 = .ok (.aload_n 1, 1) := by decide +kernel
theorem dX5_takeFrom_10 : decode cX5_takeFrom 10 = .ok (.getfield 15, 3) := by decide +kernel
theorem dX5_takeFrom_13 : decode cX5_takeFrom 13 = .ok (.putfield 15, 3) := by decide +kernel
theorem dX5_takeFrom_16 : decode cX5_takeFrom 16 = .ok (.aload_n 0, 1) := by decide +kernel
theorem dX5_takeFrom_17 : decode cX5_takeFrom 17 = .ok (.aload_n 1, 1) := by decide +kernel
theorem dX5_takeFrom_18 : decode cX5_takeFrom 18 = .ok (.getfield 18, 3) := by decide +kernel
theorem dX5_takeFrom_21 : decode cX5_takeFrom 21 = .ok (.putfield 18, 3) := by decide +kernel
theorem dX5_takeFrom_24 : decode cX5_takeFrom 24 = .ok (.aload_n 0, 1) := by decide +kernel
theorem dX5_takeFrom_25 : decode cX5_takeFrom 25 = .ok (.aload_n 1, 1) := by decide +kernel
theorem dX5_takeFrom_26 : decode cX5_takeFrom 26 = .ok (.getfield 21, 3) := by decide +kernel
theorem dX5_takeFrom_29 : decode cX5_takeFrom 29 = .ok (.putfield 21, 3) := by decide +kernel
theorem dX5_takeFrom_32 : decode cX5_takeFrom 32 = .ok (.aload_n 0, 1) := by decide +kernel
theorem dX5_takeFrom_33 : decode cX5_takeFrom 33 = .ok (.aload_n 1, 1) := by decide +kernel
theorem dX5_takeFrom_34 : decode cX5_takeFrom 34 = .ok (.getfield 25, 3) := by decide +kernel
theorem dX5_takeFrom_37 : decode cX5_takeFrom 37 = .ok (.putfield 25, 3) := by decide +kernel
theorem dX5_takeFrom_40 : decode cX5_takeFrom 40 = .ok (.aload_n 0, 1) := by decide +kernel
theorem dX5_takeFrom_41 : decode cX5_takeFrom 41 = .ok (.aload_n 1, 1) := by decide +kernel
theorem dX5_takeFrom_42 : decode cX5_takeFrom 42 = .ok (.getfield 28, 3) := by decide +kernel
theorem dX5_takeFrom_45 : decode cX5_takeFrom 45 = .ok (.putfield 28, 3) := by decide +kernel
theorem dX5_takeFrom_48 : decode cX5_takeFrom 48 = .ok (.aload_n 1, 1) := by decide +kernel
theorem dX5_takeFrom_49 : decode cX5_takeFrom 49 = .ok (.getfield 32, 3) := by decide +kernel
theorem dX5_takeFrom_52 : decode cX5_takeFrom 52 = .ok (.iconst 0, 1) := by decide +kernel
theorem dX5_takeFrom_53 : decode cX5_takeFrom 53 = .ok (.aload_n 0, 1) := by decide +kernel
theorem dX5_takeFrom_54 : decode cX5_takeFrom 54 = .ok (.getfield 32, 3) := by decide +kernel
theorem dX5_takeFrom_57 : decode cX5_takeFrom 57 = .ok (.iconst 0, 1) := by decide +kernel
theorem dX5_takeFrom_58 : decode cX5_takeFrom 58 = .ok (.bipush 6, 2) := by decide +kernel
theorem dX5_takeFrom_60 : decode cX5_takeFrom 60 = .ok (.invokestatic 48, 3) := by decide +kernel
theorem dX5_takeFrom_63 : decode cX5_takeFrom 63 = .ok (.aload_n 1, 1) := by decide +kernel
theorem dX5_takeFrom_64 : decode cX5_takeFrom 64 = .ok (.getfield 36, 3) := by decide +kernel
theorem dX5_takeFrom_67 : decode cX5_takeFrom 67 = .ok (.iconst 0, 1) := by decide +kernel
theorem dX5_takeFrom_68 : decode cX5_takeFrom 68 = .ok (.aload_n 0, 1) := by decide +kernel
theorem dX5_takeFrom_69 : decode cX5_takeFrom 69 = .ok (.getfield 36, 3) := by decide +kernel
theorem dX5_takeFrom_72 : decode cX5_takeFrom 72 = .ok (.iconst 0, 1) := by decide +kernel
theorem dX5_takeFrom_73 : decode cX5_takeFrom 73 = .ok (.bipush 6, 2) := by decide +kernel
theorem dX5_takeFrom_75 : decode cX5_takeFrom 75 = .ok (.invokestatic 48, 3) := by decide +kernel
theorem dX5_takeFrom_78 : decode cX5_takeFrom 78 = .ok (.aload_n 0, 1) := by decide +kernel
theorem dX5_takeFrom_79 : decode cX5_takeFrom 79 = .ok (.aload_n 1, 1) := by decide +kernel
theorem dX5_takeFrom_80 : decode cX5_takeFrom 80 = .ok (.getfield 39, 3) := by decide +kernel
theorem dX5_takeFrom_83 : decode cX5_takeFrom 83 = .ok (.putfield 39, 3) := by decide +kernel
theorem dX5_takeFrom_86 : decode cX5_takeFrom 86 = .ok (.return_, 1) := by decide +kernel
theorem dX5_mayBe_0 : decode cX5_mayBe 0 = .ok (.iload_n 0, 1) := by decide +kernel
theorem dX5_mayBe_1 : decode cX5_mayBe 1 = .ok (.tableswitch 105 0 2 #[27, 53, 79], 27) := by decide +kernel
theorem dX5_mayBe_28 : decode cX5_mayBe 28 = .ok (.iload_n 1, 1) := by decide +kernel
theorem dX5_mayBe_29 : decode cX5_mayBe 29 = .ok (.getstatic 54, 3) := by decide +kernel
theorem dX5_mayBe_32 : decode cX5_mayBe 32 = .ok (.getfield 60, 3) := by decide +kernel
theorem dX5_mayBe_35 : decode cX5_mayBe 35 = .ok (.if_icmp .lt 17, 3) := by decide +kernel
theorem dX5_mayBe_38 : decode cX5_mayBe 38 = .ok (.iload_n 1, 1) := by decide +kernel
theorem dX5_mayBe_39 : decode cX5_mayBe 39 = .ok (.getstatic 54, 3) := by decide +kernel
theorem dX5_mayBe_42 : decode cX5_mayBe 42 = .ok (.getfield 63, 3) := by decide +kernel
theorem dX5_mayBe_45 : decode cX5_mayBe 45 = .ok (.if_icmp .gt 7, 3) := by decide +kernel
theorem dX5_mayBe_48 : decode cX5_mayBe 48 = .ok (.iconst 1, 1) := by decide +kernel
theorem dX5_mayBe_49 : decode cX5_mayBe 49 = .ok (.goto 4, 3) := by decide +kernel
theorem dX5_mayBe_52 : decode cX5_mayBe 52 = .ok (.iconst 0, 1) := by decide +kernel
theorem dX5_mayBe_53 : decode cX5_mayBe 53 = .ok (.ireturn, 1) := by decide +kernel
theorem dX5_mayBe_54 : decode cX5_mayBe 54 = .ok (.iload_n 1, 1) := by decide +kernel
theorem dX5_mayBe_55 : decode cX5_mayBe 55 = .ok (.getstatic 66, 3) := by decide +kernel
theorem dX5_mayBe_58 : decode cX5_mayBe 58 = .ok (.getfield 60, 3) := by decide +kernel
theorem dX5_mayBe_61 : decode cX5_mayBe 61 = .ok (.if_icmp .lt 17, 3) := by decide +kernel
theorem dX5_mayBe_64 : decode cX5_mayBe 64 = .ok (.iload_n 1, 1) := by decide +kernel
theorem dX5_mayBe_65 : decode cX5_mayBe 65 = .ok (.getstatic 66, 3) := by decide +kernel
theorem dX5_mayBe_68 : decode cX5_mayBe 68 = .ok (.getfield 63, 3) := by decide +kernel
theorem dX5_mayBe_71 : decode cX5_mayBe 71 = .ok (.if_icmp .gt 7, 3) := by decide +kernel
theorem dX5_mayBe_74 : decode cX5_mayBe 74 = .ok (.iconst 1, 1) := by decide +kernel
theorem dX5_mayBe_75 : decode cX5_mayBe 75 = .ok (.goto 4, 3) := by decide +kernel
theorem dX5_mayBe_78 : decode cX5_mayBe 78 = .ok (.iconst 0, 1) := by decide +kernel
theorem dX5_mayBe_79 : decode cX5_mayBe 79 = .ok (.ireturn, 1) := by decide +kernel
theorem dX5_mayBe_80 : decode cX5_mayBe 80 = .ok (.iload_n 1, 1) := by decide +kernel
theorem dX5_mayBe_81 : decode cX5_mayBe 81 = .ok (.getstatic 69, 3) := by decide +kernel
theorem dX5_mayBe_84 : decode cX5_mayBe 84 = .ok (.getfield 60, 3) := by decide +kernel
theorem dX5_mayBe_87 : decode cX5_mayBe 87 = .ok (.if_icmp .lt 17, 3) := by decide +kernel
theorem dX5_mayBe_90 : decode cX5_mayBe 90 = .ok (.iload_n 1, 1) := by decide +kernel
theorem dX5_mayBe_91 : decode cX5_mayBe 91 = .ok (.getstatic 69, 3) := by decide +kernel
theorem dX5_mayBe_94 : decode cX5_mayBe 94 = .ok (.getfield 63, 3) := by decide +kernel
theorem dX5_mayBe_97 : decode cX5_mayBe 97 = .ok (.if_icmp .gt 7, 3) := by decide +kernel
theorem dX5_mayBe_100 : decode cX5_mayBe 100 = .ok (.iconst 1, 1) := by decide +kernel
theorem dX5_mayBe_101 : decode cX5_mayBe 101 = .ok (.goto 4, 3) := by decide +kernel
theorem dX5_mayBe_104 : decode cX5_mayBe 104 = .ok (.iconst 0, 1) := by decide +kernel
theorem dX5_mayBe_105 : decode cX5_mayBe 105 = .ok (.ireturn, 1) := by decide +kernel
theorem dX5_mayBe_106 : decode cX5_mayBe 106 = .ok (.iload_n 1, 1) := by decide +kernel
theorem dX5_mayBe_107 : decode cX5_mayBe 107 = .ok (.ifCond .eq 8, 3) := by decide +kernel
theorem dX5_mayBe_110 : decode cX5_mayBe 110 = .ok (.iload_n 1, 1) := by decide +kernel
theorem dX5_mayBe_111 : decode cX5_mayBe 111 = .ok (.iconst 1, 1) := by decide +kernel
theorem dX5_mayBe_112 : decode cX5_mayBe 112 = .ok (.if_icmp .ne 7, 3) := by decide +kernel
theorem dX5_mayBe_115 : decode cX5_mayBe 115 = .ok (.iconst 1, 1) := by decide +kernel
theorem dX5_mayBe_116 : decode cX5_mayBe 116 = .ok (.goto 4, 3) := by decide +kernel
theorem dX5_mayBe_119 : decode cX5_mayBe 119 = .ok (.iconst 0, 1) := by decide +kernel
theorem dX5_mayBe_120 : decode cX5_mayBe 120 = .ok (.ireturn, 1) := by decide +kernel
theorem dX5_number_0 : decode cX5_number 0 = .ok (.iload_n 1, 1) := by decide +kernel
theorem dX5_number_1 : decode cX5_number 1 = .ok (.tableswitch 42 0 2 #[27, 32, 37], 27) := by decide +kernel
theorem dX5_number_28 : decode cX5_number 28 = .ok (.aload_n 0, 1) := by decide +kernel
theorem dX5_number_29 : decode cX5_number 29 = .ok (.getfield 9, 3) := by decide +kernel
theorem dX5_number_32 : decode cX5_number 32 = .ok (.ireturn, 1) := by decide +kernel
theorem dX5_number_33 : decode cX5_number 33 = .ok (.aload_n 0, 1) := by decide +kernel
theorem dX5_number_34 : decode cX5_number 34 = .ok (.getfield 15, 3) := by decide +kernel
theorem dX5_number_37 : decode cX5_number 37 = .ok (.ireturn, 1) := by decide +kernel
theorem dX5_number_38 : decode cX5_number 38 = .ok (.aload_n 0, 1) := by decide +kernel
theorem dX5_number_39 : decode cX5_number 39 = .ok (.getfield 18, 3) := by decide +kernel
theorem dX5_number_42 : decode cX5_number 42 = .ok (.ireturn, 1) := by decide +kernel
theorem dX5_number_43 : decode cX5_number 43 = .ok (.aload_n 0, 1) := by decide +kernel
theorem dX5_number_44 : decode cX5_number 44 = .ok (.getfield 21, 3) := by decide +kernel
theorem dX5_number_47 : decode cX5_number 47 = .ok (.ifCond .eq 7, 3) := by decide +kernel
theorem dX5_number_50 : decode cX5_number 50 = .ok (.iconst 1, 1) := by decide +kernel
theorem dX5_number_51 : decode cX5_number 51 = .ok (.goto 4, 3) := by decide +kernel
theorem dX5_number_54 : decode cX5_number 54 = .ok (.iconst 0, 1) := by decide +kernel
theorem dX5_number_55 : decode cX5_number 55 = .ok (.ireturn, 1) := by decide +kernel
theorem dX5_giveNumber_0 : decode cX5_giveNumber 0 = .ok (.iload_n 1, 1) := by decide +kernel
theorem dX5_giveNumber_1 : decode cX5_giveNumber 1 = .ok (.tableswitch 51 0 2 #[27, 35, 43], 27) := by decide +kernel
theorem dX5_giveNumber_28 : decode cX5_giveNumber 28 = .ok (.aload_n 0, 1) := by decide +kernel
theorem dX5_giveNumber_29 : decode cX5_giveNumber 29 = .ok (.iload_n 2, 1) := by decide +kernel
theorem dX5_giveNumber_30 : decode cX5_giveNumber 30 = .ok (.putfield 9, 3) := by decide +kernel
theorem dX5_giveNumber_33 : decode cX5_giveNumber 33 = .ok (.goto 33, 3) := by decide +kernel
theorem dX5_giveNumber_36 : decode cX5_giveNumber 36 = .ok (.aload_n 0, 1) := by decide +kernel
theorem dX5_giveNumber_37 : decode cX5_giveNumber 37 = .ok (.iload_n 2, 1) := by decide +kernel
theorem dX5_giveNumber_38 : decode cX5_giveNumber 38 = .ok (.putfield 15, 3) := by decide +kernel
theorem dX5_giveNumber_41 : decode cX5_giveNumber 41 = .ok (.goto 25, 3) := by decide +kernel
theorem dX5_giveNumber_44 : decode cX5_giveNumber 44 = .ok (.aload_n 0, 1) := by decide +kernel
theorem dX5_giveNumber_45 : decode cX5_giveNumber 45 = .ok (.iload_n 2, 1) := by decide +kernel
theorem dX5_giveNumber_46 : decode cX5_giveNumber 46 = .ok (.putfield 18, 3) := by decide +kernel
theorem dX5_giveNumber_49 : decode cX5_giveNumber 49 = .ok (.goto 17, 3) := by decide +kernel
theorem dX5_giveNumber_52 : decode cX5_giveNumber 52 = .ok (.aload_n 0, 1) := by decide +kernel
theorem dX5_giveNumber_53 : decode cX5_giveNumber 53 = .ok (.iload_n 2, 1) := by decide +kernel
theorem dX5_giveNumber_54 : decode cX5_giveNumber 54 = .ok (.iconst 1, 1) := by decide +kernel
theorem dX5_giveNumber_55 : decode cX5_giveNumber 55 = .ok (.if_icmp .ne 7, 3) := by decide +kernel
theorem dX5_giveNumber_58 : decode cX5_giveNumber 58 = .ok (.iconst 1, 1) := by decide +kernel
theorem dX5_giveNumber_59 : decode cX5_giveNumber 59 = .ok (.goto 4, 3) := by decide +kernel
theorem dX5_giveNumber_62 : decode cX5_giveNumber 62 = .ok (.iconst 0, 1) := by decide +kernel
theorem dX5_giveNumber_63 : decode cX5_giveNumber 63 = .ok (.putfield 21, 3) := by decide +kernel
theorem dX5_giveNumber_66 : decode cX5_giveNumber 66 = .ok (.return_, 1) := by decide +kernel
theorem dX5_votesYes_0 : decode cX5_votesYes 0 = .ok (.aload_n 0, 1) := by decide +kernel
theorem dX5_votesYes_1 : decode cX5_votesYes 1 = .ok (.getfield 25, 3) := by decide +kernel
theorem dX5_votesYes_4 : decode cX5_votesYes 4 = .ok (.iload_n 1, 1) := by decide +kernel
theorem dX5_votesYes_5 : decode cX5_votesYes 5 = .ok (.ishr, 1) := by decide +kernel
theorem dX5_votesYes_6 : decode cX5_votesYes 6 = .ok (.iconst 1, 1) := by decide +kernel
theorem dX5_votesYes_7 : decode cX5_votesYes 7 = .ok (.iand, 1) := by decide +kernel
theorem dX5_votesYes_8 : decode cX5_votesYes 8 = .ok (.ifCond .eq 7, 3) := by decide +kernel
theorem dX5_votesYes_11 : decode cX5_votesYes 11 = .ok (.iconst 1, 1) := by decide +kernel
theorem dX5_votesYes_12 : decode cX5_votesYes 12 = .ok (.goto 4, 3) := by decide +kernel
theorem dX5_votesYes_15 : decode cX5_votesYes 15 = .ok (.iconst 0, 1) := by decide +kernel
theorem dX5_votesYes_16 : decode cX5_votesYes 16 = .ok (.ireturn, 1) := by decide +kernel
theorem dX5_giveVote_0 : decode cX5_giveVote 0 = .ok (.aload_n 0, 1) := by decide +kernel
theorem dX5_giveVote_1 : decode cX5_giveVote 1 = .ok (.iload_n 2, 1) := by decide +kernel
theorem dX5_giveVote_2 : decode cX5_giveVote 2 = .ok (.ifCond .eq 14, 3) := by decide +kernel
theorem dX5_giveVote_5 : decode cX5_giveVote 5 = .ok (.aload_n 0, 1) := by decide +kernel
theorem dX5_giveVote_6 : decode cX5_giveVote 6 = .ok (.getfield 25, 3) := by decide +kernel
theorem dX5_giveVote_9 : decode cX5_giveVote 9 = .ok (.iconst 1, 1) := by decide +kernel
theorem dX5_giveVote_10 : decode cX5_giveVote 10 = .ok (.iload_n 1, 1) := by decide +kernel
theorem dX5_giveVote_11 : decode cX5_giveVote 11 = .ok (.ishl, 1) := by decide +kernel
theorem dX5_giveVote_12 : decode cX5_giveVote 12 = .ok (.ior, 1) := by decide +kernel
theorem dX5_giveVote_13 : decode cX5_giveVote 13 = .ok (.goto 13, 3) := by decide +kernel
theorem dX5_giveVote_16 : decode cX5_giveVote 16 = .ok (.aload_n 0, 1) := by decide +kernel
theorem dX5_giveVote_17 : decode cX5_giveVote 17 = .ok (.getfield 25, 3) := by decide +kernel
theorem dX5_giveVote_20 : decode cX5_giveVote 20 = .ok (.iconst 1, 1) := by decide +kernel
theorem dX5_giveVote_21 : decode cX5_giveVote 21 = .ok (.iload_n 1, 1) := by decide +kernel
theorem dX5_giveVote_22 : decode cX5_giveVote 22 = .ok (.ishl, 1) := by decide +kernel
theorem dX5_giveVote_23 : decode cX5_giveVote 23 = .ok (.iconst (-1), 1) := by decide +kernel
theorem dX5_giveVote_24 : decode cX5_giveVote 24 = .ok (.ixor, 1) := by decide +kernel
theorem dX5_giveVote_25 : decode cX5_giveVote 25 = .ok (.iand, 1) := by decide +kernel
theorem dX5_giveVote_26 : decode cX5_giveVote 26 = .ok (.putfield 25, 3) := by decide +kernel
theorem dX5_giveVote_29 : decode cX5_giveVote 29 = .ok (.return_, 1) := by decide +kernel
theorem dX5_giveLoss_0 : decode cX5_giveLoss 0 = .ok (.aload_n 0, 1) := by decide +kernel
theorem dX5_giveLoss_1 : decode cX5_giveLoss 1 = .ok (.iload_n 2, 1) := by decide +kernel
theorem dX5_giveLoss_2 : decode cX5_giveLoss 2 = .ok (.ifCond .eq 14, 3) := by decide +kernel
theorem dX5_giveLoss_5 : decode cX5_giveLoss 5 = .ok (.aload_n 0, 1) := by decide +kernel
theorem dX5_giveLoss_6 : decode cX5_giveLoss 6 = .ok (.getfield 28, 3) := by decide +kernel
theorem dX5_giveLoss_9 : decode cX5_giveLoss 9 = .ok (.lconst 1, 1) := by decide +kernel
theorem dX5_giveLoss_10 : decode cX5_giveLoss 10 = .ok (.iload_n 1, 1) := by decide +kernel
theorem dX5_giveLoss_11 : decode cX5_giveLoss 11 = .ok (.lshl, 1) := by decide +kernel
theorem dX5_giveLoss_12 : decode cX5_giveLoss 12 = .ok (.lor, 1) := by decide +kernel
theorem dX5_giveLoss_13 : decode cX5_giveLoss 13 = .ok (.goto 15, 3) := by decide +kernel
theorem dX5_giveLoss_16 : decode cX5_giveLoss 16 = .ok (.aload_n 0, 1) := by decide +kernel
theorem dX5_giveLoss_17 : decode cX5_giveLoss 17 = .ok (.getfield 28, 3) := by decide +kernel
theorem dX5_giveLoss_20 : decode cX5_giveLoss 20 = .ok (.lconst 1, 1) := by decide +kernel
theorem dX5_giveLoss_21 : decode cX5_giveLoss 21 = .ok (.iload_n 1, 1) := by decide +kernel
theorem dX5_giveLoss_22 : decode cX5_giveLoss 22 = .ok (.lshl, 1) := by decide +kernel
theorem dX5_giveLoss_23 : decode cX5_giveLoss 23 = .ok (.ldc2_w 72, 3) := by decide +kernel
theorem dX5_giveLoss_26 : decode cX5_giveLoss 26 = .ok (.lxor, 1) := by decide +kernel
theorem dX5_giveLoss_27 : decode cX5_giveLoss 27 = .ok (.land, 1) := by decide +kernel
theorem dX5_giveLoss_28 : decode cX5_giveLoss 28 = .ok (.putfield 28, 3) := by decide +kernel
theorem dX5_giveLoss_31 : decode cX5_giveLoss 31 = .ok (.return_, 1) := by decide +kernel
theorem dX5_giveDown_0 : decode cX5_giveDown 0 = .ok (.iload_n 1, 1) := by decide +kernel
theorem dX5_giveDown_1 : decode cX5_giveDown 1 = .ok (.ifCond .lt 23, 3) := by decide +kernel
theorem dX5_giveDown_4 : decode cX5_giveDown 4 = .ok (.iload_n 1, 1) := by decide +kernel
theorem dX5_giveDown_5 : decode cX5_giveDown 5 = .ok (.bipush 6, 2) := by decide +kernel
theorem dX5_giveDown_7 : decode cX5_giveDown 7 = .ok (.if_icmp .ge 17, 3) := by decide +kernel
theorem dX5_giveDown_10 : decode cX5_giveDown 10 = .ok (.aload_n 0, 1) := by decide +kernel
theorem dX5_giveDown_11 : decode cX5_giveDown 11 = .ok (.getfield 32, 3) := by decide +kernel
theorem dX5_giveDown_14 : decode cX5_giveDown 14 = .ok (.iload_n 1, 1) := by decide +kernel
theorem dX5_giveDown_15 : decode cX5_giveDown 15 = .ok (.iload_n 2, 1) := by decide +kernel
theorem dX5_giveDown_16 : decode cX5_giveDown 16 = .ok (.iastore, 1) := by decide +kernel
theorem dX5_giveDown_17 : decode cX5_giveDown 17 = .ok (.aload_n 0, 1) := by decide +kernel
theorem dX5_giveDown_18 : decode cX5_giveDown 18 = .ok (.getfield 36, 3) := by decide +kernel
theorem dX5_giveDown_21 : decode cX5_giveDown 21 = .ok (.iload_n 1, 1) := by decide +kernel
theorem dX5_giveDown_22 : decode cX5_giveDown 22 = .ok (.iload_n 3, 1) := by decide +kernel
theorem dX5_giveDown_23 : decode cX5_giveDown 23 = .ok (.iastore, 1) := by decide +kernel
theorem dX5_giveDown_24 : decode cX5_giveDown 24 = .ok (.return_, 1) := by decide +kernel
theorem dX5_everyone_0 : decode cX5_everyone 0 = .ok (.iconst 2, 1) := by decide +kernel
theorem dX5_everyone_1 : decode cX5_everyone 1 = .ok (.aload_n 0, 1) := by decide +kernel
theorem dX5_everyone_2 : decode cX5_everyone 2 = .ok (.getfield 9, 3) := by decide +kernel
theorem dX5_everyone_5 : decode cX5_everyone 5 = .ok (.ishl, 1) := by decide +kernel
theorem dX5_everyone_6 : decode cX5_everyone 6 = .ok (.iconst 2, 1) := by decide +kernel
theorem dX5_everyone_7 : decode cX5_everyone 7 = .ok (.isub, 1) := by decide +kernel
theorem dX5_everyone_8 : decode cX5_everyone 8 = .ok (.ireturn, 1) := by decide +kernel
theorem dX5_sitesWithDown_0 : decode cX5_sitesWithDown 0 = .ok (.iconst 0, 1) := by decide +kernel
theorem dX5_sitesWithDown_1 : decode cX5_sitesWithDown 1 = .ok (.istore_n 1, 1) := by decide +kernel
theorem dX5_sitesWithDown_2 : decode cX5_sitesWithDown 2 = .ok (.iconst 0, 1) := by decide +kernel
theorem dX5_sitesWithDown_3 : decode cX5_sitesWithDown 3 = .ok (.istore_n 2, 1) := by decide +kernel
theorem dX5_sitesWithDown_4 : decode cX5_sitesWithDown 4 = .ok (.iload_n 2, 1) := by decide +kernel
theorem dX5_sitesWithDown_5 : decode cX5_sitesWithDown 5 = .ok (.aload_n 0, 1) := by decide +kernel
theorem dX5_sitesWithDown_6 : decode cX5_sitesWithDown 6 = .ok (.getfield 9, 3) := by decide +kernel
theorem dX5_sitesWithDown_9 : decode cX5_sitesWithDown 9 = .ok (.if_icmp .gt 25, 3) := by decide +kernel
theorem dX5_sitesWithDown_12 : decode cX5_sitesWithDown 12 = .ok (.aload_n 0, 1) := by decide +kernel
theorem dX5_sitesWithDown_13 : decode cX5_sitesWithDown 13 = .ok (.getfield 32, 3) := by decide +kernel
theorem dX5_sitesWithDown_16 : decode cX5_sitesWithDown 16 = .ok (.iload_n 2, 1) := by decide +kernel
theorem dX5_sitesWithDown_17 : decode cX5_sitesWithDown 17 = .ok (.iaload, 1) := by decide +kernel
theorem dX5_sitesWithDown_18 : decode cX5_sitesWithDown 18 = .ok (.iconst (-1), 1) := by decide +kernel
theorem dX5_sitesWithDown_19 : decode cX5_sitesWithDown 19 = .ok (.if_icmp .eq 9, 3) := by decide +kernel
theorem dX5_sitesWithDown_22 : decode cX5_sitesWithDown 22 = .ok (.iload_n 1, 1) := by decide +kernel
theorem dX5_sitesWithDown_23 : decode cX5_sitesWithDown 23 = .ok (.iconst 1, 1) := by decide +kernel
theorem dX5_sitesWithDown_24 : decode cX5_sitesWithDown 24 = .ok (.iload_n 2, 1) := by decide +kernel
theorem dX5_sitesWithDown_25 : decode cX5_sitesWithDown 25 = .ok (.ishl, 1) := by decide +kernel
theorem dX5_sitesWithDown_26 : decode cX5_sitesWithDown 26 = .ok (.ior, 1) := by decide +kernel
theorem dX5_sitesWithDown_27 : decode cX5_sitesWithDown 27 = .ok (.istore_n 1, 1) := by decide +kernel
theorem dX5_sitesWithDown_28 : decode cX5_sitesWithDown 28 = .ok (.iinc 2 1, 3) := by decide +kernel
theorem dX5_sitesWithDown_31 : decode cX5_sitesWithDown 31 = .ok (.goto (-27), 3) := by decide +kernel
theorem dX5_sitesWithDown_34 : decode cX5_sitesWithDown 34 = .ok (.iload_n 1, 1) := by decide +kernel
theorem dX5_sitesWithDown_35 : decode cX5_sitesWithDown 35 = .ok (.ireturn, 1) := by decide +kernel
theorem dX5_draw_0 : decode cX5_draw 0 = .ok (.aload_n 0, 1) := by decide +kernel
theorem dX5_draw_1 : decode cX5_draw 1 = .ok (.aload_n 0, 1) := by decide +kernel
theorem dX5_draw_2 : decode cX5_draw 2 = .ok (.getfield 39, 3) := by decide +kernel
theorem dX5_draw_5 : decode cX5_draw 5 = .ok (.ldc 74, 2) := by decide +kernel
theorem dX5_draw_7 : decode cX5_draw 7 = .ok (.imul, 1) := by decide +kernel
theorem dX5_draw_8 : decode cX5_draw 8 = .ok (.sipush 12345, 3) := by decide +kernel
theorem dX5_draw_11 : decode cX5_draw 11 = .ok (.iadd, 1) := by decide +kernel
theorem dX5_draw_12 : decode cX5_draw 12 = .ok (.putfield 39, 3) := by decide +kernel
theorem dX5_draw_15 : decode cX5_draw 15 = .ok (.iload_n 1, 1) := by decide +kernel
theorem dX5_draw_16 : decode cX5_draw 16 = .ok (.ifCond .le 15, 3) := by decide +kernel
theorem dX5_draw_19 : decode cX5_draw 19 = .ok (.aload_n 0, 1) := by decide +kernel
theorem dX5_draw_20 : decode cX5_draw 20 = .ok (.getfield 39, 3) := by decide +kernel
theorem dX5_draw_23 : decode cX5_draw 23 = .ok (.bipush 16, 2) := by decide +kernel
theorem dX5_draw_25 : decode cX5_draw 25 = .ok (.iushr, 1) := by decide +kernel
theorem dX5_draw_26 : decode cX5_draw 26 = .ok (.iload_n 1, 1) := by decide +kernel
theorem dX5_draw_27 : decode cX5_draw 27 = .ok (.irem, 1) := by decide +kernel
theorem dX5_draw_28 : decode cX5_draw 28 = .ok (.goto 4, 3) := by decide +kernel
theorem dX5_draw_31 : decode cX5_draw 31 = .ok (.iconst 0, 1) := by decide +kernel
theorem dX5_draw_32 : decode cX5_draw 32 = .ok (.ireturn, 1) := by decide +kernel
theorem dX5_apply_0 : decode cX5_apply 0 = .ok (.getstatic 75, 3) := by decide +kernel
theorem dX5_apply_3 : decode cX5_apply 3 = .ok (.aload_n 1, 1) := by decide +kernel
theorem dX5_apply_4 : decode cX5_apply 4 = .ok (.invokevirtual 80, 3) := by decide +kernel
theorem dX5_apply_7 : decode cX5_apply 7 = .ok (.iaload, 1) := by decide +kernel
theorem dX5_apply_8 : decode cX5_apply 8 = .ok (.tableswitch 164 1 11 #[60, 68, 76, 84, 84, 104, 104, 124, 135, 145, 145], 60) := by decide +kernel
theorem dX5_apply_68 : decode cX5_apply 68 = .ok (.aload_n 0, 1) := by decide +kernel
theorem dX5_apply_69 : decode cX5_apply 69 = .ok (.iload_n 2, 1) := by decide +kernel
theorem dX5_apply_70 : decode cX5_apply 70 = .ok (.putfield 9, 3) := by decide +kernel
theorem dX5_apply_73 : decode cX5_apply 73 = .ok (.goto 99, 3) := by decide +kernel
theorem dX5_apply_76 : decode cX5_apply 76 = .ok (.aload_n 0, 1) := by decide +kernel
theorem dX5_apply_77 : decode cX5_apply 77 = .ok (.iload_n 2, 1) := by decide +kernel
theorem dX5_apply_78 : decode cX5_apply 78 = .ok (.putfield 15, 3) := by decide +kernel
theorem dX5_apply_81 : decode cX5_apply 81 = .ok (.goto 91, 3) := by decide +kernel
theorem dX5_apply_84 : decode cX5_apply 84 = .ok (.aload_n 0, 1) := by decide +kernel
theorem dX5_apply_85 : decode cX5_apply 85 = .ok (.iload_n 2, 1) := by decide +kernel
theorem dX5_apply_86 : decode cX5_apply 86 = .ok (.putfield 18, 3) := by decide +kernel
theorem dX5_apply_89 : decode cX5_apply 89 = .ok (.goto 83, 3) := by decide +kernel
theorem dX5_apply_92 : decode cX5_apply 92 = .ok (.aload_n 0, 1) := by decide +kernel
theorem dX5_apply_93 : decode cX5_apply 93 = .ok (.iload_n 2, 1) := by decide +kernel
theorem dX5_apply_94 : decode cX5_apply 94 = .ok (.aload_n 1, 1) := by decide +kernel
theorem dX5_apply_95 : decode cX5_apply 95 = .ok (.getstatic 84, 3) := by decide +kernel
theorem dX5_apply_98 : decode cX5_apply 98 = .ok (.if_acmp .ne 7, 3) := by decide +kernel
theorem dX5_apply_101 : decode cX5_apply 101 = .ok (.iconst 1, 1) := by decide +kernel
theorem dX5_apply_102 : decode cX5_apply 102 = .ok (.goto 4, 3) := by decide +kernel
theorem dX5_apply_105 : decode cX5_apply 105 = .ok (.iconst 0, 1) := by decide +kernel
theorem dX5_apply_106 : decode cX5_apply 106 = .ok (.invokevirtual 87, 3) := by decide +kernel
theorem dX5_apply_109 : decode cX5_apply 109 = .ok (.goto 63, 3) := by decide +kernel
theorem dX5_apply_112 : decode cX5_apply 112 = .ok (.aload_n 0, 1) := by decide +kernel
theorem dX5_apply_113 : decode cX5_apply 113 = .ok (.iload_n 2, 1) := by decide +kernel
theorem dX5_apply_114 : decode cX5_apply 114 = .ok (.aload_n 1, 1) := by decide +kernel
theorem dX5_apply_115 : decode cX5_apply 115 = .ok (.getstatic 91, 3) := by decide +kernel
theorem dX5_apply_118 : decode cX5_apply 118 = .ok (.if_acmp .ne 7, 3) := by decide +kernel
theorem dX5_apply_121 : decode cX5_apply 121 = .ok (.iconst 1, 1) := by decide +kernel
theorem dX5_apply_122 : decode cX5_apply 122 = .ok (.goto 4, 3) := by decide +kernel
theorem dX5_apply_125 : decode cX5_apply 125 = .ok (.iconst 0, 1) := by decide +kernel
theorem dX5_apply_126 : decode cX5_apply 126 = .ok (.invokevirtual 94, 3) := by decide +kernel
theorem dX5_apply_129 : decode cX5_apply 129 = .ok (.goto 43, 3) := by decide +kernel
theorem dX5_apply_132 : decode cX5_apply 132 = .ok (.aload_n 0, 1) := by decide +kernel
theorem dX5_apply_133 : decode cX5_apply 133 = .ok (.iload_n 2, 1) := by decide +kernel
theorem dX5_apply_134 : decode cX5_apply 134 = .ok (.iload_n 3, 1) := by decide +kernel
theorem dX5_apply_135 : decode cX5_apply 135 = .ok (.iload 4, 2) := by decide +kernel
theorem dX5_apply_137 : decode cX5_apply 137 = .ok (.invokevirtual 97, 3) := by decide +kernel
theorem dX5_apply_140 : decode cX5_apply 140 = .ok (.goto 32, 3) := by decide +kernel
theorem dX5_apply_143 : decode cX5_apply 143 = .ok (.aload_n 0, 1) := by decide +kernel
theorem dX5_apply_144 : decode cX5_apply 144 = .ok (.iload_n 2, 1) := by decide +kernel
theorem dX5_apply_145 : decode cX5_apply 145 = .ok (.iconst (-1), 1) := by decide +kernel
theorem dX5_apply_146 : decode cX5_apply 146 = .ok (.iconst (-1), 1) := by decide +kernel
theorem dX5_apply_147 : decode cX5_apply 147 = .ok (.invokevirtual 97, 3) := by decide +kernel
theorem dX5_apply_150 : decode cX5_apply 150 = .ok (.goto 22, 3) := by decide +kernel
theorem dX5_apply_153 : decode cX5_apply 153 = .ok (.aload_n 0, 1) := by decide +kernel
theorem dX5_apply_154 : decode cX5_apply 154 = .ok (.aload_n 1, 1) := by decide +kernel
theorem dX5_apply_155 : decode cX5_apply 155 = .ok (.getstatic 101, 3) := by decide +kernel
theorem dX5_apply_158 : decode cX5_apply 158 = .ok (.if_acmp .ne 7, 3) := by decide +kernel
theorem dX5_apply_161 : decode cX5_apply 161 = .ok (.iconst 1, 1) := by decide +kernel
theorem dX5_apply_162 : decode cX5_apply 162 = .ok (.goto 4, 3) := by decide +kernel
theorem dX5_apply_165 : decode cX5_apply 165 = .ok (.iconst 0, 1) := by decide +kernel
theorem dX5_apply_166 : decode cX5_apply 166 = .ok (.putfield 21, 3) := by decide +kernel
theorem dX5_apply_169 : decode cX5_apply 169 = .ok (.goto 3, 3) := by decide +kernel
theorem dX5_apply_172 : decode cX5_apply 172 = .ok (.return_, 1) := by decide +kernel
theorem dX6_init_0 : decode cX6_init 0 = .ok (.aload_n 0, 1) := by decide +kernel
theorem dX6_init_1 : decode cX6_init 1 = .ok (.invokespecial 3, 3) := by decide +kernel
theorem dX6_init_4 : decode cX6_init 4 = .ok (.aload_n 0, 1) := by decide +kernel
theorem dX6_init_5 : decode cX6_init 5 = .ok (.iconst 0, 1) := by decide +kernel
theorem dX6_init_6 : decode cX6_init 6 = .ok (.putfield 11, 3) := by decide +kernel
theorem dX6_init_9 : decode cX6_init 9 = .ok (.aload_n 0, 1) := by decide +kernel
theorem dX6_init_10 : decode cX6_init 10 = .ok (.iconst 0, 1) := by decide +kernel
theorem dX6_init_11 : decode cX6_init 11 = .ok (.putfield 15, 3) := by decide +kernel
theorem dX6_init_14 : decode cX6_init 14 = .ok (.aload_n 0, 1) := by decide +kernel
theorem dX6_init_15 : decode cX6_init 15 = .ok (.iconst 0, 1) := by decide +kernel
theorem dX6_init_16 : decode cX6_init 16 = .ok (.putfield 18, 3) := by decide +kernel
theorem dX6_init_19 : decode cX6_init 19 = .ok (.aload_n 0, 1) := by decide +kernel
theorem dX6_init_20 : decode cX6_init 20 = .ok (.sipush 160, 3) := by decide +kernel
theorem dX6_init_23 : decode cX6_init 23 = .ok (.newarray .long, 2) := by decide +kernel
theorem dX6_init_25 : decode cX6_init 25 = .ok (.putfield 21, 3) := by decide +kernel
theorem dX6_init_28 : decode cX6_init 28 = .ok (.aload_n 0, 1) := by decide +kernel
theorem dX6_init_29 : decode cX6_init 29 = .ok (.iconst 0, 1) := by decide +kernel
theorem dX6_init_30 : decode cX6_init 30 = .ok (.putfield 25, 3) := by decide +kernel
theorem dX6_init_33 : decode cX6_init 33 = .ok (.aload_n 0, 1) := by decide +kernel
theorem dX6_init_34 : decode cX6_init 34 = .ok (.iconst 0, 1) := by decide +kernel
theorem dX6_init_35 : decode cX6_init 35 = .ok (.putfield 28, 3) := by decide +kernel
theorem dX6_init_38 : decode cX6_init 38 = .ok (.aload_n 0, 1) := by decide +kernel
theorem dX6_init_39 : decode cX6_init 39 = .ok (.iconst 0, 1) := by decide +kernel
theorem dX6_init_40 : decode cX6_init 40 = .ok (.putfield 31, 3) := by decide +kernel
theorem dX6_init_43 : decode cX6_init 43 = .ok (.aload_n 0, 1) := by decide +kernel
theorem dX6_init_44 : decode cX6_init 44 = .ok (.iconst 0, 1) := by decide +kernel
theorem dX6_init_45 : decode cX6_init 45 = .ok (.putfield 34, 3) := by decide +kernel
theorem dX6_init_48 : decode cX6_init 48 = .ok (.return_, 1) := by decide +kernel
theorem dX6_isEmpty_0 : decode cX6_isEmpty 0 = .ok (.aload_n 0, 1) := by decide +kernel
theorem dX6_isEmpty_1 : decode cX6_isEmpty 1 = .ok (.getfield 11, 3) := by decide +kernel
theorem dX6_isEmpty_4 : decode cX6_isEmpty 4 = .ok (.ifCond .ne 7, 3) := by decide +kernel
theorem dX6_isEmpty_7 : decode cX6_isEmpty 7 = .ok (.iconst 1, 1) := by decide +kernel
theorem dX6_isEmpty_8 : decode cX6_isEmpty 8 = .ok (.goto 4, 3) := by decide +kernel
theorem dX6_isEmpty_11 : decode cX6_isEmpty 11 = .ok (.iconst 0, 1) := by decide +kernel
theorem dX6_isEmpty_12 : decode cX6_isEmpty 12 = .ok (.ireturn, 1) := by decide +kernel
theorem dX6_isRow_0 : decode cX6_isRow 0 = .ok (.aload_n 0, 1) := by decide +kernel
theorem dX6_isRow_1 : decode cX6_isRow 1 = .ok (.getfield 11, 3) := by decide +kernel
theorem dX6_isRow_4 : decode cX6_isRow 4 = .ok (.iconst 1, 1) := by decide +kernel
theorem dX6_isRow_5 : decode cX6_isRow 5 = .ok (.if_icmp .ne 7, 3) := by decide +kernel
theorem dX6_isRow_8 : decode cX6_isRow 8 = .ok (.iconst 1, 1) := by decide +kernel
theorem dX6_isRow_9 : decode cX6_isRow 9 = .ok (.goto 4, 3) := by decide +kernel
theorem dX6_isRow_12 : decode cX6_isRow 12 = .ok (.iconst 0, 1) := by decide +kernel
theorem dX6_isRow_13 : decode cX6_isRow 13 = .ok (.ireturn, 1) := by decide +kernel
theorem dX6_isMessage_0 : decode cX6_isMessage 0 = .ok (.aload_n 0, 1) := by decide +kernel
theorem dX6_isMessage_1 : decode cX6_isMessage 1 = .ok (.getfield 11, 3) := by decide +kernel
theorem dX6_isMessage_4 : decode cX6_isMessage 4 = .ok (.iconst 2, 1) := by decide +kernel
theorem dX6_isMessage_5 : decode cX6_isMessage 5 = .ok (.if_icmp .ne 7, 3) := by decide +kernel
theorem dX6_isMessage_8 : decode cX6_isMessage 8 = .ok (.iconst 1, 1) := by decide +kernel
theorem dX6_isMessage_9 : decode cX6_isMessage 9 = .ok (.goto 4, 3) := by decide +kernel
theorem dX6_isMessage_12 : decode cX6_isMessage 12 = .ok (.iconst 0, 1) := by decide +kernel
theorem dX6_isMessage_13 : decode cX6_isMessage 13 = .ok (.ireturn, 1) := by decide +kernel
theorem dX6_clear_0 : decode cX6_clear 0 = .ok (.aload_n 0, 1) := by decide +kernel
theorem dX6_clear_1 : decode cX6_clear 1 = .ok (.iconst 0, 1) := by decide +kernel
theorem dX6_clear_2 : decode cX6_clear 2 = .ok (.putfield 11, 3) := by decide +kernel
theorem dX6_clear_5 : decode cX6_clear 5 = .ok (.aload_n 0, 1) := by decide +kernel
theorem dX6_clear_6 : decode cX6_clear 6 = .ok (.iconst 0, 1) := by decide +kernel
theorem dX6_clear_7 : decode cX6_clear 7 = .ok (.putfield 18, 3) := by decide +kernel
theorem dX6_clear_10 : decode cX6_clear 10 = .ok (.return_, 1) := by decide +kernel
theorem dX6_holdRow_0 : decode cX6_holdRow 0 = .ok (.aload_n 0, 1) := by decide +kernel
theorem dX6_holdRow_1 : decode cX6_holdRow 1 = .ok (.iconst 1, 1) := by decide +kernel
theorem dX6_holdRow_2 : decode cX6_holdRow 2 = .ok (.putfield 11, 3) := by decide +kernel
theorem dX6_holdRow_5 : decode cX6_holdRow 5 = .ok (.aload_n 0, 1) := by decide +kernel
theorem dX6_holdRow_6 : decode cX6_holdRow 6 = .ok (.iload_n 1, 1) := by decide +kernel
theorem dX6_holdRow_7 : decode cX6_holdRow 7 = .ok (.putfield 15, 3) := by decide +kernel
theorem dX6_holdRow_10 : decode cX6_holdRow 10 = .ok (.aload_n 0, 1) := by decide +kernel
theorem dX6_holdRow_11 : decode cX6_holdRow 11 = .ok (.iload_n 2, 1) := by decide +kernel
theorem dX6_holdRow_12 : decode cX6_holdRow 12 = .ok (.putfield 18, 3) := by decide +kernel
theorem dX6_holdRow_15 : decode cX6_holdRow 15 = .ok (.aload_n 0, 1) := by decide +kernel
theorem dX6_holdRow_16 : decode cX6_holdRow 16 = .ok (.getfield 21, 3) := by decide +kernel
theorem dX6_holdRow_19 : decode cX6_holdRow 19 = .ok (.lconst 0, 1) := by decide +kernel
theorem dX6_holdRow_20 : decode cX6_holdRow 20 = .ok (.invokestatic 37, 3) := by decide +kernel
theorem dX6_holdRow_23 : decode cX6_holdRow 23 = .ok (.return_, 1) := by decide +kernel
theorem dX6_holdMessage_0 : decode cX6_holdMessage 0 = .ok (.aload_n 0, 1) := by decide +kernel
theorem dX6_holdMessage_1 : decode cX6_holdMessage 1 = .ok (.invokevirtual 43, 3) := by decide +kernel
theorem dX6_holdMessage_4 : decode cX6_holdMessage 4 = .ok (.aload_n 0, 1) := by decide +kernel
theorem dX6_holdMessage_5 : decode cX6_holdMessage 5 = .ok (.iconst 2, 1) := by decide +kernel
theorem dX6_holdMessage_6 : decode cX6_holdMessage 6 = .ok (.putfield 11, 3) := by decide +kernel
theorem dX6_holdMessage_9 : decode cX6_holdMessage 9 = .ok (.aload_n 0, 1) := by decide +kernel
theorem dX6_holdMessage_10 : decode cX6_holdMessage 10 = .ok (.iload_n 1, 1) := by decide +kernel
theorem dX6_holdMessage_11 : decode cX6_holdMessage 11 = .ok (.putfield 25, 3) := by decide +kernel
theorem dX6_holdMessage_14 : decode cX6_holdMessage 14 = .ok (.aload_n 0, 1) := by decide +kernel
theorem dX6_holdMessage_15 : decode cX6_holdMessage 15 = .ok (.iload_n 2, 1) := by decide +kernel
theorem dX6_holdMessage_16 : decode cX6_holdMessage 16 = .ok (.putfield 28, 3) := by decide +kernel
theorem dX6_holdMessage_19 : decode cX6_holdMessage 19 = .ok (.aload_n 0, 1) := by decide +kernel
theorem dX6_holdMessage_20 : decode cX6_holdMessage 20 = .ok (.iload_n 3, 1) := by decide +kernel
theorem dX6_holdMessage_21 : decode cX6_holdMessage 21 = .ok (.putfield 31, 3) := by decide +kernel
theorem dX6_holdMessage_24 : decode cX6_holdMessage 24 = .ok (.aload_n 0, 1) := by decide +kernel
theorem dX6_holdMessage_25 : decode cX6_holdMessage 25 = .ok (.iload 4, 2) := by decide +kernel
theorem dX6_holdMessage_27 : decode cX6_holdMessage 27 = .ok (.putfield 34, 3) := by decide +kernel
theorem dX6_holdMessage_30 : decode cX6_holdMessage 30 = .ok (.return_, 1) := by decide +kernel
theorem dX6_has_0 : decode cX6_has 0 = .ok (.iload_n 1, 1) := by decide +kernel
theorem dX6_has_1 : decode cX6_has 1 = .ok (.ifCond .lt 15, 3) := by decide +kernel
theorem dX6_has_4 : decode cX6_has 4 = .ok (.iload_n 1, 1) := by decide +kernel
theorem dX6_has_5 : decode cX6_has 5 = .ok (.aload_n 0, 1) := by decide +kernel
theorem dX6_has_6 : decode cX6_has 6 = .ok (.getfield 18, 3) := by decide +kernel
theorem dX6_has_9 : decode cX6_has 9 = .ok (.if_icmp .ge 7, 3) := by decide +kernel
theorem dX6_has_12 : decode cX6_has 12 = .ok (.iconst 1, 1) := by decide +kernel
theorem dX6_has_13 : decode cX6_has 13 = .ok (.goto 4, 3) := by decide +kernel
theorem dX6_has_16 : decode cX6_has 16 = .ok (.iconst 0, 1) := by decide +kernel
theorem dX6_has_17 : decode cX6_has 17 = .ok (.ireturn, 1) := by decide +kernel
theorem dX6_hasStretch_0 : decode cX6_hasStretch 0 = .ok (.iload_n 1, 1) := by decide +kernel
theorem dX6_hasStretch_1 : decode cX6_hasStretch 1 = .ok (.ifCond .lt 21, 3) := by decide +kernel
theorem dX6_hasStretch_4 : decode cX6_hasStretch 4 = .ok (.iload_n 1, 1) := by decide +kernel
theorem dX6_hasStretch_5 : decode cX6_hasStretch 5 = .ok (.i2l, 1) := by decide +kernel
theorem dX6_hasStretch_6 : decode cX6_hasStretch 6 = .ok (.iload_n 2, 1) := by decide +kernel
theorem dX6_hasStretch_7 : decode cX6_hasStretch 7 = .ok (.i2l, 1) := by decide +kernel
theorem dX6_hasStretch_8 : decode cX6_hasStretch 8 = .ok (.ladd, 1) := by decide +kernel
theorem dX6_hasStretch_9 : decode cX6_hasStretch 9 = .ok (.aload_n 0, 1) := by decide +kernel
theorem dX6_hasStretch_10 : decode cX6_hasStretch 10 = .ok (.getfield 18, 3) := by decide +kernel
theorem dX6_hasStretch_13 : decode cX6_hasStretch 13 = .ok (.i2l, 1) := by decide +kernel
theorem dX6_hasStretch_14 : decode cX6_hasStretch 14 = .ok (.lcmp, 1) := by decide +kernel
theorem dX6_hasStretch_15 : decode cX6_hasStretch 15 = .ok (.ifCond .gt 7, 3) := by decide +kernel
theorem dX6_hasStretch_18 : decode cX6_hasStretch 18 = .ok (.iconst 1, 1) := by decide +kernel
theorem dX6_hasStretch_19 : decode cX6_hasStretch 19 = .ok (.goto 4, 3) := by decide +kernel
theorem dX6_hasStretch_22 : decode cX6_hasStretch 22 = .ok (.iconst 0, 1) := by decide +kernel
theorem dX6_hasStretch_23 : decode cX6_hasStretch 23 = .ok (.ireturn, 1) := by decide +kernel
theorem dX6_keepAt_0 : decode cX6_keepAt 0 = .ok (.aload_n 0, 1) := by decide +kernel
theorem dX6_keepAt_1 : decode cX6_keepAt 1 = .ok (.iload_n 1, 1) := by decide +kernel
theorem dX6_keepAt_2 : decode cX6_keepAt 2 = .ok (.invokevirtual 46, 3) := by decide +kernel
theorem dX6_keepAt_5 : decode cX6_keepAt 5 = .ok (.ifCond .eq 14, 3) := by decide +kernel
theorem dX6_keepAt_8 : decode cX6_keepAt 8 = .ok (.aload_n 0, 1) := by decide +kernel
theorem dX6_keepAt_9 : decode cX6_keepAt 9 = .ok (.getfield 21, 3) := by decide +kernel
theorem dX6_keepAt_12 : decode cX6_keepAt 12 = .ok (.iload_n 1, 1) := by decide +kernel
theorem dX6_keepAt_13 : decode cX6_keepAt 13 = .ok (.aload_n 0, 1) := by decide +kernel
theorem dX6_keepAt_14 : decode cX6_keepAt 14 = .ok (.lload_n 2, 1) := by decide +kernel
theorem dX6_keepAt_15 : decode cX6_keepAt 15 = .ok (.invokevirtual 50, 3) := by decide +kernel
theorem dX6_keepAt_18 : decode cX6_keepAt 18 = .ok (.lastore, 1) := by decide +kernel
theorem dX6_keepAt_19 : decode cX6_keepAt 19 = .ok (.return_, 1) := by decide +kernel
theorem dX6_lowestBits_0 : decode cX6_lowestBits 0 = .ok (.aload_n 0, 1) := by decide +kernel
theorem dX6_lowestBits_1 : decode cX6_lowestBits 1 = .ok (.getfield 15, 3) := by decide +kernel
theorem dX6_lowestBits_4 : decode cX6_lowestBits 4 = .ok (.tableswitch 42 0 2 #[28, 33, 38], 28) := by decide +kernel
theorem dX6_lowestBits_32 : decode cX6_lowestBits 32 = .ok (.lload_n 1, 1) := by decide +kernel
theorem dX6_lowestBits_33 : decode cX6_lowestBits 33 = .ok (.l2i, 1) := by decide +kernel
theorem dX6_lowestBits_34 : decode cX6_lowestBits 34 = .ok (.i2b, 1) := by decide +kernel
theorem dX6_lowestBits_35 : decode cX6_lowestBits 35 = .ok (.i2l, 1) := by decide +kernel
theorem dX6_lowestBits_36 : decode cX6_lowestBits 36 = .ok (.lreturn, 1) := by decide +kernel
theorem dX6_lowestBits_37 : decode cX6_lowestBits 37 = .ok (.lload_n 1, 1) := by decide +kernel
theorem dX6_lowestBits_38 : decode cX6_lowestBits 38 = .ok (.l2i, 1) := by decide +kernel
theorem dX6_lowestBits_39 : decode cX6_lowestBits 39 = .ok (.i2s, 1) := by decide +kernel
theorem dX6_lowestBits_40 : decode cX6_lowestBits 40 = .ok (.i2l, 1) := by decide +kernel
theorem dX6_lowestBits_41 : decode cX6_lowestBits 41 = .ok (.lreturn, 1) := by decide +kernel
theorem dX6_lowestBits_42 : decode cX6_lowestBits 42 = .ok (.lload_n 1, 1) := by decide +kernel
theorem dX6_lowestBits_43 : decode cX6_lowestBits 43 = .ok (.l2i, 1) := by decide +kernel
theorem dX6_lowestBits_44 : decode cX6_lowestBits 44 = .ok (.i2l, 1) := by decide +kernel
theorem dX6_lowestBits_45 : decode cX6_lowestBits 45 = .ok (.lreturn, 1) := by decide +kernel
theorem dX6_lowestBits_46 : decode cX6_lowestBits 46 = .ok (.lload_n 1, 1) := by decide +kernel
theorem dX6_lowestBits_47 : decode cX6_lowestBits 47 = .ok (.lreturn, 1) := by decide +kernel
theorem dX6_letter_0 : decode cX6_letter 0 = .ok (.iload_n 1, 1) := by decide +kernel
theorem dX6_letter_1 : decode cX6_letter 1 = .ok (.ifCond .lt 21, 3) := by decide +kernel
theorem dX6_letter_4 : decode cX6_letter 4 = .ok (.iload_n 1, 1) := by decide +kernel
theorem dX6_letter_5 : decode cX6_letter 5 = .ok (.aload_n 0, 1) := by decide +kernel
theorem dX6_letter_6 : decode cX6_letter 6 = .ok (.getfield 18, 3) := by decide +kernel
theorem dX6_letter_9 : decode cX6_letter 9 = .ok (.if_icmp .ge 13, 3) := by decide +kernel
theorem dX6_letter_12 : decode cX6_letter 12 = .ok (.aload_n 0, 1) := by decide +kernel
theorem dX6_letter_13 : decode cX6_letter 13 = .ok (.getfield 21, 3) := by decide +kernel
theorem dX6_letter_16 : decode cX6_letter 16 = .ok (.iload_n 1, 1) := by decide +kernel
theorem dX6_letter_17 : decode cX6_letter 17 = .ok (.laload, 1) := by decide +kernel
theorem dX6_letter_18 : decode cX6_letter 18 = .ok (.l2i, 1) := by decide +kernel
theorem dX6_letter_19 : decode cX6_letter 19 = .ok (.goto 4, 3) := by decide +kernel
theorem dX6_letter_22 : decode cX6_letter 22 = .ok (.iconst 0, 1) := by decide +kernel
theorem dX6_letter_23 : decode cX6_letter 23 = .ok (.ireturn, 1) := by decide +kernel
theorem dX6_isOfSort_0 : decode cX6_isOfSort 0 = .ok (.iload_n 1, 1) := by decide +kernel
theorem dX6_isOfSort_1 : decode cX6_isOfSort 1 = .ok (.tableswitch 105 1 3 #[27, 66, 90], 27) := by decide +kernel
theorem dX6_isOfSort_28 : decode cX6_isOfSort 28 = .ok (.aload_n 0, 1) := by decide +kernel
theorem dX6_isOfSort_29 : decode cX6_isOfSort 29 = .ok (.getfield 25, 3) := by decide +kernel
theorem dX6_isOfSort_32 : decode cX6_isOfSort 32 = .ok (.iconst 2, 1) := by decide +kernel
theorem dX6_isOfSort_33 : decode cX6_isOfSort 33 = .ok (.if_icmp .eq 28, 3) := by decide +kernel
theorem dX6_isOfSort_36 : decode cX6_isOfSort 36 = .ok (.aload_n 0, 1) := by decide +kernel
theorem dX6_isOfSort_37 : decode cX6_isOfSort 37 = .ok (.getfield 25, 3) := by decide +kernel
theorem dX6_isOfSort_40 : decode cX6_isOfSort 40 = .ok (.iconst 3, 1) := by decide +kernel
theorem dX6_isOfSort_41 : decode cX6_isOfSort 41 = .ok (.if_icmp .eq 20, 3) := by decide +kernel
theorem dX6_isOfSort_44 : decode cX6_isOfSort 44 = .ok (.aload_n 0, 1) := by decide +kernel
theorem dX6_isOfSort_45 : decode cX6_isOfSort 45 = .ok (.getfield 25, 3) := by decide +kernel
theorem dX6_isOfSort_48 : decode cX6_isOfSort 48 = .ok (.iconst 5, 1) := by decide +kernel
theorem dX6_isOfSort_49 : decode cX6_isOfSort 49 = .ok (.if_icmp .eq 12, 3) := by decide +kernel
theorem dX6_isOfSort_52 : decode cX6_isOfSort 52 = .ok (.aload_n 0, 1) := by decide +kernel
theorem dX6_isOfSort_53 : decode cX6_isOfSort 53 = .ok (.getfield 25, 3) := by decide +kernel
theorem dX6_isOfSort_56 : decode cX6_isOfSort 56 = .ok (.bipush 8, 2) := by decide +kernel
theorem dX6_isOfSort_58 : decode cX6_isOfSort 58 = .ok (.if_icmp .ne 7, 3) := by decide +kernel
theorem dX6_isOfSort_61 : decode cX6_isOfSort 61 = .ok (.iconst 1, 1) := by decide +kernel
theorem dX6_isOfSort_62 : decode cX6_isOfSort 62 = .ok (.goto 4, 3) := by decide +kernel
theorem dX6_isOfSort_65 : decode cX6_isOfSort 65 = .ok (.iconst 0, 1) := by decide +kernel
theorem dX6_isOfSort_66 : decode cX6_isOfSort 66 = .ok (.ireturn, 1) := by decide +kernel
theorem dX6_isOfSort_67 : decode cX6_isOfSort 67 = .ok (.aload_n 0, 1) := by decide +kernel
theorem dX6_isOfSort_68 : decode cX6_isOfSort 68 = .ok (.getfield 25, 3) := by decide +kernel
theorem dX6_isOfSort_71 : decode cX6_isOfSort 71 = .ok (.bipush 6, 2) := by decide +kernel
theorem dX6_isOfSort_73 : decode cX6_isOfSort 73 = .ok (.if_icmp .eq 12, 3) := by decide +kernel
theorem dX6_isOfSort_76 : decode cX6_isOfSort 76 = .ok (.aload_n 0, 1) := by decide +kernel
theorem dX6_isOfSort_77 : decode cX6_isOfSort 77 = .ok (.getfield 25, 3) := by decide +kernel
theorem dX6_isOfSort_80 : decode cX6_isOfSort 80 = .ok (.bipush 7, 2) := by decide +kernel
theorem dX6_isOfSort_82 : decode cX6_isOfSort 82 = .ok (.if_icmp .ne 7, 3) := by decide +kernel
theorem dX6_isOfSort_85 : decode cX6_isOfSort 85 = .ok (.iconst 1, 1) := by decide +kernel
theorem dX6_isOfSort_86 : decode cX6_isOfSort 86 = .ok (.goto 4, 3) := by decide +kernel
theorem dX6_isOfSort_89 : decode cX6_isOfSort 89 = .ok (.iconst 0, 1) := by decide +kernel
theorem dX6_isOfSort_90 : decode cX6_isOfSort 90 = .ok (.ireturn, 1) := by decide +kernel
theorem dX6_isOfSort_91 : decode cX6_isOfSort 91 = .ok (.aload_n 0, 1) := by decide +kernel
theorem dX6_isOfSort_92 : decode cX6_isOfSort 92 = .ok (.getfield 25, 3) := by decide +kernel
theorem dX6_isOfSort_95 : decode cX6_isOfSort 95 = .ok (.bipush 9, 2) := by decide +kernel
theorem dX6_isOfSort_97 : decode cX6_isOfSort 97 = .ok (.if_icmp .ne 7, 3) := by decide +kernel
theorem dX6_isOfSort_100 : decode cX6_isOfSort 100 = .ok (.iconst 1, 1) := by decide +kernel
theorem dX6_isOfSort_101 : decode cX6_isOfSort 101 = .ok (.goto 4, 3) := by decide +kernel
theorem dX6_isOfSort_104 : decode cX6_isOfSort 104 = .ok (.iconst 0, 1) := by decide +kernel
theorem dX6_isOfSort_105 : decode cX6_isOfSort 105 = .ok (.ireturn, 1) := by decide +kernel
theorem dX6_isOfSort_106 : decode cX6_isOfSort 106 = .ok (.iconst 1, 1) := by decide +kernel
theorem dX6_isOfSort_107 : decode cX6_isOfSort 107 = .ok (.ireturn, 1) := by decide +kernel
theorem dX6_saysAs_0 : decode cX6_saysAs 0 = .ok (.iload_n 1, 1) := by decide +kernel
theorem dX6_saysAs_1 : decode cX6_saysAs 1 = .ok (.tableswitch 61 1 3 #[27, 41, 56], 27) := by decide +kernel
theorem dX6_saysAs_28 : decode cX6_saysAs 28 = .ok (.aload_n 0, 1) := by decide +kernel
theorem dX6_saysAs_29 : decode cX6_saysAs 29 = .ok (.getfield 25, 3) := by decide +kernel
theorem dX6_saysAs_32 : decode cX6_saysAs 32 = .ok (.iconst 2, 1) := by decide +kernel
theorem dX6_saysAs_33 : decode cX6_saysAs 33 = .ok (.if_icmp .ne 7, 3) := by decide +kernel
theorem dX6_saysAs_36 : decode cX6_saysAs 36 = .ok (.iconst 1, 1) := by decide +kernel
theorem dX6_saysAs_37 : decode cX6_saysAs 37 = .ok (.goto 4, 3) := by decide +kernel
theorem dX6_saysAs_40 : decode cX6_saysAs 40 = .ok (.iconst 0, 1) := by decide +kernel
theorem dX6_saysAs_41 : decode cX6_saysAs 41 = .ok (.ireturn, 1) := by decide +kernel
theorem dX6_saysAs_42 : decode cX6_saysAs 42 = .ok (.aload_n 0, 1) := by decide +kernel
theorem dX6_saysAs_43 : decode cX6_saysAs 43 = .ok (.getfield 25, 3) := by decide +kernel
theorem dX6_saysAs_46 : decode cX6_saysAs 46 = .ok (.bipush 6, 2) := by decide +kernel
theorem dX6_saysAs_48 : decode cX6_saysAs 48 = .ok (.if_icmp .ne 7, 3) := by decide +kernel
theorem dX6_saysAs_51 : decode cX6_saysAs 51 = .ok (.iconst 1, 1) := by decide +kernel
theorem dX6_saysAs_52 : decode cX6_saysAs 52 = .ok (.goto 4, 3) := by decide +kernel
theorem dX6_saysAs_55 : decode cX6_saysAs 55 = .ok (.iconst 2, 1) := by decide +kernel
theorem dX6_saysAs_56 : decode cX6_saysAs 56 = .ok (.ireturn, 1) := by decide +kernel
theorem dX6_saysAs_57 : decode cX6_saysAs 57 = .ok (.aload_n 0, 1) := by decide +kernel
theorem dX6_saysAs_58 : decode cX6_saysAs 58 = .ok (.getfield 34, 3) := by decide +kernel
theorem dX6_saysAs_61 : decode cX6_saysAs 61 = .ok (.ireturn, 1) := by decide +kernel
theorem dX6_saysAs_62 : decode cX6_saysAs 62 = .ok (.bipush 10, 2) := by decide +kernel
theorem dX6_saysAs_64 : decode cX6_saysAs 64 = .ok (.aload_n 0, 1) := by decide +kernel
theorem dX6_saysAs_65 : decode cX6_saysAs 65 = .ok (.getfield 28, 3) := by decide +kernel
theorem dX6_saysAs_68 : decode cX6_saysAs 68 = .ok (.imul, 1) := by decide +kernel
theorem dX6_saysAs_69 : decode cX6_saysAs 69 = .ok (.aload_n 0, 1) := by decide +kernel
theorem dX6_saysAs_70 : decode cX6_saysAs 70 = .ok (.getfield 31, 3) := by decide +kernel
theorem dX6_saysAs_73 : decode cX6_saysAs 73 = .ok (.iadd, 1) := by decide +kernel
theorem dX6_saysAs_74 : decode cX6_saysAs 74 = .ok (.ireturn, 1) := by decide +kernel
theorem dX7_init_0 : decode cX7_init 0 = .ok (.aload_n 0, 1) := by decide +kernel
theorem dX7_init_1 : decode cX7_init 1 = .ok (.invokespecial 3, 3) := by decide +kernel
theorem dX7_init_4 : decode cX7_init 4 = .ok (.aload_n 0, 1) := by decide +kernel
theorem dX7_init_5 : decode cX7_init 5 = .ok (.bipush 8, 2) := by decide +kernel
theorem dX7_init_7 : decode cX7_init 7 = .ok (.newarray .int, 2) := by decide +kernel
theorem dX7_init_9 : decode cX7_init 9 = .ok (.putfield 11, 3) := by decide +kernel
theorem dX7_init_12 : decode cX7_init 12 = .ok (.aload_n 0, 1) := by decide +kernel
theorem dX7_init_13 : decode cX7_init 13 = .ok (.iconst 0, 1) := by decide +kernel
theorem dX7_init_14 : decode cX7_init 14 = .ok (.putfield 15, 3) := by decide +kernel
theorem dX7_init_17 : decode cX7_init 17 = .ok (.aload_n 0, 1) := by decide +kernel
theorem dX7_init_18 : decode cX7_init 18 = .ok (.iconst 1, 1) := by decide +kernel
theorem dX7_init_19 : decode cX7_init 19 = .ok (.putfield 19, 3) := by decide +kernel
theorem dX7_init_22 : decode cX7_init 22 = .ok (.aload_n 0, 1) := by decide +kernel
theorem dX7_init_23 : decode cX7_init 23 = .ok (.iconst 0, 1) := by decide +kernel
theorem dX7_init_24 : decode cX7_init 24 = .ok (.putfield 23, 3) := by decide +kernel
theorem dX7_init_27 : decode cX7_init 27 = .ok (.aload_n 0, 1) := by decide +kernel
theorem dX7_init_28 : decode cX7_init 28 = .ok (.sipush 160, 3) := by decide +kernel
theorem dX7_init_31 : decode cX7_init 31 = .ok (.putfield 26, 3) := by decide +kernel
theorem dX7_init_34 : decode cX7_init 34 = .ok (.aload_n 0, 1) := by decide +kernel
theorem dX7_init_35 : decode cX7_init 35 = .ok (.iload_n 1, 1) := by decide +kernel
theorem dX7_init_36 : decode cX7_init 36 = .ok (.putfield 29, 3) := by decide +kernel
theorem dX7_init_39 : decode cX7_init 39 = .ok (.return_, 1) := by decide +kernel
theorem dX7_startAnew_0 : decode cX7_startAnew 0 = .ok (.aload_n 0, 1) := by decide +kernel
theorem dX7_startAnew_1 : decode cX7_startAnew 1 = .ok (.iconst 0, 1) := by decide +kernel
theorem dX7_startAnew_2 : decode cX7_startAnew 2 = .ok (.putfield 15, 3) := by decide +kernel
theorem dX7_startAnew_5 : decode cX7_startAnew 5 = .ok (.aload_n 0, 1) := by decide +kernel
theorem dX7_startAnew_6 : decode cX7_startAnew 6 = .ok (.iconst 1, 1) := by decide +kernel
theorem dX7_startAnew_7 : decode cX7_startAnew 7 = .ok (.putfield 19, 3) := by decide +kernel
theorem dX7_startAnew_10 : decode cX7_startAnew 10 = .ok (.aload_n 0, 1) := by decide +kernel
theorem dX7_startAnew_11 : decode cX7_startAnew 11 = .ok (.iconst 0, 1) := by decide +kernel
theorem dX7_startAnew_12 : decode cX7_startAnew 12 = .ok (.sipush 160, 3) := by decide +kernel
theorem dX7_startAnew_15 : decode cX7_startAnew 15 = .ok (.invokevirtual 32, 3) := by decide +kernel
theorem dX7_startAnew_18 : decode cX7_startAnew 18 = .ok (.return_, 1) := by decide +kernel
theorem dX7_enter_0 : decode cX7_enter 0 = .ok (.aload_n 0, 1) := by decide +kernel
theorem dX7_enter_1 : decode cX7_enter 1 = .ok (.iload_n 1, 1) := by decide +kernel
theorem dX7_enter_2 : decode cX7_enter 2 = .ok (.putfield 23, 3) := by decide +kernel
theorem dX7_enter_5 : decode cX7_enter 5 = .ok (.aload_n 0, 1) := by decide +kernel
theorem dX7_enter_6 : decode cX7_enter 6 = .ok (.iload_n 2, 1) := by decide +kernel
theorem dX7_enter_7 : decode cX7_enter 7 = .ok (.putfield 26, 3) := by decide +kernel
theorem dX7_enter_10 : decode cX7_enter 10 = .ok (.return_, 1) := by decide +kernel
theorem dX7_goAway_0 : decode cX7_goAway 0 = .ok (.aload_n 0, 1) := by decide +kernel
theorem dX7_goAway_1 : decode cX7_goAway 1 = .ok (.iconst 0, 1) := by decide +kernel
theorem dX7_goAway_2 : decode cX7_goAway 2 = .ok (.putfield 19, 3) := by decide +kernel
theorem dX7_goAway_5 : decode cX7_goAway 5 = .ok (.aload_n 0, 1) := by decide +kernel
theorem dX7_goAway_6 : decode cX7_goAway 6 = .ok (.iconst 0, 1) := by decide +kernel
theorem dX7_goAway_7 : decode cX7_goAway 7 = .ok (.sipush 160, 3) := by decide +kernel
theorem dX7_goAway_10 : decode cX7_goAway 10 = .ok (.invokevirtual 32, 3) := by decide +kernel
theorem dX7_goAway_13 : decode cX7_goAway 13 = .ok (.return_, 1) := by decide +kernel
theorem dX7_note_0 : decode cX7_note 0 = .ok (.aload_n 0, 1) := by decide +kernel
theorem dX7_note_1 : decode cX7_note 1 = .ok (.getfield 15, 3) := by decide +kernel
theorem dX7_note_4 : decode cX7_note 4 = .ok (.bipush 8, 2) := by decide +kernel
theorem dX7_note_6 : decode cX7_note 6 = .ok (.if_icmp .ge 23, 3) := by decide +kernel
theorem dX7_note_9 : decode cX7_note 9 = .ok (.aload_n 0, 1) := by decide +kernel
theorem dX7_note_10 : decode cX7_note 10 = .ok (.getfield 11, 3) := by decide +kernel
theorem dX7_note_13 : decode cX7_note 13 = .ok (.aload_n 0, 1) := by decide +kernel
theorem dX7_note_14 : decode cX7_note 14 = .ok (.getfield 15, 3) := by decide +kernel
theorem dX7_note_17 : decode cX7_note 17 = .ok (.iload_n 1, 1) := by decide +kernel
theorem dX7_note_18 : decode cX7_note 18 = .ok (.iastore, 1) := by decide +kernel
theorem dX7_note_19 : decode cX7_note 19 = .ok (.aload_n 0, 1) := by decide +kernel
theorem dX7_note_20 : decode cX7_note 20 = .ok (.dup, 1) := by decide +kernel
theorem dX7_note_21 : decode cX7_note 21 = .ok (.getfield 15, 3) := by decide +kernel
theorem dX7_note_24 : decode cX7_note 24 = .ok (.iconst 1, 1) := by decide +kernel
theorem dX7_note_25 : decode cX7_note 25 = .ok (.iadd, 1) := by decide +kernel
theorem dX7_note_26 : decode cX7_note 26 = .ok (.putfield 15, 3) := by decide +kernel
theorem dX7_note_29 : decode cX7_note 29 = .ok (.return_, 1) := by decide +kernel
theorem dX7_lastRecord_0 : decode cX7_lastRecord 0 = .ok (.aload_n 0, 1) := by decide +kernel
theorem dX7_lastRecord_1 : decode cX7_lastRecord 1 = .ok (.getfield 15, 3) := by decide +kernel
theorem dX7_lastRecord_4 : decode cX7_lastRecord 4 = .ok (.ifCond .le 17, 3) := by decide +kernel
theorem dX7_lastRecord_7 : decode cX7_lastRecord 7 = .ok (.aload_n 0, 1) := by decide +kernel
theorem dX7_lastRecord_8 : decode cX7_lastRecord 8 = .ok (.getfield 11, 3) := by decide +kernel
theorem dX7_lastRecord_11 : decode cX7_lastRecord 11 = .ok (.aload_n 0, 1) := by decide +kernel
theorem dX7_lastRecord_12 : decode cX7_lastRecord 12 = .ok (.getfield 15, 3) := by decide +kernel
theorem dX7_lastRecord_15 : decode cX7_lastRecord 15 = .ok (.iconst 1, 1) := by decide +kernel
theorem dX7_lastRecord_16 : decode cX7_lastRecord 16 = .ok (.isub, 1) := by decide +kernel
theorem dX7_lastRecord_17 : decode cX7_lastRecord 17 = .ok (.iaload, 1) := by decide +kernel
theorem dX7_lastRecord_18 : decode cX7_lastRecord 18 = .ok (.goto 4, 3) := by decide +kernel
theorem dX7_lastRecord_21 : decode cX7_lastRecord 21 = .ok (.iconst 0, 1) := by decide +kernel
theorem dX7_lastRecord_22 : decode cX7_lastRecord 22 = .ok (.ireturn, 1) := by decide +kernel
theorem dX7_hasNoted_0 : decode cX7_hasNoted 0 = .ok (.iconst 0, 1) := by decide +kernel
theorem dX7_hasNoted_1 : decode cX7_hasNoted 1 = .ok (.istore_n 3, 1) := by decide +kernel
theorem dX7_hasNoted_2 : decode cX7_hasNoted 2 = .ok (.iload_n 3, 1) := by decide +kernel
theorem dX7_hasNoted_3 : decode cX7_hasNoted 3 = .ok (.iload_n 2, 1) := by decide +kernel
theorem dX7_hasNoted_4 : decode cX7_hasNoted 4 = .ok (.if_icmp .ge 27, 3) := by decide +kernel
theorem dX7_hasNoted_7 : decode cX7_hasNoted 7 = .ok (.iload_n 3, 1) := by decide +kernel
theorem dX7_hasNoted_8 : decode cX7_hasNoted 8 = .ok (.bipush 8, 2) := by decide +kernel
theorem dX7_hasNoted_10 : decode cX7_hasNoted 10 = .ok (.if_icmp .ge 21, 3) := by decide +kernel
theorem dX7_hasNoted_13 : decode cX7_hasNoted 13 = .ok (.aload_n 0, 1) := by decide +kernel
theorem dX7_hasNoted_14 : decode cX7_hasNoted 14 = .ok (.getfield 11, 3) := by decide +kernel
theorem dX7_hasNoted_17 : decode cX7_hasNoted 17 = .ok (.iload_n 3, 1) := by decide +kernel
theorem dX7_hasNoted_18 : decode cX7_hasNoted 18 = .ok (.iaload, 1) := by decide +kernel
theorem dX7_hasNoted_19 : decode cX7_hasNoted 19 = .ok (.iload_n 1, 1) := by decide +kernel
theorem dX7_hasNoted_20 : decode cX7_hasNoted 20 = .ok (.if_icmp .ne 5, 3) := by decide +kernel
theorem dX7_hasNoted_23 : decode cX7_hasNoted 23 = .ok (.iconst 1, 1) := by decide +kernel
theorem dX7_hasNoted_24 : decode cX7_hasNoted 24 = .ok (.ireturn, 1) := by decide +kernel
theorem dX7_hasNoted_25 : decode cX7_hasNoted 25 = .ok (.iinc 3 1, 3) := by decide +kernel
theorem dX7_hasNoted_28 : decode cX7_hasNoted 28 = .ok (.goto (-26), 3) := by decide +kernel
theorem dX7_hasNoted_31 : decode cX7_hasNoted 31 = .ok (.iconst 0, 1) := by decide +kernel
theorem dX7_hasNoted_32 : decode cX7_hasNoted 32 = .ok (.ireturn, 1) := by decide +kernel
theorem dX8_init_0 : decode cX8_init 0 = .ok (.aload_n 0, 1) := by decide +kernel
theorem dX8_init_1 : decode cX8_init 1 = .ok (.invokespecial 3, 3) := by decide +kernel
theorem dX8_init_4 : decode cX8_init 4 = .ok (.aload_n 0, 1) := by decide +kernel
theorem dX8_init_5 : decode cX8_init 5 = .ok (.new 9, 3) := by decide +kernel
theorem dX8_init_8 : decode cX8_init 8 = .ok (.dup, 1) := by decide +kernel
theorem dX8_init_9 : decode cX8_init 9 = .ok (.invokespecial 11, 3) := by decide +kernel
theorem dX8_init_12 : decode cX8_init 12 = .ok (.putfield 12, 3) := by decide +kernel
theorem dX8_init_15 : decode cX8_init 15 = .ok (.aload_n 0, 1) := by decide +kernel
theorem dX8_init_16 : decode cX8_init 16 = .ok (.iconst (-1), 1) := by decide +kernel
theorem dX8_init_17 : decode cX8_init 17 = .ok (.putfield 18, 3) := by decide +kernel
theorem dX8_init_20 : decode cX8_init 20 = .ok (.aload_n 0, 1) := by decide +kernel
theorem dX8_init_21 : decode cX8_init 21 = .ok (.iconst 0, 1) := by decide +kernel
theorem dX8_init_22 : decode cX8_init 22 = .ok (.putfield 22, 3) := by decide +kernel
theorem dX8_init_25 : decode cX8_init 25 = .ok (.aload_n 0, 1) := by decide +kernel
theorem dX8_init_26 : decode cX8_init 26 = .ok (.iconst 3, 1) := by decide +kernel
theorem dX8_init_27 : decode cX8_init 27 = .ok (.newarray .int, 2) := by decide +kernel
theorem dX8_init_29 : decode cX8_init 29 = .ok (.putfield 25, 3) := by decide +kernel
theorem dX8_init_32 : decode cX8_init 32 = .ok (.return_, 1) := by decide +kernel
theorem dX8_readItems_0 : decode cX8_readItems 0 = .ok (.aload_n 0, 1) := by decide +kernel
theorem dX8_readItems_1 : decode cX8_readItems 1 = .ok (.iconst (-1), 1) := by decide +kernel
theorem dX8_readItems_2 : decode cX8_readItems 2 = .ok (.putfield 18, 3) := by decide +kernel
theorem dX8_readItems_5 : decode cX8_readItems 5 = .ok (.aload_n 0, 1) := by decide +kernel
theorem dX8_readItems_6 : decode cX8_readItems 6 = .ok (.iconst 0, 1) := by decide +kernel
theorem dX8_readItems_7 : decode cX8_readItems 7 = .ok (.putfield 22, 3) := by decide +kernel
theorem dX8_readItems_10 : decode cX8_readItems 10 = .ok (.iconst 1, 1) := by decide +kernel
theorem dX8_readItems_11 : decode cX8_readItems 11 = .ok (.istore_n 2, 1) := by decide +kernel
theorem dX8_readItems_12 : decode cX8_readItems 12 = .ok (.iload_n 2, 1) := by decide +kernel
theorem dX8_readItems_13 : decode cX8_readItems 13 = .ok (.aload_n 1, 1) := by decide +kernel
theorem dX8_readItems_14 : decode cX8_readItems 14 = .ok (.getfield 29, 3) := by decide +kernel
theorem dX8_readItems_17 : decode cX8_readItems 17 = .ok (.iconst 1, 1) := by decide +kernel
theorem dX8_readItems_18 : decode cX8_readItems 18 = .ok (.iadd, 1) := by decide +kernel
theorem dX8_readItems_19 : decode cX8_readItems 19 = .ok (.if_icmp .gt 44, 3) := by decide +kernel
theorem dX8_readItems_22 : decode cX8_readItems 22 = .ok (.aload_n 0, 1) := by decide +kernel
theorem dX8_readItems_23 : decode cX8_readItems 23 = .ok (.aload_n 1, 1) := by decide +kernel
theorem dX8_readItems_24 : decode cX8_readItems 24 = .ok (.invokevirtual 34, 3) := by decide +kernel
theorem dX8_readItems_27 : decode cX8_readItems 27 = .ok (.ifCond .ne 5, 3) := by decide +kernel
theorem dX8_readItems_30 : decode cX8_readItems 30 = .ok (.iconst (-1), 1) := by decide +kernel
theorem dX8_readItems_31 : decode cX8_readItems 31 = .ok (.ireturn, 1) := by decide +kernel
theorem dX8_readItems_32 : decode cX8_readItems 32 = .ok (.aload_n 0, 1) := by decide +kernel
theorem dX8_readItems_33 : decode cX8_readItems 33 = .ok (.getfield 22, 3) := by decide +kernel
theorem dX8_readItems_36 : decode cX8_readItems 36 = .ok (.aload_n 1, 1) := by decide +kernel
theorem dX8_readItems_37 : decode cX8_readItems 37 = .ok (.getfield 29, 3) := by decide +kernel
theorem dX8_readItems_40 : decode cX8_readItems 40 = .ok (.if_icmp .ne 5, 3) := by decide +kernel
theorem dX8_readItems_43 : decode cX8_readItems 43 = .ok (.iload_n 2, 1) := by decide +kernel
theorem dX8_readItems_44 : decode cX8_readItems 44 = .ok (.ireturn, 1) := by decide +kernel
theorem dX8_readItems_45 : decode cX8_readItems 45 = .ok (.aload_n 0, 1) := by decide +kernel
theorem dX8_readItems_46 : decode cX8_readItems 46 = .ok (.aload_n 1, 1) := by decide +kernel
theorem dX8_readItems_47 : decode cX8_readItems 47 = .ok (.bipush 59, 2) := by decide +kernel
theorem dX8_readItems_49 : decode cX8_readItems 49 = .ok (.invokevirtual 38, 3) := by decide +kernel
theorem dX8_readItems_52 : decode cX8_readItems 52 = .ok (.ifCond .ne 5, 3) := by decide +kernel
theorem dX8_readItems_55 : decode cX8_readItems 55 = .ok (.iconst (-1), 1) := by decide +kernel
theorem dX8_readItems_56 : decode cX8_readItems 56 = .ok (.ireturn, 1) := by decide +kernel
theorem dX8_readItems_57 : decode cX8_readItems 57 = .ok (.iinc 2 1, 3) := by decide +kernel
theorem dX8_readItems_60 : decode cX8_readItems 60 = .ok (.goto (-48), 3) := by decide +kernel
theorem dX8_readItems_63 : decode cX8_readItems 63 = .ok (.iconst (-1), 1) := by decide +kernel
theorem dX8_readItems_64 : decode cX8_readItems 64 = .ok (.ireturn, 1) := by decide +kernel
theorem dX8_readItem_0 : decode cX8_readItem 0 = .ok (.aload_n 0, 1) := by decide +kernel
theorem dX8_readItem_1 : decode cX8_readItem 1 = .ok (.aload_n 1, 1) := by decide +kernel
theorem dX8_readItem_2 : decode cX8_readItem 2 = .ok (.invokevirtual 42, 3) := by decide +kernel
theorem dX8_readItem_5 : decode cX8_readItem 5 = .ok (.astore_n 2, 1) := by decide +kernel
theorem dX8_readItem_6 : decode cX8_readItem 6 = .ok (.aload_n 2, 1) := by decide +kernel
theorem dX8_readItem_7 : decode cX8_readItem 7 = .ok (.ifnonnull 5, 3) := by decide +kernel
theorem dX8_readItem_10 : decode cX8_readItem 10 = .ok (.iconst 0, 1) := by decide +kernel
theorem dX8_readItem_11 : decode cX8_readItem 11 = .ok (.ireturn, 1) := by decide +kernel
theorem dX8_readItem_12 : decode cX8_readItem 12 = .ok (.iconst 0, 1) := by decide +kernel
theorem dX8_readItem_13 : decode cX8_readItem 13 = .ok (.istore_n 3, 1) := by decide +kernel
theorem dX8_readItem_14 : decode cX8_readItem 14 = .ok (.iload_n 3, 1) := by decide +kernel
theorem dX8_readItem_15 : decode cX8_readItem 15 = .ok (.aload_n 2, 1) := by decide +kernel
theorem dX8_readItem_16 : decode cX8_readItem 16 = .ok (.getfield 46, 3) := by decide +kernel
theorem dX8_readItem_19 : decode cX8_readItem 19 = .ok (.if_icmp .ge 42, 3) := by decide +kernel
theorem dX8_readItem_22 : decode cX8_readItem 22 = .ok (.aload_n 0, 1) := by decide +kernel
theorem dX8_readItem_23 : decode cX8_readItem 23 = .ok (.aload_n 1, 1) := by decide +kernel
theorem dX8_readItem_24 : decode cX8_readItem 24 = .ok (.bipush 32, 2) := by decide +kernel
theorem dX8_readItem_26 : decode cX8_readItem 26 = .ok (.invokevirtual 38, 3) := by decide +kernel
theorem dX8_readItem_29 : decode cX8_readItem 29 = .ok (.ifCond .eq 24, 3) := by decide +kernel
theorem dX8_readItem_32 : decode cX8_readItem 32 = .ok (.aload_n 0, 1) := by decide +kernel
theorem dX8_readItem_33 : decode cX8_readItem 33 = .ok (.aload_n 1, 1) := by decide +kernel
theorem dX8_readItem_34 : decode cX8_readItem 34 = .ok (.iload_n 3, 1) := by decide +kernel
theorem dX8_readItem_35 : decode cX8_readItem 35 = .ok (.aload_n 0, 1) := by decide +kernel
theorem dX8_readItem_36 : decode cX8_readItem 36 = .ok (.aload_n 2, 1) := by decide +kernel
theorem dX8_readItem_37 : decode cX8_readItem 37 = .ok (.iload_n 3, 1) := by decide +kernel
theorem dX8_readItem_38 : decode cX8_readItem 38 = .ok (.invokevirtual 50, 3) := by decide +kernel
theorem dX8_readItem_41 : decode cX8_readItem 41 = .ok (.aload_n 0, 1) := by decide +kernel
theorem dX8_readItem_42 : decode cX8_readItem 42 = .ok (.aload_n 2, 1) := by decide +kernel
theorem dX8_readItem_43 : decode cX8_readItem 43 = .ok (.iload_n 3, 1) := by decide +kernel
theorem dX8_readItem_44 : decode cX8_readItem 44 = .ok (.invokevirtual 54, 3) := by decide +kernel
theorem dX8_readItem_47 : decode cX8_readItem 47 = .ok (.invokevirtual 57, 3) := by decide +kernel
theorem dX8_readItem_50 : decode cX8_readItem 50 = .ok (.ifCond .ne 5, 3) := by decide +kernel
theorem dX8_readItem_53 : decode cX8_readItem 53 = .ok (.iconst 0, 1) := by decide +kernel
theorem dX8_readItem_54 : decode cX8_readItem 54 = .ok (.ireturn, 1) := by decide +kernel
theorem dX8_readItem_55 : decode cX8_readItem 55 = .ok (.iinc 3 1, 3) := by decide +kernel
theorem dX8_readItem_58 : decode cX8_readItem 58 = .ok (.goto (-44), 3) := by decide +kernel
theorem dX8_readItem_61 : decode cX8_readItem 61 = .ok (.aload_n 0, 1) := by decide +kernel
theorem dX8_readItem_62 : decode cX8_readItem 62 = .ok (.getfield 12, 3) := by decide +kernel
theorem dX8_readItem_65 : decode cX8_readItem 65 = .ok (.aload_n 2, 1) := by decide +kernel
theorem dX8_readItem_66 : decode cX8_readItem 66 = .ok (.aload_n 0, 1) := by decide +kernel
theorem dX8_readItem_67 : decode cX8_readItem 67 = .ok (.getfield 25, 3) := by decide +kernel
theorem dX8_readItem_70 : decode cX8_readItem 70 = .ok (.iconst 0, 1) := by decide +kernel
theorem dX8_readItem_71 : decode cX8_readItem 71 = .ok (.iaload, 1) := by decide +kernel
theorem dX8_readItem_72 : decode cX8_readItem 72 = .ok (.aload_n 0, 1) := by decide +kernel
theorem dX8_readItem_73 : decode cX8_readItem 73 = .ok (.getfield 25, 3) := by decide +kernel
theorem dX8_readItem_76 : decode cX8_readItem 76 = .ok (.iconst 1, 1) := by decide +kernel
theorem dX8_readItem_77 : decode cX8_readItem 77 = .ok (.iaload, 1) := by decide +kernel
theorem dX8_readItem_78 : decode cX8_readItem 78 = .ok (.aload_n 0, 1) := by decide +kernel
theorem dX8_readItem_79 : decode cX8_readItem 79 = .ok (.getfield 25, 3) := by decide +kernel
theorem dX8_readItem_82 : decode cX8_readItem 82 = .ok (.iconst 2, 1) := by decide +kernel
theorem dX8_readItem_83 : decode cX8_readItem 83 = .ok (.iaload, 1) := by decide +kernel
theorem dX8_readItem_84 : decode cX8_readItem 84 = .ok (.invokevirtual 61, 3) := by decide +kernel
theorem dX8_readItem_87 : decode cX8_readItem 87 = .ok (.iconst 1, 1) := by decide +kernel
theorem dX8_readItem_88 : decode cX8_readItem 88 = .ok (.ireturn, 1) := by decide +kernel
theorem dX8_lowest_0 : decode cX8_lowest 0 = .ok (.iload_n 2, 1) := by decide +kernel
theorem dX8_lowest_1 : decode cX8_lowest 1 = .ok (.ifCond .ne 8, 3) := by decide +kernel
theorem dX8_lowest_4 : decode cX8_lowest 4 = .ok (.aload_n 1, 1) := by decide +kernel
theorem dX8_lowest_5 : decode cX8_lowest 5 = .ok (.getfield 65, 3) := by decide +kernel
theorem dX8_lowest_8 : decode cX8_lowest 8 = .ok (.ireturn, 1) := by decide +kernel
theorem dX8_lowest_9 : decode cX8_lowest 9 = .ok (.iload_n 2, 1) := by decide +kernel
theorem dX8_lowest_10 : decode cX8_lowest 10 = .ok (.iconst 1, 1) := by decide +kernel
theorem dX8_lowest_11 : decode cX8_lowest 11 = .ok (.if_icmp .ne 7, 3) := by decide +kernel
theorem dX8_lowest_14 : decode cX8_lowest 14 = .ok (.iconst 0, 1) := by decide +kernel
theorem dX8_lowest_15 : decode cX8_lowest 15 = .ok (.goto 11, 3) := by decide +kernel
theorem dX8_lowest_18 : decode cX8_lowest 18 = .ok (.aload_n 0, 1) := by decide +kernel
theorem dX8_lowest_19 : decode cX8_lowest 19 = .ok (.getfield 25, 3) := by decide +kernel
theorem dX8_lowest_22 : decode cX8_lowest 22 = .ok (.iconst 1, 1) := by decide +kernel
theorem dX8_lowest_23 : decode cX8_lowest 23 = .ok (.iaload, 1) := by decide +kernel
theorem dX8_lowest_24 : decode cX8_lowest 24 = .ok (.iconst 1, 1) := by decide +kernel
theorem dX8_lowest_25 : decode cX8_lowest 25 = .ok (.iadd, 1) := by decide +kernel
theorem dX8_lowest_26 : decode cX8_lowest 26 = .ok (.ireturn, 1) := by decide +kernel
theorem dX8_highest_0 : decode cX8_highest 0 = .ok (.iload_n 2, 1) := by decide +kernel
theorem dX8_highest_1 : decode cX8_highest 1 = .ok (.ifCond .ne 10, 3) := by decide +kernel
theorem dX8_highest_4 : decode cX8_highest 4 = .ok (.aload_n 1, 1) := by decide +kernel
theorem dX8_highest_5 : decode cX8_highest 5 = .ok (.getfield 68, 3) := by decide +kernel
theorem dX8_highest_8 : decode cX8_highest 8 = .ok (.goto 5, 3) := by decide +kernel
theorem dX8_highest_11 : decode cX8_highest 11 = .ok (.bipush 60, 2) := by decide +kernel
theorem dX8_highest_13 : decode cX8_highest 13 = .ok (.ireturn, 1) := by decide +kernel
theorem dX8_readWord_0 : decode cX8_readWord 0 = .ok (.iconst 0, 1) := by decide +kernel
theorem dX8_readWord_1 : decode cX8_readWord 1 = .ok (.istore_n 2, 1) := by decide +kernel
theorem dX8_readWord_2 : decode cX8_readWord 2 = .ok (.getstatic 71, 3) := by decide +kernel
theorem dX8_readWord_5 : decode cX8_readWord 5 = .ok (.astore_n 3, 1) := by decide +kernel
theorem dX8_readWord_6 : decode cX8_readWord 6 = .ok (.aload_n 3, 1) := by decide +kernel
theorem dX8_readWord_7 : decode cX8_readWord 7 = .ok (.arraylength, 1) := by decide +kernel
theorem dX8_readWord_8 : decode cX8_readWord 8 = .ok (.istore 4, 2) := by decide +kernel
theorem dX8_readWord_10 : decode cX8_readWord 10 = .ok (.iconst 0, 1) := by decide +kernel
theorem dX8_readWord_11 : decode cX8_readWord 11 = .ok (.istore 5, 2) := by decide +kernel
theorem dX8_readWord_13 : decode cX8_readWord 13 = .ok (.iload 5, 2) := by decide +kernel
theorem dX8_readWord_15 : decode cX8_readWord 15 = .ok (.iload 4, 2) := by decide +kernel
theorem dX8_readWord_17 : decode cX8_readWord 17 = .ok (.if_icmp .ge 61, 3) := by decide +kernel
theorem dX8_readWord_20 : decode cX8_readWord 20 = .ok (.aload_n 3, 1) := by decide +kernel
theorem dX8_readWord_21 : decode cX8_readWord 21 = .ok (.iload 5, 2) := by decide +kernel
theorem dX8_readWord_23 : decode cX8_readWord 23 = .ok (.aaload, 1) := by decide +kernel
theorem dX8_readWord_24 : decode cX8_readWord 24 = .ok (.astore 6, 2) := by decide +kernel
theorem dX8_readWord_26 : decode cX8_readWord 26 = .ok (.aload_n 0, 1) := by decide +kernel
theorem dX8_readWord_27 : decode cX8_readWord 27 = .ok (.aload_n 1, 1) := by decide +kernel
theorem dX8_readWord_28 : decode cX8_readWord 28 = .ok (.aload 6, 2) := by decide +kernel
theorem dX8_readWord_30 : decode cX8_readWord 30 = .ok (.getfield 75, 3) := by decide +kernel
theorem dX8_readWord_33 : decode cX8_readWord 33 = .ok (.invokevirtual 79, 3) := by decide +kernel
theorem dX8_readWord_36 : decode cX8_readWord 36 = .ok (.istore 7, 2) := by decide +kernel
theorem dX8_readWord_38 : decode cX8_readWord 38 = .ok (.iload 7, 2) := by decide +kernel
theorem dX8_readWord_40 : decode cX8_readWord 40 = .ok (.aload 6, 2) := by decide +kernel
theorem dX8_readWord_42 : decode cX8_readWord 42 = .ok (.getfield 75, 3) := by decide +kernel
theorem dX8_readWord_45 : decode cX8_readWord 45 = .ok (.invokevirtual 83, 3) := by decide +kernel
theorem dX8_readWord_48 : decode cX8_readWord 48 = .ok (.if_icmp .ne 17, 3) := by decide +kernel
theorem dX8_readWord_51 : decode cX8_readWord 51 = .ok (.aload_n 0, 1) := by decide +kernel
theorem dX8_readWord_52 : decode cX8_readWord 52 = .ok (.dup, 1) := by decide +kernel
theorem dX8_readWord_53 : decode cX8_readWord 53 = .ok (.getfield 22, 3) := by decide +kernel
theorem dX8_readWord_56 : decode cX8_readWord 56 = .ok (.iload 7, 2) := by decide +kernel
theorem dX8_readWord_58 : decode cX8_readWord 58 = .ok (.iadd, 1) := by decide +kernel
theorem dX8_readWord_59 : decode cX8_readWord 59 = .ok (.putfield 22, 3) := by decide +kernel
theorem dX8_readWord_62 : decode cX8_readWord 62 = .ok (.aload 6, 2) := by decide +kernel
theorem dX8_readWord_64 : decode cX8_readWord 64 = .ok (.areturn, 1) := by decide +kernel
theorem dX8_readWord_65 : decode cX8_readWord 65 = .ok (.iload_n 2, 1) := by decide +kernel
theorem dX8_readWord_66 : decode cX8_readWord 66 = .ok (.iload 7, 2) := by decide +kernel
theorem dX8_readWord_68 : decode cX8_readWord 68 = .ok (.invokestatic 89, 3) := by decide +kernel
theorem dX8_readWord_71 : decode cX8_readWord 71 = .ok (.istore_n 2, 1) := by decide +kernel
theorem dX8_readWord_72 : decode cX8_readWord 72 = .ok (.iinc 5 1, 3) := by decide +kernel
theorem dX8_readWord_75 : decode cX8_readWord 75 = .ok (.goto (-62), 3) := by decide +kernel
theorem dX8_readWord_78 : decode cX8_readWord 78 = .ok (.aload_n 0, 1) := by decide +kernel
theorem dX8_readWord_79 : decode cX8_readWord 79 = .ok (.aload_n 0, 1) := by decide +kernel
theorem dX8_readWord_80 : decode cX8_readWord 80 = .ok (.getfield 22, 3) := by decide +kernel
theorem dX8_readWord_83 : decode cX8_readWord 83 = .ok (.iload_n 2, 1) := by decide +kernel
theorem dX8_readWord_84 : decode cX8_readWord 84 = .ok (.iadd, 1) := by decide +kernel
theorem dX8_readWord_85 : decode cX8_readWord 85 = .ok (.putfield 18, 3) := by decide +kernel
theorem dX8_readWord_88 : decode cX8_readWord 88 = .ok (.aconst_null, 1) := by decide +kernel
theorem dX8_readWord_89 : decode cX8_readWord 89 = .ok (.areturn, 1) := by decide +kernel
theorem dX8_sameLetters_0 : decode cX8_sameLetters 0 = .ok (.iconst 0, 1) := by decide +kernel
theorem dX8_sameLetters_1 : decode cX8_sameLetters 1 = .ok (.istore_n 3, 1) := by decide +kernel
theorem dX8_sameLetters_2 : decode cX8_sameLetters 2 = .ok (.iload_n 3, 1) := by decide +kernel
theorem dX8_sameLetters_3 : decode cX8_sameLetters 3 = .ok (.aload_n 2, 1) := by decide +kernel
theorem dX8_sameLetters_4 : decode cX8_sameLetters 4 = .ok (.invokevirtual 83, 3) := by decide +kernel
theorem dX8_sameLetters_7 : decode cX8_sameLetters 7 = .ok (.if_icmp .ge 28, 3) := by decide +kernel
theorem dX8_sameLetters_10 : decode cX8_sameLetters 10 = .ok (.aload_n 0, 1) := by decide +kernel
theorem dX8_sameLetters_11 : decode cX8_sameLetters 11 = .ok (.aload_n 1, 1) := by decide +kernel
theorem dX8_sameLetters_12 : decode cX8_sameLetters 12 = .ok (.aload_n 0, 1) := by decide +kernel
theorem dX8_sameLetters_13 : decode cX8_sameLetters 13 = .ok (.getfield 22, 3) := by decide +kernel
theorem dX8_sameLetters_16 : decode cX8_sameLetters 16 = .ok (.iload_n 3, 1) := by decide +kernel
theorem dX8_sameLetters_17 : decode cX8_sameLetters 17 = .ok (.iadd, 1) := by decide +kernel
theorem dX8_sameLetters_18 : decode cX8_sameLetters 18 = .ok (.aload_n 2, 1) := by decide +kernel
theorem dX8_sameLetters_19 : decode cX8_sameLetters 19 = .ok (.iload_n 3, 1) := by decide +kernel
theorem dX8_sameLetters_20 : decode cX8_sameLetters 20 = .ok (.invokevirtual 95, 3) := by decide +kernel
theorem dX8_sameLetters_23 : decode cX8_sameLetters 23 = .ok (.invokevirtual 99, 3) := by decide +kernel
theorem dX8_sameLetters_26 : decode cX8_sameLetters 26 = .ok (.ifCond .eq 9, 3) := by decide +kernel
theorem dX8_sameLetters_29 : decode cX8_sameLetters 29 = .ok (.iinc 3 1, 3) := by decide +kernel
theorem dX8_sameLetters_32 : decode cX8_sameLetters 32 = .ok (.goto (-30), 3) := by decide +kernel
theorem dX8_sameLetters_35 : decode cX8_sameLetters 35 = .ok (.iload_n 3, 1) := by decide +kernel
theorem dX8_sameLetters_36 : decode cX8_sameLetters 36 = .ok (.ireturn, 1) := by decide +kernel
theorem dX8_stands_0 : decode cX8_stands 0 = .ok (.aload_n 1, 1) := by decide +kernel
theorem dX8_stands_1 : decode cX8_stands 1 = .ok (.iload_n 2, 1) := by decide +kernel
theorem dX8_stands_2 : decode cX8_stands 2 = .ok (.invokevirtual 103, 3) := by decide +kernel
theorem dX8_stands_5 : decode cX8_stands 5 = .ok (.ifCond .eq 16, 3) := by decide +kernel
theorem dX8_stands_8 : decode cX8_stands 8 = .ok (.aload_n 1, 1) := by decide +kernel
theorem dX8_stands_9 : decode cX8_stands 9 = .ok (.iload_n 2, 1) := by decide +kernel
theorem dX8_stands_10 : decode cX8_stands 10 = .ok (.invokevirtual 107, 3) := by decide +kernel
theorem dX8_stands_13 : decode cX8_stands 13 = .ok (.iload_n 3, 1) := by decide +kernel
theorem dX8_stands_14 : decode cX8_stands 14 = .ok (.if_icmp .ne 7, 3) := by decide +kernel
theorem dX8_stands_17 : decode cX8_stands 17 = .ok (.iconst 1, 1) := by decide +kernel
theorem dX8_stands_18 : decode cX8_stands 18 = .ok (.goto 4, 3) := by decide +kernel
theorem dX8_stands_21 : decode cX8_stands 21 = .ok (.iconst 0, 1) := by decide +kernel
theorem dX8_stands_22 : decode cX8_stands 22 = .ok (.ireturn, 1) := by decide +kernel
theorem dX8_readSign_0 : decode cX8_readSign 0 = .ok (.aload_n 0, 1) := by decide +kernel
theorem dX8_readSign_1 : decode cX8_readSign 1 = .ok (.aload_n 1, 1) := by decide +kernel
theorem dX8_readSign_2 : decode cX8_readSign 2 = .ok (.aload_n 0, 1) := by decide +kernel
theorem dX8_readSign_3 : decode cX8_readSign 3 = .ok (.getfield 22, 3) := by decide +kernel
theorem dX8_readSign_6 : decode cX8_readSign 6 = .ok (.iload_n 2, 1) := by decide +kernel
theorem dX8_readSign_7 : decode cX8_readSign 7 = .ok (.invokevirtual 99, 3) := by decide +kernel
theorem dX8_readSign_10 : decode cX8_readSign 10 = .ok (.ifCond .ne 13, 3) := by decide +kernel
theorem dX8_readSign_13 : decode cX8_readSign 13 = .ok (.aload_n 0, 1) := by decide +kernel
theorem dX8_readSign_14 : decode cX8_readSign 14 = .ok (.aload_n 0, 1) := by decide +kernel
theorem dX8_readSign_15 : decode cX8_readSign 15 = .ok (.getfield 22, 3) := by decide +kernel
theorem dX8_readSign_18 : decode cX8_readSign 18 = .ok (.putfield 18, 3) := by decide +kernel
theorem dX8_readSign_21 : decode cX8_readSign 21 = .ok (.iconst 0, 1) := by decide +kernel
theorem dX8_readSign_22 : decode cX8_readSign 22 = .ok (.ireturn, 1) := by decide +kernel
theorem dX8_readSign_23 : decode cX8_readSign 23 = .ok (.aload_n 0, 1) := by decide +kernel
theorem dX8_readSign_24 : decode cX8_readSign 24 = .ok (.dup, 1) := by decide +kernel
theorem dX8_readSign_25 : decode cX8_readSign 25 = .ok (.getfield 22, 3) := by decide +kernel
theorem dX8_readSign_28 : decode cX8_readSign 28 = .ok (.iconst 1, 1) := by decide +kernel
theorem dX8_readSign_29 : decode cX8_readSign 29 = .ok (.iadd, 1) := by decide +kernel
theorem dX8_readSign_30 : decode cX8_readSign 30 = .ok (.putfield 22, 3) := by decide +kernel
theorem dX8_readSign_33 : decode cX8_readSign 33 = .ok (.iconst 1, 1) := by decide +kernel
theorem dX8_readSign_34 : decode cX8_readSign 34 = .ok (.ireturn, 1) := by decide +kernel
theorem dX8_readNumber_0 : decode cX8_readNumber 0 = .ok (.aload_n 0, 1) := by decide +kernel
theorem dX8_readNumber_1 : decode cX8_readNumber 1 = .ok (.getfield 22, 3) := by decide +kernel
theorem dX8_readNumber_4 : decode cX8_readNumber 4 = .ok (.istore 5, 2) := by decide +kernel
theorem dX8_readNumber_6 : decode cX8_readNumber 6 = .ok (.iconst 0, 1) := by decide +kernel
theorem dX8_readNumber_7 : decode cX8_readNumber 7 = .ok (.istore 6, 2) := by decide +kernel
theorem dX8_readNumber_9 : decode cX8_readNumber 9 = .ok (.aload_n 0, 1) := by decide +kernel
theorem dX8_readNumber_10 : decode cX8_readNumber 10 = .ok (.getfield 22, 3) := by decide +kernel
theorem dX8_readNumber_13 : decode cX8_readNumber 13 = .ok (.iload 5, 2) := by decide +kernel
theorem dX8_readNumber_15 : decode cX8_readNumber 15 = .ok (.iconst 2, 1) := by decide +kernel
theorem dX8_readNumber_16 : decode cX8_readNumber 16 = .ok (.iadd, 1) := by decide +kernel
theorem dX8_readNumber_17 : decode cX8_readNumber 17 = .ok (.if_icmp .ge 47, 3) := by decide +kernel
theorem dX8_readNumber_20 : decode cX8_readNumber 20 = .ok (.aload_n 0, 1) := by decide +kernel
theorem dX8_readNumber_21 : decode cX8_readNumber 21 = .ok (.aload_n 1, 1) := by decide +kernel
theorem dX8_readNumber_22 : decode cX8_readNumber 22 = .ok (.aload_n 0, 1) := by decide +kernel
theorem dX8_readNumber_23 : decode cX8_readNumber 23 = .ok (.getfield 22, 3) := by decide +kernel
theorem dX8_readNumber_26 : decode cX8_readNumber 26 = .ok (.invokevirtual 111, 3) := by decide +kernel
theorem dX8_readNumber_29 : decode cX8_readNumber 29 = .ok (.ifCond .eq 35, 3) := by decide +kernel
theorem dX8_readNumber_32 : decode cX8_readNumber 32 = .ok (.iload 6, 2) := by decide +kernel
theorem dX8_readNumber_34 : decode cX8_readNumber 34 = .ok (.bipush 10, 2) := by decide +kernel
theorem dX8_readNumber_36 : decode cX8_readNumber 36 = .ok (.imul, 1) := by decide +kernel
theorem dX8_readNumber_37 : decode cX8_readNumber 37 = .ok (.aload_n 1, 1) := by decide +kernel
theorem dX8_readNumber_38 : decode cX8_readNumber 38 = .ok (.aload_n 0, 1) := by decide +kernel
theorem dX8_readNumber_39 : decode cX8_readNumber 39 = .ok (.getfield 22, 3) := by decide +kernel
theorem dX8_readNumber_42 : decode cX8_readNumber 42 = .ok (.invokevirtual 107, 3) := by decide +kernel
theorem dX8_readNumber_45 : decode cX8_readNumber 45 = .ok (.iadd, 1) := by decide +kernel
theorem dX8_readNumber_46 : decode cX8_readNumber 46 = .ok (.bipush 48, 2) := by decide +kernel
theorem dX8_readNumber_48 : decode cX8_readNumber 48 = .ok (.isub, 1) := by decide +kernel
theorem dX8_readNumber_49 : decode cX8_readNumber 49 = .ok (.istore 6, 2) := by decide +kernel
theorem dX8_readNumber_51 : decode cX8_readNumber 51 = .ok (.aload_n 0, 1) := by decide +kernel
theorem dX8_readNumber_52 : decode cX8_readNumber 52 = .ok (.dup, 1) := by decide +kernel
theorem dX8_readNumber_53 : decode cX8_readNumber 53 = .ok (.getfield 22, 3) := by decide +kernel
theorem dX8_readNumber_56 : decode cX8_readNumber 56 = .ok (.iconst 1, 1) := by decide +kernel
theorem dX8_readNumber_57 : decode cX8_readNumber 57 = .ok (.iadd, 1) := by decide +kernel
theorem dX8_readNumber_58 : decode cX8_readNumber 58 = .ok (.putfield 22, 3) := by decide +kernel
theorem dX8_readNumber_61 : decode cX8_readNumber 61 = .ok (.goto (-52), 3) := by decide +kernel
theorem dX8_readNumber_64 : decode cX8_readNumber 64 = .ok (.aload_n 0, 1) := by decide +kernel
theorem dX8_readNumber_65 : decode cX8_readNumber 65 = .ok (.getfield 22, 3) := by decide +kernel
theorem dX8_readNumber_68 : decode cX8_readNumber 68 = .ok (.iload 5, 2) := by decide +kernel
theorem dX8_readNumber_70 : decode cX8_readNumber 70 = .ok (.if_icmp .eq 16, 3) := by decide +kernel
theorem dX8_readNumber_73 : decode cX8_readNumber 73 = .ok (.iload 6, 2) := by decide +kernel
theorem dX8_readNumber_75 : decode cX8_readNumber 75 = .ok (.iload_n 3, 1) := by decide +kernel
theorem dX8_readNumber_76 : decode cX8_readNumber 76 = .ok (.if_icmp .lt 10, 3) := by decide +kernel
theorem dX8_readNumber_79 : decode cX8_readNumber 79 = .ok (.iload 6, 2) := by decide +kernel
theorem dX8_readNumber_81 : decode cX8_readNumber 81 = .ok (.iload 4, 2) := by decide +kernel
theorem dX8_readNumber_83 : decode cX8_readNumber 83 = .ok (.if_icmp .le 11, 3) := by decide +kernel
theorem dX8_readNumber_86 : decode cX8_readNumber 86 = .ok (.aload_n 0, 1) := by decide +kernel
theorem dX8_readNumber_87 : decode cX8_readNumber 87 = .ok (.iload 5, 2) := by decide +kernel
theorem dX8_readNumber_89 : decode cX8_readNumber 89 = .ok (.putfield 18, 3) := by decide +kernel
theorem dX8_readNumber_92 : decode cX8_readNumber 92 = .ok (.iconst 0, 1) := by decide +kernel
theorem dX8_readNumber_93 : decode cX8_readNumber 93 = .ok (.ireturn, 1) := by decide +kernel
theorem dX8_readNumber_94 : decode cX8_readNumber 94 = .ok (.aload_n 0, 1) := by decide +kernel
theorem dX8_readNumber_95 : decode cX8_readNumber 95 = .ok (.getfield 25, 3) := by decide +kernel
theorem dX8_readNumber_98 : decode cX8_readNumber 98 = .ok (.iload_n 2, 1) := by decide +kernel
theorem dX8_readNumber_99 : decode cX8_readNumber 99 = .ok (.iload 6, 2) := by decide +kernel
theorem dX8_readNumber_101 : decode cX8_readNumber 101 = .ok (.iastore, 1) := by decide +kernel
theorem dX8_readNumber_102 : decode cX8_readNumber 102 = .ok (.iconst 1, 1) := by decide +kernel
theorem dX8_readNumber_103 : decode cX8_readNumber 103 = .ok (.ireturn, 1) := by decide +kernel
theorem dX8_isDigit_0 : decode cX8_isDigit 0 = .ok (.aload_n 1, 1) := by decide +kernel
theorem dX8_isDigit_1 : decode cX8_isDigit 1 = .ok (.iload_n 2, 1) := by decide +kernel
theorem dX8_isDigit_2 : decode cX8_isDigit 2 = .ok (.invokevirtual 103, 3) := by decide +kernel
theorem dX8_isDigit_5 : decode cX8_isDigit 5 = .ok (.ifCond .eq 27, 3) := by decide +kernel
theorem dX8_isDigit_8 : decode cX8_isDigit 8 = .ok (.aload_n 1, 1) := by decide +kernel
theorem dX8_isDigit_9 : decode cX8_isDigit 9 = .ok (.iload_n 2, 1) := by decide +kernel
theorem dX8_isDigit_10 : decode cX8_isDigit 10 = .ok (.invokevirtual 107, 3) := by decide +kernel
theorem dX8_isDigit_13 : decode cX8_isDigit 13 = .ok (.bipush 48, 2) := by decide +kernel
theorem dX8_isDigit_15 : decode cX8_isDigit 15 = .ok (.if_icmp .lt 17, 3) := by decide +kernel
theorem dX8_isDigit_18 : decode cX8_isDigit 18 = .ok (.aload_n 1, 1) := by decide +kernel
theorem dX8_isDigit_19 : decode cX8_isDigit 19 = .ok (.iload_n 2, 1) := by decide +kernel
theorem dX8_isDigit_20 : decode cX8_isDigit 20 = .ok (.invokevirtual 107, 3) := by decide +kernel
theorem dX8_isDigit_23 : decode cX8_isDigit 23 = .ok (.bipush 57, 2) := by decide +kernel
theorem dX8_isDigit_25 : decode cX8_isDigit 25 = .ok (.if_icmp .gt 7, 3) := by decide +kernel
theorem dX8_isDigit_28 : decode cX8_isDigit 28 = .ok (.iconst 1, 1) := by decide +kernel
theorem dX8_isDigit_29 : decode cX8_isDigit 29 = .ok (.goto 4, 3) := by decide +kernel
theorem dX8_isDigit_32 : decode cX8_isDigit 32 = .ok (.iconst 0, 1) := by decide +kernel
theorem dX8_isDigit_33 : decode cX8_isDigit 33 = .ok (.ireturn, 1) := by decide +kernel
theorem dX9_init_0 : decode cX9_init 0 = .ok (.aload_n 0, 1) := by decide +kernel
theorem dX9_init_1 : decode cX9_init 1 = .ok (.invokespecial 1, 3) := by decide +kernel
theorem dX9_init_4 : decode cX9_init 4 = .ok (.aload_n 0, 1) := by decide +kernel
theorem dX9_init_5 : decode cX9_init 5 = .ok (.bipush 8, 2) := by decide +kernel
theorem dX9_init_7 : decode cX9_init 7 = .ok (.anewarray 9, 3) := by decide +kernel
theorem dX9_init_10 : decode cX9_init 10 = .ok (.putfield 11, 3) := by decide +kernel
theorem dX9_init_13 : decode cX9_init 13 = .ok (.aload_n 0, 1) := by decide +kernel
theorem dX9_init_14 : decode cX9_init 14 = .ok (.bipush 8, 2) := by decide +kernel
theorem dX9_init_16 : decode cX9_init 16 = .ok (.newarray .int, 2) := by decide +kernel
theorem dX9_init_18 : decode cX9_init 18 = .ok (.putfield 15, 3) := by decide +kernel
theorem dX9_init_21 : decode cX9_init 21 = .ok (.aload_n 0, 1) := by decide +kernel
theorem dX9_init_22 : decode cX9_init 22 = .ok (.new 19, 3) := by decide +kernel
theorem dX9_init_25 : decode cX9_init 25 = .ok (.dup, 1) := by decide +kernel
theorem dX9_init_26 : decode cX9_init 26 = .ok (.invokespecial 21, 3) := by decide +kernel
theorem dX9_init_29 : decode cX9_init 29 = .ok (.putfield 22, 3) := by decide +kernel
theorem dX9_init_32 : decode cX9_init 32 = .ok (.aload_n 0, 1) := by decide +kernel
theorem dX9_init_33 : decode cX9_init 33 = .ok (.new 19, 3) := by decide +kernel
theorem dX9_init_36 : decode cX9_init 36 = .ok (.dup, 1) := by decide +kernel
theorem dX9_init_37 : decode cX9_init 37 = .ok (.invokespecial 21, 3) := by decide +kernel
theorem dX9_init_40 : decode cX9_init 40 = .ok (.putfield 26, 3) := by decide +kernel
theorem dX9_init_43 : decode cX9_init 43 = .ok (.aload_n 0, 1) := by decide +kernel
theorem dX9_init_44 : decode cX9_init 44 = .ok (.iconst 0, 1) := by decide +kernel
theorem dX9_init_45 : decode cX9_init 45 = .ok (.putfield 29, 3) := by decide +kernel
theorem dX9_init_48 : decode cX9_init 48 = .ok (.aload_n 0, 1) := by decide +kernel
theorem dX9_init_49 : decode cX9_init 49 = .ok (.new 33, 3) := by decide +kernel
theorem dX9_init_52 : decode cX9_init 52 = .ok (.dup, 1) := by decide +kernel
theorem dX9_init_53 : decode cX9_init 53 = .ok (.invokespecial 35, 3) := by decide +kernel
theorem dX9_init_56 : decode cX9_init 56 = .ok (.putfield 36, 3) := by decide +kernel
theorem dX9_init_59 : decode cX9_init 59 = .ok (.aload_n 0, 1) := by decide +kernel
theorem dX9_init_60 : decode cX9_init 60 = .ok (.iconst (-1), 1) := by decide +kernel
theorem dX9_init_61 : decode cX9_init 61 = .ok (.putfield 40, 3) := by decide +kernel
theorem dX9_init_64 : decode cX9_init 64 = .ok (.aload_n 0, 1) := by decide +kernel
theorem dX9_init_65 : decode cX9_init 65 = .ok (.new 44, 3) := by decide +kernel
theorem dX9_init_68 : decode cX9_init 68 = .ok (.dup, 1) := by decide +kernel
theorem dX9_init_69 : decode cX9_init 69 = .ok (.aload_n 0, 1) := by decide +kernel
theorem dX9_init_70 : decode cX9_init 70 = .ok (.getfield 22, 3) := by decide +kernel
theorem dX9_init_73 : decode cX9_init 73 = .ok (.invokespecial 46, 3) := by decide +kernel
theorem dX9_init_76 : decode cX9_init 76 = .ok (.putfield 49, 3) := by decide +kernel
theorem dX9_init_79 : decode cX9_init 79 = .ok (.aload_n 0, 1) := by decide +kernel
theorem dX9_init_80 : decode cX9_init 80 = .ok (.iconst 0, 1) := by decide +kernel
theorem dX9_init_81 : decode cX9_init 81 = .ok (.putfield 53, 3) := by decide +kernel
theorem dX9_init_84 : decode cX9_init 84 = .ok (.aload_n 0, 1) := by decide +kernel
theorem dX9_init_85 : decode cX9_init 85 = .ok (.new 44, 3) := by decide +kernel
theorem dX9_init_88 : decode cX9_init 88 = .ok (.dup, 1) := by decide +kernel
theorem dX9_init_89 : decode cX9_init 89 = .ok (.aload_n 0, 1) := by decide +kernel
theorem dX9_init_90 : decode cX9_init 90 = .ok (.getfield 22, 3) := by decide +kernel
theorem dX9_init_93 : decode cX9_init 93 = .ok (.invokespecial 46, 3) := by decide +kernel
theorem dX9_init_96 : decode cX9_init 96 = .ok (.putfield 56, 3) := by decide +kernel
theorem dX9_init_99 : decode cX9_init 99 = .ok (.aload_n 0, 1) := by decide +kernel
theorem dX9_init_100 : decode cX9_init 100 = .ok (.iconst 0, 1) := by decide +kernel
theorem dX9_init_101 : decode cX9_init 101 = .ok (.putfield 59, 3) := by decide +kernel
theorem dX9_init_104 : decode cX9_init 104 = .ok (.aload_n 0, 1) := by decide +kernel
theorem dX9_init_105 : decode cX9_init 105 = .ok (.lconst 0, 1) := by decide +kernel
theorem dX9_init_106 : decode cX9_init 106 = .ok (.putfield 62, 3) := by decide +kernel
theorem dX9_init_109 : decode cX9_init 109 = .ok (.aload_n 0, 1) := by decide +kernel
theorem dX9_init_110 : decode cX9_init 110 = .ok (.lconst 0, 1) := by decide +kernel
theorem dX9_init_111 : decode cX9_init 111 = .ok (.putfield 66, 3) := by decide +kernel
theorem dX9_init_114 : decode cX9_init 114 = .ok (.iconst 0, 1) := by decide +kernel
theorem dX9_init_115 : decode cX9_init 115 = .ok (.istore_n 1, 1) := by decide +kernel
theorem dX9_init_116 : decode cX9_init 116 = .ok (.iload_n 1, 1) := by decide +kernel
theorem dX9_init_117 : decode cX9_init 117 = .ok (.bipush 8, 2) := by decide +kernel
theorem dX9_init_119 : decode cX9_init 119 = .ok (.if_icmp .ge 22, 3) := by decide +kernel
theorem dX9_init_122 : decode cX9_init 122 = .ok (.aload_n 0, 1) := by decide +kernel
theorem dX9_init_123 : decode cX9_init 123 = .ok (.getfield 11, 3) := by decide +kernel
theorem dX9_init_126 : decode cX9_init 126 = .ok (.iload_n 1, 1) := by decide +kernel
theorem dX9_init_127 : decode cX9_init 127 = .ok (.new 9, 3) := by decide +kernel
theorem dX9_init_130 : decode cX9_init 130 = .ok (.dup, 1) := by decide +kernel
theorem dX9_init_131 : decode cX9_init 131 = .ok (.invokespecial 69, 3) := by decide +kernel
theorem dX9_init_134 : decode cX9_init 134 = .ok (.aastore, 1) := by decide +kernel
theorem dX9_init_135 : decode cX9_init 135 = .ok (.iinc 1 1, 3) := by decide +kernel
theorem dX9_init_138 : decode cX9_init 138 = .ok (.goto (-22), 3) := by decide +kernel
theorem dX9_init_141 : decode cX9_init 141 = .ok (.return_, 1) := by decide +kernel
theorem dX9_row_0 : decode cX9_row 0 = .ok (.iload_n 1, 1) := by decide +kernel
theorem dX9_row_1 : decode cX9_row 1 = .ok (.invokestatic 70, 3) := by decide +kernel
theorem dX9_row_4 : decode cX9_row 4 = .ok (.ifCond .ne 9, 3) := by decide +kernel
theorem dX9_row_7 : decode cX9_row 7 = .ok (.aload_n 0, 1) := by decide +kernel
theorem dX9_row_8 : decode cX9_row 8 = .ok (.iconst (-1), 1) := by decide +kernel
theorem dX9_row_9 : decode cX9_row 9 = .ok (.invokevirtual 74, 3) := by decide +kernel
theorem dX9_row_12 : decode cX9_row 12 = .ok (.ireturn, 1) := by decide +kernel
theorem dX9_row_13 : decode cX9_row 13 = .ok (.iload_n 3, 1) := by decide +kernel
theorem dX9_row_14 : decode cX9_row 14 = .ok (.ifCond .ge 10, 3) := by decide +kernel
theorem dX9_row_17 : decode cX9_row 17 = .ok (.aload_n 0, 1) := by decide +kernel
theorem dX9_row_18 : decode cX9_row 18 = .ok (.bipush (-4), 2) := by decide +kernel
theorem dX9_row_20 : decode cX9_row 20 = .ok (.invokevirtual 74, 3) := by decide +kernel
theorem dX9_row_23 : decode cX9_row 23 = .ok (.ireturn, 1) := by decide +kernel
theorem dX9_row_24 : decode cX9_row 24 = .ok (.iload_n 2, 1) := by decide +kernel
theorem dX9_row_25 : decode cX9_row 25 = .ok (.ifCond .lt 8, 3) := by decide +kernel
theorem dX9_row_28 : decode cX9_row 28 = .ok (.iload_n 2, 1) := by decide +kernel
theorem dX9_row_29 : decode cX9_row 29 = .ok (.iconst 3, 1) := by decide +kernel
theorem dX9_row_30 : decode cX9_row 30 = .ok (.if_icmp .le 10, 3) := by decide +kernel
theorem dX9_row_33 : decode cX9_row 33 = .ok (.aload_n 0, 1) := by decide +kernel
theorem dX9_row_34 : decode cX9_row 34 = .ok (.bipush (-6), 2) := by decide +kernel
theorem dX9_row_36 : decode cX9_row 36 = .ok (.invokevirtual 74, 3) := by decide +kernel
theorem dX9_row_39 : decode cX9_row 39 = .ok (.ireturn, 1) := by decide +kernel
theorem dX9_row_40 : decode cX9_row 40 = .ok (.iload_n 3, 1) := by decide +kernel
theorem dX9_row_41 : decode cX9_row 41 = .ok (.sipush 160, 3) := by decide +kernel
theorem dX9_row_44 : decode cX9_row 44 = .ok (.if_icmp .le 10, 3) := by decide +kernel
theorem dX9_row_47 : decode cX9_row 47 = .ok (.aload_n 0, 1) := by decide +kernel
theorem dX9_row_48 : decode cX9_row 48 = .ok (.bipush (-7), 2) := by decide +kernel
theorem dX9_row_50 : decode cX9_row 50 = .ok (.invokevirtual 74, 3) := by decide +kernel
theorem dX9_row_53 : decode cX9_row 53 = .ok (.ireturn, 1) := by decide +kernel
theorem dX9_row_54 : decode cX9_row 54 = .ok (.aload_n 0, 1) := by decide +kernel
theorem dX9_row_55 : decode cX9_row 55 = .ok (.getfield 11, 3) := by decide +kernel
theorem dX9_row_58 : decode cX9_row 58 = .ok (.iload_n 1, 1) := by decide +kernel
theorem dX9_row_59 : decode cX9_row 59 = .ok (.aaload, 1) := by decide +kernel
theorem dX9_row_60 : decode cX9_row 60 = .ok (.iload_n 2, 1) := by decide +kernel
theorem dX9_row_61 : decode cX9_row 61 = .ok (.iload_n 3, 1) := by decide +kernel
theorem dX9_row_62 : decode cX9_row 62 = .ok (.invokevirtual 78, 3) := by decide +kernel
theorem dX9_row_65 : decode cX9_row 65 = .ok (.iconst 1, 1) := by decide +kernel
theorem dX9_row_66 : decode cX9_row 66 = .ok (.ireturn, 1) := by decide +kernel
theorem dX9_set_0 : decode cX9_set 0 = .ok (.aload_n 0, 1) := by decide +kernel
theorem dX9_set_1 : decode cX9_set 1 = .ok (.iload_n 1, 1) := by decide +kernel
theorem dX9_set_2 : decode cX9_set 2 = .ok (.invokevirtual 82, 3) := by decide +kernel
theorem dX9_set_5 : decode cX9_set 5 = .ok (.istore 5, 2) := by decide +kernel
theorem dX9_set_7 : decode cX9_set 7 = .ok (.iload 5, 2) := by decide +kernel
theorem dX9_set_9 : decode cX9_set 9 = .ok (.ifCond .eq 10, 3) := by decide +kernel
theorem dX9_set_12 : decode cX9_set 12 = .ok (.aload_n 0, 1) := by decide +kernel
theorem dX9_set_13 : decode cX9_set 13 = .ok (.iload 5, 2) := by decide +kernel
theorem dX9_set_15 : decode cX9_set 15 = .ok (.invokevirtual 74, 3) := by decide +kernel
theorem dX9_set_18 : decode cX9_set 18 = .ok (.ireturn, 1) := by decide +kernel
theorem dX9_set_19 : decode cX9_set 19 = .ok (.aload_n 0, 1) := by decide +kernel
theorem dX9_set_20 : decode cX9_set 20 = .ok (.getfield 11, 3) := by decide +kernel
theorem dX9_set_23 : decode cX9_set 23 = .ok (.iload_n 1, 1) := by decide +kernel
theorem dX9_set_24 : decode cX9_set 24 = .ok (.aaload, 1) := by decide +kernel
theorem dX9_set_25 : decode cX9_set 25 = .ok (.iload_n 2, 1) := by decide +kernel
theorem dX9_set_26 : decode cX9_set 26 = .ok (.invokevirtual 85, 3) := by decide +kernel
theorem dX9_set_29 : decode cX9_set 29 = .ok (.ifCond .ne 10, 3) := by decide +kernel
theorem dX9_set_32 : decode cX9_set 32 = .ok (.aload_n 0, 1) := by decide +kernel
theorem dX9_set_33 : decode cX9_set 33 = .ok (.bipush (-5), 2) := by decide +kernel
theorem dX9_set_35 : decode cX9_set 35 = .ok (.invokevirtual 74, 3) := by decide +kernel
theorem dX9_set_38 : decode cX9_set 38 = .ok (.ireturn, 1) := by decide +kernel
theorem dX9_set_39 : decode cX9_set 39 = .ok (.aload_n 0, 1) := by decide +kernel
theorem dX9_set_40 : decode cX9_set 40 = .ok (.getfield 11, 3) := by decide +kernel
theorem dX9_set_43 : decode cX9_set 43 = .ok (.iload_n 1, 1) := by decide +kernel
theorem dX9_set_44 : decode cX9_set 44 = .ok (.aaload, 1) := by decide +kernel
theorem dX9_set_45 : decode cX9_set 45 = .ok (.iload_n 2, 1) := by decide +kernel
theorem dX9_set_46 : decode cX9_set 46 = .ok (.lload_n 3, 1) := by decide +kernel
theorem dX9_set_47 : decode cX9_set 47 = .ok (.invokevirtual 88, 3) := by decide +kernel
theorem dX9_set_50 : decode cX9_set 50 = .ok (.iconst 1, 1) := by decide +kernel
theorem dX9_set_51 : decode cX9_set 51 = .ok (.ireturn, 1) := by decide +kernel
theorem dX9_copy_0 : decode cX9_copy 0 = .ok (.aload_n 0, 1) := by decide +kernel
theorem dX9_copy_1 : decode cX9_copy 1 = .ok (.iload_n 1, 1) := by decide +kernel
theorem dX9_copy_2 : decode cX9_copy 2 = .ok (.iload_n 2, 1) := by decide +kernel
theorem dX9_copy_3 : decode cX9_copy 3 = .ok (.invokevirtual 92, 3) := by decide +kernel
theorem dX9_copy_6 : decode cX9_copy 6 = .ok (.istore 6, 2) := by decide +kernel
theorem dX9_copy_8 : decode cX9_copy 8 = .ok (.iload 6, 2) := by decide +kernel
theorem dX9_copy_10 : decode cX9_copy 10 = .ok (.ifCond .eq 10, 3) := by decide +kernel
theorem dX9_copy_13 : decode cX9_copy 13 = .ok (.aload_n 0, 1) := by decide +kernel
theorem dX9_copy_14 : decode cX9_copy 14 = .ok (.iload 6, 2) := by decide +kernel
theorem dX9_copy_16 : decode cX9_copy 16 = .ok (.invokevirtual 74, 3) := by decide +kernel
theorem dX9_copy_19 : decode cX9_copy 19 = .ok (.ireturn, 1) := by decide +kernel
theorem dX9_copy_20 : decode cX9_copy 20 = .ok (.iload 5, 2) := by decide +kernel
theorem dX9_copy_22 : decode cX9_copy 22 = .ok (.ifCond .ge 10, 3) := by decide +kernel
theorem dX9_copy_25 : decode cX9_copy 25 = .ok (.aload_n 0, 1) := by decide +kernel
theorem dX9_copy_26 : decode cX9_copy 26 = .ok (.bipush (-4), 2) := by decide +kernel
theorem dX9_copy_28 : decode cX9_copy 28 = .ok (.invokevirtual 74, 3) := by decide +kernel
theorem dX9_copy_31 : decode cX9_copy 31 = .ok (.ireturn, 1) := by decide +kernel
theorem dX9_copy_32 : decode cX9_copy 32 = .ok (.aload_n 0, 1) := by decide +kernel
theorem dX9_copy_33 : decode cX9_copy 33 = .ok (.getfield 11, 3) := by decide +kernel
theorem dX9_copy_36 : decode cX9_copy 36 = .ok (.iload_n 1, 1) := by decide +kernel
theorem dX9_copy_37 : decode cX9_copy 37 = .ok (.aaload, 1) := by decide +kernel
theorem dX9_copy_38 : decode cX9_copy 38 = .ok (.iload_n 3, 1) := by decide +kernel
theorem dX9_copy_39 : decode cX9_copy 39 = .ok (.iload 5, 2) := by decide +kernel
theorem dX9_copy_41 : decode cX9_copy 41 = .ok (.invokevirtual 96, 3) := by decide +kernel
theorem dX9_copy_44 : decode cX9_copy 44 = .ok (.ifCond .eq 19, 3) := by decide +kernel
theorem dX9_copy_47 : decode cX9_copy 47 = .ok (.aload_n 0, 1) := by decide +kernel
theorem dX9_copy_48 : decode cX9_copy 48 = .ok (.getfield 11, 3) := by decide +kernel
theorem dX9_copy_51 : decode cX9_copy 51 = .ok (.iload_n 2, 1) := by decide +kernel
theorem dX9_copy_52 : decode cX9_copy 52 = .ok (.aaload, 1) := by decide +kernel
theorem dX9_copy_53 : decode cX9_copy 53 = .ok (.iload 4, 2) := by decide +kernel
theorem dX9_copy_55 : decode cX9_copy 55 = .ok (.iload 5, 2) := by decide +kernel
theorem dX9_copy_57 : decode cX9_copy 57 = .ok (.invokevirtual 96, 3) := by decide +kernel
theorem dX9_copy_60 : decode cX9_copy 60 = .ok (.ifCond .ne 10, 3) := by decide +kernel
theorem dX9_copy_63 : decode cX9_copy 63 = .ok (.aload_n 0, 1) := by decide +kernel
theorem dX9_copy_64 : decode cX9_copy 64 = .ok (.bipush (-5), 2) := by decide +kernel
theorem dX9_copy_66 : decode cX9_copy 66 = .ok (.invokevirtual 74, 3) := by decide +kernel
theorem dX9_copy_69 : decode cX9_copy 69 = .ok (.ireturn, 1) := by decide +kernel
theorem dX9_copy_70 : decode cX9_copy 70 = .ok (.aload_n 0, 1) := by decide +kernel
theorem dX9_copy_71 : decode cX9_copy 71 = .ok (.getfield 11, 3) := by decide +kernel
theorem dX9_copy_74 : decode cX9_copy 74 = .ok (.iload_n 1, 1) := by decide +kernel
theorem dX9_copy_75 : decode cX9_copy 75 = .ok (.aaload, 1) := by decide +kernel
theorem dX9_copy_76 : decode cX9_copy 76 = .ok (.getfield 100, 3) := by decide +kernel
theorem dX9_copy_79 : decode cX9_copy 79 = .ok (.iload_n 3, 1) := by decide +kernel
theorem dX9_copy_80 : decode cX9_copy 80 = .ok (.aload_n 0, 1) := by decide +kernel
theorem dX9_copy_81 : decode cX9_copy 81 = .ok (.getfield 11, 3) := by decide +kernel
theorem dX9_copy_84 : decode cX9_copy 84 = .ok (.iload_n 2, 1) := by decide +kernel
theorem dX9_copy_85 : decode cX9_copy 85 = .ok (.aaload, 1) := by decide +kernel
theorem dX9_copy_86 : decode cX9_copy 86 = .ok (.getfield 100, 3) := by decide +kernel
theorem dX9_copy_89 : decode cX9_copy 89 = .ok (.iload 4, 2) := by decide +kernel
theorem dX9_copy_91 : decode cX9_copy 91 = .ok (.iload 5, 2) := by decide +kernel
theorem dX9_copy_93 : decode cX9_copy 93 = .ok (.invokestatic 104, 3) := by decide +kernel
theorem dX9_copy_96 : decode cX9_copy 96 = .ok (.iconst 1, 1) := by decide +kernel
theorem dX9_copy_97 : decode cX9_copy 97 = .ok (.ireturn, 1) := by decide +kernel
theorem dX9_element_0 : decode cX9_element 0 = .ok (.aload_n 0, 1) := by decide +kernel
theorem dX9_element_1 : decode cX9_element 1 = .ok (.iload_n 1, 1) := by decide +kernel
theorem dX9_element_2 : decode cX9_element 2 = .ok (.invokevirtual 82, 3) := by decide +kernel
theorem dX9_element_5 : decode cX9_element 5 = .ok (.ifCond .ne 16, 3) := by decide +kernel
theorem dX9_element_8 : decode cX9_element 8 = .ok (.aload_n 0, 1) := by decide +kernel
theorem dX9_element_9 : decode cX9_element 9 = .ok (.getfield 11, 3) := by decide +kernel
theorem dX9_element_12 : decode cX9_element 12 = .ok (.iload_n 1, 1) := by decide +kernel
theorem dX9_element_13 : decode cX9_element 13 = .ok (.aaload, 1) := by decide +kernel
theorem dX9_element_14 : decode cX9_element 14 = .ok (.iload_n 2, 1) := by decide +kernel
theorem dX9_element_15 : decode cX9_element 15 = .ok (.invokevirtual 85, 3) := by decide +kernel
theorem dX9_element_18 : decode cX9_element 18 = .ok (.ifCond .ne 5, 3) := by decide +kernel
theorem dX9_element_21 : decode cX9_element 21 = .ok (.lconst 0, 1) := by decide +kernel
theorem dX9_element_22 : decode cX9_element 22 = .ok (.lreturn, 1) := by decide +kernel
theorem dX9_element_23 : decode cX9_element 23 = .ok (.aload_n 0, 1) := by decide +kernel
theorem dX9_element_24 : decode cX9_element 24 = .ok (.getfield 11, 3) := by decide +kernel
theorem dX9_element_27 : decode cX9_element 27 = .ok (.iload_n 1, 1) := by decide +kernel
theorem dX9_element_28 : decode cX9_element 28 = .ok (.aaload, 1) := by decide +kernel
theorem dX9_element_29 : decode cX9_element 29 = .ok (.getfield 100, 3) := by decide +kernel
theorem dX9_element_32 : decode cX9_element 32 = .ok (.iload_n 2, 1) := by decide +kernel
theorem dX9_element_33 : decode cX9_element 33 = .ok (.laload, 1) := by decide +kernel
theorem dX9_element_34 : decode cX9_element 34 = .ok (.lreturn, 1) := by decide +kernel
theorem dX9_show_0 : decode cX9_show 0 = .ok (.iload_n 1, 1) := by decide +kernel
theorem dX9_show_1 : decode cX9_show 1 = .ok (.invokestatic 70, 3) := by decide +kernel
theorem dX9_show_4 : decode cX9_show 4 = .ok (.ifCond .ne 9, 3) := by decide +kernel
theorem dX9_show_7 : decode cX9_show 7 = .ok (.aload_n 0, 1) := by decide +kernel
theorem dX9_show_8 : decode cX9_show 8 = .ok (.iconst (-1), 1) := by decide +kernel
theorem dX9_show_9 : decode cX9_show 9 = .ok (.invokevirtual 74, 3) := by decide +kernel
theorem dX9_show_12 : decode cX9_show 12 = .ok (.ireturn, 1) := by decide +kernel
theorem dX9_show_13 : decode cX9_show 13 = .ok (.iload_n 2, 1) := by decide +kernel
theorem dX9_show_14 : decode cX9_show 14 = .ok (.iconst (-1), 1) := by decide +kernel
theorem dX9_show_15 : decode cX9_show 15 = .ok (.if_icmp .ne 14, 3) := by decide +kernel
theorem dX9_show_18 : decode cX9_show 18 = .ok (.aload_n 0, 1) := by decide +kernel
theorem dX9_show_19 : decode cX9_show 19 = .ok (.getfield 11, 3) := by decide +kernel
theorem dX9_show_22 : decode cX9_show 22 = .ok (.iload_n 1, 1) := by decide +kernel
theorem dX9_show_23 : decode cX9_show 23 = .ok (.aaload, 1) := by decide +kernel
theorem dX9_show_24 : decode cX9_show 24 = .ok (.invokevirtual 110, 3) := by decide +kernel
theorem dX9_show_27 : decode cX9_show 27 = .ok (.iconst 0, 1) := by decide +kernel
theorem dX9_show_28 : decode cX9_show 28 = .ok (.ireturn, 1) := by decide +kernel
theorem dX9_show_29 : decode cX9_show 29 = .ok (.aload_n 0, 1) := by decide +kernel
theorem dX9_show_30 : decode cX9_show 30 = .ok (.invokevirtual 113, 3) := by decide +kernel
theorem dX9_show_33 : decode cX9_show 33 = .ok (.iload_n 2, 1) := by decide +kernel
theorem dX9_show_34 : decode cX9_show 34 = .ok (.invokevirtual 117, 3) := by decide +kernel
theorem dX9_show_37 : decode cX9_show 37 = .ok (.ifCond .ne 9, 3) := by decide +kernel
theorem dX9_show_40 : decode cX9_show 40 = .ok (.aload_n 0, 1) := by decide +kernel
theorem dX9_show_41 : decode cX9_show 41 = .ok (.iconst (-1), 1) := by decide +kernel
theorem dX9_show_42 : decode cX9_show 42 = .ok (.invokevirtual 74, 3) := by decide +kernel
theorem dX9_show_45 : decode cX9_show 45 = .ok (.ireturn, 1) := by decide +kernel
theorem dX9_show_46 : decode cX9_show 46 = .ok (.aload_n 0, 1) := by decide +kernel
theorem dX9_show_47 : decode cX9_show 47 = .ok (.getfield 11, 3) := by decide +kernel
theorem dX9_show_50 : decode cX9_show 50 = .ok (.iload_n 1, 1) := by decide +kernel
theorem dX9_show_51 : decode cX9_show 51 = .ok (.aaload, 1) := by decide +kernel
theorem dX9_show_52 : decode cX9_show 52 = .ok (.aload_n 0, 1) := by decide +kernel
theorem dX9_show_53 : decode cX9_show 53 = .ok (.getfield 49, 3) := by decide +kernel
theorem dX9_show_56 : decode cX9_show 56 = .ok (.getfield 120, 3) := by decide +kernel
theorem dX9_show_59 : decode cX9_show 59 = .ok (.iload_n 2, 1) := by decide +kernel
theorem dX9_show_60 : decode cX9_show 60 = .ok (.iaload, 1) := by decide +kernel
theorem dX9_show_61 : decode cX9_show 61 = .ok (.aload_n 0, 1) := by decide +kernel
theorem dX9_show_62 : decode cX9_show 62 = .ok (.getfield 49, 3) := by decide +kernel
theorem dX9_show_65 : decode cX9_show 65 = .ok (.getfield 123, 3) := by decide +kernel
theorem dX9_show_68 : decode cX9_show 68 = .ok (.iload_n 2, 1) := by decide +kernel
theorem dX9_show_69 : decode cX9_show 69 = .ok (.iaload, 1) := by decide +kernel
theorem dX9_show_70 : decode cX9_show 70 = .ok (.aload_n 0, 1) := by decide +kernel
theorem dX9_show_71 : decode cX9_show 71 = .ok (.getfield 49, 3) := by decide +kernel
theorem dX9_show_74 : decode cX9_show 74 = .ok (.getfield 126, 3) := by decide +kernel
theorem dX9_show_77 : decode cX9_show 77 = .ok (.iload_n 2, 1) := by decide +kernel
theorem dX9_show_78 : decode cX9_show 78 = .ok (.iaload, 1) := by decide +kernel
theorem dX9_show_79 : decode cX9_show 79 = .ok (.aload_n 0, 1) := by decide +kernel
theorem dX9_show_80 : decode cX9_show 80 = .ok (.getfield 49, 3) := by decide +kernel
theorem dX9_show_83 : decode cX9_show 83 = .ok (.getfield 129, 3) := by decide +kernel
theorem dX9_show_86 : decode cX9_show 86 = .ok (.iload_n 2, 1) := by decide +kernel
theorem dX9_show_87 : decode cX9_show 87 = .ok (.iaload, 1) := by decide +kernel
theorem dX9_show_88 : decode cX9_show 88 = .ok (.invokevirtual 132, 3) := by decide +kernel
theorem dX9_show_91 : decode cX9_show 91 = .ok (.iconst 1, 1) := by decide +kernel
theorem dX9_show_92 : decode cX9_show 92 = .ok (.ireturn, 1) := by decide +kernel
theorem dX9_holds_0 : decode cX9_holds 0 = .ok (.iload_n 1, 1) := by decide +kernel
theorem dX9_holds_1 : decode cX9_holds 1 = .ok (.invokestatic 70, 3) := by decide +kernel
theorem dX9_holds_4 : decode cX9_holds 4 = .ok (.ifCond .eq 15, 3) := by decide +kernel
theorem dX9_holds_7 : decode cX9_holds 7 = .ok (.aload_n 0, 1) := by decide +kernel
theorem dX9_holds_8 : decode cX9_holds 8 = .ok (.getfield 11, 3) := by decide +kernel
theorem dX9_holds_11 : decode cX9_holds 11 = .ok (.iload_n 1, 1) := by decide +kernel
theorem dX9_holds_12 : decode cX9_holds 12 = .ok (.aaload, 1) := by decide +kernel
theorem dX9_holds_13 : decode cX9_holds 13 = .ok (.invokevirtual 136, 3) := by decide +kernel
theorem dX9_holds_16 : decode cX9_holds 16 = .ok (.ifCond .eq 5, 3) := by decide +kernel
theorem dX9_holds_19 : decode cX9_holds 19 = .ok (.iconst (-1), 1) := by decide +kernel
theorem dX9_holds_20 : decode cX9_holds 20 = .ok (.ireturn, 1) := by decide +kernel
theorem dX9_holds_21 : decode cX9_holds 21 = .ok (.aload_n 0, 1) := by decide +kernel
theorem dX9_holds_22 : decode cX9_holds 22 = .ok (.getfield 11, 3) := by decide +kernel
theorem dX9_holds_25 : decode cX9_holds 25 = .ok (.iload_n 1, 1) := by decide +kernel
theorem dX9_holds_26 : decode cX9_holds 26 = .ok (.aaload, 1) := by decide +kernel
theorem dX9_holds_27 : decode cX9_holds 27 = .ok (.invokevirtual 140, 3) := by decide +kernel
theorem dX9_holds_30 : decode cX9_holds 30 = .ok (.ifCond .eq 18, 3) := by decide +kernel
theorem dX9_holds_33 : decode cX9_holds 33 = .ok (.bipush 100, 2) := by decide +kernel
theorem dX9_holds_35 : decode cX9_holds 35 = .ok (.aload_n 0, 1) := by decide +kernel
theorem dX9_holds_36 : decode cX9_holds 36 = .ok (.getfield 11, 3) := by decide +kernel
theorem dX9_holds_39 : decode cX9_holds 39 = .ok (.iload_n 1, 1) := by decide +kernel
theorem dX9_holds_40 : decode cX9_holds 40 = .ok (.aaload, 1) := by decide +kernel
theorem dX9_holds_41 : decode cX9_holds 41 = .ok (.getfield 143, 3) := by decide +kernel
theorem dX9_holds_44 : decode cX9_holds 44 = .ok (.iadd, 1) := by decide +kernel
theorem dX9_holds_45 : decode cX9_holds 45 = .ok (.goto 16, 3) := by decide +kernel
theorem dX9_holds_48 : decode cX9_holds 48 = .ok (.sipush 200, 3) := by decide +kernel
theorem dX9_holds_51 : decode cX9_holds 51 = .ok (.aload_n 0, 1) := by decide +kernel
theorem dX9_holds_52 : decode cX9_holds 52 = .ok (.getfield 11, 3) := by decide +kernel
theorem dX9_holds_55 : decode cX9_holds 55 = .ok (.iload_n 1, 1) := by decide +kernel
theorem dX9_holds_56 : decode cX9_holds 56 = .ok (.aaload, 1) := by decide +kernel
theorem dX9_holds_57 : decode cX9_holds 57 = .ok (.getfield 146, 3) := by decide +kernel
theorem dX9_holds_60 : decode cX9_holds 60 = .ok (.iadd, 1) := by decide +kernel
theorem dX9_holds_61 : decode cX9_holds 61 = .ok (.ireturn, 1) := by decide +kernel
theorem dX9_says_0 : decode cX9_says 0 = .ok (.iload_n 1, 1) := by decide +kernel
theorem dX9_says_1 : decode cX9_says 1 = .ok (.invokestatic 70, 3) := by decide +kernel
theorem dX9_says_4 : decode cX9_says 4 = .ok (.ifCond .eq 12, 3) := by decide +kernel
theorem dX9_says_7 : decode cX9_says 7 = .ok (.iload_n 2, 1) := by decide +kernel
theorem dX9_says_8 : decode cX9_says 8 = .ok (.ifCond .lt 8, 3) := by decide +kernel
theorem dX9_says_11 : decode cX9_says 11 = .ok (.iload_n 2, 1) := by decide +kernel
theorem dX9_says_12 : decode cX9_says 12 = .ok (.iconst 3, 1) := by decide +kernel
theorem dX9_says_13 : decode cX9_says 13 = .ok (.if_icmp .le 9, 3) := by decide +kernel
theorem dX9_says_16 : decode cX9_says 16 = .ok (.aload_n 0, 1) := by decide +kernel
theorem dX9_says_17 : decode cX9_says 17 = .ok (.iconst (-1), 1) := by decide +kernel
theorem dX9_says_18 : decode cX9_says 18 = .ok (.invokevirtual 74, 3) := by decide +kernel
theorem dX9_says_21 : decode cX9_says 21 = .ok (.ireturn, 1) := by decide +kernel
theorem dX9_says_22 : decode cX9_says 22 = .ok (.aload_n 0, 1) := by decide +kernel
theorem dX9_says_23 : decode cX9_says 23 = .ok (.getfield 11, 3) := by decide +kernel
theorem dX9_says_26 : decode cX9_says 26 = .ok (.iload_n 1, 1) := by decide +kernel
theorem dX9_says_27 : decode cX9_says 27 = .ok (.aaload, 1) := by decide +kernel
theorem dX9_says_28 : decode cX9_says 28 = .ok (.invokevirtual 136, 3) := by decide +kernel
theorem dX9_says_31 : decode cX9_says 31 = .ok (.ifCond .eq 10, 3) := by decide +kernel
theorem dX9_says_34 : decode cX9_says 34 = .ok (.aload_n 0, 1) := by decide +kernel
theorem dX9_says_35 : decode cX9_says 35 = .ok (.bipush (-3), 2) := by decide +kernel
theorem dX9_says_37 : decode cX9_says 37 = .ok (.invokevirtual 74, 3) := by decide +kernel
theorem dX9_says_40 : decode cX9_says 40 = .ok (.ireturn, 1) := by decide +kernel
theorem dX9_says_41 : decode cX9_says 41 = .ok (.aload_n 0, 1) := by decide +kernel
theorem dX9_says_42 : decode cX9_says 42 = .ok (.getfield 11, 3) := by decide +kernel
theorem dX9_says_45 : decode cX9_says 45 = .ok (.iload_n 1, 1) := by decide +kernel
theorem dX9_says_46 : decode cX9_says 46 = .ok (.aaload, 1) := by decide +kernel
theorem dX9_says_47 : decode cX9_says 47 = .ok (.invokevirtual 140, 3) := by decide +kernel
theorem dX9_says_50 : decode cX9_says 50 = .ok (.ifCond .ne 16, 3) := by decide +kernel
theorem dX9_says_53 : decode cX9_says 53 = .ok (.aload_n 0, 1) := by decide +kernel
theorem dX9_says_54 : decode cX9_says 54 = .ok (.getfield 11, 3) := by decide +kernel
theorem dX9_says_57 : decode cX9_says 57 = .ok (.iload_n 1, 1) := by decide +kernel
theorem dX9_says_58 : decode cX9_says 58 = .ok (.aaload, 1) := by decide +kernel
theorem dX9_says_59 : decode cX9_says 59 = .ok (.iload_n 2, 1) := by decide +kernel
theorem dX9_says_60 : decode cX9_says 60 = .ok (.invokevirtual 148, 3) := by decide +kernel
theorem dX9_says_63 : decode cX9_says 63 = .ok (.ifCond .ne 10, 3) := by decide +kernel
theorem dX9_says_66 : decode cX9_says 66 = .ok (.aload_n 0, 1) := by decide +kernel
theorem dX9_says_67 : decode cX9_says 67 = .ok (.bipush (-2), 2) := by decide +kernel
theorem dX9_says_69 : decode cX9_says 69 = .ok (.invokevirtual 74, 3) := by decide +kernel
theorem dX9_says_72 : decode cX9_says 72 = .ok (.ireturn, 1) := by decide +kernel
theorem dX9_says_73 : decode cX9_says 73 = .ok (.aload_n 0, 1) := by decide +kernel
theorem dX9_says_74 : decode cX9_says 74 = .ok (.getfield 11, 3) := by decide +kernel
theorem dX9_says_77 : decode cX9_says 77 = .ok (.iload_n 1, 1) := by decide +kernel
theorem dX9_says_78 : decode cX9_says 78 = .ok (.aaload, 1) := by decide +kernel
theorem dX9_says_79 : decode cX9_says 79 = .ok (.iload_n 2, 1) := by decide +kernel
theorem dX9_says_80 : decode cX9_says 80 = .ok (.invokevirtual 151, 3) := by decide +kernel
theorem dX9_says_83 : decode cX9_says 83 = .ok (.ireturn, 1) := by decide +kernel
theorem dX9_read_0 : decode cX9_read 0 = .ok (.aload_n 0, 1) := by decide +kernel
theorem dX9_read_1 : decode cX9_read 1 = .ok (.iload_n 1, 1) := by decide +kernel
theorem dX9_read_2 : decode cX9_read 2 = .ok (.invokevirtual 82, 3) := by decide +kernel
theorem dX9_read_5 : decode cX9_read 5 = .ok (.istore_n 2, 1) := by decide +kernel
theorem dX9_read_6 : decode cX9_read 6 = .ok (.iload_n 2, 1) := by decide +kernel
theorem dX9_read_7 : decode cX9_read 7 = .ok (.ifCond .eq 9, 3) := by decide +kernel
theorem dX9_read_10 : decode cX9_read 10 = .ok (.aload_n 0, 1) := by decide +kernel
theorem dX9_read_11 : decode cX9_read 11 = .ok (.iload_n 2, 1) := by decide +kernel
theorem dX9_read_12 : decode cX9_read 12 = .ok (.invokevirtual 74, 3) := by decide +kernel
theorem dX9_read_15 : decode cX9_read 15 = .ok (.ireturn, 1) := by decide +kernel
theorem dX9_read_16 : decode cX9_read 16 = .ok (.aload_n 0, 1) := by decide +kernel
theorem dX9_read_17 : decode cX9_read 17 = .ok (.getfield 36, 3) := by decide +kernel
theorem dX9_read_20 : decode cX9_read 20 = .ok (.getfield 154, 3) := by decide +kernel
theorem dX9_read_23 : decode cX9_read 23 = .ok (.aload_n 0, 1) := by decide +kernel
theorem dX9_read_24 : decode cX9_read 24 = .ok (.getfield 22, 3) := by decide +kernel
theorem dX9_read_27 : decode cX9_read 27 = .ok (.invokevirtual 157, 3) := by decide +kernel
theorem dX9_read_30 : decode cX9_read 30 = .ok (.aload_n 0, 1) := by decide +kernel
theorem dX9_read_31 : decode cX9_read 31 = .ok (.getfield 36, 3) := by decide +kernel
theorem dX9_read_34 : decode cX9_read 34 = .ok (.aload_n 0, 1) := by decide +kernel
theorem dX9_read_35 : decode cX9_read 35 = .ok (.getfield 11, 3) := by decide +kernel
theorem dX9_read_38 : decode cX9_read 38 = .ok (.iload_n 1, 1) := by decide +kernel
theorem dX9_read_39 : decode cX9_read 39 = .ok (.aaload, 1) := by decide +kernel
theorem dX9_read_40 : decode cX9_read 40 = .ok (.invokevirtual 160, 3) := by decide +kernel
theorem dX9_read_43 : decode cX9_read 43 = .ok (.istore_n 3, 1) := by decide +kernel
theorem dX9_read_44 : decode cX9_read 44 = .ok (.aload_n 0, 1) := by decide +kernel
theorem dX9_read_45 : decode cX9_read 45 = .ok (.aload_n 0, 1) := by decide +kernel
theorem dX9_read_46 : decode cX9_read 46 = .ok (.getfield 36, 3) := by decide +kernel
theorem dX9_read_49 : decode cX9_read 49 = .ok (.getfield 164, 3) := by decide +kernel
theorem dX9_read_52 : decode cX9_read 52 = .ok (.putfield 40, 3) := by decide +kernel
theorem dX9_read_55 : decode cX9_read 55 = .ok (.iload_n 3, 1) := by decide +kernel
theorem dX9_read_56 : decode cX9_read 56 = .ok (.iconst (-1), 1) := by decide +kernel
theorem dX9_read_57 : decode cX9_read 57 = .ok (.if_icmp .ne 10, 3) := by decide +kernel
theorem dX9_read_60 : decode cX9_read 60 = .ok (.aload_n 0, 1) := by decide +kernel
theorem dX9_read_61 : decode cX9_read 61 = .ok (.bipush (-6), 2) := by decide +kernel
theorem dX9_read_63 : decode cX9_read 63 = .ok (.invokevirtual 74, 3) := by decide +kernel
theorem dX9_read_66 : decode cX9_read 66 = .ok (.ireturn, 1) := by decide +kernel
theorem dX9_read_67 : decode cX9_read 67 = .ok (.aload_n 0, 1) := by decide +kernel
theorem dX9_read_68 : decode cX9_read 68 = .ok (.getfield 22, 3) := by decide +kernel
theorem dX9_read_71 : decode cX9_read 71 = .ok (.aload_n 0, 1) := by decide +kernel
theorem dX9_read_72 : decode cX9_read 72 = .ok (.getfield 36, 3) := by decide +kernel
theorem dX9_read_75 : decode cX9_read 75 = .ok (.getfield 154, 3) := by decide +kernel
theorem dX9_read_78 : decode cX9_read 78 = .ok (.invokevirtual 157, 3) := by decide +kernel
theorem dX9_read_81 : decode cX9_read 81 = .ok (.aload_n 0, 1) := by decide +kernel
theorem dX9_read_82 : decode cX9_read 82 = .ok (.invokevirtual 167, 3) := by decide +kernel
theorem dX9_read_85 : decode cX9_read 85 = .ok (.iload_n 3, 1) := by decide +kernel
theorem dX9_read_86 : decode cX9_read 86 = .ok (.ireturn, 1) := by decide +kernel
theorem dX9_fault_0 : decode cX9_fault 0 = .ok (.aload_n 0, 1) := by decide +kernel
theorem dX9_fault_1 : decode cX9_fault 1 = .ok (.getfield 40, 3) := by decide +kernel
theorem dX9_fault_4 : decode cX9_fault 4 = .ok (.ireturn, 1) := by decide +kernel
theorem dX9_put_0 : decode cX9_put 0 = .ok (.iload_n 1, 1) := by decide +kernel
theorem dX9_put_1 : decode cX9_put 1 = .ok (.ifCond .lt 8, 3) := by decide +kernel
theorem dX9_put_4 : decode cX9_put 4 = .ok (.iload_n 1, 1) := by decide +kernel
theorem dX9_put_5 : decode cX9_put 5 = .ok (.iconst 3, 1) := by decide +kernel
theorem dX9_put_6 : decode cX9_put 6 = .ok (.if_icmp .le 10, 3) := by decide +kernel
theorem dX9_put_9 : decode cX9_put 9 = .ok (.aload_n 0, 1) := by decide +kernel
theorem dX9_put_10 : decode cX9_put 10 = .ok (.bipush (-5), 2) := by decide +kernel
theorem dX9_put_12 : decode cX9_put 12 = .ok (.invokevirtual 74, 3) := by decide +kernel
theorem dX9_put_15 : decode cX9_put 15 = .ok (.ireturn, 1) := by decide +kernel
theorem dX9_put_16 : decode cX9_put 16 = .ok (.iload_n 1, 1) := by decide +kernel
theorem dX9_put_17 : decode cX9_put 17 = .ok (.iload_n 2, 1) := by decide +kernel
theorem dX9_put_18 : decode cX9_put 18 = .ok (.invokestatic 170, 3) := by decide +kernel
theorem dX9_put_21 : decode cX9_put 21 = .ok (.ifCond .ne 10, 3) := by decide +kernel
theorem dX9_put_24 : decode cX9_put 24 = .ok (.aload_n 0, 1) := by decide +kernel
theorem dX9_put_25 : decode cX9_put 25 = .ok (.bipush (-6), 2) := by decide +kernel
theorem dX9_put_27 : decode cX9_put 27 = .ok (.invokevirtual 74, 3) := by decide +kernel
theorem dX9_put_30 : decode cX9_put 30 = .ok (.ireturn, 1) := by decide +kernel
theorem dX9_put_31 : decode cX9_put 31 = .ok (.aload_n 0, 1) := by decide +kernel
theorem dX9_put_32 : decode cX9_put 32 = .ok (.getfield 22, 3) := by decide +kernel
theorem dX9_put_35 : decode cX9_put 35 = .ok (.iload_n 1, 1) := by decide +kernel
theorem dX9_put_36 : decode cX9_put 36 = .ok (.invokevirtual 173, 3) := by decide +kernel
theorem dX9_put_39 : decode cX9_put 39 = .ok (.istore_n 3, 1) := by decide +kernel
theorem dX9_put_40 : decode cX9_put 40 = .ok (.aload_n 0, 1) := by decide +kernel
theorem dX9_put_41 : decode cX9_put 41 = .ok (.getfield 22, 3) := by decide +kernel
theorem dX9_put_44 : decode cX9_put 44 = .ok (.iload_n 1, 1) := by decide +kernel
theorem dX9_put_45 : decode cX9_put 45 = .ok (.iload_n 2, 1) := by decide +kernel
theorem dX9_put_46 : decode cX9_put 46 = .ok (.invokevirtual 176, 3) := by decide +kernel
theorem dX9_put_49 : decode cX9_put 49 = .ok (.aload_n 0, 1) := by decide +kernel
theorem dX9_put_50 : decode cX9_put 50 = .ok (.invokevirtual 167, 3) := by decide +kernel
theorem dX9_put_53 : decode cX9_put 53 = .ok (.iload_n 3, 1) := by decide +kernel
theorem dX9_put_54 : decode cX9_put 54 = .ok (.ireturn, 1) := by decide +kernel
theorem dX9_vote_0 : decode cX9_vote 0 = .ok (.iload_n 1, 1) := by decide +kernel
theorem dX9_vote_1 : decode cX9_vote 1 = .ok (.iconst 1, 1) := by decide +kernel
theorem dX9_vote_2 : decode cX9_vote 2 = .ok (.if_icmp .lt 9, 3) := by decide +kernel
theorem dX9_vote_5 : decode cX9_vote 5 = .ok (.iload_n 1, 1) := by decide +kernel
theorem dX9_vote_6 : decode cX9_vote 6 = .ok (.bipush 6, 2) := by decide +kernel
theorem dX9_vote_8 : decode cX9_vote 8 = .ok (.if_icmp .lt 9, 3) := by decide +kernel
theorem dX9_vote_11 : decode cX9_vote 11 = .ok (.aload_n 0, 1) := by decide +kernel
theorem dX9_vote_12 : decode cX9_vote 12 = .ok (.iconst (-1), 1) := by decide +kernel
theorem dX9_vote_13 : decode cX9_vote 13 = .ok (.invokevirtual 74, 3) := by decide +kernel
theorem dX9_vote_16 : decode cX9_vote 16 = .ok (.ireturn, 1) := by decide +kernel
theorem dX9_vote_17 : decode cX9_vote 17 = .ok (.aload_n 0, 1) := by decide +kernel
theorem dX9_vote_18 : decode cX9_vote 18 = .ok (.getfield 22, 3) := by decide +kernel
theorem dX9_vote_21 : decode cX9_vote 21 = .ok (.iload_n 1, 1) := by decide +kernel
theorem dX9_vote_22 : decode cX9_vote 22 = .ok (.invokevirtual 179, 3) := by decide +kernel
theorem dX9_vote_25 : decode cX9_vote 25 = .ok (.ifCond .eq 7, 3) := by decide +kernel
theorem dX9_vote_28 : decode cX9_vote 28 = .ok (.iconst 1, 1) := by decide +kernel
theorem dX9_vote_29 : decode cX9_vote 29 = .ok (.goto 4, 3) := by decide +kernel
theorem dX9_vote_32 : decode cX9_vote 32 = .ok (.iconst 0, 1) := by decide +kernel
theorem dX9_vote_33 : decode cX9_vote 33 = .ok (.istore_n 3, 1) := by decide +kernel
theorem dX9_vote_34 : decode cX9_vote 34 = .ok (.aload_n 0, 1) := by decide +kernel
theorem dX9_vote_35 : decode cX9_vote 35 = .ok (.getfield 22, 3) := by decide +kernel
theorem dX9_vote_38 : decode cX9_vote 38 = .ok (.iload_n 1, 1) := by decide +kernel
theorem dX9_vote_39 : decode cX9_vote 39 = .ok (.iload_n 2, 1) := by decide +kernel
theorem dX9_vote_40 : decode cX9_vote 40 = .ok (.invokevirtual 182, 3) := by decide +kernel
theorem dX9_vote_43 : decode cX9_vote 43 = .ok (.aload_n 0, 1) := by decide +kernel
theorem dX9_vote_44 : decode cX9_vote 44 = .ok (.invokevirtual 167, 3) := by decide +kernel
theorem dX9_vote_47 : decode cX9_vote 47 = .ok (.iload_n 3, 1) := by decide +kernel
theorem dX9_vote_48 : decode cX9_vote 48 = .ok (.ireturn, 1) := by decide +kernel
theorem dX9_lose_0 : decode cX9_lose 0 = .ok (.iload_n 1, 1) := by decide +kernel
theorem dX9_lose_1 : decode cX9_lose 1 = .ok (.ifCond .lt 9, 3) := by decide +kernel
theorem dX9_lose_4 : decode cX9_lose 4 = .ok (.iload_n 1, 1) := by decide +kernel
theorem dX9_lose_5 : decode cX9_lose 5 = .ok (.bipush 60, 2) := by decide +kernel
theorem dX9_lose_7 : decode cX9_lose 7 = .ok (.if_icmp .lt 9, 3) := by decide +kernel
theorem dX9_lose_10 : decode cX9_lose 10 = .ok (.aload_n 0, 1) := by decide +kernel
theorem dX9_lose_11 : decode cX9_lose 11 = .ok (.iconst (-1), 1) := by decide +kernel
theorem dX9_lose_12 : decode cX9_lose 12 = .ok (.invokevirtual 74, 3) := by decide +kernel
theorem dX9_lose_15 : decode cX9_lose 15 = .ok (.ireturn, 1) := by decide +kernel
theorem dX9_lose_16 : decode cX9_lose 16 = .ok (.aload_n 0, 1) := by decide +kernel
theorem dX9_lose_17 : decode cX9_lose 17 = .ok (.getfield 22, 3) := by decide +kernel
theorem dX9_lose_20 : decode cX9_lose 20 = .ok (.getfield 186, 3) := by decide +kernel
theorem dX9_lose_23 : decode cX9_lose 23 = .ok (.iload_n 1, 1) := by decide +kernel
theorem dX9_lose_24 : decode cX9_lose 24 = .ok (.invokestatic 189, 3) := by decide +kernel
theorem dX9_lose_27 : decode cX9_lose 27 = .ok (.ifCond .eq 7, 3) := by decide +kernel
theorem dX9_lose_30 : decode cX9_lose 30 = .ok (.iconst 1, 1) := by decide +kernel
theorem dX9_lose_31 : decode cX9_lose 31 = .ok (.goto 4, 3) := by decide +kernel
theorem dX9_lose_34 : decode cX9_lose 34 = .ok (.iconst 0, 1) := by decide +kernel
theorem dX9_lose_35 : decode cX9_lose 35 = .ok (.istore_n 3, 1) := by decide +kernel
theorem dX9_lose_36 : decode cX9_lose 36 = .ok (.aload_n 0, 1) := by decide +kernel
theorem dX9_lose_37 : decode cX9_lose 37 = .ok (.getfield 22, 3) := by decide +kernel
theorem dX9_lose_40 : decode cX9_lose 40 = .ok (.iload_n 1, 1) := by decide +kernel
theorem dX9_lose_41 : decode cX9_lose 41 = .ok (.iload_n 2, 1) := by decide +kernel
theorem dX9_lose_42 : decode cX9_lose 42 = .ok (.invokevirtual 193, 3) := by decide +kernel
theorem dX9_lose_45 : decode cX9_lose 45 = .ok (.aload_n 0, 1) := by decide +kernel
theorem dX9_lose_46 : decode cX9_lose 46 = .ok (.invokevirtual 167, 3) := by decide +kernel
theorem dX9_lose_49 : decode cX9_lose 49 = .ok (.iload_n 3, 1) := by decide +kernel
theorem dX9_lose_50 : decode cX9_lose 50 = .ok (.ireturn, 1) := by decide +kernel
theorem dX9_down_0 : decode cX9_down 0 = .ok (.iload_n 1, 1) := by decide +kernel
theorem dX9_down_1 : decode cX9_down 1 = .ok (.ifCond .lt 9, 3) := by decide +kernel
theorem dX9_down_4 : decode cX9_down 4 = .ok (.iload_n 1, 1) := by decide +kernel
theorem dX9_down_5 : decode cX9_down 5 = .ok (.bipush 6, 2) := by decide +kernel
theorem dX9_down_7 : decode cX9_down 7 = .ok (.if_icmp .lt 9, 3) := by decide +kernel
theorem dX9_down_10 : decode cX9_down 10 = .ok (.aload_n 0, 1) := by decide +kernel
theorem dX9_down_11 : decode cX9_down 11 = .ok (.iconst (-1), 1) := by decide +kernel
theorem dX9_down_12 : decode cX9_down 12 = .ok (.invokevirtual 74, 3) := by decide +kernel
theorem dX9_down_15 : decode cX9_down 15 = .ok (.ireturn, 1) := by decide +kernel
theorem dX9_down_16 : decode cX9_down 16 = .ok (.iload_n 2, 1) := by decide +kernel
theorem dX9_down_17 : decode cX9_down 17 = .ok (.iconst (-1), 1) := by decide +kernel
theorem dX9_down_18 : decode cX9_down 18 = .ok (.if_icmp .ne 16, 3) := by decide +kernel
theorem dX9_down_21 : decode cX9_down 21 = .ok (.aload_n 0, 1) := by decide +kernel
theorem dX9_down_22 : decode cX9_down 22 = .ok (.getfield 22, 3) := by decide +kernel
theorem dX9_down_25 : decode cX9_down 25 = .ok (.iload_n 1, 1) := by decide +kernel
theorem dX9_down_26 : decode cX9_down 26 = .ok (.iconst (-1), 1) := by decide +kernel
theorem dX9_down_27 : decode cX9_down 27 = .ok (.iconst (-1), 1) := by decide +kernel
theorem dX9_down_28 : decode cX9_down 28 = .ok (.invokevirtual 196, 3) := by decide +kernel
theorem dX9_down_31 : decode cX9_down 31 = .ok (.goto 42, 3) := by decide +kernel
theorem dX9_down_34 : decode cX9_down 34 = .ok (.iload_n 2, 1) := by decide +kernel
theorem dX9_down_35 : decode cX9_down 35 = .ok (.invokestatic 200, 3) := by decide +kernel
theorem dX9_down_38 : decode cX9_down 38 = .ok (.ifCond .eq 28, 3) := by decide +kernel
theorem dX9_down_41 : decode cX9_down 41 = .ok (.iload_n 3, 1) := by decide +kernel
theorem dX9_down_42 : decode cX9_down 42 = .ok (.invokestatic 200, 3) := by decide +kernel
theorem dX9_down_45 : decode cX9_down 45 = .ok (.ifCond .eq 21, 3) := by decide +kernel
theorem dX9_down_48 : decode cX9_down 48 = .ok (.iload_n 2, 1) := by decide +kernel
theorem dX9_down_49 : decode cX9_down 49 = .ok (.iload_n 3, 1) := by decide +kernel
theorem dX9_down_50 : decode cX9_down 50 = .ok (.if_icmp .ge 16, 3) := by decide +kernel
theorem dX9_down_53 : decode cX9_down 53 = .ok (.aload_n 0, 1) := by decide +kernel
theorem dX9_down_54 : decode cX9_down 54 = .ok (.getfield 22, 3) := by decide +kernel
theorem dX9_down_57 : decode cX9_down 57 = .ok (.iload_n 1, 1) := by decide +kernel
theorem dX9_down_58 : decode cX9_down 58 = .ok (.iload_n 2, 1) := by decide +kernel
theorem dX9_down_59 : decode cX9_down 59 = .ok (.iload_n 3, 1) := by decide +kernel
theorem dX9_down_60 : decode cX9_down 60 = .ok (.invokevirtual 196, 3) := by decide +kernel
theorem dX9_down_63 : decode cX9_down 63 = .ok (.goto 10, 3) := by decide +kernel
theorem dX9_down_66 : decode cX9_down 66 = .ok (.aload_n 0, 1) := by decide +kernel
theorem dX9_down_67 : decode cX9_down 67 = .ok (.bipush (-6), 2) := by decide +kernel
theorem dX9_down_69 : decode cX9_down 69 = .ok (.invokevirtual 74, 3) := by decide +kernel
theorem dX9_down_72 : decode cX9_down 72 = .ok (.ireturn, 1) := by decide +kernel
theorem dX9_down_73 : decode cX9_down 73 = .ok (.aload_n 0, 1) := by decide +kernel
theorem dX9_down_74 : decode cX9_down 74 = .ok (.invokevirtual 167, 3) := by decide +kernel
theorem dX9_down_77 : decode cX9_down 77 = .ok (.iconst 1, 1) := by decide +kernel
theorem dX9_down_78 : decode cX9_down 78 = .ok (.ireturn, 1) := by decide +kernel
theorem dX9_told_0 : decode cX9_told 0 = .ok (.iload_n 1, 1) := by decide +kernel
theorem dX9_told_1 : decode cX9_told 1 = .ok (.tableswitch 99 0 7 #[47, 47, 47, 47, 56, 72, 83, 91], 47) := by decide +kernel
theorem dX9_told_48 : decode cX9_told 48 = .ok (.aload_n 0, 1) := by decide +kernel
theorem dX9_told_49 : decode cX9_told 49 = .ok (.getfield 22, 3) := by decide +kernel
theorem dX9_told_52 : decode cX9_told 52 = .ok (.iload_n 1, 1) := by decide +kernel
theorem dX9_told_53 : decode cX9_told 53 = .ok (.invokevirtual 173, 3) := by decide +kernel
theorem dX9_told_56 : decode cX9_told 56 = .ok (.ireturn, 1) := by decide +kernel
theorem dX9_told_57 : decode cX9_told 57 = .ok (.aload_n 0, 1) := by decide +kernel
theorem dX9_told_58 : decode cX9_told 58 = .ok (.getfield 22, 3) := by decide +kernel
theorem dX9_told_61 : decode cX9_told 61 = .ok (.getfield 203, 3) := by decide +kernel
theorem dX9_told_64 : decode cX9_told 64 = .ok (.aload_n 0, 1) := by decide +kernel
theorem dX9_told_65 : decode cX9_told 65 = .ok (.getfield 22, 3) := by decide +kernel
theorem dX9_told_68 : decode cX9_told 68 = .ok (.invokevirtual 206, 3) := by decide +kernel
theorem dX9_told_71 : decode cX9_told 71 = .ok (.iand, 1) := by decide +kernel
theorem dX9_told_72 : decode cX9_told 72 = .ok (.ireturn, 1) := by decide +kernel
theorem dX9_told_73 : decode cX9_told 73 = .ok (.aload_n 0, 1) := by decide +kernel
theorem dX9_told_74 : decode cX9_told 74 = .ok (.getfield 22, 3) := by decide +kernel
theorem dX9_told_77 : decode cX9_told 77 = .ok (.getfield 186, 3) := by decide +kernel
theorem dX9_told_80 : decode cX9_told 80 = .ok (.invokestatic 210, 3) := by decide +kernel
theorem dX9_told_83 : decode cX9_told 83 = .ok (.ireturn, 1) := by decide +kernel
theorem dX9_told_84 : decode cX9_told 84 = .ok (.aload_n 0, 1) := by decide +kernel
theorem dX9_told_85 : decode cX9_told 85 = .ok (.getfield 22, 3) := by decide +kernel
theorem dX9_told_88 : decode cX9_told 88 = .ok (.invokevirtual 216, 3) := by decide +kernel
theorem dX9_told_91 : decode cX9_told 91 = .ok (.ireturn, 1) := by decide +kernel
theorem dX9_told_92 : decode cX9_told 92 = .ok (.aload_n 0, 1) := by decide +kernel
theorem dX9_told_93 : decode cX9_told 93 = .ok (.getfield 22, 3) := by decide +kernel
theorem dX9_told_96 : decode cX9_told 96 = .ok (.getfield 219, 3) := by decide +kernel
theorem dX9_told_99 : decode cX9_told 99 = .ok (.ireturn, 1) := by decide +kernel
theorem dX9_told_100 : decode cX9_told 100 = .ok (.aload_n 0, 1) := by decide +kernel
theorem dX9_told_101 : decode cX9_told 101 = .ok (.bipush (-5), 2) := by decide +kernel
theorem dX9_told_103 : decode cX9_told 103 = .ok (.invokevirtual 74, 3) := by decide +kernel
theorem dX9_told_106 : decode cX9_told 106 = .ok (.ireturn, 1) := by decide +kernel
theorem dX9_drawn_0 : decode cX9_drawn 0 = .ok (.iload_n 1, 1) := by decide +kernel
theorem dX9_drawn_1 : decode cX9_drawn 1 = .ok (.iconst 1, 1) := by decide +kernel
theorem dX9_drawn_2 : decode cX9_drawn 2 = .ok (.if_icmp .lt 9, 3) := by decide +kernel
theorem dX9_drawn_5 : decode cX9_drawn 5 = .ok (.iload_n 1, 1) := by decide +kernel
theorem dX9_drawn_6 : decode cX9_drawn 6 = .ok (.bipush 20, 2) := by decide +kernel
theorem dX9_drawn_8 : decode cX9_drawn 8 = .ok (.if_icmp .le 10, 3) := by decide +kernel
theorem dX9_drawn_11 : decode cX9_drawn 11 = .ok (.aload_n 0, 1) := by decide +kernel
theorem dX9_drawn_12 : decode cX9_drawn 12 = .ok (.bipush (-6), 2) := by decide +kernel
theorem dX9_drawn_14 : decode cX9_drawn 14 = .ok (.invokevirtual 74, 3) := by decide +kernel
theorem dX9_drawn_17 : decode cX9_drawn 17 = .ok (.ireturn, 1) := by decide +kernel
theorem dX9_drawn_18 : decode cX9_drawn 18 = .ok (.iconst 0, 1) := by decide +kernel
theorem dX9_drawn_19 : decode cX9_drawn 19 = .ok (.istore_n 2, 1) := by decide +kernel
theorem dX9_drawn_20 : decode cX9_drawn 20 = .ok (.iload_n 2, 1) := by decide +kernel
theorem dX9_drawn_21 : decode cX9_drawn 21 = .ok (.iload_n 1, 1) := by decide +kernel
theorem dX9_drawn_22 : decode cX9_drawn 22 = .ok (.if_icmp .ge 26, 3) := by decide +kernel
theorem dX9_drawn_25 : decode cX9_drawn 25 = .ok (.aload_n 0, 1) := by decide +kernel
theorem dX9_drawn_26 : decode cX9_drawn 26 = .ok (.getfield 22, 3) := by decide +kernel
theorem dX9_drawn_29 : decode cX9_drawn 29 = .ok (.aload_n 0, 1) := by decide +kernel
theorem dX9_drawn_30 : decode cX9_drawn 30 = .ok (.getfield 22, 3) := by decide +kernel
theorem dX9_drawn_33 : decode cX9_drawn 33 = .ok (.bipush 60, 2) := by decide +kernel
theorem dX9_drawn_35 : decode cX9_drawn 35 = .ok (.invokevirtual 222, 3) := by decide +kernel
theorem dX9_drawn_38 : decode cX9_drawn 38 = .ok (.iconst 1, 1) := by decide +kernel
theorem dX9_drawn_39 : decode cX9_drawn 39 = .ok (.invokevirtual 193, 3) := by decide +kernel
theorem dX9_drawn_42 : decode cX9_drawn 42 = .ok (.iinc 2 1, 3) := by decide +kernel
theorem dX9_drawn_45 : decode cX9_drawn 45 = .ok (.goto (-25), 3) := by decide +kernel
theorem dX9_drawn_48 : decode cX9_drawn 48 = .ok (.aload_n 0, 1) := by decide +kernel
theorem dX9_drawn_49 : decode cX9_drawn 49 = .ok (.invokevirtual 167, 3) := by decide +kernel
theorem dX9_drawn_52 : decode cX9_drawn 52 = .ok (.aload_n 0, 1) := by decide +kernel
theorem dX9_drawn_53 : decode cX9_drawn 53 = .ok (.getfield 22, 3) := by decide +kernel
theorem dX9_drawn_56 : decode cX9_drawn 56 = .ok (.getfield 186, 3) := by decide +kernel
theorem dX9_drawn_59 : decode cX9_drawn 59 = .ok (.invokestatic 210, 3) := by decide +kernel
theorem dX9_drawn_62 : decode cX9_drawn 62 = .ok (.ireturn, 1) := by decide +kernel
theorem dX9_seed_0 : decode cX9_seed 0 = .ok (.aload_n 0, 1) := by decide +kernel
theorem dX9_seed_1 : decode cX9_seed 1 = .ok (.getfield 22, 3) := by decide +kernel
theorem dX9_seed_4 : decode cX9_seed 4 = .ok (.getfield 219, 3) := by decide +kernel
theorem dX9_seed_7 : decode cX9_seed 7 = .ok (.istore_n 2, 1) := by decide +kernel
theorem dX9_seed_8 : decode cX9_seed 8 = .ok (.aload_n 0, 1) := by decide +kernel
theorem dX9_seed_9 : decode cX9_seed 9 = .ok (.getfield 22, 3) := by decide +kernel
theorem dX9_seed_12 : decode cX9_seed 12 = .ok (.iload_n 1, 1) := by decide +kernel
theorem dX9_seed_13 : decode cX9_seed 13 = .ok (.putfield 219, 3) := by decide +kernel
theorem dX9_seed_16 : decode cX9_seed 16 = .ok (.iload_n 2, 1) := by decide +kernel
theorem dX9_seed_17 : decode cX9_seed 17 = .ok (.ireturn, 1) := by decide +kernel
theorem dX9_image_0 : decode cX9_image 0 = .ok (.aload_n 0, 1) := by decide +kernel
theorem dX9_image_1 : decode cX9_image 1 = .ok (.getfield 26, 3) := by decide +kernel
theorem dX9_image_4 : decode cX9_image 4 = .ok (.aload_n 0, 1) := by decide +kernel
theorem dX9_image_5 : decode cX9_image 5 = .ok (.getfield 22, 3) := by decide +kernel
theorem dX9_image_8 : decode cX9_image 8 = .ok (.invokevirtual 157, 3) := by decide +kernel
theorem dX9_image_11 : decode cX9_image 11 = .ok (.aload_n 0, 1) := by decide +kernel
theorem dX9_image_12 : decode cX9_image 12 = .ok (.iconst 1, 1) := by decide +kernel
theorem dX9_image_13 : decode cX9_image 13 = .ok (.putfield 29, 3) := by decide +kernel
theorem dX9_image_16 : decode cX9_image 16 = .ok (.iconst 1, 1) := by decide +kernel
theorem dX9_image_17 : decode cX9_image 17 = .ok (.ireturn, 1) := by decide +kernel
theorem dX9_restore_0 : decode cX9_restore 0 = .ok (.aload_n 0, 1) := by decide +kernel
theorem dX9_restore_1 : decode cX9_restore 1 = .ok (.getfield 29, 3) := by decide +kernel
theorem dX9_restore_4 : decode cX9_restore 4 = .ok (.ifCond .ne 10, 3) := by decide +kernel
theorem dX9_restore_7 : decode cX9_restore 7 = .ok (.aload_n 0, 1) := by decide +kernel
theorem dX9_restore_8 : decode cX9_restore 8 = .ok (.bipush (-6), 2) := by decide +kernel
theorem dX9_restore_10 : decode cX9_restore 10 = .ok (.invokevirtual 74, 3) := by decide +kernel
theorem dX9_restore_13 : decode cX9_restore 13 = .ok (.ireturn, 1) := by decide +kernel
theorem dX9_restore_14 : decode cX9_restore 14 = .ok (.aload_n 0, 1) := by decide +kernel
theorem dX9_restore_15 : decode cX9_restore 15 = .ok (.getfield 22, 3) := by decide +kernel
theorem dX9_restore_18 : decode cX9_restore 18 = .ok (.aload_n 0, 1) := by decide +kernel
theorem dX9_restore_19 : decode cX9_restore 19 = .ok (.getfield 26, 3) := by decide +kernel
theorem dX9_restore_22 : decode cX9_restore 22 = .ok (.invokevirtual 157, 3) := by decide +kernel
theorem dX9_restore_25 : decode cX9_restore 25 = .ok (.aload_n 0, 1) := by decide +kernel
theorem dX9_restore_26 : decode cX9_restore 26 = .ok (.invokevirtual 167, 3) := by decide +kernel
theorem dX9_restore_29 : decode cX9_restore 29 = .ok (.iconst 1, 1) := by decide +kernel
theorem dX9_restore_30 : decode cX9_restore 30 = .ok (.ireturn, 1) := by decide +kernel
theorem dX9_state_0 : decode cX9_state 0 = .ok (.aload_n 0, 1) := by decide +kernel
theorem dX9_state_1 : decode cX9_state 1 = .ok (.iload_n 1, 1) := by decide +kernel
theorem dX9_state_2 : decode cX9_state 2 = .ok (.iload_n 2, 1) := by decide +kernel
theorem dX9_state_3 : decode cX9_state 3 = .ok (.invokevirtual 225, 3) := by decide +kernel
theorem dX9_state_6 : decode cX9_state 6 = .ok (.istore_n 3, 1) := by decide +kernel
theorem dX9_state_7 : decode cX9_state 7 = .ok (.iload_n 3, 1) := by decide +kernel
theorem dX9_state_8 : decode cX9_state 8 = .ok (.ifCond .eq 11, 3) := by decide +kernel
theorem dX9_state_11 : decode cX9_state 11 = .ok (.aload_n 0, 1) := by decide +kernel
theorem dX9_state_12 : decode cX9_state 12 = .ok (.iload_n 3, 1) := by decide +kernel
theorem dX9_state_13 : decode cX9_state 13 = .ok (.invokevirtual 74, 3) := by decide +kernel
theorem dX9_state_16 : decode cX9_state 16 = .ok (.goto 12, 3) := by decide +kernel
theorem dX9_state_19 : decode cX9_state 19 = .ok (.aload_n 0, 1) := by decide +kernel
theorem dX9_state_20 : decode cX9_state 20 = .ok (.invokevirtual 113, 3) := by decide +kernel
theorem dX9_state_23 : decode cX9_state 23 = .ok (.iload_n 1, 1) := by decide +kernel
theorem dX9_state_24 : decode cX9_state 24 = .ok (.iload_n 2, 1) := by decide +kernel
theorem dX9_state_25 : decode cX9_state 25 = .ok (.invokevirtual 228, 3) := by decide +kernel
theorem dX9_state_28 : decode cX9_state 28 = .ok (.ireturn, 1) := by decide +kernel
theorem dX9_decided_0 : decode cX9_decided 0 = .ok (.aload_n 0, 1) := by decide +kernel
theorem dX9_decided_1 : decode cX9_decided 1 = .ok (.iload_n 1, 1) := by decide +kernel
theorem dX9_decided_2 : decode cX9_decided 2 = .ok (.iload_n 2, 1) := by decide +kernel
theorem dX9_decided_3 : decode cX9_decided 3 = .ok (.invokevirtual 225, 3) := by decide +kernel
theorem dX9_decided_6 : decode cX9_decided 6 = .ok (.istore_n 3, 1) := by decide +kernel
theorem dX9_decided_7 : decode cX9_decided 7 = .ok (.iload_n 3, 1) := by decide +kernel
theorem dX9_decided_8 : decode cX9_decided 8 = .ok (.ifCond .eq 11, 3) := by decide +kernel
theorem dX9_decided_11 : decode cX9_decided 11 = .ok (.aload_n 0, 1) := by decide +kernel
theorem dX9_decided_12 : decode cX9_decided 12 = .ok (.iload_n 3, 1) := by decide +kernel
theorem dX9_decided_13 : decode cX9_decided 13 = .ok (.invokevirtual 74, 3) := by decide +kernel
theorem dX9_decided_16 : decode cX9_decided 16 = .ok (.goto 12, 3) := by decide +kernel
theorem dX9_decided_19 : decode cX9_decided 19 = .ok (.aload_n 0, 1) := by decide +kernel
theorem dX9_decided_20 : decode cX9_decided 20 = .ok (.invokevirtual 113, 3) := by decide +kernel
theorem dX9_decided_23 : decode cX9_decided 23 = .ok (.iload_n 1, 1) := by decide +kernel
theorem dX9_decided_24 : decode cX9_decided 24 = .ok (.iload_n 2, 1) := by decide +kernel
theorem dX9_decided_25 : decode cX9_decided 25 = .ok (.invokevirtual 231, 3) := by decide +kernel
theorem dX9_decided_28 : decode cX9_decided 28 = .ok (.ireturn, 1) := by decide +kernel
theorem dX9_records_0 : decode cX9_records 0 = .ok (.aload_n 0, 1) := by decide +kernel
theorem dX9_records_1 : decode cX9_records 1 = .ok (.iload_n 1, 1) := by decide +kernel
theorem dX9_records_2 : decode cX9_records 2 = .ok (.iload_n 2, 1) := by decide +kernel
theorem dX9_records_3 : decode cX9_records 3 = .ok (.invokevirtual 225, 3) := by decide +kernel
theorem dX9_records_6 : decode cX9_records 6 = .ok (.istore_n 3, 1) := by decide +kernel
theorem dX9_records_7 : decode cX9_records 7 = .ok (.iload_n 3, 1) := by decide +kernel
theorem dX9_records_8 : decode cX9_records 8 = .ok (.ifCond .eq 11, 3) := by decide +kernel
theorem dX9_records_11 : decode cX9_records 11 = .ok (.aload_n 0, 1) := by decide +kernel
theorem dX9_records_12 : decode cX9_records 12 = .ok (.iload_n 3, 1) := by decide +kernel
theorem dX9_records_13 : decode cX9_records 13 = .ok (.invokevirtual 74, 3) := by decide +kernel
theorem dX9_records_16 : decode cX9_records 16 = .ok (.goto 12, 3) := by decide +kernel
theorem dX9_records_19 : decode cX9_records 19 = .ok (.aload_n 0, 1) := by decide +kernel
theorem dX9_records_20 : decode cX9_records 20 = .ok (.invokevirtual 113, 3) := by decide +kernel
theorem dX9_records_23 : decode cX9_records 23 = .ok (.iload_n 1, 1) := by decide +kernel
theorem dX9_records_24 : decode cX9_records 24 = .ok (.iload_n 2, 1) := by decide +kernel
theorem dX9_records_25 : decode cX9_records 25 = .ok (.invokevirtual 234, 3) := by decide +kernel
theorem dX9_records_28 : decode cX9_records 28 = .ok (.ireturn, 1) := by decide +kernel
theorem dX9_record_0 : decode cX9_record 0 = .ok (.aload_n 0, 1) := by decide +kernel
theorem dX9_record_1 : decode cX9_record 1 = .ok (.iload_n 1, 1) := by decide +kernel
theorem dX9_record_2 : decode cX9_record 2 = .ok (.invokevirtual 237, 3) := by decide +kernel
theorem dX9_record_5 : decode cX9_record 5 = .ok (.ifCond .ne 9, 3) := by decide +kernel
theorem dX9_record_8 : decode cX9_record 8 = .ok (.aload_n 0, 1) := by decide +kernel
theorem dX9_record_9 : decode cX9_record 9 = .ok (.iconst (-1), 1) := by decide +kernel
theorem dX9_record_10 : decode cX9_record 10 = .ok (.invokevirtual 74, 3) := by decide +kernel
theorem dX9_record_13 : decode cX9_record 13 = .ok (.ireturn, 1) := by decide +kernel
theorem dX9_record_14 : decode cX9_record 14 = .ok (.aload_n 0, 1) := by decide +kernel
theorem dX9_record_15 : decode cX9_record 15 = .ok (.invokevirtual 113, 3) := by decide +kernel
theorem dX9_record_18 : decode cX9_record 18 = .ok (.getfield 240, 3) := by decide +kernel
theorem dX9_record_21 : decode cX9_record 21 = .ok (.iload_n 1, 1) := by decide +kernel
theorem dX9_record_22 : decode cX9_record 22 = .ok (.aaload, 1) := by decide +kernel
theorem dX9_record_23 : decode cX9_record 23 = .ok (.astore_n 3, 1) := by decide +kernel
theorem dX9_record_24 : decode cX9_record 24 = .ok (.iload_n 2, 1) := by decide +kernel
theorem dX9_record_25 : decode cX9_record 25 = .ok (.ifCond .lt 11, 3) := by decide +kernel
theorem dX9_record_28 : decode cX9_record 28 = .ok (.iload_n 2, 1) := by decide +kernel
theorem dX9_record_29 : decode cX9_record 29 = .ok (.aload_n 3, 1) := by decide +kernel
theorem dX9_record_30 : decode cX9_record 30 = .ok (.getfield 244, 3) := by decide +kernel
theorem dX9_record_33 : decode cX9_record 33 = .ok (.if_icmp .lt 10, 3) := by decide +kernel
theorem dX9_record_36 : decode cX9_record 36 = .ok (.aload_n 0, 1) := by decide +kernel
theorem dX9_record_37 : decode cX9_record 37 = .ok (.bipush (-5), 2) := by decide +kernel
theorem dX9_record_39 : decode cX9_record 39 = .ok (.invokevirtual 74, 3) := by decide +kernel
theorem dX9_record_42 : decode cX9_record 42 = .ok (.ireturn, 1) := by decide +kernel
theorem dX9_record_43 : decode cX9_record 43 = .ok (.aload_n 3, 1) := by decide +kernel
theorem dX9_record_44 : decode cX9_record 44 = .ok (.getfield 249, 3) := by decide +kernel
theorem dX9_record_47 : decode cX9_record 47 = .ok (.iload_n 2, 1) := by decide +kernel
theorem dX9_record_48 : decode cX9_record 48 = .ok (.iaload, 1) := by decide +kernel
theorem dX9_record_49 : decode cX9_record 49 = .ok (.ireturn, 1) := by decide +kernel
theorem dX9_sent_0 : decode cX9_sent 0 = .ok (.iload_n 1, 1) := by decide +kernel
theorem dX9_sent_1 : decode cX9_sent 1 = .ok (.invokestatic 200, 3) := by decide +kernel
theorem dX9_sent_4 : decode cX9_sent 4 = .ok (.ifCond .eq 14, 3) := by decide +kernel
theorem dX9_sent_7 : decode cX9_sent 7 = .ok (.aload_n 0, 1) := by decide +kernel
theorem dX9_sent_8 : decode cX9_sent 8 = .ok (.invokevirtual 113, 3) := by decide +kernel
theorem dX9_sent_11 : decode cX9_sent 11 = .ok (.iload_n 1, 1) := by decide +kernel
theorem dX9_sent_12 : decode cX9_sent 12 = .ok (.invokevirtual 252, 3) := by decide +kernel
theorem dX9_sent_15 : decode cX9_sent 15 = .ok (.goto 9, 3) := by decide +kernel
theorem dX9_sent_18 : decode cX9_sent 18 = .ok (.aload_n 0, 1) := by decide +kernel
theorem dX9_sent_19 : decode cX9_sent 19 = .ok (.bipush (-6), 2) := by decide +kernel
theorem dX9_sent_21 : decode cX9_sent 21 = .ok (.invokevirtual 74, 3) := by decide +kernel
theorem dX9_sent_24 : decode cX9_sent 24 = .ok (.ireturn, 1) := by decide +kernel
theorem dX9_message_0 : decode cX9_message 0 = .ok (.aload_n 0, 1) := by decide +kernel
theorem dX9_message_1 : decode cX9_message 1 = .ok (.invokevirtual 113, 3) := by decide +kernel
theorem dX9_message_4 : decode cX9_message 4 = .ok (.iload_n 1, 1) := by decide +kernel
theorem dX9_message_5 : decode cX9_message 5 = .ok (.invokevirtual 117, 3) := by decide +kernel
theorem dX9_message_8 : decode cX9_message 8 = .ok (.ifCond .ne 10, 3) := by decide +kernel
theorem dX9_message_11 : decode cX9_message 11 = .ok (.aload_n 0, 1) := by decide +kernel
theorem dX9_message_12 : decode cX9_message 12 = .ok (.bipush (-5), 2) := by decide +kernel
theorem dX9_message_14 : decode cX9_message 14 = .ok (.invokevirtual 74, 3) := by decide +kernel
theorem dX9_message_17 : decode cX9_message 17 = .ok (.ireturn, 1) := by decide +kernel
theorem dX9_message_18 : decode cX9_message 18 = .ok (.iload_n 2, 1) := by decide +kernel
theorem dX9_message_19 : decode cX9_message 19 = .ok (.tableswitch 83 0 4 #[33, 43, 53, 63, 73], 33) := by decide +kernel
theorem dX9_message_52 : decode cX9_message 52 = .ok (.aload_n 0, 1) := by decide +kernel
theorem dX9_message_53 : decode cX9_message 53 = .ok (.getfield 49, 3) := by decide +kernel
theorem dX9_message_56 : decode cX9_message 56 = .ok (.getfield 120, 3) := by decide +kernel
theorem dX9_message_59 : decode cX9_message 59 = .ok (.iload_n 1, 1) := by decide +kernel
theorem dX9_message_60 : decode cX9_message 60 = .ok (.iaload, 1) := by decide +kernel
theorem dX9_message_61 : decode cX9_message 61 = .ok (.ireturn, 1) := by decide +kernel
theorem dX9_message_62 : decode cX9_message 62 = .ok (.aload_n 0, 1) := by decide +kernel
theorem dX9_message_63 : decode cX9_message 63 = .ok (.getfield 49, 3) := by decide +kernel
theorem dX9_message_66 : decode cX9_message 66 = .ok (.getfield 123, 3) := by decide +kernel
theorem dX9_message_69 : decode cX9_message 69 = .ok (.iload_n 1, 1) := by decide +kernel
theorem dX9_message_70 : decode cX9_message 70 = .ok (.iaload, 1) := by decide +kernel
theorem dX9_message_71 : decode cX9_message 71 = .ok (.ireturn, 1) := by decide +kernel
theorem dX9_message_72 : decode cX9_message 72 = .ok (.aload_n 0, 1) := by decide +kernel
theorem dX9_message_73 : decode cX9_message 73 = .ok (.getfield 49, 3) := by decide +kernel
theorem dX9_message_76 : decode cX9_message 76 = .ok (.getfield 126, 3) := by decide +kernel
theorem dX9_message_79 : decode cX9_message 79 = .ok (.iload_n 1, 1) := by decide +kernel
theorem dX9_message_80 : decode cX9_message 80 = .ok (.iaload, 1) := by decide +kernel
theorem dX9_message_81 : decode cX9_message 81 = .ok (.ireturn, 1) := by decide +kernel
theorem dX9_message_82 : decode cX9_message 82 = .ok (.aload_n 0, 1) := by decide +kernel
theorem dX9_message_83 : decode cX9_message 83 = .ok (.getfield 49, 3) := by decide +kernel
theorem dX9_message_86 : decode cX9_message 86 = .ok (.getfield 129, 3) := by decide +kernel
theorem dX9_message_89 : decode cX9_message 89 = .ok (.iload_n 1, 1) := by decide +kernel
theorem dX9_message_90 : decode cX9_message 90 = .ok (.iaload, 1) := by decide +kernel
theorem dX9_message_91 : decode cX9_message 91 = .ok (.ireturn, 1) := by decide +kernel
theorem dX9_message_92 : decode cX9_message 92 = .ok (.aload_n 0, 1) := by decide +kernel
theorem dX9_message_93 : decode cX9_message 93 = .ok (.getfield 49, 3) := by decide +kernel
theorem dX9_message_96 : decode cX9_message 96 = .ok (.getfield 255, 3) := by decide +kernel
theorem dX9_message_99 : decode cX9_message 99 = .ok (.iload_n 1, 1) := by decide +kernel
theorem dX9_message_100 : decode cX9_message 100 = .ok (.iaload, 1) := by decide +kernel
theorem dX9_message_101 : decode cX9_message 101 = .ok (.ireturn, 1) := by decide +kernel
theorem dX9_message_102 : decode cX9_message 102 = .ok (.aload_n 0, 1) := by decide +kernel
theorem dX9_message_103 : decode cX9_message 103 = .ok (.bipush (-5), 2) := by decide +kernel
theorem dX9_message_105 : decode cX9_message 105 = .ok (.invokevirtual 74, 3) := by decide +kernel
theorem dX9_message_108 : decode cX9_message 108 = .ok (.ireturn, 1) := by decide +kernel
theorem dX9_alike_0 : decode cX9_alike 0 = .ok (.iload_n 1, 1) := by decide +kernel
theorem dX9_alike_1 : decode cX9_alike 1 = .ok (.invokestatic 200, 3) := by decide +kernel
theorem dX9_alike_4 : decode cX9_alike 4 = .ok (.ifCond .ne 10, 3) := by decide +kernel
theorem dX9_alike_7 : decode cX9_alike 7 = .ok (.aload_n 0, 1) := by decide +kernel
theorem dX9_alike_8 : decode cX9_alike 8 = .ok (.bipush (-6), 2) := by decide +kernel
theorem dX9_alike_10 : decode cX9_alike 10 = .ok (.invokevirtual 74, 3) := by decide +kernel
theorem dX9_alike_13 : decode cX9_alike 13 = .ok (.ireturn, 1) := by decide +kernel
theorem dX9_alike_14 : decode cX9_alike 14 = .ok (.aload_n 0, 1) := by decide +kernel
theorem dX9_alike_15 : decode cX9_alike 15 = .ok (.invokevirtual 113, 3) := by decide +kernel
theorem dX9_alike_18 : decode cX9_alike 18 = .ok (.iload_n 1, 1) := by decide +kernel
theorem dX9_alike_19 : decode cX9_alike 19 = .ok (.invokevirtual 258, 3) := by decide +kernel
theorem dX9_alike_22 : decode cX9_alike 22 = .ok (.ifCond .eq 7, 3) := by decide +kernel
theorem dX9_alike_25 : decode cX9_alike 25 = .ok (.iconst 1, 1) := by decide +kernel
theorem dX9_alike_26 : decode cX9_alike 26 = .ok (.goto 4, 3) := by decide +kernel
theorem dX9_alike_29 : decode cX9_alike 29 = .ok (.iconst 0, 1) := by decide +kernel
theorem dX9_alike_30 : decode cX9_alike 30 = .ok (.ireturn, 1) := by decide +kernel
theorem dX9_blocked_0 : decode cX9_blocked 0 = .ok (.aload_n 0, 1) := by decide +kernel
theorem dX9_blocked_1 : decode cX9_blocked 1 = .ok (.invokevirtual 113, 3) := by decide +kernel
theorem dX9_blocked_4 : decode cX9_blocked 4 = .ok (.invokevirtual 261, 3) := by decide +kernel
theorem dX9_blocked_7 : decode cX9_blocked 7 = .ok (.ireturn, 1) := by decide +kernel
theorem dX9_quiet_0 : decode cX9_quiet 0 = .ok (.aload_n 0, 1) := by decide +kernel
theorem dX9_quiet_1 : decode cX9_quiet 1 = .ok (.invokevirtual 113, 3) := by decide +kernel
theorem dX9_quiet_4 : decode cX9_quiet 4 = .ok (.invokevirtual 264, 3) := by decide +kernel
theorem dX9_quiet_7 : decode cX9_quiet 7 = .ok (.ireturn, 1) := by decide +kernel
theorem dX9_harm_0 : decode cX9_harm 0 = .ok (.iload_n 1, 1) := by decide +kernel
theorem dX9_harm_1 : decode cX9_harm 1 = .ok (.ifCond .lt 8, 3) := by decide +kernel
theorem dX9_harm_4 : decode cX9_harm 4 = .ok (.iload_n 1, 1) := by decide +kernel
theorem dX9_harm_5 : decode cX9_harm 5 = .ok (.iconst 1, 1) := by decide +kernel
theorem dX9_harm_6 : decode cX9_harm 6 = .ok (.if_icmp .le 10, 3) := by decide +kernel
theorem dX9_harm_9 : decode cX9_harm 9 = .ok (.aload_n 0, 1) := by decide +kernel
theorem dX9_harm_10 : decode cX9_harm 10 = .ok (.bipush (-5), 2) := by decide +kernel
theorem dX9_harm_12 : decode cX9_harm 12 = .ok (.invokevirtual 74, 3) := by decide +kernel
theorem dX9_harm_15 : decode cX9_harm 15 = .ok (.ireturn, 1) := by decide +kernel
theorem dX9_harm_16 : decode cX9_harm 16 = .ok (.aload_n 0, 1) := by decide +kernel
theorem dX9_harm_17 : decode cX9_harm 17 = .ok (.aload_n 0, 1) := by decide +kernel
theorem dX9_harm_18 : decode cX9_harm 18 = .ok (.invokevirtual 113, 3) := by decide +kernel
theorem dX9_harm_21 : decode cX9_harm 21 = .ok (.invokevirtual 267, 3) := by decide +kernel
theorem dX9_harm_24 : decode cX9_harm 24 = .ok (.aload_n 0, 1) := by decide +kernel
theorem dX9_harm_25 : decode cX9_harm 25 = .ok (.getfield 62, 3) := by decide +kernel
theorem dX9_harm_28 : decode cX9_harm 28 = .ok (.iload_n 1, 1) := by decide +kernel
theorem dX9_harm_29 : decode cX9_harm 29 = .ok (.invokestatic 271, 3) := by decide +kernel
theorem dX9_harm_32 : decode cX9_harm 32 = .ok (.ireturn, 1) := by decide +kernel
theorem dX9_block_0 : decode cX9_block 0 = .ok (.iload_n 1, 1) := by decide +kernel
theorem dX9_block_1 : decode cX9_block 1 = .ok (.ifCond .lt 8, 3) := by decide +kernel
theorem dX9_block_4 : decode cX9_block 4 = .ok (.iload_n 1, 1) := by decide +kernel
theorem dX9_block_5 : decode cX9_block 5 = .ok (.iconst 1, 1) := by decide +kernel
theorem dX9_block_6 : decode cX9_block 6 = .ok (.if_icmp .le 10, 3) := by decide +kernel
theorem dX9_block_9 : decode cX9_block 9 = .ok (.aload_n 0, 1) := by decide +kernel
theorem dX9_block_10 : decode cX9_block 10 = .ok (.bipush (-5), 2) := by decide +kernel
theorem dX9_block_12 : decode cX9_block 12 = .ok (.invokevirtual 74, 3) := by decide +kernel
theorem dX9_block_15 : decode cX9_block 15 = .ok (.ireturn, 1) := by decide +kernel
theorem dX9_block_16 : decode cX9_block 16 = .ok (.aload_n 0, 1) := by decide +kernel
theorem dX9_block_17 : decode cX9_block 17 = .ok (.aload_n 0, 1) := by decide +kernel
theorem dX9_block_18 : decode cX9_block 18 = .ok (.invokevirtual 113, 3) := by decide +kernel
theorem dX9_block_21 : decode cX9_block 21 = .ok (.invokevirtual 267, 3) := by decide +kernel
theorem dX9_block_24 : decode cX9_block 24 = .ok (.aload_n 0, 1) := by decide +kernel
theorem dX9_block_25 : decode cX9_block 25 = .ok (.getfield 66, 3) := by decide +kernel
theorem dX9_block_28 : decode cX9_block 28 = .ok (.iload_n 1, 1) := by decide +kernel
theorem dX9_block_29 : decode cX9_block 29 = .ok (.invokestatic 271, 3) := by decide +kernel
theorem dX9_block_32 : decode cX9_block 32 = .ok (.ireturn, 1) := by decide +kernel
theorem dX9_recovery_0 : decode cX9_recovery 0 = .ok (.aload_n 0, 1) := by decide +kernel
theorem dX9_recovery_1 : decode cX9_recovery 1 = .ok (.iload_n 1, 1) := by decide +kernel
theorem dX9_recovery_2 : decode cX9_recovery 2 = .ok (.invokevirtual 237, 3) := by decide +kernel
theorem dX9_recovery_5 : decode cX9_recovery 5 = .ok (.ifCond .ne 9, 3) := by decide +kernel
theorem dX9_recovery_8 : decode cX9_recovery 8 = .ok (.aload_n 0, 1) := by decide +kernel
theorem dX9_recovery_9 : decode cX9_recovery 9 = .ok (.iconst (-1), 1) := by decide +kernel
theorem dX9_recovery_10 : decode cX9_recovery 10 = .ok (.invokevirtual 74, 3) := by decide +kernel
theorem dX9_recovery_13 : decode cX9_recovery 13 = .ok (.ireturn, 1) := by decide +kernel
theorem dX9_recovery_14 : decode cX9_recovery 14 = .ok (.aload_n 0, 1) := by decide +kernel
theorem dX9_recovery_15 : decode cX9_recovery 15 = .ok (.invokevirtual 113, 3) := by decide +kernel
theorem dX9_recovery_18 : decode cX9_recovery 18 = .ok (.getfield 240, 3) := by decide +kernel
theorem dX9_recovery_21 : decode cX9_recovery 21 = .ok (.iload_n 1, 1) := by decide +kernel
theorem dX9_recovery_22 : decode cX9_recovery 22 = .ok (.aaload, 1) := by decide +kernel
theorem dX9_recovery_23 : decode cX9_recovery 23 = .ok (.astore_n 3, 1) := by decide +kernel
theorem dX9_recovery_24 : decode cX9_recovery 24 = .ok (.iload_n 2, 1) := by decide +kernel
theorem dX9_recovery_25 : decode cX9_recovery 25 = .ok (.ifCond .lt 11, 3) := by decide +kernel
theorem dX9_recovery_28 : decode cX9_recovery 28 = .ok (.iload_n 2, 1) := by decide +kernel
theorem dX9_recovery_29 : decode cX9_recovery 29 = .ok (.aload_n 3, 1) := by decide +kernel
theorem dX9_recovery_30 : decode cX9_recovery 30 = .ok (.getfield 244, 3) := by decide +kernel
theorem dX9_recovery_33 : decode cX9_recovery 33 = .ok (.if_icmp .le 10, 3) := by decide +kernel
theorem dX9_recovery_36 : decode cX9_recovery 36 = .ok (.aload_n 0, 1) := by decide +kernel
theorem dX9_recovery_37 : decode cX9_recovery 37 = .ok (.bipush (-5), 2) := by decide +kernel
theorem dX9_recovery_39 : decode cX9_recovery 39 = .ok (.invokevirtual 74, 3) := by decide +kernel
theorem dX9_recovery_42 : decode cX9_recovery 42 = .ok (.ireturn, 1) := by decide +kernel
theorem dX9_recovery_43 : decode cX9_recovery 43 = .ok (.iload_n 2, 1) := by decide +kernel
theorem dX9_recovery_44 : decode cX9_recovery 44 = .ok (.ifCond .ne 7, 3) := by decide +kernel
theorem dX9_recovery_47 : decode cX9_recovery 47 = .ok (.iconst 0, 1) := by decide +kernel
theorem dX9_recovery_48 : decode cX9_recovery 48 = .ok (.goto 11, 3) := by decide +kernel
theorem dX9_recovery_51 : decode cX9_recovery 51 = .ok (.aload_n 3, 1) := by decide +kernel
theorem dX9_recovery_52 : decode cX9_recovery 52 = .ok (.getfield 249, 3) := by decide +kernel
theorem dX9_recovery_55 : decode cX9_recovery 55 = .ok (.iload_n 2, 1) := by decide +kernel
theorem dX9_recovery_56 : decode cX9_recovery 56 = .ok (.iconst 1, 1) := by decide +kernel
theorem dX9_recovery_57 : decode cX9_recovery 57 = .ok (.isub, 1) := by decide +kernel
theorem dX9_recovery_58 : decode cX9_recovery 58 = .ok (.iaload, 1) := by decide +kernel
theorem dX9_recovery_59 : decode cX9_recovery 59 = .ok (.istore 4, 2) := by decide +kernel
theorem dX9_recovery_61 : decode cX9_recovery 61 = .ok (.iload_n 1, 1) := by decide +kernel
theorem dX9_recovery_62 : decode cX9_recovery 62 = .ok (.ifCond .ne 18, 3) := by decide +kernel
theorem dX9_recovery_65 : decode cX9_recovery 65 = .ok (.iload 4, 2) := by decide +kernel
theorem dX9_recovery_67 : decode cX9_recovery 67 = .ok (.aload_n 0, 1) := by decide +kernel
theorem dX9_recovery_68 : decode cX9_recovery 68 = .ok (.getfield 22, 3) := by decide +kernel
theorem dX9_recovery_71 : decode cX9_recovery 71 = .ok (.getfield 275, 3) := by decide +kernel
theorem dX9_recovery_74 : decode cX9_recovery 74 = .ok (.invokestatic 278, 3) := by decide +kernel
theorem dX9_recovery_77 : decode cX9_recovery 77 = .ok (.goto 8, 3) := by decide +kernel
theorem dX9_recovery_80 : decode cX9_recovery 80 = .ok (.iload 4, 2) := by decide +kernel
theorem dX9_recovery_82 : decode cX9_recovery 82 = .ok (.invokestatic 284, 3) := by decide +kernel
theorem dX9_recovery_85 : decode cX9_recovery 85 = .ok (.ireturn, 1) := by decide +kernel
theorem dX9_spared_0 : decode cX9_spared 0 = .ok (.aload_n 0, 1) := by decide +kernel
theorem dX9_spared_1 : decode cX9_spared 1 = .ok (.invokevirtual 113, 3) := by decide +kernel
theorem dX9_spared_4 : decode cX9_spared 4 = .ok (.getfield 288, 3) := by decide +kernel
theorem dX9_spared_7 : decode cX9_spared 7 = .ok (.istore_n 1, 1) := by decide +kernel
theorem dX9_spared_8 : decode cX9_spared 8 = .ok (.aload_n 0, 1) := by decide +kernel
theorem dX9_spared_9 : decode cX9_spared 9 = .ok (.getfield 56, 3) := by decide +kernel
theorem dX9_spared_12 : decode cX9_spared 12 = .ok (.aload_n 0, 1) := by decide +kernel
theorem dX9_spared_13 : decode cX9_spared 13 = .ok (.getfield 22, 3) := by decide +kernel
theorem dX9_spared_16 : decode cX9_spared 16 = .ok (.getfield 186, 3) := by decide +kernel
theorem dX9_spared_19 : decode cX9_spared 19 = .ok (.aload_n 0, 1) := by decide +kernel
theorem dX9_spared_20 : decode cX9_spared 20 = .ok (.getfield 22, 3) := by decide +kernel
theorem dX9_spared_23 : decode cX9_spared 23 = .ok (.getfield 275, 3) := by decide +kernel
theorem dX9_spared_26 : decode cX9_spared 26 = .ok (.ifCond .ne 7, 3) := by decide +kernel
theorem dX9_spared_29 : decode cX9_spared 29 = .ok (.iconst 1, 1) := by decide +kernel
theorem dX9_spared_30 : decode cX9_spared 30 = .ok (.goto 4, 3) := by decide +kernel
theorem dX9_spared_33 : decode cX9_spared 33 = .ok (.iconst 0, 1) := by decide +kernel
theorem dX9_spared_34 : decode cX9_spared 34 = .ok (.invokevirtual 291, 3) := by decide +kernel
theorem dX9_spared_37 : decode cX9_spared 37 = .ok (.aload_n 0, 1) := by decide +kernel
theorem dX9_spared_38 : decode cX9_spared 38 = .ok (.getfield 22, 3) := by decide +kernel
theorem dX9_spared_41 : decode cX9_spared 41 = .ok (.getfield 275, 3) := by decide +kernel
theorem dX9_spared_44 : decode cX9_spared 44 = .ok (.ifCond .eq 15, 3) := by decide +kernel
theorem dX9_spared_47 : decode cX9_spared 47 = .ok (.aload_n 0, 1) := by decide +kernel
theorem dX9_spared_48 : decode cX9_spared 48 = .ok (.getfield 56, 3) := by decide +kernel
theorem dX9_spared_51 : decode cX9_spared 51 = .ok (.getfield 288, 3) := by decide +kernel
theorem dX9_spared_54 : decode cX9_spared 54 = .ok (.iload_n 1, 1) := by decide +kernel
theorem dX9_spared_55 : decode cX9_spared 55 = .ok (.isub, 1) := by decide +kernel
theorem dX9_spared_56 : decode cX9_spared 56 = .ok (.goto 12, 3) := by decide +kernel
theorem dX9_spared_59 : decode cX9_spared 59 = .ok (.iload_n 1, 1) := by decide +kernel
theorem dX9_spared_60 : decode cX9_spared 60 = .ok (.aload_n 0, 1) := by decide +kernel
theorem dX9_spared_61 : decode cX9_spared 61 = .ok (.getfield 56, 3) := by decide +kernel
theorem dX9_spared_64 : decode cX9_spared 64 = .ok (.getfield 288, 3) := by decide +kernel
theorem dX9_spared_67 : decode cX9_spared 67 = .ok (.isub, 1) := by decide +kernel
theorem dX9_spared_68 : decode cX9_spared 68 = .ok (.ireturn, 1) := by decide +kernel
theorem dX9_judge_0 : decode cX9_judge 0 = .ok (.aload_n 0, 1) := by decide +kernel
theorem dX9_judge_1 : decode cX9_judge 1 = .ok (.iload_n 1, 1) := by decide +kernel
theorem dX9_judge_2 : decode cX9_judge 2 = .ok (.iload_n 2, 1) := by decide +kernel
theorem dX9_judge_3 : decode cX9_judge 3 = .ok (.iload_n 3, 1) := by decide +kernel
theorem dX9_judge_4 : decode cX9_judge 4 = .ok (.invokevirtual 295, 3) := by decide +kernel
theorem dX9_judge_7 : decode cX9_judge 7 = .ok (.istore 4, 2) := by decide +kernel
theorem dX9_judge_9 : decode cX9_judge 9 = .ok (.iload 4, 2) := by decide +kernel
theorem dX9_judge_11 : decode cX9_judge 11 = .ok (.ifCond .eq 13, 3) := by decide +kernel
theorem dX9_judge_14 : decode cX9_judge 14 = .ok (.aload_n 0, 1) := by decide +kernel
theorem dX9_judge_15 : decode cX9_judge 15 = .ok (.iload 4, 2) := by decide +kernel
theorem dX9_judge_17 : decode cX9_judge 17 = .ok (.invokevirtual 74, 3) := by decide +kernel
theorem dX9_judge_20 : decode cX9_judge 20 = .ok (.bipush 10, 2) := by decide +kernel
theorem dX9_judge_22 : decode cX9_judge 22 = .ok (.isub, 1) := by decide +kernel
theorem dX9_judge_23 : decode cX9_judge 23 = .ok (.ireturn, 1) := by decide +kernel
theorem dX9_judge_24 : decode cX9_judge 24 = .ok (.iconst 0, 1) := by decide +kernel
theorem dX9_judge_25 : decode cX9_judge 25 = .ok (.istore 5, 2) := by decide +kernel
theorem dX9_judge_27 : decode cX9_judge 27 = .ok (.iload 5, 2) := by decide +kernel
theorem dX9_judge_29 : decode cX9_judge 29 = .ok (.iload_n 3, 1) := by decide +kernel
theorem dX9_judge_30 : decode cX9_judge 30 = .ok (.if_icmp .ge 36, 3) := by decide +kernel
theorem dX9_judge_33 : decode cX9_judge 33 = .ok (.aload_n 0, 1) := by decide +kernel
theorem dX9_judge_34 : decode cX9_judge 34 = .ok (.getfield 11, 3) := by decide +kernel
theorem dX9_judge_37 : decode cX9_judge 37 = .ok (.iload_n 1, 1) := by decide +kernel
theorem dX9_judge_38 : decode cX9_judge 38 = .ok (.aaload, 1) := by decide +kernel
theorem dX9_judge_39 : decode cX9_judge 39 = .ok (.iload 5, 2) := by decide +kernel
theorem dX9_judge_41 : decode cX9_judge 41 = .ok (.invokevirtual 299, 3) := by decide +kernel
theorem dX9_judge_44 : decode cX9_judge 44 = .ok (.aload_n 0, 1) := by decide +kernel
theorem dX9_judge_45 : decode cX9_judge 45 = .ok (.invokevirtual 113, 3) := by decide +kernel
theorem dX9_judge_48 : decode cX9_judge 48 = .ok (.iload 5, 2) := by decide +kernel
theorem dX9_judge_50 : decode cX9_judge 50 = .ok (.iload_n 2, 1) := by decide +kernel
theorem dX9_judge_51 : decode cX9_judge 51 = .ok (.invokevirtual 228, 3) := by decide +kernel
theorem dX9_judge_54 : decode cX9_judge 54 = .ok (.if_icmp .eq 6, 3) := by decide +kernel
theorem dX9_judge_57 : decode cX9_judge 57 = .ok (.iload 5, 2) := by decide +kernel
theorem dX9_judge_59 : decode cX9_judge 59 = .ok (.ireturn, 1) := by decide +kernel
theorem dX9_judge_60 : decode cX9_judge 60 = .ok (.iinc 5 1, 3) := by decide +kernel
theorem dX9_judge_63 : decode cX9_judge 63 = .ok (.goto (-36), 3) := by decide +kernel
theorem dX9_judge_66 : decode cX9_judge 66 = .ok (.iconst (-1), 1) := by decide +kernel
theorem dX9_judge_67 : decode cX9_judge 67 = .ok (.ireturn, 1) := by decide +kernel
theorem dX9_status_0 : decode cX9_status 0 = .ok (.iload_n 1, 1) := by decide +kernel
theorem dX9_status_1 : decode cX9_status 1 = .ok (.bipush 10, 2) := by decide +kernel
theorem dX9_status_3 : decode cX9_status 3 = .ok (.if_icmp .le 19, 3) := by decide +kernel
theorem dX9_status_6 : decode cX9_status 6 = .ok (.iload_n 1, 1) := by decide +kernel
theorem dX9_status_7 : decode cX9_status 7 = .ok (.bipush 17, 2) := by decide +kernel
theorem dX9_status_9 : decode cX9_status 9 = .ok (.if_icmp .gt 13, 3) := by decide +kernel
theorem dX9_status_12 : decode cX9_status 12 = .ok (.aload_n 0, 1) := by decide +kernel
theorem dX9_status_13 : decode cX9_status 13 = .ok (.getfield 15, 3) := by decide +kernel
theorem dX9_status_16 : decode cX9_status 16 = .ok (.iload_n 1, 1) := by decide +kernel
theorem dX9_status_17 : decode cX9_status 17 = .ok (.bipush 10, 2) := by decide +kernel
theorem dX9_status_19 : decode cX9_status 19 = .ok (.isub, 1) := by decide +kernel
theorem dX9_status_20 : decode cX9_status 20 = .ok (.iaload, 1) := by decide +kernel
theorem dX9_status_21 : decode cX9_status 21 = .ok (.ireturn, 1) := by decide +kernel
theorem dX9_status_22 : decode cX9_status 22 = .ok (.iload_n 1, 1) := by decide +kernel
theorem dX9_status_23 : decode cX9_status 23 = .ok (.ifCond .eq 5, 3) := by decide +kernel
theorem dX9_status_26 : decode cX9_status 26 = .ok (.iconst (-1), 1) := by decide +kernel
theorem dX9_status_27 : decode cX9_status 27 = .ok (.ireturn, 1) := by decide +kernel
theorem dX9_status_28 : decode cX9_status 28 = .ok (.iconst 0, 1) := by decide +kernel
theorem dX9_status_29 : decode cX9_status 29 = .ok (.istore_n 2, 1) := by decide +kernel
theorem dX9_status_30 : decode cX9_status 30 = .ok (.iconst 0, 1) := by decide +kernel
theorem dX9_status_31 : decode cX9_status 31 = .ok (.istore_n 3, 1) := by decide +kernel
theorem dX9_status_32 : decode cX9_status 32 = .ok (.iload_n 3, 1) := by decide +kernel
theorem dX9_status_33 : decode cX9_status 33 = .ok (.bipush 8, 2) := by decide +kernel
theorem dX9_status_35 : decode cX9_status 35 = .ok (.if_icmp .ge 24, 3) := by decide +kernel
theorem dX9_status_38 : decode cX9_status 38 = .ok (.aload_n 0, 1) := by decide +kernel
theorem dX9_status_39 : decode cX9_status 39 = .ok (.getfield 11, 3) := by decide +kernel
theorem dX9_status_42 : decode cX9_status 42 = .ok (.iload_n 3, 1) := by decide +kernel
theorem dX9_status_43 : decode cX9_status 43 = .ok (.aaload, 1) := by decide +kernel
theorem dX9_status_44 : decode cX9_status 44 = .ok (.invokevirtual 136, 3) := by decide +kernel
theorem dX9_status_47 : decode cX9_status 47 = .ok (.ifCond .ne 6, 3) := by decide +kernel
theorem dX9_status_50 : decode cX9_status 50 = .ok (.iinc 2 1, 3) := by decide +kernel
theorem dX9_status_53 : decode cX9_status 53 = .ok (.iinc 3 1, 3) := by decide +kernel
theorem dX9_status_56 : decode cX9_status 56 = .ok (.goto (-24), 3) := by decide +kernel
theorem dX9_status_59 : decode cX9_status 59 = .ok (.iload_n 2, 1) := by decide +kernel
theorem dX9_status_60 : decode cX9_status 60 = .ok (.ireturn, 1) := by decide +kernel
theorem dX9_refuse_0 : decode cX9_refuse 0 = .ok (.aload_n 0, 1) := by decide +kernel
theorem dX9_refuse_1 : decode cX9_refuse 1 = .ok (.getfield 15, 3) := by decide +kernel
theorem dX9_refuse_4 : decode cX9_refuse 4 = .ok (.iload_n 1, 1) := by decide +kernel
theorem dX9_refuse_5 : decode cX9_refuse 5 = .ok (.ineg, 1) := by decide +kernel
theorem dX9_refuse_6 : decode cX9_refuse 6 = .ok (.dup2, 1) := by decide +kernel
theorem dX9_refuse_7 : decode cX9_refuse 7 = .ok (.iaload, 1) := by decide +kernel
theorem dX9_refuse_8 : decode cX9_refuse 8 = .ok (.iconst 1, 1) := by decide +kernel
theorem dX9_refuse_9 : decode cX9_refuse 9 = .ok (.iadd, 1) := by decide +kernel
theorem dX9_refuse_10 : decode cX9_refuse 10 = .ok (.iastore, 1) := by decide +kernel
theorem dX9_refuse_11 : decode cX9_refuse 11 = .ok (.iload_n 1, 1) := by decide +kernel
theorem dX9_refuse_12 : decode cX9_refuse 12 = .ok (.ireturn, 1) := by decide +kernel
theorem dX9_isShelf_0 : decode cX9_isShelf 0 = .ok (.iload_n 0, 1) := by decide +kernel
theorem dX9_isShelf_1 : decode cX9_isShelf 1 = .ok (.ifCond .lt 13, 3) := by decide +kernel
theorem dX9_isShelf_4 : decode cX9_isShelf 4 = .ok (.iload_n 0, 1) := by decide +kernel
theorem dX9_isShelf_5 : decode cX9_isShelf 5 = .ok (.bipush 8, 2) := by decide +kernel
theorem dX9_isShelf_7 : decode cX9_isShelf 7 = .ok (.if_icmp .ge 7, 3) := by decide +kernel
theorem dX9_isShelf_10 : decode cX9_isShelf 10 = .ok (.iconst 1, 1) := by decide +kernel
theorem dX9_isShelf_11 : decode cX9_isShelf 11 = .ok (.goto 4, 3) := by decide +kernel
theorem dX9_isShelf_14 : decode cX9_isShelf 14 = .ok (.iconst 0, 1) := by decide +kernel
theorem dX9_isShelf_15 : decode cX9_isShelf 15 = .ok (.ireturn, 1) := by decide +kernel
theorem dX9_isTick_0 : decode cX9_isTick 0 = .ok (.iload_n 0, 1) := by decide +kernel
theorem dX9_isTick_1 : decode cX9_isTick 1 = .ok (.ifCond .lt 13, 3) := by decide +kernel
theorem dX9_isTick_4 : decode cX9_isTick 4 = .ok (.iload_n 0, 1) := by decide +kernel
theorem dX9_isTick_5 : decode cX9_isTick 5 = .ok (.bipush 60, 2) := by decide +kernel
theorem dX9_isTick_7 : decode cX9_isTick 7 = .ok (.if_icmp .gt 7, 3) := by decide +kernel
theorem dX9_isTick_10 : decode cX9_isTick 10 = .ok (.iconst 1, 1) := by decide +kernel
theorem dX9_isTick_11 : decode cX9_isTick 11 = .ok (.goto 4, 3) := by decide +kernel
theorem dX9_isTick_14 : decode cX9_isTick 14 = .ok (.iconst 0, 1) := by decide +kernel
theorem dX9_isTick_15 : decode cX9_isTick 15 = .ok (.ireturn, 1) := by decide +kernel
theorem dX9_isSite_0 : decode cX9_isSite 0 = .ok (.iload_n 1, 1) := by decide +kernel
theorem dX9_isSite_1 : decode cX9_isSite 1 = .ok (.ifCond .lt 18, 3) := by decide +kernel
theorem dX9_isSite_4 : decode cX9_isSite 4 = .ok (.iload_n 1, 1) := by decide +kernel
theorem dX9_isSite_5 : decode cX9_isSite 5 = .ok (.aload_n 0, 1) := by decide +kernel
theorem dX9_isSite_6 : decode cX9_isSite 6 = .ok (.getfield 22, 3) := by decide +kernel
theorem dX9_isSite_9 : decode cX9_isSite 9 = .ok (.getfield 302, 3) := by decide +kernel
theorem dX9_isSite_12 : decode cX9_isSite 12 = .ok (.if_icmp .gt 7, 3) := by decide +kernel
theorem dX9_isSite_15 : decode cX9_isSite 15 = .ok (.iconst 1, 1) := by decide +kernel
theorem dX9_isSite_16 : decode cX9_isSite 16 = .ok (.goto 4, 3) := by decide +kernel
theorem dX9_isSite_19 : decode cX9_isSite 19 = .ok (.iconst 0, 1) := by decide +kernel
theorem dX9_isSite_20 : decode cX9_isSite 20 = .ok (.ireturn, 1) := by decide +kernel
theorem dX9_isIn_0 : decode cX9_isIn 0 = .ok (.iload_n 2, 1) := by decide +kernel
theorem dX9_isIn_1 : decode cX9_isIn 1 = .ok (.ifCond .lt 23, 3) := by decide +kernel
theorem dX9_isIn_4 : decode cX9_isIn 4 = .ok (.iload_n 2, 1) := by decide +kernel
theorem dX9_isIn_5 : decode cX9_isIn 5 = .ok (.bipush 60, 2) := by decide +kernel
theorem dX9_isIn_7 : decode cX9_isIn 7 = .ok (.if_icmp .ge 17, 3) := by decide +kernel
theorem dX9_isIn_10 : decode cX9_isIn 10 = .ok (.lload_n 0, 1) := by decide +kernel
theorem dX9_isIn_11 : decode cX9_isIn 11 = .ok (.iload_n 2, 1) := by decide +kernel
theorem dX9_isIn_12 : decode cX9_isIn 12 = .ok (.lushr, 1) := by decide +kernel
theorem dX9_isIn_13 : decode cX9_isIn 13 = .ok (.lconst 1, 1) := by decide +kernel
theorem dX9_isIn_14 : decode cX9_isIn 14 = .ok (.land, 1) := by decide +kernel
theorem dX9_isIn_15 : decode cX9_isIn 15 = .ok (.lconst 0, 1) := by decide +kernel
theorem dX9_isIn_16 : decode cX9_isIn 16 = .ok (.lcmp, 1) := by decide +kernel
theorem dX9_isIn_17 : decode cX9_isIn 17 = .ok (.ifCond .eq 7, 3) := by decide +kernel
theorem dX9_isIn_20 : decode cX9_isIn 20 = .ok (.iconst 1, 1) := by decide +kernel
theorem dX9_isIn_21 : decode cX9_isIn 21 = .ok (.goto 4, 3) := by decide +kernel
theorem dX9_isIn_24 : decode cX9_isIn 24 = .ok (.iconst 0, 1) := by decide +kernel
theorem dX9_isIn_25 : decode cX9_isIn 25 = .ok (.ireturn, 1) := by decide +kernel
theorem dX9_partOf_0 : decode cX9_partOf 0 = .ok (.lload_n 0, 1) := by decide +kernel
theorem dX9_partOf_1 : decode cX9_partOf 1 = .ok (.iload_n 2, 1) := by decide +kernel
theorem dX9_partOf_2 : decode cX9_partOf 2 = .ok (.bipush 30, 2) := by decide +kernel
theorem dX9_partOf_4 : decode cX9_partOf 4 = .ok (.imul, 1) := by decide +kernel
theorem dX9_partOf_5 : decode cX9_partOf 5 = .ok (.lushr, 1) := by decide +kernel
theorem dX9_partOf_6 : decode cX9_partOf 6 = .ok (.l2i, 1) := by decide +kernel
theorem dX9_partOf_7 : decode cX9_partOf 7 = .ok (.ldc_w 305, 3) := by decide +kernel
theorem dX9_partOf_10 : decode cX9_partOf 10 = .ok (.iand, 1) := by decide +kernel
theorem dX9_partOf_11 : decode cX9_partOf 11 = .ok (.ireturn, 1) := by decide +kernel
theorem dX9_rowLack_0 : decode cX9_rowLack 0 = .ok (.iload_n 1, 1) := by decide +kernel
theorem dX9_rowLack_1 : decode cX9_rowLack 1 = .ok (.invokestatic 70, 3) := by decide +kernel
theorem dX9_rowLack_4 : decode cX9_rowLack 4 = .ok (.ifCond .ne 5, 3) := by decide +kernel
theorem dX9_rowLack_7 : decode cX9_rowLack 7 = .ok (.iconst (-1), 1) := by decide +kernel
theorem dX9_rowLack_8 : decode cX9_rowLack 8 = .ok (.ireturn, 1) := by decide +kernel
theorem dX9_rowLack_9 : decode cX9_rowLack 9 = .ok (.aload_n 0, 1) := by decide +kernel
theorem dX9_rowLack_10 : decode cX9_rowLack 10 = .ok (.getfield 11, 3) := by decide +kernel
theorem dX9_rowLack_13 : decode cX9_rowLack 13 = .ok (.iload_n 1, 1) := by decide +kernel
theorem dX9_rowLack_14 : decode cX9_rowLack 14 = .ok (.aaload, 1) := by decide +kernel
theorem dX9_rowLack_15 : decode cX9_rowLack 15 = .ok (.invokevirtual 306, 3) := by decide +kernel
theorem dX9_rowLack_18 : decode cX9_rowLack 18 = .ok (.ifCond .eq 6, 3) := by decide +kernel
theorem dX9_rowLack_21 : decode cX9_rowLack 21 = .ok (.bipush (-2), 2) := by decide +kernel
theorem dX9_rowLack_23 : decode cX9_rowLack 23 = .ok (.ireturn, 1) := by decide +kernel
theorem dX9_rowLack_24 : decode cX9_rowLack 24 = .ok (.aload_n 0, 1) := by decide +kernel
theorem dX9_rowLack_25 : decode cX9_rowLack 25 = .ok (.getfield 11, 3) := by decide +kernel
theorem dX9_rowLack_28 : decode cX9_rowLack 28 = .ok (.iload_n 1, 1) := by decide +kernel
theorem dX9_rowLack_29 : decode cX9_rowLack 29 = .ok (.aaload, 1) := by decide +kernel
theorem dX9_rowLack_30 : decode cX9_rowLack 30 = .ok (.invokevirtual 136, 3) := by decide +kernel
theorem dX9_rowLack_33 : decode cX9_rowLack 33 = .ok (.ifCond .eq 8, 3) := by decide +kernel
theorem dX9_rowLack_36 : decode cX9_rowLack 36 = .ok (.bipush (-3), 2) := by decide +kernel
theorem dX9_rowLack_38 : decode cX9_rowLack 38 = .ok (.goto 4, 3) := by decide +kernel
theorem dX9_rowLack_41 : decode cX9_rowLack 41 = .ok (.iconst 0, 1) := by decide +kernel
theorem dX9_rowLack_42 : decode cX9_rowLack 42 = .ok (.ireturn, 1) := by decide +kernel
theorem dX9_copyLack_0 : decode cX9_copyLack 0 = .ok (.aload_n 0, 1) := by decide +kernel
theorem dX9_copyLack_1 : decode cX9_copyLack 1 = .ok (.iload_n 1, 1) := by decide +kernel
theorem dX9_copyLack_2 : decode cX9_copyLack 2 = .ok (.invokevirtual 82, 3) := by decide +kernel
theorem dX9_copyLack_5 : decode cX9_copyLack 5 = .ok (.istore_n 3, 1) := by decide +kernel
theorem dX9_copyLack_6 : decode cX9_copyLack 6 = .ok (.aload_n 0, 1) := by decide +kernel
theorem dX9_copyLack_7 : decode cX9_copyLack 7 = .ok (.iload_n 2, 1) := by decide +kernel
theorem dX9_copyLack_8 : decode cX9_copyLack 8 = .ok (.invokevirtual 82, 3) := by decide +kernel
theorem dX9_copyLack_11 : decode cX9_copyLack 11 = .ok (.istore 4, 2) := by decide +kernel
theorem dX9_copyLack_13 : decode cX9_copyLack 13 = .ok (.iload_n 3, 1) := by decide +kernel
theorem dX9_copyLack_14 : decode cX9_copyLack 14 = .ok (.iconst (-1), 1) := by decide +kernel
theorem dX9_copyLack_15 : decode cX9_copyLack 15 = .ok (.if_icmp .eq 9, 3) := by decide +kernel
theorem dX9_copyLack_18 : decode cX9_copyLack 18 = .ok (.iload 4, 2) := by decide +kernel
theorem dX9_copyLack_20 : decode cX9_copyLack 20 = .ok (.iconst (-1), 1) := by decide +kernel
theorem dX9_copyLack_21 : decode cX9_copyLack 21 = .ok (.if_icmp .ne 5, 3) := by decide +kernel
theorem dX9_copyLack_24 : decode cX9_copyLack 24 = .ok (.iconst (-1), 1) := by decide +kernel
theorem dX9_copyLack_25 : decode cX9_copyLack 25 = .ok (.ireturn, 1) := by decide +kernel
theorem dX9_copyLack_26 : decode cX9_copyLack 26 = .ok (.iload_n 3, 1) := by decide +kernel
theorem dX9_copyLack_27 : decode cX9_copyLack 27 = .ok (.bipush (-2), 2) := by decide +kernel
theorem dX9_copyLack_29 : decode cX9_copyLack 29 = .ok (.if_icmp .eq 10, 3) := by decide +kernel
theorem dX9_copyLack_32 : decode cX9_copyLack 32 = .ok (.iload 4, 2) := by decide +kernel
theorem dX9_copyLack_34 : decode cX9_copyLack 34 = .ok (.bipush (-2), 2) := by decide +kernel
theorem dX9_copyLack_36 : decode cX9_copyLack 36 = .ok (.if_icmp .ne 6, 3) := by decide +kernel
theorem dX9_copyLack_39 : decode cX9_copyLack 39 = .ok (.bipush (-2), 2) := by decide +kernel
theorem dX9_copyLack_41 : decode cX9_copyLack 41 = .ok (.ireturn, 1) := by decide +kernel
theorem dX9_copyLack_42 : decode cX9_copyLack 42 = .ok (.iload_n 3, 1) := by decide +kernel
theorem dX9_copyLack_43 : decode cX9_copyLack 43 = .ok (.bipush (-3), 2) := by decide +kernel
theorem dX9_copyLack_45 : decode cX9_copyLack 45 = .ok (.if_icmp .eq 10, 3) := by decide +kernel
theorem dX9_copyLack_48 : decode cX9_copyLack 48 = .ok (.iload 4, 2) := by decide +kernel
theorem dX9_copyLack_50 : decode cX9_copyLack 50 = .ok (.bipush (-3), 2) := by decide +kernel
theorem dX9_copyLack_52 : decode cX9_copyLack 52 = .ok (.if_icmp .ne 6, 3) := by decide +kernel
theorem dX9_copyLack_55 : decode cX9_copyLack 55 = .ok (.bipush (-3), 2) := by decide +kernel
theorem dX9_copyLack_57 : decode cX9_copyLack 57 = .ok (.ireturn, 1) := by decide +kernel
theorem dX9_copyLack_58 : decode cX9_copyLack 58 = .ok (.aload_n 0, 1) := by decide +kernel
theorem dX9_copyLack_59 : decode cX9_copyLack 59 = .ok (.getfield 11, 3) := by decide +kernel
theorem dX9_copyLack_62 : decode cX9_copyLack 62 = .ok (.iload_n 1, 1) := by decide +kernel
theorem dX9_copyLack_63 : decode cX9_copyLack 63 = .ok (.aaload, 1) := by decide +kernel
theorem dX9_copyLack_64 : decode cX9_copyLack 64 = .ok (.getfield 143, 3) := by decide +kernel
theorem dX9_copyLack_67 : decode cX9_copyLack 67 = .ok (.aload_n 0, 1) := by decide +kernel
theorem dX9_copyLack_68 : decode cX9_copyLack 68 = .ok (.getfield 11, 3) := by decide +kernel
theorem dX9_copyLack_71 : decode cX9_copyLack 71 = .ok (.iload_n 2, 1) := by decide +kernel
theorem dX9_copyLack_72 : decode cX9_copyLack 72 = .ok (.aaload, 1) := by decide +kernel
theorem dX9_copyLack_73 : decode cX9_copyLack 73 = .ok (.getfield 143, 3) := by decide +kernel
theorem dX9_copyLack_76 : decode cX9_copyLack 76 = .ok (.if_icmp .ne 7, 3) := by decide +kernel
theorem dX9_copyLack_79 : decode cX9_copyLack 79 = .ok (.iconst 0, 1) := by decide +kernel
theorem dX9_copyLack_80 : decode cX9_copyLack 80 = .ok (.goto 5, 3) := by decide +kernel
theorem dX9_copyLack_83 : decode cX9_copyLack 83 = .ok (.bipush (-2), 2) := by decide +kernel
theorem dX9_copyLack_85 : decode cX9_copyLack 85 = .ok (.ireturn, 1) := by decide +kernel
theorem dX9_momentLack_0 : decode cX9_momentLack 0 = .ok (.aload_n 0, 1) := by decide +kernel
theorem dX9_momentLack_1 : decode cX9_momentLack 1 = .ok (.iload_n 2, 1) := by decide +kernel
theorem dX9_momentLack_2 : decode cX9_momentLack 2 = .ok (.invokevirtual 237, 3) := by decide +kernel
theorem dX9_momentLack_5 : decode cX9_momentLack 5 = .ok (.ifCond .ne 5, 3) := by decide +kernel
theorem dX9_momentLack_8 : decode cX9_momentLack 8 = .ok (.iconst (-1), 1) := by decide +kernel
theorem dX9_momentLack_9 : decode cX9_momentLack 9 = .ok (.ireturn, 1) := by decide +kernel
theorem dX9_momentLack_10 : decode cX9_momentLack 10 = .ok (.iload_n 1, 1) := by decide +kernel
theorem dX9_momentLack_11 : decode cX9_momentLack 11 = .ok (.invokestatic 200, 3) := by decide +kernel
theorem dX9_momentLack_14 : decode cX9_momentLack 14 = .ok (.ifCond .eq 7, 3) := by decide +kernel
theorem dX9_momentLack_17 : decode cX9_momentLack 17 = .ok (.iconst 0, 1) := by decide +kernel
theorem dX9_momentLack_18 : decode cX9_momentLack 18 = .ok (.goto 5, 3) := by decide +kernel
theorem dX9_momentLack_21 : decode cX9_momentLack 21 = .ok (.bipush (-6), 2) := by decide +kernel
theorem dX9_momentLack_23 : decode cX9_momentLack 23 = .ok (.ireturn, 1) := by decide +kernel
theorem dX9_judgeLack_0 : decode cX9_judgeLack 0 = .ok (.aload_n 0, 1) := by decide +kernel
theorem dX9_judgeLack_1 : decode cX9_judgeLack 1 = .ok (.iload_n 2, 1) := by decide +kernel
theorem dX9_judgeLack_2 : decode cX9_judgeLack 2 = .ok (.invokevirtual 237, 3) := by decide +kernel
theorem dX9_judgeLack_5 : decode cX9_judgeLack 5 = .ok (.ifCond .ne 5, 3) := by decide +kernel
theorem dX9_judgeLack_8 : decode cX9_judgeLack 8 = .ok (.iconst (-1), 1) := by decide +kernel
theorem dX9_judgeLack_9 : decode cX9_judgeLack 9 = .ok (.ireturn, 1) := by decide +kernel
theorem dX9_judgeLack_10 : decode cX9_judgeLack 10 = .ok (.aload_n 0, 1) := by decide +kernel
theorem dX9_judgeLack_11 : decode cX9_judgeLack 11 = .ok (.iload_n 1, 1) := by decide +kernel
theorem dX9_judgeLack_12 : decode cX9_judgeLack 12 = .ok (.invokevirtual 82, 3) := by decide +kernel
theorem dX9_judgeLack_15 : decode cX9_judgeLack 15 = .ok (.istore 4, 2) := by decide +kernel
theorem dX9_judgeLack_17 : decode cX9_judgeLack 17 = .ok (.iload 4, 2) := by decide +kernel
theorem dX9_judgeLack_19 : decode cX9_judgeLack 19 = .ok (.ifCond .eq 6, 3) := by decide +kernel
theorem dX9_judgeLack_22 : decode cX9_judgeLack 22 = .ok (.iload 4, 2) := by decide +kernel
theorem dX9_judgeLack_24 : decode cX9_judgeLack 24 = .ok (.ireturn, 1) := by decide +kernel
theorem dX9_judgeLack_25 : decode cX9_judgeLack 25 = .ok (.iload_n 3, 1) := by decide +kernel
theorem dX9_judgeLack_26 : decode cX9_judgeLack 26 = .ok (.ifCond .ge 6, 3) := by decide +kernel
theorem dX9_judgeLack_29 : decode cX9_judgeLack 29 = .ok (.bipush (-4), 2) := by decide +kernel
theorem dX9_judgeLack_31 : decode cX9_judgeLack 31 = .ok (.ireturn, 1) := by decide +kernel
theorem dX9_judgeLack_32 : decode cX9_judgeLack 32 = .ok (.iload_n 3, 1) := by decide +kernel
theorem dX9_judgeLack_33 : decode cX9_judgeLack 33 = .ok (.aload_n 0, 1) := by decide +kernel
theorem dX9_judgeLack_34 : decode cX9_judgeLack 34 = .ok (.getfield 11, 3) := by decide +kernel
theorem dX9_judgeLack_37 : decode cX9_judgeLack 37 = .ok (.iload_n 1, 1) := by decide +kernel
theorem dX9_judgeLack_38 : decode cX9_judgeLack 38 = .ok (.aaload, 1) := by decide +kernel
theorem dX9_judgeLack_39 : decode cX9_judgeLack 39 = .ok (.getfield 309, 3) := by decide +kernel
theorem dX9_judgeLack_42 : decode cX9_judgeLack 42 = .ok (.if_icmp .le 6, 3) := by decide +kernel
theorem dX9_judgeLack_45 : decode cX9_judgeLack 45 = .ok (.bipush (-5), 2) := by decide +kernel
theorem dX9_judgeLack_47 : decode cX9_judgeLack 47 = .ok (.ireturn, 1) := by decide +kernel
theorem dX9_judgeLack_48 : decode cX9_judgeLack 48 = .ok (.iload_n 3, 1) := by decide +kernel
theorem dX9_judgeLack_49 : decode cX9_judgeLack 49 = .ok (.bipush 61, 2) := by decide +kernel
theorem dX9_judgeLack_51 : decode cX9_judgeLack 51 = .ok (.if_icmp .le 8, 3) := by decide +kernel
theorem dX9_judgeLack_54 : decode cX9_judgeLack 54 = .ok (.bipush (-6), 2) := by decide +kernel
theorem dX9_judgeLack_56 : decode cX9_judgeLack 56 = .ok (.goto 4, 3) := by decide +kernel
theorem dX9_judgeLack_59 : decode cX9_judgeLack 59 = .ok (.iconst 0, 1) := by decide +kernel
theorem dX9_judgeLack_60 : decode cX9_judgeLack 60 = .ok (.ireturn, 1) := by decide +kernel
theorem dX9_forgetRuns_0 : decode cX9_forgetRuns 0 = .ok (.aload_n 0, 1) := by decide +kernel
theorem dX9_forgetRuns_1 : decode cX9_forgetRuns 1 = .ok (.iconst 0, 1) := by decide +kernel
theorem dX9_forgetRuns_2 : decode cX9_forgetRuns 2 = .ok (.putfield 53, 3) := by decide +kernel
theorem dX9_forgetRuns_5 : decode cX9_forgetRuns 5 = .ok (.aload_n 0, 1) := by decide +kernel
theorem dX9_forgetRuns_6 : decode cX9_forgetRuns 6 = .ok (.iconst 0, 1) := by decide +kernel
theorem dX9_forgetRuns_7 : decode cX9_forgetRuns 7 = .ok (.putfield 59, 3) := by decide +kernel
theorem dX9_forgetRuns_10 : decode cX9_forgetRuns 10 = .ok (.return_, 1) := by decide +kernel
theorem dX9_current_0 : decode cX9_current 0 = .ok (.aload_n 0, 1) := by decide +kernel
theorem dX9_current_1 : decode cX9_current 1 = .ok (.getfield 53, 3) := by decide +kernel
theorem dX9_current_4 : decode cX9_current 4 = .ok (.ifCond .ne 29, 3) := by decide +kernel
theorem dX9_current_7 : decode cX9_current 7 = .ok (.aload_n 0, 1) := by decide +kernel
theorem dX9_current_8 : decode cX9_current 8 = .ok (.getfield 49, 3) := by decide +kernel
theorem dX9_current_11 : decode cX9_current 11 = .ok (.aload_n 0, 1) := by decide +kernel
theorem dX9_current_12 : decode cX9_current 12 = .ok (.getfield 22, 3) := by decide +kernel
theorem dX9_current_15 : decode cX9_current 15 = .ok (.getfield 186, 3) := by decide +kernel
theorem dX9_current_18 : decode cX9_current 18 = .ok (.aload_n 0, 1) := by decide +kernel
theorem dX9_current_19 : decode cX9_current 19 = .ok (.getfield 22, 3) := by decide +kernel
theorem dX9_current_22 : decode cX9_current 22 = .ok (.getfield 275, 3) := by decide +kernel
theorem dX9_current_25 : decode cX9_current 25 = .ok (.invokevirtual 291, 3) := by decide +kernel
theorem dX9_current_28 : decode cX9_current 28 = .ok (.aload_n 0, 1) := by decide +kernel
theorem dX9_current_29 : decode cX9_current 29 = .ok (.iconst 1, 1) := by decide +kernel
theorem dX9_current_30 : decode cX9_current 30 = .ok (.putfield 53, 3) := by decide +kernel
theorem dX9_current_33 : decode cX9_current 33 = .ok (.aload_n 0, 1) := by decide +kernel
theorem dX9_current_34 : decode cX9_current 34 = .ok (.getfield 49, 3) := by decide +kernel
theorem dX9_current_37 : decode cX9_current 37 = .ok (.areturn, 1) := by decide +kernel
theorem dX9_tryLosses_0 : decode cX9_tryLosses 0 = .ok (.aload_n 0, 1) := by decide +kernel
theorem dX9_tryLosses_1 : decode cX9_tryLosses 1 = .ok (.getfield 59, 3) := by decide +kernel
theorem dX9_tryLosses_4 : decode cX9_tryLosses 4 = .ok (.ifCond .eq 4, 3) := by decide +kernel
theorem dX9_tryLosses_7 : decode cX9_tryLosses 7 = .ok (.return_, 1) := by decide +kernel
theorem dX9_tryLosses_8 : decode cX9_tryLosses 8 = .ok (.aload_n 0, 1) := by decide +kernel
theorem dX9_tryLosses_9 : decode cX9_tryLosses 9 = .ok (.lconst 0, 1) := by decide +kernel
theorem dX9_tryLosses_10 : decode cX9_tryLosses 10 = .ok (.putfield 62, 3) := by decide +kernel
theorem dX9_tryLosses_13 : decode cX9_tryLosses 13 = .ok (.aload_n 0, 1) := by decide +kernel
theorem dX9_tryLosses_14 : decode cX9_tryLosses 14 = .ok (.lconst 0, 1) := by decide +kernel
theorem dX9_tryLosses_15 : decode cX9_tryLosses 15 = .ok (.putfield 66, 3) := by decide +kernel
theorem dX9_tryLosses_18 : decode cX9_tryLosses 18 = .ok (.aload_n 1, 1) := by decide +kernel
theorem dX9_tryLosses_19 : decode cX9_tryLosses 19 = .ok (.getfield 288, 3) := by decide +kernel
theorem dX9_tryLosses_22 : decode cX9_tryLosses 22 = .ok (.bipush 60, 2) := by decide +kernel
theorem dX9_tryLosses_24 : decode cX9_tryLosses 24 = .ok (.invokestatic 312, 3) := by decide +kernel
theorem dX9_tryLosses_27 : decode cX9_tryLosses 27 = .ok (.istore_n 2, 1) := by decide +kernel
theorem dX9_tryLosses_28 : decode cX9_tryLosses 28 = .ok (.iconst 0, 1) := by decide +kernel
theorem dX9_tryLosses_29 : decode cX9_tryLosses 29 = .ok (.istore_n 3, 1) := by decide +kernel
theorem dX9_tryLosses_30 : decode cX9_tryLosses 30 = .ok (.iload_n 3, 1) := by decide +kernel
theorem dX9_tryLosses_31 : decode cX9_tryLosses 31 = .ok (.iload_n 2, 1) := by decide +kernel
theorem dX9_tryLosses_32 : decode cX9_tryLosses 32 = .ok (.if_icmp .ge 99, 3) := by decide +kernel
theorem dX9_tryLosses_35 : decode cX9_tryLosses 35 = .ok (.aload_n 0, 1) := by decide +kernel
theorem dX9_tryLosses_36 : decode cX9_tryLosses 36 = .ok (.getfield 22, 3) := by decide +kernel
theorem dX9_tryLosses_39 : decode cX9_tryLosses 39 = .ok (.getfield 186, 3) := by decide +kernel
theorem dX9_tryLosses_42 : decode cX9_tryLosses 42 = .ok (.iload_n 3, 1) := by decide +kernel
theorem dX9_tryLosses_43 : decode cX9_tryLosses 43 = .ok (.invokestatic 189, 3) := by decide +kernel
theorem dX9_tryLosses_46 : decode cX9_tryLosses 46 = .ok (.ifCond .eq 6, 3) := by decide +kernel
theorem dX9_tryLosses_49 : decode cX9_tryLosses 49 = .ok (.goto 76, 3) := by decide +kernel
theorem dX9_tryLosses_52 : decode cX9_tryLosses 52 = .ok (.lconst 1, 1) := by decide +kernel
theorem dX9_tryLosses_53 : decode cX9_tryLosses 53 = .ok (.iload_n 3, 1) := by decide +kernel
theorem dX9_tryLosses_54 : decode cX9_tryLosses 54 = .ok (.lshl, 1) := by decide +kernel
theorem dX9_tryLosses_55 : decode cX9_tryLosses 55 = .ok (.lstore 4, 2) := by decide +kernel
theorem dX9_tryLosses_57 : decode cX9_tryLosses 57 = .ok (.aload_n 0, 1) := by decide +kernel
theorem dX9_tryLosses_58 : decode cX9_tryLosses 58 = .ok (.getfield 56, 3) := by decide +kernel
theorem dX9_tryLosses_61 : decode cX9_tryLosses 61 = .ok (.aload_n 0, 1) := by decide +kernel
theorem dX9_tryLosses_62 : decode cX9_tryLosses 62 = .ok (.getfield 22, 3) := by decide +kernel
theorem dX9_tryLosses_65 : decode cX9_tryLosses 65 = .ok (.getfield 186, 3) := by decide +kernel
theorem dX9_tryLosses_68 : decode cX9_tryLosses 68 = .ok (.lload 4, 2) := by decide +kernel
theorem dX9_tryLosses_70 : decode cX9_tryLosses 70 = .ok (.lor, 1) := by decide +kernel
theorem dX9_tryLosses_71 : decode cX9_tryLosses 71 = .ok (.aload_n 0, 1) := by decide +kernel
theorem dX9_tryLosses_72 : decode cX9_tryLosses 72 = .ok (.getfield 22, 3) := by decide +kernel
theorem dX9_tryLosses_75 : decode cX9_tryLosses 75 = .ok (.getfield 275, 3) := by decide +kernel
theorem dX9_tryLosses_78 : decode cX9_tryLosses 78 = .ok (.invokevirtual 291, 3) := by decide +kernel
theorem dX9_tryLosses_81 : decode cX9_tryLosses 81 = .ok (.aload_n 0, 1) := by decide +kernel
theorem dX9_tryLosses_82 : decode cX9_tryLosses 82 = .ok (.getfield 56, 3) := by decide +kernel
theorem dX9_tryLosses_85 : decode cX9_tryLosses 85 = .ok (.bipush 60, 2) := by decide +kernel
theorem dX9_tryLosses_87 : decode cX9_tryLosses 87 = .ok (.invokevirtual 258, 3) := by decide +kernel
theorem dX9_tryLosses_90 : decode cX9_tryLosses 90 = .ok (.ifCond .ne 14, 3) := by decide +kernel
theorem dX9_tryLosses_93 : decode cX9_tryLosses 93 = .ok (.aload_n 0, 1) := by decide +kernel
theorem dX9_tryLosses_94 : decode cX9_tryLosses 94 = .ok (.dup, 1) := by decide +kernel
theorem dX9_tryLosses_95 : decode cX9_tryLosses 95 = .ok (.getfield 62, 3) := by decide +kernel
theorem dX9_tryLosses_98 : decode cX9_tryLosses 98 = .ok (.lload 4, 2) := by decide +kernel
theorem dX9_tryLosses_100 : decode cX9_tryLosses 100 = .ok (.lor, 1) := by decide +kernel
theorem dX9_tryLosses_101 : decode cX9_tryLosses 101 = .ok (.putfield 62, 3) := by decide +kernel
theorem dX9_tryLosses_104 : decode cX9_tryLosses 104 = .ok (.aload_n 0, 1) := by decide +kernel
theorem dX9_tryLosses_105 : decode cX9_tryLosses 105 = .ok (.getfield 56, 3) := by decide +kernel
theorem dX9_tryLosses_108 : decode cX9_tryLosses 108 = .ok (.invokevirtual 261, 3) := by decide +kernel
theorem dX9_tryLosses_111 : decode cX9_tryLosses 111 = .ok (.ifCond .eq 14, 3) := by decide +kernel
theorem dX9_tryLosses_114 : decode cX9_tryLosses 114 = .ok (.aload_n 0, 1) := by decide +kernel
theorem dX9_tryLosses_115 : decode cX9_tryLosses 115 = .ok (.dup, 1) := by decide +kernel
theorem dX9_tryLosses_116 : decode cX9_tryLosses 116 = .ok (.getfield 66, 3) := by decide +kernel
theorem dX9_tryLosses_119 : decode cX9_tryLosses 119 = .ok (.lload 4, 2) := by decide +kernel
theorem dX9_tryLosses_121 : decode cX9_tryLosses 121 = .ok (.lor, 1) := by decide +kernel
theorem dX9_tryLosses_122 : decode cX9_tryLosses 122 = .ok (.putfield 66, 3) := by decide +kernel
theorem dX9_tryLosses_125 : decode cX9_tryLosses 125 = .ok (.iinc 3 1, 3) := by decide +kernel
theorem dX9_tryLosses_128 : decode cX9_tryLosses 128 = .ok (.goto (-98), 3) := by decide +kernel
theorem dX9_tryLosses_131 : decode cX9_tryLosses 131 = .ok (.aload_n 0, 1) := by decide +kernel
theorem dX9_tryLosses_132 : decode cX9_tryLosses 132 = .ok (.iconst 1, 1) := by decide +kernel
theorem dX9_tryLosses_133 : decode cX9_tryLosses 133 = .ok (.putfield 59, 3) := by decide +kernel
theorem dX9_tryLosses_136 : decode cX9_tryLosses 136 = .ok (.return_, 1) := by decide +kernel
theorem dJx29ce0_ordinal_8abf5_0 : decode cJx29ce0_ordinal_8abf5 0 = .ok (.aload_n 0, 1) := by decide +kernel
theorem dJx29ce0_ordinal_8abf5_1 : decode cJx29ce0_ordinal_8abf5 1 = .ok (.getfield 7, 3) := by decide +kernel
theorem dJx29ce0_ordinal_8abf5_4 : decode cJx29ce0_ordinal_8abf5 4 = .ok (.ireturn, 1) := by decide +kernel
theorem dJ13_bitCount_95d88_0 : decode cJ13_bitCount_95d88 0 = .ok (.lload_n 0, 1) := by decide +kernel
theorem dJ13_bitCount_95d88_1 : decode cJ13_bitCount_95d88 1 = .ok (.lload_n 0, 1) := by decide +kernel
theorem dJ13_bitCount_95d88_2 : decode cJ13_bitCount_95d88 2 = .ok (.iconst 1, 1) := by decide +kernel
theorem dJ13_bitCount_95d88_3 : decode cJ13_bitCount_95d88 3 = .ok (.lushr, 1) := by decide +kernel
theorem dJ13_bitCount_95d88_4 : decode cJ13_bitCount_95d88 4 = .ok (.ldc2_w 314, 3) := by decide +kernel
theorem dJ13_bitCount_95d88_7 : decode cJ13_bitCount_95d88 7 = .ok (.land, 1) := by decide +kernel
theorem dJ13_bitCount_95d88_8 : decode cJ13_bitCount_95d88 8 = .ok (.lsub, 1) := by decide +kernel
theorem dJ13_bitCount_95d88_9 : decode cJ13_bitCount_95d88 9 = .ok (.lstore_n 0, 1) := by decide +kernel
theorem dJ13_bitCount_95d88_10 : decode cJ13_bitCount_95d88 10 = .ok (.lload_n 0, 1) := by decide +kernel
theorem dJ13_bitCount_95d88_11 : decode cJ13_bitCount_95d88 11 = .ok (.ldc2_w 316, 3) := by decide +kernel
theorem dJ13_bitCount_95d88_14 : decode cJ13_bitCount_95d88 14 = .ok (.land, 1) := by decide +kernel
theorem dJ13_bitCount_95d88_15 : decode cJ13_bitCount_95d88 15 = .ok (.lload_n 0, 1) := by decide +kernel
theorem dJ13_bitCount_95d88_16 : decode cJ13_bitCount_95d88 16 = .ok (.iconst 2, 1) := by decide +kernel
theorem dJ13_bitCount_95d88_17 : decode cJ13_bitCount_95d88 17 = .ok (.lushr, 1) := by decide +kernel
theorem dJ13_bitCount_95d88_18 : decode cJ13_bitCount_95d88 18 = .ok (.ldc2_w 316, 3) := by decide +kernel
theorem dJ13_bitCount_95d88_21 : decode cJ13_bitCount_95d88 21 = .ok (.land, 1) := by decide +kernel
theorem dJ13_bitCount_95d88_22 : decode cJ13_bitCount_95d88 22 = .ok (.ladd, 1) := by decide +kernel
theorem dJ13_bitCount_95d88_23 : decode cJ13_bitCount_95d88 23 = .ok (.lstore_n 0, 1) := by decide +kernel
theorem dJ13_bitCount_95d88_24 : decode cJ13_bitCount_95d88 24 = .ok (.lload_n 0, 1) := by decide +kernel
theorem dJ13_bitCount_95d88_25 : decode cJ13_bitCount_95d88 25 = .ok (.lload_n 0, 1) := by decide +kernel
theorem dJ13_bitCount_95d88_26 : decode cJ13_bitCount_95d88 26 = .ok (.iconst 4, 1) := by decide +kernel
theorem dJ13_bitCount_95d88_27 : decode cJ13_bitCount_95d88 27 = .ok (.lushr, 1) := by decide +kernel
theorem dJ13_bitCount_95d88_28 : decode cJ13_bitCount_95d88 28 = .ok (.ladd, 1) := by decide +kernel
theorem dJ13_bitCount_95d88_29 : decode cJ13_bitCount_95d88 29 = .ok (.ldc2_w 318, 3) := by decide +kernel
theorem dJ13_bitCount_95d88_32 : decode cJ13_bitCount_95d88 32 = .ok (.land, 1) := by decide +kernel
theorem dJ13_bitCount_95d88_33 : decode cJ13_bitCount_95d88 33 = .ok (.lstore_n 0, 1) := by decide +kernel
theorem dJ13_bitCount_95d88_34 : decode cJ13_bitCount_95d88 34 = .ok (.lload_n 0, 1) := by decide +kernel
theorem dJ13_bitCount_95d88_35 : decode cJ13_bitCount_95d88 35 = .ok (.lload_n 0, 1) := by decide +kernel
theorem dJ13_bitCount_95d88_36 : decode cJ13_bitCount_95d88 36 = .ok (.bipush 8, 2) := by decide +kernel
theorem dJ13_bitCount_95d88_38 : decode cJ13_bitCount_95d88 38 = .ok (.lushr, 1) := by decide +kernel
theorem dJ13_bitCount_95d88_39 : decode cJ13_bitCount_95d88 39 = .ok (.ladd, 1) := by decide +kernel
theorem dJ13_bitCount_95d88_40 : decode cJ13_bitCount_95d88 40 = .ok (.lstore_n 0, 1) := by decide +kernel
theorem dJ13_bitCount_95d88_41 : decode cJ13_bitCount_95d88 41 = .ok (.lload_n 0, 1) := by decide +kernel
theorem dJ13_bitCount_95d88_42 : decode cJ13_bitCount_95d88 42 = .ok (.lload_n 0, 1) := by decide +kernel
theorem dJ13_bitCount_95d88_43 : decode cJ13_bitCount_95d88 43 = .ok (.bipush 16, 2) := by decide +kernel
theorem dJ13_bitCount_95d88_45 : decode cJ13_bitCount_95d88 45 = .ok (.lushr, 1) := by decide +kernel
theorem dJ13_bitCount_95d88_46 : decode cJ13_bitCount_95d88 46 = .ok (.ladd, 1) := by decide +kernel
theorem dJ13_bitCount_95d88_47 : decode cJ13_bitCount_95d88 47 = .ok (.lstore_n 0, 1) := by decide +kernel
theorem dJ13_bitCount_95d88_48 : decode cJ13_bitCount_95d88 48 = .ok (.lload_n 0, 1) := by decide +kernel
theorem dJ13_bitCount_95d88_49 : decode cJ13_bitCount_95d88 49 = .ok (.lload_n 0, 1) := by decide +kernel
theorem dJ13_bitCount_95d88_50 : decode cJ13_bitCount_95d88 50 = .ok (.bipush 32, 2) := by decide +kernel
theorem dJ13_bitCount_95d88_52 : decode cJ13_bitCount_95d88 52 = .ok (.lushr, 1) := by decide +kernel
theorem dJ13_bitCount_95d88_53 : decode cJ13_bitCount_95d88 53 = .ok (.ladd, 1) := by decide +kernel
theorem dJ13_bitCount_95d88_54 : decode cJ13_bitCount_95d88 54 = .ok (.lstore_n 0, 1) := by decide +kernel
theorem dJ13_bitCount_95d88_55 : decode cJ13_bitCount_95d88 55 = .ok (.lload_n 0, 1) := by decide +kernel
theorem dJ13_bitCount_95d88_56 : decode cJ13_bitCount_95d88 56 = .ok (.l2i, 1) := by decide +kernel
theorem dJ13_bitCount_95d88_57 : decode cJ13_bitCount_95d88 57 = .ok (.bipush 127, 2) := by decide +kernel
theorem dJ13_bitCount_95d88_59 : decode cJ13_bitCount_95d88 59 = .ok (.iand, 1) := by decide +kernel
theorem dJ13_bitCount_95d88_60 : decode cJ13_bitCount_95d88 60 = .ok (.ireturn, 1) := by decide +kernel
theorem dJ9_max_7cf53_0 : decode cJ9_max_7cf53 0 = .ok (.iload_n 0, 1) := by decide +kernel
theorem dJ9_max_7cf53_1 : decode cJ9_max_7cf53 1 = .ok (.iload_n 1, 1) := by decide +kernel
theorem dJ9_max_7cf53_2 : decode cJ9_max_7cf53 2 = .ok (.if_icmp .lt 7, 3) := by decide +kernel
theorem dJ9_max_7cf53_5 : decode cJ9_max_7cf53 5 = .ok (.iload_n 0, 1) := by decide +kernel
theorem dJ9_max_7cf53_6 : decode cJ9_max_7cf53 6 = .ok (.goto 4, 3) := by decide +kernel
theorem dJ9_max_7cf53_9 : decode cJ9_max_7cf53 9 = .ok (.iload_n 1, 1) := by decide +kernel
theorem dJ9_max_7cf53_10 : decode cJ9_max_7cf53 10 = .ok (.ireturn, 1) := by decide +kernel
theorem dJ9_min_7cf53_0 : decode cJ9_min_7cf53 0 = .ok (.iload_n 0, 1) := by decide +kernel
theorem dJ9_min_7cf53_1 : decode cJ9_min_7cf53 1 = .ok (.iload_n 1, 1) := by decide +kernel
theorem dJ9_min_7cf53_2 : decode cJ9_min_7cf53 2 = .ok (.if_icmp .gt 7, 3) := by decide +kernel
theorem dJ9_min_7cf53_5 : decode cJ9_min_7cf53 5 = .ok (.iload_n 0, 1) := by decide +kernel
theorem dJ9_min_7cf53_6 : decode cJ9_min_7cf53 6 = .ok (.goto 4, 3) := by decide +kernel
theorem dJ9_min_7cf53_9 : decode cJ9_min_7cf53 9 = .ok (.iload_n 1, 1) := by decide +kernel
theorem dJ9_min_7cf53_10 : decode cJ9_min_7cf53 10 = .ok (.ireturn, 1) := by decide +kernel
theorem dJ0_length_8abf5_0 : decode cJ0_length_8abf5 0 = .ok (.aload_n 0, 1) := by decide +kernel
theorem dJ0_length_8abf5_1 : decode cJ0_length_8abf5 1 = .ok (.getfield 9, 3) := by decide +kernel
theorem dJ0_length_8abf5_4 : decode cJ0_length_8abf5 4 = .ok (.arraylength, 1) := by decide +kernel
theorem dJ0_length_8abf5_5 : decode cJ0_length_8abf5 5 = .ok (.aload_n 0, 1) := by decide +kernel
theorem dJ0_length_8abf5_6 : decode cJ0_length_8abf5 6 = .ok (.invokevirtual 335, 3) := by decide +kernel
theorem dJ0_length_8abf5_9 : decode cJ0_length_8abf5 9 = .ok (.ishr, 1) := by decide +kernel
theorem dJ0_length_8abf5_10 : decode cJ0_length_8abf5 10 = .ok (.ireturn, 1) := by decide +kernel
theorem dJ0_charAt_5068e_0 : decode cJ0_charAt_5068e 0 = .ok (.aload_n 0, 1) := by decide +kernel
theorem dJ0_charAt_5068e_1 : decode cJ0_charAt_5068e 1 = .ok (.invokevirtual 492, 3) := by decide +kernel
theorem dJ0_charAt_5068e_4 : decode cJ0_charAt_5068e 4 = .ok (.ifCond .eq 12, 3) := by decide +kernel
theorem dJ0_charAt_5068e_7 : decode cJ0_charAt_5068e 7 = .ok (.aload_n 0, 1) := by decide +kernel
theorem dJ0_charAt_5068e_8 : decode cJ0_charAt_5068e 8 = .ok (.getfield 9, 3) := by decide +kernel
theorem dJ0_charAt_5068e_11 : decode cJ0_charAt_5068e 11 = .ok (.iload_n 1, 1) := by decide +kernel
theorem dJ0_charAt_5068e_12 : decode cJ0_charAt_5068e 12 = .ok (.invokestatic 495, 3) := by decide +kernel
theorem dJ0_charAt_5068e_15 : decode cJ0_charAt_5068e 15 = .ok (.ireturn, 1) := by decide +kernel
theorem dJ0_charAt_5068e_16 : decode cJ0_charAt_5068e 16 = .ok (.aload_n 0, 1) := by decide +kernel
theorem dJ0_charAt_5068e_17 : decode cJ0_charAt_5068e 17 = .ok (.getfield 9, 3) := by decide +kernel
theorem dJ0_charAt_5068e_20 : decode cJ0_charAt_5068e 20 = .ok (.iload_n 1, 1) := by decide +kernel
theorem dJ0_charAt_5068e_21 : decode cJ0_charAt_5068e 21 = .ok (.invokestatic 498, 3) := by decide +kernel
theorem dJ0_charAt_5068e_24 : decode cJ0_charAt_5068e 24 = .ok (.ireturn, 1) := by decide +kernel
theorem dJ0_coder_7d493_0 : decode cJ0_coder_7d493 0 = .ok (.getstatic 38, 3) := by decide +kernel
theorem dJ0_coder_7d493_3 : decode cJ0_coder_7d493 3 = .ok (.ifCond .eq 10, 3) := by decide +kernel
theorem dJ0_coder_7d493_6 : decode cJ0_coder_7d493 6 = .ok (.aload_n 0, 1) := by decide +kernel
theorem dJ0_coder_7d493_7 : decode cJ0_coder_7d493 7 = .ok (.getfield 15, 3) := by decide +kernel
theorem dJ0_coder_7d493_10 : decode cJ0_coder_7d493 10 = .ok (.goto 4, 3) := by decide +kernel
theorem dJ0_coder_7d493_13 : decode cJ0_coder_7d493 13 = .ok (.iconst 1, 1) := by decide +kernel
theorem dJ0_coder_7d493_14 : decode cJ0_coder_7d493 14 = .ok (.ireturn, 1) := by decide +kernel
theorem dJ0_isLatin1_aae02_0 : decode cJ0_isLatin1_aae02 0 = .ok (.getstatic 38, 3) := by decide +kernel
theorem dJ0_isLatin1_aae02_3 : decode cJ0_isLatin1_aae02 3 = .ok (.ifCond .eq 14, 3) := by decide +kernel
theorem dJ0_isLatin1_aae02_6 : decode cJ0_isLatin1_aae02 6 = .ok (.aload_n 0, 1) := by decide +kernel
theorem dJ0_isLatin1_aae02_7 : decode cJ0_isLatin1_aae02 7 = .ok (.getfield 15, 3) := by decide +kernel
theorem dJ0_isLatin1_aae02_10 : decode cJ0_isLatin1_aae02 10 = .ok (.ifCond .ne 7, 3) := by decide +kernel
theorem dJ0_isLatin1_aae02_13 : decode cJ0_isLatin1_aae02 13 = .ok (.iconst 1, 1) := by decide +kernel
theorem dJ0_isLatin1_aae02_14 : decode cJ0_isLatin1_aae02 14 = .ok (.goto 4, 3) := by decide +kernel
theorem dJ0_isLatin1_aae02_17 : decode cJ0_isLatin1_aae02 17 = .ok (.iconst 0, 1) := by decide +kernel
theorem dJ0_isLatin1_aae02_18 : decode cJ0_isLatin1_aae02 18 = .ok (.ireturn, 1) := by decide +kernel
theorem dJ0_checkIndex_df160_0 : decode cJ0_checkIndex_df160 0 = .ok (.iload_n 0, 1) := by decide +kernel
theorem dJ0_checkIndex_df160_1 : decode cJ0_checkIndex_df160 1 = .ok (.iload_n 1, 1) := by decide +kernel
theorem dJ0_checkIndex_df160_2 : decode cJ0_checkIndex_df160 2 = .ok (.getstatic 1053, 3) := by decide +kernel
theorem dJ0_checkIndex_df160_5 : decode cJ0_checkIndex_df160 5 = .ok (.invokestatic 1059, 3) := by decide +kernel
theorem dJ0_checkIndex_df160_8 : decode cJ0_checkIndex_df160 8 = .ok (.pop, 1) := by decide +kernel
theorem dJ0_checkIndex_df160_9 : decode cJ0_checkIndex_df160 9 = .ok (.return_, 1) := by decide +kernel
theorem dJ1_charAt_3b067_0 : decode cJ1_charAt_3b067 0 = .ok (.iload_n 1, 1) := by decide +kernel
theorem dJ1_charAt_3b067_1 : decode cJ1_charAt_3b067 1 = .ok (.aload_n 0, 1) := by decide +kernel
theorem dJ1_charAt_3b067_2 : decode cJ1_charAt_3b067 2 = .ok (.arraylength, 1) := by decide +kernel
theorem dJ1_charAt_3b067_3 : decode cJ1_charAt_3b067 3 = .ok (.invokestatic 9, 3) := by decide +kernel
theorem dJ1_charAt_3b067_6 : decode cJ1_charAt_3b067 6 = .ok (.aload_n 0, 1) := by decide +kernel
theorem dJ1_charAt_3b067_7 : decode cJ1_charAt_3b067 7 = .ok (.iload_n 1, 1) := by decide +kernel
theorem dJ1_charAt_3b067_8 : decode cJ1_charAt_3b067 8 = .ok (.baload, 1) := by decide +kernel
theorem dJ1_charAt_3b067_9 : decode cJ1_charAt_3b067 9 = .ok (.sipush 255, 3) := by decide +kernel
theorem dJ1_charAt_3b067_12 : decode cJ1_charAt_3b067 12 = .ok (.iand, 1) := by decide +kernel
theorem dJ1_charAt_3b067_13 : decode cJ1_charAt_3b067 13 = .ok (.i2c, 1) := by decide +kernel
theorem dJ1_charAt_3b067_14 : decode cJ1_charAt_3b067 14 = .ok (.ireturn, 1) := by decide +kernel
theorem dJ2_getChar_3b067_0 : decode cJ2_getChar_3b067 0 = .ok (.getstatic 44, 3) := by decide +kernel
theorem dJ2_getChar_3b067_3 : decode cJ2_getChar_3b067 3 = .ok (.ifCond .ne 25, 3) := by decide +kernel
theorem dJ2_getChar_3b067_6 : decode cJ2_getChar_3b067 6 = .ok (.iload_n 1, 1) := by decide +kernel
theorem dJ2_getChar_3b067_7 : decode cJ2_getChar_3b067 7 = .ok (.ifCond .lt 11, 3) := by decide +kernel
theorem dJ2_getChar_3b067_10 : decode cJ2_getChar_3b067 10 = .ok (.iload_n 1, 1) := by decide +kernel
theorem dJ2_getChar_3b067_11 : decode cJ2_getChar_3b067 11 = .ok (.aload_n 0, 1) := by decide +kernel
theorem dJ2_getChar_3b067_12 : decode cJ2_getChar_3b067 12 = .ok (.invokestatic 48, 3) := by decide +kernel
theorem dJ2_getChar_3b067_15 : decode cJ2_getChar_3b067 15 = .ok (.if_icmp .lt 13, 3) := by decide +kernel
theorem dJ2_getChar_3b067_18 : decode cJ2_getChar_3b067 18 = .ok (.new 52, 3) := by decide +kernel
theorem dJ2_getChar_3b067_21 : decode cJ2_getChar_3b067 21 = .ok (.dup, 1) := by decide +kernel
theorem dJ2_getChar_3b067_22 : decode cJ2_getChar_3b067 22 = .ok (.ldc 54, 2) := by decide +kernel
theorem dJ2_getChar_3b067_24 : decode cJ2_getChar_3b067 24 = .ok (.invokespecial 56, 3) := by decide +kernel
theorem dJ2_getChar_3b067_27 : decode cJ2_getChar_3b067 27 = .ok (.athrow, 1) := by decide +kernel
theorem dJ2_getChar_3b067_28 : decode cJ2_getChar_3b067 28 = .ok (.iload_n 1, 1) := by decide +kernel
theorem dJ2_getChar_3b067_29 : decode cJ2_getChar_3b067 29 = .ok (.iconst 1, 1) := by decide +kernel
theorem dJ2_getChar_3b067_30 : decode cJ2_getChar_3b067 30 = .ok (.ishl, 1) := by decide +kernel
theorem dJ2_getChar_3b067_31 : decode cJ2_getChar_3b067 31 = .ok (.istore_n 1, 1) := by decide +kernel
theorem dJ2_getChar_3b067_32 : decode cJ2_getChar_3b067 32 = .ok (.aload_n 0, 1) := by decide +kernel
theorem dJ2_getChar_3b067_33 : decode cJ2_getChar_3b067 33 = .ok (.iload_n 1, 1) := by decide +kernel
theorem dJ2_getChar_3b067_34 : decode cJ2_getChar_3b067 34 = .ok (.iinc 1 1, 3) := by decide +kernel
theorem dJ2_getChar_3b067_37 : decode cJ2_getChar_3b067 37 = .ok (.baload, 1) := by decide +kernel
theorem dJ2_getChar_3b067_38 : decode cJ2_getChar_3b067 38 = .ok (.sipush 255, 3) := by decide +kernel
theorem dJ2_getChar_3b067_41 : decode cJ2_getChar_3b067 41 = .ok (.iand, 1) := by decide +kernel
theorem dJ2_getChar_3b067_42 : decode cJ2_getChar_3b067 42 = .ok (.getstatic 59, 3) := by decide +kernel
theorem dJ2_getChar_3b067_45 : decode cJ2_getChar_3b067 45 = .ok (.ishl, 1) := by decide +kernel
theorem dJ2_getChar_3b067_46 : decode cJ2_getChar_3b067 46 = .ok (.aload_n 0, 1) := by decide +kernel
theorem dJ2_getChar_3b067_47 : decode cJ2_getChar_3b067 47 = .ok (.iload_n 1, 1) := by decide +kernel
theorem dJ2_getChar_3b067_48 : decode cJ2_getChar_3b067 48 = .ok (.baload, 1) := by decide +kernel
theorem dJ2_getChar_3b067_49 : decode cJ2_getChar_3b067 49 = .ok (.sipush 255, 3) := by decide +kernel
theorem dJ2_getChar_3b067_52 : decode cJ2_getChar_3b067 52 = .ok (.iand, 1) := by decide +kernel
theorem dJ2_getChar_3b067_53 : decode cJ2_getChar_3b067 53 = .ok (.getstatic 63, 3) := by decide +kernel
theorem dJ2_getChar_3b067_56 : decode cJ2_getChar_3b067 56 = .ok (.ishl, 1) := by decide +kernel
theorem dJ2_getChar_3b067_57 : decode cJ2_getChar_3b067 57 = .ok (.ior, 1) := by decide +kernel
theorem dJ2_getChar_3b067_58 : decode cJ2_getChar_3b067 58 = .ok (.i2c, 1) := by decide +kernel
theorem dJ2_getChar_3b067_59 : decode cJ2_getChar_3b067 59 = .ok (.ireturn, 1) := by decide +kernel
theorem dJ2_length_9d52b_0 : decode cJ2_length_9d52b 0 = .ok (.aload_n 0, 1) := by decide +kernel
theorem dJ2_length_9d52b_1 : decode cJ2_length_9d52b 1 = .ok (.arraylength, 1) := by decide +kernel
theorem dJ2_length_9d52b_2 : decode cJ2_length_9d52b 2 = .ok (.iconst 1, 1) := by decide +kernel
theorem dJ2_length_9d52b_3 : decode cJ2_length_9d52b 3 = .ok (.ishr, 1) := by decide +kernel
theorem dJ2_length_9d52b_4 : decode cJ2_length_9d52b 4 = .ok (.ireturn, 1) := by decide +kernel
theorem dJ2_charAt_3b067_0 : decode cJ2_charAt_3b067 0 = .ok (.iload_n 1, 1) := by decide +kernel
theorem dJ2_charAt_3b067_1 : decode cJ2_charAt_3b067 1 = .ok (.aload_n 0, 1) := by decide +kernel
theorem dJ2_charAt_3b067_2 : decode cJ2_charAt_3b067 2 = .ok (.invokestatic 67, 3) := by decide +kernel
theorem dJ2_charAt_3b067_5 : decode cJ2_charAt_3b067 5 = .ok (.aload_n 0, 1) := by decide +kernel
theorem dJ2_charAt_3b067_6 : decode cJ2_charAt_3b067 6 = .ok (.iload_n 1, 1) := by decide +kernel
theorem dJ2_charAt_3b067_7 : decode cJ2_charAt_3b067 7 = .ok (.invokestatic 71, 3) := by decide +kernel
theorem dJ2_charAt_3b067_10 : decode cJ2_charAt_3b067 10 = .ok (.ireturn, 1) := by decide +kernel
theorem dJ2_checkIndex_2214a_0 : decode cJ2_checkIndex_2214a 0 = .ok (.iload_n 0, 1) := by decide +kernel
theorem dJ2_checkIndex_2214a_1 : decode cJ2_checkIndex_2214a 1 = .ok (.aload_n 1, 1) := by decide +kernel
theorem dJ2_checkIndex_2214a_2 : decode cJ2_checkIndex_2214a 2 = .ok (.invokestatic 48, 3) := by decide +kernel
theorem dJ2_checkIndex_2214a_5 : decode cJ2_checkIndex_2214a 5 = .ok (.invokestatic 414, 3) := by decide +kernel
theorem dJ2_checkIndex_2214a_8 : decode cJ2_checkIndex_2214a 8 = .ok (.return_, 1) := by decide +kernel
theorem dJ7_fill_d0a16_0 : decode cJ7_fill_d0a16 0 = .ok (.iconst 0, 1) := by decide +kernel
theorem dJ7_fill_d0a16_1 : decode cJ7_fill_d0a16 1 = .ok (.istore_n 3, 1) := by decide +kernel
theorem dJ7_fill_d0a16_2 : decode cJ7_fill_d0a16 2 = .ok (.aload_n 0, 1) := by decide +kernel
theorem dJ7_fill_d0a16_3 : decode cJ7_fill_d0a16 3 = .ok (.arraylength, 1) := by decide +kernel
theorem dJ7_fill_d0a16_4 : decode cJ7_fill_d0a16 4 = .ok (.istore 4, 2) := by decide +kernel
theorem dJ7_fill_d0a16_6 : decode cJ7_fill_d0a16 6 = .ok (.iload_n 3, 1) := by decide +kernel
theorem dJ7_fill_d0a16_7 : decode cJ7_fill_d0a16 7 = .ok (.iload 4, 2) := by decide +kernel
theorem dJ7_fill_d0a16_9 : decode cJ7_fill_d0a16 9 = .ok (.if_icmp .ge 13, 3) := by decide +kernel
theorem dJ7_fill_d0a16_12 : decode cJ7_fill_d0a16 12 = .ok (.aload_n 0, 1) := by decide +kernel
theorem dJ7_fill_d0a16_13 : decode cJ7_fill_d0a16 13 = .ok (.iload_n 3, 1) := by decide +kernel
theorem dJ7_fill_d0a16_14 : decode cJ7_fill_d0a16 14 = .ok (.lload_n 1, 1) := by decide +kernel
theorem dJ7_fill_d0a16_15 : decode cJ7_fill_d0a16 15 = .ok (.lastore, 1) := by decide +kernel
theorem dJ7_fill_d0a16_16 : decode cJ7_fill_d0a16 16 = .ok (.iinc 3 1, 3) := by decide +kernel
theorem dJ7_fill_d0a16_19 : decode cJ7_fill_d0a16 19 = .ok (.goto (-13), 3) := by decide +kernel
theorem dJ7_fill_d0a16_22 : decode cJ7_fill_d0a16 22 = .ok (.return_, 1) := by decide +kernel
theorem dJ7_fill_53178_0 : decode cJ7_fill_53178 0 = .ok (.iconst 0, 1) := by decide +kernel
theorem dJ7_fill_53178_1 : decode cJ7_fill_53178 1 = .ok (.istore_n 2, 1) := by decide +kernel
theorem dJ7_fill_53178_2 : decode cJ7_fill_53178 2 = .ok (.aload_n 0, 1) := by decide +kernel
theorem dJ7_fill_53178_3 : decode cJ7_fill_53178 3 = .ok (.arraylength, 1) := by decide +kernel
theorem dJ7_fill_53178_4 : decode cJ7_fill_53178 4 = .ok (.istore_n 3, 1) := by decide +kernel
theorem dJ7_fill_53178_5 : decode cJ7_fill_53178 5 = .ok (.iload_n 2, 1) := by decide +kernel
theorem dJ7_fill_53178_6 : decode cJ7_fill_53178 6 = .ok (.iload_n 3, 1) := by decide +kernel
theorem dJ7_fill_53178_7 : decode cJ7_fill_53178 7 = .ok (.if_icmp .ge 13, 3) := by decide +kernel
theorem dJ7_fill_53178_10 : decode cJ7_fill_53178 10 = .ok (.aload_n 0, 1) := by decide +kernel
theorem dJ7_fill_53178_11 : decode cJ7_fill_53178 11 = .ok (.iload_n 2, 1) := by decide +kernel
theorem dJ7_fill_53178_12 : decode cJ7_fill_53178 12 = .ok (.iload_n 1, 1) := by decide +kernel
theorem dJ7_fill_53178_13 : decode cJ7_fill_53178 13 = .ok (.iastore, 1) := by decide +kernel
theorem dJ7_fill_53178_14 : decode cJ7_fill_53178 14 = .ok (.iinc 2 1, 3) := by decide +kernel
theorem dJ7_fill_53178_17 : decode cJ7_fill_53178 17 = .ok (.goto (-12), 3) := by decide +kernel
theorem dJ7_fill_53178_20 : decode cJ7_fill_53178 20 = .ok (.return_, 1) := by decide +kernel
theorem dJ3_checkIndex_8e157_0 : decode cJ3_checkIndex_8e157 0 = .ok (.iload_n 0, 1) := by decide +kernel
theorem dJ3_checkIndex_8e157_1 : decode cJ3_checkIndex_8e157 1 = .ok (.ifCond .lt 8, 3) := by decide +kernel
theorem dJ3_checkIndex_8e157_4 : decode cJ3_checkIndex_8e157 4 = .ok (.iload_n 0, 1) := by decide +kernel
theorem dJ3_checkIndex_8e157_5 : decode cJ3_checkIndex_8e157 5 = .ok (.iload_n 1, 1) := by decide +kernel
theorem dJ3_checkIndex_8e157_6 : decode cJ3_checkIndex_8e157 6 = .ok (.if_icmp .lt 10, 3) := by decide +kernel
theorem dJ3_checkIndex_8e157_9 : decode cJ3_checkIndex_8e157 9 = .ok (.aload_n 2, 1) := by decide +kernel
theorem dJ3_checkIndex_8e157_10 : decode cJ3_checkIndex_8e157 10 = .ok (.iload_n 0, 1) := by decide +kernel
theorem dJ3_checkIndex_8e157_11 : decode cJ3_checkIndex_8e157 11 = .ok (.iload_n 1, 1) := by decide +kernel
theorem dJ3_checkIndex_8e157_12 : decode cJ3_checkIndex_8e157 12 = .ok (.invokestatic 95, 3) := by decide +kernel
theorem dJ3_checkIndex_8e157_15 : decode cJ3_checkIndex_8e157 15 = .ok (.athrow, 1) := by decide +kernel
theorem dJ3_checkIndex_8e157_16 : decode cJ3_checkIndex_8e157 16 = .ok (.iload_n 0, 1) := by decide +kernel
theorem dJ3_checkIndex_8e157_17 : decode cJ3_checkIndex_8e157 17 = .ok (.ireturn, 1) := by decide +kernel
