abbrev k_Open_tricksFrom : gMD := (⟨"DropSignals$OpenCards", "tricksFrom", "(IIII)I"⟩, prog_6_method_8_code, 14, (some .int))
theorem w_817 : Cond.instanceMethod ⟨"DropSignals$OpenCards", "tricksFrom", "(IIII)I"⟩ ∈ gWs := gWs_in (i := 817) (by decide +kernel) rfl
theorem w_16 : Cond.selects "DropSignals$OpenCards" ⟨"DropSignals$OpenCards", "tricksFrom", "(IIII)I"⟩ ⟨"DropSignals$OpenCards", "tricksFrom", "(IIII)I"⟩ ∈ gWs := gWs_in (i := 16) (by decide +kernel) rfl
set_option maxRecDepth 100000 in
theorem ca_Open_tricksFrom : gCaV k_Open_tricksFrom 4 := ⟨⟨gWs_in (i := 818) rfl rfl, w_28, by decide, by decide, by decide +kernel⟩, w_817, w_16⟩
abbrev k_Open_tricksWith : gMD := (⟨"DropSignals$OpenCards", "tricksWith", "(IIIII)I"⟩, prog_6_method_9_code, 10, (some .int))
theorem w_829 : Cond.instanceMethod ⟨"DropSignals$OpenCards", "tricksWith", "(IIIII)I"⟩ ∈ gWs := gWs_in (i := 829) (by decide +kernel) rfl
theorem w_18 : Cond.selects "DropSignals$OpenCards" ⟨"DropSignals$OpenCards", "tricksWith", "(IIIII)I"⟩ ⟨"DropSignals$OpenCards", "tricksWith", "(IIIII)I"⟩ ∈ gWs := gWs_in (i := 18) (by decide +kernel) rfl
set_option maxRecDepth 100000 in
theorem ca_Open_tricksWith : gCaV k_Open_tricksWith 5 := ⟨⟨gWs_in (i := 830) rfl rfl, w_28, by decide, by decide, by decide +kernel⟩, w_829, w_18⟩
theorem d_Open_tricksFrom_0 : decode prog_6_method_8_code 0 = .ok (.iload_n 1, 1) := by decide +kernel
theorem d_Open_tricksFrom_1 : decode prog_6_method_8_code 1 = .ok (.aload_n 0, 1) := by decide +kernel
theorem d_Open_tricksFrom_2 : decode prog_6_method_8_code 2 = .ok (.getfield 40, 3) := by decide +kernel
theorem d_Open_tricksFrom_5 : decode prog_6_method_8_code 5 = .ok (.if_icmp .ge 12, 3) := by decide +kernel
theorem d_Open_tricksFrom_8 : decode prog_6_method_8_code 8 = .ok (.iload_n 1, 1) := by decide +kernel
theorem d_Open_tricksFrom_9 : decode prog_6_method_8_code 9 = .ok (.aload_n 0, 1) := by decide +kernel
theorem d_Open_tricksFrom_10 : decode prog_6_method_8_code 10 = .ok (.getfield 15, 3) := by decide +kernel
theorem d_Open_tricksFrom_13 : decode prog_6_method_8_code 13 = .ok (.arraylength, 1) := by decide +kernel
theorem d_Open_tricksFrom_14 : decode prog_6_method_8_code 14 = .ok (.if_icmp .lt 5, 3) := by decide +kernel
theorem d_Open_tricksFrom_17 : decode prog_6_method_8_code 17 = .ok (.iconst 0, 1) := by decide +kernel
theorem d_Open_tricksFrom_18 : decode prog_6_method_8_code 18 = .ok (.ireturn, 1) := by decide +kernel
theorem d_Open_tricksFrom_19 : decode prog_6_method_8_code 19 = .ok (.iload_n 2, 1) := by decide +kernel
theorem d_Open_tricksFrom_20 : decode prog_6_method_8_code 20 = .ok (.iload_n 1, 1) := by decide +kernel
theorem d_Open_tricksFrom_21 : decode prog_6_method_8_code 21 = .ok (.iconst 4, 1) := by decide +kernel
theorem d_Open_tricksFrom_22 : decode prog_6_method_8_code 22 = .ok (.irem, 1) := by decide +kernel
theorem d_Open_tricksFrom_23 : decode prog_6_method_8_code 23 = .ok (.iadd, 1) := by decide +kernel
theorem d_Open_tricksFrom_24 : decode prog_6_method_8_code 24 = .ok (.iconst 4, 1) := by decide +kernel
theorem d_Open_tricksFrom_25 : decode prog_6_method_8_code 25 = .ok (.irem, 1) := by decide +kernel
theorem d_Open_tricksFrom_26 : decode prog_6_method_8_code 26 = .ok (.istore 5, 2) := by decide +kernel
theorem d_Open_tricksFrom_28 : decode prog_6_method_8_code 28 = .ok (.aload_n 0, 1) := by decide +kernel
theorem d_Open_tricksFrom_29 : decode prog_6_method_8_code 29 = .ok (.iload 5, 2) := by decide +kernel
theorem d_Open_tricksFrom_31 : decode prog_6_method_8_code 31 = .ok (.iload_n 1, 1) := by decide +kernel
theorem d_Open_tricksFrom_32 : decode prog_6_method_8_code 32 = .ok (.invokevirtual 81, 3) := by decide +kernel
theorem d_Open_tricksFrom_35 : decode prog_6_method_8_code 35 = .ok (.istore 6, 2) := by decide +kernel
theorem d_Open_tricksFrom_37 : decode prog_6_method_8_code 37 = .ok (.iload 5, 2) := by decide +kernel
theorem d_Open_tricksFrom_39 : decode prog_6_method_8_code 39 = .ok (.iconst 2, 1) := by decide +kernel
theorem d_Open_tricksFrom_40 : decode prog_6_method_8_code 40 = .ok (.irem, 1) := by decide +kernel
theorem d_Open_tricksFrom_41 : decode prog_6_method_8_code 41 = .ok (.aload_n 0, 1) := by decide +kernel
theorem d_Open_tricksFrom_42 : decode prog_6_method_8_code 42 = .ok (.getfield 61, 3) := by decide +kernel
theorem d_Open_tricksFrom_45 : decode prog_6_method_8_code 45 = .ok (.if_icmp .ne 7, 3) := by decide +kernel
theorem d_Open_tricksFrom_48 : decode prog_6_method_8_code 48 = .ok (.iconst 1, 1) := by decide +kernel
theorem d_Open_tricksFrom_49 : decode prog_6_method_8_code 49 = .ok (.goto 4, 3) := by decide +kernel
theorem d_Open_tricksFrom_52 : decode prog_6_method_8_code 52 = .ok (.iconst 0, 1) := by decide +kernel
theorem d_Open_tricksFrom_53 : decode prog_6_method_8_code 53 = .ok (.istore 7, 2) := by decide +kernel
theorem d_Open_tricksFrom_55 : decode prog_6_method_8_code 55 = .ok (.iload_n 3, 1) := by decide +kernel
theorem d_Open_tricksFrom_56 : decode prog_6_method_8_code 56 = .ok (.istore 8, 2) := by decide +kernel
theorem d_Open_tricksFrom_58 : decode prog_6_method_8_code 58 = .ok (.iload 4, 2) := by decide +kernel
theorem d_Open_tricksFrom_60 : decode prog_6_method_8_code 60 = .ok (.istore 9, 2) := by decide +kernel
theorem d_Open_tricksFrom_62 : decode prog_6_method_8_code 62 = .ok (.iload 7, 2) := by decide +kernel
theorem d_Open_tricksFrom_64 : decode prog_6_method_8_code 64 = .ok (.ifCond .eq 7, 3) := by decide +kernel
theorem d_Open_tricksFrom_67 : decode prog_6_method_8_code 67 = .ok (.iconst (-1), 1) := by decide +kernel
theorem d_Open_tricksFrom_68 : decode prog_6_method_8_code 68 = .ok (.goto 5, 3) := by decide +kernel
theorem d_Open_tricksFrom_71 : decode prog_6_method_8_code 71 = .ok (.bipush 9, 2) := by decide +kernel
theorem d_Open_tricksFrom_73 : decode prog_6_method_8_code 73 = .ok (.istore 10, 2) := by decide +kernel
theorem d_Open_tricksFrom_75 : decode prog_6_method_8_code 75 = .ok (.iconst 0, 1) := by decide +kernel
theorem d_Open_tricksFrom_76 : decode prog_6_method_8_code 76 = .ok (.istore 11, 2) := by decide +kernel
theorem d_Open_tricksFrom_78 : decode prog_6_method_8_code 78 = .ok (.iload 11, 2) := by decide +kernel
theorem d_Open_tricksFrom_80 : decode prog_6_method_8_code 80 = .ok (.iconst 3, 1) := by decide +kernel
theorem d_Open_tricksFrom_81 : decode prog_6_method_8_code 81 = .ok (.if_icmp .ge 128, 3) := by decide +kernel
theorem d_Open_tricksFrom_84 : decode prog_6_method_8_code 84 = .ok (.iload 5, 2) := by decide +kernel
theorem d_Open_tricksFrom_86 : decode prog_6_method_8_code 86 = .ok (.iconst 3, 1) := by decide +kernel
theorem d_Open_tricksFrom_87 : decode prog_6_method_8_code 87 = .ok (.imul, 1) := by decide +kernel
theorem d_Open_tricksFrom_88 : decode prog_6_method_8_code 88 = .ok (.iload 11, 2) := by decide +kernel
theorem d_Open_tricksFrom_90 : decode prog_6_method_8_code 90 = .ok (.iadd, 1) := by decide +kernel
theorem d_Open_tricksFrom_91 : decode prog_6_method_8_code 91 = .ok (.istore 12, 2) := by decide +kernel
theorem d_Open_tricksFrom_93 : decode prog_6_method_8_code 93 = .ok (.aload_n 0, 1) := by decide +kernel
theorem d_Open_tricksFrom_94 : decode prog_6_method_8_code 94 = .ok (.getfield 9, 3) := by decide +kernel
theorem d_Open_tricksFrom_97 : decode prog_6_method_8_code 97 = .ok (.iload 12, 2) := by decide +kernel
theorem d_Open_tricksFrom_99 : decode prog_6_method_8_code 99 = .ok (.invokestatic 85, 3) := by decide +kernel
theorem d_Open_tricksFrom_102 : decode prog_6_method_8_code 102 = .ok (.iload 6, 2) := by decide +kernel
theorem d_Open_tricksFrom_104 : decode prog_6_method_8_code 104 = .ok (.invokestatic 89, 3) := by decide +kernel
theorem d_Open_tricksFrom_107 : decode prog_6_method_8_code 107 = .ok (.ifCond .eq 79, 3) := by decide +kernel
theorem d_Open_tricksFrom_110 : decode prog_6_method_8_code 110 = .ok (.aload_n 0, 1) := by decide +kernel
theorem d_Open_tricksFrom_111 : decode prog_6_method_8_code 111 = .ok (.iload 12, 2) := by decide +kernel
theorem d_Open_tricksFrom_113 : decode prog_6_method_8_code 113 = .ok (.iload_n 1, 1) := by decide +kernel
theorem d_Open_tricksFrom_114 : decode prog_6_method_8_code 114 = .ok (.iload_n 2, 1) := by decide +kernel
theorem d_Open_tricksFrom_115 : decode prog_6_method_8_code 115 = .ok (.iload 8, 2) := by decide +kernel
theorem d_Open_tricksFrom_117 : decode prog_6_method_8_code 117 = .ok (.iload 9, 2) := by decide +kernel
theorem d_Open_tricksFrom_119 : decode prog_6_method_8_code 119 = .ok (.invokevirtual 93, 3) := by decide +kernel
theorem d_Open_tricksFrom_122 : decode prog_6_method_8_code 122 = .ok (.istore 13, 2) := by decide +kernel
theorem d_Open_tricksFrom_124 : decode prog_6_method_8_code 124 = .ok (.iload 7, 2) := by decide +kernel
theorem d_Open_tricksFrom_126 : decode prog_6_method_8_code 126 = .ok (.ifCond .eq 13, 3) := by decide +kernel
theorem d_Open_tricksFrom_129 : decode prog_6_method_8_code 129 = .ok (.iload 10, 2) := by decide +kernel
theorem d_Open_tricksFrom_131 : decode prog_6_method_8_code 131 = .ok (.iload 13, 2) := by decide +kernel
theorem d_Open_tricksFrom_133 : decode prog_6_method_8_code 133 = .ok (.invokestatic 97, 3) := by decide +kernel
theorem d_Open_tricksFrom_136 : decode prog_6_method_8_code 136 = .ok (.goto 10, 3) := by decide +kernel
theorem d_Open_tricksFrom_139 : decode prog_6_method_8_code 139 = .ok (.iload 10, 2) := by decide +kernel
theorem d_Open_tricksFrom_141 : decode prog_6_method_8_code 141 = .ok (.iload 13, 2) := by decide +kernel
theorem d_Open_tricksFrom_143 : decode prog_6_method_8_code 143 = .ok (.invokestatic 102, 3) := by decide +kernel
theorem d_Open_tricksFrom_146 : decode prog_6_method_8_code 146 = .ok (.istore 10, 2) := by decide +kernel
theorem d_Open_tricksFrom_148 : decode prog_6_method_8_code 148 = .ok (.iload 7, 2) := by decide +kernel
theorem d_Open_tricksFrom_150 : decode prog_6_method_8_code 150 = .ok (.ifCond .eq 13, 3) := by decide +kernel
theorem d_Open_tricksFrom_153 : decode prog_6_method_8_code 153 = .ok (.iload 8, 2) := by decide +kernel
theorem d_Open_tricksFrom_155 : decode prog_6_method_8_code 155 = .ok (.iload 10, 2) := by decide +kernel
theorem d_Open_tricksFrom_157 : decode prog_6_method_8_code 157 = .ok (.invokestatic 97, 3) := by decide +kernel
theorem d_Open_tricksFrom_160 : decode prog_6_method_8_code 160 = .ok (.goto 5, 3) := by decide +kernel
theorem d_Open_tricksFrom_163 : decode prog_6_method_8_code 163 = .ok (.iload 8, 2) := by decide +kernel
theorem d_Open_tricksFrom_165 : decode prog_6_method_8_code 165 = .ok (.istore 8, 2) := by decide +kernel
theorem d_Open_tricksFrom_167 : decode prog_6_method_8_code 167 = .ok (.iload 7, 2) := by decide +kernel
theorem d_Open_tricksFrom_169 : decode prog_6_method_8_code 169 = .ok (.ifCond .eq 8, 3) := by decide +kernel
theorem d_Open_tricksFrom_172 : decode prog_6_method_8_code 172 = .ok (.iload 9, 2) := by decide +kernel
theorem d_Open_tricksFrom_174 : decode prog_6_method_8_code 174 = .ok (.goto 10, 3) := by decide +kernel
theorem d_Open_tricksFrom_177 : decode prog_6_method_8_code 177 = .ok (.iload 9, 2) := by decide +kernel
theorem d_Open_tricksFrom_179 : decode prog_6_method_8_code 179 = .ok (.iload 10, 2) := by decide +kernel
theorem d_Open_tricksFrom_181 : decode prog_6_method_8_code 181 = .ok (.invokestatic 102, 3) := by decide +kernel
theorem d_Open_tricksFrom_184 : decode prog_6_method_8_code 184 = .ok (.istore 9, 2) := by decide +kernel
theorem d_Open_tricksFrom_186 : decode prog_6_method_8_code 186 = .ok (.aload_n 0, 1) := by decide +kernel
theorem d_Open_tricksFrom_187 : decode prog_6_method_8_code 187 = .ok (.getfield 70, 3) := by decide +kernel
theorem d_Open_tricksFrom_190 : decode prog_6_method_8_code 190 = .ok (.ifCond .eq 13, 3) := by decide +kernel
theorem d_Open_tricksFrom_193 : decode prog_6_method_8_code 193 = .ok (.iload 8, 2) := by decide +kernel
theorem d_Open_tricksFrom_195 : decode prog_6_method_8_code 195 = .ok (.iload 9, 2) := by decide +kernel
theorem d_Open_tricksFrom_197 : decode prog_6_method_8_code 197 = .ok (.if_icmp .lt 6, 3) := by decide +kernel
theorem d_Open_tricksFrom_200 : decode prog_6_method_8_code 200 = .ok (.iload 10, 2) := by decide +kernel
theorem d_Open_tricksFrom_202 : decode prog_6_method_8_code 202 = .ok (.ireturn, 1) := by decide +kernel
theorem d_Open_tricksFrom_203 : decode prog_6_method_8_code 203 = .ok (.iinc 11 1, 3) := by decide +kernel
theorem d_Open_tricksFrom_206 : decode prog_6_method_8_code 206 = .ok (.goto (-128), 3) := by decide +kernel
theorem d_Open_tricksFrom_209 : decode prog_6_method_8_code 209 = .ok (.iload 10, 2) := by decide +kernel
theorem d_Open_tricksFrom_211 : decode prog_6_method_8_code 211 = .ok (.ireturn, 1) := by decide +kernel
theorem w_819 : Cond.methodLink "DropSignals$OpenCards" 81 ⟨"DropSignals$OpenCards", "suitToFollow", "(II)I"⟩ ∈ gWs := gWs_in (i := 819) (by decide +kernel) rfl
theorem w_827 : Cond.methodLink "DropSignals$OpenCards" 93 ⟨"DropSignals$OpenCards", "tricksWith", "(IIIII)I"⟩ ∈ gWs := gWs_in (i := 827) (by decide +kernel) rfl
theorem w_833 : Cond.methodLink "DropSignals$OpenCards" 102 Lib.Math.min.name ∈ gWs := gWs_in (i := 833) (by decide +kernel) rfl
theorem w_832 : Cond.methodLink "DropSignals$OpenCards" 97 Lib.Math.max.name ∈ gWs := gWs_in (i := 832) (by decide +kernel) rfl
theorem d_Open_tricksWith_0 : decode prog_6_method_9_code 0 = .ok (.aload_n 0, 1) := by decide +kernel
theorem d_Open_tricksWith_1 : decode prog_6_method_9_code 1 = .ok (.getfield 9, 3) := by decide +kernel
theorem d_Open_tricksWith_4 : decode prog_6_method_9_code 4 = .ok (.iload_n 1, 1) := by decide +kernel
theorem d_Open_tricksWith_5 : decode prog_6_method_9_code 5 = .ok (.invokestatic 85, 3) := by decide +kernel
theorem d_Open_tricksWith_8 : decode prog_6_method_9_code 8 = .ok (.istore 6, 2) := by decide +kernel
theorem d_Open_tricksWith_10 : decode prog_6_method_9_code 10 = .ok (.aload_n 0, 1) := by decide +kernel
theorem d_Open_tricksWith_11 : decode prog_6_method_9_code 11 = .ok (.getfield 9, 3) := by decide +kernel
theorem d_Open_tricksWith_14 : decode prog_6_method_9_code 14 = .ok (.iload_n 1, 1) := by decide +kernel
theorem d_Open_tricksWith_15 : decode prog_6_method_9_code 15 = .ok (.iconst (-1), 1) := by decide +kernel
theorem d_Open_tricksWith_16 : decode prog_6_method_9_code 16 = .ok (.invokestatic 47, 3) := by decide +kernel
theorem d_Open_tricksWith_19 : decode prog_6_method_9_code 19 = .ok (.aload_n 0, 1) := by decide +kernel
theorem d_Open_tricksWith_20 : decode prog_6_method_9_code 20 = .ok (.getfield 15, 3) := by decide +kernel
theorem d_Open_tricksWith_23 : decode prog_6_method_9_code 23 = .ok (.iload_n 2, 1) := by decide +kernel
theorem d_Open_tricksWith_24 : decode prog_6_method_9_code 24 = .ok (.iload 6, 2) := by decide +kernel
theorem d_Open_tricksWith_26 : decode prog_6_method_9_code 26 = .ok (.invokestatic 47, 3) := by decide +kernel
theorem d_Open_tricksWith_29 : decode prog_6_method_9_code 29 = .ok (.iload_n 2, 1) := by decide +kernel
theorem d_Open_tricksWith_30 : decode prog_6_method_9_code 30 = .ok (.iconst 4, 1) := by decide +kernel
theorem d_Open_tricksWith_31 : decode prog_6_method_9_code 31 = .ok (.irem, 1) := by decide +kernel
theorem d_Open_tricksWith_32 : decode prog_6_method_9_code 32 = .ok (.iconst 3, 1) := by decide +kernel
theorem d_Open_tricksWith_33 : decode prog_6_method_9_code 33 = .ok (.if_icmp .ne 68, 3) := by decide +kernel
theorem d_Open_tricksWith_36 : decode prog_6_method_9_code 36 = .ok (.iload_n 3, 1) := by decide +kernel
theorem d_Open_tricksWith_37 : decode prog_6_method_9_code 37 = .ok (.aload_n 0, 1) := by decide +kernel
theorem d_Open_tricksWith_38 : decode prog_6_method_9_code 38 = .ok (.getfield 15, 3) := by decide +kernel
theorem d_Open_tricksWith_41 : decode prog_6_method_9_code 41 = .ok (.iload_n 2, 1) := by decide +kernel
theorem d_Open_tricksWith_42 : decode prog_6_method_9_code 42 = .ok (.iconst 3, 1) := by decide +kernel
theorem d_Open_tricksWith_43 : decode prog_6_method_9_code 43 = .ok (.isub, 1) := by decide +kernel
theorem d_Open_tricksWith_44 : decode prog_6_method_9_code 44 = .ok (.aload_n 0, 1) := by decide +kernel
theorem d_Open_tricksWith_45 : decode prog_6_method_9_code 45 = .ok (.getfield 67, 3) := by decide +kernel
theorem d_Open_tricksWith_48 : decode prog_6_method_9_code 48 = .ok (.invokestatic 105, 3) := by decide +kernel
theorem d_Open_tricksWith_51 : decode prog_6_method_9_code 51 = .ok (.iadd, 1) := by decide +kernel
theorem d_Open_tricksWith_52 : decode prog_6_method_9_code 52 = .ok (.iconst 4, 1) := by decide +kernel
theorem d_Open_tricksWith_53 : decode prog_6_method_9_code 53 = .ok (.irem, 1) := by decide +kernel
theorem d_Open_tricksWith_54 : decode prog_6_method_9_code 54 = .ok (.istore 8, 2) := by decide +kernel
theorem d_Open_tricksWith_56 : decode prog_6_method_9_code 56 = .ok (.iload 8, 2) := by decide +kernel
theorem d_Open_tricksWith_58 : decode prog_6_method_9_code 58 = .ok (.iconst 2, 1) := by decide +kernel
theorem d_Open_tricksWith_59 : decode prog_6_method_9_code 59 = .ok (.irem, 1) := by decide +kernel
theorem d_Open_tricksWith_60 : decode prog_6_method_9_code 60 = .ok (.aload_n 0, 1) := by decide +kernel
theorem d_Open_tricksWith_61 : decode prog_6_method_9_code 61 = .ok (.getfield 61, 3) := by decide +kernel
theorem d_Open_tricksWith_64 : decode prog_6_method_9_code 64 = .ok (.if_icmp .ne 7, 3) := by decide +kernel
theorem d_Open_tricksWith_67 : decode prog_6_method_9_code 67 = .ok (.iconst 1, 1) := by decide +kernel
theorem d_Open_tricksWith_68 : decode prog_6_method_9_code 68 = .ok (.goto 4, 3) := by decide +kernel
theorem d_Open_tricksWith_71 : decode prog_6_method_9_code 71 = .ok (.iconst 0, 1) := by decide +kernel
theorem d_Open_tricksWith_72 : decode prog_6_method_9_code 72 = .ok (.istore 9, 2) := by decide +kernel
theorem d_Open_tricksWith_74 : decode prog_6_method_9_code 74 = .ok (.iload 9, 2) := by decide +kernel
theorem d_Open_tricksWith_76 : decode prog_6_method_9_code 76 = .ok (.aload_n 0, 1) := by decide +kernel
theorem d_Open_tricksWith_77 : decode prog_6_method_9_code 77 = .ok (.iload_n 2, 1) := by decide +kernel
theorem d_Open_tricksWith_78 : decode prog_6_method_9_code 78 = .ok (.iconst 1, 1) := by decide +kernel
theorem d_Open_tricksWith_79 : decode prog_6_method_9_code 79 = .ok (.iadd, 1) := by decide +kernel
theorem d_Open_tricksWith_80 : decode prog_6_method_9_code 80 = .ok (.iload 8, 2) := by decide +kernel
theorem d_Open_tricksWith_82 : decode prog_6_method_9_code 82 = .ok (.iload 4, 2) := by decide +kernel
theorem d_Open_tricksWith_84 : decode prog_6_method_9_code 84 = .ok (.iload 9, 2) := by decide +kernel
theorem d_Open_tricksWith_86 : decode prog_6_method_9_code 86 = .ok (.isub, 1) := by decide +kernel
theorem d_Open_tricksWith_87 : decode prog_6_method_9_code 87 = .ok (.iload 5, 2) := by decide +kernel
theorem d_Open_tricksWith_89 : decode prog_6_method_9_code 89 = .ok (.iload 9, 2) := by decide +kernel
theorem d_Open_tricksWith_91 : decode prog_6_method_9_code 91 = .ok (.isub, 1) := by decide +kernel
theorem d_Open_tricksWith_92 : decode prog_6_method_9_code 92 = .ok (.invokevirtual 77, 3) := by decide +kernel
theorem d_Open_tricksWith_95 : decode prog_6_method_9_code 95 = .ok (.iadd, 1) := by decide +kernel
theorem d_Open_tricksWith_96 : decode prog_6_method_9_code 96 = .ok (.istore 7, 2) := by decide +kernel
theorem d_Open_tricksWith_98 : decode prog_6_method_9_code 98 = .ok (.goto 17, 3) := by decide +kernel
theorem d_Open_tricksWith_101 : decode prog_6_method_9_code 101 = .ok (.aload_n 0, 1) := by decide +kernel
theorem d_Open_tricksWith_102 : decode prog_6_method_9_code 102 = .ok (.iload_n 2, 1) := by decide +kernel
theorem d_Open_tricksWith_103 : decode prog_6_method_9_code 103 = .ok (.iconst 1, 1) := by decide +kernel
theorem d_Open_tricksWith_104 : decode prog_6_method_9_code 104 = .ok (.iadd, 1) := by decide +kernel
theorem d_Open_tricksWith_105 : decode prog_6_method_9_code 105 = .ok (.iload_n 3, 1) := by decide +kernel
theorem d_Open_tricksWith_106 : decode prog_6_method_9_code 106 = .ok (.iload 4, 2) := by decide +kernel
theorem d_Open_tricksWith_108 : decode prog_6_method_9_code 108 = .ok (.iload 5, 2) := by decide +kernel
theorem d_Open_tricksWith_110 : decode prog_6_method_9_code 110 = .ok (.invokevirtual 77, 3) := by decide +kernel
theorem d_Open_tricksWith_113 : decode prog_6_method_9_code 113 = .ok (.istore 7, 2) := by decide +kernel
theorem d_Open_tricksWith_115 : decode prog_6_method_9_code 115 = .ok (.aload_n 0, 1) := by decide +kernel
theorem d_Open_tricksWith_116 : decode prog_6_method_9_code 116 = .ok (.getfield 9, 3) := by decide +kernel
theorem d_Open_tricksWith_119 : decode prog_6_method_9_code 119 = .ok (.iload_n 1, 1) := by decide +kernel
theorem d_Open_tricksWith_120 : decode prog_6_method_9_code 120 = .ok (.iload 6, 2) := by decide +kernel
theorem d_Open_tricksWith_122 : decode prog_6_method_9_code 122 = .ok (.invokestatic 47, 3) := by decide +kernel
theorem d_Open_tricksWith_125 : decode prog_6_method_9_code 125 = .ok (.iload 7, 2) := by decide +kernel
theorem d_Open_tricksWith_127 : decode prog_6_method_9_code 127 = .ok (.ireturn, 1) := by decide +kernel
theorem w_815 : Cond.methodLink "DropSignals$OpenCards" 77 ⟨"DropSignals$OpenCards", "tricksFrom", "(IIII)I"⟩ ∈ gWs := gWs_in (i := 815) (by decide +kernel) rfl
noncomputable def f_Open_tricksFrom_b203 (RW : (gMem → Int32 → Int32 → Int32 → Int32 → Int32 → Option (Int32 × gMem))) (M : gMem) (x1 : Int32) (x2 : Int32) (x5 : Int32) (x6 : Int32) (x7 : Int32) (x8 : Int32) (x9 : Int32) (x10 : Int32) (x11 : Int32) : Option ((Int32 × Int32 × Int32 × Int32 × gMem) ⊕ (Int32 × gMem)) :=
  some (.inl (x8, x9, x10, (x11 + 1), M))
theorem t_Open_tricksFrom_b203 {l : Launch} {ε : gEnv} (RW : (gMem → Int32 → Int32 → Int32 → Int32 → Int32 → Option (Int32 × gMem))) (hX : gXw ε) (fr n0 : Nat) (cW : ∀ (hX : gXw ε) (M : gMem) (v0 v1 v2 v3 v4 : Int32) (r : Int32 × gMem), RW M v0 v1 v2 v3 v4 = some r → gCt l ε k_Open_tricksWith fr n0 [.ref (ε.2.2.1 18 8), .int v0, .int v1, .int v2, .int v3, .int v4] M (some (.int r.1)) r.2) (M : gMem) (x1 : Int32) (x2 : Int32) (x5 : Int32) (x6 : Int32) (x7 : Int32) (x8 : Int32) (x9 : Int32) (x10 : Int32) (x11 : Int32) (res : ((Int32 × Int32 × Int32 × Int32 × gMem) ⊕ (Int32 × gMem))) (h : f_Open_tricksFrom_b203 RW M x1 x2 x5 x6 x7 x8 x9 x10 x11 = some res) (r : (Int32 × gMem)) (k1 : ∀ s0 : (Int32 × Int32 × Int32 × Int32 × gMem), res = .inl s0 → gGo l ε k_Open_tricksFrom (gR (fr + 5) (n0 + 200)) (gFn ε (some (.int r.1)) r.2) 78 [(0, .ref (ε.2.2.1 18 8)), (1, .int x1), (2, .int x2), (5, .int x5), (6, .int x6), (7, .int x7), (8, .int s0.1), (9, .int s0.2.1), (10, .int s0.2.2.1), (11, .int s0.2.2.2.1)] [] s0.2.2.2.2) (k2 : ∀ r', res = .inr r' → r' = r) : gGo l ε k_Open_tricksFrom (gR (fr + 5) (n0 + 200)) (gFn ε (some (.int r.1)) r.2) 203 [(0, .ref (ε.2.2.1 18 8)), (1, .int x1), (2, .int x2), (5, .int x5), (6, .int x6), (7, .int x7), (8, .int x8), (9, .int x9), (10, .int x10), (11, .int x11)] [] M := by
  unfold f_Open_tricksFrom_b203 at h
  refine g_iinc (v := (x11 + 1)) (L' := [(11, .int (x11 + 1)), (0, .ref (ε.2.2.1 18 8)), (1, .int x1), (2, .int x2), (5, .int x5), (6, .int x6), (7, .int x7), (8, .int x8), (9, .int x9), (10, .int x10)]) d_Open_tricksFrom_203 (j := 9) rfl rfl (by decide) rfl ?_
  refine g_goto (tgt := 78) d_Open_tricksFrom_206 (by decide) ?_
  refine gGo_sub [1, 2, 3, 4, 5, 6, 7, 8, 9, 0] rfl ?_
  obtain rfl := Option.some.inj h
  exact k1 (x8, x9, x10, (x11 + 1), M) rfl
noncomputable def f_Open_tricksFrom_b186 (RW : (gMem → Int32 → Int32 → Int32 → Int32 → Int32 → Option (Int32 × gMem))) (M : gMem) (x1 : Int32) (x2 : Int32) (x5 : Int32) (x6 : Int32) (x7 : Int32) (x8 : Int32) (x9 : Int32) (x10 : Int32) (x11 : Int32) : Option ((Int32 × Int32 × Int32 × Int32 × gMem) ⊕ (Int32 × gMem)) :=
  if (M 18 8 7) = 0 then
    f_Open_tricksFrom_b203 RW M x1 x2 x5 x6 x7 x8 x9 x10 x11
  else
    if x8 < x9 then
      f_Open_tricksFrom_b203 RW M x1 x2 x5 x6 x7 x8 x9 x10 x11
    else
      some (.inr (x10, M))
theorem t_Open_tricksFrom_b186 {l : Launch} {ε : gEnv} (RW : (gMem → Int32 → Int32 → Int32 → Int32 → Int32 → Option (Int32 × gMem))) (hX : gXw ε) (fr n0 : Nat) (cW : ∀ (hX : gXw ε) (M : gMem) (v0 v1 v2 v3 v4 : Int32) (r : Int32 × gMem), RW M v0 v1 v2 v3 v4 = some r → gCt l ε k_Open_tricksWith fr n0 [.ref (ε.2.2.1 18 8), .int v0, .int v1, .int v2, .int v3, .int v4] M (some (.int r.1)) r.2) (M : gMem) (x1 : Int32) (x2 : Int32) (x5 : Int32) (x6 : Int32) (x7 : Int32) (x8 : Int32) (x9 : Int32) (x10 : Int32) (x11 : Int32) (res : ((Int32 × Int32 × Int32 × Int32 × gMem) ⊕ (Int32 × gMem))) (h : f_Open_tricksFrom_b186 RW M x1 x2 x5 x6 x7 x8 x9 x10 x11 = some res) (r : (Int32 × gMem)) (k1 : ∀ s0 : (Int32 × Int32 × Int32 × Int32 × gMem), res = .inl s0 → gGo l ε k_Open_tricksFrom (gR (fr + 5) (n0 + 200)) (gFn ε (some (.int r.1)) r.2) 78 [(0, .ref (ε.2.2.1 18 8)), (1, .int x1), (2, .int x2), (5, .int x5), (6, .int x6), (7, .int x7), (8, .int s0.1), (9, .int s0.2.1), (10, .int s0.2.2.1), (11, .int s0.2.2.2.1)] [] s0.2.2.2.2) (k2 : ∀ r', res = .inr r' → r' = r) : gGo l ε k_Open_tricksFrom (gR (fr + 5) (n0 + 200)) (gFn ε (some (.int r.1)) r.2) 186 [(0, .ref (ε.2.2.1 18 8)), (1, .int x1), (2, .int x2), (5, .int x5), (6, .int x6), (7, .int x7), (8, .int x8), (9, .int x9), (10, .int x10), (11, .int x11)] [] M := by
  unfold f_Open_tricksFrom_b186 at h
  refine g_aload_n d_Open_tricksFrom_186 rfl 0 rfl ?_
  refine g_getI d_Open_tricksFrom_187 fl_Open_70 (gXw_h8 hX) rfl ?_
  refine g_if_eq (tgt := 203) d_Open_tricksFrom_190 (by decide) (fun c5 => ?_) (fun c5 => ?_)
  · rw [if_pos c5] at h
    exact t_Open_tricksFrom_b203 RW hX fr n0 cW M x1 x2 x5 x6 x7 x8 x9 x10 x11 _ h r k1 k2
  · rw [if_neg c5] at h
    refine g_iload d_Open_tricksFrom_193 6 rfl ?_
    refine g_iload d_Open_tricksFrom_195 7 rfl ?_
    refine g_icmp_lt (tgt := 203) d_Open_tricksFrom_197 (by decide) (fun c4 => ?_) (fun c4 => ?_)
    · rw [if_pos c4] at h
      exact t_Open_tricksFrom_b203 RW hX fr n0 cW M x1 x2 x5 x6 x7 x8 x9 x10 x11 _ h r k1 k2
    · rw [if_neg c4] at h
      refine g_iload d_Open_tricksFrom_200 8 rfl ?_
      obtain rfl := Option.some.inj h
      have e9 := k2 _ rfl
      subst e9
      exact g_iret d_Open_tricksFrom_202 rfl
noncomputable def f_Open_tricksFrom_b184 (RW : (gMem → Int32 → Int32 → Int32 → Int32 → Int32 → Option (Int32 × gMem))) (M : gMem) (x1 : Int32) (x2 : Int32) (x5 : Int32) (x6 : Int32) (x7 : Int32) (x8 : Int32) (x10 : Int32) (x11 : Int32) (s0 : Int32) : Option ((Int32 × Int32 × Int32 × Int32 × gMem) ⊕ (Int32 × gMem)) :=
  f_Open_tricksFrom_b186 RW M x1 x2 x5 x6 x7 x8 s0 x10 x11
theorem t_Open_tricksFrom_b184 {l : Launch} {ε : gEnv} (RW : (gMem → Int32 → Int32 → Int32 → Int32 → Int32 → Option (Int32 × gMem))) (hX : gXw ε) (fr n0 : Nat) (cW : ∀ (hX : gXw ε) (M : gMem) (v0 v1 v2 v3 v4 : Int32) (r : Int32 × gMem), RW M v0 v1 v2 v3 v4 = some r → gCt l ε k_Open_tricksWith fr n0 [.ref (ε.2.2.1 18 8), .int v0, .int v1, .int v2, .int v3, .int v4] M (some (.int r.1)) r.2) (M : gMem) (x1 : Int32) (x2 : Int32) (x5 : Int32) (x6 : Int32) (x7 : Int32) (x8 : Int32) (x10 : Int32) (x11 : Int32) (s0 : Int32) (res : ((Int32 × Int32 × Int32 × Int32 × gMem) ⊕ (Int32 × gMem))) (h : f_Open_tricksFrom_b184 RW M x1 x2 x5 x6 x7 x8 x10 x11 s0 = some res) (r : (Int32 × gMem)) (k1 : ∀ s0 : (Int32 × Int32 × Int32 × Int32 × gMem), res = .inl s0 → gGo l ε k_Open_tricksFrom (gR (fr + 5) (n0 + 200)) (gFn ε (some (.int r.1)) r.2) 78 [(0, .ref (ε.2.2.1 18 8)), (1, .int x1), (2, .int x2), (5, .int x5), (6, .int x6), (7, .int x7), (8, .int s0.1), (9, .int s0.2.1), (10, .int s0.2.2.1), (11, .int s0.2.2.2.1)] [] s0.2.2.2.2) (k2 : ∀ r', res = .inr r' → r' = r) : gGo l ε k_Open_tricksFrom (gR (fr + 5) (n0 + 200)) (gFn ε (some (.int r.1)) r.2) 184 [(0, .ref (ε.2.2.1 18 8)), (1, .int x1), (2, .int x2), (5, .int x5), (6, .int x6), (7, .int x7), (8, .int x8), (10, .int x10), (11, .int x11)] [.int s0] M := by
  unfold f_Open_tricksFrom_b184 at h
  refine g_istore (L' := [(9, .int s0), (0, .ref (ε.2.2.1 18 8)), (1, .int x1), (2, .int x2), (5, .int x5), (6, .int x6), (7, .int x7), (8, .int x8), (10, .int x10), (11, .int x11)]) d_Open_tricksFrom_184 (by decide) rfl ?_
  refine gGo_sub [1, 2, 3, 4, 5, 6, 7, 0, 8, 9] rfl ?_
  exact t_Open_tricksFrom_b186 RW hX fr n0 cW M x1 x2 x5 x6 x7 x8 s0 x10 x11 _ h r k1 k2
noncomputable def f_Open_tricksFrom_b165 (RW : (gMem → Int32 → Int32 → Int32 → Int32 → Int32 → Option (Int32 × gMem))) (M : gMem) (x1 : Int32) (x2 : Int32) (x5 : Int32) (x6 : Int32) (x7 : Int32) (x9 : Int32) (x10 : Int32) (x11 : Int32) (s0 : Int32) : Option ((Int32 × Int32 × Int32 × Int32 × gMem) ⊕ (Int32 × gMem)) :=
  if x7 = 0 then
    f_Open_tricksFrom_b184 RW M x1 x2 x5 x6 x7 s0 x10 x11 (if x10 < x9 then x10 else x9)
  else
    f_Open_tricksFrom_b184 RW M x1 x2 x5 x6 x7 s0 x10 x11 x9
theorem t_Open_tricksFrom_b165 {l : Launch} {ε : gEnv} (RW : (gMem → Int32 → Int32 → Int32 → Int32 → Int32 → Option (Int32 × gMem))) (hX : gXw ε) (fr n0 : Nat) (cW : ∀ (hX : gXw ε) (M : gMem) (v0 v1 v2 v3 v4 : Int32) (r : Int32 × gMem), RW M v0 v1 v2 v3 v4 = some r → gCt l ε k_Open_tricksWith fr n0 [.ref (ε.2.2.1 18 8), .int v0, .int v1, .int v2, .int v3, .int v4] M (some (.int r.1)) r.2) (M : gMem) (x1 : Int32) (x2 : Int32) (x5 : Int32) (x6 : Int32) (x7 : Int32) (x9 : Int32) (x10 : Int32) (x11 : Int32) (s0 : Int32) (res : ((Int32 × Int32 × Int32 × Int32 × gMem) ⊕ (Int32 × gMem))) (h : f_Open_tricksFrom_b165 RW M x1 x2 x5 x6 x7 x9 x10 x11 s0 = some res) (r : (Int32 × gMem)) (k1 : ∀ s0 : (Int32 × Int32 × Int32 × Int32 × gMem), res = .inl s0 → gGo l ε k_Open_tricksFrom (gR (fr + 5) (n0 + 200)) (gFn ε (some (.int r.1)) r.2) 78 [(0, .ref (ε.2.2.1 18 8)), (1, .int x1), (2, .int x2), (5, .int x5), (6, .int x6), (7, .int x7), (8, .int s0.1), (9, .int s0.2.1), (10, .int s0.2.2.1), (11, .int s0.2.2.2.1)] [] s0.2.2.2.2) (k2 : ∀ r', res = .inr r' → r' = r) : gGo l ε k_Open_tricksFrom (gR (fr + 5) (n0 + 200)) (gFn ε (some (.int r.1)) r.2) 165 [(0, .ref (ε.2.2.1 18 8)), (1, .int x1), (2, .int x2), (5, .int x5), (6, .int x6), (7, .int x7), (9, .int x9), (10, .int x10), (11, .int x11)] [.int s0] M := by
  unfold f_Open_tricksFrom_b165 at h
  refine g_istore (L' := [(8, .int s0), (0, .ref (ε.2.2.1 18 8)), (1, .int x1), (2, .int x2), (5, .int x5), (6, .int x6), (7, .int x7), (9, .int x9), (10, .int x10), (11, .int x11)]) d_Open_tricksFrom_165 (by decide) rfl ?_
  refine g_iload d_Open_tricksFrom_167 6 rfl ?_
  refine g_if_eq (tgt := 177) d_Open_tricksFrom_169 (by decide) (fun c7 => ?_) (fun c7 => ?_)
  · rw [if_pos c7] at h
    refine g_iload d_Open_tricksFrom_177 7 rfl ?_
    refine g_iload d_Open_tricksFrom_179 8 rfl ?_
    refine g_min d_Open_tricksFrom_181 w_833 w_712 w_36 w_713 (by show 1 ≤ fr + 5; omega) (Nat.le_trans (m := 200) (Nat.le_of_ble_eq_true rfl) (by show 200 ≤ n0 + 200; omega)) ?_
    refine gGo_sub [1, 2, 3, 4, 5, 6, 0, 8, 9] rfl ?_
    exact t_Open_tricksFrom_b184 RW hX fr n0 cW M x1 x2 x5 x6 x7 s0 x10 x11 (if x10 < x9 then x10 else x9) _ h r k1 k2
  · rw [if_neg c7] at h
    refine g_iload d_Open_tricksFrom_172 7 rfl ?_
    refine g_goto (tgt := 184) d_Open_tricksFrom_174 (by decide) ?_
    refine gGo_sub [1, 2, 3, 4, 5, 6, 0, 8, 9] rfl ?_
    exact t_Open_tricksFrom_b184 RW hX fr n0 cW M x1 x2 x5 x6 x7 s0 x10 x11 x9 _ h r k1 k2
noncomputable def f_Open_tricksFrom_b146 (RW : (gMem → Int32 → Int32 → Int32 → Int32 → Int32 → Option (Int32 × gMem))) (M : gMem) (x1 : Int32) (x2 : Int32) (x5 : Int32) (x6 : Int32) (x7 : Int32) (x8 : Int32) (x9 : Int32) (x11 : Int32) (s0 : Int32) : Option ((Int32 × Int32 × Int32 × Int32 × gMem) ⊕ (Int32 × gMem)) :=
  if x7 = 0 then
    f_Open_tricksFrom_b165 RW M x1 x2 x5 x6 x7 x9 s0 x11 x8
  else
    f_Open_tricksFrom_b165 RW M x1 x2 x5 x6 x7 x9 s0 x11 (if x8 < s0 then s0 else x8)
theorem t_Open_tricksFrom_b146 {l : Launch} {ε : gEnv} (RW : (gMem → Int32 → Int32 → Int32 → Int32 → Int32 → Option (Int32 × gMem))) (hX : gXw ε) (fr n0 : Nat) (cW : ∀ (hX : gXw ε) (M : gMem) (v0 v1 v2 v3 v4 : Int32) (r : Int32 × gMem), RW M v0 v1 v2 v3 v4 = some r → gCt l ε k_Open_tricksWith fr n0 [.ref (ε.2.2.1 18 8), .int v0, .int v1, .int v2, .int v3, .int v4] M (some (.int r.1)) r.2) (M : gMem) (x1 : Int32) (x2 : Int32) (x5 : Int32) (x6 : Int32) (x7 : Int32) (x8 : Int32) (x9 : Int32) (x11 : Int32) (s0 : Int32) (res : ((Int32 × Int32 × Int32 × Int32 × gMem) ⊕ (Int32 × gMem))) (h : f_Open_tricksFrom_b146 RW M x1 x2 x5 x6 x7 x8 x9 x11 s0 = some res) (r : (Int32 × gMem)) (k1 : ∀ s0 : (Int32 × Int32 × Int32 × Int32 × gMem), res = .inl s0 → gGo l ε k_Open_tricksFrom (gR (fr + 5) (n0 + 200)) (gFn ε (some (.int r.1)) r.2) 78 [(0, .ref (ε.2.2.1 18 8)), (1, .int x1), (2, .int x2), (5, .int x5), (6, .int x6), (7, .int x7), (8, .int s0.1), (9, .int s0.2.1), (10, .int s0.2.2.1), (11, .int s0.2.2.2.1)] [] s0.2.2.2.2) (k2 : ∀ r', res = .inr r' → r' = r) : gGo l ε k_Open_tricksFrom (gR (fr + 5) (n0 + 200)) (gFn ε (some (.int r.1)) r.2) 146 [(0, .ref (ε.2.2.1 18 8)), (1, .int x1), (2, .int x2), (5, .int x5), (6, .int x6), (7, .int x7), (8, .int x8), (9, .int x9), (11, .int x11)] [.int s0] M := by
  unfold f_Open_tricksFrom_b146 at h
  refine g_istore (L' := [(10, .int s0), (0, .ref (ε.2.2.1 18 8)), (1, .int x1), (2, .int x2), (5, .int x5), (6, .int x6), (7, .int x7), (8, .int x8), (9, .int x9), (11, .int x11)]) d_Open_tricksFrom_146 (by decide) rfl ?_
  refine g_iload d_Open_tricksFrom_148 6 rfl ?_
  refine g_if_eq (tgt := 163) d_Open_tricksFrom_150 (by decide) (fun c8 => ?_) (fun c8 => ?_)
  · rw [if_pos c8] at h
    refine g_iload d_Open_tricksFrom_163 7 rfl ?_
    refine gGo_sub [1, 2, 3, 4, 5, 6, 8, 0, 9] rfl ?_
    exact t_Open_tricksFrom_b165 RW hX fr n0 cW M x1 x2 x5 x6 x7 x9 s0 x11 x8 _ h r k1 k2
  · rw [if_neg c8] at h
    refine g_iload d_Open_tricksFrom_153 7 rfl ?_
    refine g_iload d_Open_tricksFrom_155 0 rfl ?_
    refine g_max d_Open_tricksFrom_157 w_832 w_795 w_36 w_796 (by show 1 ≤ fr + 5; omega) (Nat.le_trans (m := 200) (Nat.le_of_ble_eq_true rfl) (by show 200 ≤ n0 + 200; omega)) ?_
    refine g_goto (tgt := 165) d_Open_tricksFrom_160 (by decide) ?_
    refine gGo_sub [1, 2, 3, 4, 5, 6, 8, 0, 9] rfl ?_
    exact t_Open_tricksFrom_b165 RW hX fr n0 cW M x1 x2 x5 x6 x7 x9 s0 x11 (if x8 < s0 then s0 else x8) _ h r k1 k2
noncomputable def f_Open_tricksFrom_s78 (RW : (gMem → Int32 → Int32 → Int32 → Int32 → Int32 → Option (Int32 × gMem))) (M : gMem) (x1 : Int32) (x2 : Int32) (x5 : Int32) (x6 : Int32) (x7 : Int32) (x8 : Int32) (x9 : Int32) (x10 : Int32) (x11 : Int32) : Option ((Int32 × Int32 × Int32 × Int32 × gMem) ⊕ (Int32 × gMem)) :=
  if 3 ≤ x11 then
    some (.inr (x10, M))
  else
    (f_DS_at 18 9 12 M ((x5 * 3) + x11)).bind fun q2 =>
    (f_Open_fits q2 x6).bind fun q3 =>
    if q3 = 0 then
      f_Open_tricksFrom_b186 RW M x1 x2 x5 x6 x7 x8 x9 x10 x11
    else
      (RW M ((x5 * 3) + x11) x1 x2 x8 x9).bind fun q6 =>
      if x7 = 0 then
        f_Open_tricksFrom_b146 RW q6.2 x1 x2 x5 x6 x7 x8 x9 x11 (if q6.1 < x10 then q6.1 else x10)
      else
        f_Open_tricksFrom_b146 RW q6.2 x1 x2 x5 x6 x7 x8 x9 x11 (if x10 < q6.1 then q6.1 else x10)
theorem t_Open_tricksFrom_s78 {l : Launch} {ε : gEnv} (RW : (gMem → Int32 → Int32 → Int32 → Int32 → Int32 → Option (Int32 × gMem))) (hX : gXw ε) (fr n0 : Nat) (cW : ∀ (hX : gXw ε) (M : gMem) (v0 v1 v2 v3 v4 : Int32) (r : Int32 × gMem), RW M v0 v1 v2 v3 v4 = some r → gCt l ε k_Open_tricksWith fr n0 [.ref (ε.2.2.1 18 8), .int v0, .int v1, .int v2, .int v3, .int v4] M (some (.int r.1)) r.2) (M : gMem) (x1 : Int32) (x2 : Int32) (x5 : Int32) (x6 : Int32) (x7 : Int32) (x8 : Int32) (x9 : Int32) (x10 : Int32) (x11 : Int32) (res : ((Int32 × Int32 × Int32 × Int32 × gMem) ⊕ (Int32 × gMem))) (h : f_Open_tricksFrom_s78 RW M x1 x2 x5 x6 x7 x8 x9 x10 x11 = some res) (r : (Int32 × gMem)) (k1 : ∀ s0 : (Int32 × Int32 × Int32 × Int32 × gMem), res = .inl s0 → gGo l ε k_Open_tricksFrom (gR (fr + 5) (n0 + 200)) (gFn ε (some (.int r.1)) r.2) 78 [(0, .ref (ε.2.2.1 18 8)), (1, .int x1), (2, .int x2), (5, .int x5), (6, .int x6), (7, .int x7), (8, .int s0.1), (9, .int s0.2.1), (10, .int s0.2.2.1), (11, .int s0.2.2.2.1)] [] s0.2.2.2.2) (k2 : ∀ r', res = .inr r' → r' = r) : gGo l ε k_Open_tricksFrom (gR (fr + 5) (n0 + 200)) (gFn ε (some (.int r.1)) r.2) 78 [(0, .ref (ε.2.2.1 18 8)), (1, .int x1), (2, .int x2), (5, .int x5), (6, .int x6), (7, .int x7), (8, .int x8), (9, .int x9), (10, .int x10), (11, .int x11)] [] M := by
  unfold f_Open_tricksFrom_s78 at h
  refine g_iload d_Open_tricksFrom_78 9 rfl ?_
  refine g_iconst (v := 3) d_Open_tricksFrom_80 (by decide) ?_
  refine g_icmp_ge (tgt := 209) d_Open_tricksFrom_81 (by decide) (fun c11 => ?_) (fun c11 => ?_)
  · rw [if_pos c11] at h
    refine g_iload d_Open_tricksFrom_209 8 rfl ?_
    obtain rfl := Option.some.inj h
    have e9 := k2 _ rfl
    subst e9
    exact g_iret d_Open_tricksFrom_211 rfl
  · rw [if_neg c11] at h
    refine g_iload d_Open_tricksFrom_84 3 rfl ?_
    refine g_iconst (v := 3) d_Open_tricksFrom_86 (by decide) ?_
    refine g_imul d_Open_tricksFrom_87 ?_
    refine g_iload d_Open_tricksFrom_88 9 rfl ?_
    refine g_iadd d_Open_tricksFrom_90 ?_
    refine g_istore (L' := [(12, .int ((x5 * 3) + x11)), (0, .ref (ε.2.2.1 18 8)), (1, .int x1), (2, .int x2), (5, .int x5), (6, .int x6), (7, .int x7), (8, .int x8), (9, .int x9), (10, .int x10), (11, .int x11)]) d_Open_tricksFrom_91 (by decide) rfl ?_
    refine g_aload_n d_Open_tricksFrom_93 rfl 1 rfl ?_
    refine g_getR d_Open_tricksFrom_94 fl_Open_9 (gXw_h8 hX) rfl ?_
    refine g_iload d_Open_tricksFrom_97 0 rfl ?_
    obtain ⟨q2, hq2, h⟩ := gOb h
    refine g_callN_i (As := [.ref (ε.2.2.1 18 9), .int ((x5 * 3) + x11)]) (rest := []) (j := 823) (host := "DropSignals") (ct_DS_at 18 9 12 (gXw_h9 hX) M ((x5 * 3) + x11) _ hq2) d_Open_tricksFrom_99 ca_DS_at (by decide +kernel) rfl rfl (Nat.le_of_ble_eq_true rfl) ⟨(by show 1 ≤ fr + 5; omega), (Nat.le_trans (m := 200) (Nat.le_of_ble_eq_true rfl) (by show 200 ≤ n0 + 200; omega))⟩ ?_
    refine g_iload d_Open_tricksFrom_102 5 rfl ?_
    obtain ⟨q3, hq3, h⟩ := gOb h
    refine g_callS_i (As := [.int q2, .int x6]) (rest := []) (ct_Open_fits M q2 x6 _ hq3) d_Open_tricksFrom_104 ca_Open_fits w_824 rfl rfl (Nat.le_of_ble_eq_true rfl) ⟨(by show 1 ≤ fr + 5; omega), (Nat.le_trans (m := 200) (Nat.le_of_ble_eq_true rfl) (by show 200 ≤ n0 + 200; omega))⟩ ?_
    refine g_if_eq (tgt := 186) d_Open_tricksFrom_107 (by decide) (fun c10 => ?_) (fun c10 => ?_)
    · rw [if_pos c10] at h
      refine gGo_sub [1, 2, 3, 4, 5, 6, 7, 8, 9, 10] rfl ?_
      exact t_Open_tricksFrom_b186 RW hX fr n0 cW M x1 x2 x5 x6 x7 x8 x9 x10 x11 _ h r k1 k2
    · rw [if_neg c10] at h
      refine g_aload_n d_Open_tricksFrom_110 rfl 1 rfl ?_
      refine g_iload d_Open_tricksFrom_111 0 rfl ?_
      refine g_iload_n d_Open_tricksFrom_113 rfl 2 rfl ?_
      refine g_iload_n d_Open_tricksFrom_114 rfl 3 rfl ?_
      refine g_iload d_Open_tricksFrom_115 7 rfl ?_
      refine g_iload d_Open_tricksFrom_117 8 rfl ?_
      obtain ⟨q6, hq6, h⟩ := gOb h
      refine g_callV_i (As := [.int ((x5 * 3) + x11), .int x1, .int x2, .int x8, .int x9]) (rest := []) (cW hX M ((x5 * 3) + x11) x1 x2 x8 x9 _ hq6) d_Open_tricksFrom_119 ca_Open_tricksWith w_827 (gXw_h8 hX) rfl rfl rfl (Nat.le_of_ble_eq_true rfl) ⟨(by show fr + 1 ≤ fr + 5; omega), (by show 8 + (10 + 11) + n0 ≤ n0 + 200; omega)⟩ ?_
      refine g_istore (L' := [(13, .int q6.1), (12, .int ((x5 * 3) + x11)), (0, .ref (ε.2.2.1 18 8)), (1, .int x1), (2, .int x2), (5, .int x5), (6, .int x6), (7, .int x7), (8, .int x8), (9, .int x9), (10, .int x10), (11, .int x11)]) d_Open_tricksFrom_122 (by decide) rfl ?_
      refine g_iload d_Open_tricksFrom_124 7 rfl ?_
      refine g_if_eq (tgt := 139) d_Open_tricksFrom_126 (by decide) (fun c9 => ?_) (fun c9 => ?_)
      · rw [if_pos c9] at h
        refine g_iload d_Open_tricksFrom_139 10 rfl ?_
        refine g_iload d_Open_tricksFrom_141 0 rfl ?_
        refine g_min d_Open_tricksFrom_143 w_833 w_712 w_36 w_713 (by show 1 ≤ fr + 5; omega) (Nat.le_trans (m := 200) (Nat.le_of_ble_eq_true rfl) (by show 200 ≤ n0 + 200; omega)) ?_
        refine gGo_sub [2, 3, 4, 5, 6, 7, 8, 9, 11] rfl ?_
        exact t_Open_tricksFrom_b146 RW hX fr n0 cW q6.2 x1 x2 x5 x6 x7 x8 x9 x11 (if q6.1 < x10 then q6.1 else x10) _ h r k1 k2
      · rw [if_neg c9] at h
        refine g_iload d_Open_tricksFrom_129 10 rfl ?_
        refine g_iload d_Open_tricksFrom_131 0 rfl ?_
        refine g_max d_Open_tricksFrom_133 w_832 w_795 w_36 w_796 (by show 1 ≤ fr + 5; omega) (Nat.le_trans (m := 200) (Nat.le_of_ble_eq_true rfl) (by show 200 ≤ n0 + 200; omega)) ?_
        refine g_goto (tgt := 146) d_Open_tricksFrom_136 (by decide) ?_
        refine gGo_sub [2, 3, 4, 5, 6, 7, 8, 9, 11] rfl ?_
        exact t_Open_tricksFrom_b146 RW hX fr n0 cW q6.2 x1 x2 x5 x6 x7 x8 x9 x11 (if x10 < q6.1 then q6.1 else x10) _ h r k1 k2
noncomputable def f_Open_tricksFrom_l78 (RW : (gMem → Int32 → Int32 → Int32 → Int32 → Int32 → Option (Int32 × gMem))) (x1 : Int32) (x2 : Int32) (x5 : Int32) (x6 : Int32) (x7 : Int32) (s : (Int32 × Int32 × Int32 × Int32 × gMem)) : Option (Int32 × gMem) := gLp (fun s => f_Open_tricksFrom_s78 RW s.2.2.2.2 x1 x2 x5 x6 x7 s.1 s.2.1 s.2.2.1 s.2.2.2.1) s
theorem t_Open_tricksFrom_l78 {l : Launch} {ε : gEnv} (RW : (gMem → Int32 → Int32 → Int32 → Int32 → Int32 → Option (Int32 × gMem))) (hX : gXw ε) (fr n0 : Nat) (cW : ∀ (hX : gXw ε) (M : gMem) (v0 v1 v2 v3 v4 : Int32) (r : Int32 × gMem), RW M v0 v1 v2 v3 v4 = some r → gCt l ε k_Open_tricksWith fr n0 [.ref (ε.2.2.1 18 8), .int v0, .int v1, .int v2, .int v3, .int v4] M (some (.int r.1)) r.2) (x1 : Int32) (x2 : Int32) (x5 : Int32) (x6 : Int32) (x7 : Int32) (s : (Int32 × Int32 × Int32 × Int32 × gMem)) (r : (Int32 × gMem)) (h : f_Open_tricksFrom_l78 RW x1 x2 x5 x6 x7 s = some r) : gGo l ε k_Open_tricksFrom (gR (fr + 5) (n0 + 200)) (gFn ε (some (.int r.1)) r.2) 78 [(0, .ref (ε.2.2.1 18 8)), (1, .int x1), (2, .int x2), (5, .int x5), (6, .int x6), (7, .int x7), (8, .int s.1), (9, .int s.2.1), (10, .int s.2.2.1), (11, .int s.2.2.2.1)] [] s.2.2.2.2 :=
  g_loop _ (fun r s => gGo l ε k_Open_tricksFrom (gR (fr + 5) (n0 + 200)) (gFn ε (some (.int r.1)) r.2) 78 [(0, .ref (ε.2.2.1 18 8)), (1, .int x1), (2, .int x2), (5, .int x5), (6, .int x6), (7, .int x7), (8, .int s.1), (9, .int s.2.1), (10, .int s.2.2.1), (11, .int s.2.2.2.1)] [] s.2.2.2.2) (fun s res h r k1 k2 => t_Open_tricksFrom_s78 RW hX fr n0 cW s.2.2.2.2 x1 x2 x5 x6 x7 s.1 s.2.1 s.2.2.1 s.2.2.2.1 res h r k1 k2) s r h
noncomputable def f_Open_tricksFrom_b73 (RW : (gMem → Int32 → Int32 → Int32 → Int32 → Int32 → Option (Int32 × gMem))) (M : gMem) (x1 : Int32) (x2 : Int32) (x5 : Int32) (x6 : Int32) (x7 : Int32) (x8 : Int32) (x9 : Int32) (s0 : Int32) : Option (Int32 × gMem) :=
  f_Open_tricksFrom_l78 RW x1 x2 x5 x6 x7 (x8, x9, s0, 0, M)
theorem t_Open_tricksFrom_b73 {l : Launch} {ε : gEnv} (RW : (gMem → Int32 → Int32 → Int32 → Int32 → Int32 → Option (Int32 × gMem))) (hX : gXw ε) (fr n0 : Nat) (cW : ∀ (hX : gXw ε) (M : gMem) (v0 v1 v2 v3 v4 : Int32) (r : Int32 × gMem), RW M v0 v1 v2 v3 v4 = some r → gCt l ε k_Open_tricksWith fr n0 [.ref (ε.2.2.1 18 8), .int v0, .int v1, .int v2, .int v3, .int v4] M (some (.int r.1)) r.2) (M : gMem) (x1 : Int32) (x2 : Int32) (x5 : Int32) (x6 : Int32) (x7 : Int32) (x8 : Int32) (x9 : Int32) (s0 : Int32) (r : (Int32 × gMem)) (h : f_Open_tricksFrom_b73 RW M x1 x2 x5 x6 x7 x8 x9 s0 = some r) : gGo l ε k_Open_tricksFrom (gR (fr + 5) (n0 + 200)) (gFn ε (some (.int r.1)) r.2) 73 [(0, .ref (ε.2.2.1 18 8)), (1, .int x1), (2, .int x2), (5, .int x5), (6, .int x6), (7, .int x7), (8, .int x8), (9, .int x9)] [.int s0] M := by
  unfold f_Open_tricksFrom_b73 at h
  refine g_istore (L' := [(10, .int s0), (0, .ref (ε.2.2.1 18 8)), (1, .int x1), (2, .int x2), (5, .int x5), (6, .int x6), (7, .int x7), (8, .int x8), (9, .int x9)]) d_Open_tricksFrom_73 (by decide) rfl ?_
  refine g_iconst (v := 0) d_Open_tricksFrom_75 (by decide) ?_
  refine g_istore (L' := [(11, .int 0), (10, .int s0), (0, .ref (ε.2.2.1 18 8)), (1, .int x1), (2, .int x2), (5, .int x5), (6, .int x6), (7, .int x7), (8, .int x8), (9, .int x9)]) d_Open_tricksFrom_76 (by decide) rfl ?_
  refine gGo_sub [2, 3, 4, 5, 6, 7, 8, 9, 1, 0] rfl ?_
  exact t_Open_tricksFrom_l78 RW hX fr n0 cW x1 x2 x5 x6 x7 (x8, x9, s0, 0, M) _ h
noncomputable def f_Open_tricksFrom_b53 (RW : (gMem → Int32 → Int32 → Int32 → Int32 → Int32 → Option (Int32 × gMem))) (M : gMem) (x1 : Int32) (x2 : Int32) (x3 : Int32) (x4 : Int32) (x5 : Int32) (x6 : Int32) (s0 : Int32) : Option (Int32 × gMem) :=
  if s0 = 0 then
    f_Open_tricksFrom_b73 RW M x1 x2 x5 x6 s0 x3 x4 9
  else
    f_Open_tricksFrom_b73 RW M x1 x2 x5 x6 s0 x3 x4 (-1)
theorem t_Open_tricksFrom_b53 {l : Launch} {ε : gEnv} (RW : (gMem → Int32 → Int32 → Int32 → Int32 → Int32 → Option (Int32 × gMem))) (hX : gXw ε) (fr n0 : Nat) (cW : ∀ (hX : gXw ε) (M : gMem) (v0 v1 v2 v3 v4 : Int32) (r : Int32 × gMem), RW M v0 v1 v2 v3 v4 = some r → gCt l ε k_Open_tricksWith fr n0 [.ref (ε.2.2.1 18 8), .int v0, .int v1, .int v2, .int v3, .int v4] M (some (.int r.1)) r.2) (M : gMem) (x1 : Int32) (x2 : Int32) (x3 : Int32) (x4 : Int32) (x5 : Int32) (x6 : Int32) (s0 : Int32) (r : (Int32 × gMem)) (h : f_Open_tricksFrom_b53 RW M x1 x2 x3 x4 x5 x6 s0 = some r) : gGo l ε k_Open_tricksFrom (gR (fr + 5) (n0 + 200)) (gFn ε (some (.int r.1)) r.2) 53 [(0, .ref (ε.2.2.1 18 8)), (1, .int x1), (2, .int x2), (3, .int x3), (4, .int x4), (5, .int x5), (6, .int x6)] [.int s0] M := by
  unfold f_Open_tricksFrom_b53 at h
  refine g_istore (L' := [(7, .int s0), (0, .ref (ε.2.2.1 18 8)), (1, .int x1), (2, .int x2), (3, .int x3), (4, .int x4), (5, .int x5), (6, .int x6)]) d_Open_tricksFrom_53 (by decide) rfl ?_
  refine g_iload_n d_Open_tricksFrom_55 rfl 4 rfl ?_
  refine g_istore (L' := [(8, .int x3), (7, .int s0), (0, .ref (ε.2.2.1 18 8)), (1, .int x1), (2, .int x2), (3, .int x3), (4, .int x4), (5, .int x5), (6, .int x6)]) d_Open_tricksFrom_56 (by decide) rfl ?_
  refine g_iload d_Open_tricksFrom_58 6 rfl ?_
  refine g_istore (L' := [(9, .int x4), (8, .int x3), (7, .int s0), (0, .ref (ε.2.2.1 18 8)), (1, .int x1), (2, .int x2), (3, .int x3), (4, .int x4), (5, .int x5), (6, .int x6)]) d_Open_tricksFrom_60 (by decide) rfl ?_
  refine g_iload d_Open_tricksFrom_62 2 rfl ?_
  refine g_if_eq (tgt := 71) d_Open_tricksFrom_64 (by decide) (fun c12 => ?_) (fun c12 => ?_)
  · rw [if_pos c12] at h
    refine g_bipush (v := 9) d_Open_tricksFrom_71 (by decide) ?_
    refine gGo_sub [3, 4, 5, 8, 9, 2, 1, 0] rfl ?_
    exact t_Open_tricksFrom_b73 RW hX fr n0 cW M x1 x2 x5 x6 s0 x3 x4 9 _ h
  · rw [if_neg c12] at h
    refine g_iconst (v := -1) d_Open_tricksFrom_67 (by decide) ?_
    refine g_goto (tgt := 73) d_Open_tricksFrom_68 (by decide) ?_
    refine gGo_sub [3, 4, 5, 8, 9, 2, 1, 0] rfl ?_
    exact t_Open_tricksFrom_b73 RW hX fr n0 cW M x1 x2 x5 x6 s0 x3 x4 (-1) _ h
noncomputable def f_Open_tricksFrom (RW : (gMem → Int32 → Int32 → Int32 → Int32 → Int32 → Option (Int32 × gMem))) (M : gMem) (a0 : Int32) (a1 : Int32) (a2 : Int32) (a3 : Int32) : Option (Int32 × gMem) :=
  if (M 18 8 3) ≤ a0 then
    some (0, M)
  else
    if a0 < (Int32.ofNat 12) then
      (f_Open_suitToFollow M (gRem (a1 + (gRem a0 4)) 4) a0).bind fun q1 =>
      if (gRem (gRem (a1 + (gRem a0 4)) 4) 2) = (M 18 8 5) then
        f_Open_tricksFrom_b53 RW M a0 a1 a2 a3 (gRem (a1 + (gRem a0 4)) 4) q1 1
      else
        f_Open_tricksFrom_b53 RW M a0 a1 a2 a3 (gRem (a1 + (gRem a0 4)) 4) q1 0
    else
      some (0, M)
theorem t_Open_tricksFrom {l : Launch} {ε : gEnv} (RW : (gMem → Int32 → Int32 → Int32 → Int32 → Int32 → Option (Int32 × gMem))) (hX : gXw ε) (fr n0 : Nat) (cW : ∀ (hX : gXw ε) (M : gMem) (v0 v1 v2 v3 v4 : Int32) (r : Int32 × gMem), RW M v0 v1 v2 v3 v4 = some r → gCt l ε k_Open_tricksWith fr n0 [.ref (ε.2.2.1 18 8), .int v0, .int v1, .int v2, .int v3, .int v4] M (some (.int r.1)) r.2) (M : gMem) (a0 : Int32) (a1 : Int32) (a2 : Int32) (a3 : Int32) (r : (Int32 × gMem)) (h : f_Open_tricksFrom RW M a0 a1 a2 a3 = some r) : gGo l ε k_Open_tricksFrom (gR (fr + 5) (n0 + 200)) (gFn ε (some (.int r.1)) r.2) 0 [(0, .ref (ε.2.2.1 18 8)), (1, .int a0), (2, .int a1), (3, .int a2), (4, .int a3)] [] M := by
  unfold f_Open_tricksFrom at h
  refine g_iload_n d_Open_tricksFrom_0 rfl 1 rfl ?_
  refine g_aload_n d_Open_tricksFrom_1 rfl 0 rfl ?_
  refine g_getI d_Open_tricksFrom_2 fl_Open_40 (gXw_h8 hX) rfl ?_
  refine g_icmp_ge (tgt := 17) d_Open_tricksFrom_5 (by decide) (fun c15 => ?_) (fun c15 => ?_)
  · rw [if_pos c15] at h
    refine g_iconst (v := 0) d_Open_tricksFrom_17 (by decide) ?_
    obtain rfl := Option.some.inj h
    exact g_iret d_Open_tricksFrom_18 rfl
  · rw [if_neg c15] at h
    refine g_iload_n d_Open_tricksFrom_8 rfl 1 rfl ?_
    refine g_aload_n d_Open_tricksFrom_9 rfl 0 rfl ?_
    refine g_getR d_Open_tricksFrom_10 fl_Open_15 (gXw_h8 hX) rfl ?_
    refine g_alen d_Open_tricksFrom_13 (gXw_h10 hX) ?_
    refine g_icmp_lt (tgt := 19) d_Open_tricksFrom_14 (by decide) (fun c14 => ?_) (fun c14 => ?_)
    · rw [if_pos c14] at h
      refine g_iload_n d_Open_tricksFrom_19 rfl 2 rfl ?_
      refine g_iload_n d_Open_tricksFrom_20 rfl 1 rfl ?_
      refine g_iconst (v := 4) d_Open_tricksFrom_21 (by decide) ?_
      refine g_rem d_Open_tricksFrom_22 (by decide) ?_
      refine g_iadd d_Open_tricksFrom_23 ?_
      refine g_iconst (v := 4) d_Open_tricksFrom_24 (by decide) ?_
      refine g_rem d_Open_tricksFrom_25 (by decide) ?_
      refine g_istore (L' := [(5, .int (gRem (a1 + (gRem a0 4)) 4)), (0, .ref (ε.2.2.1 18 8)), (1, .int a0), (2, .int a1), (3, .int a2), (4, .int a3)]) d_Open_tricksFrom_26 (by decide) rfl ?_
      refine g_aload_n d_Open_tricksFrom_28 rfl 1 rfl ?_
      refine g_iload d_Open_tricksFrom_29 0 rfl ?_
      refine g_iload_n d_Open_tricksFrom_31 rfl 2 rfl ?_
      obtain ⟨q1, hq1, h⟩ := gOb h
      refine g_callV_i (As := [.int (gRem (a1 + (gRem a0 4)) 4), .int a0]) (rest := []) (ct_Open_suitToFollow hX M (gRem (a1 + (gRem a0 4)) 4) a0 _ hq1) d_Open_tricksFrom_32 ca_Open_suitToFollow w_819 (gXw_h8 hX) rfl rfl rfl (Nat.le_of_ble_eq_true rfl) ⟨(by show 2 ≤ fr + 5; omega), (Nat.le_trans (m := 200) (Nat.le_of_ble_eq_true rfl) (by show 200 ≤ n0 + 200; omega))⟩ ?_
      refine g_istore (L' := [(6, .int q1), (5, .int (gRem (a1 + (gRem a0 4)) 4)), (0, .ref (ε.2.2.1 18 8)), (1, .int a0), (2, .int a1), (3, .int a2), (4, .int a3)]) d_Open_tricksFrom_35 (by decide) rfl ?_
      refine g_iload d_Open_tricksFrom_37 1 rfl ?_
      refine g_iconst (v := 2) d_Open_tricksFrom_39 (by decide) ?_
      refine g_rem d_Open_tricksFrom_40 (by decide) ?_
      refine g_aload_n d_Open_tricksFrom_41 rfl 2 rfl ?_
      refine g_getI d_Open_tricksFrom_42 fl_Open_61 (gXw_h8 hX) rfl ?_
      refine g_icmp_ne (tgt := 52) d_Open_tricksFrom_45 (by decide) (fun c13 => ?_) (fun c13 => ?_)
      · rw [if_neg c13] at h
        refine g_iconst (v := 0) d_Open_tricksFrom_52 (by decide) ?_
        refine gGo_sub [2, 3, 4, 5, 6, 1, 0] rfl ?_
        exact t_Open_tricksFrom_b53 RW hX fr n0 cW M a0 a1 a2 a3 (gRem (a1 + (gRem a0 4)) 4) q1 0 _ h
      · rw [if_pos c13] at h
        refine g_iconst (v := 1) d_Open_tricksFrom_48 (by decide) ?_
        refine g_goto (tgt := 53) d_Open_tricksFrom_49 (by decide) ?_
        refine gGo_sub [2, 3, 4, 5, 6, 1, 0] rfl ?_
        exact t_Open_tricksFrom_b53 RW hX fr n0 cW M a0 a1 a2 a3 (gRem (a1 + (gRem a0 4)) 4) q1 1 _ h
    · rw [if_neg c14] at h
      refine g_iconst (v := 0) d_Open_tricksFrom_17 (by decide) ?_
      obtain rfl := Option.some.inj h
      exact g_iret d_Open_tricksFrom_18 rfl

noncomputable def f_Open_tricksWith_b115 (RW : (gMem → Int32 → Int32 → Int32 → Int32 → Option (Int32 × gMem))) (M : gMem) (x1 : Int32) (x6 : Int32) (x7 : Int32) : Option (Int32 × gMem) :=
  (f_DS_put 18 9 12 M x1 x6).bind fun q5 =>
  some (x7, q5)
theorem t_Open_tricksWith_b115 {l : Launch} {ε : gEnv} (RW : (gMem → Int32 → Int32 → Int32 → Int32 → Option (Int32 × gMem))) (hX : gXw ε) (fr n0 : Nat) (cW : ∀ (hX : gXw ε) (M : gMem) (v0 v1 v2 v3 : Int32) (r : Int32 × gMem), RW M v0 v1 v2 v3 = some r → gCt l ε k_Open_tricksFrom fr n0 [.ref (ε.2.2.1 18 8), .int v0, .int v1, .int v2, .int v3] M (some (.int r.1)) r.2) (M : gMem) (x1 : Int32) (x6 : Int32) (x7 : Int32) (r : (Int32 × gMem)) (h : f_Open_tricksWith_b115 RW M x1 x6 x7 = some r) : gGo l ε k_Open_tricksWith (gR (fr + 5) (n0 + 200)) (gFn ε (some (.int r.1)) r.2) 115 [(0, .ref (ε.2.2.1 18 8)), (1, .int x1), (6, .int x6), (7, .int x7)] [] M := by
  unfold f_Open_tricksWith_b115 at h
  refine g_aload_n d_Open_tricksWith_115 rfl 0 rfl ?_
  refine g_getR d_Open_tricksWith_116 fl_Open_9 (gXw_h8 hX) rfl ?_
  refine g_iload_n d_Open_tricksWith_119 rfl 1 rfl ?_
  refine g_iload d_Open_tricksWith_120 2 rfl ?_
  obtain ⟨q5, hq5, h⟩ := gOb h
  refine g_callN_v (As := [.ref (ε.2.2.1 18 9), .int x1, .int x6]) (rest := []) (j := 805) (host := "DropSignals") (ct_DS_put 18 9 12 (gXw_h9 hX) M x1 x6 _ hq5) d_Open_tricksWith_122 ca_DS_put (by decide +kernel) rfl rfl (Nat.le_of_ble_eq_true rfl) ⟨(by show 1 ≤ fr + 5; omega), (Nat.le_trans (m := 200) (Nat.le_of_ble_eq_true rfl) (by show 200 ≤ n0 + 200; omega))⟩ ?_
  refine g_iload d_Open_tricksWith_125 3 rfl ?_
  obtain rfl := Option.some.inj h
  exact g_iret d_Open_tricksWith_127 rfl
noncomputable def f_Open_tricksWith_b72 (RW : (gMem → Int32 → Int32 → Int32 → Int32 → Option (Int32 × gMem))) (M : gMem) (x1 : Int32) (x2 : Int32) (x4 : Int32) (x5 : Int32) (x6 : Int32) (x8 : Int32) (s0 : Int32) : Option (Int32 × gMem) :=
  (RW M (x2 + 1) x8 (x4 - s0) (x5 - s0)).bind fun q7 =>
  f_Open_tricksWith_b115 RW q7.2 x1 x6 (s0 + q7.1)
theorem t_Open_tricksWith_b72 {l : Launch} {ε : gEnv} (RW : (gMem → Int32 → Int32 → Int32 → Int32 → Option (Int32 × gMem))) (hX : gXw ε) (fr n0 : Nat) (cW : ∀ (hX : gXw ε) (M : gMem) (v0 v1 v2 v3 : Int32) (r : Int32 × gMem), RW M v0 v1 v2 v3 = some r → gCt l ε k_Open_tricksFrom fr n0 [.ref (ε.2.2.1 18 8), .int v0, .int v1, .int v2, .int v3] M (some (.int r.1)) r.2) (M : gMem) (x1 : Int32) (x2 : Int32) (x4 : Int32) (x5 : Int32) (x6 : Int32) (x8 : Int32) (s0 : Int32) (r : (Int32 × gMem)) (h : f_Open_tricksWith_b72 RW M x1 x2 x4 x5 x6 x8 s0 = some r) : gGo l ε k_Open_tricksWith (gR (fr + 5) (n0 + 200)) (gFn ε (some (.int r.1)) r.2) 72 [(0, .ref (ε.2.2.1 18 8)), (1, .int x1), (2, .int x2), (4, .int x4), (5, .int x5), (6, .int x6), (8, .int x8)] [.int s0] M := by
  unfold f_Open_tricksWith_b72 at h
  refine g_istore (L' := [(9, .int s0), (0, .ref (ε.2.2.1 18 8)), (1, .int x1), (2, .int x2), (4, .int x4), (5, .int x5), (6, .int x6), (8, .int x8)]) d_Open_tricksWith_72 (by decide) rfl ?_
  refine g_iload d_Open_tricksWith_74 0 rfl ?_
  refine g_aload_n d_Open_tricksWith_76 rfl 1 rfl ?_
  refine g_iload_n d_Open_tricksWith_77 rfl 3 rfl ?_
  refine g_iconst (v := 1) d_Open_tricksWith_78 (by decide) ?_
  refine g_iadd d_Open_tricksWith_79 ?_
  refine g_iload d_Open_tricksWith_80 7 rfl ?_
  refine g_iload d_Open_tricksWith_82 4 rfl ?_
  refine g_iload d_Open_tricksWith_84 0 rfl ?_
  refine g_isub d_Open_tricksWith_86 ?_
  refine g_iload d_Open_tricksWith_87 5 rfl ?_
  refine g_iload d_Open_tricksWith_89 0 rfl ?_
  refine g_isub d_Open_tricksWith_91 ?_
  obtain ⟨q7, hq7, h⟩ := gOb h
  refine g_callV_i (As := [.int (x2 + 1), .int x8, .int (x4 - s0), .int (x5 - s0)]) (rest := [.int s0]) (cW hX M (x2 + 1) x8 (x4 - s0) (x5 - s0) _ hq7) d_Open_tricksWith_92 ca_Open_tricksFrom w_815 (gXw_h8 hX) rfl rfl rfl (Nat.le_of_ble_eq_true rfl) ⟨(by show fr + 1 ≤ fr + 5; omega), (by show 8 + (14 + 11) + n0 ≤ n0 + 200; omega)⟩ ?_
  refine g_iadd d_Open_tricksWith_95 ?_
  refine g_istore (L' := [(7, .int (s0 + q7.1)), (9, .int s0), (0, .ref (ε.2.2.1 18 8)), (1, .int x1), (2, .int x2), (4, .int x4), (5, .int x5), (6, .int x6), (8, .int x8)]) d_Open_tricksWith_96 (by decide) rfl ?_
  refine g_goto (tgt := 115) d_Open_tricksWith_98 (by decide) ?_
  refine gGo_sub [2, 3, 7, 0] rfl ?_
  exact t_Open_tricksWith_b115 RW hX fr n0 cW q7.2 x1 x6 (s0 + q7.1) _ h
noncomputable def f_Open_tricksWith (RW : (gMem → Int32 → Int32 → Int32 → Int32 → Option (Int32 × gMem))) (M : gMem) (a0 : Int32) (a1 : Int32) (a2 : Int32) (a3 : Int32) (a4 : Int32) : Option (Int32 × gMem) :=
  (f_DS_at 18 9 12 M a0).bind fun q1 =>
  (f_DS_put 18 9 12 M a0 (-1)).bind fun q2 =>
  (f_DS_put 18 10 12 q2 a1 q1).bind fun q3 =>
  if (gRem a1 4) = 3 then
    (f_DS_winningPlace 18 10 12 q3 (a1 - 3) (q3 18 8 6)).bind fun q6 =>
    if (gRem (gRem (a2 + q6) 4) 2) = (q3 18 8 5) then
      f_Open_tricksWith_b72 RW q3 a0 a1 a3 a4 q1 (gRem (a2 + q6) 4) 1
    else
      f_Open_tricksWith_b72 RW q3 a0 a1 a3 a4 q1 (gRem (a2 + q6) 4) 0
  else
    (RW q3 (a1 + 1) a2 a3 a4).bind fun q4 =>
    f_Open_tricksWith_b115 RW q4.2 a0 q1 q4.1
theorem t_Open_tricksWith {l : Launch} {ε : gEnv} (RW : (gMem → Int32 → Int32 → Int32 → Int32 → Option (Int32 × gMem))) (hX : gXw ε) (fr n0 : Nat) (cW : ∀ (hX : gXw ε) (M : gMem) (v0 v1 v2 v3 : Int32) (r : Int32 × gMem), RW M v0 v1 v2 v3 = some r → gCt l ε k_Open_tricksFrom fr n0 [.ref (ε.2.2.1 18 8), .int v0, .int v1, .int v2, .int v3] M (some (.int r.1)) r.2) (M : gMem) (a0 : Int32) (a1 : Int32) (a2 : Int32) (a3 : Int32) (a4 : Int32) (r : (Int32 × gMem)) (h : f_Open_tricksWith RW M a0 a1 a2 a3 a4 = some r) : gGo l ε k_Open_tricksWith (gR (fr + 5) (n0 + 200)) (gFn ε (some (.int r.1)) r.2) 0 [(0, .ref (ε.2.2.1 18 8)), (1, .int a0), (2, .int a1), (3, .int a2), (4, .int a3), (5, .int a4)] [] M := by
  unfold f_Open_tricksWith at h
  refine g_aload_n d_Open_tricksWith_0 rfl 0 rfl ?_
  refine g_getR d_Open_tricksWith_1 fl_Open_9 (gXw_h8 hX) rfl ?_
  refine g_iload_n d_Open_tricksWith_4 rfl 1 rfl ?_
  obtain ⟨q1, hq1, h⟩ := gOb h
  refine g_callN_i (As := [.ref (ε.2.2.1 18 9), .int a0]) (rest := []) (j := 823) (host := "DropSignals") (ct_DS_at 18 9 12 (gXw_h9 hX) M a0 _ hq1) d_Open_tricksWith_5 ca_DS_at (by decide +kernel) rfl rfl (Nat.le_of_ble_eq_true rfl) ⟨(by show 1 ≤ fr + 5; omega), (Nat.le_trans (m := 200) (Nat.le_of_ble_eq_true rfl) (by show 200 ≤ n0 + 200; omega))⟩ ?_
  refine g_istore (L' := [(6, .int q1), (0, .ref (ε.2.2.1 18 8)), (1, .int a0), (2, .int a1), (3, .int a2), (4, .int a3), (5, .int a4)]) d_Open_tricksWith_8 (by decide) rfl ?_
  refine g_aload_n d_Open_tricksWith_10 rfl 1 rfl ?_
  refine g_getR d_Open_tricksWith_11 fl_Open_9 (gXw_h8 hX) rfl ?_
  refine g_iload_n d_Open_tricksWith_14 rfl 2 rfl ?_
  refine g_iconst (v := -1) d_Open_tricksWith_15 (by decide) ?_
  obtain ⟨q2, hq2, h⟩ := gOb h
  refine g_callN_v (As := [.ref (ε.2.2.1 18 9), .int a0, .int (-1)]) (rest := []) (j := 805) (host := "DropSignals") (ct_DS_put 18 9 12 (gXw_h9 hX) M a0 (-1) _ hq2) d_Open_tricksWith_16 ca_DS_put (by decide +kernel) rfl rfl (Nat.le_of_ble_eq_true rfl) ⟨(by show 1 ≤ fr + 5; omega), (Nat.le_trans (m := 200) (Nat.le_of_ble_eq_true rfl) (by show 200 ≤ n0 + 200; omega))⟩ ?_
  refine g_aload_n d_Open_tricksWith_19 rfl 1 rfl ?_
  refine g_getR d_Open_tricksWith_20 fl_Open_15 (gXw_h8 hX) rfl ?_
  refine g_iload_n d_Open_tricksWith_23 rfl 3 rfl ?_
  refine g_iload d_Open_tricksWith_24 0 rfl ?_
  obtain ⟨q3, hq3, h⟩ := gOb h
  refine g_callN_v (As := [.ref (ε.2.2.1 18 10), .int a1, .int q1]) (rest := []) (j := 805) (host := "DropSignals") (ct_DS_put 18 10 12 (gXw_h10 hX) q2 a1 q1 _ hq3) d_Open_tricksWith_26 ca_DS_put (by decide +kernel) rfl rfl (Nat.le_of_ble_eq_true rfl) ⟨(by show 1 ≤ fr + 5; omega), (Nat.le_trans (m := 200) (Nat.le_of_ble_eq_true rfl) (by show 200 ≤ n0 + 200; omega))⟩ ?_
  refine g_iload_n d_Open_tricksWith_29 rfl 3 rfl ?_
  refine g_iconst (v := 4) d_Open_tricksWith_30 (by decide) ?_
  refine g_rem d_Open_tricksWith_31 (by decide) ?_
  refine g_iconst (v := 3) d_Open_tricksWith_32 (by decide) ?_
  refine g_icmp_ne (tgt := 101) d_Open_tricksWith_33 (by decide) (fun c9 => ?_) (fun c9 => ?_)
  · rw [if_neg c9] at h
    refine g_aload_n d_Open_tricksWith_101 rfl 1 rfl ?_
    refine g_iload_n d_Open_tricksWith_102 rfl 3 rfl ?_
    refine g_iconst (v := 1) d_Open_tricksWith_103 (by decide) ?_
    refine g_iadd d_Open_tricksWith_104 ?_
    refine g_iload_n d_Open_tricksWith_105 rfl 4 rfl ?_
    refine g_iload d_Open_tricksWith_106 5 rfl ?_
    refine g_iload d_Open_tricksWith_108 6 rfl ?_
    obtain ⟨q4, hq4, h⟩ := gOb h
    refine g_callV_i (As := [.int (a1 + 1), .int a2, .int a3, .int a4]) (rest := []) (cW hX q3 (a1 + 1) a2 a3 a4 _ hq4) d_Open_tricksWith_110 ca_Open_tricksFrom w_815 (gXw_h8 hX) rfl rfl rfl (Nat.le_of_ble_eq_true rfl) ⟨(by show fr + 1 ≤ fr + 5; omega), (by show 8 + (14 + 11) + n0 ≤ n0 + 200; omega)⟩ ?_
    refine g_istore (L' := [(7, .int q4.1), (6, .int q1), (0, .ref (ε.2.2.1 18 8)), (1, .int a0), (2, .int a1), (3, .int a2), (4, .int a3), (5, .int a4)]) d_Open_tricksWith_113 (by decide) rfl ?_
    refine gGo_sub [2, 3, 1, 0] rfl ?_
    exact t_Open_tricksWith_b115 RW hX fr n0 cW q4.2 a0 q1 q4.1 _ h
  · rw [if_pos c9] at h
    refine g_iload_n d_Open_tricksWith_36 rfl 4 rfl ?_
    refine g_aload_n d_Open_tricksWith_37 rfl 1 rfl ?_
    refine g_getR d_Open_tricksWith_38 fl_Open_15 (gXw_h8 hX) rfl ?_
    refine g_iload_n d_Open_tricksWith_41 rfl 3 rfl ?_
    refine g_iconst (v := 3) d_Open_tricksWith_42 (by decide) ?_
    refine g_isub d_Open_tricksWith_43 ?_
    refine g_aload_n d_Open_tricksWith_44 rfl 1 rfl ?_
    refine g_getI d_Open_tricksWith_45 fl_Open_67 (gXw_h8 hX) rfl ?_
    obtain ⟨q6, hq6, h⟩ := gOb h
    refine g_callN_i (As := [.ref (ε.2.2.1 18 10), .int (a1 - 3), .int (q3 18 8 6)]) (rest := [.int a2]) (j := 831) (host := "DropSignals") (ct_DS_winningPlace 18 10 12 (gXw_h10 hX) q3 (a1 - 3) (q3 18 8 6) _ hq6) d_Open_tricksWith_48 ca_DS_winningPlace (by decide +kernel) rfl rfl (Nat.le_of_ble_eq_true rfl) ⟨(by show 2 ≤ fr + 5; omega), (Nat.le_trans (m := 200) (Nat.le_of_ble_eq_true rfl) (by show 200 ≤ n0 + 200; omega))⟩ ?_
    refine g_iadd d_Open_tricksWith_51 ?_
    refine g_iconst (v := 4) d_Open_tricksWith_52 (by decide) ?_
    refine g_rem d_Open_tricksWith_53 (by decide) ?_
    refine g_istore (L' := [(8, .int (gRem (a2 + q6) 4)), (6, .int q1), (0, .ref (ε.2.2.1 18 8)), (1, .int a0), (2, .int a1), (3, .int a2), (4, .int a3), (5, .int a4)]) d_Open_tricksWith_54 (by decide) rfl ?_
    refine g_iload d_Open_tricksWith_56 0 rfl ?_
    refine g_iconst (v := 2) d_Open_tricksWith_58 (by decide) ?_
    refine g_rem d_Open_tricksWith_59 (by decide) ?_
    refine g_aload_n d_Open_tricksWith_60 rfl 2 rfl ?_
    refine g_getI d_Open_tricksWith_61 fl_Open_61 (gXw_h8 hX) rfl ?_
    refine g_icmp_ne (tgt := 71) d_Open_tricksWith_64 (by decide) (fun c8 => ?_) (fun c8 => ?_)
    · rw [if_neg c8] at h
      refine g_iconst (v := 0) d_Open_tricksWith_71 (by decide) ?_
      refine gGo_sub [2, 3, 4, 6, 7, 1, 0] rfl ?_
      exact t_Open_tricksWith_b72 RW hX fr n0 cW q3 a0 a1 a3 a4 q1 (gRem (a2 + q6) 4) 0 _ h
    · rw [if_pos c8] at h
      refine g_iconst (v := 1) d_Open_tricksWith_67 (by decide) ?_
      refine g_goto (tgt := 72) d_Open_tricksWith_68 (by decide) ?_
      refine gGo_sub [2, 3, 4, 6, 7, 1, 0] rfl ?_
      exact t_Open_tricksWith_b72 RW hX fr n0 cW q3 a0 a1 a3 a4 q1 (gRem (a2 + q6) 4) 1 _ h

noncomputable def gTF : Nat → (gMem → Int32 → Int32 → Int32 → Int32 → Option (Int32 × gMem)) × (gMem → Int32 → Int32 → Int32 → Int32 → Int32 → Option (Int32 × gMem))
  | 0 => (fun _ _ _ _ _ => none, fun _ _ _ _ _ _ => none)
  | n + 1 => (fun M a b c d => f_Open_tricksFrom (gTF n).2 M a b c d, fun M a b c d e => f_Open_tricksWith (gTF n).1 M a b c d e)
theorem ct_gTF {l : Launch} {ε : gEnv} (hX : gXw ε) : ∀ n : Nat, (∀ (hX : gXw ε) (M : gMem) (v0 v1 v2 v3 : Int32) (r : Int32 × gMem), (gTF n).1 M v0 v1 v2 v3 = some r → gCt l ε k_Open_tricksFrom (5 * n) (200 * n) [.ref (ε.2.2.1 18 8), .int v0, .int v1, .int v2, .int v3] M (some (.int r.1)) r.2) ∧ (∀ (hX : gXw ε) (M : gMem) (v0 v1 v2 v3 v4 : Int32) (r : Int32 × gMem), (gTF n).2 M v0 v1 v2 v3 v4 = some r → gCt l ε k_Open_tricksWith (5 * n) (200 * n) [.ref (ε.2.2.1 18 8), .int v0, .int v1, .int v2, .int v3, .int v4] M (some (.int r.1)) r.2)
  | 0 => ⟨fun _ _ _ _ _ _ _ h => (by cases h), fun _ _ _ _ _ _ _ _ h => (by cases h)⟩
  | n + 1 => by
    obtain ⟨i1, i2⟩ := ct_gTF hX n
    exact ⟨fun hX M v0 v1 v2 v3 r h => gCt_of (by decide) (Nat.le_of_ble_eq_true rfl) rfl (t_Open_tricksFrom (gTF n).2 hX (5 * n) (200 * n) i2 M v0 v1 v2 v3 r h), fun hX M v0 v1 v2 v3 v4 r h => gCt_of (by decide) (Nat.le_of_ble_eq_true rfl) rfl (t_Open_tricksWith (gTF n).1 hX (5 * n) (200 * n) i1 M v0 v1 v2 v3 v4 r h)⟩
theorem ct_gTF1 {l : Launch} {ε : gEnv} (hX : gXw ε) (M : gMem) (v0 v1 v2 v3 : Int32) (r : Int32 × gMem) (h : (gTF 30).1 M v0 v1 v2 v3 = some r) : gCt l ε k_Open_tricksFrom 150 6000 [.ref (ε.2.2.1 18 8), .int v0, .int v1, .int v2, .int v3] M (some (.int r.1)) r.2 := (ct_gTF hX 30).1 hX M v0 v1 v2 v3 r h
theorem ct_gTF2 {l : Launch} {ε : gEnv} (hX : gXw ε) (M : gMem) (v0 v1 v2 v3 v4 : Int32) (r : Int32 × gMem) (h : (gTF 30).2 M v0 v1 v2 v3 v4 = some r) : gCt l ε k_Open_tricksWith 150 6000 [.ref (ε.2.2.1 18 8), .int v0, .int v1, .int v2, .int v3, .int v4] M (some (.int r.1)) r.2 := (ct_gTF hX 30).2 hX M v0 v1 v2 v3 v4 r h
abbrev k_Open_mostTricks : gMD := (⟨"DropSignals$OpenCards", "mostTricks", "()I"⟩, prog_6_method_4_code, 1, (some .int))
theorem w_812 : Cond.instanceMethod ⟨"DropSignals$OpenCards", "mostTricks", "()I"⟩ ∈ gWs := gWs_in (i := 812) (by decide +kernel) rfl
theorem w_813 : Cond.selects "DropSignals$OpenCards" ⟨"DropSignals$OpenCards", "mostTricks", "()I"⟩ ⟨"DropSignals$OpenCards", "mostTricks", "()I"⟩ ∈ gWs := gWs_in (i := 813) (by decide +kernel) rfl
set_option maxRecDepth 100000 in
theorem ca_Open_mostTricks : gCaV k_Open_mostTricks 0 := ⟨⟨gWs_in (i := 814) rfl rfl, w_28, by decide, by decide, by decide +kernel⟩, w_812, w_813⟩
theorem d_Open_mostTricks_0 : decode prog_6_method_4_code 0 = .ok (.aload_n 0, 1) := by decide +kernel
theorem d_Open_mostTricks_1 : decode prog_6_method_4_code 1 = .ok (.aload_n 0, 1) := by decide +kernel
theorem d_Open_mostTricks_2 : decode prog_6_method_4_code 2 = .ok (.getfield 36, 3) := by decide +kernel
theorem d_Open_mostTricks_5 : decode prog_6_method_4_code 5 = .ok (.aload_n 0, 1) := by decide +kernel
theorem d_Open_mostTricks_6 : decode prog_6_method_4_code 6 = .ok (.getfield 58, 3) := by decide +kernel
theorem d_Open_mostTricks_9 : decode prog_6_method_4_code 9 = .ok (.iconst (-1), 1) := by decide +kernel
theorem d_Open_mostTricks_10 : decode prog_6_method_4_code 10 = .ok (.bipush 9, 2) := by decide +kernel
theorem d_Open_mostTricks_12 : decode prog_6_method_4_code 12 = .ok (.invokevirtual 77, 3) := by decide +kernel
theorem d_Open_mostTricks_15 : decode prog_6_method_4_code 15 = .ok (.ireturn, 1) := by decide +kernel
noncomputable def f_Open_mostTricks (M : gMem) : Option (Int32 × gMem) :=
  ((gTF 30).1 M (M 18 8 2) (M 18 8 4) (-1) 9).bind fun q1 =>
  some (q1.1, q1.2)
theorem t_Open_mostTricks {l : Launch} {ε : gEnv} (hX : gXw ε) (M : gMem) (r : (Int32 × gMem)) (h : f_Open_mostTricks M = some r) : gGo l ε k_Open_mostTricks (gR 151 6033) (gFn ε (some (.int r.1)) r.2) 0 [(0, .ref (ε.2.2.1 18 8))] [] M := by
  unfold f_Open_mostTricks at h
  refine g_aload_n d_Open_mostTricks_0 rfl 0 rfl ?_
  refine g_aload_n d_Open_mostTricks_1 rfl 0 rfl ?_
  refine g_getI d_Open_mostTricks_2 fl_Open_36 (gXw_h8 hX) rfl ?_
  refine g_aload_n d_Open_mostTricks_5 rfl 0 rfl ?_
  refine g_getI d_Open_mostTricks_6 fl_Open_58 (gXw_h8 hX) rfl ?_
  refine g_iconst (v := -1) d_Open_mostTricks_9 (by decide) ?_
  refine g_bipush (v := 9) d_Open_mostTricks_10 (by decide) ?_
  obtain ⟨q1, hq1, h⟩ := gOb h
  refine g_callV_i (As := [.int (M 18 8 2), .int (M 18 8 4), .int (-1), .int 9]) (rest := []) (ct_gTF1 hX M (M 18 8 2) (M 18 8 4) (-1) 9 _ hq1) d_Open_mostTricks_12 ca_Open_tricksFrom w_815 (gXw_h8 hX) rfl rfl rfl (Nat.le_of_ble_eq_true rfl) ⟨(Nat.le_of_ble_eq_true rfl), (Nat.le_of_ble_eq_true rfl)⟩ ?_
  obtain rfl := Option.some.inj h
  exact g_iret d_Open_mostTricks_15 rfl
theorem ct_Open_mostTricks {l : Launch} {ε : gEnv} (hX : gXw ε) (M : gMem) (r : (Int32 × gMem)) (h : f_Open_mostTricks M = some r) : gCt l ε k_Open_mostTricks 151 6033 [.ref (ε.2.2.1 18 8)] M (some (.int r.1)) r.2 :=
  gCt_of (by decide) (Nat.le_of_ble_eq_true rfl) rfl (t_Open_mostTricks hX M r h)
abbrev k_Open_lowestBest : gMD := (⟨"DropSignals$OpenCards", "lowestBest", "()I"⟩, prog_6_method_5_code, 8, (some .int))
theorem w_842 : Cond.instanceMethod ⟨"DropSignals$OpenCards", "lowestBest", "()I"⟩ ∈ gWs := gWs_in (i := 842) (by decide +kernel) rfl
theorem w_843 : Cond.selects "DropSignals$OpenCards" ⟨"DropSignals$OpenCards", "lowestBest", "()I"⟩ ⟨"DropSignals$OpenCards", "lowestBest", "()I"⟩ ∈ gWs := gWs_in (i := 843) (by decide +kernel) rfl
set_option maxRecDepth 100000 in
theorem ca_Open_lowestBest : gCaV k_Open_lowestBest 0 := ⟨⟨gWs_in (i := 844) rfl rfl, w_28, by decide, by decide, by decide +kernel⟩, w_842, w_843⟩
theorem d_Open_lowestBest_0 : decode prog_6_method_5_code 0 = .ok (.aload_n 0, 1) := by decide +kernel
theorem d_Open_lowestBest_1 : decode prog_6_method_5_code 1 = .ok (.getfield 58, 3) := by decide +kernel
theorem d_Open_lowestBest_4 : decode prog_6_method_5_code 4 = .ok (.aload_n 0, 1) := by decide +kernel
theorem d_Open_lowestBest_5 : decode prog_6_method_5_code 5 = .ok (.getfield 36, 3) := by decide +kernel
theorem d_Open_lowestBest_8 : decode prog_6_method_5_code 8 = .ok (.iadd, 1) := by decide +kernel
theorem d_Open_lowestBest_9 : decode prog_6_method_5_code 9 = .ok (.iconst 4, 1) := by decide +kernel
theorem d_Open_lowestBest_10 : decode prog_6_method_5_code 10 = .ok (.irem, 1) := by decide +kernel
theorem d_Open_lowestBest_11 : decode prog_6_method_5_code 11 = .ok (.istore_n 1, 1) := by decide +kernel
theorem d_Open_lowestBest_12 : decode prog_6_method_5_code 12 = .ok (.aload_n 0, 1) := by decide +kernel
theorem d_Open_lowestBest_13 : decode prog_6_method_5_code 13 = .ok (.iload_n 1, 1) := by decide +kernel
theorem d_Open_lowestBest_14 : decode prog_6_method_5_code 14 = .ok (.aload_n 0, 1) := by decide +kernel
theorem d_Open_lowestBest_15 : decode prog_6_method_5_code 15 = .ok (.getfield 36, 3) := by decide +kernel
theorem d_Open_lowestBest_18 : decode prog_6_method_5_code 18 = .ok (.invokevirtual 81, 3) := by decide +kernel
theorem d_Open_lowestBest_21 : decode prog_6_method_5_code 21 = .ok (.istore_n 2, 1) := by decide +kernel
theorem d_Open_lowestBest_22 : decode prog_6_method_5_code 22 = .ok (.iconst (-1), 1) := by decide +kernel
theorem d_Open_lowestBest_23 : decode prog_6_method_5_code 23 = .ok (.istore_n 3, 1) := by decide +kernel
theorem d_Open_lowestBest_24 : decode prog_6_method_5_code 24 = .ok (.iconst (-1), 1) := by decide +kernel
theorem d_Open_lowestBest_25 : decode prog_6_method_5_code 25 = .ok (.istore 4, 2) := by decide +kernel
theorem d_Open_lowestBest_27 : decode prog_6_method_5_code 27 = .ok (.iconst 0, 1) := by decide +kernel
theorem d_Open_lowestBest_28 : decode prog_6_method_5_code 28 = .ok (.istore 5, 2) := by decide +kernel
theorem d_Open_lowestBest_30 : decode prog_6_method_5_code 30 = .ok (.iload 5, 2) := by decide +kernel
theorem d_Open_lowestBest_32 : decode prog_6_method_5_code 32 = .ok (.iconst 3, 1) := by decide +kernel
theorem d_Open_lowestBest_33 : decode prog_6_method_5_code 33 = .ok (.if_icmp .ge 69, 3) := by decide +kernel
theorem d_Open_lowestBest_36 : decode prog_6_method_5_code 36 = .ok (.aload_n 0, 1) := by decide +kernel
theorem d_Open_lowestBest_37 : decode prog_6_method_5_code 37 = .ok (.getfield 9, 3) := by decide +kernel
theorem d_Open_lowestBest_40 : decode prog_6_method_5_code 40 = .ok (.iload_n 1, 1) := by decide +kernel
theorem d_Open_lowestBest_41 : decode prog_6_method_5_code 41 = .ok (.iconst 3, 1) := by decide +kernel
theorem d_Open_lowestBest_42 : decode prog_6_method_5_code 42 = .ok (.imul, 1) := by decide +kernel
theorem d_Open_lowestBest_43 : decode prog_6_method_5_code 43 = .ok (.iload 5, 2) := by decide +kernel
theorem d_Open_lowestBest_45 : decode prog_6_method_5_code 45 = .ok (.iadd, 1) := by decide +kernel
theorem d_Open_lowestBest_46 : decode prog_6_method_5_code 46 = .ok (.invokestatic 85, 3) := by decide +kernel
theorem d_Open_lowestBest_49 : decode prog_6_method_5_code 49 = .ok (.istore 6, 2) := by decide +kernel
theorem d_Open_lowestBest_51 : decode prog_6_method_5_code 51 = .ok (.iload 6, 2) := by decide +kernel
theorem d_Open_lowestBest_53 : decode prog_6_method_5_code 53 = .ok (.iload_n 2, 1) := by decide +kernel
theorem d_Open_lowestBest_54 : decode prog_6_method_5_code 54 = .ok (.invokestatic 89, 3) := by decide +kernel
theorem d_Open_lowestBest_57 : decode prog_6_method_5_code 57 = .ok (.ifCond .eq 39, 3) := by decide +kernel
theorem d_Open_lowestBest_60 : decode prog_6_method_5_code 60 = .ok (.aload_n 0, 1) := by decide +kernel
theorem d_Open_lowestBest_61 : decode prog_6_method_5_code 61 = .ok (.iload_n 1, 1) := by decide +kernel
theorem d_Open_lowestBest_62 : decode prog_6_method_5_code 62 = .ok (.iconst 3, 1) := by decide +kernel
theorem d_Open_lowestBest_63 : decode prog_6_method_5_code 63 = .ok (.imul, 1) := by decide +kernel
theorem d_Open_lowestBest_64 : decode prog_6_method_5_code 64 = .ok (.iload 5, 2) := by decide +kernel
theorem d_Open_lowestBest_66 : decode prog_6_method_5_code 66 = .ok (.iadd, 1) := by decide +kernel
theorem d_Open_lowestBest_67 : decode prog_6_method_5_code 67 = .ok (.aload_n 0, 1) := by decide +kernel
theorem d_Open_lowestBest_68 : decode prog_6_method_5_code 68 = .ok (.getfield 36, 3) := by decide +kernel
theorem d_Open_lowestBest_71 : decode prog_6_method_5_code 71 = .ok (.aload_n 0, 1) := by decide +kernel
theorem d_Open_lowestBest_72 : decode prog_6_method_5_code 72 = .ok (.getfield 58, 3) := by decide +kernel
theorem d_Open_lowestBest_75 : decode prog_6_method_5_code 75 = .ok (.iload_n 3, 1) := by decide +kernel
theorem d_Open_lowestBest_76 : decode prog_6_method_5_code 76 = .ok (.bipush 9, 2) := by decide +kernel
theorem d_Open_lowestBest_78 : decode prog_6_method_5_code 78 = .ok (.invokevirtual 93, 3) := by decide +kernel
theorem d_Open_lowestBest_81 : decode prog_6_method_5_code 81 = .ok (.istore 7, 2) := by decide +kernel
theorem d_Open_lowestBest_83 : decode prog_6_method_5_code 83 = .ok (.iload 7, 2) := by decide +kernel
theorem d_Open_lowestBest_85 : decode prog_6_method_5_code 85 = .ok (.iload_n 3, 1) := by decide +kernel
theorem d_Open_lowestBest_86 : decode prog_6_method_5_code 86 = .ok (.if_icmp .le 10, 3) := by decide +kernel
theorem d_Open_lowestBest_89 : decode prog_6_method_5_code 89 = .ok (.iload 7, 2) := by decide +kernel
theorem d_Open_lowestBest_91 : decode prog_6_method_5_code 91 = .ok (.istore_n 3, 1) := by decide +kernel
theorem d_Open_lowestBest_92 : decode prog_6_method_5_code 92 = .ok (.iload 6, 2) := by decide +kernel
theorem d_Open_lowestBest_94 : decode prog_6_method_5_code 94 = .ok (.istore 4, 2) := by decide +kernel
theorem d_Open_lowestBest_96 : decode prog_6_method_5_code 96 = .ok (.iinc 5 1, 3) := by decide +kernel
theorem d_Open_lowestBest_99 : decode prog_6_method_5_code 99 = .ok (.goto (-69), 3) := by decide +kernel
theorem d_Open_lowestBest_102 : decode prog_6_method_5_code 102 = .ok (.iload 4, 2) := by decide +kernel
theorem d_Open_lowestBest_104 : decode prog_6_method_5_code 104 = .ok (.ireturn, 1) := by decide +kernel
noncomputable def f_Open_lowestBest_b96 (M : gMem) (x1 : Int32) (x2 : Int32) (x3 : Int32) (x4 : Int32) (x5 : Int32) : Option ((Int32 × Int32 × Int32 × gMem) ⊕ (Int32 × gMem)) :=
  some (.inl (x3, x4, (x5 + 1), M))
theorem t_Open_lowestBest_b96 {l : Launch} {ε : gEnv} (hX : gXw ε) (M : gMem) (x1 : Int32) (x2 : Int32) (x3 : Int32) (x4 : Int32) (x5 : Int32) (res : ((Int32 × Int32 × Int32 × gMem) ⊕ (Int32 × gMem))) (h : f_Open_lowestBest_b96 M x1 x2 x3 x4 x5 = some res) (r : (Int32 × gMem)) (k1 : ∀ s0 : (Int32 × Int32 × Int32 × gMem), res = .inl s0 → gGo l ε k_Open_lowestBest (gR 151 6029) (gFn ε (some (.int r.1)) r.2) 30 [(0, .ref (ε.2.2.1 18 8)), (1, .int x1), (2, .int x2), (3, .int s0.1), (4, .int s0.2.1), (5, .int s0.2.2.1)] [] s0.2.2.2) (k2 : ∀ r', res = .inr r' → r' = r) : gGo l ε k_Open_lowestBest (gR 151 6029) (gFn ε (some (.int r.1)) r.2) 96 [(0, .ref (ε.2.2.1 18 8)), (1, .int x1), (2, .int x2), (3, .int x3), (4, .int x4), (5, .int x5)] [] M := by
  unfold f_Open_lowestBest_b96 at h
  refine g_iinc (v := (x5 + 1)) (L' := [(5, .int (x5 + 1)), (0, .ref (ε.2.2.1 18 8)), (1, .int x1), (2, .int x2), (3, .int x3), (4, .int x4)]) d_Open_lowestBest_96 (j := 5) rfl rfl (by decide) rfl ?_
  refine g_goto (tgt := 30) d_Open_lowestBest_99 (by decide) ?_
  refine gGo_sub [1, 2, 3, 4, 5, 0] rfl ?_
  obtain rfl := Option.some.inj h
  exact k1 (x3, x4, (x5 + 1), M) rfl
noncomputable def f_Open_lowestBest_s30 (M : gMem) (x1 : Int32) (x2 : Int32) (x3 : Int32) (x4 : Int32) (x5 : Int32) : Option ((Int32 × Int32 × Int32 × gMem) ⊕ (Int32 × gMem)) :=
  if 3 ≤ x5 then
    some (.inr (x4, M))
  else
    (f_DS_at 18 9 12 M ((x1 * 3) + x5)).bind fun q2 =>
    (f_Open_fits q2 x2).bind fun q3 =>
    if q3 = 0 then
      f_Open_lowestBest_b96 M x1 x2 x3 x4 x5
    else
      ((gTF 30).2 M ((x1 * 3) + x5) (M 18 8 2) (M 18 8 4) x3 9).bind fun q4 =>
      if q4.1 ≤ x3 then
        f_Open_lowestBest_b96 q4.2 x1 x2 x3 x4 x5
      else
        f_Open_lowestBest_b96 q4.2 x1 x2 q4.1 q2 x5
theorem t_Open_lowestBest_s30 {l : Launch} {ε : gEnv} (hX : gXw ε) (M : gMem) (x1 : Int32) (x2 : Int32) (x3 : Int32) (x4 : Int32) (x5 : Int32) (res : ((Int32 × Int32 × Int32 × gMem) ⊕ (Int32 × gMem))) (h : f_Open_lowestBest_s30 M x1 x2 x3 x4 x5 = some res) (r : (Int32 × gMem)) (k1 : ∀ s0 : (Int32 × Int32 × Int32 × gMem), res = .inl s0 → gGo l ε k_Open_lowestBest (gR 151 6029) (gFn ε (some (.int r.1)) r.2) 30 [(0, .ref (ε.2.2.1 18 8)), (1, .int x1), (2, .int x2), (3, .int s0.1), (4, .int s0.2.1), (5, .int s0.2.2.1)] [] s0.2.2.2) (k2 : ∀ r', res = .inr r' → r' = r) : gGo l ε k_Open_lowestBest (gR 151 6029) (gFn ε (some (.int r.1)) r.2) 30 [(0, .ref (ε.2.2.1 18 8)), (1, .int x1), (2, .int x2), (3, .int x3), (4, .int x4), (5, .int x5)] [] M := by
  unfold f_Open_lowestBest_s30 at h
  refine g_iload d_Open_lowestBest_30 5 rfl ?_
  refine g_iconst (v := 3) d_Open_lowestBest_32 (by decide) ?_
  refine g_icmp_ge (tgt := 102) d_Open_lowestBest_33 (by decide) (fun c7 => ?_) (fun c7 => ?_)
  · rw [if_pos c7] at h
    refine g_iload d_Open_lowestBest_102 4 rfl ?_
    obtain rfl := Option.some.inj h
    have e9 := k2 _ rfl
    subst e9
    exact g_iret d_Open_lowestBest_104 rfl
  · rw [if_neg c7] at h
    refine g_aload_n d_Open_lowestBest_36 rfl 0 rfl ?_
    refine g_getR d_Open_lowestBest_37 fl_Open_9 (gXw_h8 hX) rfl ?_
    refine g_iload_n d_Open_lowestBest_40 rfl 1 rfl ?_
    refine g_iconst (v := 3) d_Open_lowestBest_41 (by decide) ?_
    refine g_imul d_Open_lowestBest_42 ?_
    refine g_iload d_Open_lowestBest_43 5 rfl ?_
    refine g_iadd d_Open_lowestBest_45 ?_
    obtain ⟨q2, hq2, h⟩ := gOb h
    refine g_callN_i (As := [.ref (ε.2.2.1 18 9), .int ((x1 * 3) + x5)]) (rest := []) (j := 823) (host := "DropSignals") (ct_DS_at 18 9 12 (gXw_h9 hX) M ((x1 * 3) + x5) _ hq2) d_Open_lowestBest_46 ca_DS_at (by decide +kernel) rfl rfl (Nat.le_of_ble_eq_true rfl) ⟨(Nat.le_of_ble_eq_true rfl), (Nat.le_of_ble_eq_true rfl)⟩ ?_
    refine g_istore (L' := [(6, .int q2), (0, .ref (ε.2.2.1 18 8)), (1, .int x1), (2, .int x2), (3, .int x3), (4, .int x4), (5, .int x5)]) d_Open_lowestBest_49 (by decide) rfl ?_
    refine g_iload d_Open_lowestBest_51 0 rfl ?_
    refine g_iload_n d_Open_lowestBest_53 rfl 3 rfl ?_
    obtain ⟨q3, hq3, h⟩ := gOb h
    refine g_callS_i (As := [.int q2, .int x2]) (rest := []) (ct_Open_fits M q2 x2 _ hq3) d_Open_lowestBest_54 ca_Open_fits w_824 rfl rfl (Nat.le_of_ble_eq_true rfl) ⟨(Nat.le_of_ble_eq_true rfl), (Nat.le_of_ble_eq_true rfl)⟩ ?_
    refine g_if_eq (tgt := 96) d_Open_lowestBest_57 (by decide) (fun c6 => ?_) (fun c6 => ?_)
    · rw [if_pos c6] at h
      refine gGo_sub [1, 2, 3, 4, 5, 6] rfl ?_
      exact t_Open_lowestBest_b96 hX M x1 x2 x3 x4 x5 _ h r k1 k2
    · rw [if_neg c6] at h
      refine g_aload_n d_Open_lowestBest_60 rfl 1 rfl ?_
      refine g_iload_n d_Open_lowestBest_61 rfl 2 rfl ?_
      refine g_iconst (v := 3) d_Open_lowestBest_62 (by decide) ?_
      refine g_imul d_Open_lowestBest_63 ?_
      refine g_iload d_Open_lowestBest_64 6 rfl ?_
      refine g_iadd d_Open_lowestBest_66 ?_
      refine g_aload_n d_Open_lowestBest_67 rfl 1 rfl ?_
      refine g_getI d_Open_lowestBest_68 fl_Open_36 (gXw_h8 hX) rfl ?_
      refine g_aload_n d_Open_lowestBest_71 rfl 1 rfl ?_
      refine g_getI d_Open_lowestBest_72 fl_Open_58 (gXw_h8 hX) rfl ?_
      refine g_iload_n d_Open_lowestBest_75 rfl 4 rfl ?_
      refine g_bipush (v := 9) d_Open_lowestBest_76 (by decide) ?_
      obtain ⟨q4, hq4, h⟩ := gOb h
      refine g_callV_i (As := [.int ((x1 * 3) + x5), .int (M 18 8 2), .int (M 18 8 4), .int x3, .int 9]) (rest := []) (ct_gTF2 hX M ((x1 * 3) + x5) (M 18 8 2) (M 18 8 4) x3 9 _ hq4) d_Open_lowestBest_78 ca_Open_tricksWith w_827 (gXw_h8 hX) rfl rfl rfl (Nat.le_of_ble_eq_true rfl) ⟨(Nat.le_of_ble_eq_true rfl), (Nat.le_of_ble_eq_true rfl)⟩ ?_
      refine g_istore (L' := [(7, .int q4.1), (6, .int q2), (0, .ref (ε.2.2.1 18 8)), (1, .int x1), (2, .int x2), (3, .int x3), (4, .int x4), (5, .int x5)]) d_Open_lowestBest_81 (by decide) rfl ?_
      refine g_iload d_Open_lowestBest_83 0 rfl ?_
      refine g_iload_n d_Open_lowestBest_85 rfl 5 rfl ?_
      refine g_icmp_le (tgt := 96) d_Open_lowestBest_86 (by decide) (fun c5 => ?_) (fun c5 => ?_)
      · rw [if_pos c5] at h
        refine gGo_sub [2, 3, 4, 5, 6, 7] rfl ?_
        exact t_Open_lowestBest_b96 hX q4.2 x1 x2 x3 x4 x5 _ h r k1 k2
      · rw [if_neg c5] at h
        refine g_iload d_Open_lowestBest_89 0 rfl ?_
        refine g_istore_n (L' := [(3, .int q4.1), (7, .int q4.1), (6, .int q2), (0, .ref (ε.2.2.1 18 8)), (1, .int x1), (2, .int x2), (4, .int x4), (5, .int x5)]) d_Open_lowestBest_91 rfl (by decide) rfl ?_
        refine g_iload d_Open_lowestBest_92 2 rfl ?_
        refine g_istore (L' := [(4, .int q2), (3, .int q4.1), (7, .int q4.1), (6, .int q2), (0, .ref (ε.2.2.1 18 8)), (1, .int x1), (2, .int x2), (5, .int x5)]) d_Open_lowestBest_94 (by decide) rfl ?_
        refine gGo_sub [4, 5, 6, 1, 0, 7] rfl ?_
        exact t_Open_lowestBest_b96 hX q4.2 x1 x2 q4.1 q2 x5 _ h r k1 k2
noncomputable def f_Open_lowestBest_l30 (x1 : Int32) (x2 : Int32) (s : (Int32 × Int32 × Int32 × gMem)) : Option (Int32 × gMem) := gLp (fun s => f_Open_lowestBest_s30 s.2.2.2 x1 x2 s.1 s.2.1 s.2.2.1) s
theorem t_Open_lowestBest_l30 {l : Launch} {ε : gEnv} (hX : gXw ε) (x1 : Int32) (x2 : Int32) (s : (Int32 × Int32 × Int32 × gMem)) (r : (Int32 × gMem)) (h : f_Open_lowestBest_l30 x1 x2 s = some r) : gGo l ε k_Open_lowestBest (gR 151 6029) (gFn ε (some (.int r.1)) r.2) 30 [(0, .ref (ε.2.2.1 18 8)), (1, .int x1), (2, .int x2), (3, .int s.1), (4, .int s.2.1), (5, .int s.2.2.1)] [] s.2.2.2 :=
  g_loop _ (fun r s => gGo l ε k_Open_lowestBest (gR 151 6029) (gFn ε (some (.int r.1)) r.2) 30 [(0, .ref (ε.2.2.1 18 8)), (1, .int x1), (2, .int x2), (3, .int s.1), (4, .int s.2.1), (5, .int s.2.2.1)] [] s.2.2.2) (fun s res h r k1 k2 => t_Open_lowestBest_s30 hX s.2.2.2 x1 x2 s.1 s.2.1 s.2.2.1 res h r k1 k2) s r h
noncomputable def f_Open_lowestBest (M : gMem) : Option (Int32 × gMem) :=
  (f_Open_suitToFollow M (gRem ((M 18 8 4) + (M 18 8 2)) 4) (M 18 8 2)).bind fun q1 =>
  f_Open_lowestBest_l30 (gRem ((M 18 8 4) + (M 18 8 2)) 4) q1 ((-1), (-1), 0, M)
theorem t_Open_lowestBest {l : Launch} {ε : gEnv} (hX : gXw ε) (M : gMem) (r : (Int32 × gMem)) (h : f_Open_lowestBest M = some r) : gGo l ε k_Open_lowestBest (gR 151 6029) (gFn ε (some (.int r.1)) r.2) 0 [(0, .ref (ε.2.2.1 18 8))] [] M := by
  unfold f_Open_lowestBest at h
  refine g_aload_n d_Open_lowestBest_0 rfl 0 rfl ?_
  refine g_getI d_Open_lowestBest_1 fl_Open_58 (gXw_h8 hX) rfl ?_
  refine g_aload_n d_Open_lowestBest_4 rfl 0 rfl ?_
  refine g_getI d_Open_lowestBest_5 fl_Open_36 (gXw_h8 hX) rfl ?_
  refine g_iadd d_Open_lowestBest_8 ?_
  refine g_iconst (v := 4) d_Open_lowestBest_9 (by decide) ?_
  refine g_rem d_Open_lowestBest_10 (by decide) ?_
  refine g_istore_n (L' := [(1, .int (gRem ((M 18 8 4) + (M 18 8 2)) 4)), (0, .ref (ε.2.2.1 18 8))]) d_Open_lowestBest_11 rfl (by decide) rfl ?_
  refine g_aload_n d_Open_lowestBest_12 rfl 1 rfl ?_
  refine g_iload_n d_Open_lowestBest_13 rfl 0 rfl ?_
  refine g_aload_n d_Open_lowestBest_14 rfl 1 rfl ?_
  refine g_getI d_Open_lowestBest_15 fl_Open_36 (gXw_h8 hX) rfl ?_
  obtain ⟨q1, hq1, h⟩ := gOb h
  refine g_callV_i (As := [.int (gRem ((M 18 8 4) + (M 18 8 2)) 4), .int (M 18 8 2)]) (rest := []) (ct_Open_suitToFollow hX M (gRem ((M 18 8 4) + (M 18 8 2)) 4) (M 18 8 2) _ hq1) d_Open_lowestBest_18 ca_Open_suitToFollow w_819 (gXw_h8 hX) rfl rfl rfl (Nat.le_of_ble_eq_true rfl) ⟨(Nat.le_of_ble_eq_true rfl), (Nat.le_of_ble_eq_true rfl)⟩ ?_
  refine g_istore_n (L' := [(2, .int q1), (1, .int (gRem ((M 18 8 4) + (M 18 8 2)) 4)), (0, .ref (ε.2.2.1 18 8))]) d_Open_lowestBest_21 rfl (by decide) rfl ?_
  refine g_iconst (v := -1) d_Open_lowestBest_22 (by decide) ?_
  refine g_istore_n (L' := [(3, .int (-1)), (2, .int q1), (1, .int (gRem ((M 18 8 4) + (M 18 8 2)) 4)), (0, .ref (ε.2.2.1 18 8))]) d_Open_lowestBest_23 rfl (by decide) rfl ?_
  refine g_iconst (v := -1) d_Open_lowestBest_24 (by decide) ?_
  refine g_istore (L' := [(4, .int (-1)), (3, .int (-1)), (2, .int q1), (1, .int (gRem ((M 18 8 4) + (M 18 8 2)) 4)), (0, .ref (ε.2.2.1 18 8))]) d_Open_lowestBest_25 (by decide) rfl ?_
  refine g_iconst (v := 0) d_Open_lowestBest_27 (by decide) ?_
  refine g_istore (L' := [(5, .int 0), (4, .int (-1)), (3, .int (-1)), (2, .int q1), (1, .int (gRem ((M 18 8 4) + (M 18 8 2)) 4)), (0, .ref (ε.2.2.1 18 8))]) d_Open_lowestBest_28 (by decide) rfl ?_
  refine gGo_sub [5, 4, 3, 2, 1, 0] rfl ?_
  exact t_Open_lowestBest_l30 hX (gRem ((M 18 8 4) + (M 18 8 2)) 4) q1 ((-1), (-1), 0, M) _ h
theorem ct_Open_lowestBest {l : Launch} {ε : gEnv} (hX : gXw ε) (M : gMem) (r : (Int32 × gMem)) (h : f_Open_lowestBest M = some r) : gCt l ε k_Open_lowestBest 151 6029 [.ref (ε.2.2.1 18 8)] M (some (.int r.1)) r.2 :=
  gCt_of (by decide) (Nat.le_of_ble_eq_true rfl) rfl (t_Open_lowestBest hX M r h)
