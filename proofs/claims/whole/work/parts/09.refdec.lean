/-! decode rows -/
theorem dRM_init_0 : decode cRM_init 0 = .ok (.aload_n 0, 1) := by decide +kernel
theorem dRM_init_1 : decode cRM_init 1 = .ok (.invokespecial 1, 3) := by decide +kernel
theorem dRM_init_4 : decode cRM_init 4 = .ok (.aload_n 0, 1) := by decide +kernel
theorem dRM_init_5 : decode cRM_init 5 = .ok (.bipush 8, 2) := by decide +kernel
theorem dRM_init_7 : decode cRM_init 7 = .ok (.newarray .boolean, 2) := by decide +kernel
theorem dRM_init_9 : decode cRM_init 9 = .ok (.putfield 7, 3) := by decide +kernel
theorem dRM_init_12 : decode cRM_init 12 = .ok (.aload_n 0, 1) := by decide +kernel
theorem dRM_init_13 : decode cRM_init 13 = .ok (.bipush 8, 2) := by decide +kernel
theorem dRM_init_15 : decode cRM_init 15 = .ok (.newarray .boolean, 2) := by decide +kernel
theorem dRM_init_17 : decode cRM_init 17 = .ok (.putfield 13, 3) := by decide +kernel
theorem dRM_init_20 : decode cRM_init 20 = .ok (.aload_n 0, 1) := by decide +kernel
theorem dRM_init_21 : decode cRM_init 21 = .ok (.bipush 16, 2) := by decide +kernel
theorem dRM_init_23 : decode cRM_init 23 = .ok (.newarray .int, 2) := by decide +kernel
theorem dRM_init_25 : decode cRM_init 25 = .ok (.putfield 16, 3) := by decide +kernel
theorem dRM_init_28 : decode cRM_init 28 = .ok (.aload_n 0, 1) := by decide +kernel
theorem dRM_init_29 : decode cRM_init 29 = .ok (.bipush 16, 2) := by decide +kernel
theorem dRM_init_31 : decode cRM_init 31 = .ok (.newarray .int, 2) := by decide +kernel
theorem dRM_init_33 : decode cRM_init 33 = .ok (.putfield 20, 3) := by decide +kernel
theorem dRM_init_36 : decode cRM_init 36 = .ok (.aload_n 0, 1) := by decide +kernel
theorem dRM_init_37 : decode cRM_init 37 = .ok (.bipush 16, 2) := by decide +kernel
theorem dRM_init_39 : decode cRM_init 39 = .ok (.newarray .boolean, 2) := by decide +kernel
theorem dRM_init_41 : decode cRM_init 41 = .ok (.putfield 23, 3) := by decide +kernel
theorem dRM_init_44 : decode cRM_init 44 = .ok (.aload_n 0, 1) := by decide +kernel
theorem dRM_init_45 : decode cRM_init 45 = .ok (.sipush 1024, 3) := by decide +kernel
theorem dRM_init_48 : decode cRM_init 48 = .ok (.newarray .int, 2) := by decide +kernel
theorem dRM_init_50 : decode cRM_init 50 = .ok (.putfield 26, 3) := by decide +kernel
theorem dRM_init_53 : decode cRM_init 53 = .ok (.aload_n 0, 1) := by decide +kernel
theorem dRM_init_54 : decode cRM_init 54 = .ok (.bipush 64, 2) := by decide +kernel
theorem dRM_init_56 : decode cRM_init 56 = .ok (.newarray .int, 2) := by decide +kernel
theorem dRM_init_58 : decode cRM_init 58 = .ok (.putfield 29, 3) := by decide +kernel
theorem dRM_init_61 : decode cRM_init 61 = .ok (.aload_n 0, 1) := by decide +kernel
theorem dRM_init_62 : decode cRM_init 62 = .ok (.bipush 64, 2) := by decide +kernel
theorem dRM_init_64 : decode cRM_init 64 = .ok (.newarray .int, 2) := by decide +kernel
theorem dRM_init_66 : decode cRM_init 66 = .ok (.putfield 32, 3) := by decide +kernel
theorem dRM_init_69 : decode cRM_init 69 = .ok (.aload_n 0, 1) := by decide +kernel
theorem dRM_init_70 : decode cRM_init 70 = .ok (.sipush 260, 3) := by decide +kernel
theorem dRM_init_73 : decode cRM_init 73 = .ok (.newarray .int, 2) := by decide +kernel
theorem dRM_init_75 : decode cRM_init 75 = .ok (.putfield 35, 3) := by decide +kernel
theorem dRM_init_78 : decode cRM_init 78 = .ok (.aload_n 0, 1) := by decide +kernel
theorem dRM_init_79 : decode cRM_init 79 = .ok (.bipush 6, 2) := by decide +kernel
theorem dRM_init_81 : decode cRM_init 81 = .ok (.newarray .int, 2) := by decide +kernel
theorem dRM_init_83 : decode cRM_init 83 = .ok (.putfield 38, 3) := by decide +kernel
theorem dRM_init_86 : decode cRM_init 86 = .ok (.aload_n 0, 1) := by decide +kernel
theorem dRM_init_87 : decode cRM_init 87 = .ok (.iload_n 1, 1) := by decide +kernel
theorem dRM_init_88 : decode cRM_init 88 = .ok (.ifCond .lt 9, 3) := by decide +kernel
theorem dRM_init_91 : decode cRM_init 91 = .ok (.iload_n 1, 1) := by decide +kernel
theorem dRM_init_92 : decode cRM_init 92 = .ok (.bipush 63, 2) := by decide +kernel
theorem dRM_init_94 : decode cRM_init 94 = .ok (.if_icmp .le 7, 3) := by decide +kernel
theorem dRM_init_97 : decode cRM_init 97 = .ok (.iconst 0, 1) := by decide +kernel
theorem dRM_init_98 : decode cRM_init 98 = .ok (.goto 4, 3) := by decide +kernel
theorem dRM_init_101 : decode cRM_init 101 = .ok (.iload_n 1, 1) := by decide +kernel
theorem dRM_init_102 : decode cRM_init 102 = .ok (.putfield 41, 3) := by decide +kernel
theorem dRM_init_105 : decode cRM_init 105 = .ok (.iconst 0, 1) := by decide +kernel
theorem dRM_init_106 : decode cRM_init 106 = .ok (.istore_n 2, 1) := by decide +kernel
theorem dRM_init_107 : decode cRM_init 107 = .ok (.iload_n 2, 1) := by decide +kernel
theorem dRM_init_108 : decode cRM_init 108 = .ok (.bipush 16, 2) := by decide +kernel
theorem dRM_init_110 : decode cRM_init 110 = .ok (.if_icmp .ge 16, 3) := by decide +kernel
theorem dRM_init_113 : decode cRM_init 113 = .ok (.aload_n 0, 1) := by decide +kernel
theorem dRM_init_114 : decode cRM_init 114 = .ok (.getfield 16, 3) := by decide +kernel
theorem dRM_init_117 : decode cRM_init 117 = .ok (.iload_n 2, 1) := by decide +kernel
theorem dRM_init_118 : decode cRM_init 118 = .ok (.iconst (-1), 1) := by decide +kernel
theorem dRM_init_119 : decode cRM_init 119 = .ok (.iastore, 1) := by decide +kernel
theorem dRM_init_120 : decode cRM_init 120 = .ok (.iinc 2 1, 3) := by decide +kernel
theorem dRM_init_123 : decode cRM_init 123 = .ok (.goto (-16), 3) := by decide +kernel
theorem dRM_init_126 : decode cRM_init 126 = .ok (.iconst 0, 1) := by decide +kernel
theorem dRM_init_127 : decode cRM_init 127 = .ok (.istore_n 2, 1) := by decide +kernel
theorem dRM_init_128 : decode cRM_init 128 = .ok (.iload_n 2, 1) := by decide +kernel
theorem dRM_init_129 : decode cRM_init 129 = .ok (.sipush 1024, 3) := by decide +kernel
theorem dRM_init_132 : decode cRM_init 132 = .ok (.if_icmp .ge 16, 3) := by decide +kernel
theorem dRM_init_135 : decode cRM_init 135 = .ok (.aload_n 0, 1) := by decide +kernel
theorem dRM_init_136 : decode cRM_init 136 = .ok (.getfield 26, 3) := by decide +kernel
theorem dRM_init_139 : decode cRM_init 139 = .ok (.iload_n 2, 1) := by decide +kernel
theorem dRM_init_140 : decode cRM_init 140 = .ok (.iconst (-1), 1) := by decide +kernel
theorem dRM_init_141 : decode cRM_init 141 = .ok (.iastore, 1) := by decide +kernel
theorem dRM_init_142 : decode cRM_init 142 = .ok (.iinc 2 1, 3) := by decide +kernel
theorem dRM_init_145 : decode cRM_init 145 = .ok (.goto (-17), 3) := by decide +kernel
theorem dRM_init_148 : decode cRM_init 148 = .ok (.return_, 1) := by decide +kernel
theorem dRM_thrown_0 : decode cRM_thrown 0 = .ok (.aload_n 0, 1) := by decide +kernel
theorem dRM_thrown_1 : decode cRM_thrown 1 = .ok (.getfield 45, 3) := by decide +kernel
theorem dRM_thrown_4 : decode cRM_thrown 4 = .ok (.ireturn, 1) := by decide +kernel
theorem dRM_port_0 : decode cRM_port 0 = .ok (.aload_n 0, 1) := by decide +kernel
theorem dRM_port_1 : decode cRM_port 1 = .ok (.iload_n 1, 1) := by decide +kernel
theorem dRM_port_2 : decode cRM_port 2 = .ok (.iconst 0, 1) := by decide +kernel
theorem dRM_port_3 : decode cRM_port 3 = .ok (.bipush 7, 2) := by decide +kernel
theorem dRM_port_5 : decode cRM_port 5 = .ok (.invokestatic 52, 3) := by decide +kernel
theorem dRM_port_8 : decode cRM_port 8 = .ok (.ifCond .eq 7, 3) := by decide +kernel
theorem dRM_port_11 : decode cRM_port 11 = .ok (.iconst 0, 1) := by decide +kernel
theorem dRM_port_12 : decode cRM_port 12 = .ok (.goto 4, 3) := by decide +kernel
theorem dRM_port_15 : decode cRM_port 15 = .ok (.iconst 1, 1) := by decide +kernel
theorem dRM_port_16 : decode cRM_port 16 = .ok (.putfield 45, 3) := by decide +kernel
theorem dRM_port_19 : decode cRM_port 19 = .ok (.aload_n 0, 1) := by decide +kernel
theorem dRM_port_20 : decode cRM_port 20 = .ok (.getfield 45, 3) := by decide +kernel
theorem dRM_port_23 : decode cRM_port 23 = .ok (.ifCond .le 5, 3) := by decide +kernel
theorem dRM_port_26 : decode cRM_port 26 = .ok (.iconst 0, 1) := by decide +kernel
theorem dRM_port_27 : decode cRM_port 27 = .ok (.ireturn, 1) := by decide +kernel
theorem dRM_port_28 : decode cRM_port 28 = .ok (.aload_n 0, 1) := by decide +kernel
theorem dRM_port_29 : decode cRM_port 29 = .ok (.getfield 7, 3) := by decide +kernel
theorem dRM_port_32 : decode cRM_port 32 = .ok (.iload_n 1, 1) := by decide +kernel
theorem dRM_port_33 : decode cRM_port 33 = .ok (.baload, 1) := by decide +kernel
theorem dRM_port_34 : decode cRM_port 34 = .ok (.istore_n 3, 1) := by decide +kernel
theorem dRM_port_35 : decode cRM_port 35 = .ok (.aload_n 0, 1) := by decide +kernel
theorem dRM_port_36 : decode cRM_port 36 = .ok (.getfield 7, 3) := by decide +kernel
theorem dRM_port_39 : decode cRM_port 39 = .ok (.iload_n 1, 1) := by decide +kernel
theorem dRM_port_40 : decode cRM_port 40 = .ok (.iload_n 2, 1) := by decide +kernel
theorem dRM_port_41 : decode cRM_port 41 = .ok (.bastore, 1) := by decide +kernel
theorem dRM_port_42 : decode cRM_port 42 = .ok (.aload_n 0, 1) := by decide +kernel
theorem dRM_port_43 : decode cRM_port 43 = .ok (.getfield 13, 3) := by decide +kernel
theorem dRM_port_46 : decode cRM_port 46 = .ok (.iload_n 1, 1) := by decide +kernel
theorem dRM_port_47 : decode cRM_port 47 = .ok (.aload_n 0, 1) := by decide +kernel
theorem dRM_port_48 : decode cRM_port 48 = .ok (.getfield 13, 3) := by decide +kernel
theorem dRM_port_51 : decode cRM_port 51 = .ok (.iload_n 1, 1) := by decide +kernel
theorem dRM_port_52 : decode cRM_port 52 = .ok (.baload, 1) := by decide +kernel
theorem dRM_port_53 : decode cRM_port 53 = .ok (.ifCond .eq 11, 3) := by decide +kernel
theorem dRM_port_56 : decode cRM_port 56 = .ok (.iload_n 2, 1) := by decide +kernel
theorem dRM_port_57 : decode cRM_port 57 = .ok (.ifCond .eq 7, 3) := by decide +kernel
theorem dRM_port_60 : decode cRM_port 60 = .ok (.iconst 1, 1) := by decide +kernel
theorem dRM_port_61 : decode cRM_port 61 = .ok (.goto 4, 3) := by decide +kernel
theorem dRM_port_64 : decode cRM_port 64 = .ok (.iconst 0, 1) := by decide +kernel
theorem dRM_port_65 : decode cRM_port 65 = .ok (.bastore, 1) := by decide +kernel
theorem dRM_port_66 : decode cRM_port 66 = .ok (.iconst 0, 1) := by decide +kernel
theorem dRM_port_67 : decode cRM_port 67 = .ok (.istore 4, 2) := by decide +kernel
theorem dRM_port_69 : decode cRM_port 69 = .ok (.iload 4, 2) := by decide +kernel
theorem dRM_port_71 : decode cRM_port 71 = .ok (.bipush 16, 2) := by decide +kernel
theorem dRM_port_73 : decode cRM_port 73 = .ok (.if_icmp .ge 43, 3) := by decide +kernel
theorem dRM_port_76 : decode cRM_port 76 = .ok (.iload_n 2, 1) := by decide +kernel
theorem dRM_port_77 : decode cRM_port 77 = .ok (.ifCond .ne 33, 3) := by decide +kernel
theorem dRM_port_80 : decode cRM_port 80 = .ok (.aload_n 0, 1) := by decide +kernel
theorem dRM_port_81 : decode cRM_port 81 = .ok (.getfield 16, 3) := by decide +kernel
theorem dRM_port_84 : decode cRM_port 84 = .ok (.iload 4, 2) := by decide +kernel
theorem dRM_port_86 : decode cRM_port 86 = .ok (.iaload, 1) := by decide +kernel
theorem dRM_port_87 : decode cRM_port 87 = .ok (.ifCond .lt 23, 3) := by decide +kernel
theorem dRM_port_90 : decode cRM_port 90 = .ok (.aload_n 0, 1) := by decide +kernel
theorem dRM_port_91 : decode cRM_port 91 = .ok (.getfield 16, 3) := by decide +kernel
theorem dRM_port_94 : decode cRM_port 94 = .ok (.iload 4, 2) := by decide +kernel
theorem dRM_port_96 : decode cRM_port 96 = .ok (.iaload, 1) := by decide +kernel
theorem dRM_port_97 : decode cRM_port 97 = .ok (.bipush 64, 2) := by decide +kernel
theorem dRM_port_99 : decode cRM_port 99 = .ok (.idiv, 1) := by decide +kernel
theorem dRM_port_100 : decode cRM_port 100 = .ok (.iload_n 1, 1) := by decide +kernel
theorem dRM_port_101 : decode cRM_port 101 = .ok (.if_icmp .ne 9, 3) := by decide +kernel
theorem dRM_port_104 : decode cRM_port 104 = .ok (.aload_n 0, 1) := by decide +kernel
theorem dRM_port_105 : decode cRM_port 105 = .ok (.iload 4, 2) := by decide +kernel
theorem dRM_port_107 : decode cRM_port 107 = .ok (.invokevirtual 56, 3) := by decide +kernel
theorem dRM_port_110 : decode cRM_port 110 = .ok (.iinc 4 1, 3) := by decide +kernel
theorem dRM_port_113 : decode cRM_port 113 = .ok (.goto (-44), 3) := by decide +kernel
theorem dRM_port_116 : decode cRM_port 116 = .ok (.iload_n 3, 1) := by decide +kernel
theorem dRM_port_117 : decode cRM_port 117 = .ok (.iload_n 2, 1) := by decide +kernel
theorem dRM_port_118 : decode cRM_port 118 = .ok (.if_icmp .eq 7, 3) := by decide +kernel
theorem dRM_port_121 : decode cRM_port 121 = .ok (.iconst 1, 1) := by decide +kernel
theorem dRM_port_122 : decode cRM_port 122 = .ok (.goto 4, 3) := by decide +kernel
theorem dRM_port_125 : decode cRM_port 125 = .ok (.iconst 0, 1) := by decide +kernel
theorem dRM_port_126 : decode cRM_port 126 = .ok (.ireturn, 1) := by decide +kernel
theorem dRM_in_0 : decode cRM_in 0 = .ok (.iload_n 0, 1) := by decide +kernel
theorem dRM_in_1 : decode cRM_in 1 = .ok (.iload_n 1, 1) := by decide +kernel
theorem dRM_in_2 : decode cRM_in 2 = .ok (.if_icmp .lt 12, 3) := by decide +kernel
theorem dRM_in_5 : decode cRM_in 5 = .ok (.iload_n 0, 1) := by decide +kernel
theorem dRM_in_6 : decode cRM_in 6 = .ok (.iload_n 2, 1) := by decide +kernel
theorem dRM_in_7 : decode cRM_in 7 = .ok (.if_icmp .gt 7, 3) := by decide +kernel
theorem dRM_in_10 : decode cRM_in 10 = .ok (.iconst 1, 1) := by decide +kernel
theorem dRM_in_11 : decode cRM_in 11 = .ok (.goto 4, 3) := by decide +kernel
theorem dRM_in_14 : decode cRM_in 14 = .ok (.iconst 0, 1) := by decide +kernel
theorem dRM_in_15 : decode cRM_in 15 = .ok (.ireturn, 1) := by decide +kernel
theorem dRM_remove_0 : decode cRM_remove 0 = .ok (.aload_n 0, 1) := by decide +kernel
theorem dRM_remove_1 : decode cRM_remove 1 = .ok (.getfield 16, 3) := by decide +kernel
theorem dRM_remove_4 : decode cRM_remove 4 = .ok (.iload_n 1, 1) := by decide +kernel
theorem dRM_remove_5 : decode cRM_remove 5 = .ok (.iconst (-1), 1) := by decide +kernel
theorem dRM_remove_6 : decode cRM_remove 6 = .ok (.iastore, 1) := by decide +kernel
theorem dRM_remove_7 : decode cRM_remove 7 = .ok (.aload_n 0, 1) := by decide +kernel
theorem dRM_remove_8 : decode cRM_remove 8 = .ok (.getfield 23, 3) := by decide +kernel
theorem dRM_remove_11 : decode cRM_remove 11 = .ok (.iload_n 1, 1) := by decide +kernel
theorem dRM_remove_12 : decode cRM_remove 12 = .ok (.iconst 0, 1) := by decide +kernel
theorem dRM_remove_13 : decode cRM_remove 13 = .ok (.bastore, 1) := by decide +kernel
theorem dRM_remove_14 : decode cRM_remove 14 = .ok (.aload_n 0, 1) := by decide +kernel
theorem dRM_remove_15 : decode cRM_remove 15 = .ok (.iload_n 1, 1) := by decide +kernel
theorem dRM_remove_16 : decode cRM_remove 16 = .ok (.invokevirtual 48, 3) := by decide +kernel
theorem dRM_remove_19 : decode cRM_remove 19 = .ok (.return_, 1) := by decide +kernel
theorem dRM_settleAll_0 : decode cRM_settleAll 0 = .ok (.iconst 0, 1) := by decide +kernel
theorem dRM_settleAll_1 : decode cRM_settleAll 1 = .ok (.istore_n 2, 1) := by decide +kernel
theorem dRM_settleAll_2 : decode cRM_settleAll 2 = .ok (.iload_n 2, 1) := by decide +kernel
theorem dRM_settleAll_3 : decode cRM_settleAll 3 = .ok (.bipush 64, 2) := by decide +kernel
theorem dRM_settleAll_5 : decode cRM_settleAll 5 = .ok (.if_icmp .ge 21, 3) := by decide +kernel
theorem dRM_settleAll_8 : decode cRM_settleAll 8 = .ok (.aload_n 0, 1) := by decide +kernel
theorem dRM_settleAll_9 : decode cRM_settleAll 9 = .ok (.getfield 26, 3) := by decide +kernel
theorem dRM_settleAll_12 : decode cRM_settleAll 12 = .ok (.bipush 64, 2) := by decide +kernel
theorem dRM_settleAll_14 : decode cRM_settleAll 14 = .ok (.iload_n 1, 1) := by decide +kernel
theorem dRM_settleAll_15 : decode cRM_settleAll 15 = .ok (.imul, 1) := by decide +kernel
theorem dRM_settleAll_16 : decode cRM_settleAll 16 = .ok (.iload_n 2, 1) := by decide +kernel
theorem dRM_settleAll_17 : decode cRM_settleAll 17 = .ok (.iadd, 1) := by decide +kernel
theorem dRM_settleAll_18 : decode cRM_settleAll 18 = .ok (.iconst (-1), 1) := by decide +kernel
theorem dRM_settleAll_19 : decode cRM_settleAll 19 = .ok (.iastore, 1) := by decide +kernel
theorem dRM_settleAll_20 : decode cRM_settleAll 20 = .ok (.iinc 2 1, 3) := by decide +kernel
theorem dRM_settleAll_23 : decode cRM_settleAll 23 = .ok (.goto (-21), 3) := by decide +kernel
theorem dRM_settleAll_26 : decode cRM_settleAll 26 = .ok (.return_, 1) := by decide +kernel
theorem dRM_greeting_0 : decode cRM_greeting 0 = .ok (.aload_n 0, 1) := by decide +kernel
theorem dRM_greeting_1 : decode cRM_greeting 1 = .ok (.aload_n 0, 1) := by decide +kernel
theorem dRM_greeting_2 : decode cRM_greeting 2 = .ok (.iload_n 1, 1) := by decide +kernel
theorem dRM_greeting_3 : decode cRM_greeting 3 = .ok (.iload_n 2, 1) := by decide +kernel
theorem dRM_greeting_4 : decode cRM_greeting 4 = .ok (.invokevirtual 59, 3) := by decide +kernel
theorem dRM_greeting_7 : decode cRM_greeting 7 = .ok (.putfield 45, 3) := by decide +kernel
theorem dRM_greeting_10 : decode cRM_greeting 10 = .ok (.aload_n 0, 1) := by decide +kernel
theorem dRM_greeting_11 : decode cRM_greeting 11 = .ok (.getfield 45, 3) := by decide +kernel
theorem dRM_greeting_14 : decode cRM_greeting 14 = .ok (.ifCond .le 5, 3) := by decide +kernel
theorem dRM_greeting_17 : decode cRM_greeting 17 = .ok (.iconst 0, 1) := by decide +kernel
theorem dRM_greeting_18 : decode cRM_greeting 18 = .ok (.ireturn, 1) := by decide +kernel
theorem dRM_greeting_19 : decode cRM_greeting 19 = .ok (.aload_n 0, 1) := by decide +kernel
theorem dRM_greeting_20 : decode cRM_greeting 20 = .ok (.iload_n 1, 1) := by decide +kernel
theorem dRM_greeting_21 : decode cRM_greeting 21 = .ok (.iload_n 2, 1) := by decide +kernel
theorem dRM_greeting_22 : decode cRM_greeting 22 = .ok (.invokevirtual 63, 3) := by decide +kernel
theorem dRM_greeting_25 : decode cRM_greeting 25 = .ok (.istore 4, 2) := by decide +kernel
theorem dRM_greeting_27 : decode cRM_greeting 27 = .ok (.iload 4, 2) := by decide +kernel
theorem dRM_greeting_29 : decode cRM_greeting 29 = .ok (.ifCond .ge 64, 3) := by decide +kernel
theorem dRM_greeting_32 : decode cRM_greeting 32 = .ok (.iconst (-1), 1) := by decide +kernel
theorem dRM_greeting_33 : decode cRM_greeting 33 = .ok (.istore 5, 2) := by decide +kernel
theorem dRM_greeting_35 : decode cRM_greeting 35 = .ok (.bipush 15, 2) := by decide +kernel
theorem dRM_greeting_37 : decode cRM_greeting 37 = .ok (.istore 6, 2) := by decide +kernel
theorem dRM_greeting_39 : decode cRM_greeting 39 = .ok (.iload 6, 2) := by decide +kernel
theorem dRM_greeting_41 : decode cRM_greeting 41 = .ok (.ifCond .lt 28, 3) := by decide +kernel
theorem dRM_greeting_44 : decode cRM_greeting 44 = .ok (.aload_n 0, 1) := by decide +kernel
theorem dRM_greeting_45 : decode cRM_greeting 45 = .ok (.getfield 16, 3) := by decide +kernel
theorem dRM_greeting_48 : decode cRM_greeting 48 = .ok (.iload 6, 2) := by decide +kernel
theorem dRM_greeting_50 : decode cRM_greeting 50 = .ok (.iaload, 1) := by decide +kernel
theorem dRM_greeting_51 : decode cRM_greeting 51 = .ok (.ifCond .ge 8, 3) := by decide +kernel
theorem dRM_greeting_54 : decode cRM_greeting 54 = .ok (.iload 6, 2) := by decide +kernel
theorem dRM_greeting_56 : decode cRM_greeting 56 = .ok (.goto 5, 3) := by decide +kernel
theorem dRM_greeting_59 : decode cRM_greeting 59 = .ok (.iload 5, 2) := by decide +kernel
theorem dRM_greeting_61 : decode cRM_greeting 61 = .ok (.istore 5, 2) := by decide +kernel
theorem dRM_greeting_63 : decode cRM_greeting 63 = .ok (.iinc 6 (-1), 3) := by decide +kernel
theorem dRM_greeting_66 : decode cRM_greeting 66 = .ok (.goto (-27), 3) := by decide +kernel
theorem dRM_greeting_69 : decode cRM_greeting 69 = .ok (.iload 5, 2) := by decide +kernel
theorem dRM_greeting_71 : decode cRM_greeting 71 = .ok (.ifCond .ge 5, 3) := by decide +kernel
theorem dRM_greeting_74 : decode cRM_greeting 74 = .ok (.iconst 0, 1) := by decide +kernel
theorem dRM_greeting_75 : decode cRM_greeting 75 = .ok (.ireturn, 1) := by decide +kernel
theorem dRM_greeting_76 : decode cRM_greeting 76 = .ok (.iload 5, 2) := by decide +kernel
theorem dRM_greeting_78 : decode cRM_greeting 78 = .ok (.istore 4, 2) := by decide +kernel
theorem dRM_greeting_80 : decode cRM_greeting 80 = .ok (.aload_n 0, 1) := by decide +kernel
theorem dRM_greeting_81 : decode cRM_greeting 81 = .ok (.getfield 16, 3) := by decide +kernel
theorem dRM_greeting_84 : decode cRM_greeting 84 = .ok (.iload 4, 2) := by decide +kernel
theorem dRM_greeting_86 : decode cRM_greeting 86 = .ok (.bipush 64, 2) := by decide +kernel
theorem dRM_greeting_88 : decode cRM_greeting 88 = .ok (.iload_n 1, 1) := by decide +kernel
theorem dRM_greeting_89 : decode cRM_greeting 89 = .ok (.imul, 1) := by decide +kernel
theorem dRM_greeting_90 : decode cRM_greeting 90 = .ok (.iload_n 2, 1) := by decide +kernel
theorem dRM_greeting_91 : decode cRM_greeting 91 = .ok (.iadd, 1) := by decide +kernel
theorem dRM_greeting_92 : decode cRM_greeting 92 = .ok (.iastore, 1) := by decide +kernel
theorem dRM_greeting_93 : decode cRM_greeting 93 = .ok (.aload_n 0, 1) := by decide +kernel
theorem dRM_greeting_94 : decode cRM_greeting 94 = .ok (.getfield 20, 3) := by decide +kernel
theorem dRM_greeting_97 : decode cRM_greeting 97 = .ok (.iload 4, 2) := by decide +kernel
theorem dRM_greeting_99 : decode cRM_greeting 99 = .ok (.aload_n 0, 1) := by decide +kernel
theorem dRM_greeting_100 : decode cRM_greeting 100 = .ok (.getfield 66, 3) := by decide +kernel
theorem dRM_greeting_103 : decode cRM_greeting 103 = .ok (.iastore, 1) := by decide +kernel
theorem dRM_greeting_104 : decode cRM_greeting 104 = .ok (.iconst 0, 1) := by decide +kernel
theorem dRM_greeting_105 : decode cRM_greeting 105 = .ok (.istore 5, 2) := by decide +kernel
theorem dRM_greeting_107 : decode cRM_greeting 107 = .ok (.iload 5, 2) := by decide +kernel
theorem dRM_greeting_109 : decode cRM_greeting 109 = .ok (.bipush 64, 2) := by decide +kernel
theorem dRM_greeting_111 : decode cRM_greeting 111 = .ok (.if_icmp .ge 86, 3) := by decide +kernel
theorem dRM_greeting_114 : decode cRM_greeting 114 = .ok (.iload_n 3, 1) := by decide +kernel
theorem dRM_greeting_115 : decode cRM_greeting 115 = .ok (.ifCond .eq 27, 3) := by decide +kernel
theorem dRM_greeting_118 : decode cRM_greeting 118 = .ok (.aload_n 0, 1) := by decide +kernel
theorem dRM_greeting_119 : decode cRM_greeting 119 = .ok (.getfield 23, 3) := by decide +kernel
theorem dRM_greeting_122 : decode cRM_greeting 122 = .ok (.iload 4, 2) := by decide +kernel
theorem dRM_greeting_124 : decode cRM_greeting 124 = .ok (.baload, 1) := by decide +kernel
theorem dRM_greeting_125 : decode cRM_greeting 125 = .ok (.ifCond .ne 17, 3) := by decide +kernel
theorem dRM_greeting_128 : decode cRM_greeting 128 = .ok (.aload_n 0, 1) := by decide +kernel
theorem dRM_greeting_129 : decode cRM_greeting 129 = .ok (.getfield 29, 3) := by decide +kernel
theorem dRM_greeting_132 : decode cRM_greeting 132 = .ok (.iload 5, 2) := by decide +kernel
theorem dRM_greeting_134 : decode cRM_greeting 134 = .ok (.iaload, 1) := by decide +kernel
theorem dRM_greeting_135 : decode cRM_greeting 135 = .ok (.ifCond .le 7, 3) := by decide +kernel
theorem dRM_greeting_138 : decode cRM_greeting 138 = .ok (.iconst 1, 1) := by decide +kernel
theorem dRM_greeting_139 : decode cRM_greeting 139 = .ok (.goto 4, 3) := by decide +kernel
theorem dRM_greeting_142 : decode cRM_greeting 142 = .ok (.iconst 0, 1) := by decide +kernel
theorem dRM_greeting_143 : decode cRM_greeting 143 = .ok (.istore 6, 2) := by decide +kernel
theorem dRM_greeting_145 : decode cRM_greeting 145 = .ok (.aload_n 0, 1) := by decide +kernel
theorem dRM_greeting_146 : decode cRM_greeting 146 = .ok (.getfield 26, 3) := by decide +kernel
theorem dRM_greeting_149 : decode cRM_greeting 149 = .ok (.bipush 64, 2) := by decide +kernel
theorem dRM_greeting_151 : decode cRM_greeting 151 = .ok (.iload 4, 2) := by decide +kernel
theorem dRM_greeting_153 : decode cRM_greeting 153 = .ok (.imul, 1) := by decide +kernel
theorem dRM_greeting_154 : decode cRM_greeting 154 = .ok (.iload 5, 2) := by decide +kernel
theorem dRM_greeting_156 : decode cRM_greeting 156 = .ok (.iadd, 1) := by decide +kernel
theorem dRM_greeting_157 : decode cRM_greeting 157 = .ok (.iload 6, 2) := by decide +kernel
theorem dRM_greeting_159 : decode cRM_greeting 159 = .ok (.ifCond .eq 10, 3) := by decide +kernel
theorem dRM_greeting_162 : decode cRM_greeting 162 = .ok (.aload_n 0, 1) := by decide +kernel
theorem dRM_greeting_163 : decode cRM_greeting 163 = .ok (.getfield 66, 3) := by decide +kernel
theorem dRM_greeting_166 : decode cRM_greeting 166 = .ok (.goto 24, 3) := by decide +kernel
theorem dRM_greeting_169 : decode cRM_greeting 169 = .ok (.iload_n 3, 1) := by decide +kernel
theorem dRM_greeting_170 : decode cRM_greeting 170 = .ok (.ifCond .eq 19, 3) := by decide +kernel
theorem dRM_greeting_173 : decode cRM_greeting 173 = .ok (.aload_n 0, 1) := by decide +kernel
theorem dRM_greeting_174 : decode cRM_greeting 174 = .ok (.getfield 26, 3) := by decide +kernel
theorem dRM_greeting_177 : decode cRM_greeting 177 = .ok (.bipush 64, 2) := by decide +kernel
theorem dRM_greeting_179 : decode cRM_greeting 179 = .ok (.iload 4, 2) := by decide +kernel
theorem dRM_greeting_181 : decode cRM_greeting 181 = .ok (.imul, 1) := by decide +kernel
theorem dRM_greeting_182 : decode cRM_greeting 182 = .ok (.iload 5, 2) := by decide +kernel
theorem dRM_greeting_184 : decode cRM_greeting 184 = .ok (.iadd, 1) := by decide +kernel
theorem dRM_greeting_185 : decode cRM_greeting 185 = .ok (.iaload, 1) := by decide +kernel
theorem dRM_greeting_186 : decode cRM_greeting 186 = .ok (.goto 4, 3) := by decide +kernel
theorem dRM_greeting_189 : decode cRM_greeting 189 = .ok (.iconst (-1), 1) := by decide +kernel
theorem dRM_greeting_190 : decode cRM_greeting 190 = .ok (.iastore, 1) := by decide +kernel
theorem dRM_greeting_191 : decode cRM_greeting 191 = .ok (.iinc 5 1, 3) := by decide +kernel
theorem dRM_greeting_194 : decode cRM_greeting 194 = .ok (.goto (-87), 3) := by decide +kernel
theorem dRM_greeting_197 : decode cRM_greeting 197 = .ok (.aload_n 0, 1) := by decide +kernel
theorem dRM_greeting_198 : decode cRM_greeting 198 = .ok (.getfield 23, 3) := by decide +kernel
theorem dRM_greeting_201 : decode cRM_greeting 201 = .ok (.iload 4, 2) := by decide +kernel
theorem dRM_greeting_203 : decode cRM_greeting 203 = .ok (.iload_n 3, 1) := by decide +kernel
theorem dRM_greeting_204 : decode cRM_greeting 204 = .ok (.bastore, 1) := by decide +kernel
theorem dRM_greeting_205 : decode cRM_greeting 205 = .ok (.iload_n 3, 1) := by decide +kernel
theorem dRM_greeting_206 : decode cRM_greeting 206 = .ok (.ifCond .eq 7, 3) := by decide +kernel
theorem dRM_greeting_209 : decode cRM_greeting 209 = .ok (.iconst 2, 1) := by decide +kernel
theorem dRM_greeting_210 : decode cRM_greeting 210 = .ok (.goto 4, 3) := by decide +kernel
theorem dRM_greeting_213 : decode cRM_greeting 213 = .ok (.iconst 1, 1) := by decide +kernel
theorem dRM_greeting_214 : decode cRM_greeting 214 = .ok (.ireturn, 1) := by decide +kernel
theorem dRM_wrong_0 : decode cRM_wrong 0 = .ok (.iload_n 1, 1) := by decide +kernel
theorem dRM_wrong_1 : decode cRM_wrong 1 = .ok (.iconst 0, 1) := by decide +kernel
theorem dRM_wrong_2 : decode cRM_wrong 2 = .ok (.bipush 7, 2) := by decide +kernel
theorem dRM_wrong_4 : decode cRM_wrong 4 = .ok (.invokestatic 52, 3) := by decide +kernel
theorem dRM_wrong_7 : decode cRM_wrong 7 = .ok (.ifCond .eq 21, 3) := by decide +kernel
theorem dRM_wrong_10 : decode cRM_wrong 10 = .ok (.iload_n 2, 1) := by decide +kernel
theorem dRM_wrong_11 : decode cRM_wrong 11 = .ok (.iconst 0, 1) := by decide +kernel
theorem dRM_wrong_12 : decode cRM_wrong 12 = .ok (.bipush 63, 2) := by decide +kernel
theorem dRM_wrong_14 : decode cRM_wrong 14 = .ok (.invokestatic 52, 3) := by decide +kernel
theorem dRM_wrong_17 : decode cRM_wrong 17 = .ok (.ifCond .eq 11, 3) := by decide +kernel
theorem dRM_wrong_20 : decode cRM_wrong 20 = .ok (.iload_n 2, 1) := by decide +kernel
theorem dRM_wrong_21 : decode cRM_wrong 21 = .ok (.aload_n 0, 1) := by decide +kernel
theorem dRM_wrong_22 : decode cRM_wrong 22 = .ok (.getfield 41, 3) := by decide +kernel
theorem dRM_wrong_25 : decode cRM_wrong 25 = .ok (.if_icmp .ne 7, 3) := by decide +kernel
theorem dRM_wrong_28 : decode cRM_wrong 28 = .ok (.iconst 1, 1) := by decide +kernel
theorem dRM_wrong_29 : decode cRM_wrong 29 = .ok (.goto 17, 3) := by decide +kernel
theorem dRM_wrong_32 : decode cRM_wrong 32 = .ok (.aload_n 0, 1) := by decide +kernel
theorem dRM_wrong_33 : decode cRM_wrong 33 = .ok (.getfield 7, 3) := by decide +kernel
theorem dRM_wrong_36 : decode cRM_wrong 36 = .ok (.iload_n 1, 1) := by decide +kernel
theorem dRM_wrong_37 : decode cRM_wrong 37 = .ok (.baload, 1) := by decide +kernel
theorem dRM_wrong_38 : decode cRM_wrong 38 = .ok (.ifCond .ne 7, 3) := by decide +kernel
theorem dRM_wrong_41 : decode cRM_wrong 41 = .ok (.iconst 2, 1) := by decide +kernel
theorem dRM_wrong_42 : decode cRM_wrong 42 = .ok (.goto 4, 3) := by decide +kernel
theorem dRM_wrong_45 : decode cRM_wrong 45 = .ok (.iconst 0, 1) := by decide +kernel
theorem dRM_wrong_46 : decode cRM_wrong 46 = .ok (.ireturn, 1) := by decide +kernel
theorem dRM_find_0 : decode cRM_find 0 = .ok (.iconst (-1), 1) := by decide +kernel
theorem dRM_find_1 : decode cRM_find 1 = .ok (.istore_n 3, 1) := by decide +kernel
theorem dRM_find_2 : decode cRM_find 2 = .ok (.iconst 0, 1) := by decide +kernel
theorem dRM_find_3 : decode cRM_find 3 = .ok (.istore 4, 2) := by decide +kernel
theorem dRM_find_5 : decode cRM_find 5 = .ok (.iload 4, 2) := by decide +kernel
theorem dRM_find_7 : decode cRM_find 7 = .ok (.bipush 16, 2) := by decide +kernel
theorem dRM_find_9 : decode cRM_find 9 = .ok (.if_icmp .ge 32, 3) := by decide +kernel
theorem dRM_find_12 : decode cRM_find 12 = .ok (.aload_n 0, 1) := by decide +kernel
theorem dRM_find_13 : decode cRM_find 13 = .ok (.getfield 16, 3) := by decide +kernel
theorem dRM_find_16 : decode cRM_find 16 = .ok (.iload 4, 2) := by decide +kernel
theorem dRM_find_18 : decode cRM_find 18 = .ok (.iaload, 1) := by decide +kernel
theorem dRM_find_19 : decode cRM_find 19 = .ok (.bipush 64, 2) := by decide +kernel
theorem dRM_find_21 : decode cRM_find 21 = .ok (.iload_n 1, 1) := by decide +kernel
theorem dRM_find_22 : decode cRM_find 22 = .ok (.imul, 1) := by decide +kernel
theorem dRM_find_23 : decode cRM_find 23 = .ok (.iload_n 2, 1) := by decide +kernel
theorem dRM_find_24 : decode cRM_find 24 = .ok (.iadd, 1) := by decide +kernel
theorem dRM_find_25 : decode cRM_find 25 = .ok (.if_icmp .ne 8, 3) := by decide +kernel
theorem dRM_find_28 : decode cRM_find 28 = .ok (.iload 4, 2) := by decide +kernel
theorem dRM_find_30 : decode cRM_find 30 = .ok (.goto 4, 3) := by decide +kernel
theorem dRM_find_33 : decode cRM_find 33 = .ok (.iload_n 3, 1) := by decide +kernel
theorem dRM_find_34 : decode cRM_find 34 = .ok (.istore_n 3, 1) := by decide +kernel
theorem dRM_find_35 : decode cRM_find 35 = .ok (.iinc 4 1, 3) := by decide +kernel
theorem dRM_find_38 : decode cRM_find 38 = .ok (.goto (-33), 3) := by decide +kernel
theorem dRM_find_41 : decode cRM_find 41 = .ok (.iload_n 3, 1) := by decide +kernel
theorem dRM_find_42 : decode cRM_find 42 = .ok (.ireturn, 1) := by decide +kernel
theorem dRM_advert_0 : decode cRM_advert 0 = .ok (.aload_n 0, 1) := by decide +kernel
theorem dRM_advert_1 : decode cRM_advert 1 = .ok (.iload_n 3, 1) := by decide +kernel
theorem dRM_advert_2 : decode cRM_advert 2 = .ok (.iconst 0, 1) := by decide +kernel
theorem dRM_advert_3 : decode cRM_advert 3 = .ok (.bipush 63, 2) := by decide +kernel
theorem dRM_advert_5 : decode cRM_advert 5 = .ok (.invokestatic 52, 3) := by decide +kernel
theorem dRM_advert_8 : decode cRM_advert 8 = .ok (.ifCond .eq 14, 3) := by decide +kernel
theorem dRM_advert_11 : decode cRM_advert 11 = .ok (.iload 4, 2) := by decide +kernel
theorem dRM_advert_13 : decode cRM_advert 13 = .ok (.iconst 1, 1) := by decide +kernel
theorem dRM_advert_14 : decode cRM_advert 14 = .ok (.ldc 72, 2) := by decide +kernel
theorem dRM_advert_16 : decode cRM_advert 16 = .ok (.invokestatic 52, 3) := by decide +kernel
theorem dRM_advert_19 : decode cRM_advert 19 = .ok (.ifCond .ne 7, 3) := by decide +kernel
theorem dRM_advert_22 : decode cRM_advert 22 = .ok (.iconst 1, 1) := by decide +kernel
theorem dRM_advert_23 : decode cRM_advert 23 = .ok (.goto 9, 3) := by decide +kernel
theorem dRM_advert_26 : decode cRM_advert 26 = .ok (.aload_n 0, 1) := by decide +kernel
theorem dRM_advert_27 : decode cRM_advert 27 = .ok (.iload_n 1, 1) := by decide +kernel
theorem dRM_advert_28 : decode cRM_advert 28 = .ok (.iload_n 2, 1) := by decide +kernel
theorem dRM_advert_29 : decode cRM_advert 29 = .ok (.invokevirtual 59, 3) := by decide +kernel
theorem dRM_advert_32 : decode cRM_advert 32 = .ok (.putfield 45, 3) := by decide +kernel
theorem dRM_advert_35 : decode cRM_advert 35 = .ok (.aload_n 0, 1) := by decide +kernel
theorem dRM_advert_36 : decode cRM_advert 36 = .ok (.getfield 45, 3) := by decide +kernel
theorem dRM_advert_39 : decode cRM_advert 39 = .ok (.ifCond .le 5, 3) := by decide +kernel
theorem dRM_advert_42 : decode cRM_advert 42 = .ok (.iconst 0, 1) := by decide +kernel
theorem dRM_advert_43 : decode cRM_advert 43 = .ok (.ireturn, 1) := by decide +kernel
theorem dRM_advert_44 : decode cRM_advert 44 = .ok (.aload_n 0, 1) := by decide +kernel
theorem dRM_advert_45 : decode cRM_advert 45 = .ok (.iload_n 1, 1) := by decide +kernel
theorem dRM_advert_46 : decode cRM_advert 46 = .ok (.iload_n 2, 1) := by decide +kernel
theorem dRM_advert_47 : decode cRM_advert 47 = .ok (.invokevirtual 63, 3) := by decide +kernel
theorem dRM_advert_50 : decode cRM_advert 50 = .ok (.istore 6, 2) := by decide +kernel
theorem dRM_advert_52 : decode cRM_advert 52 = .ok (.iload 6, 2) := by decide +kernel
theorem dRM_advert_54 : decode cRM_advert 54 = .ok (.ifCond .lt 13, 3) := by decide +kernel
theorem dRM_advert_57 : decode cRM_advert 57 = .ok (.aload_n 0, 1) := by decide +kernel
theorem dRM_advert_58 : decode cRM_advert 58 = .ok (.getfield 23, 3) := by decide +kernel
theorem dRM_advert_61 : decode cRM_advert 61 = .ok (.iload 6, 2) := by decide +kernel
theorem dRM_advert_63 : decode cRM_advert 63 = .ok (.baload, 1) := by decide +kernel
theorem dRM_advert_64 : decode cRM_advert 64 = .ok (.ifCond .ne 5, 3) := by decide +kernel
theorem dRM_advert_67 : decode cRM_advert 67 = .ok (.iconst (-1), 1) := by decide +kernel
theorem dRM_advert_68 : decode cRM_advert 68 = .ok (.ireturn, 1) := by decide +kernel
theorem dRM_advert_69 : decode cRM_advert 69 = .ok (.aload_n 0, 1) := by decide +kernel
theorem dRM_advert_70 : decode cRM_advert 70 = .ok (.iload 6, 2) := by decide +kernel
theorem dRM_advert_72 : decode cRM_advert 72 = .ok (.iload_n 3, 1) := by decide +kernel
theorem dRM_advert_73 : decode cRM_advert 73 = .ok (.iload 4, 2) := by decide +kernel
theorem dRM_advert_75 : decode cRM_advert 75 = .ok (.invokevirtual 73, 3) := by decide +kernel
theorem dRM_advert_78 : decode cRM_advert 78 = .ok (.aload_n 0, 1) := by decide +kernel
theorem dRM_advert_79 : decode cRM_advert 79 = .ok (.getfield 29, 3) := by decide +kernel
theorem dRM_advert_82 : decode cRM_advert 82 = .ok (.iload_n 3, 1) := by decide +kernel
theorem dRM_advert_83 : decode cRM_advert 83 = .ok (.iaload, 1) := by decide +kernel
theorem dRM_advert_84 : decode cRM_advert 84 = .ok (.istore 7, 2) := by decide +kernel
theorem dRM_advert_86 : decode cRM_advert 86 = .ok (.bipush 64, 2) := by decide +kernel
theorem dRM_advert_88 : decode cRM_advert 88 = .ok (.iload 6, 2) := by decide +kernel
theorem dRM_advert_90 : decode cRM_advert 90 = .ok (.imul, 1) := by decide +kernel
theorem dRM_advert_91 : decode cRM_advert 91 = .ok (.iload_n 3, 1) := by decide +kernel
theorem dRM_advert_92 : decode cRM_advert 92 = .ok (.iadd, 1) := by decide +kernel
theorem dRM_advert_93 : decode cRM_advert 93 = .ok (.istore 8, 2) := by decide +kernel
theorem dRM_advert_95 : decode cRM_advert 95 = .ok (.iload 4, 2) := by decide +kernel
theorem dRM_advert_97 : decode cRM_advert 97 = .ok (.iload 7, 2) := by decide +kernel
theorem dRM_advert_99 : decode cRM_advert 99 = .ok (.if_icmp .ge 16, 3) := by decide +kernel
theorem dRM_advert_102 : decode cRM_advert 102 = .ok (.aload_n 0, 1) := by decide +kernel
theorem dRM_advert_103 : decode cRM_advert 103 = .ok (.getfield 26, 3) := by decide +kernel
theorem dRM_advert_106 : decode cRM_advert 106 = .ok (.iload 8, 2) := by decide +kernel
theorem dRM_advert_108 : decode cRM_advert 108 = .ok (.aload_n 0, 1) := by decide +kernel
theorem dRM_advert_109 : decode cRM_advert 109 = .ok (.getfield 66, 3) := by decide +kernel
theorem dRM_advert_112 : decode cRM_advert 112 = .ok (.iastore, 1) := by decide +kernel
theorem dRM_advert_113 : decode cRM_advert 113 = .ok (.iconst 2, 1) := by decide +kernel
theorem dRM_advert_114 : decode cRM_advert 114 = .ok (.ireturn, 1) := by decide +kernel
theorem dRM_advert_115 : decode cRM_advert 115 = .ok (.aload_n 0, 1) := by decide +kernel
theorem dRM_advert_116 : decode cRM_advert 116 = .ok (.getfield 26, 3) := by decide +kernel
theorem dRM_advert_119 : decode cRM_advert 119 = .ok (.iload 8, 2) := by decide +kernel
theorem dRM_advert_121 : decode cRM_advert 121 = .ok (.iconst (-1), 1) := by decide +kernel
theorem dRM_advert_122 : decode cRM_advert 122 = .ok (.iastore, 1) := by decide +kernel
theorem dRM_advert_123 : decode cRM_advert 123 = .ok (.iload_n 3, 1) := by decide +kernel
theorem dRM_advert_124 : decode cRM_advert 124 = .ok (.aload_n 0, 1) := by decide +kernel
theorem dRM_advert_125 : decode cRM_advert 125 = .ok (.getfield 41, 3) := by decide +kernel
theorem dRM_advert_128 : decode cRM_advert 128 = .ok (.if_icmp .ne 48, 3) := by decide +kernel
theorem dRM_advert_131 : decode cRM_advert 131 = .ok (.iload 4, 2) := by decide +kernel
theorem dRM_advert_133 : decode cRM_advert 133 = .ok (.aload_n 0, 1) := by decide +kernel
theorem dRM_advert_134 : decode cRM_advert 134 = .ok (.getfield 77, 3) := by decide +kernel
theorem dRM_advert_137 : decode cRM_advert 137 = .ok (.if_icmp .le 7, 3) := by decide +kernel
theorem dRM_advert_140 : decode cRM_advert 140 = .ok (.iconst 1, 1) := by decide +kernel
theorem dRM_advert_141 : decode cRM_advert 141 = .ok (.goto 4, 3) := by decide +kernel
theorem dRM_advert_144 : decode cRM_advert 144 = .ok (.iconst 0, 1) := by decide +kernel
theorem dRM_advert_145 : decode cRM_advert 145 = .ok (.istore 9, 2) := by decide +kernel
theorem dRM_advert_147 : decode cRM_advert 147 = .ok (.aload_n 0, 1) := by decide +kernel
theorem dRM_advert_148 : decode cRM_advert 148 = .ok (.iload 9, 2) := by decide +kernel
theorem dRM_advert_150 : decode cRM_advert 150 = .ok (.ifCond .eq 8, 3) := by decide +kernel
theorem dRM_advert_153 : decode cRM_advert 153 = .ok (.iload 4, 2) := by decide +kernel
theorem dRM_advert_155 : decode cRM_advert 155 = .ok (.goto 7, 3) := by decide +kernel
theorem dRM_advert_158 : decode cRM_advert 158 = .ok (.aload_n 0, 1) := by decide +kernel
theorem dRM_advert_159 : decode cRM_advert 159 = .ok (.getfield 77, 3) := by decide +kernel
theorem dRM_advert_162 : decode cRM_advert 162 = .ok (.putfield 77, 3) := by decide +kernel
theorem dRM_advert_165 : decode cRM_advert 165 = .ok (.iload 9, 2) := by decide +kernel
theorem dRM_advert_167 : decode cRM_advert 167 = .ok (.ifCond .eq 7, 3) := by decide +kernel
theorem dRM_advert_170 : decode cRM_advert 170 = .ok (.iconst 3, 1) := by decide +kernel
theorem dRM_advert_171 : decode cRM_advert 171 = .ok (.goto 4, 3) := by decide +kernel
theorem dRM_advert_174 : decode cRM_advert 174 = .ok (.iconst 1, 1) := by decide +kernel
theorem dRM_advert_175 : decode cRM_advert 175 = .ok (.ireturn, 1) := by decide +kernel
theorem dRM_advert_176 : decode cRM_advert 176 = .ok (.iload 4, 2) := by decide +kernel
theorem dRM_advert_178 : decode cRM_advert 178 = .ok (.iload 7, 2) := by decide +kernel
theorem dRM_advert_180 : decode cRM_advert 180 = .ok (.if_icmp .ne 5, 3) := by decide +kernel
theorem dRM_advert_183 : decode cRM_advert 183 = .ok (.iconst 1, 1) := by decide +kernel
theorem dRM_advert_184 : decode cRM_advert 184 = .ok (.ireturn, 1) := by decide +kernel
theorem dRM_advert_185 : decode cRM_advert 185 = .ok (.aload_n 0, 1) := by decide +kernel
theorem dRM_advert_186 : decode cRM_advert 186 = .ok (.iload_n 3, 1) := by decide +kernel
theorem dRM_advert_187 : decode cRM_advert 187 = .ok (.iload 4, 2) := by decide +kernel
theorem dRM_advert_189 : decode cRM_advert 189 = .ok (.iload 5, 2) := by decide +kernel
theorem dRM_advert_191 : decode cRM_advert 191 = .ok (.iload 6, 2) := by decide +kernel
theorem dRM_advert_193 : decode cRM_advert 193 = .ok (.invokevirtual 80, 3) := by decide +kernel
theorem dRM_advert_196 : decode cRM_advert 196 = .ok (.iconst 0, 1) := by decide +kernel
theorem dRM_advert_197 : decode cRM_advert 197 = .ok (.ireturn, 1) := by decide +kernel
theorem dRM_thank_0 : decode cRM_thank 0 = .ok (.aload_n 0, 1) := by decide +kernel
theorem dRM_thank_1 : decode cRM_thank 1 = .ok (.getfield 69, 3) := by decide +kernel
theorem dRM_thank_4 : decode cRM_thank 4 = .ok (.bipush 64, 2) := by decide +kernel
theorem dRM_thank_6 : decode cRM_thank 6 = .ok (.if_icmp .ge 83, 3) := by decide +kernel
theorem dRM_thank_9 : decode cRM_thank 9 = .ok (.aload_n 0, 1) := by decide +kernel
theorem dRM_thank_10 : decode cRM_thank 10 = .ok (.getfield 35, 3) := by decide +kernel
theorem dRM_thank_13 : decode cRM_thank 13 = .ok (.iconst 4, 1) := by decide +kernel
theorem dRM_thank_14 : decode cRM_thank 14 = .ok (.aload_n 0, 1) := by decide +kernel
theorem dRM_thank_15 : decode cRM_thank 15 = .ok (.getfield 69, 3) := by decide +kernel
theorem dRM_thank_18 : decode cRM_thank 18 = .ok (.imul, 1) := by decide +kernel
theorem dRM_thank_19 : decode cRM_thank 19 = .ok (.aload_n 0, 1) := by decide +kernel
theorem dRM_thank_20 : decode cRM_thank 20 = .ok (.getfield 16, 3) := by decide +kernel
theorem dRM_thank_23 : decode cRM_thank 23 = .ok (.iload_n 1, 1) := by decide +kernel
theorem dRM_thank_24 : decode cRM_thank 24 = .ok (.iaload, 1) := by decide +kernel
theorem dRM_thank_25 : decode cRM_thank 25 = .ok (.bipush 64, 2) := by decide +kernel
theorem dRM_thank_27 : decode cRM_thank 27 = .ok (.idiv, 1) := by decide +kernel
theorem dRM_thank_28 : decode cRM_thank 28 = .ok (.iastore, 1) := by decide +kernel
theorem dRM_thank_29 : decode cRM_thank 29 = .ok (.aload_n 0, 1) := by decide +kernel
theorem dRM_thank_30 : decode cRM_thank 30 = .ok (.getfield 35, 3) := by decide +kernel
theorem dRM_thank_33 : decode cRM_thank 33 = .ok (.iconst 4, 1) := by decide +kernel
theorem dRM_thank_34 : decode cRM_thank 34 = .ok (.aload_n 0, 1) := by decide +kernel
theorem dRM_thank_35 : decode cRM_thank 35 = .ok (.getfield 69, 3) := by decide +kernel
theorem dRM_thank_38 : decode cRM_thank 38 = .ok (.imul, 1) := by decide +kernel
theorem dRM_thank_39 : decode cRM_thank 39 = .ok (.iconst 1, 1) := by decide +kernel
theorem dRM_thank_40 : decode cRM_thank 40 = .ok (.iadd, 1) := by decide +kernel
theorem dRM_thank_41 : decode cRM_thank 41 = .ok (.aload_n 0, 1) := by decide +kernel
theorem dRM_thank_42 : decode cRM_thank 42 = .ok (.getfield 16, 3) := by decide +kernel
theorem dRM_thank_45 : decode cRM_thank 45 = .ok (.iload_n 1, 1) := by decide +kernel
theorem dRM_thank_46 : decode cRM_thank 46 = .ok (.iaload, 1) := by decide +kernel
theorem dRM_thank_47 : decode cRM_thank 47 = .ok (.bipush 64, 2) := by decide +kernel
theorem dRM_thank_49 : decode cRM_thank 49 = .ok (.irem, 1) := by decide +kernel
theorem dRM_thank_50 : decode cRM_thank 50 = .ok (.iastore, 1) := by decide +kernel
theorem dRM_thank_51 : decode cRM_thank 51 = .ok (.aload_n 0, 1) := by decide +kernel
theorem dRM_thank_52 : decode cRM_thank 52 = .ok (.getfield 35, 3) := by decide +kernel
theorem dRM_thank_55 : decode cRM_thank 55 = .ok (.iconst 4, 1) := by decide +kernel
theorem dRM_thank_56 : decode cRM_thank 56 = .ok (.aload_n 0, 1) := by decide +kernel
theorem dRM_thank_57 : decode cRM_thank 57 = .ok (.getfield 69, 3) := by decide +kernel
theorem dRM_thank_60 : decode cRM_thank 60 = .ok (.imul, 1) := by decide +kernel
theorem dRM_thank_61 : decode cRM_thank 61 = .ok (.iconst 2, 1) := by decide +kernel
theorem dRM_thank_62 : decode cRM_thank 62 = .ok (.iadd, 1) := by decide +kernel
theorem dRM_thank_63 : decode cRM_thank 63 = .ok (.iload_n 2, 1) := by decide +kernel
theorem dRM_thank_64 : decode cRM_thank 64 = .ok (.iastore, 1) := by decide +kernel
theorem dRM_thank_65 : decode cRM_thank 65 = .ok (.aload_n 0, 1) := by decide +kernel
theorem dRM_thank_66 : decode cRM_thank 66 = .ok (.getfield 35, 3) := by decide +kernel
theorem dRM_thank_69 : decode cRM_thank 69 = .ok (.iconst 4, 1) := by decide +kernel
theorem dRM_thank_70 : decode cRM_thank 70 = .ok (.aload_n 0, 1) := by decide +kernel
theorem dRM_thank_71 : decode cRM_thank 71 = .ok (.getfield 69, 3) := by decide +kernel
theorem dRM_thank_74 : decode cRM_thank 74 = .ok (.imul, 1) := by decide +kernel
theorem dRM_thank_75 : decode cRM_thank 75 = .ok (.iconst 3, 1) := by decide +kernel
theorem dRM_thank_76 : decode cRM_thank 76 = .ok (.iadd, 1) := by decide +kernel
theorem dRM_thank_77 : decode cRM_thank 77 = .ok (.iload_n 3, 1) := by decide +kernel
theorem dRM_thank_78 : decode cRM_thank 78 = .ok (.iastore, 1) := by decide +kernel
theorem dRM_thank_79 : decode cRM_thank 79 = .ok (.aload_n 0, 1) := by decide +kernel
theorem dRM_thank_80 : decode cRM_thank 80 = .ok (.dup, 1) := by decide +kernel
theorem dRM_thank_81 : decode cRM_thank 81 = .ok (.getfield 69, 3) := by decide +kernel
theorem dRM_thank_84 : decode cRM_thank 84 = .ok (.iconst 1, 1) := by decide +kernel
theorem dRM_thank_85 : decode cRM_thank 85 = .ok (.iadd, 1) := by decide +kernel
theorem dRM_thank_86 : decode cRM_thank 86 = .ok (.putfield 69, 3) := by decide +kernel
theorem dRM_thank_89 : decode cRM_thank 89 = .ok (.return_, 1) := by decide +kernel
theorem dRM_learn_0 : decode cRM_learn 0 = .ok (.aload_n 0, 1) := by decide +kernel
theorem dRM_learn_1 : decode cRM_learn 1 = .ok (.getfield 29, 3) := by decide +kernel
theorem dRM_learn_4 : decode cRM_learn 4 = .ok (.iload_n 1, 1) := by decide +kernel
theorem dRM_learn_5 : decode cRM_learn 5 = .ok (.iload_n 2, 1) := by decide +kernel
theorem dRM_learn_6 : decode cRM_learn 6 = .ok (.iastore, 1) := by decide +kernel
theorem dRM_learn_7 : decode cRM_learn 7 = .ok (.aload_n 0, 1) := by decide +kernel
theorem dRM_learn_8 : decode cRM_learn 8 = .ok (.getfield 32, 3) := by decide +kernel
theorem dRM_learn_11 : decode cRM_learn 11 = .ok (.iload_n 1, 1) := by decide +kernel
theorem dRM_learn_12 : decode cRM_learn 12 = .ok (.iload_n 3, 1) := by decide +kernel
theorem dRM_learn_13 : decode cRM_learn 13 = .ok (.iastore, 1) := by decide +kernel
theorem dRM_learn_14 : decode cRM_learn 14 = .ok (.iconst 0, 1) := by decide +kernel
theorem dRM_learn_15 : decode cRM_learn 15 = .ok (.istore 5, 2) := by decide +kernel
theorem dRM_learn_17 : decode cRM_learn 17 = .ok (.iload 5, 2) := by decide +kernel
theorem dRM_learn_19 : decode cRM_learn 19 = .ok (.bipush 16, 2) := by decide +kernel
theorem dRM_learn_21 : decode cRM_learn 21 = .ok (.if_icmp .ge 58, 3) := by decide +kernel
theorem dRM_learn_24 : decode cRM_learn 24 = .ok (.iload 5, 2) := by decide +kernel
theorem dRM_learn_26 : decode cRM_learn 26 = .ok (.iload 4, 2) := by decide +kernel
theorem dRM_learn_28 : decode cRM_learn 28 = .ok (.if_icmp .ne 19, 3) := by decide +kernel
theorem dRM_learn_31 : decode cRM_learn 31 = .ok (.aload_n 0, 1) := by decide +kernel
theorem dRM_learn_32 : decode cRM_learn 32 = .ok (.getfield 26, 3) := by decide +kernel
theorem dRM_learn_35 : decode cRM_learn 35 = .ok (.bipush 64, 2) := by decide +kernel
theorem dRM_learn_37 : decode cRM_learn 37 = .ok (.iload 5, 2) := by decide +kernel
theorem dRM_learn_39 : decode cRM_learn 39 = .ok (.imul, 1) := by decide +kernel
theorem dRM_learn_40 : decode cRM_learn 40 = .ok (.iload_n 1, 1) := by decide +kernel
theorem dRM_learn_41 : decode cRM_learn 41 = .ok (.iadd, 1) := by decide +kernel
theorem dRM_learn_42 : decode cRM_learn 42 = .ok (.iconst (-1), 1) := by decide +kernel
theorem dRM_learn_43 : decode cRM_learn 43 = .ok (.iastore, 1) := by decide +kernel
theorem dRM_learn_44 : decode cRM_learn 44 = .ok (.goto 29, 3) := by decide +kernel
theorem dRM_learn_47 : decode cRM_learn 47 = .ok (.aload_n 0, 1) := by decide +kernel
theorem dRM_learn_48 : decode cRM_learn 48 = .ok (.getfield 23, 3) := by decide +kernel
theorem dRM_learn_51 : decode cRM_learn 51 = .ok (.iload 5, 2) := by decide +kernel
theorem dRM_learn_53 : decode cRM_learn 53 = .ok (.baload, 1) := by decide +kernel
theorem dRM_learn_54 : decode cRM_learn 54 = .ok (.ifCond .eq 19, 3) := by decide +kernel
theorem dRM_learn_57 : decode cRM_learn 57 = .ok (.aload_n 0, 1) := by decide +kernel
theorem dRM_learn_58 : decode cRM_learn 58 = .ok (.getfield 26, 3) := by decide +kernel
theorem dRM_learn_61 : decode cRM_learn 61 = .ok (.bipush 64, 2) := by decide +kernel
theorem dRM_learn_63 : decode cRM_learn 63 = .ok (.iload 5, 2) := by decide +kernel
theorem dRM_learn_65 : decode cRM_learn 65 = .ok (.imul, 1) := by decide +kernel
theorem dRM_learn_66 : decode cRM_learn 66 = .ok (.iload_n 1, 1) := by decide +kernel
theorem dRM_learn_67 : decode cRM_learn 67 = .ok (.iadd, 1) := by decide +kernel
theorem dRM_learn_68 : decode cRM_learn 68 = .ok (.aload_n 0, 1) := by decide +kernel
theorem dRM_learn_69 : decode cRM_learn 69 = .ok (.getfield 66, 3) := by decide +kernel
theorem dRM_learn_72 : decode cRM_learn 72 = .ok (.iastore, 1) := by decide +kernel
theorem dRM_learn_73 : decode cRM_learn 73 = .ok (.iinc 5 1, 3) := by decide +kernel
theorem dRM_learn_76 : decode cRM_learn 76 = .ok (.goto (-59), 3) := by decide +kernel
theorem dRM_learn_79 : decode cRM_learn 79 = .ok (.return_, 1) := by decide +kernel
theorem dRM_thanks_0 : decode cRM_thanks 0 = .ok (.aload_n 0, 1) := by decide +kernel
theorem dRM_thanks_1 : decode cRM_thanks 1 = .ok (.iload_n 3, 1) := by decide +kernel
theorem dRM_thanks_2 : decode cRM_thanks 2 = .ok (.iconst 0, 1) := by decide +kernel
theorem dRM_thanks_3 : decode cRM_thanks 3 = .ok (.bipush 63, 2) := by decide +kernel
theorem dRM_thanks_5 : decode cRM_thanks 5 = .ok (.invokestatic 52, 3) := by decide +kernel
theorem dRM_thanks_8 : decode cRM_thanks 8 = .ok (.ifCond .eq 14, 3) := by decide +kernel
theorem dRM_thanks_11 : decode cRM_thanks 11 = .ok (.iload 4, 2) := by decide +kernel
theorem dRM_thanks_13 : decode cRM_thanks 13 = .ok (.iconst 1, 1) := by decide +kernel
theorem dRM_thanks_14 : decode cRM_thanks 14 = .ok (.ldc 72, 2) := by decide +kernel
theorem dRM_thanks_16 : decode cRM_thanks 16 = .ok (.invokestatic 52, 3) := by decide +kernel
theorem dRM_thanks_19 : decode cRM_thanks 19 = .ok (.ifCond .ne 7, 3) := by decide +kernel
theorem dRM_thanks_22 : decode cRM_thanks 22 = .ok (.iconst 1, 1) := by decide +kernel
theorem dRM_thanks_23 : decode cRM_thanks 23 = .ok (.goto 9, 3) := by decide +kernel
theorem dRM_thanks_26 : decode cRM_thanks 26 = .ok (.aload_n 0, 1) := by decide +kernel
theorem dRM_thanks_27 : decode cRM_thanks 27 = .ok (.iload_n 1, 1) := by decide +kernel
theorem dRM_thanks_28 : decode cRM_thanks 28 = .ok (.iload_n 2, 1) := by decide +kernel
theorem dRM_thanks_29 : decode cRM_thanks 29 = .ok (.invokevirtual 59, 3) := by decide +kernel
theorem dRM_thanks_32 : decode cRM_thanks 32 = .ok (.putfield 45, 3) := by decide +kernel
theorem dRM_thanks_35 : decode cRM_thanks 35 = .ok (.aload_n 0, 1) := by decide +kernel
theorem dRM_thanks_36 : decode cRM_thanks 36 = .ok (.getfield 45, 3) := by decide +kernel
theorem dRM_thanks_39 : decode cRM_thanks 39 = .ok (.ifCond .le 7, 3) := by decide +kernel
theorem dRM_thanks_42 : decode cRM_thanks 42 = .ok (.iconst (-1), 1) := by decide +kernel
theorem dRM_thanks_43 : decode cRM_thanks 43 = .ok (.goto 9, 3) := by decide +kernel
theorem dRM_thanks_46 : decode cRM_thanks 46 = .ok (.aload_n 0, 1) := by decide +kernel
theorem dRM_thanks_47 : decode cRM_thanks 47 = .ok (.iload_n 1, 1) := by decide +kernel
theorem dRM_thanks_48 : decode cRM_thanks 48 = .ok (.iload_n 2, 1) := by decide +kernel
theorem dRM_thanks_49 : decode cRM_thanks 49 = .ok (.invokevirtual 63, 3) := by decide +kernel
theorem dRM_thanks_52 : decode cRM_thanks 52 = .ok (.istore 5, 2) := by decide +kernel
theorem dRM_thanks_54 : decode cRM_thanks 54 = .ok (.iload 5, 2) := by decide +kernel
theorem dRM_thanks_56 : decode cRM_thanks 56 = .ok (.ifCond .lt 14, 3) := by decide +kernel
theorem dRM_thanks_59 : decode cRM_thanks 59 = .ok (.iload 4, 2) := by decide +kernel
theorem dRM_thanks_61 : decode cRM_thanks 61 = .ok (.aload_n 0, 1) := by decide +kernel
theorem dRM_thanks_62 : decode cRM_thanks 62 = .ok (.getfield 29, 3) := by decide +kernel
theorem dRM_thanks_65 : decode cRM_thanks 65 = .ok (.iload_n 3, 1) := by decide +kernel
theorem dRM_thanks_66 : decode cRM_thanks 66 = .ok (.iaload, 1) := by decide +kernel
theorem dRM_thanks_67 : decode cRM_thanks 67 = .ok (.if_icmp .eq 5, 3) := by decide +kernel
theorem dRM_thanks_70 : decode cRM_thanks 70 = .ok (.iconst 0, 1) := by decide +kernel
theorem dRM_thanks_71 : decode cRM_thanks 71 = .ok (.ireturn, 1) := by decide +kernel
theorem dRM_thanks_72 : decode cRM_thanks 72 = .ok (.aload_n 0, 1) := by decide +kernel
theorem dRM_thanks_73 : decode cRM_thanks 73 = .ok (.getfield 26, 3) := by decide +kernel
theorem dRM_thanks_76 : decode cRM_thanks 76 = .ok (.bipush 64, 2) := by decide +kernel
theorem dRM_thanks_78 : decode cRM_thanks 78 = .ok (.iload 5, 2) := by decide +kernel
theorem dRM_thanks_80 : decode cRM_thanks 80 = .ok (.imul, 1) := by decide +kernel
theorem dRM_thanks_81 : decode cRM_thanks 81 = .ok (.iload_n 3, 1) := by decide +kernel
theorem dRM_thanks_82 : decode cRM_thanks 82 = .ok (.iadd, 1) := by decide +kernel
theorem dRM_thanks_83 : decode cRM_thanks 83 = .ok (.iaload, 1) := by decide +kernel
theorem dRM_thanks_84 : decode cRM_thanks 84 = .ok (.ifCond .lt 7, 3) := by decide +kernel
theorem dRM_thanks_87 : decode cRM_thanks 87 = .ok (.iconst 1, 1) := by decide +kernel
theorem dRM_thanks_88 : decode cRM_thanks 88 = .ok (.goto 4, 3) := by decide +kernel
theorem dRM_thanks_91 : decode cRM_thanks 91 = .ok (.iconst 0, 1) := by decide +kernel
theorem dRM_thanks_92 : decode cRM_thanks 92 = .ok (.istore 6, 2) := by decide +kernel
theorem dRM_thanks_94 : decode cRM_thanks 94 = .ok (.aload_n 0, 1) := by decide +kernel
theorem dRM_thanks_95 : decode cRM_thanks 95 = .ok (.getfield 26, 3) := by decide +kernel
theorem dRM_thanks_98 : decode cRM_thanks 98 = .ok (.bipush 64, 2) := by decide +kernel
theorem dRM_thanks_100 : decode cRM_thanks 100 = .ok (.iload 5, 2) := by decide +kernel
theorem dRM_thanks_102 : decode cRM_thanks 102 = .ok (.imul, 1) := by decide +kernel
theorem dRM_thanks_103 : decode cRM_thanks 103 = .ok (.iload_n 3, 1) := by decide +kernel
theorem dRM_thanks_104 : decode cRM_thanks 104 = .ok (.iadd, 1) := by decide +kernel
theorem dRM_thanks_105 : decode cRM_thanks 105 = .ok (.iconst (-1), 1) := by decide +kernel
theorem dRM_thanks_106 : decode cRM_thanks 106 = .ok (.iastore, 1) := by decide +kernel
theorem dRM_thanks_107 : decode cRM_thanks 107 = .ok (.iload 6, 2) := by decide +kernel
theorem dRM_thanks_109 : decode cRM_thanks 109 = .ok (.ireturn, 1) := by decide +kernel
theorem dRM_own_0 : decode cRM_own 0 = .ok (.aload_n 0, 1) := by decide +kernel
theorem dRM_own_1 : decode cRM_own 1 = .ok (.iconst 0, 1) := by decide +kernel
theorem dRM_own_2 : decode cRM_own 2 = .ok (.putfield 45, 3) := by decide +kernel
theorem dRM_own_5 : decode cRM_own 5 = .ok (.aload_n 0, 1) := by decide +kernel
theorem dRM_own_6 : decode cRM_own 6 = .ok (.dup, 1) := by decide +kernel
theorem dRM_own_7 : decode cRM_own 7 = .ok (.getfield 77, 3) := by decide +kernel
theorem dRM_own_10 : decode cRM_own 10 = .ok (.iconst 1, 1) := by decide +kernel
theorem dRM_own_11 : decode cRM_own 11 = .ok (.iadd, 1) := by decide +kernel
theorem dRM_own_12 : decode cRM_own 12 = .ok (.putfield 77, 3) := by decide +kernel
theorem dRM_own_15 : decode cRM_own 15 = .ok (.aload_n 0, 1) := by decide +kernel
theorem dRM_own_16 : decode cRM_own 16 = .ok (.aload_n 0, 1) := by decide +kernel
theorem dRM_own_17 : decode cRM_own 17 = .ok (.getfield 41, 3) := by decide +kernel
theorem dRM_own_20 : decode cRM_own 20 = .ok (.aload_n 0, 1) := by decide +kernel
theorem dRM_own_21 : decode cRM_own 21 = .ok (.getfield 77, 3) := by decide +kernel
theorem dRM_own_24 : decode cRM_own 24 = .ok (.iload_n 1, 1) := by decide +kernel
theorem dRM_own_25 : decode cRM_own 25 = .ok (.iconst (-1), 1) := by decide +kernel
theorem dRM_own_26 : decode cRM_own 26 = .ok (.invokevirtual 80, 3) := by decide +kernel
theorem dRM_own_29 : decode cRM_own 29 = .ok (.aload_n 0, 1) := by decide +kernel
theorem dRM_own_30 : decode cRM_own 30 = .ok (.getfield 77, 3) := by decide +kernel
theorem dRM_own_33 : decode cRM_own 33 = .ok (.ireturn, 1) := by decide +kernel
theorem dRM_forget_0 : decode cRM_forget 0 = .ok (.aload_n 0, 1) := by decide +kernel
theorem dRM_forget_1 : decode cRM_forget 1 = .ok (.iload_n 1, 1) := by decide +kernel
theorem dRM_forget_2 : decode cRM_forget 2 = .ok (.iconst 0, 1) := by decide +kernel
theorem dRM_forget_3 : decode cRM_forget 3 = .ok (.bipush 63, 2) := by decide +kernel
theorem dRM_forget_5 : decode cRM_forget 5 = .ok (.invokestatic 52, 3) := by decide +kernel
theorem dRM_forget_8 : decode cRM_forget 8 = .ok (.ifCond .eq 7, 3) := by decide +kernel
theorem dRM_forget_11 : decode cRM_forget 11 = .ok (.iconst 0, 1) := by decide +kernel
theorem dRM_forget_12 : decode cRM_forget 12 = .ok (.goto 4, 3) := by decide +kernel
theorem dRM_forget_15 : decode cRM_forget 15 = .ok (.iconst 1, 1) := by decide +kernel
theorem dRM_forget_16 : decode cRM_forget 16 = .ok (.putfield 45, 3) := by decide +kernel
theorem dRM_forget_19 : decode cRM_forget 19 = .ok (.aload_n 0, 1) := by decide +kernel
theorem dRM_forget_20 : decode cRM_forget 20 = .ok (.getfield 45, 3) := by decide +kernel
theorem dRM_forget_23 : decode cRM_forget 23 = .ok (.ifCond .le 5, 3) := by decide +kernel
theorem dRM_forget_26 : decode cRM_forget 26 = .ok (.iconst 0, 1) := by decide +kernel
theorem dRM_forget_27 : decode cRM_forget 27 = .ok (.ireturn, 1) := by decide +kernel
theorem dRM_forget_28 : decode cRM_forget 28 = .ok (.aload_n 0, 1) := by decide +kernel
theorem dRM_forget_29 : decode cRM_forget 29 = .ok (.getfield 29, 3) := by decide +kernel
theorem dRM_forget_32 : decode cRM_forget 32 = .ok (.iload_n 1, 1) := by decide +kernel
theorem dRM_forget_33 : decode cRM_forget 33 = .ok (.iaload, 1) := by decide +kernel
theorem dRM_forget_34 : decode cRM_forget 34 = .ok (.ifCond .le 7, 3) := by decide +kernel
theorem dRM_forget_37 : decode cRM_forget 37 = .ok (.iconst 1, 1) := by decide +kernel
theorem dRM_forget_38 : decode cRM_forget 38 = .ok (.goto 4, 3) := by decide +kernel
theorem dRM_forget_41 : decode cRM_forget 41 = .ok (.iconst 0, 1) := by decide +kernel
theorem dRM_forget_42 : decode cRM_forget 42 = .ok (.istore_n 2, 1) := by decide +kernel
theorem dRM_forget_43 : decode cRM_forget 43 = .ok (.aload_n 0, 1) := by decide +kernel
theorem dRM_forget_44 : decode cRM_forget 44 = .ok (.getfield 29, 3) := by decide +kernel
theorem dRM_forget_47 : decode cRM_forget 47 = .ok (.iload_n 1, 1) := by decide +kernel
theorem dRM_forget_48 : decode cRM_forget 48 = .ok (.iconst 0, 1) := by decide +kernel
theorem dRM_forget_49 : decode cRM_forget 49 = .ok (.iastore, 1) := by decide +kernel
theorem dRM_forget_50 : decode cRM_forget 50 = .ok (.aload_n 0, 1) := by decide +kernel
theorem dRM_forget_51 : decode cRM_forget 51 = .ok (.getfield 32, 3) := by decide +kernel
theorem dRM_forget_54 : decode cRM_forget 54 = .ok (.iload_n 1, 1) := by decide +kernel
theorem dRM_forget_55 : decode cRM_forget 55 = .ok (.iconst 0, 1) := by decide +kernel
theorem dRM_forget_56 : decode cRM_forget 56 = .ok (.iastore, 1) := by decide +kernel
theorem dRM_forget_57 : decode cRM_forget 57 = .ok (.iconst 0, 1) := by decide +kernel
theorem dRM_forget_58 : decode cRM_forget 58 = .ok (.istore_n 3, 1) := by decide +kernel
theorem dRM_forget_59 : decode cRM_forget 59 = .ok (.iload_n 3, 1) := by decide +kernel
theorem dRM_forget_60 : decode cRM_forget 60 = .ok (.bipush 16, 2) := by decide +kernel
theorem dRM_forget_62 : decode cRM_forget 62 = .ok (.if_icmp .ge 21, 3) := by decide +kernel
theorem dRM_forget_65 : decode cRM_forget 65 = .ok (.aload_n 0, 1) := by decide +kernel
theorem dRM_forget_66 : decode cRM_forget 66 = .ok (.getfield 26, 3) := by decide +kernel
theorem dRM_forget_69 : decode cRM_forget 69 = .ok (.bipush 64, 2) := by decide +kernel
theorem dRM_forget_71 : decode cRM_forget 71 = .ok (.iload_n 3, 1) := by decide +kernel
theorem dRM_forget_72 : decode cRM_forget 72 = .ok (.imul, 1) := by decide +kernel
theorem dRM_forget_73 : decode cRM_forget 73 = .ok (.iload_n 1, 1) := by decide +kernel
theorem dRM_forget_74 : decode cRM_forget 74 = .ok (.iadd, 1) := by decide +kernel
theorem dRM_forget_75 : decode cRM_forget 75 = .ok (.iconst (-1), 1) := by decide +kernel
theorem dRM_forget_76 : decode cRM_forget 76 = .ok (.iastore, 1) := by decide +kernel
theorem dRM_forget_77 : decode cRM_forget 77 = .ok (.iinc 3 1, 3) := by decide +kernel
theorem dRM_forget_80 : decode cRM_forget 80 = .ok (.goto (-21), 3) := by decide +kernel
theorem dRM_forget_83 : decode cRM_forget 83 = .ok (.iload_n 2, 1) := by decide +kernel
theorem dRM_forget_84 : decode cRM_forget 84 = .ok (.ireturn, 1) := by decide +kernel
theorem dRM_run_0 : decode cRM_run 0 = .ok (.aload_n 0, 1) := by decide +kernel
theorem dRM_run_1 : decode cRM_run 1 = .ok (.iload_n 1, 1) := by decide +kernel
theorem dRM_run_2 : decode cRM_run 2 = .ok (.iconst 1, 1) := by decide +kernel
theorem dRM_run_3 : decode cRM_run 3 = .ok (.sipush 2000, 3) := by decide +kernel
theorem dRM_run_6 : decode cRM_run 6 = .ok (.invokestatic 52, 3) := by decide +kernel
theorem dRM_run_9 : decode cRM_run 9 = .ok (.ifCond .ne 7, 3) := by decide +kernel
theorem dRM_run_12 : decode cRM_run 12 = .ok (.iconst 1, 1) := by decide +kernel
theorem dRM_run_13 : decode cRM_run 13 = .ok (.goto 19, 3) := by decide +kernel
theorem dRM_run_16 : decode cRM_run 16 = .ok (.aload_n 0, 1) := by decide +kernel
theorem dRM_run_17 : decode cRM_run 17 = .ok (.getfield 66, 3) := by decide +kernel
theorem dRM_run_20 : decode cRM_run 20 = .ok (.iload_n 1, 1) := by decide +kernel
theorem dRM_run_21 : decode cRM_run 21 = .ok (.iadd, 1) := by decide +kernel
theorem dRM_run_22 : decode cRM_run 22 = .ok (.ldc 84, 2) := by decide +kernel
theorem dRM_run_24 : decode cRM_run 24 = .ok (.if_icmp .le 7, 3) := by decide +kernel
theorem dRM_run_27 : decode cRM_run 27 = .ok (.iconst 2, 1) := by decide +kernel
theorem dRM_run_28 : decode cRM_run 28 = .ok (.goto 4, 3) := by decide +kernel
theorem dRM_run_31 : decode cRM_run 31 = .ok (.iconst 0, 1) := by decide +kernel
theorem dRM_run_32 : decode cRM_run 32 = .ok (.putfield 45, 3) := by decide +kernel
theorem dRM_run_35 : decode cRM_run 35 = .ok (.aload_n 0, 1) := by decide +kernel
theorem dRM_run_36 : decode cRM_run 36 = .ok (.getfield 45, 3) := by decide +kernel
theorem dRM_run_39 : decode cRM_run 39 = .ok (.ifCond .le 5, 3) := by decide +kernel
theorem dRM_run_42 : decode cRM_run 42 = .ok (.iconst 0, 1) := by decide +kernel
theorem dRM_run_43 : decode cRM_run 43 = .ok (.ireturn, 1) := by decide +kernel
theorem dRM_run_44 : decode cRM_run 44 = .ok (.iconst 0, 1) := by decide +kernel
theorem dRM_run_45 : decode cRM_run 45 = .ok (.istore_n 2, 1) := by decide +kernel
theorem dRM_run_46 : decode cRM_run 46 = .ok (.iload_n 2, 1) := by decide +kernel
theorem dRM_run_47 : decode cRM_run 47 = .ok (.iload_n 1, 1) := by decide +kernel
theorem dRM_run_48 : decode cRM_run 48 = .ok (.if_icmp .ge 116, 3) := by decide +kernel
theorem dRM_run_51 : decode cRM_run 51 = .ok (.aload_n 0, 1) := by decide +kernel
theorem dRM_run_52 : decode cRM_run 52 = .ok (.dup, 1) := by decide +kernel
theorem dRM_run_53 : decode cRM_run 53 = .ok (.getfield 66, 3) := by decide +kernel
theorem dRM_run_56 : decode cRM_run 56 = .ok (.iconst 1, 1) := by decide +kernel
theorem dRM_run_57 : decode cRM_run 57 = .ok (.iadd, 1) := by decide +kernel
theorem dRM_run_58 : decode cRM_run 58 = .ok (.putfield 66, 3) := by decide +kernel
theorem dRM_run_61 : decode cRM_run 61 = .ok (.iconst 0, 1) := by decide +kernel
theorem dRM_run_62 : decode cRM_run 62 = .ok (.istore_n 3, 1) := by decide +kernel
theorem dRM_run_63 : decode cRM_run 63 = .ok (.iload_n 3, 1) := by decide +kernel
theorem dRM_run_64 : decode cRM_run 64 = .ok (.bipush 8, 2) := by decide +kernel
theorem dRM_run_66 : decode cRM_run 66 = .ok (.if_icmp .ge 48, 3) := by decide +kernel
theorem dRM_run_69 : decode cRM_run 69 = .ok (.aload_n 0, 1) := by decide +kernel
theorem dRM_run_70 : decode cRM_run 70 = .ok (.getfield 13, 3) := by decide +kernel
theorem dRM_run_73 : decode cRM_run 73 = .ok (.iload_n 3, 1) := by decide +kernel
theorem dRM_run_74 : decode cRM_run 74 = .ok (.aload_n 0, 1) := by decide +kernel
theorem dRM_run_75 : decode cRM_run 75 = .ok (.getfield 13, 3) := by decide +kernel
theorem dRM_run_78 : decode cRM_run 78 = .ok (.iload_n 3, 1) := by decide +kernel
theorem dRM_run_79 : decode cRM_run 79 = .ok (.baload, 1) := by decide +kernel
theorem dRM_run_80 : decode cRM_run 80 = .ok (.ifCond .ne 22, 3) := by decide +kernel
theorem dRM_run_83 : decode cRM_run 83 = .ok (.aload_n 0, 1) := by decide +kernel
theorem dRM_run_84 : decode cRM_run 84 = .ok (.getfield 7, 3) := by decide +kernel
theorem dRM_run_87 : decode cRM_run 87 = .ok (.iload_n 3, 1) := by decide +kernel
theorem dRM_run_88 : decode cRM_run 88 = .ok (.baload, 1) := by decide +kernel
theorem dRM_run_89 : decode cRM_run 89 = .ok (.ifCond .eq 17, 3) := by decide +kernel
theorem dRM_run_92 : decode cRM_run 92 = .ok (.aload_n 0, 1) := by decide +kernel
theorem dRM_run_93 : decode cRM_run 93 = .ok (.getfield 66, 3) := by decide +kernel
theorem dRM_run_96 : decode cRM_run 96 = .ok (.bipush 20, 2) := by decide +kernel
theorem dRM_run_98 : decode cRM_run 98 = .ok (.irem, 1) := by decide +kernel
theorem dRM_run_99 : decode cRM_run 99 = .ok (.ifCond .ne 7, 3) := by decide +kernel
theorem dRM_run_102 : decode cRM_run 102 = .ok (.iconst 1, 1) := by decide +kernel
theorem dRM_run_103 : decode cRM_run 103 = .ok (.goto 4, 3) := by decide +kernel
theorem dRM_run_106 : decode cRM_run 106 = .ok (.iconst 0, 1) := by decide +kernel
theorem dRM_run_107 : decode cRM_run 107 = .ok (.bastore, 1) := by decide +kernel
theorem dRM_run_108 : decode cRM_run 108 = .ok (.iinc 3 1, 3) := by decide +kernel
theorem dRM_run_111 : decode cRM_run 111 = .ok (.goto (-48), 3) := by decide +kernel
theorem dRM_run_114 : decode cRM_run 114 = .ok (.iconst 0, 1) := by decide +kernel
theorem dRM_run_115 : decode cRM_run 115 = .ok (.istore_n 3, 1) := by decide +kernel
theorem dRM_run_116 : decode cRM_run 116 = .ok (.iload_n 3, 1) := by decide +kernel
theorem dRM_run_117 : decode cRM_run 117 = .ok (.bipush 16, 2) := by decide +kernel
theorem dRM_run_119 : decode cRM_run 119 = .ok (.if_icmp .ge 39, 3) := by decide +kernel
theorem dRM_run_122 : decode cRM_run 122 = .ok (.aload_n 0, 1) := by decide +kernel
theorem dRM_run_123 : decode cRM_run 123 = .ok (.getfield 16, 3) := by decide +kernel
theorem dRM_run_126 : decode cRM_run 126 = .ok (.iload_n 3, 1) := by decide +kernel
theorem dRM_run_127 : decode cRM_run 127 = .ok (.iaload, 1) := by decide +kernel
theorem dRM_run_128 : decode cRM_run 128 = .ok (.ifCond .lt 24, 3) := by decide +kernel
theorem dRM_run_131 : decode cRM_run 131 = .ok (.aload_n 0, 1) := by decide +kernel
theorem dRM_run_132 : decode cRM_run 132 = .ok (.getfield 66, 3) := by decide +kernel
theorem dRM_run_135 : decode cRM_run 135 = .ok (.aload_n 0, 1) := by decide +kernel
theorem dRM_run_136 : decode cRM_run 136 = .ok (.getfield 20, 3) := by decide +kernel
theorem dRM_run_139 : decode cRM_run 139 = .ok (.iload_n 3, 1) := by decide +kernel
theorem dRM_run_140 : decode cRM_run 140 = .ok (.iaload, 1) := by decide +kernel
theorem dRM_run_141 : decode cRM_run 141 = .ok (.isub, 1) := by decide +kernel
theorem dRM_run_142 : decode cRM_run 142 = .ok (.bipush 80, 2) := by decide +kernel
theorem dRM_run_144 : decode cRM_run 144 = .ok (.if_icmp .lt 8, 3) := by decide +kernel
theorem dRM_run_147 : decode cRM_run 147 = .ok (.aload_n 0, 1) := by decide +kernel
theorem dRM_run_148 : decode cRM_run 148 = .ok (.iload_n 3, 1) := by decide +kernel
theorem dRM_run_149 : decode cRM_run 149 = .ok (.invokevirtual 56, 3) := by decide +kernel
theorem dRM_run_152 : decode cRM_run 152 = .ok (.iinc 3 1, 3) := by decide +kernel
theorem dRM_run_155 : decode cRM_run 155 = .ok (.goto (-39), 3) := by decide +kernel
theorem dRM_run_158 : decode cRM_run 158 = .ok (.iinc 2 1, 3) := by decide +kernel
theorem dRM_run_161 : decode cRM_run 161 = .ok (.goto (-115), 3) := by decide +kernel
theorem dRM_run_164 : decode cRM_run 164 = .ok (.aload_n 0, 1) := by decide +kernel
theorem dRM_run_165 : decode cRM_run 165 = .ok (.getfield 66, 3) := by decide +kernel
theorem dRM_run_168 : decode cRM_run 168 = .ok (.ireturn, 1) := by decide +kernel
theorem dRM_next_0 : decode cRM_next 0 = .ok (.aload_n 0, 1) := by decide +kernel
theorem dRM_next_1 : decode cRM_next 1 = .ok (.iconst 0, 1) := by decide +kernel
theorem dRM_next_2 : decode cRM_next 2 = .ok (.putfield 45, 3) := by decide +kernel
theorem dRM_next_5 : decode cRM_next 5 = .ok (.iconst 0, 1) := by decide +kernel
theorem dRM_next_6 : decode cRM_next 6 = .ok (.istore_n 1, 1) := by decide +kernel
theorem dRM_next_7 : decode cRM_next 7 = .ok (.iload_n 1, 1) := by decide +kernel
theorem dRM_next_8 : decode cRM_next 8 = .ok (.bipush 8, 2) := by decide +kernel
theorem dRM_next_10 : decode cRM_next 10 = .ok (.if_icmp .ge 25, 3) := by decide +kernel
theorem dRM_next_13 : decode cRM_next 13 = .ok (.aload_n 0, 1) := by decide +kernel
theorem dRM_next_14 : decode cRM_next 14 = .ok (.getfield 13, 3) := by decide +kernel
theorem dRM_next_17 : decode cRM_next 17 = .ok (.iload_n 1, 1) := by decide +kernel
theorem dRM_next_18 : decode cRM_next 18 = .ok (.baload, 1) := by decide +kernel
theorem dRM_next_19 : decode cRM_next 19 = .ok (.ifCond .eq 10, 3) := by decide +kernel
theorem dRM_next_22 : decode cRM_next 22 = .ok (.aload_n 0, 1) := by decide +kernel
theorem dRM_next_23 : decode cRM_next 23 = .ok (.iload_n 1, 1) := by decide +kernel
theorem dRM_next_24 : decode cRM_next 24 = .ok (.invokevirtual 93, 3) := by decide +kernel
theorem dRM_next_27 : decode cRM_next 27 = .ok (.iconst 1, 1) := by decide +kernel
theorem dRM_next_28 : decode cRM_next 28 = .ok (.ireturn, 1) := by decide +kernel
theorem dRM_next_29 : decode cRM_next 29 = .ok (.iinc 1 1, 3) := by decide +kernel
theorem dRM_next_32 : decode cRM_next 32 = .ok (.goto (-25), 3) := by decide +kernel
theorem dRM_next_35 : decode cRM_next 35 = .ok (.aload_n 0, 1) := by decide +kernel
theorem dRM_next_36 : decode cRM_next 36 = .ok (.getfield 69, 3) := by decide +kernel
theorem dRM_next_39 : decode cRM_next 39 = .ok (.ifCond .le 77, 3) := by decide +kernel
theorem dRM_next_42 : decode cRM_next 42 = .ok (.aload_n 0, 1) := by decide +kernel
theorem dRM_next_43 : decode cRM_next 43 = .ok (.iconst 2, 1) := by decide +kernel
theorem dRM_next_44 : decode cRM_next 44 = .ok (.aload_n 0, 1) := by decide +kernel
theorem dRM_next_45 : decode cRM_next 45 = .ok (.getfield 35, 3) := by decide +kernel
theorem dRM_next_48 : decode cRM_next 48 = .ok (.iconst 0, 1) := by decide +kernel
theorem dRM_next_49 : decode cRM_next 49 = .ok (.iaload, 1) := by decide +kernel
theorem dRM_next_50 : decode cRM_next 50 = .ok (.aload_n 0, 1) := by decide +kernel
theorem dRM_next_51 : decode cRM_next 51 = .ok (.getfield 35, 3) := by decide +kernel
theorem dRM_next_54 : decode cRM_next 54 = .ok (.iconst 1, 1) := by decide +kernel
theorem dRM_next_55 : decode cRM_next 55 = .ok (.iaload, 1) := by decide +kernel
theorem dRM_next_56 : decode cRM_next 56 = .ok (.aload_n 0, 1) := by decide +kernel
theorem dRM_next_57 : decode cRM_next 57 = .ok (.getfield 35, 3) := by decide +kernel
theorem dRM_next_60 : decode cRM_next 60 = .ok (.iconst 2, 1) := by decide +kernel
theorem dRM_next_61 : decode cRM_next 61 = .ok (.iaload, 1) := by decide +kernel
theorem dRM_next_62 : decode cRM_next 62 = .ok (.aload_n 0, 1) := by decide +kernel
theorem dRM_next_63 : decode cRM_next 63 = .ok (.getfield 35, 3) := by decide +kernel
theorem dRM_next_66 : decode cRM_next 66 = .ok (.iconst 3, 1) := by decide +kernel
theorem dRM_next_67 : decode cRM_next 67 = .ok (.iaload, 1) := by decide +kernel
theorem dRM_next_68 : decode cRM_next 68 = .ok (.iconst 0, 1) := by decide +kernel
theorem dRM_next_69 : decode cRM_next 69 = .ok (.invokevirtual 89, 3) := by decide +kernel
theorem dRM_next_72 : decode cRM_next 72 = .ok (.aload_n 0, 1) := by decide +kernel
theorem dRM_next_73 : decode cRM_next 73 = .ok (.dup, 1) := by decide +kernel
theorem dRM_next_74 : decode cRM_next 74 = .ok (.getfield 69, 3) := by decide +kernel
theorem dRM_next_77 : decode cRM_next 77 = .ok (.iconst 1, 1) := by decide +kernel
theorem dRM_next_78 : decode cRM_next 78 = .ok (.isub, 1) := by decide +kernel
theorem dRM_next_79 : decode cRM_next 79 = .ok (.putfield 69, 3) := by decide +kernel
theorem dRM_next_82 : decode cRM_next 82 = .ok (.iconst 0, 1) := by decide +kernel
theorem dRM_next_83 : decode cRM_next 83 = .ok (.istore_n 1, 1) := by decide +kernel
theorem dRM_next_84 : decode cRM_next 84 = .ok (.iload_n 1, 1) := by decide +kernel
theorem dRM_next_85 : decode cRM_next 85 = .ok (.iconst 4, 1) := by decide +kernel
theorem dRM_next_86 : decode cRM_next 86 = .ok (.aload_n 0, 1) := by decide +kernel
theorem dRM_next_87 : decode cRM_next 87 = .ok (.getfield 69, 3) := by decide +kernel
theorem dRM_next_90 : decode cRM_next 90 = .ok (.imul, 1) := by decide +kernel
theorem dRM_next_91 : decode cRM_next 91 = .ok (.if_icmp .ge 23, 3) := by decide +kernel
theorem dRM_next_94 : decode cRM_next 94 = .ok (.aload_n 0, 1) := by decide +kernel
theorem dRM_next_95 : decode cRM_next 95 = .ok (.getfield 35, 3) := by decide +kernel
theorem dRM_next_98 : decode cRM_next 98 = .ok (.iload_n 1, 1) := by decide +kernel
theorem dRM_next_99 : decode cRM_next 99 = .ok (.aload_n 0, 1) := by decide +kernel
theorem dRM_next_100 : decode cRM_next 100 = .ok (.getfield 35, 3) := by decide +kernel
theorem dRM_next_103 : decode cRM_next 103 = .ok (.iload_n 1, 1) := by decide +kernel
theorem dRM_next_104 : decode cRM_next 104 = .ok (.iconst 4, 1) := by decide +kernel
theorem dRM_next_105 : decode cRM_next 105 = .ok (.iadd, 1) := by decide +kernel
theorem dRM_next_106 : decode cRM_next 106 = .ok (.iaload, 1) := by decide +kernel
theorem dRM_next_107 : decode cRM_next 107 = .ok (.iastore, 1) := by decide +kernel
theorem dRM_next_108 : decode cRM_next 108 = .ok (.iinc 1 1, 3) := by decide +kernel
theorem dRM_next_111 : decode cRM_next 111 = .ok (.goto (-27), 3) := by decide +kernel
theorem dRM_next_114 : decode cRM_next 114 = .ok (.iconst 1, 1) := by decide +kernel
theorem dRM_next_115 : decode cRM_next 115 = .ok (.ireturn, 1) := by decide +kernel
theorem dRM_next_116 : decode cRM_next 116 = .ok (.aload_n 0, 1) := by decide +kernel
theorem dRM_next_117 : decode cRM_next 117 = .ok (.invokevirtual 96, 3) := by decide +kernel
theorem dRM_next_120 : decode cRM_next 120 = .ok (.istore_n 1, 1) := by decide +kernel
theorem dRM_next_121 : decode cRM_next 121 = .ok (.iload_n 1, 1) := by decide +kernel
theorem dRM_next_122 : decode cRM_next 122 = .ok (.ifCond .ge 5, 3) := by decide +kernel
theorem dRM_next_125 : decode cRM_next 125 = .ok (.iconst 0, 1) := by decide +kernel
theorem dRM_next_126 : decode cRM_next 126 = .ok (.ireturn, 1) := by decide +kernel
theorem dRM_next_127 : decode cRM_next 127 = .ok (.iload_n 1, 1) := by decide +kernel
theorem dRM_next_128 : decode cRM_next 128 = .ok (.sipush 1024, 3) := by decide +kernel
theorem dRM_next_131 : decode cRM_next 131 = .ok (.irem, 1) := by decide +kernel
theorem dRM_next_132 : decode cRM_next 132 = .ok (.istore_n 2, 1) := by decide +kernel
theorem dRM_next_133 : decode cRM_next 133 = .ok (.iload_n 2, 1) := by decide +kernel
theorem dRM_next_134 : decode cRM_next 134 = .ok (.bipush 64, 2) := by decide +kernel
theorem dRM_next_136 : decode cRM_next 136 = .ok (.irem, 1) := by decide +kernel
theorem dRM_next_137 : decode cRM_next 137 = .ok (.istore_n 3, 1) := by decide +kernel
theorem dRM_next_138 : decode cRM_next 138 = .ok (.aload_n 0, 1) := by decide +kernel
theorem dRM_next_139 : decode cRM_next 139 = .ok (.getfield 26, 3) := by decide +kernel
theorem dRM_next_142 : decode cRM_next 142 = .ok (.iload_n 2, 1) := by decide +kernel
theorem dRM_next_143 : decode cRM_next 143 = .ok (.aload_n 0, 1) := by decide +kernel
theorem dRM_next_144 : decode cRM_next 144 = .ok (.getfield 66, 3) := by decide +kernel
theorem dRM_next_147 : decode cRM_next 147 = .ok (.bipush 15, 2) := by decide +kernel
theorem dRM_next_149 : decode cRM_next 149 = .ok (.iadd, 1) := by decide +kernel
theorem dRM_next_150 : decode cRM_next 150 = .ok (.iastore, 1) := by decide +kernel
theorem dRM_next_151 : decode cRM_next 151 = .ok (.aload_n 0, 1) := by decide +kernel
theorem dRM_next_152 : decode cRM_next 152 = .ok (.iconst 3, 1) := by decide +kernel
theorem dRM_next_153 : decode cRM_next 153 = .ok (.aload_n 0, 1) := by decide +kernel
theorem dRM_next_154 : decode cRM_next 154 = .ok (.getfield 16, 3) := by decide +kernel
theorem dRM_next_157 : decode cRM_next 157 = .ok (.iload_n 2, 1) := by decide +kernel
theorem dRM_next_158 : decode cRM_next 158 = .ok (.bipush 64, 2) := by decide +kernel
theorem dRM_next_160 : decode cRM_next 160 = .ok (.idiv, 1) := by decide +kernel
theorem dRM_next_161 : decode cRM_next 161 = .ok (.iaload, 1) := by decide +kernel
theorem dRM_next_162 : decode cRM_next 162 = .ok (.bipush 64, 2) := by decide +kernel
theorem dRM_next_164 : decode cRM_next 164 = .ok (.idiv, 1) := by decide +kernel
theorem dRM_next_165 : decode cRM_next 165 = .ok (.aload_n 0, 1) := by decide +kernel
theorem dRM_next_166 : decode cRM_next 166 = .ok (.getfield 16, 3) := by decide +kernel
theorem dRM_next_169 : decode cRM_next 169 = .ok (.iload_n 2, 1) := by decide +kernel
theorem dRM_next_170 : decode cRM_next 170 = .ok (.bipush 64, 2) := by decide +kernel
theorem dRM_next_172 : decode cRM_next 172 = .ok (.idiv, 1) := by decide +kernel
theorem dRM_next_173 : decode cRM_next 173 = .ok (.iaload, 1) := by decide +kernel
theorem dRM_next_174 : decode cRM_next 174 = .ok (.bipush 64, 2) := by decide +kernel
theorem dRM_next_176 : decode cRM_next 176 = .ok (.irem, 1) := by decide +kernel
theorem dRM_next_177 : decode cRM_next 177 = .ok (.iload_n 3, 1) := by decide +kernel
theorem dRM_next_178 : decode cRM_next 178 = .ok (.aload_n 0, 1) := by decide +kernel
theorem dRM_next_179 : decode cRM_next 179 = .ok (.getfield 29, 3) := by decide +kernel
theorem dRM_next_182 : decode cRM_next 182 = .ok (.iload_n 3, 1) := by decide +kernel
theorem dRM_next_183 : decode cRM_next 183 = .ok (.iaload, 1) := by decide +kernel
theorem dRM_next_184 : decode cRM_next 184 = .ok (.aload_n 0, 1) := by decide +kernel
theorem dRM_next_185 : decode cRM_next 185 = .ok (.getfield 32, 3) := by decide +kernel
theorem dRM_next_188 : decode cRM_next 188 = .ok (.iload_n 3, 1) := by decide +kernel
theorem dRM_next_189 : decode cRM_next 189 = .ok (.iaload, 1) := by decide +kernel
theorem dRM_next_190 : decode cRM_next 190 = .ok (.invokevirtual 89, 3) := by decide +kernel
theorem dRM_next_193 : decode cRM_next 193 = .ok (.iconst 1, 1) := by decide +kernel
theorem dRM_next_194 : decode cRM_next 194 = .ok (.ireturn, 1) := by decide +kernel
theorem dRM_greet_0 : decode cRM_greet 0 = .ok (.aload_n 0, 1) := by decide +kernel
theorem dRM_greet_1 : decode cRM_greet 1 = .ok (.getfield 13, 3) := by decide +kernel
theorem dRM_greet_4 : decode cRM_greet 4 = .ok (.iload_n 1, 1) := by decide +kernel
theorem dRM_greet_5 : decode cRM_greet 5 = .ok (.iconst 0, 1) := by decide +kernel
theorem dRM_greet_6 : decode cRM_greet 6 = .ok (.bastore, 1) := by decide +kernel
theorem dRM_greet_7 : decode cRM_greet 7 = .ok (.aload_n 0, 1) := by decide +kernel
theorem dRM_greet_8 : decode cRM_greet 8 = .ok (.iconst 1, 1) := by decide +kernel
theorem dRM_greet_9 : decode cRM_greet 9 = .ok (.iload_n 1, 1) := by decide +kernel
theorem dRM_greet_10 : decode cRM_greet 10 = .ok (.iconst (-1), 1) := by decide +kernel
theorem dRM_greet_11 : decode cRM_greet 11 = .ok (.iconst (-1), 1) := by decide +kernel
theorem dRM_greet_12 : decode cRM_greet 12 = .ok (.iconst 0, 1) := by decide +kernel
theorem dRM_greet_13 : decode cRM_greet 13 = .ok (.iconst 0, 1) := by decide +kernel
theorem dRM_greet_14 : decode cRM_greet 14 = .ok (.invokevirtual 89, 3) := by decide +kernel
theorem dRM_greet_17 : decode cRM_greet 17 = .ok (.iconst 0, 1) := by decide +kernel
theorem dRM_greet_18 : decode cRM_greet 18 = .ok (.istore_n 2, 1) := by decide +kernel
theorem dRM_greet_19 : decode cRM_greet 19 = .ok (.iload_n 2, 1) := by decide +kernel
theorem dRM_greet_20 : decode cRM_greet 20 = .ok (.bipush 16, 2) := by decide +kernel
theorem dRM_greet_22 : decode cRM_greet 22 = .ok (.if_icmp .ge 55, 3) := by decide +kernel
theorem dRM_greet_25 : decode cRM_greet 25 = .ok (.aload_n 0, 1) := by decide +kernel
theorem dRM_greet_26 : decode cRM_greet 26 = .ok (.dup, 1) := by decide +kernel
theorem dRM_greet_27 : decode cRM_greet 27 = .ok (.getfield 85, 3) := by decide +kernel
theorem dRM_greet_30 : decode cRM_greet 30 = .ok (.aload_n 0, 1) := by decide +kernel
theorem dRM_greet_31 : decode cRM_greet 31 = .ok (.getfield 16, 3) := by decide +kernel
theorem dRM_greet_34 : decode cRM_greet 34 = .ok (.iload_n 2, 1) := by decide +kernel
theorem dRM_greet_35 : decode cRM_greet 35 = .ok (.iaload, 1) := by decide +kernel
theorem dRM_greet_36 : decode cRM_greet 36 = .ok (.ifCond .lt 30, 3) := by decide +kernel
theorem dRM_greet_39 : decode cRM_greet 39 = .ok (.aload_n 0, 1) := by decide +kernel
theorem dRM_greet_40 : decode cRM_greet 40 = .ok (.getfield 16, 3) := by decide +kernel
theorem dRM_greet_43 : decode cRM_greet 43 = .ok (.iload_n 2, 1) := by decide +kernel
theorem dRM_greet_44 : decode cRM_greet 44 = .ok (.iaload, 1) := by decide +kernel
theorem dRM_greet_45 : decode cRM_greet 45 = .ok (.bipush 64, 2) := by decide +kernel
theorem dRM_greet_47 : decode cRM_greet 47 = .ok (.idiv, 1) := by decide +kernel
theorem dRM_greet_48 : decode cRM_greet 48 = .ok (.iload_n 1, 1) := by decide +kernel
theorem dRM_greet_49 : decode cRM_greet 49 = .ok (.if_icmp .ne 17, 3) := by decide +kernel
theorem dRM_greet_52 : decode cRM_greet 52 = .ok (.lconst 1, 1) := by decide +kernel
theorem dRM_greet_53 : decode cRM_greet 53 = .ok (.aload_n 0, 1) := by decide +kernel
theorem dRM_greet_54 : decode cRM_greet 54 = .ok (.getfield 16, 3) := by decide +kernel
theorem dRM_greet_57 : decode cRM_greet 57 = .ok (.iload_n 2, 1) := by decide +kernel
theorem dRM_greet_58 : decode cRM_greet 58 = .ok (.iaload, 1) := by decide +kernel
theorem dRM_greet_59 : decode cRM_greet 59 = .ok (.bipush 64, 2) := by decide +kernel
theorem dRM_greet_61 : decode cRM_greet 61 = .ok (.irem, 1) := by decide +kernel
theorem dRM_greet_62 : decode cRM_greet 62 = .ok (.lshl, 1) := by decide +kernel
theorem dRM_greet_63 : decode cRM_greet 63 = .ok (.goto 4, 3) := by decide +kernel
theorem dRM_greet_66 : decode cRM_greet 66 = .ok (.lconst 0, 1) := by decide +kernel
theorem dRM_greet_67 : decode cRM_greet 67 = .ok (.lor, 1) := by decide +kernel
theorem dRM_greet_68 : decode cRM_greet 68 = .ok (.putfield 85, 3) := by decide +kernel
theorem dRM_greet_71 : decode cRM_greet 71 = .ok (.iinc 2 1, 3) := by decide +kernel
theorem dRM_greet_74 : decode cRM_greet 74 = .ok (.goto (-55), 3) := by decide +kernel
theorem dRM_greet_77 : decode cRM_greet 77 = .ok (.return_, 1) := by decide +kernel
theorem dRM_make_0 : decode cRM_make 0 = .ok (.aload_n 0, 1) := by decide +kernel
theorem dRM_make_1 : decode cRM_make 1 = .ok (.getfield 38, 3) := by decide +kernel
theorem dRM_make_4 : decode cRM_make 4 = .ok (.iconst 0, 1) := by decide +kernel
theorem dRM_make_5 : decode cRM_make 5 = .ok (.iload_n 1, 1) := by decide +kernel
theorem dRM_make_6 : decode cRM_make 6 = .ok (.iastore, 1) := by decide +kernel
theorem dRM_make_7 : decode cRM_make 7 = .ok (.aload_n 0, 1) := by decide +kernel
theorem dRM_make_8 : decode cRM_make 8 = .ok (.getfield 38, 3) := by decide +kernel
theorem dRM_make_11 : decode cRM_make 11 = .ok (.iconst 1, 1) := by decide +kernel
theorem dRM_make_12 : decode cRM_make 12 = .ok (.iload_n 2, 1) := by decide +kernel
theorem dRM_make_13 : decode cRM_make 13 = .ok (.iastore, 1) := by decide +kernel
theorem dRM_make_14 : decode cRM_make 14 = .ok (.aload_n 0, 1) := by decide +kernel
theorem dRM_make_15 : decode cRM_make 15 = .ok (.getfield 38, 3) := by decide +kernel
theorem dRM_make_18 : decode cRM_make 18 = .ok (.iconst 2, 1) := by decide +kernel
theorem dRM_make_19 : decode cRM_make 19 = .ok (.iload_n 3, 1) := by decide +kernel
theorem dRM_make_20 : decode cRM_make 20 = .ok (.iastore, 1) := by decide +kernel
theorem dRM_make_21 : decode cRM_make 21 = .ok (.aload_n 0, 1) := by decide +kernel
theorem dRM_make_22 : decode cRM_make 22 = .ok (.getfield 38, 3) := by decide +kernel
theorem dRM_make_25 : decode cRM_make 25 = .ok (.iconst 3, 1) := by decide +kernel
theorem dRM_make_26 : decode cRM_make 26 = .ok (.iload 4, 2) := by decide +kernel
theorem dRM_make_28 : decode cRM_make 28 = .ok (.iastore, 1) := by decide +kernel
theorem dRM_make_29 : decode cRM_make 29 = .ok (.aload_n 0, 1) := by decide +kernel
theorem dRM_make_30 : decode cRM_make 30 = .ok (.getfield 38, 3) := by decide +kernel
theorem dRM_make_33 : decode cRM_make 33 = .ok (.iconst 4, 1) := by decide +kernel
theorem dRM_make_34 : decode cRM_make 34 = .ok (.iload 5, 2) := by decide +kernel
theorem dRM_make_36 : decode cRM_make 36 = .ok (.iastore, 1) := by decide +kernel
theorem dRM_make_37 : decode cRM_make 37 = .ok (.aload_n 0, 1) := by decide +kernel
theorem dRM_make_38 : decode cRM_make 38 = .ok (.getfield 38, 3) := by decide +kernel
theorem dRM_make_41 : decode cRM_make 41 = .ok (.iconst 5, 1) := by decide +kernel
theorem dRM_make_42 : decode cRM_make 42 = .ok (.iload 6, 2) := by decide +kernel
theorem dRM_make_44 : decode cRM_make 44 = .ok (.iastore, 1) := by decide +kernel
theorem dRM_make_45 : decode cRM_make 45 = .ok (.aload_n 0, 1) := by decide +kernel
theorem dRM_make_46 : decode cRM_make 46 = .ok (.lconst 0, 1) := by decide +kernel
theorem dRM_make_47 : decode cRM_make 47 = .ok (.putfield 85, 3) := by decide +kernel
theorem dRM_make_50 : decode cRM_make 50 = .ok (.return_, 1) := by decide +kernel
theorem dRM_firstAdvert_0 : decode cRM_firstAdvert 0 = .ok (.iconst (-1), 1) := by decide +kernel
theorem dRM_firstAdvert_1 : decode cRM_firstAdvert 1 = .ok (.istore_n 1, 1) := by decide +kernel
theorem dRM_firstAdvert_2 : decode cRM_firstAdvert 2 = .ok (.iconst 0, 1) := by decide +kernel
theorem dRM_firstAdvert_3 : decode cRM_firstAdvert 3 = .ok (.istore_n 2, 1) := by decide +kernel
theorem dRM_firstAdvert_4 : decode cRM_firstAdvert 4 = .ok (.iload_n 2, 1) := by decide +kernel
theorem dRM_firstAdvert_5 : decode cRM_firstAdvert 5 = .ok (.bipush 16, 2) := by decide +kernel
theorem dRM_firstAdvert_7 : decode cRM_firstAdvert 7 = .ok (.if_icmp .ge 102, 3) := by decide +kernel
theorem dRM_firstAdvert_10 : decode cRM_firstAdvert 10 = .ok (.bipush 63, 2) := by decide +kernel
theorem dRM_firstAdvert_12 : decode cRM_firstAdvert 12 = .ok (.istore_n 3, 1) := by decide +kernel
theorem dRM_firstAdvert_13 : decode cRM_firstAdvert 13 = .ok (.iload_n 3, 1) := by decide +kernel
theorem dRM_firstAdvert_14 : decode cRM_firstAdvert 14 = .ok (.ifCond .lt 89, 3) := by decide +kernel
theorem dRM_firstAdvert_17 : decode cRM_firstAdvert 17 = .ok (.aload_n 0, 1) := by decide +kernel
theorem dRM_firstAdvert_18 : decode cRM_firstAdvert 18 = .ok (.getfield 26, 3) := by decide +kernel
theorem dRM_firstAdvert_21 : decode cRM_firstAdvert 21 = .ok (.bipush 64, 2) := by decide +kernel
theorem dRM_firstAdvert_23 : decode cRM_firstAdvert 23 = .ok (.iload_n 2, 1) := by decide +kernel
theorem dRM_firstAdvert_24 : decode cRM_firstAdvert 24 = .ok (.imul, 1) := by decide +kernel
theorem dRM_firstAdvert_25 : decode cRM_firstAdvert 25 = .ok (.iload_n 3, 1) := by decide +kernel
theorem dRM_firstAdvert_26 : decode cRM_firstAdvert 26 = .ok (.iadd, 1) := by decide +kernel
theorem dRM_firstAdvert_27 : decode cRM_firstAdvert 27 = .ok (.iaload, 1) := by decide +kernel
theorem dRM_firstAdvert_28 : decode cRM_firstAdvert 28 = .ok (.ifCond .lt 25, 3) := by decide +kernel
theorem dRM_firstAdvert_31 : decode cRM_firstAdvert 31 = .ok (.aload_n 0, 1) := by decide +kernel
theorem dRM_firstAdvert_32 : decode cRM_firstAdvert 32 = .ok (.getfield 26, 3) := by decide +kernel
theorem dRM_firstAdvert_35 : decode cRM_firstAdvert 35 = .ok (.bipush 64, 2) := by decide +kernel
theorem dRM_firstAdvert_37 : decode cRM_firstAdvert 37 = .ok (.iload_n 2, 1) := by decide +kernel
theorem dRM_firstAdvert_38 : decode cRM_firstAdvert 38 = .ok (.imul, 1) := by decide +kernel
theorem dRM_firstAdvert_39 : decode cRM_firstAdvert 39 = .ok (.iload_n 3, 1) := by decide +kernel
theorem dRM_firstAdvert_40 : decode cRM_firstAdvert 40 = .ok (.iadd, 1) := by decide +kernel
theorem dRM_firstAdvert_41 : decode cRM_firstAdvert 41 = .ok (.iaload, 1) := by decide +kernel
theorem dRM_firstAdvert_42 : decode cRM_firstAdvert 42 = .ok (.aload_n 0, 1) := by decide +kernel
theorem dRM_firstAdvert_43 : decode cRM_firstAdvert 43 = .ok (.getfield 66, 3) := by decide +kernel
theorem dRM_firstAdvert_46 : decode cRM_firstAdvert 46 = .ok (.if_icmp .gt 7, 3) := by decide +kernel
theorem dRM_firstAdvert_49 : decode cRM_firstAdvert 49 = .ok (.iconst 1, 1) := by decide +kernel
theorem dRM_firstAdvert_50 : decode cRM_firstAdvert 50 = .ok (.goto 4, 3) := by decide +kernel
theorem dRM_firstAdvert_53 : decode cRM_firstAdvert 53 = .ok (.iconst 0, 1) := by decide +kernel
theorem dRM_firstAdvert_54 : decode cRM_firstAdvert 54 = .ok (.istore 4, 2) := by decide +kernel
theorem dRM_firstAdvert_56 : decode cRM_firstAdvert 56 = .ok (.sipush 1024, 3) := by decide +kernel
theorem dRM_firstAdvert_59 : decode cRM_firstAdvert 59 = .ok (.aload_n 0, 1) := by decide +kernel
theorem dRM_firstAdvert_60 : decode cRM_firstAdvert 60 = .ok (.getfield 16, 3) := by decide +kernel
theorem dRM_firstAdvert_63 : decode cRM_firstAdvert 63 = .ok (.iload_n 2, 1) := by decide +kernel
theorem dRM_firstAdvert_64 : decode cRM_firstAdvert 64 = .ok (.iaload, 1) := by decide +kernel
theorem dRM_firstAdvert_65 : decode cRM_firstAdvert 65 = .ok (.imul, 1) := by decide +kernel
theorem dRM_firstAdvert_66 : decode cRM_firstAdvert 66 = .ok (.bipush 64, 2) := by decide +kernel
theorem dRM_firstAdvert_68 : decode cRM_firstAdvert 68 = .ok (.iload_n 2, 1) := by decide +kernel
theorem dRM_firstAdvert_69 : decode cRM_firstAdvert 69 = .ok (.imul, 1) := by decide +kernel
theorem dRM_firstAdvert_70 : decode cRM_firstAdvert 70 = .ok (.iadd, 1) := by decide +kernel
theorem dRM_firstAdvert_71 : decode cRM_firstAdvert 71 = .ok (.iload_n 3, 1) := by decide +kernel
theorem dRM_firstAdvert_72 : decode cRM_firstAdvert 72 = .ok (.iadd, 1) := by decide +kernel
theorem dRM_firstAdvert_73 : decode cRM_firstAdvert 73 = .ok (.istore 5, 2) := by decide +kernel
theorem dRM_firstAdvert_75 : decode cRM_firstAdvert 75 = .ok (.iload 4, 2) := by decide +kernel
theorem dRM_firstAdvert_77 : decode cRM_firstAdvert 77 = .ok (.ifCond .eq 18, 3) := by decide +kernel
theorem dRM_firstAdvert_80 : decode cRM_firstAdvert 80 = .ok (.iload_n 1, 1) := by decide +kernel
theorem dRM_firstAdvert_81 : decode cRM_firstAdvert 81 = .ok (.ifCond .lt 9, 3) := by decide +kernel
theorem dRM_firstAdvert_84 : decode cRM_firstAdvert 84 = .ok (.iload 5, 2) := by decide +kernel
theorem dRM_firstAdvert_86 : decode cRM_firstAdvert 86 = .ok (.iload_n 1, 1) := by decide +kernel
theorem dRM_firstAdvert_87 : decode cRM_firstAdvert 87 = .ok (.if_icmp .ge 8, 3) := by decide +kernel
theorem dRM_firstAdvert_90 : decode cRM_firstAdvert 90 = .ok (.iload 5, 2) := by decide +kernel
theorem dRM_firstAdvert_92 : decode cRM_firstAdvert 92 = .ok (.goto 4, 3) := by decide +kernel
theorem dRM_firstAdvert_95 : decode cRM_firstAdvert 95 = .ok (.iload_n 1, 1) := by decide +kernel
theorem dRM_firstAdvert_96 : decode cRM_firstAdvert 96 = .ok (.istore_n 1, 1) := by decide +kernel
theorem dRM_firstAdvert_97 : decode cRM_firstAdvert 97 = .ok (.iinc 3 (-1), 3) := by decide +kernel
theorem dRM_firstAdvert_100 : decode cRM_firstAdvert 100 = .ok (.goto (-87), 3) := by decide +kernel
theorem dRM_firstAdvert_103 : decode cRM_firstAdvert 103 = .ok (.iinc 2 1, 3) := by decide +kernel
theorem dRM_firstAdvert_106 : decode cRM_firstAdvert 106 = .ok (.goto (-102), 3) := by decide +kernel
theorem dRM_firstAdvert_109 : decode cRM_firstAdvert 109 = .ok (.iload_n 1, 1) := by decide +kernel
theorem dRM_firstAdvert_110 : decode cRM_firstAdvert 110 = .ok (.ireturn, 1) := by decide +kernel
theorem dRM_message_0 : decode cRM_message 0 = .ok (.aload_n 0, 1) := by decide +kernel
theorem dRM_message_1 : decode cRM_message 1 = .ok (.iload_n 1, 1) := by decide +kernel
theorem dRM_message_2 : decode cRM_message 2 = .ok (.iconst 0, 1) := by decide +kernel
theorem dRM_message_3 : decode cRM_message 3 = .ok (.iconst 5, 1) := by decide +kernel
theorem dRM_message_4 : decode cRM_message 4 = .ok (.invokestatic 52, 3) := by decide +kernel
theorem dRM_message_7 : decode cRM_message 7 = .ok (.ifCond .ne 7, 3) := by decide +kernel
theorem dRM_message_10 : decode cRM_message 10 = .ok (.iconst 1, 1) := by decide +kernel
theorem dRM_message_11 : decode cRM_message 11 = .ok (.goto 17, 3) := by decide +kernel
theorem dRM_message_14 : decode cRM_message 14 = .ok (.aload_n 0, 1) := by decide +kernel
theorem dRM_message_15 : decode cRM_message 15 = .ok (.getfield 38, 3) := by decide +kernel
theorem dRM_message_18 : decode cRM_message 18 = .ok (.iconst 0, 1) := by decide +kernel
theorem dRM_message_19 : decode cRM_message 19 = .ok (.iaload, 1) := by decide +kernel
theorem dRM_message_20 : decode cRM_message 20 = .ok (.ifCond .ne 7, 3) := by decide +kernel
theorem dRM_message_23 : decode cRM_message 23 = .ok (.iconst 2, 1) := by decide +kernel
theorem dRM_message_24 : decode cRM_message 24 = .ok (.goto 4, 3) := by decide +kernel
theorem dRM_message_27 : decode cRM_message 27 = .ok (.iconst 0, 1) := by decide +kernel
theorem dRM_message_28 : decode cRM_message 28 = .ok (.putfield 45, 3) := by decide +kernel
theorem dRM_message_31 : decode cRM_message 31 = .ok (.aload_n 0, 1) := by decide +kernel
theorem dRM_message_32 : decode cRM_message 32 = .ok (.getfield 45, 3) := by decide +kernel
theorem dRM_message_35 : decode cRM_message 35 = .ok (.ifCond .le 7, 3) := by decide +kernel
theorem dRM_message_38 : decode cRM_message 38 = .ok (.iconst 0, 1) := by decide +kernel
theorem dRM_message_39 : decode cRM_message 39 = .ok (.goto 9, 3) := by decide +kernel
theorem dRM_message_42 : decode cRM_message 42 = .ok (.aload_n 0, 1) := by decide +kernel
theorem dRM_message_43 : decode cRM_message 43 = .ok (.getfield 38, 3) := by decide +kernel
theorem dRM_message_46 : decode cRM_message 46 = .ok (.iload_n 1, 1) := by decide +kernel
theorem dRM_message_47 : decode cRM_message 47 = .ok (.iaload, 1) := by decide +kernel
theorem dRM_message_48 : decode cRM_message 48 = .ok (.ireturn, 1) := by decide +kernel
theorem dRM_named_0 : decode cRM_named 0 = .ok (.aload_n 0, 1) := by decide +kernel
theorem dRM_named_1 : decode cRM_named 1 = .ok (.iconst 0, 1) := by decide +kernel
theorem dRM_named_2 : decode cRM_named 2 = .ok (.putfield 45, 3) := by decide +kernel
theorem dRM_named_5 : decode cRM_named 5 = .ok (.aload_n 0, 1) := by decide +kernel
theorem dRM_named_6 : decode cRM_named 6 = .ok (.getfield 85, 3) := by decide +kernel
theorem dRM_named_9 : decode cRM_named 9 = .ok (.lreturn, 1) := by decide +kernel
theorem dRM_state_0 : decode cRM_state 0 = .ok (.aload_n 0, 1) := by decide +kernel
theorem dRM_state_1 : decode cRM_state 1 = .ok (.iload_n 1, 1) := by decide +kernel
theorem dRM_state_2 : decode cRM_state 2 = .ok (.iconst 0, 1) := by decide +kernel
theorem dRM_state_3 : decode cRM_state 3 = .ok (.bipush 7, 2) := by decide +kernel
theorem dRM_state_5 : decode cRM_state 5 = .ok (.invokestatic 52, 3) := by decide +kernel
theorem dRM_state_8 : decode cRM_state 8 = .ok (.ifCond .eq 17, 3) := by decide +kernel
theorem dRM_state_11 : decode cRM_state 11 = .ok (.iload_n 2, 1) := by decide +kernel
theorem dRM_state_12 : decode cRM_state 12 = .ok (.iconst 0, 1) := by decide +kernel
theorem dRM_state_13 : decode cRM_state 13 = .ok (.bipush 63, 2) := by decide +kernel
theorem dRM_state_15 : decode cRM_state 15 = .ok (.invokestatic 52, 3) := by decide +kernel
theorem dRM_state_18 : decode cRM_state 18 = .ok (.ifCond .eq 7, 3) := by decide +kernel
theorem dRM_state_21 : decode cRM_state 21 = .ok (.iconst 0, 1) := by decide +kernel
theorem dRM_state_22 : decode cRM_state 22 = .ok (.goto 4, 3) := by decide +kernel
theorem dRM_state_25 : decode cRM_state 25 = .ok (.iconst 1, 1) := by decide +kernel
theorem dRM_state_26 : decode cRM_state 26 = .ok (.putfield 45, 3) := by decide +kernel
theorem dRM_state_29 : decode cRM_state 29 = .ok (.aload_n 0, 1) := by decide +kernel
theorem dRM_state_30 : decode cRM_state 30 = .ok (.getfield 45, 3) := by decide +kernel
theorem dRM_state_33 : decode cRM_state 33 = .ok (.ifCond .le 7, 3) := by decide +kernel
theorem dRM_state_36 : decode cRM_state 36 = .ok (.iconst (-1), 1) := by decide +kernel
theorem dRM_state_37 : decode cRM_state 37 = .ok (.goto 9, 3) := by decide +kernel
theorem dRM_state_40 : decode cRM_state 40 = .ok (.aload_n 0, 1) := by decide +kernel
theorem dRM_state_41 : decode cRM_state 41 = .ok (.iload_n 1, 1) := by decide +kernel
theorem dRM_state_42 : decode cRM_state 42 = .ok (.iload_n 2, 1) := by decide +kernel
theorem dRM_state_43 : decode cRM_state 43 = .ok (.invokevirtual 63, 3) := by decide +kernel
theorem dRM_state_46 : decode cRM_state 46 = .ok (.istore_n 3, 1) := by decide +kernel
theorem dRM_state_47 : decode cRM_state 47 = .ok (.iload_n 3, 1) := by decide +kernel
theorem dRM_state_48 : decode cRM_state 48 = .ok (.ifCond .ge 7, 3) := by decide +kernel
theorem dRM_state_51 : decode cRM_state 51 = .ok (.iconst 0, 1) := by decide +kernel
theorem dRM_state_52 : decode cRM_state 52 = .ok (.goto 17, 3) := by decide +kernel
theorem dRM_state_55 : decode cRM_state 55 = .ok (.aload_n 0, 1) := by decide +kernel
theorem dRM_state_56 : decode cRM_state 56 = .ok (.getfield 23, 3) := by decide +kernel
theorem dRM_state_59 : decode cRM_state 59 = .ok (.iload_n 3, 1) := by decide +kernel
theorem dRM_state_60 : decode cRM_state 60 = .ok (.baload, 1) := by decide +kernel
theorem dRM_state_61 : decode cRM_state 61 = .ok (.ifCond .eq 7, 3) := by decide +kernel
theorem dRM_state_64 : decode cRM_state 64 = .ok (.iconst 2, 1) := by decide +kernel
theorem dRM_state_65 : decode cRM_state 65 = .ok (.goto 4, 3) := by decide +kernel
theorem dRM_state_68 : decode cRM_state 68 = .ok (.iconst 1, 1) := by decide +kernel
theorem dRM_state_69 : decode cRM_state 69 = .ok (.ireturn, 1) := by decide +kernel
theorem dRM_known_0 : decode cRM_known 0 = .ok (.aload_n 0, 1) := by decide +kernel
theorem dRM_known_1 : decode cRM_known 1 = .ok (.iload_n 1, 1) := by decide +kernel
theorem dRM_known_2 : decode cRM_known 2 = .ok (.iconst 0, 1) := by decide +kernel
theorem dRM_known_3 : decode cRM_known 3 = .ok (.bipush 63, 2) := by decide +kernel
theorem dRM_known_5 : decode cRM_known 5 = .ok (.invokestatic 52, 3) := by decide +kernel
theorem dRM_known_8 : decode cRM_known 8 = .ok (.ifCond .eq 7, 3) := by decide +kernel
theorem dRM_known_11 : decode cRM_known 11 = .ok (.iconst 0, 1) := by decide +kernel
theorem dRM_known_12 : decode cRM_known 12 = .ok (.goto 4, 3) := by decide +kernel
theorem dRM_known_15 : decode cRM_known 15 = .ok (.iconst 1, 1) := by decide +kernel
theorem dRM_known_16 : decode cRM_known 16 = .ok (.putfield 45, 3) := by decide +kernel
theorem dRM_known_19 : decode cRM_known 19 = .ok (.aload_n 0, 1) := by decide +kernel
theorem dRM_known_20 : decode cRM_known 20 = .ok (.getfield 45, 3) := by decide +kernel
theorem dRM_known_23 : decode cRM_known 23 = .ok (.ifCond .le 7, 3) := by decide +kernel
theorem dRM_known_26 : decode cRM_known 26 = .ok (.iconst 0, 1) := by decide +kernel
theorem dRM_known_27 : decode cRM_known 27 = .ok (.goto 22, 3) := by decide +kernel
theorem dRM_known_30 : decode cRM_known 30 = .ok (.aload_n 0, 1) := by decide +kernel
theorem dRM_known_31 : decode cRM_known 31 = .ok (.getfield 29, 3) := by decide +kernel
theorem dRM_known_34 : decode cRM_known 34 = .ok (.iload_n 1, 1) := by decide +kernel
theorem dRM_known_35 : decode cRM_known 35 = .ok (.iaload, 1) := by decide +kernel
theorem dRM_known_36 : decode cRM_known 36 = .ok (.ifCond .le 12, 3) := by decide +kernel
theorem dRM_known_39 : decode cRM_known 39 = .ok (.aload_n 0, 1) := by decide +kernel
theorem dRM_known_40 : decode cRM_known 40 = .ok (.getfield 29, 3) := by decide +kernel
theorem dRM_known_43 : decode cRM_known 43 = .ok (.iload_n 1, 1) := by decide +kernel
theorem dRM_known_44 : decode cRM_known 44 = .ok (.iaload, 1) := by decide +kernel
theorem dRM_known_45 : decode cRM_known 45 = .ok (.goto 4, 3) := by decide +kernel
theorem dRM_known_48 : decode cRM_known 48 = .ok (.iconst (-1), 1) := by decide +kernel
theorem dRM_known_49 : decode cRM_known 49 = .ok (.ireturn, 1) := by decide +kernel
theorem dRM_body_0 : decode cRM_body 0 = .ok (.aload_n 0, 1) := by decide +kernel
theorem dRM_body_1 : decode cRM_body 1 = .ok (.iload_n 1, 1) := by decide +kernel
theorem dRM_body_2 : decode cRM_body 2 = .ok (.iconst 0, 1) := by decide +kernel
theorem dRM_body_3 : decode cRM_body 3 = .ok (.bipush 63, 2) := by decide +kernel
theorem dRM_body_5 : decode cRM_body 5 = .ok (.invokestatic 52, 3) := by decide +kernel
theorem dRM_body_8 : decode cRM_body 8 = .ok (.ifCond .eq 7, 3) := by decide +kernel
theorem dRM_body_11 : decode cRM_body 11 = .ok (.iconst 0, 1) := by decide +kernel
theorem dRM_body_12 : decode cRM_body 12 = .ok (.goto 4, 3) := by decide +kernel
theorem dRM_body_15 : decode cRM_body 15 = .ok (.iconst 1, 1) := by decide +kernel
theorem dRM_body_16 : decode cRM_body 16 = .ok (.putfield 45, 3) := by decide +kernel
theorem dRM_body_19 : decode cRM_body 19 = .ok (.aload_n 0, 1) := by decide +kernel
theorem dRM_body_20 : decode cRM_body 20 = .ok (.getfield 45, 3) := by decide +kernel
theorem dRM_body_23 : decode cRM_body 23 = .ok (.ifCond .le 7, 3) := by decide +kernel
theorem dRM_body_26 : decode cRM_body 26 = .ok (.iconst 0, 1) := by decide +kernel
theorem dRM_body_27 : decode cRM_body 27 = .ok (.goto 9, 3) := by decide +kernel
theorem dRM_body_30 : decode cRM_body 30 = .ok (.aload_n 0, 1) := by decide +kernel
theorem dRM_body_31 : decode cRM_body 31 = .ok (.getfield 32, 3) := by decide +kernel
theorem dRM_body_34 : decode cRM_body 34 = .ok (.iload_n 1, 1) := by decide +kernel
theorem dRM_body_35 : decode cRM_body 35 = .ok (.iaload, 1) := by decide +kernel
theorem dRM_body_36 : decode cRM_body 36 = .ok (.ireturn, 1) := by decide +kernel
theorem dRM_due_0 : decode cRM_due 0 = .ok (.aload_n 0, 1) := by decide +kernel
theorem dRM_due_1 : decode cRM_due 1 = .ok (.iload_n 1, 1) := by decide +kernel
theorem dRM_due_2 : decode cRM_due 2 = .ok (.iconst 0, 1) := by decide +kernel
theorem dRM_due_3 : decode cRM_due 3 = .ok (.bipush 7, 2) := by decide +kernel
theorem dRM_due_5 : decode cRM_due 5 = .ok (.invokestatic 52, 3) := by decide +kernel
theorem dRM_due_8 : decode cRM_due 8 = .ok (.ifCond .eq 17, 3) := by decide +kernel
theorem dRM_due_11 : decode cRM_due 11 = .ok (.iload_n 2, 1) := by decide +kernel
theorem dRM_due_12 : decode cRM_due 12 = .ok (.iconst 0, 1) := by decide +kernel
theorem dRM_due_13 : decode cRM_due 13 = .ok (.bipush 63, 2) := by decide +kernel
theorem dRM_due_15 : decode cRM_due 15 = .ok (.invokestatic 52, 3) := by decide +kernel
theorem dRM_due_18 : decode cRM_due 18 = .ok (.ifCond .eq 7, 3) := by decide +kernel
theorem dRM_due_21 : decode cRM_due 21 = .ok (.iconst 0, 1) := by decide +kernel
theorem dRM_due_22 : decode cRM_due 22 = .ok (.goto 4, 3) := by decide +kernel
theorem dRM_due_25 : decode cRM_due 25 = .ok (.iconst 1, 1) := by decide +kernel
theorem dRM_due_26 : decode cRM_due 26 = .ok (.putfield 45, 3) := by decide +kernel
theorem dRM_due_29 : decode cRM_due 29 = .ok (.aload_n 0, 1) := by decide +kernel
theorem dRM_due_30 : decode cRM_due 30 = .ok (.getfield 45, 3) := by decide +kernel
theorem dRM_due_33 : decode cRM_due 33 = .ok (.ifCond .le 7, 3) := by decide +kernel
theorem dRM_due_36 : decode cRM_due 36 = .ok (.iconst (-1), 1) := by decide +kernel
theorem dRM_due_37 : decode cRM_due 37 = .ok (.goto 9, 3) := by decide +kernel
theorem dRM_due_40 : decode cRM_due 40 = .ok (.aload_n 0, 1) := by decide +kernel
theorem dRM_due_41 : decode cRM_due 41 = .ok (.iload_n 1, 1) := by decide +kernel
theorem dRM_due_42 : decode cRM_due 42 = .ok (.iload_n 2, 1) := by decide +kernel
theorem dRM_due_43 : decode cRM_due 43 = .ok (.invokevirtual 63, 3) := by decide +kernel
theorem dRM_due_46 : decode cRM_due 46 = .ok (.istore_n 3, 1) := by decide +kernel
theorem dRM_due_47 : decode cRM_due 47 = .ok (.iconst 0, 1) := by decide +kernel
theorem dRM_due_48 : decode cRM_due 48 = .ok (.istore 4, 2) := by decide +kernel
theorem dRM_due_50 : decode cRM_due 50 = .ok (.iconst 0, 1) := by decide +kernel
theorem dRM_due_51 : decode cRM_due 51 = .ok (.istore 5, 2) := by decide +kernel
theorem dRM_due_53 : decode cRM_due 53 = .ok (.iload 5, 2) := by decide +kernel
theorem dRM_due_55 : decode cRM_due 55 = .ok (.bipush 64, 2) := by decide +kernel
theorem dRM_due_57 : decode cRM_due 57 = .ok (.if_icmp .ge 38, 3) := by decide +kernel
theorem dRM_due_60 : decode cRM_due 60 = .ok (.iload_n 3, 1) := by decide +kernel
theorem dRM_due_61 : decode cRM_due 61 = .ok (.ifCond .lt 34, 3) := by decide +kernel
theorem dRM_due_64 : decode cRM_due 64 = .ok (.iload 4, 2) := by decide +kernel
theorem dRM_due_66 : decode cRM_due 66 = .ok (.aload_n 0, 1) := by decide +kernel
theorem dRM_due_67 : decode cRM_due 67 = .ok (.getfield 26, 3) := by decide +kernel
theorem dRM_due_70 : decode cRM_due 70 = .ok (.bipush 64, 2) := by decide +kernel
theorem dRM_due_72 : decode cRM_due 72 = .ok (.iload_n 3, 1) := by decide +kernel
theorem dRM_due_73 : decode cRM_due 73 = .ok (.imul, 1) := by decide +kernel
theorem dRM_due_74 : decode cRM_due 74 = .ok (.iload 5, 2) := by decide +kernel
theorem dRM_due_76 : decode cRM_due 76 = .ok (.iadd, 1) := by decide +kernel
theorem dRM_due_77 : decode cRM_due 77 = .ok (.iaload, 1) := by decide +kernel
theorem dRM_due_78 : decode cRM_due 78 = .ok (.ifCond .lt 7, 3) := by decide +kernel
theorem dRM_due_81 : decode cRM_due 81 = .ok (.iconst 1, 1) := by decide +kernel
theorem dRM_due_82 : decode cRM_due 82 = .ok (.goto 4, 3) := by decide +kernel
theorem dRM_due_85 : decode cRM_due 85 = .ok (.iconst 0, 1) := by decide +kernel
theorem dRM_due_86 : decode cRM_due 86 = .ok (.iadd, 1) := by decide +kernel
theorem dRM_due_87 : decode cRM_due 87 = .ok (.istore 4, 2) := by decide +kernel
theorem dRM_due_89 : decode cRM_due 89 = .ok (.iinc 5 1, 3) := by decide +kernel
theorem dRM_due_92 : decode cRM_due 92 = .ok (.goto (-39), 3) := by decide +kernel
theorem dRM_due_95 : decode cRM_due 95 = .ok (.iload 4, 2) := by decide +kernel
theorem dRM_due_97 : decode cRM_due 97 = .ok (.ireturn, 1) := by decide +kernel
theorem dRM_count_0 : decode cRM_count 0 = .ok (.aload_n 0, 1) := by decide +kernel
theorem dRM_count_1 : decode cRM_count 1 = .ok (.iconst 0, 1) := by decide +kernel
theorem dRM_count_2 : decode cRM_count 2 = .ok (.putfield 45, 3) := by decide +kernel
theorem dRM_count_5 : decode cRM_count 5 = .ok (.iconst 0, 1) := by decide +kernel
theorem dRM_count_6 : decode cRM_count 6 = .ok (.istore_n 2, 1) := by decide +kernel
theorem dRM_count_7 : decode cRM_count 7 = .ok (.iconst 0, 1) := by decide +kernel
theorem dRM_count_8 : decode cRM_count 8 = .ok (.istore_n 3, 1) := by decide +kernel
theorem dRM_count_9 : decode cRM_count 9 = .ok (.iload_n 3, 1) := by decide +kernel
theorem dRM_count_10 : decode cRM_count 10 = .ok (.bipush 16, 2) := by decide +kernel
theorem dRM_count_12 : decode cRM_count 12 = .ok (.if_icmp .ge 39, 3) := by decide +kernel
theorem dRM_count_15 : decode cRM_count 15 = .ok (.iload_n 2, 1) := by decide +kernel
theorem dRM_count_16 : decode cRM_count 16 = .ok (.aload_n 0, 1) := by decide +kernel
theorem dRM_count_17 : decode cRM_count 17 = .ok (.getfield 16, 3) := by decide +kernel
theorem dRM_count_20 : decode cRM_count 20 = .ok (.iload_n 3, 1) := by decide +kernel
theorem dRM_count_21 : decode cRM_count 21 = .ok (.iaload, 1) := by decide +kernel
theorem dRM_count_22 : decode cRM_count 22 = .ok (.ifCond .lt 20, 3) := by decide +kernel
theorem dRM_count_25 : decode cRM_count 25 = .ok (.iload_n 1, 1) := by decide +kernel
theorem dRM_count_26 : decode cRM_count 26 = .ok (.ifCond .eq 12, 3) := by decide +kernel
theorem dRM_count_29 : decode cRM_count 29 = .ok (.aload_n 0, 1) := by decide +kernel
theorem dRM_count_30 : decode cRM_count 30 = .ok (.getfield 23, 3) := by decide +kernel
theorem dRM_count_33 : decode cRM_count 33 = .ok (.iload_n 3, 1) := by decide +kernel
theorem dRM_count_34 : decode cRM_count 34 = .ok (.baload, 1) := by decide +kernel
theorem dRM_count_35 : decode cRM_count 35 = .ok (.ifCond .eq 7, 3) := by decide +kernel
theorem dRM_count_38 : decode cRM_count 38 = .ok (.iconst 1, 1) := by decide +kernel
theorem dRM_count_39 : decode cRM_count 39 = .ok (.goto 4, 3) := by decide +kernel
theorem dRM_count_42 : decode cRM_count 42 = .ok (.iconst 0, 1) := by decide +kernel
theorem dRM_count_43 : decode cRM_count 43 = .ok (.iadd, 1) := by decide +kernel
theorem dRM_count_44 : decode cRM_count 44 = .ok (.istore_n 2, 1) := by decide +kernel
theorem dRM_count_45 : decode cRM_count 45 = .ok (.iinc 3 1, 3) := by decide +kernel
theorem dRM_count_48 : decode cRM_count 48 = .ok (.goto (-39), 3) := by decide +kernel
theorem dRM_count_51 : decode cRM_count 51 = .ok (.iload_n 2, 1) := by decide +kernel
theorem dRM_count_52 : decode cRM_count 52 = .ok (.ireturn, 1) := by decide +kernel
theorem dRM_time_0 : decode cRM_time 0 = .ok (.aload_n 0, 1) := by decide +kernel
theorem dRM_time_1 : decode cRM_time 1 = .ok (.iconst 0, 1) := by decide +kernel
theorem dRM_time_2 : decode cRM_time 2 = .ok (.putfield 45, 3) := by decide +kernel
theorem dRM_time_5 : decode cRM_time 5 = .ok (.aload_n 0, 1) := by decide +kernel
theorem dRM_time_6 : decode cRM_time 6 = .ok (.getfield 66, 3) := by decide +kernel
theorem dRM_time_9 : decode cRM_time 9 = .ok (.ireturn, 1) := by decide +kernel
