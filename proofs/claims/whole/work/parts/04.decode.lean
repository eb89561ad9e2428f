set_option maxRecDepth 100000 in
theorem DX0_init_c0 : decode cX0_init 0 = .ok (.aload_n 0, 1) ∧ decode cX0_init 1 = .ok (.invokespecial 3, 3) ∧ decode cX0_init 4 = .ok (.aload_n 0, 1) ∧ decode cX0_init 5 = .ok (.new 9, 3) ∧ decode cX0_init 8 = .ok (.dup, 1) ∧ decode cX0_init 9 = .ok (.invokespecial 11, 3) ∧ decode cX0_init 12 = .ok (.putfield 12, 3) ∧ decode cX0_init 15 = .ok (.aload_n 0, 1) ∧ decode cX0_init 16 = .ok (.new 18, 3) ∧ decode cX0_init 19 = .ok (.dup, 1) := by decide +kernel
theorem dX0_init_0 : decode cX0_init 0 = .ok (.aload_n 0, 1) := DX0_init_c0.1
theorem dX0_init_1 : decode cX0_init 1 = .ok (.invokespecial 3, 3) := DX0_init_c0.2.1
theorem dX0_init_4 : decode cX0_init 4 = .ok (.aload_n 0, 1) := DX0_init_c0.2.2.1
theorem dX0_init_5 : decode cX0_init 5 = .ok (.new 9, 3) := DX0_init_c0.2.2.2.1
theorem dX0_init_8 : decode cX0_init 8 = .ok (.dup, 1) := DX0_init_c0.2.2.2.2.1
theorem dX0_init_9 : decode cX0_init 9 = .ok (.invokespecial 11, 3) := DX0_init_c0.2.2.2.2.2.1
theorem dX0_init_12 : decode cX0_init 12 = .ok (.putfield 12, 3) := DX0_init_c0.2.2.2.2.2.2.1
theorem dX0_init_15 : decode cX0_init 15 = .ok (.aload_n 0, 1) := DX0_init_c0.2.2.2.2.2.2.2.1
theorem dX0_init_16 : decode cX0_init 16 = .ok (.new 18, 3) := DX0_init_c0.2.2.2.2.2.2.2.2.1
theorem dX0_init_19 : decode cX0_init 19 = .ok (.dup, 1) := DX0_init_c0.2.2.2.2.2.2.2.2.2
set_option maxRecDepth 100000 in
theorem DX0_init_c1 : decode cX0_init 20 = .ok (.invokespecial 20, 3) ∧ decode cX0_init 23 = .ok (.putfield 21, 3) ∧ decode cX0_init 26 = .ok (.aload_n 0, 1) ∧ decode cX0_init 27 = .ok (.new 18, 3) ∧ decode cX0_init 30 = .ok (.dup, 1) ∧ decode cX0_init 31 = .ok (.invokespecial 20, 3) ∧ decode cX0_init 34 = .ok (.putfield 25, 3) ∧ decode cX0_init 37 = .ok (.aload_n 0, 1) ∧ decode cX0_init 38 = .ok (.bipush 32, 2) ∧ decode cX0_init 40 = .ok (.newarray .int, 2) := by decide +kernel
theorem dX0_init_20 : decode cX0_init 20 = .ok (.invokespecial 20, 3) := DX0_init_c1.1
theorem dX0_init_23 : decode cX0_init 23 = .ok (.putfield 21, 3) := DX0_init_c1.2.1
theorem dX0_init_26 : decode cX0_init 26 = .ok (.aload_n 0, 1) := DX0_init_c1.2.2.1
theorem dX0_init_27 : decode cX0_init 27 = .ok (.new 18, 3) := DX0_init_c1.2.2.2.1
theorem dX0_init_30 : decode cX0_init 30 = .ok (.dup, 1) := DX0_init_c1.2.2.2.2.1
theorem dX0_init_31 : decode cX0_init 31 = .ok (.invokespecial 20, 3) := DX0_init_c1.2.2.2.2.2.1
theorem dX0_init_34 : decode cX0_init 34 = .ok (.putfield 25, 3) := DX0_init_c1.2.2.2.2.2.2.1
theorem dX0_init_37 : decode cX0_init 37 = .ok (.aload_n 0, 1) := DX0_init_c1.2.2.2.2.2.2.2.1
theorem dX0_init_38 : decode cX0_init 38 = .ok (.bipush 32, 2) := DX0_init_c1.2.2.2.2.2.2.2.2.1
theorem dX0_init_40 : decode cX0_init 40 = .ok (.newarray .int, 2) := DX0_init_c1.2.2.2.2.2.2.2.2.2
set_option maxRecDepth 100000 in
theorem DX0_init_c2 : decode cX0_init 42 = .ok (.putfield 28, 3) ∧ decode cX0_init 45 = .ok (.return_, 1) := by decide +kernel
theorem dX0_init_42 : decode cX0_init 42 = .ok (.putfield 28, 3) := DX0_init_c2.1
theorem dX0_init_45 : decode cX0_init 45 = .ok (.return_, 1) := DX0_init_c2.2
set_option maxRecDepth 100000 in
theorem DX0_find_c0 : decode cX0_find 0 = .ok (.aload_n 0, 1) ∧ decode cX0_find 1 = .ok (.iconst 0, 1) ∧ decode cX0_find 2 = .ok (.putfield 32, 3) ∧ decode cX0_find 5 = .ok (.aload_n 0, 1) ∧ decode cX0_find 6 = .ok (.aload_n 1, 1) ∧ decode cX0_find 7 = .ok (.iload_n 2, 1) ∧ decode cX0_find 8 = .ok (.invokevirtual 36, 3) ∧ decode cX0_find 11 = .ok (.aload_n 0, 1) ∧ decode cX0_find 12 = .ok (.getfield 21, 3) ∧ decode cX0_find 15 = .ok (.invokevirtual 40, 3) := by decide +kernel
theorem dX0_find_0 : decode cX0_find 0 = .ok (.aload_n 0, 1) := DX0_find_c0.1
theorem dX0_find_1 : decode cX0_find 1 = .ok (.iconst 0, 1) := DX0_find_c0.2.1
theorem dX0_find_2 : decode cX0_find 2 = .ok (.putfield 32, 3) := DX0_find_c0.2.2.1
theorem dX0_find_5 : decode cX0_find 5 = .ok (.aload_n 0, 1) := DX0_find_c0.2.2.2.1
theorem dX0_find_6 : decode cX0_find 6 = .ok (.aload_n 1, 1) := DX0_find_c0.2.2.2.2.1
theorem dX0_find_7 : decode cX0_find 7 = .ok (.iload_n 2, 1) := DX0_find_c0.2.2.2.2.2.1
theorem dX0_find_8 : decode cX0_find 8 = .ok (.invokevirtual 36, 3) := DX0_find_c0.2.2.2.2.2.2.1
theorem dX0_find_11 : decode cX0_find 11 = .ok (.aload_n 0, 1) := DX0_find_c0.2.2.2.2.2.2.2.1
theorem dX0_find_12 : decode cX0_find 12 = .ok (.getfield 21, 3) := DX0_find_c0.2.2.2.2.2.2.2.2.1
theorem dX0_find_15 : decode cX0_find 15 = .ok (.invokevirtual 40, 3) := DX0_find_c0.2.2.2.2.2.2.2.2.2
set_option maxRecDepth 100000 in
theorem DX0_find_c1 : decode cX0_find 18 = .ok (.ifCond .ne 5, 3) ∧ decode cX0_find 21 = .ok (.iconst 0, 1) ∧ decode cX0_find 22 = .ok (.ireturn, 1) ∧ decode cX0_find 23 = .ok (.aload_n 0, 1) ∧ decode cX0_find 24 = .ok (.getfield 21, 3) ∧ decode cX0_find 27 = .ok (.invokevirtual 43, 3) ∧ decode cX0_find 30 = .ok (.iconst 1, 1) ∧ decode cX0_find 31 = .ok (.isub, 1) ∧ decode cX0_find 32 = .ok (.istore 4, 2) ∧ decode cX0_find 34 = .ok (.iconst 0, 1) := by decide +kernel
theorem dX0_find_18 : decode cX0_find 18 = .ok (.ifCond .ne 5, 3) := DX0_find_c1.1
theorem dX0_find_21 : decode cX0_find 21 = .ok (.iconst 0, 1) := DX0_find_c1.2.1
theorem dX0_find_22 : decode cX0_find 22 = .ok (.ireturn, 1) := DX0_find_c1.2.2.1
theorem dX0_find_23 : decode cX0_find 23 = .ok (.aload_n 0, 1) := DX0_find_c1.2.2.2.1
theorem dX0_find_24 : decode cX0_find 24 = .ok (.getfield 21, 3) := DX0_find_c1.2.2.2.2.1
theorem dX0_find_27 : decode cX0_find 27 = .ok (.invokevirtual 43, 3) := DX0_find_c1.2.2.2.2.2.1
theorem dX0_find_30 : decode cX0_find 30 = .ok (.iconst 1, 1) := DX0_find_c1.2.2.2.2.2.2.1
theorem dX0_find_31 : decode cX0_find 31 = .ok (.isub, 1) := DX0_find_c1.2.2.2.2.2.2.2.1
theorem dX0_find_32 : decode cX0_find 32 = .ok (.istore 4, 2) := DX0_find_c1.2.2.2.2.2.2.2.2.1
theorem dX0_find_34 : decode cX0_find 34 = .ok (.iconst 0, 1) := DX0_find_c1.2.2.2.2.2.2.2.2.2
set_option maxRecDepth 100000 in
theorem DX0_find_c2 : decode cX0_find 35 = .ok (.istore 5, 2) ∧ decode cX0_find 37 = .ok (.iload 5, 2) ∧ decode cX0_find 39 = .ok (.iconst 1, 1) ∧ decode cX0_find 40 = .ok (.iload 4, 2) ∧ decode cX0_find 42 = .ok (.ishl, 1) ∧ decode cX0_find 43 = .ok (.if_icmp .ge 84, 3) ∧ decode cX0_find 46 = .ok (.aload_n 0, 1) ∧ decode cX0_find 47 = .ok (.getfield 21, 3) ∧ decode cX0_find 50 = .ok (.iconst 0, 1) ∧ decode cX0_find 51 = .ok (.invokevirtual 46, 3) := by decide +kernel
theorem dX0_find_35 : decode cX0_find 35 = .ok (.istore 5, 2) := DX0_find_c2.1
theorem dX0_find_37 : decode cX0_find 37 = .ok (.iload 5, 2) := DX0_find_c2.2.1
theorem dX0_find_39 : decode cX0_find 39 = .ok (.iconst 1, 1) := DX0_find_c2.2.2.1
theorem dX0_find_40 : decode cX0_find 40 = .ok (.iload 4, 2) := DX0_find_c2.2.2.2.1
theorem dX0_find_42 : decode cX0_find 42 = .ok (.ishl, 1) := DX0_find_c2.2.2.2.2.1
theorem dX0_find_43 : decode cX0_find 43 = .ok (.if_icmp .ge 84, 3) := DX0_find_c2.2.2.2.2.2.1
theorem dX0_find_46 : decode cX0_find 46 = .ok (.aload_n 0, 1) := DX0_find_c2.2.2.2.2.2.2.1
theorem dX0_find_47 : decode cX0_find 47 = .ok (.getfield 21, 3) := DX0_find_c2.2.2.2.2.2.2.2.1
theorem dX0_find_50 : decode cX0_find 50 = .ok (.iconst 0, 1) := DX0_find_c2.2.2.2.2.2.2.2.2.1
theorem dX0_find_51 : decode cX0_find 51 = .ok (.invokevirtual 46, 3) := DX0_find_c2.2.2.2.2.2.2.2.2.2
set_option maxRecDepth 100000 in
theorem DX0_find_c3 : decode cX0_find 54 = .ok (.iload 4, 2) ∧ decode cX0_find 56 = .ok (.ishl, 1) ∧ decode cX0_find 57 = .ok (.iload 5, 2) ∧ decode cX0_find 59 = .ok (.ior, 1) ∧ decode cX0_find 60 = .ok (.istore 6, 2) ∧ decode cX0_find 62 = .ok (.aload_n 0, 1) ∧ decode cX0_find 63 = .ok (.getfield 12, 3) ∧ decode cX0_find 66 = .ok (.aload_n 0, 1) ∧ decode cX0_find 67 = .ok (.getfield 21, 3) ∧ decode cX0_find 70 = .ok (.invokevirtual 43, 3) := by decide +kernel
theorem dX0_find_54 : decode cX0_find 54 = .ok (.iload 4, 2) := DX0_find_c3.1
theorem dX0_find_56 : decode cX0_find 56 = .ok (.ishl, 1) := DX0_find_c3.2.1
theorem dX0_find_57 : decode cX0_find 57 = .ok (.iload 5, 2) := DX0_find_c3.2.2.1
theorem dX0_find_59 : decode cX0_find 59 = .ok (.ior, 1) := DX0_find_c3.2.2.2.1
theorem dX0_find_60 : decode cX0_find 60 = .ok (.istore 6, 2) := DX0_find_c3.2.2.2.2.1
theorem dX0_find_62 : decode cX0_find 62 = .ok (.aload_n 0, 1) := DX0_find_c3.2.2.2.2.2.1
theorem dX0_find_63 : decode cX0_find 63 = .ok (.getfield 12, 3) := DX0_find_c3.2.2.2.2.2.2.1
theorem dX0_find_66 : decode cX0_find 66 = .ok (.aload_n 0, 1) := DX0_find_c3.2.2.2.2.2.2.2.1
theorem dX0_find_67 : decode cX0_find 67 = .ok (.getfield 21, 3) := DX0_find_c3.2.2.2.2.2.2.2.2.1
theorem dX0_find_70 : decode cX0_find 70 = .ok (.invokevirtual 43, 3) := DX0_find_c3.2.2.2.2.2.2.2.2.2
set_option maxRecDepth 100000 in
theorem DX0_find_c4 : decode cX0_find 73 = .ok (.iload 6, 2) ∧ decode cX0_find 75 = .ok (.invokevirtual 50, 3) ∧ decode cX0_find 78 = .ok (.aload_n 0, 1) ∧ decode cX0_find 79 = .ok (.getfield 25, 3) ∧ decode cX0_find 82 = .ok (.aload_n 0, 1) ∧ decode cX0_find 83 = .ok (.getfield 12, 3) ∧ decode cX0_find 86 = .ok (.aload_n 3, 1) ∧ decode cX0_find 87 = .ok (.invokevirtual 54, 3) ∧ decode cX0_find 90 = .ok (.aload_n 0, 1) ∧ decode cX0_find 91 = .ok (.getfield 25, 3) := by decide +kernel
theorem dX0_find_73 : decode cX0_find 73 = .ok (.iload 6, 2) := DX0_find_c4.1
theorem dX0_find_75 : decode cX0_find 75 = .ok (.invokevirtual 50, 3) := DX0_find_c4.2.1
theorem dX0_find_78 : decode cX0_find 78 = .ok (.aload_n 0, 1) := DX0_find_c4.2.2.1
theorem dX0_find_79 : decode cX0_find 79 = .ok (.getfield 25, 3) := DX0_find_c4.2.2.2.1
theorem dX0_find_82 : decode cX0_find 82 = .ok (.aload_n 0, 1) := DX0_find_c4.2.2.2.2.1
theorem dX0_find_83 : decode cX0_find 83 = .ok (.getfield 12, 3) := DX0_find_c4.2.2.2.2.2.1
theorem dX0_find_86 : decode cX0_find 86 = .ok (.aload_n 3, 1) := DX0_find_c4.2.2.2.2.2.2.1
theorem dX0_find_87 : decode cX0_find 87 = .ok (.invokevirtual 54, 3) := DX0_find_c4.2.2.2.2.2.2.2.1
theorem dX0_find_90 : decode cX0_find 90 = .ok (.aload_n 0, 1) := DX0_find_c4.2.2.2.2.2.2.2.2.1
theorem dX0_find_91 : decode cX0_find 91 = .ok (.getfield 25, 3) := DX0_find_c4.2.2.2.2.2.2.2.2.2
set_option maxRecDepth 100000 in
theorem DX0_find_c5 : decode cX0_find 94 = .ok (.aload_n 0, 1) ∧ decode cX0_find 95 = .ok (.getfield 21, 3) ∧ decode cX0_find 98 = .ok (.invokevirtual 58, 3) ∧ decode cX0_find 101 = .ok (.ifCond .eq 20, 3) ∧ decode cX0_find 104 = .ok (.aload_n 0, 1) ∧ decode cX0_find 105 = .ok (.aload_n 3, 1) ∧ decode cX0_find 106 = .ok (.aload_n 0, 1) ∧ decode cX0_find 107 = .ok (.getfield 21, 3) ∧ decode cX0_find 110 = .ok (.invokevirtual 43, 3) ∧ decode cX0_find 113 = .ok (.iload 6, 2) := by decide +kernel
theorem dX0_find_94 : decode cX0_find 94 = .ok (.aload_n 0, 1) := DX0_find_c5.1
theorem dX0_find_95 : decode cX0_find 95 = .ok (.getfield 21, 3) := DX0_find_c5.2.1
theorem dX0_find_98 : decode cX0_find 98 = .ok (.invokevirtual 58, 3) := DX0_find_c5.2.2.1
theorem dX0_find_101 : decode cX0_find 101 = .ok (.ifCond .eq 20, 3) := DX0_find_c5.2.2.2.1
theorem dX0_find_104 : decode cX0_find 104 = .ok (.aload_n 0, 1) := DX0_find_c5.2.2.2.2.1
theorem dX0_find_105 : decode cX0_find 105 = .ok (.aload_n 3, 1) := DX0_find_c5.2.2.2.2.2.1
theorem dX0_find_106 : decode cX0_find 106 = .ok (.aload_n 0, 1) := DX0_find_c5.2.2.2.2.2.2.1
theorem dX0_find_107 : decode cX0_find 107 = .ok (.getfield 21, 3) := DX0_find_c5.2.2.2.2.2.2.2.1
theorem dX0_find_110 : decode cX0_find 110 = .ok (.invokevirtual 43, 3) := DX0_find_c5.2.2.2.2.2.2.2.2.1
theorem dX0_find_113 : decode cX0_find 113 = .ok (.iload 6, 2) := DX0_find_c5.2.2.2.2.2.2.2.2.2
set_option maxRecDepth 100000 in
theorem DX0_find_c6 : decode cX0_find 115 = .ok (.invokevirtual 62, 3) ∧ decode cX0_find 118 = .ok (.invokevirtual 68, 3) ∧ decode cX0_find 121 = .ok (.iinc 5 1, 3) ∧ decode cX0_find 124 = .ok (.goto (-87), 3) ∧ decode cX0_find 127 = .ok (.aload_n 0, 1) ∧ decode cX0_find 128 = .ok (.getfield 32, 3) ∧ decode cX0_find 131 = .ok (.ireturn, 1) := by decide +kernel
theorem dX0_find_115 : decode cX0_find 115 = .ok (.invokevirtual 62, 3) := DX0_find_c6.1
theorem dX0_find_118 : decode cX0_find 118 = .ok (.invokevirtual 68, 3) := DX0_find_c6.2.1
theorem dX0_find_121 : decode cX0_find 121 = .ok (.iinc 5 1, 3) := DX0_find_c6.2.2.1
theorem dX0_find_124 : decode cX0_find 124 = .ok (.goto (-87), 3) := DX0_find_c6.2.2.2.1
theorem dX0_find_127 : decode cX0_find 127 = .ok (.aload_n 0, 1) := DX0_find_c6.2.2.2.2.1
theorem dX0_find_128 : decode cX0_find 128 = .ok (.getfield 32, 3) := DX0_find_c6.2.2.2.2.2.1
theorem dX0_find_131 : decode cX0_find 131 = .ok (.ireturn, 1) := DX0_find_c6.2.2.2.2.2.2
set_option maxRecDepth 100000 in
theorem DX0_choose_c0 : decode cX0_choose 0 = .ok (.aload_n 0, 1) ∧ decode cX0_choose 1 = .ok (.getfield 21, 3) ∧ decode cX0_choose 4 = .ok (.aload_n 1, 1) ∧ decode cX0_choose 5 = .ok (.invokevirtual 43, 3) ∧ decode cX0_choose 8 = .ok (.invokevirtual 72, 3) ∧ decode cX0_choose 11 = .ok (.iconst 0, 1) ∧ decode cX0_choose 12 = .ok (.istore_n 3, 1) ∧ decode cX0_choose 13 = .ok (.iload_n 3, 1) ∧ decode cX0_choose 14 = .ok (.aload_n 1, 1) ∧ decode cX0_choose 15 = .ok (.invokevirtual 40, 3) := by decide +kernel
theorem dX0_choose_0 : decode cX0_choose 0 = .ok (.aload_n 0, 1) := DX0_choose_c0.1
theorem dX0_choose_1 : decode cX0_choose 1 = .ok (.getfield 21, 3) := DX0_choose_c0.2.1
theorem dX0_choose_4 : decode cX0_choose 4 = .ok (.aload_n 1, 1) := DX0_choose_c0.2.2.1
theorem dX0_choose_5 : decode cX0_choose 5 = .ok (.invokevirtual 43, 3) := DX0_choose_c0.2.2.2.1
theorem dX0_choose_8 : decode cX0_choose 8 = .ok (.invokevirtual 72, 3) := DX0_choose_c0.2.2.2.2.1
theorem dX0_choose_11 : decode cX0_choose 11 = .ok (.iconst 0, 1) := DX0_choose_c0.2.2.2.2.2.1
theorem dX0_choose_12 : decode cX0_choose 12 = .ok (.istore_n 3, 1) := DX0_choose_c0.2.2.2.2.2.2.1
theorem dX0_choose_13 : decode cX0_choose 13 = .ok (.iload_n 3, 1) := DX0_choose_c0.2.2.2.2.2.2.2.1
theorem dX0_choose_14 : decode cX0_choose 14 = .ok (.aload_n 1, 1) := DX0_choose_c0.2.2.2.2.2.2.2.2.1
theorem dX0_choose_15 : decode cX0_choose 15 = .ok (.invokevirtual 40, 3) := DX0_choose_c0.2.2.2.2.2.2.2.2.2
set_option maxRecDepth 100000 in
theorem DX0_choose_c1 : decode cX0_choose 18 = .ok (.if_icmp .ge 31, 3) ∧ decode cX0_choose 21 = .ok (.iload_n 2, 1) ∧ decode cX0_choose 22 = .ok (.iload_n 3, 1) ∧ decode cX0_choose 23 = .ok (.ishr, 1) ∧ decode cX0_choose 24 = .ok (.iconst 1, 1) ∧ decode cX0_choose 25 = .ok (.iand, 1) ∧ decode cX0_choose 26 = .ok (.iconst 1, 1) ∧ decode cX0_choose 27 = .ok (.if_icmp .ne 16, 3) ∧ decode cX0_choose 30 = .ok (.aload_n 0, 1) ∧ decode cX0_choose 31 = .ok (.getfield 21, 3) := by decide +kernel
theorem dX0_choose_18 : decode cX0_choose 18 = .ok (.if_icmp .ge 31, 3) := DX0_choose_c1.1
theorem dX0_choose_21 : decode cX0_choose 21 = .ok (.iload_n 2, 1) := DX0_choose_c1.2.1
theorem dX0_choose_22 : decode cX0_choose 22 = .ok (.iload_n 3, 1) := DX0_choose_c1.2.2.1
theorem dX0_choose_23 : decode cX0_choose 23 = .ok (.ishr, 1) := DX0_choose_c1.2.2.2.1
theorem dX0_choose_24 : decode cX0_choose 24 = .ok (.iconst 1, 1) := DX0_choose_c1.2.2.2.2.1
theorem dX0_choose_25 : decode cX0_choose 25 = .ok (.iand, 1) := DX0_choose_c1.2.2.2.2.2.1
theorem dX0_choose_26 : decode cX0_choose 26 = .ok (.iconst 1, 1) := DX0_choose_c1.2.2.2.2.2.2.1
theorem dX0_choose_27 : decode cX0_choose 27 = .ok (.if_icmp .ne 16, 3) := DX0_choose_c1.2.2.2.2.2.2.2.1
theorem dX0_choose_30 : decode cX0_choose 30 = .ok (.aload_n 0, 1) := DX0_choose_c1.2.2.2.2.2.2.2.2.1
theorem dX0_choose_31 : decode cX0_choose 31 = .ok (.getfield 21, 3) := DX0_choose_c1.2.2.2.2.2.2.2.2.2
set_option maxRecDepth 100000 in
theorem DX0_choose_c2 : decode cX0_choose 34 = .ok (.aload_n 1, 1) ∧ decode cX0_choose 35 = .ok (.iload_n 3, 1) ∧ decode cX0_choose 36 = .ok (.invokevirtual 46, 3) ∧ decode cX0_choose 39 = .ok (.invokevirtual 75, 3) ∧ decode cX0_choose 42 = .ok (.pop, 1) ∧ decode cX0_choose 43 = .ok (.iinc 3 1, 3) ∧ decode cX0_choose 46 = .ok (.goto (-33), 3) ∧ decode cX0_choose 49 = .ok (.return_, 1) := by decide +kernel
theorem dX0_choose_34 : decode cX0_choose 34 = .ok (.aload_n 1, 1) := DX0_choose_c2.1
theorem dX0_choose_35 : decode cX0_choose 35 = .ok (.iload_n 3, 1) := DX0_choose_c2.2.1
theorem dX0_choose_36 : decode cX0_choose 36 = .ok (.invokevirtual 46, 3) := DX0_choose_c2.2.2.1
theorem dX0_choose_39 : decode cX0_choose 39 = .ok (.invokevirtual 75, 3) := DX0_choose_c2.2.2.2.1
theorem dX0_choose_42 : decode cX0_choose 42 = .ok (.pop, 1) := DX0_choose_c2.2.2.2.2.1
theorem dX0_choose_43 : decode cX0_choose 43 = .ok (.iinc 3 1, 3) := DX0_choose_c2.2.2.2.2.2.1
theorem dX0_choose_46 : decode cX0_choose 46 = .ok (.goto (-33), 3) := DX0_choose_c2.2.2.2.2.2.2.1
theorem dX0_choose_49 : decode cX0_choose 49 = .ok (.return_, 1) := DX0_choose_c2.2.2.2.2.2.2.2
set_option maxRecDepth 100000 in
theorem DX0_keep_c0 : decode cX0_keep 0 = .ok (.iconst 0, 1) ∧ decode cX0_keep 1 = .ok (.istore_n 2, 1) ∧ decode cX0_keep 2 = .ok (.iload_n 2, 1) ∧ decode cX0_keep 3 = .ok (.aload_n 0, 1) ∧ decode cX0_keep 4 = .ok (.getfield 32, 3) ∧ decode cX0_keep 7 = .ok (.if_icmp .ge 19, 3) ∧ decode cX0_keep 10 = .ok (.aload_n 0, 1) ∧ decode cX0_keep 11 = .ok (.getfield 28, 3) ∧ decode cX0_keep 14 = .ok (.iload_n 2, 1) ∧ decode cX0_keep 15 = .ok (.iaload, 1) := by decide +kernel
theorem dX0_keep_0 : decode cX0_keep 0 = .ok (.iconst 0, 1) := DX0_keep_c0.1
theorem dX0_keep_1 : decode cX0_keep 1 = .ok (.istore_n 2, 1) := DX0_keep_c0.2.1
theorem dX0_keep_2 : decode cX0_keep 2 = .ok (.iload_n 2, 1) := DX0_keep_c0.2.2.1
theorem dX0_keep_3 : decode cX0_keep 3 = .ok (.aload_n 0, 1) := DX0_keep_c0.2.2.2.1
theorem dX0_keep_4 : decode cX0_keep 4 = .ok (.getfield 32, 3) := DX0_keep_c0.2.2.2.2.1
theorem dX0_keep_7 : decode cX0_keep 7 = .ok (.if_icmp .ge 19, 3) := DX0_keep_c0.2.2.2.2.2.1
theorem dX0_keep_10 : decode cX0_keep 10 = .ok (.aload_n 0, 1) := DX0_keep_c0.2.2.2.2.2.2.1
theorem dX0_keep_11 : decode cX0_keep 11 = .ok (.getfield 28, 3) := DX0_keep_c0.2.2.2.2.2.2.2.1
theorem dX0_keep_14 : decode cX0_keep 14 = .ok (.iload_n 2, 1) := DX0_keep_c0.2.2.2.2.2.2.2.2.1
theorem dX0_keep_15 : decode cX0_keep 15 = .ok (.iaload, 1) := DX0_keep_c0.2.2.2.2.2.2.2.2.2
set_option maxRecDepth 100000 in
theorem DX0_keep_c1 : decode cX0_keep 16 = .ok (.iload_n 1, 1) ∧ decode cX0_keep 17 = .ok (.if_icmp .ge 9, 3) ∧ decode cX0_keep 20 = .ok (.iinc 2 1, 3) ∧ decode cX0_keep 23 = .ok (.goto (-21), 3) ∧ decode cX0_keep 26 = .ok (.iload_n 2, 1) ∧ decode cX0_keep 27 = .ok (.aload_n 0, 1) ∧ decode cX0_keep 28 = .ok (.getfield 32, 3) ∧ decode cX0_keep 31 = .ok (.if_icmp .ge 17, 3) ∧ decode cX0_keep 34 = .ok (.aload_n 0, 1) ∧ decode cX0_keep 35 = .ok (.getfield 28, 3) := by decide +kernel
theorem dX0_keep_16 : decode cX0_keep 16 = .ok (.iload_n 1, 1) := DX0_keep_c1.1
theorem dX0_keep_17 : decode cX0_keep 17 = .ok (.if_icmp .ge 9, 3) := DX0_keep_c1.2.1
theorem dX0_keep_20 : decode cX0_keep 20 = .ok (.iinc 2 1, 3) := DX0_keep_c1.2.2.1
theorem dX0_keep_23 : decode cX0_keep 23 = .ok (.goto (-21), 3) := DX0_keep_c1.2.2.2.1
theorem dX0_keep_26 : decode cX0_keep 26 = .ok (.iload_n 2, 1) := DX0_keep_c1.2.2.2.2.1
theorem dX0_keep_27 : decode cX0_keep 27 = .ok (.aload_n 0, 1) := DX0_keep_c1.2.2.2.2.2.1
theorem dX0_keep_28 : decode cX0_keep 28 = .ok (.getfield 32, 3) := DX0_keep_c1.2.2.2.2.2.2.1
theorem dX0_keep_31 : decode cX0_keep 31 = .ok (.if_icmp .ge 17, 3) := DX0_keep_c1.2.2.2.2.2.2.2.1
theorem dX0_keep_34 : decode cX0_keep 34 = .ok (.aload_n 0, 1) := DX0_keep_c1.2.2.2.2.2.2.2.2.1
theorem dX0_keep_35 : decode cX0_keep 35 = .ok (.getfield 28, 3) := DX0_keep_c1.2.2.2.2.2.2.2.2.2
set_option maxRecDepth 100000 in
theorem DX0_keep_c2 : decode cX0_keep 38 = .ok (.iload_n 2, 1) ∧ decode cX0_keep 39 = .ok (.iaload, 1) ∧ decode cX0_keep 40 = .ok (.iload_n 1, 1) ∧ decode cX0_keep 41 = .ok (.if_icmp .ne 7, 3) ∧ decode cX0_keep 44 = .ok (.iconst 1, 1) ∧ decode cX0_keep 45 = .ok (.goto 4, 3) ∧ decode cX0_keep 48 = .ok (.iconst 0, 1) ∧ decode cX0_keep 49 = .ok (.istore_n 3, 1) ∧ decode cX0_keep 50 = .ok (.iload_n 3, 1) ∧ decode cX0_keep 51 = .ok (.ifCond .ne 15, 3) := by decide +kernel
theorem dX0_keep_38 : decode cX0_keep 38 = .ok (.iload_n 2, 1) := DX0_keep_c2.1
theorem dX0_keep_39 : decode cX0_keep 39 = .ok (.iaload, 1) := DX0_keep_c2.2.1
theorem dX0_keep_40 : decode cX0_keep 40 = .ok (.iload_n 1, 1) := DX0_keep_c2.2.2.1
theorem dX0_keep_41 : decode cX0_keep 41 = .ok (.if_icmp .ne 7, 3) := DX0_keep_c2.2.2.2.1
theorem dX0_keep_44 : decode cX0_keep 44 = .ok (.iconst 1, 1) := DX0_keep_c2.2.2.2.2.1
theorem dX0_keep_45 : decode cX0_keep 45 = .ok (.goto 4, 3) := DX0_keep_c2.2.2.2.2.2.1
theorem dX0_keep_48 : decode cX0_keep 48 = .ok (.iconst 0, 1) := DX0_keep_c2.2.2.2.2.2.2.1
theorem dX0_keep_49 : decode cX0_keep 49 = .ok (.istore_n 3, 1) := DX0_keep_c2.2.2.2.2.2.2.2.1
theorem dX0_keep_50 : decode cX0_keep 50 = .ok (.iload_n 3, 1) := DX0_keep_c2.2.2.2.2.2.2.2.2.1
theorem dX0_keep_51 : decode cX0_keep 51 = .ok (.ifCond .ne 15, 3) := DX0_keep_c2.2.2.2.2.2.2.2.2.2
set_option maxRecDepth 100000 in
theorem DX0_keep_c3 : decode cX0_keep 54 = .ok (.aload_n 0, 1) ∧ decode cX0_keep 55 = .ok (.getfield 32, 3) ∧ decode cX0_keep 58 = .ok (.aload_n 0, 1) ∧ decode cX0_keep 59 = .ok (.getfield 28, 3) ∧ decode cX0_keep 62 = .ok (.arraylength, 1) ∧ decode cX0_keep 63 = .ok (.if_icmp .lt 4, 3) ∧ decode cX0_keep 66 = .ok (.return_, 1) ∧ decode cX0_keep 67 = .ok (.aload_n 0, 1) ∧ decode cX0_keep 68 = .ok (.getfield 32, 3) ∧ decode cX0_keep 71 = .ok (.istore 4, 2) := by decide +kernel
theorem dX0_keep_54 : decode cX0_keep 54 = .ok (.aload_n 0, 1) := DX0_keep_c3.1
theorem dX0_keep_55 : decode cX0_keep 55 = .ok (.getfield 32, 3) := DX0_keep_c3.2.1
theorem dX0_keep_58 : decode cX0_keep 58 = .ok (.aload_n 0, 1) := DX0_keep_c3.2.2.1
theorem dX0_keep_59 : decode cX0_keep 59 = .ok (.getfield 28, 3) := DX0_keep_c3.2.2.2.1
theorem dX0_keep_62 : decode cX0_keep 62 = .ok (.arraylength, 1) := DX0_keep_c3.2.2.2.2.1
theorem dX0_keep_63 : decode cX0_keep 63 = .ok (.if_icmp .lt 4, 3) := DX0_keep_c3.2.2.2.2.2.1
theorem dX0_keep_66 : decode cX0_keep 66 = .ok (.return_, 1) := DX0_keep_c3.2.2.2.2.2.2.1
theorem dX0_keep_67 : decode cX0_keep 67 = .ok (.aload_n 0, 1) := DX0_keep_c3.2.2.2.2.2.2.2.1
theorem dX0_keep_68 : decode cX0_keep 68 = .ok (.getfield 32, 3) := DX0_keep_c3.2.2.2.2.2.2.2.2.1
theorem dX0_keep_71 : decode cX0_keep 71 = .ok (.istore 4, 2) := DX0_keep_c3.2.2.2.2.2.2.2.2.2
set_option maxRecDepth 100000 in
theorem DX0_keep_c4 : decode cX0_keep 73 = .ok (.iload 4, 2) ∧ decode cX0_keep 75 = .ok (.iload_n 2, 1) ∧ decode cX0_keep 76 = .ok (.if_icmp .le 25, 3) ∧ decode cX0_keep 79 = .ok (.aload_n 0, 1) ∧ decode cX0_keep 80 = .ok (.getfield 28, 3) ∧ decode cX0_keep 83 = .ok (.iload 4, 2) ∧ decode cX0_keep 85 = .ok (.aload_n 0, 1) ∧ decode cX0_keep 86 = .ok (.getfield 28, 3) ∧ decode cX0_keep 89 = .ok (.iload 4, 2) ∧ decode cX0_keep 91 = .ok (.iconst 1, 1) := by decide +kernel
theorem dX0_keep_73 : decode cX0_keep 73 = .ok (.iload 4, 2) := DX0_keep_c4.1
theorem dX0_keep_75 : decode cX0_keep 75 = .ok (.iload_n 2, 1) := DX0_keep_c4.2.1
theorem dX0_keep_76 : decode cX0_keep 76 = .ok (.if_icmp .le 25, 3) := DX0_keep_c4.2.2.1
theorem dX0_keep_79 : decode cX0_keep 79 = .ok (.aload_n 0, 1) := DX0_keep_c4.2.2.2.1
theorem dX0_keep_80 : decode cX0_keep 80 = .ok (.getfield 28, 3) := DX0_keep_c4.2.2.2.2.1
theorem dX0_keep_83 : decode cX0_keep 83 = .ok (.iload 4, 2) := DX0_keep_c4.2.2.2.2.2.1
theorem dX0_keep_85 : decode cX0_keep 85 = .ok (.aload_n 0, 1) := DX0_keep_c4.2.2.2.2.2.2.1
theorem dX0_keep_86 : decode cX0_keep 86 = .ok (.getfield 28, 3) := DX0_keep_c4.2.2.2.2.2.2.2.1
theorem dX0_keep_89 : decode cX0_keep 89 = .ok (.iload 4, 2) := DX0_keep_c4.2.2.2.2.2.2.2.2.1
theorem dX0_keep_91 : decode cX0_keep 91 = .ok (.iconst 1, 1) := DX0_keep_c4.2.2.2.2.2.2.2.2.2
set_option maxRecDepth 100000 in
theorem DX0_keep_c5 : decode cX0_keep 92 = .ok (.isub, 1) ∧ decode cX0_keep 93 = .ok (.iaload, 1) ∧ decode cX0_keep 94 = .ok (.iastore, 1) ∧ decode cX0_keep 95 = .ok (.iinc 4 (-1), 3) ∧ decode cX0_keep 98 = .ok (.goto (-25), 3) ∧ decode cX0_keep 101 = .ok (.aload_n 0, 1) ∧ decode cX0_keep 102 = .ok (.getfield 28, 3) ∧ decode cX0_keep 105 = .ok (.iload_n 2, 1) ∧ decode cX0_keep 106 = .ok (.iload_n 1, 1) ∧ decode cX0_keep 107 = .ok (.iastore, 1) := by decide +kernel
theorem dX0_keep_92 : decode cX0_keep 92 = .ok (.isub, 1) := DX0_keep_c5.1
theorem dX0_keep_93 : decode cX0_keep 93 = .ok (.iaload, 1) := DX0_keep_c5.2.1
theorem dX0_keep_94 : decode cX0_keep 94 = .ok (.iastore, 1) := DX0_keep_c5.2.2.1
theorem dX0_keep_95 : decode cX0_keep 95 = .ok (.iinc 4 (-1), 3) := DX0_keep_c5.2.2.2.1
theorem dX0_keep_98 : decode cX0_keep 98 = .ok (.goto (-25), 3) := DX0_keep_c5.2.2.2.2.1
theorem dX0_keep_101 : decode cX0_keep 101 = .ok (.aload_n 0, 1) := DX0_keep_c5.2.2.2.2.2.1
theorem dX0_keep_102 : decode cX0_keep 102 = .ok (.getfield 28, 3) := DX0_keep_c5.2.2.2.2.2.2.1
theorem dX0_keep_105 : decode cX0_keep 105 = .ok (.iload_n 2, 1) := DX0_keep_c5.2.2.2.2.2.2.2.1
theorem dX0_keep_106 : decode cX0_keep 106 = .ok (.iload_n 1, 1) := DX0_keep_c5.2.2.2.2.2.2.2.2.1
theorem dX0_keep_107 : decode cX0_keep 107 = .ok (.iastore, 1) := DX0_keep_c5.2.2.2.2.2.2.2.2.2
set_option maxRecDepth 100000 in
theorem DX0_keep_c6 : decode cX0_keep 108 = .ok (.aload_n 0, 1) ∧ decode cX0_keep 109 = .ok (.dup, 1) ∧ decode cX0_keep 110 = .ok (.getfield 32, 3) ∧ decode cX0_keep 113 = .ok (.iconst 1, 1) ∧ decode cX0_keep 114 = .ok (.iadd, 1) ∧ decode cX0_keep 115 = .ok (.putfield 32, 3) ∧ decode cX0_keep 118 = .ok (.return_, 1) := by decide +kernel
theorem dX0_keep_108 : decode cX0_keep 108 = .ok (.aload_n 0, 1) := DX0_keep_c6.1
theorem dX0_keep_109 : decode cX0_keep 109 = .ok (.dup, 1) := DX0_keep_c6.2.1
theorem dX0_keep_110 : decode cX0_keep 110 = .ok (.getfield 32, 3) := DX0_keep_c6.2.2.1
theorem dX0_keep_113 : decode cX0_keep 113 = .ok (.iconst 1, 1) := DX0_keep_c6.2.2.2.1
theorem dX0_keep_114 : decode cX0_keep 114 = .ok (.iadd, 1) := DX0_keep_c6.2.2.2.2.1
theorem dX0_keep_115 : decode cX0_keep 115 = .ok (.putfield 32, 3) := DX0_keep_c6.2.2.2.2.2.1
theorem dX0_keep_118 : decode cX0_keep 118 = .ok (.return_, 1) := DX0_keep_c6.2.2.2.2.2.2
set_option maxRecDepth 100000 in
theorem DX0_codeAt_c0 : decode cX0_codeAt 0 = .ok (.iload_n 1, 1) ∧ decode cX0_codeAt 1 = .ok (.ifCond .lt 20, 3) ∧ decode cX0_codeAt 4 = .ok (.iload_n 1, 1) ∧ decode cX0_codeAt 5 = .ok (.aload_n 0, 1) ∧ decode cX0_codeAt 6 = .ok (.getfield 32, 3) ∧ decode cX0_codeAt 9 = .ok (.if_icmp .ge 12, 3) ∧ decode cX0_codeAt 12 = .ok (.aload_n 0, 1) ∧ decode cX0_codeAt 13 = .ok (.getfield 28, 3) ∧ decode cX0_codeAt 16 = .ok (.iload_n 1, 1) ∧ decode cX0_codeAt 17 = .ok (.iaload, 1) := by decide +kernel
theorem dX0_codeAt_0 : decode cX0_codeAt 0 = .ok (.iload_n 1, 1) := DX0_codeAt_c0.1
theorem dX0_codeAt_1 : decode cX0_codeAt 1 = .ok (.ifCond .lt 20, 3) := DX0_codeAt_c0.2.1
theorem dX0_codeAt_4 : decode cX0_codeAt 4 = .ok (.iload_n 1, 1) := DX0_codeAt_c0.2.2.1
theorem dX0_codeAt_5 : decode cX0_codeAt 5 = .ok (.aload_n 0, 1) := DX0_codeAt_c0.2.2.2.1
theorem dX0_codeAt_6 : decode cX0_codeAt 6 = .ok (.getfield 32, 3) := DX0_codeAt_c0.2.2.2.2.1
theorem dX0_codeAt_9 : decode cX0_codeAt 9 = .ok (.if_icmp .ge 12, 3) := DX0_codeAt_c0.2.2.2.2.2.1
theorem dX0_codeAt_12 : decode cX0_codeAt 12 = .ok (.aload_n 0, 1) := DX0_codeAt_c0.2.2.2.2.2.2.1
theorem dX0_codeAt_13 : decode cX0_codeAt 13 = .ok (.getfield 28, 3) := DX0_codeAt_c0.2.2.2.2.2.2.2.1
theorem dX0_codeAt_16 : decode cX0_codeAt 16 = .ok (.iload_n 1, 1) := DX0_codeAt_c0.2.2.2.2.2.2.2.2.1
theorem dX0_codeAt_17 : decode cX0_codeAt 17 = .ok (.iaload, 1) := DX0_codeAt_c0.2.2.2.2.2.2.2.2.2
set_option maxRecDepth 100000 in
theorem DX0_codeAt_c1 : decode cX0_codeAt 18 = .ok (.goto 5, 3) ∧ decode cX0_codeAt 21 = .ok (.bipush (-9), 2) ∧ decode cX0_codeAt 23 = .ok (.ireturn, 1) := by decide +kernel
theorem dX0_codeAt_18 : decode cX0_codeAt 18 = .ok (.goto 5, 3) := DX0_codeAt_c1.1
theorem dX0_codeAt_21 : decode cX0_codeAt 21 = .ok (.bipush (-9), 2) := DX0_codeAt_c1.2.1
theorem dX0_codeAt_23 : decode cX0_codeAt 23 = .ok (.ireturn, 1) := DX0_codeAt_c1.2.2
set_option maxRecDepth 100000 in
theorem DX0_deckOf_c0 : decode cX0_deckOf 0 = .ok (.iload_n 1, 1) ∧ decode cX0_deckOf 1 = .ok (.ifCond .lt 40, 3) ∧ decode cX0_deckOf 4 = .ok (.iload_n 1, 1) ∧ decode cX0_deckOf 5 = .ok (.aload_n 0, 1) ∧ decode cX0_deckOf 6 = .ok (.getfield 32, 3) ∧ decode cX0_deckOf 9 = .ok (.if_icmp .ge 32, 3) ∧ decode cX0_deckOf 12 = .ok (.aload_n 0, 1) ∧ decode cX0_deckOf 13 = .ok (.getfield 12, 3) ∧ decode cX0_deckOf 16 = .ok (.aload_n 0, 1) ∧ decode cX0_deckOf 17 = .ok (.getfield 21, 3) := by decide +kernel
theorem dX0_deckOf_0 : decode cX0_deckOf 0 = .ok (.iload_n 1, 1) := DX0_deckOf_c0.1
theorem dX0_deckOf_1 : decode cX0_deckOf 1 = .ok (.ifCond .lt 40, 3) := DX0_deckOf_c0.2.1
theorem dX0_deckOf_4 : decode cX0_deckOf 4 = .ok (.iload_n 1, 1) := DX0_deckOf_c0.2.2.1
theorem dX0_deckOf_5 : decode cX0_deckOf 5 = .ok (.aload_n 0, 1) := DX0_deckOf_c0.2.2.2.1
theorem dX0_deckOf_6 : decode cX0_deckOf 6 = .ok (.getfield 32, 3) := DX0_deckOf_c0.2.2.2.2.1
theorem dX0_deckOf_9 : decode cX0_deckOf 9 = .ok (.if_icmp .ge 32, 3) := DX0_deckOf_c0.2.2.2.2.2.1
theorem dX0_deckOf_12 : decode cX0_deckOf 12 = .ok (.aload_n 0, 1) := DX0_deckOf_c0.2.2.2.2.2.2.1
theorem dX0_deckOf_13 : decode cX0_deckOf 13 = .ok (.getfield 12, 3) := DX0_deckOf_c0.2.2.2.2.2.2.2.1
theorem dX0_deckOf_16 : decode cX0_deckOf 16 = .ok (.aload_n 0, 1) := DX0_deckOf_c0.2.2.2.2.2.2.2.2.1
theorem dX0_deckOf_17 : decode cX0_deckOf 17 = .ok (.getfield 21, 3) := DX0_deckOf_c0.2.2.2.2.2.2.2.2.2
set_option maxRecDepth 100000 in
theorem DX0_deckOf_c1 : decode cX0_deckOf 20 = .ok (.invokevirtual 43, 3) ∧ decode cX0_deckOf 23 = .ok (.aload_n 0, 1) ∧ decode cX0_deckOf 24 = .ok (.getfield 28, 3) ∧ decode cX0_deckOf 27 = .ok (.iload_n 1, 1) ∧ decode cX0_deckOf 28 = .ok (.iaload, 1) ∧ decode cX0_deckOf 29 = .ok (.invokevirtual 50, 3) ∧ decode cX0_deckOf 32 = .ok (.aload_n 2, 1) ∧ decode cX0_deckOf 33 = .ok (.aload_n 0, 1) ∧ decode cX0_deckOf 34 = .ok (.getfield 12, 3) ∧ decode cX0_deckOf 37 = .ok (.aload_n 3, 1) := by decide +kernel
theorem dX0_deckOf_20 : decode cX0_deckOf 20 = .ok (.invokevirtual 43, 3) := DX0_deckOf_c1.1
theorem dX0_deckOf_23 : decode cX0_deckOf 23 = .ok (.aload_n 0, 1) := DX0_deckOf_c1.2.1
theorem dX0_deckOf_24 : decode cX0_deckOf 24 = .ok (.getfield 28, 3) := DX0_deckOf_c1.2.2.1
theorem dX0_deckOf_27 : decode cX0_deckOf 27 = .ok (.iload_n 1, 1) := DX0_deckOf_c1.2.2.2.1
theorem dX0_deckOf_28 : decode cX0_deckOf 28 = .ok (.iaload, 1) := DX0_deckOf_c1.2.2.2.2.1
theorem dX0_deckOf_29 : decode cX0_deckOf 29 = .ok (.invokevirtual 50, 3) := DX0_deckOf_c1.2.2.2.2.2.1
theorem dX0_deckOf_32 : decode cX0_deckOf 32 = .ok (.aload_n 2, 1) := DX0_deckOf_c1.2.2.2.2.2.2.1
theorem dX0_deckOf_33 : decode cX0_deckOf 33 = .ok (.aload_n 0, 1) := DX0_deckOf_c1.2.2.2.2.2.2.2.1
theorem dX0_deckOf_34 : decode cX0_deckOf 34 = .ok (.getfield 12, 3) := DX0_deckOf_c1.2.2.2.2.2.2.2.2.1
theorem dX0_deckOf_37 : decode cX0_deckOf 37 = .ok (.aload_n 3, 1) := DX0_deckOf_c1.2.2.2.2.2.2.2.2.2
set_option maxRecDepth 100000 in
theorem DX0_deckOf_c2 : decode cX0_deckOf 38 = .ok (.invokevirtual 54, 3) ∧ decode cX0_deckOf 41 = .ok (.return_, 1) := by decide +kernel
theorem dX0_deckOf_38 : decode cX0_deckOf 38 = .ok (.invokevirtual 54, 3) := DX0_deckOf_c2.1
theorem dX0_deckOf_41 : decode cX0_deckOf 41 = .ok (.return_, 1) := DX0_deckOf_c2.2
set_option maxRecDepth 100000 in
theorem DX1_init_c0 : decode cX1_init 0 = .ok (.aload_n 0, 1) ∧ decode cX1_init 1 = .ok (.invokespecial 3, 3) ∧ decode cX1_init 4 = .ok (.aload_n 0, 1) ∧ decode cX1_init 5 = .ok (.new 9, 3) ∧ decode cX1_init 8 = .ok (.dup, 1) ∧ decode cX1_init 9 = .ok (.invokespecial 11, 3) ∧ decode cX1_init 12 = .ok (.putfield 12, 3) ∧ decode cX1_init 15 = .ok (.aload_n 0, 1) ∧ decode cX1_init 16 = .ok (.bipush 8, 2) ∧ decode cX1_init 18 = .ok (.newarray .long, 2) := by decide +kernel
theorem dX1_init_0 : decode cX1_init 0 = .ok (.aload_n 0, 1) := DX1_init_c0.1
theorem dX1_init_1 : decode cX1_init 1 = .ok (.invokespecial 3, 3) := DX1_init_c0.2.1
theorem dX1_init_4 : decode cX1_init 4 = .ok (.aload_n 0, 1) := DX1_init_c0.2.2.1
theorem dX1_init_5 : decode cX1_init 5 = .ok (.new 9, 3) := DX1_init_c0.2.2.2.1
theorem dX1_init_8 : decode cX1_init 8 = .ok (.dup, 1) := DX1_init_c0.2.2.2.2.1
theorem dX1_init_9 : decode cX1_init 9 = .ok (.invokespecial 11, 3) := DX1_init_c0.2.2.2.2.2.1
theorem dX1_init_12 : decode cX1_init 12 = .ok (.putfield 12, 3) := DX1_init_c0.2.2.2.2.2.2.1
theorem dX1_init_15 : decode cX1_init 15 = .ok (.aload_n 0, 1) := DX1_init_c0.2.2.2.2.2.2.2.1
theorem dX1_init_16 : decode cX1_init 16 = .ok (.bipush 8, 2) := DX1_init_c0.2.2.2.2.2.2.2.2.1
theorem dX1_init_18 : decode cX1_init 18 = .ok (.newarray .long, 2) := DX1_init_c0.2.2.2.2.2.2.2.2.2
set_option maxRecDepth 100000 in
theorem DX1_init_c1 : decode cX1_init 20 = .ok (.putfield 18, 3) ∧ decode cX1_init 23 = .ok (.aload_n 0, 1) ∧ decode cX1_init 24 = .ok (.bipush 8, 2) ∧ decode cX1_init 26 = .ok (.newarray .int, 2) ∧ decode cX1_init 28 = .ok (.putfield 22, 3) ∧ decode cX1_init 31 = .ok (.aload_n 0, 1) ∧ decode cX1_init 32 = .ok (.bipush 8, 2) ∧ decode cX1_init 34 = .ok (.newarray .int, 2) ∧ decode cX1_init 36 = .ok (.putfield 26, 3) ∧ decode cX1_init 39 = .ok (.aload_n 0, 1) := by decide +kernel
theorem dX1_init_20 : decode cX1_init 20 = .ok (.putfield 18, 3) := DX1_init_c1.1
theorem dX1_init_23 : decode cX1_init 23 = .ok (.aload_n 0, 1) := DX1_init_c1.2.1
theorem dX1_init_24 : decode cX1_init 24 = .ok (.bipush 8, 2) := DX1_init_c1.2.2.1
theorem dX1_init_26 : decode cX1_init 26 = .ok (.newarray .int, 2) := DX1_init_c1.2.2.2.1
theorem dX1_init_28 : decode cX1_init 28 = .ok (.putfield 22, 3) := DX1_init_c1.2.2.2.2.1
theorem dX1_init_31 : decode cX1_init 31 = .ok (.aload_n 0, 1) := DX1_init_c1.2.2.2.2.2.1
theorem dX1_init_32 : decode cX1_init 32 = .ok (.bipush 8, 2) := DX1_init_c1.2.2.2.2.2.2.1
theorem dX1_init_34 : decode cX1_init 34 = .ok (.newarray .int, 2) := DX1_init_c1.2.2.2.2.2.2.2.1
theorem dX1_init_36 : decode cX1_init 36 = .ok (.putfield 26, 3) := DX1_init_c1.2.2.2.2.2.2.2.2.1
theorem dX1_init_39 : decode cX1_init 39 = .ok (.aload_n 0, 1) := DX1_init_c1.2.2.2.2.2.2.2.2.2
set_option maxRecDepth 100000 in
theorem DX1_init_c2 : decode cX1_init 40 = .ok (.sipush 2048, 3) ∧ decode cX1_init 43 = .ok (.newarray .int, 2) ∧ decode cX1_init 45 = .ok (.putfield 29, 3) ∧ decode cX1_init 48 = .ok (.aload_n 0, 1) ∧ decode cX1_init 49 = .ok (.sipush 2048, 3) ∧ decode cX1_init 52 = .ok (.newarray .int, 2) ∧ decode cX1_init 54 = .ok (.putfield 32, 3) ∧ decode cX1_init 57 = .ok (.return_, 1) := by decide +kernel
theorem dX1_init_40 : decode cX1_init 40 = .ok (.sipush 2048, 3) := DX1_init_c2.1
theorem dX1_init_43 : decode cX1_init 43 = .ok (.newarray .int, 2) := DX1_init_c2.2.1
theorem dX1_init_45 : decode cX1_init 45 = .ok (.putfield 29, 3) := DX1_init_c2.2.2.1
theorem dX1_init_48 : decode cX1_init 48 = .ok (.aload_n 0, 1) := DX1_init_c2.2.2.2.1
theorem dX1_init_49 : decode cX1_init 49 = .ok (.sipush 2048, 3) := DX1_init_c2.2.2.2.2.1
theorem dX1_init_52 : decode cX1_init 52 = .ok (.newarray .int, 2) := DX1_init_c2.2.2.2.2.2.1
theorem dX1_init_54 : decode cX1_init 54 = .ok (.putfield 32, 3) := DX1_init_c2.2.2.2.2.2.2.1
theorem dX1_init_57 : decode cX1_init 57 = .ok (.return_, 1) := DX1_init_c2.2.2.2.2.2.2.2
set_option maxRecDepth 100000 in
theorem DX1_of_c0 : decode cX1_of 0 = .ok (.iload_n 1, 1) ∧ decode cX1_of 1 = .ok (.bipush 28, 2) ∧ decode cX1_of 3 = .ok (.ishl, 1) ∧ decode cX1_of 4 = .ok (.iload_n 2, 1) ∧ decode cX1_of 5 = .ok (.ior, 1) ∧ decode cX1_of 6 = .ok (.istore_n 3, 1) ∧ decode cX1_of 7 = .ok (.iload_n 3, 1) ∧ decode cX1_of 8 = .ok (.ldc 35, 2) ∧ decode cX1_of 10 = .ok (.imul, 1) ∧ decode cX1_of 11 = .ok (.bipush 21, 2) := by decide +kernel
theorem dX1_of_0 : decode cX1_of 0 = .ok (.iload_n 1, 1) := DX1_of_c0.1
theorem dX1_of_1 : decode cX1_of 1 = .ok (.bipush 28, 2) := DX1_of_c0.2.1
theorem dX1_of_3 : decode cX1_of 3 = .ok (.ishl, 1) := DX1_of_c0.2.2.1
theorem dX1_of_4 : decode cX1_of 4 = .ok (.iload_n 2, 1) := DX1_of_c0.2.2.2.1
theorem dX1_of_5 : decode cX1_of 5 = .ok (.ior, 1) := DX1_of_c0.2.2.2.2.1
theorem dX1_of_6 : decode cX1_of 6 = .ok (.istore_n 3, 1) := DX1_of_c0.2.2.2.2.2.1
theorem dX1_of_7 : decode cX1_of 7 = .ok (.iload_n 3, 1) := DX1_of_c0.2.2.2.2.2.2.1
theorem dX1_of_8 : decode cX1_of 8 = .ok (.ldc 35, 2) := DX1_of_c0.2.2.2.2.2.2.2.1
theorem dX1_of_10 : decode cX1_of 10 = .ok (.imul, 1) := DX1_of_c0.2.2.2.2.2.2.2.2.1
theorem dX1_of_11 : decode cX1_of 11 = .ok (.bipush 21, 2) := DX1_of_c0.2.2.2.2.2.2.2.2.2
set_option maxRecDepth 100000 in
theorem DX1_of_c1 : decode cX1_of 13 = .ok (.iushr, 1) ∧ decode cX1_of 14 = .ok (.istore 4, 2) ∧ decode cX1_of 16 = .ok (.aload_n 0, 1) ∧ decode cX1_of 17 = .ok (.getfield 29, 3) ∧ decode cX1_of 20 = .ok (.iload 4, 2) ∧ decode cX1_of 22 = .ok (.iaload, 1) ∧ decode cX1_of 23 = .ok (.iload_n 3, 1) ∧ decode cX1_of 24 = .ok (.if_icmp .eq 45, 3) ∧ decode cX1_of 27 = .ok (.aload_n 0, 1) ∧ decode cX1_of 28 = .ok (.iload_n 1, 1) := by decide +kernel
theorem dX1_of_13 : decode cX1_of 13 = .ok (.iushr, 1) := DX1_of_c1.1
theorem dX1_of_14 : decode cX1_of 14 = .ok (.istore 4, 2) := DX1_of_c1.2.1
theorem dX1_of_16 : decode cX1_of 16 = .ok (.aload_n 0, 1) := DX1_of_c1.2.2.1
theorem dX1_of_17 : decode cX1_of 17 = .ok (.getfield 29, 3) := DX1_of_c1.2.2.2.1
theorem dX1_of_20 : decode cX1_of 20 = .ok (.iload 4, 2) := DX1_of_c1.2.2.2.2.1
theorem dX1_of_22 : decode cX1_of 22 = .ok (.iaload, 1) := DX1_of_c1.2.2.2.2.2.1
theorem dX1_of_23 : decode cX1_of 23 = .ok (.iload_n 3, 1) := DX1_of_c1.2.2.2.2.2.2.1
theorem dX1_of_24 : decode cX1_of 24 = .ok (.if_icmp .eq 45, 3) := DX1_of_c1.2.2.2.2.2.2.2.1
theorem dX1_of_27 : decode cX1_of 27 = .ok (.aload_n 0, 1) := DX1_of_c1.2.2.2.2.2.2.2.2.1
theorem dX1_of_28 : decode cX1_of 28 = .ok (.iload_n 1, 1) := DX1_of_c1.2.2.2.2.2.2.2.2.2
set_option maxRecDepth 100000 in
theorem DX1_of_c2 : decode cX1_of 29 = .ok (.iload_n 2, 1) ∧ decode cX1_of 30 = .ok (.invokevirtual 36, 3) ∧ decode cX1_of 33 = .ok (.aload_n 0, 1) ∧ decode cX1_of 34 = .ok (.iconst 0, 1) ∧ decode cX1_of 35 = .ok (.iconst 1, 1) ∧ decode cX1_of 36 = .ok (.aload_n 0, 1) ∧ decode cX1_of 37 = .ok (.getfield 12, 3) ∧ decode cX1_of 40 = .ok (.invokevirtual 40, 3) ∧ decode cX1_of 43 = .ok (.ishl, 1) ∧ decode cX1_of 44 = .ok (.iconst 1, 1) := by decide +kernel
theorem dX1_of_29 : decode cX1_of 29 = .ok (.iload_n 2, 1) := DX1_of_c2.1
theorem dX1_of_30 : decode cX1_of 30 = .ok (.invokevirtual 36, 3) := DX1_of_c2.2.1
theorem dX1_of_33 : decode cX1_of 33 = .ok (.aload_n 0, 1) := DX1_of_c2.2.2.1
theorem dX1_of_34 : decode cX1_of 34 = .ok (.iconst 0, 1) := DX1_of_c2.2.2.2.1
theorem dX1_of_35 : decode cX1_of 35 = .ok (.iconst 1, 1) := DX1_of_c2.2.2.2.2.1
theorem dX1_of_36 : decode cX1_of 36 = .ok (.aload_n 0, 1) := DX1_of_c2.2.2.2.2.2.1
theorem dX1_of_37 : decode cX1_of 37 = .ok (.getfield 12, 3) := DX1_of_c2.2.2.2.2.2.2.1
theorem dX1_of_40 : decode cX1_of 40 = .ok (.invokevirtual 40, 3) := DX1_of_c2.2.2.2.2.2.2.2.1
theorem dX1_of_43 : decode cX1_of 43 = .ok (.ishl, 1) := DX1_of_c2.2.2.2.2.2.2.2.2.1
theorem dX1_of_44 : decode cX1_of 44 = .ok (.iconst 1, 1) := DX1_of_c2.2.2.2.2.2.2.2.2.2
set_option maxRecDepth 100000 in
theorem DX1_of_c3 : decode cX1_of 45 = .ok (.isub, 1) ∧ decode cX1_of 46 = .ok (.lconst 0, 1) ∧ decode cX1_of 47 = .ok (.invokestatic 44, 3) ∧ decode cX1_of 50 = .ok (.aload_n 0, 1) ∧ decode cX1_of 51 = .ok (.getfield 29, 3) ∧ decode cX1_of 54 = .ok (.iload 4, 2) ∧ decode cX1_of 56 = .ok (.iload_n 3, 1) ∧ decode cX1_of 57 = .ok (.iastore, 1) ∧ decode cX1_of 58 = .ok (.aload_n 0, 1) ∧ decode cX1_of 59 = .ok (.getfield 32, 3) := by decide +kernel
theorem dX1_of_45 : decode cX1_of 45 = .ok (.isub, 1) := DX1_of_c3.1
theorem dX1_of_46 : decode cX1_of 46 = .ok (.lconst 0, 1) := DX1_of_c3.2.1
theorem dX1_of_47 : decode cX1_of 47 = .ok (.invokestatic 44, 3) := DX1_of_c3.2.2.1
theorem dX1_of_50 : decode cX1_of 50 = .ok (.aload_n 0, 1) := DX1_of_c3.2.2.2.1
theorem dX1_of_51 : decode cX1_of 51 = .ok (.getfield 29, 3) := DX1_of_c3.2.2.2.2.1
theorem dX1_of_54 : decode cX1_of 54 = .ok (.iload 4, 2) := DX1_of_c3.2.2.2.2.2.1
theorem dX1_of_56 : decode cX1_of 56 = .ok (.iload_n 3, 1) := DX1_of_c3.2.2.2.2.2.2.1
theorem dX1_of_57 : decode cX1_of 57 = .ok (.iastore, 1) := DX1_of_c3.2.2.2.2.2.2.2.1
theorem dX1_of_58 : decode cX1_of 58 = .ok (.aload_n 0, 1) := DX1_of_c3.2.2.2.2.2.2.2.2.1
theorem dX1_of_59 : decode cX1_of 59 = .ok (.getfield 32, 3) := DX1_of_c3.2.2.2.2.2.2.2.2.2
set_option maxRecDepth 100000 in
theorem DX1_of_c4 : decode cX1_of 62 = .ok (.iload 4, 2) ∧ decode cX1_of 64 = .ok (.aload_n 0, 1) ∧ decode cX1_of 65 = .ok (.invokevirtual 48, 3) ∧ decode cX1_of 68 = .ok (.iastore, 1) ∧ decode cX1_of 69 = .ok (.aload_n 0, 1) ∧ decode cX1_of 70 = .ok (.getfield 32, 3) ∧ decode cX1_of 73 = .ok (.iload 4, 2) ∧ decode cX1_of 75 = .ok (.iaload, 1) ∧ decode cX1_of 76 = .ok (.ireturn, 1) := by decide +kernel
theorem dX1_of_62 : decode cX1_of 62 = .ok (.iload 4, 2) := DX1_of_c4.1
theorem dX1_of_64 : decode cX1_of 64 = .ok (.aload_n 0, 1) := DX1_of_c4.2.1
theorem dX1_of_65 : decode cX1_of 65 = .ok (.invokevirtual 48, 3) := DX1_of_c4.2.2.1
theorem dX1_of_68 : decode cX1_of 68 = .ok (.iastore, 1) := DX1_of_c4.2.2.2.1
theorem dX1_of_69 : decode cX1_of 69 = .ok (.aload_n 0, 1) := DX1_of_c4.2.2.2.2.1
theorem dX1_of_70 : decode cX1_of 70 = .ok (.getfield 32, 3) := DX1_of_c4.2.2.2.2.2.1
theorem dX1_of_73 : decode cX1_of 73 = .ok (.iload 4, 2) := DX1_of_c4.2.2.2.2.2.2.1
theorem dX1_of_75 : decode cX1_of 75 = .ok (.iaload, 1) := DX1_of_c4.2.2.2.2.2.2.2.1
theorem dX1_of_76 : decode cX1_of 76 = .ok (.ireturn, 1) := DX1_of_c4.2.2.2.2.2.2.2.2
set_option maxRecDepth 100000 in
theorem DX1_prepare_c0 : decode cX1_prepare 0 = .ok (.aload_n 0, 1) ∧ decode cX1_prepare 1 = .ok (.getfield 12, 3) ∧ decode cX1_prepare 4 = .ok (.iload_n 1, 1) ∧ decode cX1_prepare 5 = .ok (.iload_n 2, 1) ∧ decode cX1_prepare 6 = .ok (.invokevirtual 51, 3) ∧ decode cX1_prepare 9 = .ok (.aload_n 0, 1) ∧ decode cX1_prepare 10 = .ok (.iconst 0, 1) ∧ decode cX1_prepare 11 = .ok (.invokevirtual 54, 3) ∧ decode cX1_prepare 14 = .ok (.iconst 0, 1) ∧ decode cX1_prepare 15 = .ok (.istore_n 3, 1) := by decide +kernel
theorem dX1_prepare_0 : decode cX1_prepare 0 = .ok (.aload_n 0, 1) := DX1_prepare_c0.1
theorem dX1_prepare_1 : decode cX1_prepare 1 = .ok (.getfield 12, 3) := DX1_prepare_c0.2.1
theorem dX1_prepare_4 : decode cX1_prepare 4 = .ok (.iload_n 1, 1) := DX1_prepare_c0.2.2.1
theorem dX1_prepare_5 : decode cX1_prepare 5 = .ok (.iload_n 2, 1) := DX1_prepare_c0.2.2.2.1
theorem dX1_prepare_6 : decode cX1_prepare 6 = .ok (.invokevirtual 51, 3) := DX1_prepare_c0.2.2.2.2.1
theorem dX1_prepare_9 : decode cX1_prepare 9 = .ok (.aload_n 0, 1) := DX1_prepare_c0.2.2.2.2.2.1
theorem dX1_prepare_10 : decode cX1_prepare 10 = .ok (.iconst 0, 1) := DX1_prepare_c0.2.2.2.2.2.2.1
theorem dX1_prepare_11 : decode cX1_prepare 11 = .ok (.invokevirtual 54, 3) := DX1_prepare_c0.2.2.2.2.2.2.2.1
theorem dX1_prepare_14 : decode cX1_prepare 14 = .ok (.iconst 0, 1) := DX1_prepare_c0.2.2.2.2.2.2.2.2.1
theorem dX1_prepare_15 : decode cX1_prepare 15 = .ok (.istore_n 3, 1) := DX1_prepare_c0.2.2.2.2.2.2.2.2.2
set_option maxRecDepth 100000 in
theorem DX1_prepare_c1 : decode cX1_prepare 16 = .ok (.iload_n 3, 1) ∧ decode cX1_prepare 17 = .ok (.bipush 8, 2) ∧ decode cX1_prepare 19 = .ok (.if_icmp .ge 123, 3) ∧ decode cX1_prepare 22 = .ok (.aload_n 0, 1) ∧ decode cX1_prepare 23 = .ok (.getfield 12, 3) ∧ decode cX1_prepare 26 = .ok (.iload_n 3, 1) ∧ decode cX1_prepare 27 = .ok (.invokevirtual 58, 3) ∧ decode cX1_prepare 30 = .ok (.istore 4, 2) ∧ decode cX1_prepare 32 = .ok (.aload_n 0, 1) ∧ decode cX1_prepare 33 = .ok (.getfield 18, 3) := by decide +kernel
theorem dX1_prepare_16 : decode cX1_prepare 16 = .ok (.iload_n 3, 1) := DX1_prepare_c1.1
theorem dX1_prepare_17 : decode cX1_prepare 17 = .ok (.bipush 8, 2) := DX1_prepare_c1.2.1
theorem dX1_prepare_19 : decode cX1_prepare 19 = .ok (.if_icmp .ge 123, 3) := DX1_prepare_c1.2.2.1
theorem dX1_prepare_22 : decode cX1_prepare 22 = .ok (.aload_n 0, 1) := DX1_prepare_c1.2.2.2.1
theorem dX1_prepare_23 : decode cX1_prepare 23 = .ok (.getfield 12, 3) := DX1_prepare_c1.2.2.2.2.1
theorem dX1_prepare_26 : decode cX1_prepare 26 = .ok (.iload_n 3, 1) := DX1_prepare_c1.2.2.2.2.2.1
theorem dX1_prepare_27 : decode cX1_prepare 27 = .ok (.invokevirtual 58, 3) := DX1_prepare_c1.2.2.2.2.2.2.1
theorem dX1_prepare_30 : decode cX1_prepare 30 = .ok (.istore 4, 2) := DX1_prepare_c1.2.2.2.2.2.2.2.1
theorem dX1_prepare_32 : decode cX1_prepare 32 = .ok (.aload_n 0, 1) := DX1_prepare_c1.2.2.2.2.2.2.2.2.1
theorem dX1_prepare_33 : decode cX1_prepare 33 = .ok (.getfield 18, 3) := DX1_prepare_c1.2.2.2.2.2.2.2.2.2
set_option maxRecDepth 100000 in
theorem DX1_prepare_c2 : decode cX1_prepare 36 = .ok (.iload_n 3, 1) ∧ decode cX1_prepare 37 = .ok (.lconst 0, 1) ∧ decode cX1_prepare 38 = .ok (.lastore, 1) ∧ decode cX1_prepare 39 = .ok (.aload_n 0, 1) ∧ decode cX1_prepare 40 = .ok (.getfield 22, 3) ∧ decode cX1_prepare 43 = .ok (.iload_n 3, 1) ∧ decode cX1_prepare 44 = .ok (.iconst 0, 1) ∧ decode cX1_prepare 45 = .ok (.iastore, 1) ∧ decode cX1_prepare 46 = .ok (.iconst 0, 1) ∧ decode cX1_prepare 47 = .ok (.istore 5, 2) := by decide +kernel
theorem dX1_prepare_36 : decode cX1_prepare 36 = .ok (.iload_n 3, 1) := DX1_prepare_c2.1
theorem dX1_prepare_37 : decode cX1_prepare 37 = .ok (.lconst 0, 1) := DX1_prepare_c2.2.1
theorem dX1_prepare_38 : decode cX1_prepare 38 = .ok (.lastore, 1) := DX1_prepare_c2.2.2.1
theorem dX1_prepare_39 : decode cX1_prepare 39 = .ok (.aload_n 0, 1) := DX1_prepare_c2.2.2.2.1
theorem dX1_prepare_40 : decode cX1_prepare 40 = .ok (.getfield 22, 3) := DX1_prepare_c2.2.2.2.2.1
theorem dX1_prepare_43 : decode cX1_prepare 43 = .ok (.iload_n 3, 1) := DX1_prepare_c2.2.2.2.2.2.1
theorem dX1_prepare_44 : decode cX1_prepare 44 = .ok (.iconst 0, 1) := DX1_prepare_c2.2.2.2.2.2.2.1
theorem dX1_prepare_45 : decode cX1_prepare 45 = .ok (.iastore, 1) := DX1_prepare_c2.2.2.2.2.2.2.2.1
theorem dX1_prepare_46 : decode cX1_prepare 46 = .ok (.iconst 0, 1) := DX1_prepare_c2.2.2.2.2.2.2.2.2.1
theorem dX1_prepare_47 : decode cX1_prepare 47 = .ok (.istore 5, 2) := DX1_prepare_c2.2.2.2.2.2.2.2.2.2
set_option maxRecDepth 100000 in
theorem DX1_prepare_c3 : decode cX1_prepare 49 = .ok (.iload 5, 2) ∧ decode cX1_prepare 51 = .ok (.bipush 8, 2) ∧ decode cX1_prepare 53 = .ok (.if_icmp .ge 83, 3) ∧ decode cX1_prepare 56 = .ok (.aload_n 0, 1) ∧ decode cX1_prepare 57 = .ok (.getfield 18, 3) ∧ decode cX1_prepare 60 = .ok (.iload_n 3, 1) ∧ decode cX1_prepare 61 = .ok (.dup2, 1) ∧ decode cX1_prepare 62 = .ok (.laload, 1) ∧ decode cX1_prepare 63 = .ok (.iload 4, 2) ∧ decode cX1_prepare 65 = .ok (.iload 5, 2) := by decide +kernel
theorem dX1_prepare_49 : decode cX1_prepare 49 = .ok (.iload 5, 2) := DX1_prepare_c3.1
theorem dX1_prepare_51 : decode cX1_prepare 51 = .ok (.bipush 8, 2) := DX1_prepare_c3.2.1
theorem dX1_prepare_53 : decode cX1_prepare 53 = .ok (.if_icmp .ge 83, 3) := DX1_prepare_c3.2.2.1
theorem dX1_prepare_56 : decode cX1_prepare 56 = .ok (.aload_n 0, 1) := DX1_prepare_c3.2.2.2.1
theorem dX1_prepare_57 : decode cX1_prepare 57 = .ok (.getfield 18, 3) := DX1_prepare_c3.2.2.2.2.1
theorem dX1_prepare_60 : decode cX1_prepare 60 = .ok (.iload_n 3, 1) := DX1_prepare_c3.2.2.2.2.2.1
theorem dX1_prepare_61 : decode cX1_prepare 61 = .ok (.dup2, 1) := DX1_prepare_c3.2.2.2.2.2.2.1
theorem dX1_prepare_62 : decode cX1_prepare 62 = .ok (.laload, 1) := DX1_prepare_c3.2.2.2.2.2.2.2.1
theorem dX1_prepare_63 : decode cX1_prepare 63 = .ok (.iload 4, 2) := DX1_prepare_c3.2.2.2.2.2.2.2.2.1
theorem dX1_prepare_65 : decode cX1_prepare 65 = .ok (.iload 5, 2) := DX1_prepare_c3.2.2.2.2.2.2.2.2.2
set_option maxRecDepth 100000 in
theorem DX1_prepare_c4 : decode cX1_prepare 67 = .ok (.ishr, 1) ∧ decode cX1_prepare 68 = .ok (.iconst 1, 1) ∧ decode cX1_prepare 69 = .ok (.iand, 1) ∧ decode cX1_prepare 70 = .ok (.i2l, 1) ∧ decode cX1_prepare 71 = .ok (.bipush 8, 2) ∧ decode cX1_prepare 73 = .ok (.iload 5, 2) ∧ decode cX1_prepare 75 = .ok (.imul, 1) ∧ decode cX1_prepare 76 = .ok (.lshl, 1) ∧ decode cX1_prepare 77 = .ok (.lor, 1) ∧ decode cX1_prepare 78 = .ok (.lastore, 1) := by decide +kernel
theorem dX1_prepare_67 : decode cX1_prepare 67 = .ok (.ishr, 1) := DX1_prepare_c4.1
theorem dX1_prepare_68 : decode cX1_prepare 68 = .ok (.iconst 1, 1) := DX1_prepare_c4.2.1
theorem dX1_prepare_69 : decode cX1_prepare 69 = .ok (.iand, 1) := DX1_prepare_c4.2.2.1
theorem dX1_prepare_70 : decode cX1_prepare 70 = .ok (.i2l, 1) := DX1_prepare_c4.2.2.2.1
theorem dX1_prepare_71 : decode cX1_prepare 71 = .ok (.bipush 8, 2) := DX1_prepare_c4.2.2.2.2.1
theorem dX1_prepare_73 : decode cX1_prepare 73 = .ok (.iload 5, 2) := DX1_prepare_c4.2.2.2.2.2.1
theorem dX1_prepare_75 : decode cX1_prepare 75 = .ok (.imul, 1) := DX1_prepare_c4.2.2.2.2.2.2.1
theorem dX1_prepare_76 : decode cX1_prepare 76 = .ok (.lshl, 1) := DX1_prepare_c4.2.2.2.2.2.2.2.1
theorem dX1_prepare_77 : decode cX1_prepare 77 = .ok (.lor, 1) := DX1_prepare_c4.2.2.2.2.2.2.2.2.1
theorem dX1_prepare_78 : decode cX1_prepare 78 = .ok (.lastore, 1) := DX1_prepare_c4.2.2.2.2.2.2.2.2.2
set_option maxRecDepth 100000 in
theorem DX1_prepare_c5 : decode cX1_prepare 79 = .ok (.iconst 1, 1) ∧ decode cX1_prepare 80 = .ok (.iload 5, 2) ∧ decode cX1_prepare 82 = .ok (.ishl, 1) ∧ decode cX1_prepare 83 = .ok (.iconst 1, 1) ∧ decode cX1_prepare 84 = .ok (.iload_n 3, 1) ∧ decode cX1_prepare 85 = .ok (.ishl, 1) ∧ decode cX1_prepare 86 = .ok (.ior, 1) ∧ decode cX1_prepare 87 = .ok (.iconst (-1), 1) ∧ decode cX1_prepare 88 = .ok (.ixor, 1) ∧ decode cX1_prepare 89 = .ok (.istore 6, 2) := by decide +kernel
theorem dX1_prepare_79 : decode cX1_prepare 79 = .ok (.iconst 1, 1) := DX1_prepare_c5.1
theorem dX1_prepare_80 : decode cX1_prepare 80 = .ok (.iload 5, 2) := DX1_prepare_c5.2.1
theorem dX1_prepare_82 : decode cX1_prepare 82 = .ok (.ishl, 1) := DX1_prepare_c5.2.2.1
theorem dX1_prepare_83 : decode cX1_prepare 83 = .ok (.iconst 1, 1) := DX1_prepare_c5.2.2.2.1
theorem dX1_prepare_84 : decode cX1_prepare 84 = .ok (.iload_n 3, 1) := DX1_prepare_c5.2.2.2.2.1
theorem dX1_prepare_85 : decode cX1_prepare 85 = .ok (.ishl, 1) := DX1_prepare_c5.2.2.2.2.2.1
theorem dX1_prepare_86 : decode cX1_prepare 86 = .ok (.ior, 1) := DX1_prepare_c5.2.2.2.2.2.2.1
theorem dX1_prepare_87 : decode cX1_prepare 87 = .ok (.iconst (-1), 1) := DX1_prepare_c5.2.2.2.2.2.2.2.1
theorem dX1_prepare_88 : decode cX1_prepare 88 = .ok (.ixor, 1) := DX1_prepare_c5.2.2.2.2.2.2.2.2.1
theorem dX1_prepare_89 : decode cX1_prepare 89 = .ok (.istore 6, 2) := DX1_prepare_c5.2.2.2.2.2.2.2.2.2
set_option maxRecDepth 100000 in
theorem DX1_prepare_c6 : decode cX1_prepare 91 = .ok (.iload 5, 2) ∧ decode cX1_prepare 93 = .ok (.iload_n 3, 1) ∧ decode cX1_prepare 94 = .ok (.if_icmp .ge 36, 3) ∧ decode cX1_prepare 97 = .ok (.iload 4, 2) ∧ decode cX1_prepare 99 = .ok (.iload 6, 2) ∧ decode cX1_prepare 101 = .ok (.iand, 1) ∧ decode cX1_prepare 102 = .ok (.aload_n 0, 1) ∧ decode cX1_prepare 103 = .ok (.getfield 12, 3) ∧ decode cX1_prepare 106 = .ok (.iload 5, 2) ∧ decode cX1_prepare 108 = .ok (.invokevirtual 58, 3) := by decide +kernel
theorem dX1_prepare_91 : decode cX1_prepare 91 = .ok (.iload 5, 2) := DX1_prepare_c6.1
theorem dX1_prepare_93 : decode cX1_prepare 93 = .ok (.iload_n 3, 1) := DX1_prepare_c6.2.1
theorem dX1_prepare_94 : decode cX1_prepare 94 = .ok (.if_icmp .ge 36, 3) := DX1_prepare_c6.2.2.1
theorem dX1_prepare_97 : decode cX1_prepare 97 = .ok (.iload 4, 2) := DX1_prepare_c6.2.2.2.1
theorem dX1_prepare_99 : decode cX1_prepare 99 = .ok (.iload 6, 2) := DX1_prepare_c6.2.2.2.2.1
theorem dX1_prepare_101 : decode cX1_prepare 101 = .ok (.iand, 1) := DX1_prepare_c6.2.2.2.2.2.1
theorem dX1_prepare_102 : decode cX1_prepare 102 = .ok (.aload_n 0, 1) := DX1_prepare_c6.2.2.2.2.2.2.1
theorem dX1_prepare_103 : decode cX1_prepare 103 = .ok (.getfield 12, 3) := DX1_prepare_c6.2.2.2.2.2.2.2.1
theorem dX1_prepare_106 : decode cX1_prepare 106 = .ok (.iload 5, 2) := DX1_prepare_c6.2.2.2.2.2.2.2.2.1
theorem dX1_prepare_108 : decode cX1_prepare 108 = .ok (.invokevirtual 58, 3) := DX1_prepare_c6.2.2.2.2.2.2.2.2.2
set_option maxRecDepth 100000 in
theorem DX1_prepare_c7 : decode cX1_prepare 111 = .ok (.iload 6, 2) ∧ decode cX1_prepare 113 = .ok (.iand, 1) ∧ decode cX1_prepare 114 = .ok (.if_icmp .ne 16, 3) ∧ decode cX1_prepare 117 = .ok (.aload_n 0, 1) ∧ decode cX1_prepare 118 = .ok (.getfield 22, 3) ∧ decode cX1_prepare 121 = .ok (.iload_n 3, 1) ∧ decode cX1_prepare 122 = .ok (.dup2, 1) ∧ decode cX1_prepare 123 = .ok (.iaload, 1) ∧ decode cX1_prepare 124 = .ok (.iconst 1, 1) ∧ decode cX1_prepare 125 = .ok (.iload 5, 2) := by decide +kernel
theorem dX1_prepare_111 : decode cX1_prepare 111 = .ok (.iload 6, 2) := DX1_prepare_c7.1
theorem dX1_prepare_113 : decode cX1_prepare 113 = .ok (.iand, 1) := DX1_prepare_c7.2.1
theorem dX1_prepare_114 : decode cX1_prepare 114 = .ok (.if_icmp .ne 16, 3) := DX1_prepare_c7.2.2.1
theorem dX1_prepare_117 : decode cX1_prepare 117 = .ok (.aload_n 0, 1) := DX1_prepare_c7.2.2.2.1
theorem dX1_prepare_118 : decode cX1_prepare 118 = .ok (.getfield 22, 3) := DX1_prepare_c7.2.2.2.2.1
theorem dX1_prepare_121 : decode cX1_prepare 121 = .ok (.iload_n 3, 1) := DX1_prepare_c7.2.2.2.2.2.1
theorem dX1_prepare_122 : decode cX1_prepare 122 = .ok (.dup2, 1) := DX1_prepare_c7.2.2.2.2.2.2.1
theorem dX1_prepare_123 : decode cX1_prepare 123 = .ok (.iaload, 1) := DX1_prepare_c7.2.2.2.2.2.2.2.1
theorem dX1_prepare_124 : decode cX1_prepare 124 = .ok (.iconst 1, 1) := DX1_prepare_c7.2.2.2.2.2.2.2.2.1
theorem dX1_prepare_125 : decode cX1_prepare 125 = .ok (.iload 5, 2) := DX1_prepare_c7.2.2.2.2.2.2.2.2.2
set_option maxRecDepth 100000 in
theorem DX1_prepare_c8 : decode cX1_prepare 127 = .ok (.ishl, 1) ∧ decode cX1_prepare 128 = .ok (.ior, 1) ∧ decode cX1_prepare 129 = .ok (.iastore, 1) ∧ decode cX1_prepare 130 = .ok (.iinc 5 1, 3) ∧ decode cX1_prepare 133 = .ok (.goto (-84), 3) ∧ decode cX1_prepare 136 = .ok (.iinc 3 1, 3) ∧ decode cX1_prepare 139 = .ok (.goto (-123), 3) ∧ decode cX1_prepare 142 = .ok (.return_, 1) := by decide +kernel
theorem dX1_prepare_127 : decode cX1_prepare 127 = .ok (.ishl, 1) := DX1_prepare_c8.1
theorem dX1_prepare_128 : decode cX1_prepare 128 = .ok (.ior, 1) := DX1_prepare_c8.2.1
theorem dX1_prepare_129 : decode cX1_prepare 129 = .ok (.iastore, 1) := DX1_prepare_c8.2.2.1
theorem dX1_prepare_130 : decode cX1_prepare 130 = .ok (.iinc 5 1, 3) := DX1_prepare_c8.2.2.2.1
theorem dX1_prepare_133 : decode cX1_prepare 133 = .ok (.goto (-84), 3) := DX1_prepare_c8.2.2.2.2.1
theorem dX1_prepare_136 : decode cX1_prepare 136 = .ok (.iinc 3 1, 3) := DX1_prepare_c8.2.2.2.2.2.1
theorem dX1_prepare_139 : decode cX1_prepare 139 = .ok (.goto (-123), 3) := DX1_prepare_c8.2.2.2.2.2.2.1
theorem dX1_prepare_142 : decode cX1_prepare 142 = .ok (.return_, 1) := DX1_prepare_c8.2.2.2.2.2.2.2
set_option maxRecDepth 100000 in
theorem DX1_forgetFrom_c0 : decode cX1_forgetFrom 0 = .ok (.iload_n 1, 1) ∧ decode cX1_forgetFrom 1 = .ok (.istore_n 2, 1) ∧ decode cX1_forgetFrom 2 = .ok (.iload_n 2, 1) ∧ decode cX1_forgetFrom 3 = .ok (.bipush 8, 2) ∧ decode cX1_forgetFrom 5 = .ok (.if_icmp .ge 18, 3) ∧ decode cX1_forgetFrom 8 = .ok (.aload_n 0, 1) ∧ decode cX1_forgetFrom 9 = .ok (.getfield 26, 3) ∧ decode cX1_forgetFrom 12 = .ok (.iload_n 2, 1) ∧ decode cX1_forgetFrom 13 = .ok (.sipush 256, 3) ∧ decode cX1_forgetFrom 16 = .ok (.iastore, 1) := by decide +kernel
theorem dX1_forgetFrom_0 : decode cX1_forgetFrom 0 = .ok (.iload_n 1, 1) := DX1_forgetFrom_c0.1
theorem dX1_forgetFrom_1 : decode cX1_forgetFrom 1 = .ok (.istore_n 2, 1) := DX1_forgetFrom_c0.2.1
theorem dX1_forgetFrom_2 : decode cX1_forgetFrom 2 = .ok (.iload_n 2, 1) := DX1_forgetFrom_c0.2.2.1
theorem dX1_forgetFrom_3 : decode cX1_forgetFrom 3 = .ok (.bipush 8, 2) := DX1_forgetFrom_c0.2.2.2.1
theorem dX1_forgetFrom_5 : decode cX1_forgetFrom 5 = .ok (.if_icmp .ge 18, 3) := DX1_forgetFrom_c0.2.2.2.2.1
theorem dX1_forgetFrom_8 : decode cX1_forgetFrom 8 = .ok (.aload_n 0, 1) := DX1_forgetFrom_c0.2.2.2.2.2.1
theorem dX1_forgetFrom_9 : decode cX1_forgetFrom 9 = .ok (.getfield 26, 3) := DX1_forgetFrom_c0.2.2.2.2.2.2.1
theorem dX1_forgetFrom_12 : decode cX1_forgetFrom 12 = .ok (.iload_n 2, 1) := DX1_forgetFrom_c0.2.2.2.2.2.2.2.1
theorem dX1_forgetFrom_13 : decode cX1_forgetFrom 13 = .ok (.sipush 256, 3) := DX1_forgetFrom_c0.2.2.2.2.2.2.2.2.1
theorem dX1_forgetFrom_16 : decode cX1_forgetFrom 16 = .ok (.iastore, 1) := DX1_forgetFrom_c0.2.2.2.2.2.2.2.2.2
set_option maxRecDepth 100000 in
theorem DX1_forgetFrom_c1 : decode cX1_forgetFrom 17 = .ok (.iinc 2 1, 3) ∧ decode cX1_forgetFrom 20 = .ok (.goto (-18), 3) ∧ decode cX1_forgetFrom 23 = .ok (.return_, 1) := by decide +kernel
theorem dX1_forgetFrom_17 : decode cX1_forgetFrom 17 = .ok (.iinc 2 1, 3) := DX1_forgetFrom_c1.1
theorem dX1_forgetFrom_20 : decode cX1_forgetFrom 20 = .ok (.goto (-18), 3) := DX1_forgetFrom_c1.2.1
theorem dX1_forgetFrom_23 : decode cX1_forgetFrom 23 = .ok (.return_, 1) := DX1_forgetFrom_c1.2.2
set_option maxRecDepth 100000 in
theorem DX1_number_c0 : decode cX1_number 0 = .ok (.iload_n 1, 1) ∧ decode cX1_number 1 = .ok (.ifCond .lt 14, 3) ∧ decode cX1_number 4 = .ok (.iload_n 1, 1) ∧ decode cX1_number 5 = .ok (.aload_n 0, 1) ∧ decode cX1_number 6 = .ok (.getfield 12, 3) ∧ decode cX1_number 9 = .ok (.invokevirtual 40, 3) ∧ decode cX1_number 12 = .ok (.if_icmp .lt 4, 3) ∧ decode cX1_number 15 = .ok (.return_, 1) ∧ decode cX1_number 16 = .ok (.aload_n 0, 1) ∧ decode cX1_number 17 = .ok (.iload_n 2, 1) := by decide +kernel
theorem dX1_number_0 : decode cX1_number 0 = .ok (.iload_n 1, 1) := DX1_number_c0.1
theorem dX1_number_1 : decode cX1_number 1 = .ok (.ifCond .lt 14, 3) := DX1_number_c0.2.1
theorem dX1_number_4 : decode cX1_number 4 = .ok (.iload_n 1, 1) := DX1_number_c0.2.2.1
theorem dX1_number_5 : decode cX1_number 5 = .ok (.aload_n 0, 1) := DX1_number_c0.2.2.2.1
theorem dX1_number_6 : decode cX1_number 6 = .ok (.getfield 12, 3) := DX1_number_c0.2.2.2.2.1
theorem dX1_number_9 : decode cX1_number 9 = .ok (.invokevirtual 40, 3) := DX1_number_c0.2.2.2.2.2.1
theorem dX1_number_12 : decode cX1_number 12 = .ok (.if_icmp .lt 4, 3) := DX1_number_c0.2.2.2.2.2.2.1
theorem dX1_number_15 : decode cX1_number 15 = .ok (.return_, 1) := DX1_number_c0.2.2.2.2.2.2.2.1
theorem dX1_number_16 : decode cX1_number 16 = .ok (.aload_n 0, 1) := DX1_number_c0.2.2.2.2.2.2.2.2.1
theorem dX1_number_17 : decode cX1_number 17 = .ok (.iload_n 2, 1) := DX1_number_c0.2.2.2.2.2.2.2.2.2
set_option maxRecDepth 100000 in
theorem DX1_number_c1 : decode cX1_number 18 = .ok (.lload_n 3, 1) ∧ decode cX1_number 19 = .ok (.invokevirtual 62, 3) ∧ decode cX1_number 22 = .ok (.istore 5, 2) ∧ decode cX1_number 24 = .ok (.iload 5, 2) ∧ decode cX1_number 26 = .ok (.aload_n 0, 1) ∧ decode cX1_number 27 = .ok (.getfield 26, 3) ∧ decode cX1_number 30 = .ok (.iload_n 1, 1) ∧ decode cX1_number 31 = .ok (.iaload, 1) ∧ decode cX1_number 32 = .ok (.if_icmp .le 4, 3) ∧ decode cX1_number 35 = .ok (.return_, 1) := by decide +kernel
theorem dX1_number_18 : decode cX1_number 18 = .ok (.lload_n 3, 1) := DX1_number_c1.1
theorem dX1_number_19 : decode cX1_number 19 = .ok (.invokevirtual 62, 3) := DX1_number_c1.2.1
theorem dX1_number_22 : decode cX1_number 22 = .ok (.istore 5, 2) := DX1_number_c1.2.2.1
theorem dX1_number_24 : decode cX1_number 24 = .ok (.iload 5, 2) := DX1_number_c1.2.2.2.1
theorem dX1_number_26 : decode cX1_number 26 = .ok (.aload_n 0, 1) := DX1_number_c1.2.2.2.2.1
theorem dX1_number_27 : decode cX1_number 27 = .ok (.getfield 26, 3) := DX1_number_c1.2.2.2.2.2.1
theorem dX1_number_30 : decode cX1_number 30 = .ok (.iload_n 1, 1) := DX1_number_c1.2.2.2.2.2.2.1
theorem dX1_number_31 : decode cX1_number 31 = .ok (.iaload, 1) := DX1_number_c1.2.2.2.2.2.2.2.1
theorem dX1_number_32 : decode cX1_number 32 = .ok (.if_icmp .le 4, 3) := DX1_number_c1.2.2.2.2.2.2.2.2.1
theorem dX1_number_35 : decode cX1_number 35 = .ok (.return_, 1) := DX1_number_c1.2.2.2.2.2.2.2.2.2
set_option maxRecDepth 100000 in
theorem DX1_number_c2 : decode cX1_number 36 = .ok (.iload 5, 2) ∧ decode cX1_number 38 = .ok (.aload_n 0, 1) ∧ decode cX1_number 39 = .ok (.getfield 26, 3) ∧ decode cX1_number 42 = .ok (.iload_n 1, 1) ∧ decode cX1_number 43 = .ok (.iaload, 1) ∧ decode cX1_number 44 = .ok (.if_icmp .ge 16, 3) ∧ decode cX1_number 47 = .ok (.aload_n 0, 1) ∧ decode cX1_number 48 = .ok (.iload_n 1, 1) ∧ decode cX1_number 49 = .ok (.invokevirtual 54, 3) ∧ decode cX1_number 52 = .ok (.aload_n 0, 1) := by decide +kernel
theorem dX1_number_36 : decode cX1_number 36 = .ok (.iload 5, 2) := DX1_number_c2.1
theorem dX1_number_38 : decode cX1_number 38 = .ok (.aload_n 0, 1) := DX1_number_c2.2.1
theorem dX1_number_39 : decode cX1_number 39 = .ok (.getfield 26, 3) := DX1_number_c2.2.2.1
theorem dX1_number_42 : decode cX1_number 42 = .ok (.iload_n 1, 1) := DX1_number_c2.2.2.2.1
theorem dX1_number_43 : decode cX1_number 43 = .ok (.iaload, 1) := DX1_number_c2.2.2.2.2.1
theorem dX1_number_44 : decode cX1_number 44 = .ok (.if_icmp .ge 16, 3) := DX1_number_c2.2.2.2.2.2.1
theorem dX1_number_47 : decode cX1_number 47 = .ok (.aload_n 0, 1) := DX1_number_c2.2.2.2.2.2.2.1
theorem dX1_number_48 : decode cX1_number 48 = .ok (.iload_n 1, 1) := DX1_number_c2.2.2.2.2.2.2.2.1
theorem dX1_number_49 : decode cX1_number 49 = .ok (.invokevirtual 54, 3) := DX1_number_c2.2.2.2.2.2.2.2.2.1
theorem dX1_number_52 : decode cX1_number 52 = .ok (.aload_n 0, 1) := DX1_number_c2.2.2.2.2.2.2.2.2.2
set_option maxRecDepth 100000 in
theorem DX1_number_c3 : decode cX1_number 53 = .ok (.getfield 26, 3) ∧ decode cX1_number 56 = .ok (.iload_n 1, 1) ∧ decode cX1_number 57 = .ok (.iload 5, 2) ∧ decode cX1_number 59 = .ok (.iastore, 1) ∧ decode cX1_number 60 = .ok (.iconst 0, 1) ∧ decode cX1_number 61 = .ok (.istore 6, 2) ∧ decode cX1_number 63 = .ok (.iconst 0, 1) ∧ decode cX1_number 64 = .ok (.istore 7, 2) ∧ decode cX1_number 66 = .ok (.iload 7, 2) ∧ decode cX1_number 68 = .ok (.aload_n 0, 1) := by decide +kernel
theorem dX1_number_53 : decode cX1_number 53 = .ok (.getfield 26, 3) := DX1_number_c3.1
theorem dX1_number_56 : decode cX1_number 56 = .ok (.iload_n 1, 1) := DX1_number_c3.2.1
theorem dX1_number_57 : decode cX1_number 57 = .ok (.iload 5, 2) := DX1_number_c3.2.2.1
theorem dX1_number_59 : decode cX1_number 59 = .ok (.iastore, 1) := DX1_number_c3.2.2.2.1
theorem dX1_number_60 : decode cX1_number 60 = .ok (.iconst 0, 1) := DX1_number_c3.2.2.2.2.1
theorem dX1_number_61 : decode cX1_number 61 = .ok (.istore 6, 2) := DX1_number_c3.2.2.2.2.2.1
theorem dX1_number_63 : decode cX1_number 63 = .ok (.iconst 0, 1) := DX1_number_c3.2.2.2.2.2.2.1
theorem dX1_number_64 : decode cX1_number 64 = .ok (.istore 7, 2) := DX1_number_c3.2.2.2.2.2.2.2.1
theorem dX1_number_66 : decode cX1_number 66 = .ok (.iload 7, 2) := DX1_number_c3.2.2.2.2.2.2.2.2.1
theorem dX1_number_68 : decode cX1_number 68 = .ok (.aload_n 0, 1) := DX1_number_c3.2.2.2.2.2.2.2.2.2
set_option maxRecDepth 100000 in
theorem DX1_number_c4 : decode cX1_number 69 = .ok (.getfield 12, 3) ∧ decode cX1_number 72 = .ok (.invokevirtual 40, 3) ∧ decode cX1_number 75 = .ok (.if_icmp .ge 97, 3) ∧ decode cX1_number 78 = .ok (.iload_n 2, 1) ∧ decode cX1_number 79 = .ok (.iload 7, 2) ∧ decode cX1_number 81 = .ok (.ishr, 1) ∧ decode cX1_number 82 = .ok (.iconst 1, 1) ∧ decode cX1_number 83 = .ok (.iand, 1) ∧ decode cX1_number 84 = .ok (.iconst 1, 1) ∧ decode cX1_number 85 = .ok (.if_icmp .ne 25, 3) := by decide +kernel
theorem dX1_number_69 : decode cX1_number 69 = .ok (.getfield 12, 3) := DX1_number_c4.1
theorem dX1_number_72 : decode cX1_number 72 = .ok (.invokevirtual 40, 3) := DX1_number_c4.2.1
theorem dX1_number_75 : decode cX1_number 75 = .ok (.if_icmp .ge 97, 3) := DX1_number_c4.2.2.1
theorem dX1_number_78 : decode cX1_number 78 = .ok (.iload_n 2, 1) := DX1_number_c4.2.2.2.1
theorem dX1_number_79 : decode cX1_number 79 = .ok (.iload 7, 2) := DX1_number_c4.2.2.2.2.1
theorem dX1_number_81 : decode cX1_number 81 = .ok (.ishr, 1) := DX1_number_c4.2.2.2.2.2.1
theorem dX1_number_82 : decode cX1_number 82 = .ok (.iconst 1, 1) := DX1_number_c4.2.2.2.2.2.2.1
theorem dX1_number_83 : decode cX1_number 83 = .ok (.iand, 1) := DX1_number_c4.2.2.2.2.2.2.2.1
theorem dX1_number_84 : decode cX1_number 84 = .ok (.iconst 1, 1) := DX1_number_c4.2.2.2.2.2.2.2.2.1
theorem dX1_number_85 : decode cX1_number 85 = .ok (.if_icmp .ne 25, 3) := DX1_number_c4.2.2.2.2.2.2.2.2.2
set_option maxRecDepth 100000 in
theorem DX1_number_c5 : decode cX1_number 88 = .ok (.lload_n 3, 1) ∧ decode cX1_number 89 = .ok (.bipush 8, 2) ∧ decode cX1_number 91 = .ok (.iload 7, 2) ∧ decode cX1_number 93 = .ok (.imul, 1) ∧ decode cX1_number 94 = .ok (.lshr, 1) ∧ decode cX1_number 95 = .ok (.ldc2_w 66, 3) ∧ decode cX1_number 98 = .ok (.land, 1) ∧ decode cX1_number 99 = .ok (.iload 5, 2) ∧ decode cX1_number 101 = .ok (.i2l, 1) ∧ decode cX1_number 102 = .ok (.lcmp, 1) := by decide +kernel
theorem dX1_number_88 : decode cX1_number 88 = .ok (.lload_n 3, 1) := DX1_number_c5.1
theorem dX1_number_89 : decode cX1_number 89 = .ok (.bipush 8, 2) := DX1_number_c5.2.1
theorem dX1_number_91 : decode cX1_number 91 = .ok (.iload 7, 2) := DX1_number_c5.2.2.1
theorem dX1_number_93 : decode cX1_number 93 = .ok (.imul, 1) := DX1_number_c5.2.2.2.1
theorem dX1_number_94 : decode cX1_number 94 = .ok (.lshr, 1) := DX1_number_c5.2.2.2.2.1
theorem dX1_number_95 : decode cX1_number 95 = .ok (.ldc2_w 66, 3) := DX1_number_c5.2.2.2.2.2.1
theorem dX1_number_98 : decode cX1_number 98 = .ok (.land, 1) := DX1_number_c5.2.2.2.2.2.2.1
theorem dX1_number_99 : decode cX1_number 99 = .ok (.iload 5, 2) := DX1_number_c5.2.2.2.2.2.2.2.1
theorem dX1_number_101 : decode cX1_number 101 = .ok (.i2l, 1) := DX1_number_c5.2.2.2.2.2.2.2.2.1
theorem dX1_number_102 : decode cX1_number 102 = .ok (.lcmp, 1) := DX1_number_c5.2.2.2.2.2.2.2.2.2
set_option maxRecDepth 100000 in
theorem DX1_number_c6 : decode cX1_number 103 = .ok (.ifCond .ne 7, 3) ∧ decode cX1_number 106 = .ok (.iconst 1, 1) ∧ decode cX1_number 107 = .ok (.goto 4, 3) ∧ decode cX1_number 110 = .ok (.iconst 0, 1) ∧ decode cX1_number 111 = .ok (.istore 8, 2) ∧ decode cX1_number 113 = .ok (.iload 8, 2) ∧ decode cX1_number 115 = .ok (.ifCond .eq 51, 3) ∧ decode cX1_number 118 = .ok (.iload 6, 2) ∧ decode cX1_number 120 = .ok (.aload_n 0, 1) ∧ decode cX1_number 121 = .ok (.getfield 22, 3) := by decide +kernel
theorem dX1_number_103 : decode cX1_number 103 = .ok (.ifCond .ne 7, 3) := DX1_number_c6.1
theorem dX1_number_106 : decode cX1_number 106 = .ok (.iconst 1, 1) := DX1_number_c6.2.1
theorem dX1_number_107 : decode cX1_number 107 = .ok (.goto 4, 3) := DX1_number_c6.2.2.1
theorem dX1_number_110 : decode cX1_number 110 = .ok (.iconst 0, 1) := DX1_number_c6.2.2.2.1
theorem dX1_number_111 : decode cX1_number 111 = .ok (.istore 8, 2) := DX1_number_c6.2.2.2.2.1
theorem dX1_number_113 : decode cX1_number 113 = .ok (.iload 8, 2) := DX1_number_c6.2.2.2.2.2.1
theorem dX1_number_115 : decode cX1_number 115 = .ok (.ifCond .eq 51, 3) := DX1_number_c6.2.2.2.2.2.2.1
theorem dX1_number_118 : decode cX1_number 118 = .ok (.iload 6, 2) := DX1_number_c6.2.2.2.2.2.2.2.1
theorem dX1_number_120 : decode cX1_number 120 = .ok (.aload_n 0, 1) := DX1_number_c6.2.2.2.2.2.2.2.2.1
theorem dX1_number_121 : decode cX1_number 121 = .ok (.getfield 22, 3) := DX1_number_c6.2.2.2.2.2.2.2.2.2
set_option maxRecDepth 100000 in
theorem DX1_number_c7 : decode cX1_number 124 = .ok (.iload 7, 2) ∧ decode cX1_number 126 = .ok (.iaload, 1) ∧ decode cX1_number 127 = .ok (.iand, 1) ∧ decode cX1_number 128 = .ok (.ifCond .ne 38, 3) ∧ decode cX1_number 131 = .ok (.iload 6, 2) ∧ decode cX1_number 133 = .ok (.iconst 1, 1) ∧ decode cX1_number 134 = .ok (.iload 7, 2) ∧ decode cX1_number 136 = .ok (.ishl, 1) ∧ decode cX1_number 137 = .ok (.ior, 1) ∧ decode cX1_number 138 = .ok (.istore 6, 2) := by decide +kernel
theorem dX1_number_124 : decode cX1_number 124 = .ok (.iload 7, 2) := DX1_number_c7.1
theorem dX1_number_126 : decode cX1_number 126 = .ok (.iaload, 1) := DX1_number_c7.2.1
theorem dX1_number_127 : decode cX1_number 127 = .ok (.iand, 1) := DX1_number_c7.2.2.1
theorem dX1_number_128 : decode cX1_number 128 = .ok (.ifCond .ne 38, 3) := DX1_number_c7.2.2.2.1
theorem dX1_number_131 : decode cX1_number 131 = .ok (.iload 6, 2) := DX1_number_c7.2.2.2.2.1
theorem dX1_number_133 : decode cX1_number 133 = .ok (.iconst 1, 1) := DX1_number_c7.2.2.2.2.2.1
theorem dX1_number_134 : decode cX1_number 134 = .ok (.iload 7, 2) := DX1_number_c7.2.2.2.2.2.2.1
theorem dX1_number_136 : decode cX1_number 136 = .ok (.ishl, 1) := DX1_number_c7.2.2.2.2.2.2.2.1
theorem dX1_number_137 : decode cX1_number 137 = .ok (.ior, 1) := DX1_number_c7.2.2.2.2.2.2.2.2.1
theorem dX1_number_138 : decode cX1_number 138 = .ok (.istore 6, 2) := DX1_number_c7.2.2.2.2.2.2.2.2.2
set_option maxRecDepth 100000 in
theorem DX1_number_c8 : decode cX1_number 140 = .ok (.aload_n 0, 1) ∧ decode cX1_number 141 = .ok (.iload_n 1, 1) ∧ decode cX1_number 142 = .ok (.iconst 1, 1) ∧ decode cX1_number 143 = .ok (.iadd, 1) ∧ decode cX1_number 144 = .ok (.iload_n 2, 1) ∧ decode cX1_number 145 = .ok (.iconst 1, 1) ∧ decode cX1_number 146 = .ok (.iload 7, 2) ∧ decode cX1_number 148 = .ok (.ishl, 1) ∧ decode cX1_number 149 = .ok (.iconst (-1), 1) ∧ decode cX1_number 150 = .ok (.ixor, 1) := by decide +kernel
theorem dX1_number_140 : decode cX1_number 140 = .ok (.aload_n 0, 1) := DX1_number_c8.1
theorem dX1_number_141 : decode cX1_number 141 = .ok (.iload_n 1, 1) := DX1_number_c8.2.1
theorem dX1_number_142 : decode cX1_number 142 = .ok (.iconst 1, 1) := DX1_number_c8.2.2.1
theorem dX1_number_143 : decode cX1_number 143 = .ok (.iadd, 1) := DX1_number_c8.2.2.2.1
theorem dX1_number_144 : decode cX1_number 144 = .ok (.iload_n 2, 1) := DX1_number_c8.2.2.2.2.1
theorem dX1_number_145 : decode cX1_number 145 = .ok (.iconst 1, 1) := DX1_number_c8.2.2.2.2.2.1
theorem dX1_number_146 : decode cX1_number 146 = .ok (.iload 7, 2) := DX1_number_c8.2.2.2.2.2.2.1
theorem dX1_number_148 : decode cX1_number 148 = .ok (.ishl, 1) := DX1_number_c8.2.2.2.2.2.2.2.1
theorem dX1_number_149 : decode cX1_number 149 = .ok (.iconst (-1), 1) := DX1_number_c8.2.2.2.2.2.2.2.2.1
theorem dX1_number_150 : decode cX1_number 150 = .ok (.ixor, 1) := DX1_number_c8.2.2.2.2.2.2.2.2.2
set_option maxRecDepth 100000 in
theorem DX1_number_c9 : decode cX1_number 151 = .ok (.iand, 1) ∧ decode cX1_number 152 = .ok (.lload_n 3, 1) ∧ decode cX1_number 153 = .ok (.iconst 1, 1) ∧ decode cX1_number 154 = .ok (.lshl, 1) ∧ decode cX1_number 155 = .ok (.aload_n 0, 1) ∧ decode cX1_number 156 = .ok (.getfield 18, 3) ∧ decode cX1_number 159 = .ok (.iload 7, 2) ∧ decode cX1_number 161 = .ok (.laload, 1) ∧ decode cX1_number 162 = .ok (.lor, 1) ∧ decode cX1_number 163 = .ok (.invokestatic 44, 3) := by decide +kernel
theorem dX1_number_151 : decode cX1_number 151 = .ok (.iand, 1) := DX1_number_c9.1
theorem dX1_number_152 : decode cX1_number 152 = .ok (.lload_n 3, 1) := DX1_number_c9.2.1
theorem dX1_number_153 : decode cX1_number 153 = .ok (.iconst 1, 1) := DX1_number_c9.2.2.1
theorem dX1_number_154 : decode cX1_number 154 = .ok (.lshl, 1) := DX1_number_c9.2.2.2.1
theorem dX1_number_155 : decode cX1_number 155 = .ok (.aload_n 0, 1) := DX1_number_c9.2.2.2.2.1
theorem dX1_number_156 : decode cX1_number 156 = .ok (.getfield 18, 3) := DX1_number_c9.2.2.2.2.2.1
theorem dX1_number_159 : decode cX1_number 159 = .ok (.iload 7, 2) := DX1_number_c9.2.2.2.2.2.2.1
theorem dX1_number_161 : decode cX1_number 161 = .ok (.laload, 1) := DX1_number_c9.2.2.2.2.2.2.2.1
theorem dX1_number_162 : decode cX1_number 162 = .ok (.lor, 1) := DX1_number_c9.2.2.2.2.2.2.2.2.1
theorem dX1_number_163 : decode cX1_number 163 = .ok (.invokestatic 44, 3) := DX1_number_c9.2.2.2.2.2.2.2.2.2
set_option maxRecDepth 100000 in
theorem DX1_number_c10 : decode cX1_number 166 = .ok (.iinc 7 1, 3) ∧ decode cX1_number 169 = .ok (.goto (-103), 3) ∧ decode cX1_number 172 = .ok (.return_, 1) := by decide +kernel
theorem dX1_number_166 : decode cX1_number 166 = .ok (.iinc 7 1, 3) := DX1_number_c10.1
theorem dX1_number_169 : decode cX1_number 169 = .ok (.goto (-103), 3) := DX1_number_c10.2.1
theorem dX1_number_172 : decode cX1_number 172 = .ok (.return_, 1) := DX1_number_c10.2.2
set_option maxRecDepth 100000 in
theorem DX1_leastColumn_c0 : decode cX1_leastColumn 0 = .ok (.sipush 256, 3) ∧ decode cX1_leastColumn 3 = .ok (.istore 4, 2) ∧ decode cX1_leastColumn 5 = .ok (.iconst 0, 1) ∧ decode cX1_leastColumn 6 = .ok (.istore 5, 2) ∧ decode cX1_leastColumn 8 = .ok (.iload 5, 2) ∧ decode cX1_leastColumn 10 = .ok (.aload_n 0, 1) ∧ decode cX1_leastColumn 11 = .ok (.getfield 12, 3) ∧ decode cX1_leastColumn 14 = .ok (.invokevirtual 40, 3) ∧ decode cX1_leastColumn 17 = .ok (.if_icmp .ge 44, 3) ∧ decode cX1_leastColumn 20 = .ok (.lload_n 2, 1) := by decide +kernel
theorem dX1_leastColumn_0 : decode cX1_leastColumn 0 = .ok (.sipush 256, 3) := DX1_leastColumn_c0.1
theorem dX1_leastColumn_3 : decode cX1_leastColumn 3 = .ok (.istore 4, 2) := DX1_leastColumn_c0.2.1
theorem dX1_leastColumn_5 : decode cX1_leastColumn 5 = .ok (.iconst 0, 1) := DX1_leastColumn_c0.2.2.1
theorem dX1_leastColumn_6 : decode cX1_leastColumn 6 = .ok (.istore 5, 2) := DX1_leastColumn_c0.2.2.2.1
theorem dX1_leastColumn_8 : decode cX1_leastColumn 8 = .ok (.iload 5, 2) := DX1_leastColumn_c0.2.2.2.2.1
theorem dX1_leastColumn_10 : decode cX1_leastColumn 10 = .ok (.aload_n 0, 1) := DX1_leastColumn_c0.2.2.2.2.2.1
theorem dX1_leastColumn_11 : decode cX1_leastColumn 11 = .ok (.getfield 12, 3) := DX1_leastColumn_c0.2.2.2.2.2.2.1
theorem dX1_leastColumn_14 : decode cX1_leastColumn 14 = .ok (.invokevirtual 40, 3) := DX1_leastColumn_c0.2.2.2.2.2.2.2.1
theorem dX1_leastColumn_17 : decode cX1_leastColumn 17 = .ok (.if_icmp .ge 44, 3) := DX1_leastColumn_c0.2.2.2.2.2.2.2.2.1
theorem dX1_leastColumn_20 : decode cX1_leastColumn 20 = .ok (.lload_n 2, 1) := DX1_leastColumn_c0.2.2.2.2.2.2.2.2.2
set_option maxRecDepth 100000 in
theorem DX1_leastColumn_c1 : decode cX1_leastColumn 21 = .ok (.bipush 8, 2) ∧ decode cX1_leastColumn 23 = .ok (.iload 5, 2) ∧ decode cX1_leastColumn 25 = .ok (.imul, 1) ∧ decode cX1_leastColumn 26 = .ok (.lshr, 1) ∧ decode cX1_leastColumn 27 = .ok (.l2i, 1) ∧ decode cX1_leastColumn 28 = .ok (.sipush 255, 3) ∧ decode cX1_leastColumn 31 = .ok (.iand, 1) ∧ decode cX1_leastColumn 32 = .ok (.istore 6, 2) ∧ decode cX1_leastColumn 34 = .ok (.iload_n 1, 1) ∧ decode cX1_leastColumn 35 = .ok (.iload 5, 2) := by decide +kernel
theorem dX1_leastColumn_21 : decode cX1_leastColumn 21 = .ok (.bipush 8, 2) := DX1_leastColumn_c1.1
theorem dX1_leastColumn_23 : decode cX1_leastColumn 23 = .ok (.iload 5, 2) := DX1_leastColumn_c1.2.1
theorem dX1_leastColumn_25 : decode cX1_leastColumn 25 = .ok (.imul, 1) := DX1_leastColumn_c1.2.2.1
theorem dX1_leastColumn_26 : decode cX1_leastColumn 26 = .ok (.lshr, 1) := DX1_leastColumn_c1.2.2.2.1
theorem dX1_leastColumn_27 : decode cX1_leastColumn 27 = .ok (.l2i, 1) := DX1_leastColumn_c1.2.2.2.2.1
theorem dX1_leastColumn_28 : decode cX1_leastColumn 28 = .ok (.sipush 255, 3) := DX1_leastColumn_c1.2.2.2.2.2.1
theorem dX1_leastColumn_31 : decode cX1_leastColumn 31 = .ok (.iand, 1) := DX1_leastColumn_c1.2.2.2.2.2.2.1
theorem dX1_leastColumn_32 : decode cX1_leastColumn 32 = .ok (.istore 6, 2) := DX1_leastColumn_c1.2.2.2.2.2.2.2.1
theorem dX1_leastColumn_34 : decode cX1_leastColumn 34 = .ok (.iload_n 1, 1) := DX1_leastColumn_c1.2.2.2.2.2.2.2.2.1
theorem dX1_leastColumn_35 : decode cX1_leastColumn 35 = .ok (.iload 5, 2) := DX1_leastColumn_c1.2.2.2.2.2.2.2.2.2
set_option maxRecDepth 100000 in
theorem DX1_leastColumn_c2 : decode cX1_leastColumn 37 = .ok (.ishr, 1) ∧ decode cX1_leastColumn 38 = .ok (.iconst 1, 1) ∧ decode cX1_leastColumn 39 = .ok (.iand, 1) ∧ decode cX1_leastColumn 40 = .ok (.iconst 1, 1) ∧ decode cX1_leastColumn 41 = .ok (.if_icmp .ne 14, 3) ∧ decode cX1_leastColumn 44 = .ok (.iload 6, 2) ∧ decode cX1_leastColumn 46 = .ok (.iload 4, 2) ∧ decode cX1_leastColumn 48 = .ok (.if_icmp .ge 7, 3) ∧ decode cX1_leastColumn 51 = .ok (.iload 6, 2) ∧ decode cX1_leastColumn 53 = .ok (.istore 4, 2) := by decide +kernel
theorem dX1_leastColumn_37 : decode cX1_leastColumn 37 = .ok (.ishr, 1) := DX1_leastColumn_c2.1
theorem dX1_leastColumn_38 : decode cX1_leastColumn 38 = .ok (.iconst 1, 1) := DX1_leastColumn_c2.2.1
theorem dX1_leastColumn_39 : decode cX1_leastColumn 39 = .ok (.iand, 1) := DX1_leastColumn_c2.2.2.1
theorem dX1_leastColumn_40 : decode cX1_leastColumn 40 = .ok (.iconst 1, 1) := DX1_leastColumn_c2.2.2.2.1
theorem dX1_leastColumn_41 : decode cX1_leastColumn 41 = .ok (.if_icmp .ne 14, 3) := DX1_leastColumn_c2.2.2.2.2.1
theorem dX1_leastColumn_44 : decode cX1_leastColumn 44 = .ok (.iload 6, 2) := DX1_leastColumn_c2.2.2.2.2.2.1
theorem dX1_leastColumn_46 : decode cX1_leastColumn 46 = .ok (.iload 4, 2) := DX1_leastColumn_c2.2.2.2.2.2.2.1
theorem dX1_leastColumn_48 : decode cX1_leastColumn 48 = .ok (.if_icmp .ge 7, 3) := DX1_leastColumn_c2.2.2.2.2.2.2.2.1
theorem dX1_leastColumn_51 : decode cX1_leastColumn 51 = .ok (.iload 6, 2) := DX1_leastColumn_c2.2.2.2.2.2.2.2.2.1
theorem dX1_leastColumn_53 : decode cX1_leastColumn 53 = .ok (.istore 4, 2) := DX1_leastColumn_c2.2.2.2.2.2.2.2.2.2
set_option maxRecDepth 100000 in
theorem DX1_leastColumn_c3 : decode cX1_leastColumn 55 = .ok (.iinc 5 1, 3) ∧ decode cX1_leastColumn 58 = .ok (.goto (-50), 3) ∧ decode cX1_leastColumn 61 = .ok (.iload 4, 2) ∧ decode cX1_leastColumn 63 = .ok (.ireturn, 1) := by decide +kernel
theorem dX1_leastColumn_55 : decode cX1_leastColumn 55 = .ok (.iinc 5 1, 3) := DX1_leastColumn_c3.1
theorem dX1_leastColumn_58 : decode cX1_leastColumn 58 = .ok (.goto (-50), 3) := DX1_leastColumn_c3.2.1
theorem dX1_leastColumn_61 : decode cX1_leastColumn 61 = .ok (.iload 4, 2) := DX1_leastColumn_c3.2.2.1
theorem dX1_leastColumn_63 : decode cX1_leastColumn 63 = .ok (.ireturn, 1) := DX1_leastColumn_c3.2.2.2
set_option maxRecDepth 100000 in
theorem DX1_bestCode_c0 : decode cX1_bestCode 0 = .ok (.iconst 0, 1) ∧ decode cX1_bestCode 1 = .ok (.istore_n 1, 1) ∧ decode cX1_bestCode 2 = .ok (.iconst 1, 1) ∧ decode cX1_bestCode 3 = .ok (.istore_n 2, 1) ∧ decode cX1_bestCode 4 = .ok (.iload_n 2, 1) ∧ decode cX1_bestCode 5 = .ok (.aload_n 0, 1) ∧ decode cX1_bestCode 6 = .ok (.getfield 12, 3) ∧ decode cX1_bestCode 9 = .ok (.invokevirtual 40, 3) ∧ decode cX1_bestCode 12 = .ok (.if_icmp .ge 20, 3) ∧ decode cX1_bestCode 15 = .ok (.iload_n 1, 1) := by decide +kernel
theorem dX1_bestCode_0 : decode cX1_bestCode 0 = .ok (.iconst 0, 1) := DX1_bestCode_c0.1
theorem dX1_bestCode_1 : decode cX1_bestCode 1 = .ok (.istore_n 1, 1) := DX1_bestCode_c0.2.1
theorem dX1_bestCode_2 : decode cX1_bestCode 2 = .ok (.iconst 1, 1) := DX1_bestCode_c0.2.2.1
theorem dX1_bestCode_3 : decode cX1_bestCode 3 = .ok (.istore_n 2, 1) := DX1_bestCode_c0.2.2.2.1
theorem dX1_bestCode_4 : decode cX1_bestCode 4 = .ok (.iload_n 2, 1) := DX1_bestCode_c0.2.2.2.2.1
theorem dX1_bestCode_5 : decode cX1_bestCode 5 = .ok (.aload_n 0, 1) := DX1_bestCode_c0.2.2.2.2.2.1
theorem dX1_bestCode_6 : decode cX1_bestCode 6 = .ok (.getfield 12, 3) := DX1_bestCode_c0.2.2.2.2.2.2.1
theorem dX1_bestCode_9 : decode cX1_bestCode 9 = .ok (.invokevirtual 40, 3) := DX1_bestCode_c0.2.2.2.2.2.2.2.1
theorem dX1_bestCode_12 : decode cX1_bestCode 12 = .ok (.if_icmp .ge 20, 3) := DX1_bestCode_c0.2.2.2.2.2.2.2.2.1
theorem dX1_bestCode_15 : decode cX1_bestCode 15 = .ok (.iload_n 1, 1) := DX1_bestCode_c0.2.2.2.2.2.2.2.2.2
set_option maxRecDepth 100000 in
theorem DX1_bestCode_c1 : decode cX1_bestCode 16 = .ok (.iload_n 2, 1) ∧ decode cX1_bestCode 17 = .ok (.ishl, 1) ∧ decode cX1_bestCode 18 = .ok (.aload_n 0, 1) ∧ decode cX1_bestCode 19 = .ok (.getfield 26, 3) ∧ decode cX1_bestCode 22 = .ok (.iload_n 2, 1) ∧ decode cX1_bestCode 23 = .ok (.iaload, 1) ∧ decode cX1_bestCode 24 = .ok (.ior, 1) ∧ decode cX1_bestCode 25 = .ok (.istore_n 1, 1) ∧ decode cX1_bestCode 26 = .ok (.iinc 2 1, 3) ∧ decode cX1_bestCode 29 = .ok (.goto (-25), 3) := by decide +kernel
theorem dX1_bestCode_16 : decode cX1_bestCode 16 = .ok (.iload_n 2, 1) := DX1_bestCode_c1.1
theorem dX1_bestCode_17 : decode cX1_bestCode 17 = .ok (.ishl, 1) := DX1_bestCode_c1.2.1
theorem dX1_bestCode_18 : decode cX1_bestCode 18 = .ok (.aload_n 0, 1) := DX1_bestCode_c1.2.2.1
theorem dX1_bestCode_19 : decode cX1_bestCode 19 = .ok (.getfield 26, 3) := DX1_bestCode_c1.2.2.2.1
theorem dX1_bestCode_22 : decode cX1_bestCode 22 = .ok (.iload_n 2, 1) := DX1_bestCode_c1.2.2.2.2.1
theorem dX1_bestCode_23 : decode cX1_bestCode 23 = .ok (.iaload, 1) := DX1_bestCode_c1.2.2.2.2.2.1
theorem dX1_bestCode_24 : decode cX1_bestCode 24 = .ok (.ior, 1) := DX1_bestCode_c1.2.2.2.2.2.2.1
theorem dX1_bestCode_25 : decode cX1_bestCode 25 = .ok (.istore_n 1, 1) := DX1_bestCode_c1.2.2.2.2.2.2.2.1
theorem dX1_bestCode_26 : decode cX1_bestCode 26 = .ok (.iinc 2 1, 3) := DX1_bestCode_c1.2.2.2.2.2.2.2.2.1
theorem dX1_bestCode_29 : decode cX1_bestCode 29 = .ok (.goto (-25), 3) := DX1_bestCode_c1.2.2.2.2.2.2.2.2.2
set_option maxRecDepth 100000 in
theorem DX1_bestCode_c2 : decode cX1_bestCode 32 = .ok (.iload_n 1, 1) ∧ decode cX1_bestCode 33 = .ok (.ireturn, 1) := by decide +kernel
theorem dX1_bestCode_32 : decode cX1_bestCode 32 = .ok (.iload_n 1, 1) := DX1_bestCode_c2.1
theorem dX1_bestCode_33 : decode cX1_bestCode 33 = .ok (.ireturn, 1) := DX1_bestCode_c2.2
set_option maxRecDepth 100000 in
theorem DX2_init_c0 : decode cX2_init 0 = .ok (.aload_n 0, 1) ∧ decode cX2_init 1 = .ok (.invokespecial 3, 3) ∧ decode cX2_init 4 = .ok (.aload_n 0, 1) ∧ decode cX2_init 5 = .ok (.new 9, 3) ∧ decode cX2_init 8 = .ok (.dup, 1) ∧ decode cX2_init 9 = .ok (.invokespecial 11, 3) ∧ decode cX2_init 12 = .ok (.putfield 12, 3) ∧ decode cX2_init 15 = .ok (.aload_n 0, 1) ∧ decode cX2_init 16 = .ok (.bipush 6, 2) ∧ decode cX2_init 18 = .ok (.newarray .int, 2) := by decide +kernel
theorem dX2_init_0 : decode cX2_init 0 = .ok (.aload_n 0, 1) := DX2_init_c0.1
theorem dX2_init_1 : decode cX2_init 1 = .ok (.invokespecial 3, 3) := DX2_init_c0.2.1
theorem dX2_init_4 : decode cX2_init 4 = .ok (.aload_n 0, 1) := DX2_init_c0.2.2.1
theorem dX2_init_5 : decode cX2_init 5 = .ok (.new 9, 3) := DX2_init_c0.2.2.2.1
theorem dX2_init_8 : decode cX2_init 8 = .ok (.dup, 1) := DX2_init_c0.2.2.2.2.1
theorem dX2_init_9 : decode cX2_init 9 = .ok (.invokespecial 11, 3) := DX2_init_c0.2.2.2.2.2.1
theorem dX2_init_12 : decode cX2_init 12 = .ok (.putfield 12, 3) := DX2_init_c0.2.2.2.2.2.2.1
theorem dX2_init_15 : decode cX2_init 15 = .ok (.aload_n 0, 1) := DX2_init_c0.2.2.2.2.2.2.2.1
theorem dX2_init_16 : decode cX2_init 16 = .ok (.bipush 6, 2) := DX2_init_c0.2.2.2.2.2.2.2.2.1
theorem dX2_init_18 : decode cX2_init 18 = .ok (.newarray .int, 2) := DX2_init_c0.2.2.2.2.2.2.2.2.2
set_option maxRecDepth 100000 in
theorem DX2_init_c1 : decode cX2_init 20 = .ok (.putfield 18, 3) ∧ decode cX2_init 23 = .ok (.return_, 1) := by decide +kernel
theorem dX2_init_20 : decode cX2_init 20 = .ok (.putfield 18, 3) := DX2_init_c1.1
theorem dX2_init_23 : decode cX2_init 23 = .ok (.return_, 1) := DX2_init_c1.2
set_option maxRecDepth 100000 in
theorem DX2_patterns_c0 : decode cX2_patterns 0 = .ok (.aload_n 1, 1) ∧ decode cX2_patterns 1 = .ok (.invokevirtual 22, 3) ∧ decode cX2_patterns 4 = .ok (.iload_n 2, 1) ∧ decode cX2_patterns 5 = .ok (.invokestatic 28, 3) ∧ decode cX2_patterns 8 = .ok (.isub, 1) ∧ decode cX2_patterns 9 = .ok (.istore_n 3, 1) ∧ decode cX2_patterns 10 = .ok (.aload_n 1, 1) ∧ decode cX2_patterns 11 = .ok (.invokevirtual 34, 3) ∧ decode cX2_patterns 14 = .ok (.ifCond .ne 7, 3) ∧ decode cX2_patterns 17 = .ok (.iload_n 3, 1) := by decide +kernel
theorem dX2_patterns_0 : decode cX2_patterns 0 = .ok (.aload_n 1, 1) := DX2_patterns_c0.1
theorem dX2_patterns_1 : decode cX2_patterns 1 = .ok (.invokevirtual 22, 3) := DX2_patterns_c0.2.1
theorem dX2_patterns_4 : decode cX2_patterns 4 = .ok (.iload_n 2, 1) := DX2_patterns_c0.2.2.1
theorem dX2_patterns_5 : decode cX2_patterns 5 = .ok (.invokestatic 28, 3) := DX2_patterns_c0.2.2.2.1
theorem dX2_patterns_8 : decode cX2_patterns 8 = .ok (.isub, 1) := DX2_patterns_c0.2.2.2.2.1
theorem dX2_patterns_9 : decode cX2_patterns 9 = .ok (.istore_n 3, 1) := DX2_patterns_c0.2.2.2.2.2.1
theorem dX2_patterns_10 : decode cX2_patterns 10 = .ok (.aload_n 1, 1) := DX2_patterns_c0.2.2.2.2.2.2.1
theorem dX2_patterns_11 : decode cX2_patterns 11 = .ok (.invokevirtual 34, 3) := DX2_patterns_c0.2.2.2.2.2.2.2.1
theorem dX2_patterns_14 : decode cX2_patterns 14 = .ok (.ifCond .ne 7, 3) := DX2_patterns_c0.2.2.2.2.2.2.2.2.1
theorem dX2_patterns_17 : decode cX2_patterns 17 = .ok (.iload_n 3, 1) := DX2_patterns_c0.2.2.2.2.2.2.2.2.2
set_option maxRecDepth 100000 in
theorem DX2_patterns_c1 : decode cX2_patterns 18 = .ok (.ifCond .gt 6, 3) ∧ decode cX2_patterns 21 = .ok (.bipush (-9), 2) ∧ decode cX2_patterns 23 = .ok (.ireturn, 1) ∧ decode cX2_patterns 24 = .ok (.iconst 0, 1) ∧ decode cX2_patterns 25 = .ok (.istore 4, 2) ∧ decode cX2_patterns 27 = .ok (.iconst 0, 1) ∧ decode cX2_patterns 28 = .ok (.istore 5, 2) ∧ decode cX2_patterns 30 = .ok (.iload 5, 2) ∧ decode cX2_patterns 32 = .ok (.aload_n 1, 1) ∧ decode cX2_patterns 33 = .ok (.invokevirtual 37, 3) := by decide +kernel
theorem dX2_patterns_18 : decode cX2_patterns 18 = .ok (.ifCond .gt 6, 3) := DX2_patterns_c1.1
theorem dX2_patterns_21 : decode cX2_patterns 21 = .ok (.bipush (-9), 2) := DX2_patterns_c1.2.1
theorem dX2_patterns_23 : decode cX2_patterns 23 = .ok (.ireturn, 1) := DX2_patterns_c1.2.2.1
theorem dX2_patterns_24 : decode cX2_patterns 24 = .ok (.iconst 0, 1) := DX2_patterns_c1.2.2.2.1
theorem dX2_patterns_25 : decode cX2_patterns 25 = .ok (.istore 4, 2) := DX2_patterns_c1.2.2.2.2.1
theorem dX2_patterns_27 : decode cX2_patterns 27 = .ok (.iconst 0, 1) := DX2_patterns_c1.2.2.2.2.2.1
theorem dX2_patterns_28 : decode cX2_patterns 28 = .ok (.istore 5, 2) := DX2_patterns_c1.2.2.2.2.2.2.1
theorem dX2_patterns_30 : decode cX2_patterns 30 = .ok (.iload 5, 2) := DX2_patterns_c1.2.2.2.2.2.2.2.1
theorem dX2_patterns_32 : decode cX2_patterns 32 = .ok (.aload_n 1, 1) := DX2_patterns_c1.2.2.2.2.2.2.2.2.1
theorem dX2_patterns_33 : decode cX2_patterns 33 = .ok (.invokevirtual 37, 3) := DX2_patterns_c1.2.2.2.2.2.2.2.2.2
set_option maxRecDepth 100000 in
theorem DX2_patterns_c2 : decode cX2_patterns 36 = .ok (.if_icmp .ge 41, 3) ∧ decode cX2_patterns 39 = .ok (.aload_n 0, 1) ∧ decode cX2_patterns 40 = .ok (.getfield 12, 3) ∧ decode cX2_patterns 43 = .ok (.aload_n 1, 1) ∧ decode cX2_patterns 44 = .ok (.invokevirtual 22, 3) ∧ decode cX2_patterns 47 = .ok (.iconst 1, 1) ∧ decode cX2_patterns 48 = .ok (.isub, 1) ∧ decode cX2_patterns 49 = .ok (.aload_n 1, 1) ∧ decode cX2_patterns 50 = .ok (.iload 5, 2) ∧ decode cX2_patterns 52 = .ok (.invokevirtual 40, 3) := by decide +kernel
theorem dX2_patterns_36 : decode cX2_patterns 36 = .ok (.if_icmp .ge 41, 3) := DX2_patterns_c2.1
theorem dX2_patterns_39 : decode cX2_patterns 39 = .ok (.aload_n 0, 1) := DX2_patterns_c2.2.1
theorem dX2_patterns_40 : decode cX2_patterns 40 = .ok (.getfield 12, 3) := DX2_patterns_c2.2.2.1
theorem dX2_patterns_43 : decode cX2_patterns 43 = .ok (.aload_n 1, 1) := DX2_patterns_c2.2.2.2.1
theorem dX2_patterns_44 : decode cX2_patterns 44 = .ok (.invokevirtual 22, 3) := DX2_patterns_c2.2.2.2.2.1
theorem dX2_patterns_47 : decode cX2_patterns 47 = .ok (.iconst 1, 1) := DX2_patterns_c2.2.2.2.2.2.1
theorem dX2_patterns_48 : decode cX2_patterns 48 = .ok (.isub, 1) := DX2_patterns_c2.2.2.2.2.2.2.1
theorem dX2_patterns_49 : decode cX2_patterns 49 = .ok (.aload_n 1, 1) := DX2_patterns_c2.2.2.2.2.2.2.2.1
theorem dX2_patterns_50 : decode cX2_patterns 50 = .ok (.iload 5, 2) := DX2_patterns_c2.2.2.2.2.2.2.2.2.1
theorem dX2_patterns_52 : decode cX2_patterns 52 = .ok (.invokevirtual 40, 3) := DX2_patterns_c2.2.2.2.2.2.2.2.2.2
set_option maxRecDepth 100000 in
theorem DX2_patterns_c3 : decode cX2_patterns 55 = .ok (.invokevirtual 43, 3) ∧ decode cX2_patterns 58 = .ok (.iload 4, 2) ∧ decode cX2_patterns 60 = .ok (.aload_n 0, 1) ∧ decode cX2_patterns 61 = .ok (.getfield 12, 3) ∧ decode cX2_patterns 64 = .ok (.iload_n 2, 1) ∧ decode cX2_patterns 65 = .ok (.invokestatic 47, 3) ∧ decode cX2_patterns 68 = .ok (.iadd, 1) ∧ decode cX2_patterns 69 = .ok (.istore 4, 2) ∧ decode cX2_patterns 71 = .ok (.iinc 5 1, 3) ∧ decode cX2_patterns 74 = .ok (.goto (-44), 3) := by decide +kernel
theorem dX2_patterns_55 : decode cX2_patterns 55 = .ok (.invokevirtual 43, 3) := DX2_patterns_c3.1
theorem dX2_patterns_58 : decode cX2_patterns 58 = .ok (.iload 4, 2) := DX2_patterns_c3.2.1
theorem dX2_patterns_60 : decode cX2_patterns 60 = .ok (.aload_n 0, 1) := DX2_patterns_c3.2.2.1
theorem dX2_patterns_61 : decode cX2_patterns 61 = .ok (.getfield 12, 3) := DX2_patterns_c3.2.2.2.1
theorem dX2_patterns_64 : decode cX2_patterns 64 = .ok (.iload_n 2, 1) := DX2_patterns_c3.2.2.2.2.1
theorem dX2_patterns_65 : decode cX2_patterns 65 = .ok (.invokestatic 47, 3) := DX2_patterns_c3.2.2.2.2.2.1
theorem dX2_patterns_68 : decode cX2_patterns 68 = .ok (.iadd, 1) := DX2_patterns_c3.2.2.2.2.2.2.1
theorem dX2_patterns_69 : decode cX2_patterns 69 = .ok (.istore 4, 2) := DX2_patterns_c3.2.2.2.2.2.2.2.1
theorem dX2_patterns_71 : decode cX2_patterns 71 = .ok (.iinc 5 1, 3) := DX2_patterns_c3.2.2.2.2.2.2.2.2.1
theorem dX2_patterns_74 : decode cX2_patterns 74 = .ok (.goto (-44), 3) := DX2_patterns_c3.2.2.2.2.2.2.2.2.2
set_option maxRecDepth 100000 in
theorem DX2_patterns_c4 : decode cX2_patterns 77 = .ok (.iload 4, 2) ∧ decode cX2_patterns 79 = .ok (.iload_n 3, 1) ∧ decode cX2_patterns 80 = .ok (.irem, 1) ∧ decode cX2_patterns 81 = .ok (.ifCond .ne 10, 3) ∧ decode cX2_patterns 84 = .ok (.iload 4, 2) ∧ decode cX2_patterns 86 = .ok (.iload_n 3, 1) ∧ decode cX2_patterns 87 = .ok (.idiv, 1) ∧ decode cX2_patterns 88 = .ok (.goto 5, 3) ∧ decode cX2_patterns 91 = .ok (.bipush (-9), 2) ∧ decode cX2_patterns 93 = .ok (.ireturn, 1) := by decide +kernel
theorem dX2_patterns_77 : decode cX2_patterns 77 = .ok (.iload 4, 2) := DX2_patterns_c4.1
theorem dX2_patterns_79 : decode cX2_patterns 79 = .ok (.iload_n 3, 1) := DX2_patterns_c4.2.1
theorem dX2_patterns_80 : decode cX2_patterns 80 = .ok (.irem, 1) := DX2_patterns_c4.2.2.1
theorem dX2_patterns_81 : decode cX2_patterns 81 = .ok (.ifCond .ne 10, 3) := DX2_patterns_c4.2.2.2.1
theorem dX2_patterns_84 : decode cX2_patterns 84 = .ok (.iload 4, 2) := DX2_patterns_c4.2.2.2.2.1
theorem dX2_patterns_86 : decode cX2_patterns 86 = .ok (.iload_n 3, 1) := DX2_patterns_c4.2.2.2.2.2.1
theorem dX2_patterns_87 : decode cX2_patterns 87 = .ok (.idiv, 1) := DX2_patterns_c4.2.2.2.2.2.2.1
theorem dX2_patterns_88 : decode cX2_patterns 88 = .ok (.goto 5, 3) := DX2_patterns_c4.2.2.2.2.2.2.2.1
theorem dX2_patterns_91 : decode cX2_patterns 91 = .ok (.bipush (-9), 2) := DX2_patterns_c4.2.2.2.2.2.2.2.2.1
theorem dX2_patterns_93 : decode cX2_patterns 93 = .ok (.ireturn, 1) := DX2_patterns_c4.2.2.2.2.2.2.2.2.2
set_option maxRecDepth 100000 in
theorem DX2_edges_c0 : decode cX2_edges 0 = .ok (.aload_n 0, 1) ∧ decode cX2_edges 1 = .ok (.aload_n 1, 1) ∧ decode cX2_edges 2 = .ok (.iconst 0, 1) ∧ decode cX2_edges 3 = .ok (.invokevirtual 51, 3) ∧ decode cX2_edges 6 = .ok (.ireturn, 1) := by decide +kernel
theorem dX2_edges_0 : decode cX2_edges 0 = .ok (.aload_n 0, 1) := DX2_edges_c0.1
theorem dX2_edges_1 : decode cX2_edges 1 = .ok (.aload_n 1, 1) := DX2_edges_c0.2.1
theorem dX2_edges_2 : decode cX2_edges 2 = .ok (.iconst 0, 1) := DX2_edges_c0.2.2.1
theorem dX2_edges_3 : decode cX2_edges 3 = .ok (.invokevirtual 51, 3) := DX2_edges_c0.2.2.2.1
theorem dX2_edges_6 : decode cX2_edges 6 = .ok (.ireturn, 1) := DX2_edges_c0.2.2.2.2
set_option maxRecDepth 100000 in
theorem DX2_degree_c0 : decode cX2_degree 0 = .ok (.aload_n 0, 1) ∧ decode cX2_degree 1 = .ok (.aload_n 1, 1) ∧ decode cX2_degree 2 = .ok (.invokevirtual 55, 3) ∧ decode cX2_degree 5 = .ok (.istore_n 3, 1) ∧ decode cX2_degree 6 = .ok (.iload_n 3, 1) ∧ decode cX2_degree 7 = .ok (.bipush (-9), 2) ∧ decode cX2_degree 9 = .ok (.if_icmp .ne 8, 3) ∧ decode cX2_degree 12 = .ok (.bipush (-9), 2) ∧ decode cX2_degree 14 = .ok (.goto 13, 3) ∧ decode cX2_degree 17 = .ok (.iload_n 3, 1) := by decide +kernel
theorem dX2_degree_0 : decode cX2_degree 0 = .ok (.aload_n 0, 1) := DX2_degree_c0.1
theorem dX2_degree_1 : decode cX2_degree 1 = .ok (.aload_n 1, 1) := DX2_degree_c0.2.1
theorem dX2_degree_2 : decode cX2_degree 2 = .ok (.invokevirtual 55, 3) := DX2_degree_c0.2.2.1
theorem dX2_degree_5 : decode cX2_degree 5 = .ok (.istore_n 3, 1) := DX2_degree_c0.2.2.2.1
theorem dX2_degree_6 : decode cX2_degree 6 = .ok (.iload_n 3, 1) := DX2_degree_c0.2.2.2.2.1
theorem dX2_degree_7 : decode cX2_degree 7 = .ok (.bipush (-9), 2) := DX2_degree_c0.2.2.2.2.2.1
theorem dX2_degree_9 : decode cX2_degree 9 = .ok (.if_icmp .ne 8, 3) := DX2_degree_c0.2.2.2.2.2.2.1
theorem dX2_degree_12 : decode cX2_degree 12 = .ok (.bipush (-9), 2) := DX2_degree_c0.2.2.2.2.2.2.2.1
theorem dX2_degree_14 : decode cX2_degree 14 = .ok (.goto 13, 3) := DX2_degree_c0.2.2.2.2.2.2.2.2.1
theorem dX2_degree_17 : decode cX2_degree 17 = .ok (.iload_n 3, 1) := DX2_degree_c0.2.2.2.2.2.2.2.2.2
set_option maxRecDepth 100000 in
theorem DX2_degree_c1 : decode cX2_degree 18 = .ok (.aload_n 1, 1) ∧ decode cX2_degree 19 = .ok (.iload_n 2, 1) ∧ decode cX2_degree 20 = .ok (.invokevirtual 40, 3) ∧ decode cX2_degree 23 = .ok (.invokestatic 59, 3) ∧ decode cX2_degree 26 = .ok (.isub, 1) ∧ decode cX2_degree 27 = .ok (.ireturn, 1) := by decide +kernel
theorem dX2_degree_18 : decode cX2_degree 18 = .ok (.aload_n 1, 1) := DX2_degree_c1.1
theorem dX2_degree_19 : decode cX2_degree 19 = .ok (.iload_n 2, 1) := DX2_degree_c1.2.1
theorem dX2_degree_20 : decode cX2_degree 20 = .ok (.invokevirtual 40, 3) := DX2_degree_c1.2.2.1
theorem dX2_degree_23 : decode cX2_degree 23 = .ok (.invokestatic 59, 3) := DX2_degree_c1.2.2.2.1
theorem dX2_degree_26 : decode cX2_degree 26 = .ok (.isub, 1) := DX2_degree_c1.2.2.2.2.1
theorem dX2_degree_27 : decode cX2_degree 27 = .ok (.ireturn, 1) := DX2_degree_c1.2.2.2.2.2
set_option maxRecDepth 100000 in
theorem DX2_firstFailed_c0 : decode cX2_firstFailed 0 = .ok (.aload_n 1, 1) ∧ decode cX2_firstFailed 1 = .ok (.invokevirtual 34, 3) ∧ decode cX2_firstFailed 4 = .ok (.ifCond .eq 6, 3) ∧ decode cX2_firstFailed 7 = .ok (.bipush (-9), 2) ∧ decode cX2_firstFailed 9 = .ok (.ireturn, 1) ∧ decode cX2_firstFailed 10 = .ok (.aload_n 0, 1) ∧ decode cX2_firstFailed 11 = .ok (.aload_n 1, 1) ∧ decode cX2_firstFailed 12 = .ok (.invokevirtual 55, 3) ∧ decode cX2_firstFailed 15 = .ok (.istore_n 2, 1) ∧ decode cX2_firstFailed 16 = .ok (.iload_n 2, 1) := by decide +kernel
theorem dX2_firstFailed_0 : decode cX2_firstFailed 0 = .ok (.aload_n 1, 1) := DX2_firstFailed_c0.1
theorem dX2_firstFailed_1 : decode cX2_firstFailed 1 = .ok (.invokevirtual 34, 3) := DX2_firstFailed_c0.2.1
theorem dX2_firstFailed_4 : decode cX2_firstFailed 4 = .ok (.ifCond .eq 6, 3) := DX2_firstFailed_c0.2.2.1
theorem dX2_firstFailed_7 : decode cX2_firstFailed 7 = .ok (.bipush (-9), 2) := DX2_firstFailed_c0.2.2.2.1
theorem dX2_firstFailed_9 : decode cX2_firstFailed 9 = .ok (.ireturn, 1) := DX2_firstFailed_c0.2.2.2.2.1
theorem dX2_firstFailed_10 : decode cX2_firstFailed 10 = .ok (.aload_n 0, 1) := DX2_firstFailed_c0.2.2.2.2.2.1
theorem dX2_firstFailed_11 : decode cX2_firstFailed 11 = .ok (.aload_n 1, 1) := DX2_firstFailed_c0.2.2.2.2.2.2.1
theorem dX2_firstFailed_12 : decode cX2_firstFailed 12 = .ok (.invokevirtual 55, 3) := DX2_firstFailed_c0.2.2.2.2.2.2.2.1
theorem dX2_firstFailed_15 : decode cX2_firstFailed 15 = .ok (.istore_n 2, 1) := DX2_firstFailed_c0.2.2.2.2.2.2.2.2.1
theorem dX2_firstFailed_16 : decode cX2_firstFailed 16 = .ok (.iload_n 2, 1) := DX2_firstFailed_c0.2.2.2.2.2.2.2.2.2
set_option maxRecDepth 100000 in
theorem DX2_firstFailed_c1 : decode cX2_firstFailed 17 = .ok (.bipush (-9), 2) ∧ decode cX2_firstFailed 19 = .ok (.if_icmp .ne 5, 3) ∧ decode cX2_firstFailed 22 = .ok (.iconst 1, 1) ∧ decode cX2_firstFailed 23 = .ok (.ireturn, 1) ∧ decode cX2_firstFailed 24 = .ok (.aload_n 0, 1) ∧ decode cX2_firstFailed 25 = .ok (.aload_n 1, 1) ∧ decode cX2_firstFailed 26 = .ok (.iload_n 2, 1) ∧ decode cX2_firstFailed 27 = .ok (.invokevirtual 64, 3) ∧ decode cX2_firstFailed 30 = .ok (.aload_n 0, 1) ∧ decode cX2_firstFailed 31 = .ok (.aload_n 1, 1) := by decide +kernel
theorem dX2_firstFailed_17 : decode cX2_firstFailed 17 = .ok (.bipush (-9), 2) := DX2_firstFailed_c1.1
theorem dX2_firstFailed_19 : decode cX2_firstFailed 19 = .ok (.if_icmp .ne 5, 3) := DX2_firstFailed_c1.2.1
theorem dX2_firstFailed_22 : decode cX2_firstFailed 22 = .ok (.iconst 1, 1) := DX2_firstFailed_c1.2.2.1
theorem dX2_firstFailed_23 : decode cX2_firstFailed 23 = .ok (.ireturn, 1) := DX2_firstFailed_c1.2.2.2.1
theorem dX2_firstFailed_24 : decode cX2_firstFailed 24 = .ok (.aload_n 0, 1) := DX2_firstFailed_c1.2.2.2.2.1
theorem dX2_firstFailed_25 : decode cX2_firstFailed 25 = .ok (.aload_n 1, 1) := DX2_firstFailed_c1.2.2.2.2.2.1
theorem dX2_firstFailed_26 : decode cX2_firstFailed 26 = .ok (.iload_n 2, 1) := DX2_firstFailed_c1.2.2.2.2.2.2.1
theorem dX2_firstFailed_27 : decode cX2_firstFailed 27 = .ok (.invokevirtual 64, 3) := DX2_firstFailed_c1.2.2.2.2.2.2.2.1
theorem dX2_firstFailed_30 : decode cX2_firstFailed 30 = .ok (.aload_n 0, 1) := DX2_firstFailed_c1.2.2.2.2.2.2.2.2.1
theorem dX2_firstFailed_31 : decode cX2_firstFailed 31 = .ok (.aload_n 1, 1) := DX2_firstFailed_c1.2.2.2.2.2.2.2.2.2
set_option maxRecDepth 100000 in
theorem DX2_firstFailed_c2 : decode cX2_firstFailed 32 = .ok (.invokevirtual 22, 3) ∧ decode cX2_firstFailed 35 = .ok (.invokevirtual 68, 3) ∧ decode cX2_firstFailed 38 = .ok (.ifCond .ne 5, 3) ∧ decode cX2_firstFailed 41 = .ok (.iconst 2, 1) ∧ decode cX2_firstFailed 42 = .ok (.ireturn, 1) ∧ decode cX2_firstFailed 43 = .ok (.aload_n 0, 1) ∧ decode cX2_firstFailed 44 = .ok (.aload_n 1, 1) ∧ decode cX2_firstFailed 45 = .ok (.invokevirtual 22, 3) ∧ decode cX2_firstFailed 48 = .ok (.invokevirtual 72, 3) ∧ decode cX2_firstFailed 51 = .ok (.ifCond .eq 7, 3) := by decide +kernel
theorem dX2_firstFailed_32 : decode cX2_firstFailed 32 = .ok (.invokevirtual 22, 3) := DX2_firstFailed_c2.1
theorem dX2_firstFailed_35 : decode cX2_firstFailed 35 = .ok (.invokevirtual 68, 3) := DX2_firstFailed_c2.2.1
theorem dX2_firstFailed_38 : decode cX2_firstFailed 38 = .ok (.ifCond .ne 5, 3) := DX2_firstFailed_c2.2.2.1
theorem dX2_firstFailed_41 : decode cX2_firstFailed 41 = .ok (.iconst 2, 1) := DX2_firstFailed_c2.2.2.2.1
theorem dX2_firstFailed_42 : decode cX2_firstFailed 42 = .ok (.ireturn, 1) := DX2_firstFailed_c2.2.2.2.2.1
theorem dX2_firstFailed_43 : decode cX2_firstFailed 43 = .ok (.aload_n 0, 1) := DX2_firstFailed_c2.2.2.2.2.2.1
theorem dX2_firstFailed_44 : decode cX2_firstFailed 44 = .ok (.aload_n 1, 1) := DX2_firstFailed_c2.2.2.2.2.2.2.1
theorem dX2_firstFailed_45 : decode cX2_firstFailed 45 = .ok (.invokevirtual 22, 3) := DX2_firstFailed_c2.2.2.2.2.2.2.2.1
theorem dX2_firstFailed_48 : decode cX2_firstFailed 48 = .ok (.invokevirtual 72, 3) := DX2_firstFailed_c2.2.2.2.2.2.2.2.2.1
theorem dX2_firstFailed_51 : decode cX2_firstFailed 51 = .ok (.ifCond .eq 7, 3) := DX2_firstFailed_c2.2.2.2.2.2.2.2.2.2
set_option maxRecDepth 100000 in
theorem DX2_firstFailed_c3 : decode cX2_firstFailed 54 = .ok (.iconst 0, 1) ∧ decode cX2_firstFailed 55 = .ok (.goto 4, 3) ∧ decode cX2_firstFailed 58 = .ok (.iconst 3, 1) ∧ decode cX2_firstFailed 59 = .ok (.ireturn, 1) := by decide +kernel
theorem dX2_firstFailed_54 : decode cX2_firstFailed 54 = .ok (.iconst 0, 1) := DX2_firstFailed_c3.1
theorem dX2_firstFailed_55 : decode cX2_firstFailed 55 = .ok (.goto 4, 3) := DX2_firstFailed_c3.2.1
theorem dX2_firstFailed_58 : decode cX2_firstFailed 58 = .ok (.iconst 3, 1) := DX2_firstFailed_c3.2.2.1
theorem dX2_firstFailed_59 : decode cX2_firstFailed 59 = .ok (.ireturn, 1) := DX2_firstFailed_c3.2.2.2
set_option maxRecDepth 100000 in
theorem DX2_sortDegrees_c0 : decode cX2_sortDegrees 0 = .ok (.iconst 0, 1) ∧ decode cX2_sortDegrees 1 = .ok (.istore_n 3, 1) ∧ decode cX2_sortDegrees 2 = .ok (.iload_n 3, 1) ∧ decode cX2_sortDegrees 3 = .ok (.aload_n 1, 1) ∧ decode cX2_sortDegrees 4 = .ok (.invokevirtual 37, 3) ∧ decode cX2_sortDegrees 7 = .ok (.if_icmp .ge 80, 3) ∧ decode cX2_sortDegrees 10 = .ok (.iload_n 3, 1) ∧ decode cX2_sortDegrees 11 = .ok (.bipush 6, 2) ∧ decode cX2_sortDegrees 13 = .ok (.if_icmp .ge 74, 3) ∧ decode cX2_sortDegrees 16 = .ok (.iload_n 2, 1) := by decide +kernel
theorem dX2_sortDegrees_0 : decode cX2_sortDegrees 0 = .ok (.iconst 0, 1) := DX2_sortDegrees_c0.1
theorem dX2_sortDegrees_1 : decode cX2_sortDegrees 1 = .ok (.istore_n 3, 1) := DX2_sortDegrees_c0.2.1
theorem dX2_sortDegrees_2 : decode cX2_sortDegrees 2 = .ok (.iload_n 3, 1) := DX2_sortDegrees_c0.2.2.1
theorem dX2_sortDegrees_3 : decode cX2_sortDegrees 3 = .ok (.aload_n 1, 1) := DX2_sortDegrees_c0.2.2.2.1
theorem dX2_sortDegrees_4 : decode cX2_sortDegrees 4 = .ok (.invokevirtual 37, 3) := DX2_sortDegrees_c0.2.2.2.2.1
theorem dX2_sortDegrees_7 : decode cX2_sortDegrees 7 = .ok (.if_icmp .ge 80, 3) := DX2_sortDegrees_c0.2.2.2.2.2.1
theorem dX2_sortDegrees_10 : decode cX2_sortDegrees 10 = .ok (.iload_n 3, 1) := DX2_sortDegrees_c0.2.2.2.2.2.2.1
theorem dX2_sortDegrees_11 : decode cX2_sortDegrees 11 = .ok (.bipush 6, 2) := DX2_sortDegrees_c0.2.2.2.2.2.2.2.1
theorem dX2_sortDegrees_13 : decode cX2_sortDegrees 13 = .ok (.if_icmp .ge 74, 3) := DX2_sortDegrees_c0.2.2.2.2.2.2.2.2.1
theorem dX2_sortDegrees_16 : decode cX2_sortDegrees 16 = .ok (.iload_n 2, 1) := DX2_sortDegrees_c0.2.2.2.2.2.2.2.2.2
set_option maxRecDepth 100000 in
theorem DX2_sortDegrees_c1 : decode cX2_sortDegrees 17 = .ok (.aload_n 1, 1) ∧ decode cX2_sortDegrees 18 = .ok (.iload_n 3, 1) ∧ decode cX2_sortDegrees 19 = .ok (.invokevirtual 40, 3) ∧ decode cX2_sortDegrees 22 = .ok (.invokestatic 59, 3) ∧ decode cX2_sortDegrees 25 = .ok (.isub, 1) ∧ decode cX2_sortDegrees 26 = .ok (.istore 4, 2) ∧ decode cX2_sortDegrees 28 = .ok (.iload_n 3, 1) ∧ decode cX2_sortDegrees 29 = .ok (.istore 5, 2) ∧ decode cX2_sortDegrees 31 = .ok (.iload 5, 2) ∧ decode cX2_sortDegrees 33 = .ok (.ifCond .le 39, 3) := by decide +kernel
theorem dX2_sortDegrees_17 : decode cX2_sortDegrees 17 = .ok (.aload_n 1, 1) := DX2_sortDegrees_c1.1
theorem dX2_sortDegrees_18 : decode cX2_sortDegrees 18 = .ok (.iload_n 3, 1) := DX2_sortDegrees_c1.2.1
theorem dX2_sortDegrees_19 : decode cX2_sortDegrees 19 = .ok (.invokevirtual 40, 3) := DX2_sortDegrees_c1.2.2.1
theorem dX2_sortDegrees_22 : decode cX2_sortDegrees 22 = .ok (.invokestatic 59, 3) := DX2_sortDegrees_c1.2.2.2.1
theorem dX2_sortDegrees_25 : decode cX2_sortDegrees 25 = .ok (.isub, 1) := DX2_sortDegrees_c1.2.2.2.2.1
theorem dX2_sortDegrees_26 : decode cX2_sortDegrees 26 = .ok (.istore 4, 2) := DX2_sortDegrees_c1.2.2.2.2.2.1
theorem dX2_sortDegrees_28 : decode cX2_sortDegrees 28 = .ok (.iload_n 3, 1) := DX2_sortDegrees_c1.2.2.2.2.2.2.1
theorem dX2_sortDegrees_29 : decode cX2_sortDegrees 29 = .ok (.istore 5, 2) := DX2_sortDegrees_c1.2.2.2.2.2.2.2.1
theorem dX2_sortDegrees_31 : decode cX2_sortDegrees 31 = .ok (.iload 5, 2) := DX2_sortDegrees_c1.2.2.2.2.2.2.2.2.1
theorem dX2_sortDegrees_33 : decode cX2_sortDegrees 33 = .ok (.ifCond .le 39, 3) := DX2_sortDegrees_c1.2.2.2.2.2.2.2.2.2
set_option maxRecDepth 100000 in
theorem DX2_sortDegrees_c2 : decode cX2_sortDegrees 36 = .ok (.aload_n 0, 1) ∧ decode cX2_sortDegrees 37 = .ok (.getfield 18, 3) ∧ decode cX2_sortDegrees 40 = .ok (.iload 5, 2) ∧ decode cX2_sortDegrees 42 = .ok (.iconst 1, 1) ∧ decode cX2_sortDegrees 43 = .ok (.isub, 1) ∧ decode cX2_sortDegrees 44 = .ok (.iaload, 1) ∧ decode cX2_sortDegrees 45 = .ok (.iload 4, 2) ∧ decode cX2_sortDegrees 47 = .ok (.if_icmp .ge 25, 3) ∧ decode cX2_sortDegrees 50 = .ok (.aload_n 0, 1) ∧ decode cX2_sortDegrees 51 = .ok (.getfield 18, 3) := by decide +kernel
theorem dX2_sortDegrees_36 : decode cX2_sortDegrees 36 = .ok (.aload_n 0, 1) := DX2_sortDegrees_c2.1
theorem dX2_sortDegrees_37 : decode cX2_sortDegrees 37 = .ok (.getfield 18, 3) := DX2_sortDegrees_c2.2.1
theorem dX2_sortDegrees_40 : decode cX2_sortDegrees 40 = .ok (.iload 5, 2) := DX2_sortDegrees_c2.2.2.1
theorem dX2_sortDegrees_42 : decode cX2_sortDegrees 42 = .ok (.iconst 1, 1) := DX2_sortDegrees_c2.2.2.2.1
theorem dX2_sortDegrees_43 : decode cX2_sortDegrees 43 = .ok (.isub, 1) := DX2_sortDegrees_c2.2.2.2.2.1
theorem dX2_sortDegrees_44 : decode cX2_sortDegrees 44 = .ok (.iaload, 1) := DX2_sortDegrees_c2.2.2.2.2.2.1
theorem dX2_sortDegrees_45 : decode cX2_sortDegrees 45 = .ok (.iload 4, 2) := DX2_sortDegrees_c2.2.2.2.2.2.2.1
theorem dX2_sortDegrees_47 : decode cX2_sortDegrees 47 = .ok (.if_icmp .ge 25, 3) := DX2_sortDegrees_c2.2.2.2.2.2.2.2.1
theorem dX2_sortDegrees_50 : decode cX2_sortDegrees 50 = .ok (.aload_n 0, 1) := DX2_sortDegrees_c2.2.2.2.2.2.2.2.2.1
theorem dX2_sortDegrees_51 : decode cX2_sortDegrees 51 = .ok (.getfield 18, 3) := DX2_sortDegrees_c2.2.2.2.2.2.2.2.2.2
set_option maxRecDepth 100000 in
theorem DX2_sortDegrees_c3 : decode cX2_sortDegrees 54 = .ok (.iload 5, 2) ∧ decode cX2_sortDegrees 56 = .ok (.aload_n 0, 1) ∧ decode cX2_sortDegrees 57 = .ok (.getfield 18, 3) ∧ decode cX2_sortDegrees 60 = .ok (.iload 5, 2) ∧ decode cX2_sortDegrees 62 = .ok (.iconst 1, 1) ∧ decode cX2_sortDegrees 63 = .ok (.isub, 1) ∧ decode cX2_sortDegrees 64 = .ok (.iaload, 1) ∧ decode cX2_sortDegrees 65 = .ok (.iastore, 1) ∧ decode cX2_sortDegrees 66 = .ok (.iinc 5 (-1), 3) ∧ decode cX2_sortDegrees 69 = .ok (.goto (-38), 3) := by decide +kernel
theorem dX2_sortDegrees_54 : decode cX2_sortDegrees 54 = .ok (.iload 5, 2) := DX2_sortDegrees_c3.1
theorem dX2_sortDegrees_56 : decode cX2_sortDegrees 56 = .ok (.aload_n 0, 1) := DX2_sortDegrees_c3.2.1
theorem dX2_sortDegrees_57 : decode cX2_sortDegrees 57 = .ok (.getfield 18, 3) := DX2_sortDegrees_c3.2.2.1
theorem dX2_sortDegrees_60 : decode cX2_sortDegrees 60 = .ok (.iload 5, 2) := DX2_sortDegrees_c3.2.2.2.1
theorem dX2_sortDegrees_62 : decode cX2_sortDegrees 62 = .ok (.iconst 1, 1) := DX2_sortDegrees_c3.2.2.2.2.1
theorem dX2_sortDegrees_63 : decode cX2_sortDegrees 63 = .ok (.isub, 1) := DX2_sortDegrees_c3.2.2.2.2.2.1
theorem dX2_sortDegrees_64 : decode cX2_sortDegrees 64 = .ok (.iaload, 1) := DX2_sortDegrees_c3.2.2.2.2.2.2.1
theorem dX2_sortDegrees_65 : decode cX2_sortDegrees 65 = .ok (.iastore, 1) := DX2_sortDegrees_c3.2.2.2.2.2.2.2.1
theorem dX2_sortDegrees_66 : decode cX2_sortDegrees 66 = .ok (.iinc 5 (-1), 3) := DX2_sortDegrees_c3.2.2.2.2.2.2.2.2.1
theorem dX2_sortDegrees_69 : decode cX2_sortDegrees 69 = .ok (.goto (-38), 3) := DX2_sortDegrees_c3.2.2.2.2.2.2.2.2.2
set_option maxRecDepth 100000 in
theorem DX2_sortDegrees_c4 : decode cX2_sortDegrees 72 = .ok (.aload_n 0, 1) ∧ decode cX2_sortDegrees 73 = .ok (.getfield 18, 3) ∧ decode cX2_sortDegrees 76 = .ok (.iload 5, 2) ∧ decode cX2_sortDegrees 78 = .ok (.iload 4, 2) ∧ decode cX2_sortDegrees 80 = .ok (.iastore, 1) ∧ decode cX2_sortDegrees 81 = .ok (.iinc 3 1, 3) ∧ decode cX2_sortDegrees 84 = .ok (.goto (-82), 3) ∧ decode cX2_sortDegrees 87 = .ok (.return_, 1) := by decide +kernel
theorem dX2_sortDegrees_72 : decode cX2_sortDegrees 72 = .ok (.aload_n 0, 1) := DX2_sortDegrees_c4.1
theorem dX2_sortDegrees_73 : decode cX2_sortDegrees 73 = .ok (.getfield 18, 3) := DX2_sortDegrees_c4.2.1
theorem dX2_sortDegrees_76 : decode cX2_sortDegrees 76 = .ok (.iload 5, 2) := DX2_sortDegrees_c4.2.2.1
theorem dX2_sortDegrees_78 : decode cX2_sortDegrees 78 = .ok (.iload 4, 2) := DX2_sortDegrees_c4.2.2.2.1
theorem dX2_sortDegrees_80 : decode cX2_sortDegrees 80 = .ok (.iastore, 1) := DX2_sortDegrees_c4.2.2.2.2.1
theorem dX2_sortDegrees_81 : decode cX2_sortDegrees 81 = .ok (.iinc 3 1, 3) := DX2_sortDegrees_c4.2.2.2.2.2.1
theorem dX2_sortDegrees_84 : decode cX2_sortDegrees 84 = .ok (.goto (-82), 3) := DX2_sortDegrees_c4.2.2.2.2.2.2.1
theorem dX2_sortDegrees_87 : decode cX2_sortDegrees 87 = .ok (.return_, 1) := DX2_sortDegrees_c4.2.2.2.2.2.2.2
set_option maxRecDepth 100000 in
theorem DX2_areInRange_c0 : decode cX2_areInRange 0 = .ok (.iconst 0, 1) ∧ decode cX2_areInRange 1 = .ok (.istore_n 2, 1) ∧ decode cX2_areInRange 2 = .ok (.iload_n 2, 1) ∧ decode cX2_areInRange 3 = .ok (.iload_n 1, 1) ∧ decode cX2_areInRange 4 = .ok (.if_icmp .ge 38, 3) ∧ decode cX2_areInRange 7 = .ok (.iload_n 2, 1) ∧ decode cX2_areInRange 8 = .ok (.bipush 6, 2) ∧ decode cX2_areInRange 10 = .ok (.if_icmp .ge 32, 3) ∧ decode cX2_areInRange 13 = .ok (.aload_n 0, 1) ∧ decode cX2_areInRange 14 = .ok (.getfield 18, 3) := by decide +kernel
theorem dX2_areInRange_0 : decode cX2_areInRange 0 = .ok (.iconst 0, 1) := DX2_areInRange_c0.1
theorem dX2_areInRange_1 : decode cX2_areInRange 1 = .ok (.istore_n 2, 1) := DX2_areInRange_c0.2.1
theorem dX2_areInRange_2 : decode cX2_areInRange 2 = .ok (.iload_n 2, 1) := DX2_areInRange_c0.2.2.1
theorem dX2_areInRange_3 : decode cX2_areInRange 3 = .ok (.iload_n 1, 1) := DX2_areInRange_c0.2.2.2.1
theorem dX2_areInRange_4 : decode cX2_areInRange 4 = .ok (.if_icmp .ge 38, 3) := DX2_areInRange_c0.2.2.2.2.1
theorem dX2_areInRange_7 : decode cX2_areInRange 7 = .ok (.iload_n 2, 1) := DX2_areInRange_c0.2.2.2.2.2.1
theorem dX2_areInRange_8 : decode cX2_areInRange 8 = .ok (.bipush 6, 2) := DX2_areInRange_c0.2.2.2.2.2.2.1
theorem dX2_areInRange_10 : decode cX2_areInRange 10 = .ok (.if_icmp .ge 32, 3) := DX2_areInRange_c0.2.2.2.2.2.2.2.1
theorem dX2_areInRange_13 : decode cX2_areInRange 13 = .ok (.aload_n 0, 1) := DX2_areInRange_c0.2.2.2.2.2.2.2.2.1
theorem dX2_areInRange_14 : decode cX2_areInRange 14 = .ok (.getfield 18, 3) := DX2_areInRange_c0.2.2.2.2.2.2.2.2.2
set_option maxRecDepth 100000 in
theorem DX2_areInRange_c1 : decode cX2_areInRange 17 = .ok (.iload_n 2, 1) ∧ decode cX2_areInRange 18 = .ok (.iaload, 1) ∧ decode cX2_areInRange 19 = .ok (.ifCond .lt 15, 3) ∧ decode cX2_areInRange 22 = .ok (.aload_n 0, 1) ∧ decode cX2_areInRange 23 = .ok (.getfield 18, 3) ∧ decode cX2_areInRange 26 = .ok (.iload_n 2, 1) ∧ decode cX2_areInRange 27 = .ok (.iaload, 1) ∧ decode cX2_areInRange 28 = .ok (.iload_n 1, 1) ∧ decode cX2_areInRange 29 = .ok (.iconst 1, 1) ∧ decode cX2_areInRange 30 = .ok (.isub, 1) := by decide +kernel
theorem dX2_areInRange_17 : decode cX2_areInRange 17 = .ok (.iload_n 2, 1) := DX2_areInRange_c1.1
theorem dX2_areInRange_18 : decode cX2_areInRange 18 = .ok (.iaload, 1) := DX2_areInRange_c1.2.1
theorem dX2_areInRange_19 : decode cX2_areInRange 19 = .ok (.ifCond .lt 15, 3) := DX2_areInRange_c1.2.2.1
theorem dX2_areInRange_22 : decode cX2_areInRange 22 = .ok (.aload_n 0, 1) := DX2_areInRange_c1.2.2.2.1
theorem dX2_areInRange_23 : decode cX2_areInRange 23 = .ok (.getfield 18, 3) := DX2_areInRange_c1.2.2.2.2.1
theorem dX2_areInRange_26 : decode cX2_areInRange 26 = .ok (.iload_n 2, 1) := DX2_areInRange_c1.2.2.2.2.2.1
theorem dX2_areInRange_27 : decode cX2_areInRange 27 = .ok (.iaload, 1) := DX2_areInRange_c1.2.2.2.2.2.2.1
theorem dX2_areInRange_28 : decode cX2_areInRange 28 = .ok (.iload_n 1, 1) := DX2_areInRange_c1.2.2.2.2.2.2.2.1
theorem dX2_areInRange_29 : decode cX2_areInRange 29 = .ok (.iconst 1, 1) := DX2_areInRange_c1.2.2.2.2.2.2.2.2.1
theorem dX2_areInRange_30 : decode cX2_areInRange 30 = .ok (.isub, 1) := DX2_areInRange_c1.2.2.2.2.2.2.2.2.2
set_option maxRecDepth 100000 in
theorem DX2_areInRange_c2 : decode cX2_areInRange 31 = .ok (.if_icmp .le 5, 3) ∧ decode cX2_areInRange 34 = .ok (.iconst 0, 1) ∧ decode cX2_areInRange 35 = .ok (.ireturn, 1) ∧ decode cX2_areInRange 36 = .ok (.iinc 2 1, 3) ∧ decode cX2_areInRange 39 = .ok (.goto (-37), 3) ∧ decode cX2_areInRange 42 = .ok (.iconst 1, 1) ∧ decode cX2_areInRange 43 = .ok (.ireturn, 1) := by decide +kernel
theorem dX2_areInRange_31 : decode cX2_areInRange 31 = .ok (.if_icmp .le 5, 3) := DX2_areInRange_c2.1
theorem dX2_areInRange_34 : decode cX2_areInRange 34 = .ok (.iconst 0, 1) := DX2_areInRange_c2.2.1
theorem dX2_areInRange_35 : decode cX2_areInRange 35 = .ok (.ireturn, 1) := DX2_areInRange_c2.2.2.1
theorem dX2_areInRange_36 : decode cX2_areInRange 36 = .ok (.iinc 2 1, 3) := DX2_areInRange_c2.2.2.2.1
theorem dX2_areInRange_39 : decode cX2_areInRange 39 = .ok (.goto (-37), 3) := DX2_areInRange_c2.2.2.2.2.1
theorem dX2_areInRange_42 : decode cX2_areInRange 42 = .ok (.iconst 1, 1) := DX2_areInRange_c2.2.2.2.2.2.1
theorem dX2_areInRange_43 : decode cX2_areInRange 43 = .ok (.ireturn, 1) := DX2_areInRange_c2.2.2.2.2.2.2
set_option maxRecDepth 100000 in
theorem DX2_hasGraph_c0 : decode cX2_hasGraph 0 = .ok (.iconst 0, 1) ∧ decode cX2_hasGraph 1 = .ok (.istore_n 2, 1) ∧ decode cX2_hasGraph 2 = .ok (.iconst 1, 1) ∧ decode cX2_hasGraph 3 = .ok (.istore_n 3, 1) ∧ decode cX2_hasGraph 4 = .ok (.iload_n 3, 1) ∧ decode cX2_hasGraph 5 = .ok (.iload_n 1, 1) ∧ decode cX2_hasGraph 6 = .ok (.if_icmp .gt 79, 3) ∧ decode cX2_hasGraph 9 = .ok (.iload_n 3, 1) ∧ decode cX2_hasGraph 10 = .ok (.bipush 6, 2) ∧ decode cX2_hasGraph 12 = .ok (.if_icmp .gt 73, 3) := by decide +kernel
theorem dX2_hasGraph_0 : decode cX2_hasGraph 0 = .ok (.iconst 0, 1) := DX2_hasGraph_c0.1
theorem dX2_hasGraph_1 : decode cX2_hasGraph 1 = .ok (.istore_n 2, 1) := DX2_hasGraph_c0.2.1
theorem dX2_hasGraph_2 : decode cX2_hasGraph 2 = .ok (.iconst 1, 1) := DX2_hasGraph_c0.2.2.1
theorem dX2_hasGraph_3 : decode cX2_hasGraph 3 = .ok (.istore_n 3, 1) := DX2_hasGraph_c0.2.2.2.1
theorem dX2_hasGraph_4 : decode cX2_hasGraph 4 = .ok (.iload_n 3, 1) := DX2_hasGraph_c0.2.2.2.2.1
theorem dX2_hasGraph_5 : decode cX2_hasGraph 5 = .ok (.iload_n 1, 1) := DX2_hasGraph_c0.2.2.2.2.2.1
theorem dX2_hasGraph_6 : decode cX2_hasGraph 6 = .ok (.if_icmp .gt 79, 3) := DX2_hasGraph_c0.2.2.2.2.2.2.1
theorem dX2_hasGraph_9 : decode cX2_hasGraph 9 = .ok (.iload_n 3, 1) := DX2_hasGraph_c0.2.2.2.2.2.2.2.1
theorem dX2_hasGraph_10 : decode cX2_hasGraph 10 = .ok (.bipush 6, 2) := DX2_hasGraph_c0.2.2.2.2.2.2.2.2.1
theorem dX2_hasGraph_12 : decode cX2_hasGraph 12 = .ok (.if_icmp .gt 73, 3) := DX2_hasGraph_c0.2.2.2.2.2.2.2.2.2
set_option maxRecDepth 100000 in
theorem DX2_hasGraph_c1 : decode cX2_hasGraph 15 = .ok (.iload_n 2, 1) ∧ decode cX2_hasGraph 16 = .ok (.aload_n 0, 1) ∧ decode cX2_hasGraph 17 = .ok (.getfield 18, 3) ∧ decode cX2_hasGraph 20 = .ok (.iload_n 3, 1) ∧ decode cX2_hasGraph 21 = .ok (.iconst 1, 1) ∧ decode cX2_hasGraph 22 = .ok (.isub, 1) ∧ decode cX2_hasGraph 23 = .ok (.iaload, 1) ∧ decode cX2_hasGraph 24 = .ok (.iadd, 1) ∧ decode cX2_hasGraph 25 = .ok (.istore_n 2, 1) ∧ decode cX2_hasGraph 26 = .ok (.iload_n 3, 1) := by decide +kernel
theorem dX2_hasGraph_15 : decode cX2_hasGraph 15 = .ok (.iload_n 2, 1) := DX2_hasGraph_c1.1
theorem dX2_hasGraph_16 : decode cX2_hasGraph 16 = .ok (.aload_n 0, 1) := DX2_hasGraph_c1.2.1
theorem dX2_hasGraph_17 : decode cX2_hasGraph 17 = .ok (.getfield 18, 3) := DX2_hasGraph_c1.2.2.1
theorem dX2_hasGraph_20 : decode cX2_hasGraph 20 = .ok (.iload_n 3, 1) := DX2_hasGraph_c1.2.2.2.1
theorem dX2_hasGraph_21 : decode cX2_hasGraph 21 = .ok (.iconst 1, 1) := DX2_hasGraph_c1.2.2.2.2.1
theorem dX2_hasGraph_22 : decode cX2_hasGraph 22 = .ok (.isub, 1) := DX2_hasGraph_c1.2.2.2.2.2.1
theorem dX2_hasGraph_23 : decode cX2_hasGraph 23 = .ok (.iaload, 1) := DX2_hasGraph_c1.2.2.2.2.2.2.1
theorem dX2_hasGraph_24 : decode cX2_hasGraph 24 = .ok (.iadd, 1) := DX2_hasGraph_c1.2.2.2.2.2.2.2.1
theorem dX2_hasGraph_25 : decode cX2_hasGraph 25 = .ok (.istore_n 2, 1) := DX2_hasGraph_c1.2.2.2.2.2.2.2.2.1
theorem dX2_hasGraph_26 : decode cX2_hasGraph 26 = .ok (.iload_n 3, 1) := DX2_hasGraph_c1.2.2.2.2.2.2.2.2.2
set_option maxRecDepth 100000 in
theorem DX2_hasGraph_c2 : decode cX2_hasGraph 27 = .ok (.iload_n 3, 1) ∧ decode cX2_hasGraph 28 = .ok (.iconst 1, 1) ∧ decode cX2_hasGraph 29 = .ok (.isub, 1) ∧ decode cX2_hasGraph 30 = .ok (.imul, 1) ∧ decode cX2_hasGraph 31 = .ok (.istore 4, 2) ∧ decode cX2_hasGraph 33 = .ok (.iload_n 3, 1) ∧ decode cX2_hasGraph 34 = .ok (.istore 5, 2) ∧ decode cX2_hasGraph 36 = .ok (.iload 5, 2) ∧ decode cX2_hasGraph 38 = .ok (.iload_n 1, 1) ∧ decode cX2_hasGraph 39 = .ok (.if_icmp .ge 32, 3) := by decide +kernel
theorem dX2_hasGraph_27 : decode cX2_hasGraph 27 = .ok (.iload_n 3, 1) := DX2_hasGraph_c2.1
theorem dX2_hasGraph_28 : decode cX2_hasGraph 28 = .ok (.iconst 1, 1) := DX2_hasGraph_c2.2.1
theorem dX2_hasGraph_29 : decode cX2_hasGraph 29 = .ok (.isub, 1) := DX2_hasGraph_c2.2.2.1
theorem dX2_hasGraph_30 : decode cX2_hasGraph 30 = .ok (.imul, 1) := DX2_hasGraph_c2.2.2.2.1
theorem dX2_hasGraph_31 : decode cX2_hasGraph 31 = .ok (.istore 4, 2) := DX2_hasGraph_c2.2.2.2.2.1
theorem dX2_hasGraph_33 : decode cX2_hasGraph 33 = .ok (.iload_n 3, 1) := DX2_hasGraph_c2.2.2.2.2.2.1
theorem dX2_hasGraph_34 : decode cX2_hasGraph 34 = .ok (.istore 5, 2) := DX2_hasGraph_c2.2.2.2.2.2.2.1
theorem dX2_hasGraph_36 : decode cX2_hasGraph 36 = .ok (.iload 5, 2) := DX2_hasGraph_c2.2.2.2.2.2.2.2.1
theorem dX2_hasGraph_38 : decode cX2_hasGraph 38 = .ok (.iload_n 1, 1) := DX2_hasGraph_c2.2.2.2.2.2.2.2.2.1
theorem dX2_hasGraph_39 : decode cX2_hasGraph 39 = .ok (.if_icmp .ge 32, 3) := DX2_hasGraph_c2.2.2.2.2.2.2.2.2.2
set_option maxRecDepth 100000 in
theorem DX2_hasGraph_c3 : decode cX2_hasGraph 42 = .ok (.iload 5, 2) ∧ decode cX2_hasGraph 44 = .ok (.bipush 6, 2) ∧ decode cX2_hasGraph 46 = .ok (.if_icmp .ge 25, 3) ∧ decode cX2_hasGraph 49 = .ok (.iload 4, 2) ∧ decode cX2_hasGraph 51 = .ok (.aload_n 0, 1) ∧ decode cX2_hasGraph 52 = .ok (.getfield 18, 3) ∧ decode cX2_hasGraph 55 = .ok (.iload 5, 2) ∧ decode cX2_hasGraph 57 = .ok (.iaload, 1) ∧ decode cX2_hasGraph 58 = .ok (.iload_n 3, 1) ∧ decode cX2_hasGraph 59 = .ok (.invokestatic 75, 3) := by decide +kernel
theorem dX2_hasGraph_42 : decode cX2_hasGraph 42 = .ok (.iload 5, 2) := DX2_hasGraph_c3.1
theorem dX2_hasGraph_44 : decode cX2_hasGraph 44 = .ok (.bipush 6, 2) := DX2_hasGraph_c3.2.1
theorem dX2_hasGraph_46 : decode cX2_hasGraph 46 = .ok (.if_icmp .ge 25, 3) := DX2_hasGraph_c3.2.2.1
theorem dX2_hasGraph_49 : decode cX2_hasGraph 49 = .ok (.iload 4, 2) := DX2_hasGraph_c3.2.2.2.1
theorem dX2_hasGraph_51 : decode cX2_hasGraph 51 = .ok (.aload_n 0, 1) := DX2_hasGraph_c3.2.2.2.2.1
theorem dX2_hasGraph_52 : decode cX2_hasGraph 52 = .ok (.getfield 18, 3) := DX2_hasGraph_c3.2.2.2.2.2.1
theorem dX2_hasGraph_55 : decode cX2_hasGraph 55 = .ok (.iload 5, 2) := DX2_hasGraph_c3.2.2.2.2.2.2.1
theorem dX2_hasGraph_57 : decode cX2_hasGraph 57 = .ok (.iaload, 1) := DX2_hasGraph_c3.2.2.2.2.2.2.2.1
theorem dX2_hasGraph_58 : decode cX2_hasGraph 58 = .ok (.iload_n 3, 1) := DX2_hasGraph_c3.2.2.2.2.2.2.2.2.1
theorem dX2_hasGraph_59 : decode cX2_hasGraph 59 = .ok (.invokestatic 75, 3) := DX2_hasGraph_c3.2.2.2.2.2.2.2.2.2
set_option maxRecDepth 100000 in
theorem DX2_hasGraph_c4 : decode cX2_hasGraph 62 = .ok (.iadd, 1) ∧ decode cX2_hasGraph 63 = .ok (.istore 4, 2) ∧ decode cX2_hasGraph 65 = .ok (.iinc 5 1, 3) ∧ decode cX2_hasGraph 68 = .ok (.goto (-32), 3) ∧ decode cX2_hasGraph 71 = .ok (.iload_n 2, 1) ∧ decode cX2_hasGraph 72 = .ok (.iload 4, 2) ∧ decode cX2_hasGraph 74 = .ok (.if_icmp .le 5, 3) ∧ decode cX2_hasGraph 77 = .ok (.iconst 0, 1) ∧ decode cX2_hasGraph 78 = .ok (.ireturn, 1) ∧ decode cX2_hasGraph 79 = .ok (.iinc 3 1, 3) := by decide +kernel
theorem dX2_hasGraph_62 : decode cX2_hasGraph 62 = .ok (.iadd, 1) := DX2_hasGraph_c4.1
theorem dX2_hasGraph_63 : decode cX2_hasGraph 63 = .ok (.istore 4, 2) := DX2_hasGraph_c4.2.1
theorem dX2_hasGraph_65 : decode cX2_hasGraph 65 = .ok (.iinc 5 1, 3) := DX2_hasGraph_c4.2.2.1
theorem dX2_hasGraph_68 : decode cX2_hasGraph 68 = .ok (.goto (-32), 3) := DX2_hasGraph_c4.2.2.2.1
theorem dX2_hasGraph_71 : decode cX2_hasGraph 71 = .ok (.iload_n 2, 1) := DX2_hasGraph_c4.2.2.2.2.1
theorem dX2_hasGraph_72 : decode cX2_hasGraph 72 = .ok (.iload 4, 2) := DX2_hasGraph_c4.2.2.2.2.2.1
theorem dX2_hasGraph_74 : decode cX2_hasGraph 74 = .ok (.if_icmp .le 5, 3) := DX2_hasGraph_c4.2.2.2.2.2.2.1
theorem dX2_hasGraph_77 : decode cX2_hasGraph 77 = .ok (.iconst 0, 1) := DX2_hasGraph_c4.2.2.2.2.2.2.2.1
theorem dX2_hasGraph_78 : decode cX2_hasGraph 78 = .ok (.ireturn, 1) := DX2_hasGraph_c4.2.2.2.2.2.2.2.2.1
theorem dX2_hasGraph_79 : decode cX2_hasGraph 79 = .ok (.iinc 3 1, 3) := DX2_hasGraph_c4.2.2.2.2.2.2.2.2.2
set_option maxRecDepth 100000 in
theorem DX2_hasGraph_c5 : decode cX2_hasGraph 82 = .ok (.goto (-78), 3) ∧ decode cX2_hasGraph 85 = .ok (.iconst 1, 1) ∧ decode cX2_hasGraph 86 = .ok (.ireturn, 1) := by decide +kernel
theorem dX2_hasGraph_82 : decode cX2_hasGraph 82 = .ok (.goto (-78), 3) := DX2_hasGraph_c5.1
theorem dX2_hasGraph_85 : decode cX2_hasGraph 85 = .ok (.iconst 1, 1) := DX2_hasGraph_c5.2.1
theorem dX2_hasGraph_86 : decode cX2_hasGraph 86 = .ok (.ireturn, 1) := DX2_hasGraph_c5.2.2
set_option maxRecDepth 100000 in
theorem DX3_init_c0 : decode cX3_init 0 = .ok (.aload_n 0, 1) ∧ decode cX3_init 1 = .ok (.invokespecial 3, 3) ∧ decode cX3_init 4 = .ok (.aload_n 0, 1) ∧ decode cX3_init 5 = .ok (.bipush 8, 2) ∧ decode cX3_init 7 = .ok (.newarray .int, 2) ∧ decode cX3_init 9 = .ok (.putfield 9, 3) ∧ decode cX3_init 12 = .ok (.aload_n 0, 1) ∧ decode cX3_init 13 = .ok (.iconst 4, 1) ∧ decode cX3_init 14 = .ok (.putfield 15, 3) ∧ decode cX3_init 17 = .ok (.return_, 1) := by decide +kernel
theorem dX3_init_0 : decode cX3_init 0 = .ok (.aload_n 0, 1) := DX3_init_c0.1
theorem dX3_init_1 : decode cX3_init 1 = .ok (.invokespecial 3, 3) := DX3_init_c0.2.1
theorem dX3_init_4 : decode cX3_init 4 = .ok (.aload_n 0, 1) := DX3_init_c0.2.2.1
theorem dX3_init_5 : decode cX3_init 5 = .ok (.bipush 8, 2) := DX3_init_c0.2.2.2.1
theorem dX3_init_7 : decode cX3_init 7 = .ok (.newarray .int, 2) := DX3_init_c0.2.2.2.2.1
theorem dX3_init_9 : decode cX3_init 9 = .ok (.putfield 9, 3) := DX3_init_c0.2.2.2.2.2.1
theorem dX3_init_12 : decode cX3_init 12 = .ok (.aload_n 0, 1) := DX3_init_c0.2.2.2.2.2.2.1
theorem dX3_init_13 : decode cX3_init 13 = .ok (.iconst 4, 1) := DX3_init_c0.2.2.2.2.2.2.2.1
theorem dX3_init_14 : decode cX3_init 14 = .ok (.putfield 15, 3) := DX3_init_c0.2.2.2.2.2.2.2.2.1
theorem dX3_init_17 : decode cX3_init 17 = .ok (.return_, 1) := DX3_init_c0.2.2.2.2.2.2.2.2.2
set_option maxRecDepth 100000 in
theorem DX3_start_c0 : decode cX3_start 0 = .ok (.aload_n 0, 1) ∧ decode cX3_start 1 = .ok (.iload_n 1, 1) ∧ decode cX3_start 2 = .ok (.putfield 15, 3) ∧ decode cX3_start 5 = .ok (.aload_n 0, 1) ∧ decode cX3_start 6 = .ok (.iconst 0, 1) ∧ decode cX3_start 7 = .ok (.putfield 19, 3) ∧ decode cX3_start 10 = .ok (.return_, 1) := by decide +kernel
theorem dX3_start_0 : decode cX3_start 0 = .ok (.aload_n 0, 1) := DX3_start_c0.1
theorem dX3_start_1 : decode cX3_start 1 = .ok (.iload_n 1, 1) := DX3_start_c0.2.1
theorem dX3_start_2 : decode cX3_start 2 = .ok (.putfield 15, 3) := DX3_start_c0.2.2.1
theorem dX3_start_5 : decode cX3_start 5 = .ok (.aload_n 0, 1) := DX3_start_c0.2.2.2.1
theorem dX3_start_6 : decode cX3_start 6 = .ok (.iconst 0, 1) := DX3_start_c0.2.2.2.2.1
theorem dX3_start_7 : decode cX3_start 7 = .ok (.putfield 19, 3) := DX3_start_c0.2.2.2.2.2.1
theorem dX3_start_10 : decode cX3_start 10 = .ok (.return_, 1) := DX3_start_c0.2.2.2.2.2.2
set_option maxRecDepth 100000 in
theorem DX3_h_c0 : decode cX3_h 0 = .ok (.aload_n 0, 1) ∧ decode cX3_h 1 = .ok (.getfield 15, 3) ∧ decode cX3_h 4 = .ok (.ireturn, 1) := by decide +kernel
theorem dX3_h_0 : decode cX3_h 0 = .ok (.aload_n 0, 1) := DX3_h_c0.1
theorem dX3_h_1 : decode cX3_h 1 = .ok (.getfield 15, 3) := DX3_h_c0.2.1
theorem dX3_h_4 : decode cX3_h 4 = .ok (.ireturn, 1) := DX3_h_c0.2.2
set_option maxRecDepth 100000 in
theorem DX3_size_c0 : decode cX3_size 0 = .ok (.aload_n 0, 1) ∧ decode cX3_size 1 = .ok (.getfield 19, 3) ∧ decode cX3_size 4 = .ok (.ireturn, 1) := by decide +kernel
theorem dX3_size_0 : decode cX3_size 0 = .ok (.aload_n 0, 1) := DX3_size_c0.1
theorem dX3_size_1 : decode cX3_size 1 = .ok (.getfield 19, 3) := DX3_size_c0.2.1
theorem dX3_size_4 : decode cX3_size 4 = .ok (.ireturn, 1) := DX3_size_c0.2.2
set_option maxRecDepth 100000 in
theorem DX3_lost_c0 : decode cX3_lost 0 = .ok (.aload_n 0, 1) ∧ decode cX3_lost 1 = .ok (.getfield 15, 3) ∧ decode cX3_lost 4 = .ok (.aload_n 0, 1) ∧ decode cX3_lost 5 = .ok (.getfield 19, 3) ∧ decode cX3_lost 8 = .ok (.isub, 1) ∧ decode cX3_lost 9 = .ok (.ireturn, 1) := by decide +kernel
theorem dX3_lost_0 : decode cX3_lost 0 = .ok (.aload_n 0, 1) := DX3_lost_c0.1
theorem dX3_lost_1 : decode cX3_lost 1 = .ok (.getfield 15, 3) := DX3_lost_c0.2.1
theorem dX3_lost_4 : decode cX3_lost 4 = .ok (.aload_n 0, 1) := DX3_lost_c0.2.2.1
theorem dX3_lost_5 : decode cX3_lost 5 = .ok (.getfield 19, 3) := DX3_lost_c0.2.2.2.1
theorem dX3_lost_8 : decode cX3_lost 8 = .ok (.isub, 1) := DX3_lost_c0.2.2.2.2.1
theorem dX3_lost_9 : decode cX3_lost 9 = .ok (.ireturn, 1) := DX3_lost_c0.2.2.2.2.2
set_option maxRecDepth 100000 in
theorem DX3_has_c0 : decode cX3_has 0 = .ok (.iload_n 1, 1) ∧ decode cX3_has 1 = .ok (.ifCond .lt 15, 3) ∧ decode cX3_has 4 = .ok (.iload_n 1, 1) ∧ decode cX3_has 5 = .ok (.aload_n 0, 1) ∧ decode cX3_has 6 = .ok (.getfield 19, 3) ∧ decode cX3_has 9 = .ok (.if_icmp .ge 7, 3) ∧ decode cX3_has 12 = .ok (.iconst 1, 1) ∧ decode cX3_has 13 = .ok (.goto 4, 3) ∧ decode cX3_has 16 = .ok (.iconst 0, 1) ∧ decode cX3_has 17 = .ok (.ireturn, 1) := by decide +kernel
theorem dX3_has_0 : decode cX3_has 0 = .ok (.iload_n 1, 1) := DX3_has_c0.1
theorem dX3_has_1 : decode cX3_has 1 = .ok (.ifCond .lt 15, 3) := DX3_has_c0.2.1
theorem dX3_has_4 : decode cX3_has 4 = .ok (.iload_n 1, 1) := DX3_has_c0.2.2.1
theorem dX3_has_5 : decode cX3_has 5 = .ok (.aload_n 0, 1) := DX3_has_c0.2.2.2.1
theorem dX3_has_6 : decode cX3_has 6 = .ok (.getfield 19, 3) := DX3_has_c0.2.2.2.2.1
theorem dX3_has_9 : decode cX3_has 9 = .ok (.if_icmp .ge 7, 3) := DX3_has_c0.2.2.2.2.2.1
theorem dX3_has_12 : decode cX3_has 12 = .ok (.iconst 1, 1) := DX3_has_c0.2.2.2.2.2.2.1
theorem dX3_has_13 : decode cX3_has 13 = .ok (.goto 4, 3) := DX3_has_c0.2.2.2.2.2.2.2.1
theorem dX3_has_16 : decode cX3_has 16 = .ok (.iconst 0, 1) := DX3_has_c0.2.2.2.2.2.2.2.2.1
theorem dX3_has_17 : decode cX3_has 17 = .ok (.ireturn, 1) := DX3_has_c0.2.2.2.2.2.2.2.2.2
set_option maxRecDepth 100000 in
theorem DX3_codeAt_c0 : decode cX3_codeAt 0 = .ok (.aload_n 0, 1) ∧ decode cX3_codeAt 1 = .ok (.iload_n 1, 1) ∧ decode cX3_codeAt 2 = .ok (.invokevirtual 22, 3) ∧ decode cX3_codeAt 5 = .ok (.ifCond .eq 12, 3) ∧ decode cX3_codeAt 8 = .ok (.aload_n 0, 1) ∧ decode cX3_codeAt 9 = .ok (.getfield 9, 3) ∧ decode cX3_codeAt 12 = .ok (.iload_n 1, 1) ∧ decode cX3_codeAt 13 = .ok (.iaload, 1) ∧ decode cX3_codeAt 14 = .ok (.goto 5, 3) ∧ decode cX3_codeAt 17 = .ok (.bipush (-9), 2) := by decide +kernel
theorem dX3_codeAt_0 : decode cX3_codeAt 0 = .ok (.aload_n 0, 1) := DX3_codeAt_c0.1
theorem dX3_codeAt_1 : decode cX3_codeAt 1 = .ok (.iload_n 1, 1) := DX3_codeAt_c0.2.1
theorem dX3_codeAt_2 : decode cX3_codeAt 2 = .ok (.invokevirtual 22, 3) := DX3_codeAt_c0.2.2.1
theorem dX3_codeAt_5 : decode cX3_codeAt 5 = .ok (.ifCond .eq 12, 3) := DX3_codeAt_c0.2.2.2.1
theorem dX3_codeAt_8 : decode cX3_codeAt 8 = .ok (.aload_n 0, 1) := DX3_codeAt_c0.2.2.2.2.1
theorem dX3_codeAt_9 : decode cX3_codeAt 9 = .ok (.getfield 9, 3) := DX3_codeAt_c0.2.2.2.2.2.1
theorem dX3_codeAt_12 : decode cX3_codeAt 12 = .ok (.iload_n 1, 1) := DX3_codeAt_c0.2.2.2.2.2.2.1
theorem dX3_codeAt_13 : decode cX3_codeAt 13 = .ok (.iaload, 1) := DX3_codeAt_c0.2.2.2.2.2.2.2.1
theorem dX3_codeAt_14 : decode cX3_codeAt 14 = .ok (.goto 5, 3) := DX3_codeAt_c0.2.2.2.2.2.2.2.2.1
theorem dX3_codeAt_17 : decode cX3_codeAt 17 = .ok (.bipush (-9), 2) := DX3_codeAt_c0.2.2.2.2.2.2.2.2.2
set_option maxRecDepth 100000 in
theorem DX3_codeAt_c1 : decode cX3_codeAt 19 = .ok (.ireturn, 1) := by decide +kernel
theorem dX3_codeAt_19 : decode cX3_codeAt 19 = .ok (.ireturn, 1) := DX3_codeAt_c1
set_option maxRecDepth 100000 in
theorem DX3_everyCard_c0 : decode cX3_everyCard 0 = .ok (.iconst 1, 1) ∧ decode cX3_everyCard 1 = .ok (.aload_n 0, 1) ∧ decode cX3_everyCard 2 = .ok (.getfield 19, 3) ∧ decode cX3_everyCard 5 = .ok (.ishl, 1) ∧ decode cX3_everyCard 6 = .ok (.iconst 1, 1) ∧ decode cX3_everyCard 7 = .ok (.isub, 1) ∧ decode cX3_everyCard 8 = .ok (.ireturn, 1) := by decide +kernel
theorem dX3_everyCard_0 : decode cX3_everyCard 0 = .ok (.iconst 1, 1) := DX3_everyCard_c0.1
theorem dX3_everyCard_1 : decode cX3_everyCard 1 = .ok (.aload_n 0, 1) := DX3_everyCard_c0.2.1
theorem dX3_everyCard_2 : decode cX3_everyCard 2 = .ok (.getfield 19, 3) := DX3_everyCard_c0.2.2.1
theorem dX3_everyCard_5 : decode cX3_everyCard 5 = .ok (.ishl, 1) := DX3_everyCard_c0.2.2.2.1
theorem dX3_everyCard_6 : decode cX3_everyCard 6 = .ok (.iconst 1, 1) := DX3_everyCard_c0.2.2.2.2.1
theorem dX3_everyCard_7 : decode cX3_everyCard 7 = .ok (.isub, 1) := DX3_everyCard_c0.2.2.2.2.2.1
theorem dX3_everyCard_8 : decode cX3_everyCard 8 = .ok (.ireturn, 1) := DX3_everyCard_c0.2.2.2.2.2.2
set_option maxRecDepth 100000 in
theorem DX3_put_c0 : decode cX3_put 0 = .ok (.iconst 0, 1) ∧ decode cX3_put 1 = .ok (.istore_n 2, 1) ∧ decode cX3_put 2 = .ok (.iload_n 2, 1) ∧ decode cX3_put 3 = .ok (.aload_n 0, 1) ∧ decode cX3_put 4 = .ok (.getfield 19, 3) ∧ decode cX3_put 7 = .ok (.if_icmp .ge 19, 3) ∧ decode cX3_put 10 = .ok (.aload_n 0, 1) ∧ decode cX3_put 11 = .ok (.getfield 9, 3) ∧ decode cX3_put 14 = .ok (.iload_n 2, 1) ∧ decode cX3_put 15 = .ok (.iaload, 1) := by decide +kernel
theorem dX3_put_0 : decode cX3_put 0 = .ok (.iconst 0, 1) := DX3_put_c0.1
theorem dX3_put_1 : decode cX3_put 1 = .ok (.istore_n 2, 1) := DX3_put_c0.2.1
theorem dX3_put_2 : decode cX3_put 2 = .ok (.iload_n 2, 1) := DX3_put_c0.2.2.1
theorem dX3_put_3 : decode cX3_put 3 = .ok (.aload_n 0, 1) := DX3_put_c0.2.2.2.1
theorem dX3_put_4 : decode cX3_put 4 = .ok (.getfield 19, 3) := DX3_put_c0.2.2.2.2.1
theorem dX3_put_7 : decode cX3_put 7 = .ok (.if_icmp .ge 19, 3) := DX3_put_c0.2.2.2.2.2.1
theorem dX3_put_10 : decode cX3_put 10 = .ok (.aload_n 0, 1) := DX3_put_c0.2.2.2.2.2.2.1
theorem dX3_put_11 : decode cX3_put 11 = .ok (.getfield 9, 3) := DX3_put_c0.2.2.2.2.2.2.2.1
theorem dX3_put_14 : decode cX3_put 14 = .ok (.iload_n 2, 1) := DX3_put_c0.2.2.2.2.2.2.2.2.1
theorem dX3_put_15 : decode cX3_put 15 = .ok (.iaload, 1) := DX3_put_c0.2.2.2.2.2.2.2.2.2
set_option maxRecDepth 100000 in
theorem DX3_put_c1 : decode cX3_put 16 = .ok (.iload_n 1, 1) ∧ decode cX3_put 17 = .ok (.if_icmp .ge 9, 3) ∧ decode cX3_put 20 = .ok (.iinc 2 1, 3) ∧ decode cX3_put 23 = .ok (.goto (-21), 3) ∧ decode cX3_put 26 = .ok (.aload_n 0, 1) ∧ decode cX3_put 27 = .ok (.getfield 19, 3) ∧ decode cX3_put 30 = .ok (.bipush 8, 2) ∧ decode cX3_put 32 = .ok (.if_icmp .ge 50, 3) ∧ decode cX3_put 35 = .ok (.aload_n 0, 1) ∧ decode cX3_put 36 = .ok (.getfield 19, 3) := by decide +kernel
theorem dX3_put_16 : decode cX3_put 16 = .ok (.iload_n 1, 1) := DX3_put_c1.1
theorem dX3_put_17 : decode cX3_put 17 = .ok (.if_icmp .ge 9, 3) := DX3_put_c1.2.1
theorem dX3_put_20 : decode cX3_put 20 = .ok (.iinc 2 1, 3) := DX3_put_c1.2.2.1
theorem dX3_put_23 : decode cX3_put 23 = .ok (.goto (-21), 3) := DX3_put_c1.2.2.2.1
theorem dX3_put_26 : decode cX3_put 26 = .ok (.aload_n 0, 1) := DX3_put_c1.2.2.2.2.1
theorem dX3_put_27 : decode cX3_put 27 = .ok (.getfield 19, 3) := DX3_put_c1.2.2.2.2.2.1
theorem dX3_put_30 : decode cX3_put 30 = .ok (.bipush 8, 2) := DX3_put_c1.2.2.2.2.2.2.1
theorem dX3_put_32 : decode cX3_put 32 = .ok (.if_icmp .ge 50, 3) := DX3_put_c1.2.2.2.2.2.2.2.1
theorem dX3_put_35 : decode cX3_put 35 = .ok (.aload_n 0, 1) := DX3_put_c1.2.2.2.2.2.2.2.2.1
theorem dX3_put_36 : decode cX3_put 36 = .ok (.getfield 19, 3) := DX3_put_c1.2.2.2.2.2.2.2.2.2
set_option maxRecDepth 100000 in
theorem DX3_put_c2 : decode cX3_put 39 = .ok (.istore_n 3, 1) ∧ decode cX3_put 40 = .ok (.iload_n 3, 1) ∧ decode cX3_put 41 = .ok (.iload_n 2, 1) ∧ decode cX3_put 42 = .ok (.if_icmp .le 23, 3) ∧ decode cX3_put 45 = .ok (.aload_n 0, 1) ∧ decode cX3_put 46 = .ok (.getfield 9, 3) ∧ decode cX3_put 49 = .ok (.iload_n 3, 1) ∧ decode cX3_put 50 = .ok (.aload_n 0, 1) ∧ decode cX3_put 51 = .ok (.getfield 9, 3) ∧ decode cX3_put 54 = .ok (.iload_n 3, 1) := by decide +kernel
theorem dX3_put_39 : decode cX3_put 39 = .ok (.istore_n 3, 1) := DX3_put_c2.1
theorem dX3_put_40 : decode cX3_put 40 = .ok (.iload_n 3, 1) := DX3_put_c2.2.1
theorem dX3_put_41 : decode cX3_put 41 = .ok (.iload_n 2, 1) := DX3_put_c2.2.2.1
theorem dX3_put_42 : decode cX3_put 42 = .ok (.if_icmp .le 23, 3) := DX3_put_c2.2.2.2.1
theorem dX3_put_45 : decode cX3_put 45 = .ok (.aload_n 0, 1) := DX3_put_c2.2.2.2.2.1
theorem dX3_put_46 : decode cX3_put 46 = .ok (.getfield 9, 3) := DX3_put_c2.2.2.2.2.2.1
theorem dX3_put_49 : decode cX3_put 49 = .ok (.iload_n 3, 1) := DX3_put_c2.2.2.2.2.2.2.1
theorem dX3_put_50 : decode cX3_put 50 = .ok (.aload_n 0, 1) := DX3_put_c2.2.2.2.2.2.2.2.1
theorem dX3_put_51 : decode cX3_put 51 = .ok (.getfield 9, 3) := DX3_put_c2.2.2.2.2.2.2.2.2.1
theorem dX3_put_54 : decode cX3_put 54 = .ok (.iload_n 3, 1) := DX3_put_c2.2.2.2.2.2.2.2.2.2
set_option maxRecDepth 100000 in
theorem DX3_put_c3 : decode cX3_put 55 = .ok (.iconst 1, 1) ∧ decode cX3_put 56 = .ok (.isub, 1) ∧ decode cX3_put 57 = .ok (.iaload, 1) ∧ decode cX3_put 58 = .ok (.iastore, 1) ∧ decode cX3_put 59 = .ok (.iinc 3 (-1), 3) ∧ decode cX3_put 62 = .ok (.goto (-22), 3) ∧ decode cX3_put 65 = .ok (.aload_n 0, 1) ∧ decode cX3_put 66 = .ok (.getfield 9, 3) ∧ decode cX3_put 69 = .ok (.iload_n 2, 1) ∧ decode cX3_put 70 = .ok (.iload_n 1, 1) := by decide +kernel
theorem dX3_put_55 : decode cX3_put 55 = .ok (.iconst 1, 1) := DX3_put_c3.1
theorem dX3_put_56 : decode cX3_put 56 = .ok (.isub, 1) := DX3_put_c3.2.1
theorem dX3_put_57 : decode cX3_put 57 = .ok (.iaload, 1) := DX3_put_c3.2.2.1
theorem dX3_put_58 : decode cX3_put 58 = .ok (.iastore, 1) := DX3_put_c3.2.2.2.1
theorem dX3_put_59 : decode cX3_put 59 = .ok (.iinc 3 (-1), 3) := DX3_put_c3.2.2.2.2.1
theorem dX3_put_62 : decode cX3_put 62 = .ok (.goto (-22), 3) := DX3_put_c3.2.2.2.2.2.1
theorem dX3_put_65 : decode cX3_put 65 = .ok (.aload_n 0, 1) := DX3_put_c3.2.2.2.2.2.2.1
theorem dX3_put_66 : decode cX3_put 66 = .ok (.getfield 9, 3) := DX3_put_c3.2.2.2.2.2.2.2.1
theorem dX3_put_69 : decode cX3_put 69 = .ok (.iload_n 2, 1) := DX3_put_c3.2.2.2.2.2.2.2.2.1
theorem dX3_put_70 : decode cX3_put 70 = .ok (.iload_n 1, 1) := DX3_put_c3.2.2.2.2.2.2.2.2.2
set_option maxRecDepth 100000 in
theorem DX3_put_c4 : decode cX3_put 71 = .ok (.iastore, 1) ∧ decode cX3_put 72 = .ok (.aload_n 0, 1) ∧ decode cX3_put 73 = .ok (.dup, 1) ∧ decode cX3_put 74 = .ok (.getfield 19, 3) ∧ decode cX3_put 77 = .ok (.iconst 1, 1) ∧ decode cX3_put 78 = .ok (.iadd, 1) ∧ decode cX3_put 79 = .ok (.putfield 19, 3) ∧ decode cX3_put 82 = .ok (.iload_n 2, 1) ∧ decode cX3_put 83 = .ok (.ireturn, 1) := by decide +kernel
theorem dX3_put_71 : decode cX3_put 71 = .ok (.iastore, 1) := DX3_put_c4.1
theorem dX3_put_72 : decode cX3_put 72 = .ok (.aload_n 0, 1) := DX3_put_c4.2.1
theorem dX3_put_73 : decode cX3_put 73 = .ok (.dup, 1) := DX3_put_c4.2.2.1
theorem dX3_put_74 : decode cX3_put 74 = .ok (.getfield 19, 3) := DX3_put_c4.2.2.2.1
theorem dX3_put_77 : decode cX3_put 77 = .ok (.iconst 1, 1) := DX3_put_c4.2.2.2.2.1
theorem dX3_put_78 : decode cX3_put 78 = .ok (.iadd, 1) := DX3_put_c4.2.2.2.2.2.1
theorem dX3_put_79 : decode cX3_put 79 = .ok (.putfield 19, 3) := DX3_put_c4.2.2.2.2.2.2.1
theorem dX3_put_82 : decode cX3_put 82 = .ok (.iload_n 2, 1) := DX3_put_c4.2.2.2.2.2.2.2.1
theorem dX3_put_83 : decode cX3_put 83 = .ok (.ireturn, 1) := DX3_put_c4.2.2.2.2.2.2.2.2
set_option maxRecDepth 100000 in
theorem DX3_removeAt_c0 : decode cX3_removeAt 0 = .ok (.aload_n 0, 1) ∧ decode cX3_removeAt 1 = .ok (.iload_n 1, 1) ∧ decode cX3_removeAt 2 = .ok (.invokevirtual 22, 3) ∧ decode cX3_removeAt 5 = .ok (.ifCond .ne 4, 3) ∧ decode cX3_removeAt 8 = .ok (.return_, 1) ∧ decode cX3_removeAt 9 = .ok (.aload_n 0, 1) ∧ decode cX3_removeAt 10 = .ok (.dup, 1) ∧ decode cX3_removeAt 11 = .ok (.getfield 19, 3) ∧ decode cX3_removeAt 14 = .ok (.iconst 1, 1) ∧ decode cX3_removeAt 15 = .ok (.isub, 1) := by decide +kernel
theorem dX3_removeAt_0 : decode cX3_removeAt 0 = .ok (.aload_n 0, 1) := DX3_removeAt_c0.1
theorem dX3_removeAt_1 : decode cX3_removeAt 1 = .ok (.iload_n 1, 1) := DX3_removeAt_c0.2.1
theorem dX3_removeAt_2 : decode cX3_removeAt 2 = .ok (.invokevirtual 22, 3) := DX3_removeAt_c0.2.2.1
theorem dX3_removeAt_5 : decode cX3_removeAt 5 = .ok (.ifCond .ne 4, 3) := DX3_removeAt_c0.2.2.2.1
theorem dX3_removeAt_8 : decode cX3_removeAt 8 = .ok (.return_, 1) := DX3_removeAt_c0.2.2.2.2.1
theorem dX3_removeAt_9 : decode cX3_removeAt 9 = .ok (.aload_n 0, 1) := DX3_removeAt_c0.2.2.2.2.2.1
theorem dX3_removeAt_10 : decode cX3_removeAt 10 = .ok (.dup, 1) := DX3_removeAt_c0.2.2.2.2.2.2.1
theorem dX3_removeAt_11 : decode cX3_removeAt 11 = .ok (.getfield 19, 3) := DX3_removeAt_c0.2.2.2.2.2.2.2.1
theorem dX3_removeAt_14 : decode cX3_removeAt 14 = .ok (.iconst 1, 1) := DX3_removeAt_c0.2.2.2.2.2.2.2.2.1
theorem dX3_removeAt_15 : decode cX3_removeAt 15 = .ok (.isub, 1) := DX3_removeAt_c0.2.2.2.2.2.2.2.2.2
set_option maxRecDepth 100000 in
theorem DX3_removeAt_c1 : decode cX3_removeAt 16 = .ok (.putfield 19, 3) ∧ decode cX3_removeAt 19 = .ok (.iload_n 1, 1) ∧ decode cX3_removeAt 20 = .ok (.istore_n 2, 1) ∧ decode cX3_removeAt 21 = .ok (.iload_n 2, 1) ∧ decode cX3_removeAt 22 = .ok (.aload_n 0, 1) ∧ decode cX3_removeAt 23 = .ok (.getfield 19, 3) ∧ decode cX3_removeAt 26 = .ok (.if_icmp .ge 23, 3) ∧ decode cX3_removeAt 29 = .ok (.aload_n 0, 1) ∧ decode cX3_removeAt 30 = .ok (.getfield 9, 3) ∧ decode cX3_removeAt 33 = .ok (.iload_n 2, 1) := by decide +kernel
theorem dX3_removeAt_16 : decode cX3_removeAt 16 = .ok (.putfield 19, 3) := DX3_removeAt_c1.1
theorem dX3_removeAt_19 : decode cX3_removeAt 19 = .ok (.iload_n 1, 1) := DX3_removeAt_c1.2.1
theorem dX3_removeAt_20 : decode cX3_removeAt 20 = .ok (.istore_n 2, 1) := DX3_removeAt_c1.2.2.1
theorem dX3_removeAt_21 : decode cX3_removeAt 21 = .ok (.iload_n 2, 1) := DX3_removeAt_c1.2.2.2.1
theorem dX3_removeAt_22 : decode cX3_removeAt 22 = .ok (.aload_n 0, 1) := DX3_removeAt_c1.2.2.2.2.1
theorem dX3_removeAt_23 : decode cX3_removeAt 23 = .ok (.getfield 19, 3) := DX3_removeAt_c1.2.2.2.2.2.1
theorem dX3_removeAt_26 : decode cX3_removeAt 26 = .ok (.if_icmp .ge 23, 3) := DX3_removeAt_c1.2.2.2.2.2.2.1
theorem dX3_removeAt_29 : decode cX3_removeAt 29 = .ok (.aload_n 0, 1) := DX3_removeAt_c1.2.2.2.2.2.2.2.1
theorem dX3_removeAt_30 : decode cX3_removeAt 30 = .ok (.getfield 9, 3) := DX3_removeAt_c1.2.2.2.2.2.2.2.2.1
theorem dX3_removeAt_33 : decode cX3_removeAt 33 = .ok (.iload_n 2, 1) := DX3_removeAt_c1.2.2.2.2.2.2.2.2.2
set_option maxRecDepth 100000 in
theorem DX3_removeAt_c2 : decode cX3_removeAt 34 = .ok (.aload_n 0, 1) ∧ decode cX3_removeAt 35 = .ok (.getfield 9, 3) ∧ decode cX3_removeAt 38 = .ok (.iload_n 2, 1) ∧ decode cX3_removeAt 39 = .ok (.iconst 1, 1) ∧ decode cX3_removeAt 40 = .ok (.iadd, 1) ∧ decode cX3_removeAt 41 = .ok (.iaload, 1) ∧ decode cX3_removeAt 42 = .ok (.iastore, 1) ∧ decode cX3_removeAt 43 = .ok (.iinc 2 1, 3) ∧ decode cX3_removeAt 46 = .ok (.goto (-25), 3) ∧ decode cX3_removeAt 49 = .ok (.return_, 1) := by decide +kernel
theorem dX3_removeAt_34 : decode cX3_removeAt 34 = .ok (.aload_n 0, 1) := DX3_removeAt_c2.1
theorem dX3_removeAt_35 : decode cX3_removeAt 35 = .ok (.getfield 9, 3) := DX3_removeAt_c2.2.1
theorem dX3_removeAt_38 : decode cX3_removeAt 38 = .ok (.iload_n 2, 1) := DX3_removeAt_c2.2.2.1
theorem dX3_removeAt_39 : decode cX3_removeAt 39 = .ok (.iconst 1, 1) := DX3_removeAt_c2.2.2.2.1
theorem dX3_removeAt_40 : decode cX3_removeAt 40 = .ok (.iadd, 1) := DX3_removeAt_c2.2.2.2.2.1
theorem dX3_removeAt_41 : decode cX3_removeAt 41 = .ok (.iaload, 1) := DX3_removeAt_c2.2.2.2.2.2.1
theorem dX3_removeAt_42 : decode cX3_removeAt 42 = .ok (.iastore, 1) := DX3_removeAt_c2.2.2.2.2.2.2.1
theorem dX3_removeAt_43 : decode cX3_removeAt 43 = .ok (.iinc 2 1, 3) := DX3_removeAt_c2.2.2.2.2.2.2.2.1
theorem dX3_removeAt_46 : decode cX3_removeAt 46 = .ok (.goto (-25), 3) := DX3_removeAt_c2.2.2.2.2.2.2.2.2.1
theorem dX3_removeAt_49 : decode cX3_removeAt 49 = .ok (.return_, 1) := DX3_removeAt_c2.2.2.2.2.2.2.2.2.2
set_option maxRecDepth 100000 in
theorem DX3_fill_c0 : decode cX3_fill 0 = .ok (.aload_n 0, 1) ∧ decode cX3_fill 1 = .ok (.aload_n 1, 1) ∧ decode cX3_fill 2 = .ok (.invokevirtual 26, 3) ∧ decode cX3_fill 5 = .ok (.invokevirtual 31, 3) ∧ decode cX3_fill 8 = .ok (.iconst 0, 1) ∧ decode cX3_fill 9 = .ok (.istore_n 3, 1) ∧ decode cX3_fill 10 = .ok (.iload_n 3, 1) ∧ decode cX3_fill 11 = .ok (.aload_n 1, 1) ∧ decode cX3_fill 12 = .ok (.invokevirtual 26, 3) ∧ decode cX3_fill 15 = .ok (.if_icmp .ge 29, 3) := by decide +kernel
theorem dX3_fill_0 : decode cX3_fill 0 = .ok (.aload_n 0, 1) := DX3_fill_c0.1
theorem dX3_fill_1 : decode cX3_fill 1 = .ok (.aload_n 1, 1) := DX3_fill_c0.2.1
theorem dX3_fill_2 : decode cX3_fill 2 = .ok (.invokevirtual 26, 3) := DX3_fill_c0.2.2.1
theorem dX3_fill_5 : decode cX3_fill 5 = .ok (.invokevirtual 31, 3) := DX3_fill_c0.2.2.2.1
theorem dX3_fill_8 : decode cX3_fill 8 = .ok (.iconst 0, 1) := DX3_fill_c0.2.2.2.2.1
theorem dX3_fill_9 : decode cX3_fill 9 = .ok (.istore_n 3, 1) := DX3_fill_c0.2.2.2.2.2.1
theorem dX3_fill_10 : decode cX3_fill 10 = .ok (.iload_n 3, 1) := DX3_fill_c0.2.2.2.2.2.2.1
theorem dX3_fill_11 : decode cX3_fill 11 = .ok (.aload_n 1, 1) := DX3_fill_c0.2.2.2.2.2.2.2.1
theorem dX3_fill_12 : decode cX3_fill 12 = .ok (.invokevirtual 26, 3) := DX3_fill_c0.2.2.2.2.2.2.2.2.1
theorem dX3_fill_15 : decode cX3_fill 15 = .ok (.if_icmp .ge 29, 3) := DX3_fill_c0.2.2.2.2.2.2.2.2.2
set_option maxRecDepth 100000 in
theorem DX3_fill_c1 : decode cX3_fill 18 = .ok (.aload_n 0, 1) ∧ decode cX3_fill 19 = .ok (.aload_n 2, 1) ∧ decode cX3_fill 20 = .ok (.aload_n 1, 1) ∧ decode cX3_fill 21 = .ok (.invokevirtual 26, 3) ∧ decode cX3_fill 24 = .ok (.iconst 1, 1) ∧ decode cX3_fill 25 = .ok (.isub, 1) ∧ decode cX3_fill 26 = .ok (.aload_n 1, 1) ∧ decode cX3_fill 27 = .ok (.iload_n 3, 1) ∧ decode cX3_fill 28 = .ok (.invokevirtual 35, 3) ∧ decode cX3_fill 31 = .ok (.invokevirtual 39, 3) := by decide +kernel
theorem dX3_fill_18 : decode cX3_fill 18 = .ok (.aload_n 0, 1) := DX3_fill_c1.1
theorem dX3_fill_19 : decode cX3_fill 19 = .ok (.aload_n 2, 1) := DX3_fill_c1.2.1
theorem dX3_fill_20 : decode cX3_fill 20 = .ok (.aload_n 1, 1) := DX3_fill_c1.2.2.1
theorem dX3_fill_21 : decode cX3_fill 21 = .ok (.invokevirtual 26, 3) := DX3_fill_c1.2.2.2.1
theorem dX3_fill_24 : decode cX3_fill 24 = .ok (.iconst 1, 1) := DX3_fill_c1.2.2.2.2.1
theorem dX3_fill_25 : decode cX3_fill 25 = .ok (.isub, 1) := DX3_fill_c1.2.2.2.2.2.1
theorem dX3_fill_26 : decode cX3_fill 26 = .ok (.aload_n 1, 1) := DX3_fill_c1.2.2.2.2.2.2.1
theorem dX3_fill_27 : decode cX3_fill 27 = .ok (.iload_n 3, 1) := DX3_fill_c1.2.2.2.2.2.2.2.1
theorem dX3_fill_28 : decode cX3_fill 28 = .ok (.invokevirtual 35, 3) := DX3_fill_c1.2.2.2.2.2.2.2.2.1
theorem dX3_fill_31 : decode cX3_fill 31 = .ok (.invokevirtual 39, 3) := DX3_fill_c1.2.2.2.2.2.2.2.2.2
set_option maxRecDepth 100000 in
theorem DX3_fill_c2 : decode cX3_fill 34 = .ok (.invokevirtual 45, 3) ∧ decode cX3_fill 37 = .ok (.pop, 1) ∧ decode cX3_fill 38 = .ok (.iinc 3 1, 3) ∧ decode cX3_fill 41 = .ok (.goto (-31), 3) ∧ decode cX3_fill 44 = .ok (.return_, 1) := by decide +kernel
theorem dX3_fill_34 : decode cX3_fill 34 = .ok (.invokevirtual 45, 3) := DX3_fill_c2.1
theorem dX3_fill_37 : decode cX3_fill 37 = .ok (.pop, 1) := DX3_fill_c2.2.1
theorem dX3_fill_38 : decode cX3_fill 38 = .ok (.iinc 3 1, 3) := DX3_fill_c2.2.2.1
theorem dX3_fill_41 : decode cX3_fill 41 = .ok (.goto (-31), 3) := DX3_fill_c2.2.2.2.1
theorem dX3_fill_44 : decode cX3_fill 44 = .ok (.return_, 1) := DX3_fill_c2.2.2.2.2
set_option maxRecDepth 100000 in
theorem DX3_howOften_c0 : decode cX3_howOften 0 = .ok (.iconst 0, 1) ∧ decode cX3_howOften 1 = .ok (.istore_n 2, 1) ∧ decode cX3_howOften 2 = .ok (.iconst 0, 1) ∧ decode cX3_howOften 3 = .ok (.istore_n 3, 1) ∧ decode cX3_howOften 4 = .ok (.iload_n 3, 1) ∧ decode cX3_howOften 5 = .ok (.aload_n 0, 1) ∧ decode cX3_howOften 6 = .ok (.getfield 19, 3) ∧ decode cX3_howOften 9 = .ok (.if_icmp .ge 22, 3) ∧ decode cX3_howOften 12 = .ok (.aload_n 0, 1) ∧ decode cX3_howOften 13 = .ok (.getfield 9, 3) := by decide +kernel
theorem dX3_howOften_0 : decode cX3_howOften 0 = .ok (.iconst 0, 1) := DX3_howOften_c0.1
theorem dX3_howOften_1 : decode cX3_howOften 1 = .ok (.istore_n 2, 1) := DX3_howOften_c0.2.1
theorem dX3_howOften_2 : decode cX3_howOften 2 = .ok (.iconst 0, 1) := DX3_howOften_c0.2.2.1
theorem dX3_howOften_3 : decode cX3_howOften 3 = .ok (.istore_n 3, 1) := DX3_howOften_c0.2.2.2.1
theorem dX3_howOften_4 : decode cX3_howOften 4 = .ok (.iload_n 3, 1) := DX3_howOften_c0.2.2.2.2.1
theorem dX3_howOften_5 : decode cX3_howOften 5 = .ok (.aload_n 0, 1) := DX3_howOften_c0.2.2.2.2.2.1
theorem dX3_howOften_6 : decode cX3_howOften 6 = .ok (.getfield 19, 3) := DX3_howOften_c0.2.2.2.2.2.2.1
theorem dX3_howOften_9 : decode cX3_howOften 9 = .ok (.if_icmp .ge 22, 3) := DX3_howOften_c0.2.2.2.2.2.2.2.1
theorem dX3_howOften_12 : decode cX3_howOften 12 = .ok (.aload_n 0, 1) := DX3_howOften_c0.2.2.2.2.2.2.2.2.1
theorem dX3_howOften_13 : decode cX3_howOften 13 = .ok (.getfield 9, 3) := DX3_howOften_c0.2.2.2.2.2.2.2.2.2
set_option maxRecDepth 100000 in
theorem DX3_howOften_c1 : decode cX3_howOften 16 = .ok (.iload_n 3, 1) ∧ decode cX3_howOften 17 = .ok (.iaload, 1) ∧ decode cX3_howOften 18 = .ok (.iload_n 1, 1) ∧ decode cX3_howOften 19 = .ok (.if_icmp .ne 6, 3) ∧ decode cX3_howOften 22 = .ok (.iinc 2 1, 3) ∧ decode cX3_howOften 25 = .ok (.iinc 3 1, 3) ∧ decode cX3_howOften 28 = .ok (.goto (-24), 3) ∧ decode cX3_howOften 31 = .ok (.iload_n 2, 1) ∧ decode cX3_howOften 32 = .ok (.ireturn, 1) := by decide +kernel
theorem dX3_howOften_16 : decode cX3_howOften 16 = .ok (.iload_n 3, 1) := DX3_howOften_c1.1
theorem dX3_howOften_17 : decode cX3_howOften 17 = .ok (.iaload, 1) := DX3_howOften_c1.2.1
theorem dX3_howOften_18 : decode cX3_howOften 18 = .ok (.iload_n 1, 1) := DX3_howOften_c1.2.2.1
theorem dX3_howOften_19 : decode cX3_howOften 19 = .ok (.if_icmp .ne 6, 3) := DX3_howOften_c1.2.2.2.1
theorem dX3_howOften_22 : decode cX3_howOften 22 = .ok (.iinc 2 1, 3) := DX3_howOften_c1.2.2.2.2.1
theorem dX3_howOften_25 : decode cX3_howOften 25 = .ok (.iinc 3 1, 3) := DX3_howOften_c1.2.2.2.2.2.1
theorem dX3_howOften_28 : decode cX3_howOften 28 = .ok (.goto (-24), 3) := DX3_howOften_c1.2.2.2.2.2.2.1
theorem dX3_howOften_31 : decode cX3_howOften 31 = .ok (.iload_n 2, 1) := DX3_howOften_c1.2.2.2.2.2.2.2.1
theorem dX3_howOften_32 : decode cX3_howOften 32 = .ok (.ireturn, 1) := DX3_howOften_c1.2.2.2.2.2.2.2.2
set_option maxRecDepth 100000 in
theorem DX3_different_c0 : decode cX3_different 0 = .ok (.iconst 0, 1) ∧ decode cX3_different 1 = .ok (.istore_n 1, 1) ∧ decode cX3_different 2 = .ok (.iconst 0, 1) ∧ decode cX3_different 3 = .ok (.istore_n 2, 1) ∧ decode cX3_different 4 = .ok (.iload_n 2, 1) ∧ decode cX3_different 5 = .ok (.aload_n 0, 1) ∧ decode cX3_different 6 = .ok (.getfield 19, 3) ∧ decode cX3_different 9 = .ok (.if_icmp .ge 33, 3) ∧ decode cX3_different 12 = .ok (.iload_n 2, 1) ∧ decode cX3_different 13 = .ok (.ifCond .eq 20, 3) := by decide +kernel
theorem dX3_different_0 : decode cX3_different 0 = .ok (.iconst 0, 1) := DX3_different_c0.1
theorem dX3_different_1 : decode cX3_different 1 = .ok (.istore_n 1, 1) := DX3_different_c0.2.1
theorem dX3_different_2 : decode cX3_different 2 = .ok (.iconst 0, 1) := DX3_different_c0.2.2.1
theorem dX3_different_3 : decode cX3_different 3 = .ok (.istore_n 2, 1) := DX3_different_c0.2.2.2.1
theorem dX3_different_4 : decode cX3_different 4 = .ok (.iload_n 2, 1) := DX3_different_c0.2.2.2.2.1
theorem dX3_different_5 : decode cX3_different 5 = .ok (.aload_n 0, 1) := DX3_different_c0.2.2.2.2.2.1
theorem dX3_different_6 : decode cX3_different 6 = .ok (.getfield 19, 3) := DX3_different_c0.2.2.2.2.2.2.1
theorem dX3_different_9 : decode cX3_different 9 = .ok (.if_icmp .ge 33, 3) := DX3_different_c0.2.2.2.2.2.2.2.1
theorem dX3_different_12 : decode cX3_different 12 = .ok (.iload_n 2, 1) := DX3_different_c0.2.2.2.2.2.2.2.2.1
theorem dX3_different_13 : decode cX3_different 13 = .ok (.ifCond .eq 20, 3) := DX3_different_c0.2.2.2.2.2.2.2.2.2
set_option maxRecDepth 100000 in
theorem DX3_different_c1 : decode cX3_different 16 = .ok (.aload_n 0, 1) ∧ decode cX3_different 17 = .ok (.getfield 9, 3) ∧ decode cX3_different 20 = .ok (.iload_n 2, 1) ∧ decode cX3_different 21 = .ok (.iaload, 1) ∧ decode cX3_different 22 = .ok (.aload_n 0, 1) ∧ decode cX3_different 23 = .ok (.getfield 9, 3) ∧ decode cX3_different 26 = .ok (.iload_n 2, 1) ∧ decode cX3_different 27 = .ok (.iconst 1, 1) ∧ decode cX3_different 28 = .ok (.isub, 1) ∧ decode cX3_different 29 = .ok (.iaload, 1) := by decide +kernel
theorem dX3_different_16 : decode cX3_different 16 = .ok (.aload_n 0, 1) := DX3_different_c1.1
theorem dX3_different_17 : decode cX3_different 17 = .ok (.getfield 9, 3) := DX3_different_c1.2.1
theorem dX3_different_20 : decode cX3_different 20 = .ok (.iload_n 2, 1) := DX3_different_c1.2.2.1
theorem dX3_different_21 : decode cX3_different 21 = .ok (.iaload, 1) := DX3_different_c1.2.2.2.1
theorem dX3_different_22 : decode cX3_different 22 = .ok (.aload_n 0, 1) := DX3_different_c1.2.2.2.2.1
theorem dX3_different_23 : decode cX3_different 23 = .ok (.getfield 9, 3) := DX3_different_c1.2.2.2.2.2.1
theorem dX3_different_26 : decode cX3_different 26 = .ok (.iload_n 2, 1) := DX3_different_c1.2.2.2.2.2.2.1
theorem dX3_different_27 : decode cX3_different 27 = .ok (.iconst 1, 1) := DX3_different_c1.2.2.2.2.2.2.2.1
theorem dX3_different_28 : decode cX3_different 28 = .ok (.isub, 1) := DX3_different_c1.2.2.2.2.2.2.2.2.1
theorem dX3_different_29 : decode cX3_different 29 = .ok (.iaload, 1) := DX3_different_c1.2.2.2.2.2.2.2.2.2
set_option maxRecDepth 100000 in
theorem DX3_different_c2 : decode cX3_different 30 = .ok (.if_icmp .eq 6, 3) ∧ decode cX3_different 33 = .ok (.iinc 1 1, 3) ∧ decode cX3_different 36 = .ok (.iinc 2 1, 3) ∧ decode cX3_different 39 = .ok (.goto (-35), 3) ∧ decode cX3_different 42 = .ok (.iload_n 1, 1) ∧ decode cX3_different 43 = .ok (.ireturn, 1) := by decide +kernel
theorem dX3_different_30 : decode cX3_different 30 = .ok (.if_icmp .eq 6, 3) := DX3_different_c2.1
theorem dX3_different_33 : decode cX3_different 33 = .ok (.iinc 1 1, 3) := DX3_different_c2.2.1
theorem dX3_different_36 : decode cX3_different 36 = .ok (.iinc 2 1, 3) := DX3_different_c2.2.2.1
theorem dX3_different_39 : decode cX3_different 39 = .ok (.goto (-35), 3) := DX3_different_c2.2.2.2.1
theorem dX3_different_42 : decode cX3_different 42 = .ok (.iload_n 1, 1) := DX3_different_c2.2.2.2.2.1
theorem dX3_different_43 : decode cX3_different 43 = .ok (.ireturn, 1) := DX3_different_c2.2.2.2.2.2
set_option maxRecDepth 100000 in
theorem DX3_contains_c0 : decode cX3_contains 0 = .ok (.iconst 0, 1) ∧ decode cX3_contains 1 = .ok (.istore_n 2, 1) ∧ decode cX3_contains 2 = .ok (.iload_n 2, 1) ∧ decode cX3_contains 3 = .ok (.aload_n 1, 1) ∧ decode cX3_contains 4 = .ok (.invokevirtual 48, 3) ∧ decode cX3_contains 7 = .ok (.if_icmp .ge 30, 3) ∧ decode cX3_contains 10 = .ok (.aload_n 1, 1) ∧ decode cX3_contains 11 = .ok (.iload_n 2, 1) ∧ decode cX3_contains 12 = .ok (.invokevirtual 49, 3) ∧ decode cX3_contains 15 = .ok (.istore_n 3, 1) := by decide +kernel
theorem dX3_contains_0 : decode cX3_contains 0 = .ok (.iconst 0, 1) := DX3_contains_c0.1
theorem dX3_contains_1 : decode cX3_contains 1 = .ok (.istore_n 2, 1) := DX3_contains_c0.2.1
theorem dX3_contains_2 : decode cX3_contains 2 = .ok (.iload_n 2, 1) := DX3_contains_c0.2.2.1
theorem dX3_contains_3 : decode cX3_contains 3 = .ok (.aload_n 1, 1) := DX3_contains_c0.2.2.2.1
theorem dX3_contains_4 : decode cX3_contains 4 = .ok (.invokevirtual 48, 3) := DX3_contains_c0.2.2.2.2.1
theorem dX3_contains_7 : decode cX3_contains 7 = .ok (.if_icmp .ge 30, 3) := DX3_contains_c0.2.2.2.2.2.1
theorem dX3_contains_10 : decode cX3_contains 10 = .ok (.aload_n 1, 1) := DX3_contains_c0.2.2.2.2.2.2.1
theorem dX3_contains_11 : decode cX3_contains 11 = .ok (.iload_n 2, 1) := DX3_contains_c0.2.2.2.2.2.2.2.1
theorem dX3_contains_12 : decode cX3_contains 12 = .ok (.invokevirtual 49, 3) := DX3_contains_c0.2.2.2.2.2.2.2.2.1
theorem dX3_contains_15 : decode cX3_contains 15 = .ok (.istore_n 3, 1) := DX3_contains_c0.2.2.2.2.2.2.2.2.2
set_option maxRecDepth 100000 in
theorem DX3_contains_c1 : decode cX3_contains 16 = .ok (.aload_n 0, 1) ∧ decode cX3_contains 17 = .ok (.iload_n 3, 1) ∧ decode cX3_contains 18 = .ok (.invokevirtual 52, 3) ∧ decode cX3_contains 21 = .ok (.aload_n 1, 1) ∧ decode cX3_contains 22 = .ok (.iload_n 3, 1) ∧ decode cX3_contains 23 = .ok (.invokevirtual 52, 3) ∧ decode cX3_contains 26 = .ok (.if_icmp .ge 5, 3) ∧ decode cX3_contains 29 = .ok (.iconst 0, 1) ∧ decode cX3_contains 30 = .ok (.ireturn, 1) ∧ decode cX3_contains 31 = .ok (.iinc 2 1, 3) := by decide +kernel
theorem dX3_contains_16 : decode cX3_contains 16 = .ok (.aload_n 0, 1) := DX3_contains_c1.1
theorem dX3_contains_17 : decode cX3_contains 17 = .ok (.iload_n 3, 1) := DX3_contains_c1.2.1
theorem dX3_contains_18 : decode cX3_contains 18 = .ok (.invokevirtual 52, 3) := DX3_contains_c1.2.2.1
theorem dX3_contains_21 : decode cX3_contains 21 = .ok (.aload_n 1, 1) := DX3_contains_c1.2.2.2.1
theorem dX3_contains_22 : decode cX3_contains 22 = .ok (.iload_n 3, 1) := DX3_contains_c1.2.2.2.2.1
theorem dX3_contains_23 : decode cX3_contains 23 = .ok (.invokevirtual 52, 3) := DX3_contains_c1.2.2.2.2.2.1
theorem dX3_contains_26 : decode cX3_contains 26 = .ok (.if_icmp .ge 5, 3) := DX3_contains_c1.2.2.2.2.2.2.1
theorem dX3_contains_29 : decode cX3_contains 29 = .ok (.iconst 0, 1) := DX3_contains_c1.2.2.2.2.2.2.2.1
theorem dX3_contains_30 : decode cX3_contains 30 = .ok (.ireturn, 1) := DX3_contains_c1.2.2.2.2.2.2.2.2.1
theorem dX3_contains_31 : decode cX3_contains 31 = .ok (.iinc 2 1, 3) := DX3_contains_c1.2.2.2.2.2.2.2.2.2
set_option maxRecDepth 100000 in
theorem DX3_contains_c2 : decode cX3_contains 34 = .ok (.goto (-32), 3) ∧ decode cX3_contains 37 = .ok (.iconst 1, 1) ∧ decode cX3_contains 38 = .ok (.ireturn, 1) := by decide +kernel
theorem dX3_contains_34 : decode cX3_contains 34 = .ok (.goto (-32), 3) := DX3_contains_c2.1
theorem dX3_contains_37 : decode cX3_contains 37 = .ok (.iconst 1, 1) := DX3_contains_c2.2.1
theorem dX3_contains_38 : decode cX3_contains 38 = .ok (.ireturn, 1) := DX3_contains_c2.2.2
set_option maxRecDepth 100000 in
theorem DX3_leftAfter_c0 : decode cX3_leftAfter 0 = .ok (.iconst 0, 1) ∧ decode cX3_leftAfter 1 = .ok (.istore_n 3, 1) ∧ decode cX3_leftAfter 2 = .ok (.iconst 0, 1) ∧ decode cX3_leftAfter 3 = .ok (.istore 4, 2) ∧ decode cX3_leftAfter 5 = .ok (.iconst 0, 1) ∧ decode cX3_leftAfter 6 = .ok (.istore 5, 2) ∧ decode cX3_leftAfter 8 = .ok (.iload 5, 2) ∧ decode cX3_leftAfter 10 = .ok (.aload_n 0, 1) ∧ decode cX3_leftAfter 11 = .ok (.getfield 19, 3) ∧ decode cX3_leftAfter 14 = .ok (.if_icmp .ge 56, 3) := by decide +kernel
theorem dX3_leftAfter_0 : decode cX3_leftAfter 0 = .ok (.iconst 0, 1) := DX3_leftAfter_c0.1
theorem dX3_leftAfter_1 : decode cX3_leftAfter 1 = .ok (.istore_n 3, 1) := DX3_leftAfter_c0.2.1
theorem dX3_leftAfter_2 : decode cX3_leftAfter 2 = .ok (.iconst 0, 1) := DX3_leftAfter_c0.2.2.1
theorem dX3_leftAfter_3 : decode cX3_leftAfter 3 = .ok (.istore 4, 2) := DX3_leftAfter_c0.2.2.2.1
theorem dX3_leftAfter_5 : decode cX3_leftAfter 5 = .ok (.iconst 0, 1) := DX3_leftAfter_c0.2.2.2.2.1
theorem dX3_leftAfter_6 : decode cX3_leftAfter 6 = .ok (.istore 5, 2) := DX3_leftAfter_c0.2.2.2.2.2.1
theorem dX3_leftAfter_8 : decode cX3_leftAfter 8 = .ok (.iload 5, 2) := DX3_leftAfter_c0.2.2.2.2.2.2.1
theorem dX3_leftAfter_10 : decode cX3_leftAfter 10 = .ok (.aload_n 0, 1) := DX3_leftAfter_c0.2.2.2.2.2.2.2.1
theorem dX3_leftAfter_11 : decode cX3_leftAfter 11 = .ok (.getfield 19, 3) := DX3_leftAfter_c0.2.2.2.2.2.2.2.2.1
theorem dX3_leftAfter_14 : decode cX3_leftAfter 14 = .ok (.if_icmp .ge 56, 3) := DX3_leftAfter_c0.2.2.2.2.2.2.2.2.2
set_option maxRecDepth 100000 in
theorem DX3_leftAfter_c1 : decode cX3_leftAfter 17 = .ok (.aload_n 1, 1) ∧ decode cX3_leftAfter 18 = .ok (.iload 4, 2) ∧ decode cX3_leftAfter 20 = .ok (.invokevirtual 22, 3) ∧ decode cX3_leftAfter 23 = .ok (.ifCond .eq 25, 3) ∧ decode cX3_leftAfter 26 = .ok (.aload_n 1, 1) ∧ decode cX3_leftAfter 27 = .ok (.iload 4, 2) ∧ decode cX3_leftAfter 29 = .ok (.invokevirtual 49, 3) ∧ decode cX3_leftAfter 32 = .ok (.aload_n 0, 1) ∧ decode cX3_leftAfter 33 = .ok (.getfield 9, 3) ∧ decode cX3_leftAfter 36 = .ok (.iload 5, 2) := by decide +kernel
theorem dX3_leftAfter_17 : decode cX3_leftAfter 17 = .ok (.aload_n 1, 1) := DX3_leftAfter_c1.1
theorem dX3_leftAfter_18 : decode cX3_leftAfter 18 = .ok (.iload 4, 2) := DX3_leftAfter_c1.2.1
theorem dX3_leftAfter_20 : decode cX3_leftAfter 20 = .ok (.invokevirtual 22, 3) := DX3_leftAfter_c1.2.2.1
theorem dX3_leftAfter_23 : decode cX3_leftAfter 23 = .ok (.ifCond .eq 25, 3) := DX3_leftAfter_c1.2.2.2.1
theorem dX3_leftAfter_26 : decode cX3_leftAfter 26 = .ok (.aload_n 1, 1) := DX3_leftAfter_c1.2.2.2.2.1
theorem dX3_leftAfter_27 : decode cX3_leftAfter 27 = .ok (.iload 4, 2) := DX3_leftAfter_c1.2.2.2.2.2.1
theorem dX3_leftAfter_29 : decode cX3_leftAfter 29 = .ok (.invokevirtual 49, 3) := DX3_leftAfter_c1.2.2.2.2.2.2.1
theorem dX3_leftAfter_32 : decode cX3_leftAfter 32 = .ok (.aload_n 0, 1) := DX3_leftAfter_c1.2.2.2.2.2.2.2.1
theorem dX3_leftAfter_33 : decode cX3_leftAfter 33 = .ok (.getfield 9, 3) := DX3_leftAfter_c1.2.2.2.2.2.2.2.2.1
theorem dX3_leftAfter_36 : decode cX3_leftAfter 36 = .ok (.iload 5, 2) := DX3_leftAfter_c1.2.2.2.2.2.2.2.2.2
set_option maxRecDepth 100000 in
theorem DX3_leftAfter_c2 : decode cX3_leftAfter 38 = .ok (.iaload, 1) ∧ decode cX3_leftAfter 39 = .ok (.if_icmp .ne 9, 3) ∧ decode cX3_leftAfter 42 = .ok (.iinc 4 1, 3) ∧ decode cX3_leftAfter 45 = .ok (.goto 19, 3) ∧ decode cX3_leftAfter 48 = .ok (.iload_n 3, 1) ∧ decode cX3_leftAfter 49 = .ok (.iload_n 2, 1) ∧ decode cX3_leftAfter 50 = .ok (.if_icmp .ne 11, 3) ∧ decode cX3_leftAfter 53 = .ok (.aload_n 0, 1) ∧ decode cX3_leftAfter 54 = .ok (.getfield 9, 3) ∧ decode cX3_leftAfter 57 = .ok (.iload 5, 2) := by decide +kernel
theorem dX3_leftAfter_38 : decode cX3_leftAfter 38 = .ok (.iaload, 1) := DX3_leftAfter_c2.1
theorem dX3_leftAfter_39 : decode cX3_leftAfter 39 = .ok (.if_icmp .ne 9, 3) := DX3_leftAfter_c2.2.1
theorem dX3_leftAfter_42 : decode cX3_leftAfter 42 = .ok (.iinc 4 1, 3) := DX3_leftAfter_c2.2.2.1
theorem dX3_leftAfter_45 : decode cX3_leftAfter 45 = .ok (.goto 19, 3) := DX3_leftAfter_c2.2.2.2.1
theorem dX3_leftAfter_48 : decode cX3_leftAfter 48 = .ok (.iload_n 3, 1) := DX3_leftAfter_c2.2.2.2.2.1
theorem dX3_leftAfter_49 : decode cX3_leftAfter 49 = .ok (.iload_n 2, 1) := DX3_leftAfter_c2.2.2.2.2.2.1
theorem dX3_leftAfter_50 : decode cX3_leftAfter 50 = .ok (.if_icmp .ne 11, 3) := DX3_leftAfter_c2.2.2.2.2.2.2.1
theorem dX3_leftAfter_53 : decode cX3_leftAfter 53 = .ok (.aload_n 0, 1) := DX3_leftAfter_c2.2.2.2.2.2.2.2.1
theorem dX3_leftAfter_54 : decode cX3_leftAfter 54 = .ok (.getfield 9, 3) := DX3_leftAfter_c2.2.2.2.2.2.2.2.2.1
theorem dX3_leftAfter_57 : decode cX3_leftAfter 57 = .ok (.iload 5, 2) := DX3_leftAfter_c2.2.2.2.2.2.2.2.2.2
set_option maxRecDepth 100000 in
theorem DX3_leftAfter_c3 : decode cX3_leftAfter 59 = .ok (.iaload, 1) ∧ decode cX3_leftAfter 60 = .ok (.ireturn, 1) ∧ decode cX3_leftAfter 61 = .ok (.iinc 3 1, 3) ∧ decode cX3_leftAfter 64 = .ok (.iinc 5 1, 3) ∧ decode cX3_leftAfter 67 = .ok (.goto (-59), 3) ∧ decode cX3_leftAfter 70 = .ok (.bipush (-9), 2) ∧ decode cX3_leftAfter 72 = .ok (.ireturn, 1) := by decide +kernel
theorem dX3_leftAfter_59 : decode cX3_leftAfter 59 = .ok (.iaload, 1) := DX3_leftAfter_c3.1
theorem dX3_leftAfter_60 : decode cX3_leftAfter 60 = .ok (.ireturn, 1) := DX3_leftAfter_c3.2.1
theorem dX3_leftAfter_61 : decode cX3_leftAfter 61 = .ok (.iinc 3 1, 3) := DX3_leftAfter_c3.2.2.1
theorem dX3_leftAfter_64 : decode cX3_leftAfter 64 = .ok (.iinc 5 1, 3) := DX3_leftAfter_c3.2.2.2.1
theorem dX3_leftAfter_67 : decode cX3_leftAfter 67 = .ok (.goto (-59), 3) := DX3_leftAfter_c3.2.2.2.2.1
theorem dX3_leftAfter_70 : decode cX3_leftAfter 70 = .ok (.bipush (-9), 2) := DX3_leftAfter_c3.2.2.2.2.2.1
theorem dX3_leftAfter_72 : decode cX3_leftAfter 72 = .ok (.ireturn, 1) := DX3_leftAfter_c3.2.2.2.2.2.2
set_option maxRecDepth 100000 in
theorem DX4_init_c0 : decode cX4_init 0 = .ok (.aload_n 0, 1) ∧ decode cX4_init 1 = .ok (.invokespecial 3, 3) ∧ decode cX4_init 4 = .ok (.aload_n 0, 1) ∧ decode cX4_init 5 = .ok (.bipush 8, 2) ∧ decode cX4_init 7 = .ok (.newarray .int, 2) ∧ decode cX4_init 9 = .ok (.putfield 9, 3) ∧ decode cX4_init 12 = .ok (.aload_n 0, 1) ∧ decode cX4_init 13 = .ok (.iconst 4, 1) ∧ decode cX4_init 14 = .ok (.putfield 15, 3) ∧ decode cX4_init 17 = .ok (.return_, 1) := by decide +kernel
theorem dX4_init_0 : decode cX4_init 0 = .ok (.aload_n 0, 1) := DX4_init_c0.1
theorem dX4_init_1 : decode cX4_init 1 = .ok (.invokespecial 3, 3) := DX4_init_c0.2.1
theorem dX4_init_4 : decode cX4_init 4 = .ok (.aload_n 0, 1) := DX4_init_c0.2.2.1
theorem dX4_init_5 : decode cX4_init 5 = .ok (.bipush 8, 2) := DX4_init_c0.2.2.2.1
theorem dX4_init_7 : decode cX4_init 7 = .ok (.newarray .int, 2) := DX4_init_c0.2.2.2.2.1
theorem dX4_init_9 : decode cX4_init 9 = .ok (.putfield 9, 3) := DX4_init_c0.2.2.2.2.2.1
theorem dX4_init_12 : decode cX4_init 12 = .ok (.aload_n 0, 1) := DX4_init_c0.2.2.2.2.2.2.1
theorem dX4_init_13 : decode cX4_init 13 = .ok (.iconst 4, 1) := DX4_init_c0.2.2.2.2.2.2.2.1
theorem dX4_init_14 : decode cX4_init 14 = .ok (.putfield 15, 3) := DX4_init_c0.2.2.2.2.2.2.2.2.1
theorem dX4_init_17 : decode cX4_init 17 = .ok (.return_, 1) := DX4_init_c0.2.2.2.2.2.2.2.2.2
set_option maxRecDepth 100000 in
theorem DX4_load_c0 : decode cX4_load 0 = .ok (.iload_n 1, 1) ∧ decode cX4_load 1 = .ok (.iconst 1, 1) ∧ decode cX4_load 2 = .ok (.if_icmp .lt 9, 3) ∧ decode cX4_load 5 = .ok (.iload_n 1, 1) ∧ decode cX4_load 6 = .ok (.bipush 8, 2) ∧ decode cX4_load 8 = .ok (.if_icmp .le 4, 3) ∧ decode cX4_load 11 = .ok (.return_, 1) ∧ decode cX4_load 12 = .ok (.aload_n 0, 1) ∧ decode cX4_load 13 = .ok (.iload_n 1, 1) ∧ decode cX4_load 14 = .ok (.putfield 15, 3) := by decide +kernel
theorem dX4_load_0 : decode cX4_load 0 = .ok (.iload_n 1, 1) := DX4_load_c0.1
theorem dX4_load_1 : decode cX4_load 1 = .ok (.iconst 1, 1) := DX4_load_c0.2.1
theorem dX4_load_2 : decode cX4_load 2 = .ok (.if_icmp .lt 9, 3) := DX4_load_c0.2.2.1
theorem dX4_load_5 : decode cX4_load 5 = .ok (.iload_n 1, 1) := DX4_load_c0.2.2.2.1
theorem dX4_load_6 : decode cX4_load 6 = .ok (.bipush 8, 2) := DX4_load_c0.2.2.2.2.1
theorem dX4_load_8 : decode cX4_load 8 = .ok (.if_icmp .le 4, 3) := DX4_load_c0.2.2.2.2.2.1
theorem dX4_load_11 : decode cX4_load 11 = .ok (.return_, 1) := DX4_load_c0.2.2.2.2.2.2.1
theorem dX4_load_12 : decode cX4_load 12 = .ok (.aload_n 0, 1) := DX4_load_c0.2.2.2.2.2.2.2.1
theorem dX4_load_13 : decode cX4_load 13 = .ok (.iload_n 1, 1) := DX4_load_c0.2.2.2.2.2.2.2.2.1
theorem dX4_load_14 : decode cX4_load 14 = .ok (.putfield 15, 3) := DX4_load_c0.2.2.2.2.2.2.2.2.2
set_option maxRecDepth 100000 in
theorem DX4_load_c1 : decode cX4_load 17 = .ok (.iconst 0, 1) ∧ decode cX4_load 18 = .ok (.istore_n 3, 1) ∧ decode cX4_load 19 = .ok (.iload_n 3, 1) ∧ decode cX4_load 20 = .ok (.bipush 8, 2) ∧ decode cX4_load 22 = .ok (.if_icmp .ge 16, 3) ∧ decode cX4_load 25 = .ok (.aload_n 0, 1) ∧ decode cX4_load 26 = .ok (.getfield 9, 3) ∧ decode cX4_load 29 = .ok (.iload_n 3, 1) ∧ decode cX4_load 30 = .ok (.iconst 0, 1) ∧ decode cX4_load 31 = .ok (.iastore, 1) := by decide +kernel
theorem dX4_load_17 : decode cX4_load 17 = .ok (.iconst 0, 1) := DX4_load_c1.1
theorem dX4_load_18 : decode cX4_load 18 = .ok (.istore_n 3, 1) := DX4_load_c1.2.1
theorem dX4_load_19 : decode cX4_load 19 = .ok (.iload_n 3, 1) := DX4_load_c1.2.2.1
theorem dX4_load_20 : decode cX4_load 20 = .ok (.bipush 8, 2) := DX4_load_c1.2.2.2.1
theorem dX4_load_22 : decode cX4_load 22 = .ok (.if_icmp .ge 16, 3) := DX4_load_c1.2.2.2.2.1
theorem dX4_load_25 : decode cX4_load 25 = .ok (.aload_n 0, 1) := DX4_load_c1.2.2.2.2.2.1
theorem dX4_load_26 : decode cX4_load 26 = .ok (.getfield 9, 3) := DX4_load_c1.2.2.2.2.2.2.1
theorem dX4_load_29 : decode cX4_load 29 = .ok (.iload_n 3, 1) := DX4_load_c1.2.2.2.2.2.2.2.1
theorem dX4_load_30 : decode cX4_load 30 = .ok (.iconst 0, 1) := DX4_load_c1.2.2.2.2.2.2.2.2.1
theorem dX4_load_31 : decode cX4_load 31 = .ok (.iastore, 1) := DX4_load_c1.2.2.2.2.2.2.2.2.2
set_option maxRecDepth 100000 in
theorem DX4_load_c2 : decode cX4_load 32 = .ok (.iinc 3 1, 3) ∧ decode cX4_load 35 = .ok (.goto (-16), 3) ∧ decode cX4_load 38 = .ok (.iload_n 2, 1) ∧ decode cX4_load 39 = .ok (.istore_n 3, 1) ∧ decode cX4_load 40 = .ok (.aload_n 0, 1) ∧ decode cX4_load 41 = .ok (.getfield 15, 3) ∧ decode cX4_load 44 = .ok (.iconst 1, 1) ∧ decode cX4_load 45 = .ok (.isub, 1) ∧ decode cX4_load 46 = .ok (.istore 4, 2) ∧ decode cX4_load 48 = .ok (.iload 4, 2) := by decide +kernel
theorem dX4_load_32 : decode cX4_load 32 = .ok (.iinc 3 1, 3) := DX4_load_c2.1
theorem dX4_load_35 : decode cX4_load 35 = .ok (.goto (-16), 3) := DX4_load_c2.2.1
theorem dX4_load_38 : decode cX4_load 38 = .ok (.iload_n 2, 1) := DX4_load_c2.2.2.1
theorem dX4_load_39 : decode cX4_load 39 = .ok (.istore_n 3, 1) := DX4_load_c2.2.2.2.1
theorem dX4_load_40 : decode cX4_load 40 = .ok (.aload_n 0, 1) := DX4_load_c2.2.2.2.2.1
theorem dX4_load_41 : decode cX4_load 41 = .ok (.getfield 15, 3) := DX4_load_c2.2.2.2.2.2.1
theorem dX4_load_44 : decode cX4_load 44 = .ok (.iconst 1, 1) := DX4_load_c2.2.2.2.2.2.2.1
theorem dX4_load_45 : decode cX4_load 45 = .ok (.isub, 1) := DX4_load_c2.2.2.2.2.2.2.2.1
theorem dX4_load_46 : decode cX4_load 46 = .ok (.istore 4, 2) := DX4_load_c2.2.2.2.2.2.2.2.2.1
theorem dX4_load_48 : decode cX4_load 48 = .ok (.iload 4, 2) := DX4_load_c2.2.2.2.2.2.2.2.2.2
set_option maxRecDepth 100000 in
theorem DX4_load_c3 : decode cX4_load 50 = .ok (.ifCond .le 62, 3) ∧ decode cX4_load 53 = .ok (.iload 4, 2) ∧ decode cX4_load 55 = .ok (.iconst 1, 1) ∧ decode cX4_load 56 = .ok (.isub, 1) ∧ decode cX4_load 57 = .ok (.istore 5, 2) ∧ decode cX4_load 59 = .ok (.iload 5, 2) ∧ decode cX4_load 61 = .ok (.ifCond .lt 45, 3) ∧ decode cX4_load 64 = .ok (.aload_n 0, 1) ∧ decode cX4_load 65 = .ok (.getfield 9, 3) ∧ decode cX4_load 68 = .ok (.iload 4, 2) := by decide +kernel
theorem dX4_load_50 : decode cX4_load 50 = .ok (.ifCond .le 62, 3) := DX4_load_c3.1
theorem dX4_load_53 : decode cX4_load 53 = .ok (.iload 4, 2) := DX4_load_c3.2.1
theorem dX4_load_55 : decode cX4_load 55 = .ok (.iconst 1, 1) := DX4_load_c3.2.2.1
theorem dX4_load_56 : decode cX4_load 56 = .ok (.isub, 1) := DX4_load_c3.2.2.2.1
theorem dX4_load_57 : decode cX4_load 57 = .ok (.istore 5, 2) := DX4_load_c3.2.2.2.2.1
theorem dX4_load_59 : decode cX4_load 59 = .ok (.iload 5, 2) := DX4_load_c3.2.2.2.2.2.1
theorem dX4_load_61 : decode cX4_load 61 = .ok (.ifCond .lt 45, 3) := DX4_load_c3.2.2.2.2.2.2.1
theorem dX4_load_64 : decode cX4_load 64 = .ok (.aload_n 0, 1) := DX4_load_c3.2.2.2.2.2.2.2.1
theorem dX4_load_65 : decode cX4_load 65 = .ok (.getfield 9, 3) := DX4_load_c3.2.2.2.2.2.2.2.2.1
theorem dX4_load_68 : decode cX4_load 68 = .ok (.iload 4, 2) := DX4_load_c3.2.2.2.2.2.2.2.2.2
set_option maxRecDepth 100000 in
theorem DX4_load_c4 : decode cX4_load 70 = .ok (.dup2, 1) ∧ decode cX4_load 71 = .ok (.iaload, 1) ∧ decode cX4_load 72 = .ok (.iload_n 3, 1) ∧ decode cX4_load 73 = .ok (.iconst 1, 1) ∧ decode cX4_load 74 = .ok (.iand, 1) ∧ decode cX4_load 75 = .ok (.iload 5, 2) ∧ decode cX4_load 77 = .ok (.ishl, 1) ∧ decode cX4_load 78 = .ok (.ior, 1) ∧ decode cX4_load 79 = .ok (.iastore, 1) ∧ decode cX4_load 80 = .ok (.aload_n 0, 1) := by decide +kernel
theorem dX4_load_70 : decode cX4_load 70 = .ok (.dup2, 1) := DX4_load_c4.1
theorem dX4_load_71 : decode cX4_load 71 = .ok (.iaload, 1) := DX4_load_c4.2.1
theorem dX4_load_72 : decode cX4_load 72 = .ok (.iload_n 3, 1) := DX4_load_c4.2.2.1
theorem dX4_load_73 : decode cX4_load 73 = .ok (.iconst 1, 1) := DX4_load_c4.2.2.2.1
theorem dX4_load_74 : decode cX4_load 74 = .ok (.iand, 1) := DX4_load_c4.2.2.2.2.1
theorem dX4_load_75 : decode cX4_load 75 = .ok (.iload 5, 2) := DX4_load_c4.2.2.2.2.2.1
theorem dX4_load_77 : decode cX4_load 77 = .ok (.ishl, 1) := DX4_load_c4.2.2.2.2.2.2.1
theorem dX4_load_78 : decode cX4_load 78 = .ok (.ior, 1) := DX4_load_c4.2.2.2.2.2.2.2.1
theorem dX4_load_79 : decode cX4_load 79 = .ok (.iastore, 1) := DX4_load_c4.2.2.2.2.2.2.2.2.1
theorem dX4_load_80 : decode cX4_load 80 = .ok (.aload_n 0, 1) := DX4_load_c4.2.2.2.2.2.2.2.2.2
set_option maxRecDepth 100000 in
theorem DX4_load_c5 : decode cX4_load 81 = .ok (.getfield 9, 3) ∧ decode cX4_load 84 = .ok (.iload 5, 2) ∧ decode cX4_load 86 = .ok (.dup2, 1) ∧ decode cX4_load 87 = .ok (.iaload, 1) ∧ decode cX4_load 88 = .ok (.iload_n 3, 1) ∧ decode cX4_load 89 = .ok (.iconst 1, 1) ∧ decode cX4_load 90 = .ok (.iand, 1) ∧ decode cX4_load 91 = .ok (.iload 4, 2) ∧ decode cX4_load 93 = .ok (.ishl, 1) ∧ decode cX4_load 94 = .ok (.ior, 1) := by decide +kernel
theorem dX4_load_81 : decode cX4_load 81 = .ok (.getfield 9, 3) := DX4_load_c5.1
theorem dX4_load_84 : decode cX4_load 84 = .ok (.iload 5, 2) := DX4_load_c5.2.1
theorem dX4_load_86 : decode cX4_load 86 = .ok (.dup2, 1) := DX4_load_c5.2.2.1
theorem dX4_load_87 : decode cX4_load 87 = .ok (.iaload, 1) := DX4_load_c5.2.2.2.1
theorem dX4_load_88 : decode cX4_load 88 = .ok (.iload_n 3, 1) := DX4_load_c5.2.2.2.2.1
theorem dX4_load_89 : decode cX4_load 89 = .ok (.iconst 1, 1) := DX4_load_c5.2.2.2.2.2.1
theorem dX4_load_90 : decode cX4_load 90 = .ok (.iand, 1) := DX4_load_c5.2.2.2.2.2.2.1
theorem dX4_load_91 : decode cX4_load 91 = .ok (.iload 4, 2) := DX4_load_c5.2.2.2.2.2.2.2.1
theorem dX4_load_93 : decode cX4_load 93 = .ok (.ishl, 1) := DX4_load_c5.2.2.2.2.2.2.2.2.1
theorem dX4_load_94 : decode cX4_load 94 = .ok (.ior, 1) := DX4_load_c5.2.2.2.2.2.2.2.2.2
set_option maxRecDepth 100000 in
theorem DX4_load_c6 : decode cX4_load 95 = .ok (.iastore, 1) ∧ decode cX4_load 96 = .ok (.iload_n 3, 1) ∧ decode cX4_load 97 = .ok (.iconst 1, 1) ∧ decode cX4_load 98 = .ok (.ishr, 1) ∧ decode cX4_load 99 = .ok (.istore_n 3, 1) ∧ decode cX4_load 100 = .ok (.iinc 5 (-1), 3) ∧ decode cX4_load 103 = .ok (.goto (-44), 3) ∧ decode cX4_load 106 = .ok (.iinc 4 (-1), 3) ∧ decode cX4_load 109 = .ok (.goto (-61), 3) ∧ decode cX4_load 112 = .ok (.return_, 1) := by decide +kernel
theorem dX4_load_95 : decode cX4_load 95 = .ok (.iastore, 1) := DX4_load_c6.1
theorem dX4_load_96 : decode cX4_load 96 = .ok (.iload_n 3, 1) := DX4_load_c6.2.1
theorem dX4_load_97 : decode cX4_load 97 = .ok (.iconst 1, 1) := DX4_load_c6.2.2.1
theorem dX4_load_98 : decode cX4_load 98 = .ok (.ishr, 1) := DX4_load_c6.2.2.2.1
theorem dX4_load_99 : decode cX4_load 99 = .ok (.istore_n 3, 1) := DX4_load_c6.2.2.2.2.1
theorem dX4_load_100 : decode cX4_load 100 = .ok (.iinc 5 (-1), 3) := DX4_load_c6.2.2.2.2.2.1
theorem dX4_load_103 : decode cX4_load 103 = .ok (.goto (-44), 3) := DX4_load_c6.2.2.2.2.2.2.1
theorem dX4_load_106 : decode cX4_load 106 = .ok (.iinc 4 (-1), 3) := DX4_load_c6.2.2.2.2.2.2.2.1
theorem dX4_load_109 : decode cX4_load 109 = .ok (.goto (-61), 3) := DX4_load_c6.2.2.2.2.2.2.2.2.1
theorem dX4_load_112 : decode cX4_load 112 = .ok (.return_, 1) := DX4_load_c6.2.2.2.2.2.2.2.2.2
set_option maxRecDepth 100000 in
theorem DX4_size_c0 : decode cX4_size 0 = .ok (.aload_n 0, 1) ∧ decode cX4_size 1 = .ok (.getfield 15, 3) ∧ decode cX4_size 4 = .ok (.ireturn, 1) := by decide +kernel
theorem dX4_size_0 : decode cX4_size 0 = .ok (.aload_n 0, 1) := DX4_size_c0.1
theorem dX4_size_1 : decode cX4_size 1 = .ok (.getfield 15, 3) := DX4_size_c0.2.1
theorem dX4_size_4 : decode cX4_size 4 = .ok (.ireturn, 1) := DX4_size_c0.2.2
set_option maxRecDepth 100000 in
theorem DX4_has_c0 : decode cX4_has 0 = .ok (.iload_n 1, 1) ∧ decode cX4_has 1 = .ok (.ifCond .lt 15, 3) ∧ decode cX4_has 4 = .ok (.iload_n 1, 1) ∧ decode cX4_has 5 = .ok (.aload_n 0, 1) ∧ decode cX4_has 6 = .ok (.getfield 15, 3) ∧ decode cX4_has 9 = .ok (.if_icmp .ge 7, 3) ∧ decode cX4_has 12 = .ok (.iconst 1, 1) ∧ decode cX4_has 13 = .ok (.goto 4, 3) ∧ decode cX4_has 16 = .ok (.iconst 0, 1) ∧ decode cX4_has 17 = .ok (.ireturn, 1) := by decide +kernel
theorem dX4_has_0 : decode cX4_has 0 = .ok (.iload_n 1, 1) := DX4_has_c0.1
theorem dX4_has_1 : decode cX4_has 1 = .ok (.ifCond .lt 15, 3) := DX4_has_c0.2.1
theorem dX4_has_4 : decode cX4_has 4 = .ok (.iload_n 1, 1) := DX4_has_c0.2.2.1
theorem dX4_has_5 : decode cX4_has 5 = .ok (.aload_n 0, 1) := DX4_has_c0.2.2.2.1
theorem dX4_has_6 : decode cX4_has 6 = .ok (.getfield 15, 3) := DX4_has_c0.2.2.2.2.1
theorem dX4_has_9 : decode cX4_has 9 = .ok (.if_icmp .ge 7, 3) := DX4_has_c0.2.2.2.2.2.1
theorem dX4_has_12 : decode cX4_has 12 = .ok (.iconst 1, 1) := DX4_has_c0.2.2.2.2.2.2.1
theorem dX4_has_13 : decode cX4_has 13 = .ok (.goto 4, 3) := DX4_has_c0.2.2.2.2.2.2.2.1
theorem dX4_has_16 : decode cX4_has 16 = .ok (.iconst 0, 1) := DX4_has_c0.2.2.2.2.2.2.2.2.1
theorem dX4_has_17 : decode cX4_has 17 = .ok (.ireturn, 1) := DX4_has_c0.2.2.2.2.2.2.2.2.2
set_option maxRecDepth 100000 in
theorem DX4_row_c0 : decode cX4_row 0 = .ok (.iload_n 1, 1) ∧ decode cX4_row 1 = .ok (.ifCond .lt 20, 3) ∧ decode cX4_row 4 = .ok (.iload_n 1, 1) ∧ decode cX4_row 5 = .ok (.aload_n 0, 1) ∧ decode cX4_row 6 = .ok (.getfield 15, 3) ∧ decode cX4_row 9 = .ok (.if_icmp .ge 12, 3) ∧ decode cX4_row 12 = .ok (.aload_n 0, 1) ∧ decode cX4_row 13 = .ok (.getfield 9, 3) ∧ decode cX4_row 16 = .ok (.iload_n 1, 1) ∧ decode cX4_row 17 = .ok (.iaload, 1) := by decide +kernel
theorem dX4_row_0 : decode cX4_row 0 = .ok (.iload_n 1, 1) := DX4_row_c0.1
theorem dX4_row_1 : decode cX4_row 1 = .ok (.ifCond .lt 20, 3) := DX4_row_c0.2.1
theorem dX4_row_4 : decode cX4_row 4 = .ok (.iload_n 1, 1) := DX4_row_c0.2.2.1
theorem dX4_row_5 : decode cX4_row 5 = .ok (.aload_n 0, 1) := DX4_row_c0.2.2.2.1
theorem dX4_row_6 : decode cX4_row 6 = .ok (.getfield 15, 3) := DX4_row_c0.2.2.2.2.1
theorem dX4_row_9 : decode cX4_row 9 = .ok (.if_icmp .ge 12, 3) := DX4_row_c0.2.2.2.2.2.1
theorem dX4_row_12 : decode cX4_row 12 = .ok (.aload_n 0, 1) := DX4_row_c0.2.2.2.2.2.2.1
theorem dX4_row_13 : decode cX4_row 13 = .ok (.getfield 9, 3) := DX4_row_c0.2.2.2.2.2.2.2.1
theorem dX4_row_16 : decode cX4_row 16 = .ok (.iload_n 1, 1) := DX4_row_c0.2.2.2.2.2.2.2.2.1
theorem dX4_row_17 : decode cX4_row 17 = .ok (.iaload, 1) := DX4_row_c0.2.2.2.2.2.2.2.2.2
set_option maxRecDepth 100000 in
theorem DX4_row_c1 : decode cX4_row 18 = .ok (.goto 4, 3) ∧ decode cX4_row 21 = .ok (.iconst 0, 1) ∧ decode cX4_row 22 = .ok (.ireturn, 1) := by decide +kernel
theorem dX4_row_18 : decode cX4_row 18 = .ok (.goto 4, 3) := DX4_row_c1.1
theorem dX4_row_21 : decode cX4_row 21 = .ok (.iconst 0, 1) := DX4_row_c1.2.1
theorem dX4_row_22 : decode cX4_row 22 = .ok (.ireturn, 1) := DX4_row_c1.2.2
set_option maxRecDepth 100000 in
theorem DX4_link_c0 : decode cX4_link 0 = .ok (.aload_n 0, 1) ∧ decode cX4_link 1 = .ok (.iload_n 1, 1) ∧ decode cX4_link 2 = .ok (.invokevirtual 19, 3) ∧ decode cX4_link 5 = .ok (.iload_n 2, 1) ∧ decode cX4_link 6 = .ok (.ishr, 1) ∧ decode cX4_link 7 = .ok (.iconst 1, 1) ∧ decode cX4_link 8 = .ok (.iand, 1) ∧ decode cX4_link 9 = .ok (.ireturn, 1) := by decide +kernel
theorem dX4_link_0 : decode cX4_link 0 = .ok (.aload_n 0, 1) := DX4_link_c0.1
theorem dX4_link_1 : decode cX4_link 1 = .ok (.iload_n 1, 1) := DX4_link_c0.2.1
theorem dX4_link_2 : decode cX4_link 2 = .ok (.invokevirtual 19, 3) := DX4_link_c0.2.2.1
theorem dX4_link_5 : decode cX4_link 5 = .ok (.iload_n 2, 1) := DX4_link_c0.2.2.2.1
theorem dX4_link_6 : decode cX4_link 6 = .ok (.ishr, 1) := DX4_link_c0.2.2.2.2.1
theorem dX4_link_7 : decode cX4_link 7 = .ok (.iconst 1, 1) := DX4_link_c0.2.2.2.2.2.1
theorem dX4_link_8 : decode cX4_link 8 = .ok (.iand, 1) := DX4_link_c0.2.2.2.2.2.2.1
theorem dX4_link_9 : decode cX4_link 9 = .ok (.ireturn, 1) := DX4_link_c0.2.2.2.2.2.2.2
set_option maxRecDepth 100000 in
theorem DX4_setLink_c0 : decode cX4_setLink 0 = .ok (.aload_n 0, 1) ∧ decode cX4_setLink 1 = .ok (.iload_n 1, 1) ∧ decode cX4_setLink 2 = .ok (.invokevirtual 23, 3) ∧ decode cX4_setLink 5 = .ok (.ifCond .eq 11, 3) ∧ decode cX4_setLink 8 = .ok (.aload_n 0, 1) ∧ decode cX4_setLink 9 = .ok (.iload_n 2, 1) ∧ decode cX4_setLink 10 = .ok (.invokevirtual 23, 3) ∧ decode cX4_setLink 13 = .ok (.ifCond .ne 4, 3) ∧ decode cX4_setLink 16 = .ok (.return_, 1) ∧ decode cX4_setLink 17 = .ok (.aload_n 0, 1) := by decide +kernel
theorem dX4_setLink_0 : decode cX4_setLink 0 = .ok (.aload_n 0, 1) := DX4_setLink_c0.1
theorem dX4_setLink_1 : decode cX4_setLink 1 = .ok (.iload_n 1, 1) := DX4_setLink_c0.2.1
theorem dX4_setLink_2 : decode cX4_setLink 2 = .ok (.invokevirtual 23, 3) := DX4_setLink_c0.2.2.1
theorem dX4_setLink_5 : decode cX4_setLink 5 = .ok (.ifCond .eq 11, 3) := DX4_setLink_c0.2.2.2.1
theorem dX4_setLink_8 : decode cX4_setLink 8 = .ok (.aload_n 0, 1) := DX4_setLink_c0.2.2.2.2.1
theorem dX4_setLink_9 : decode cX4_setLink 9 = .ok (.iload_n 2, 1) := DX4_setLink_c0.2.2.2.2.2.1
theorem dX4_setLink_10 : decode cX4_setLink 10 = .ok (.invokevirtual 23, 3) := DX4_setLink_c0.2.2.2.2.2.2.1
theorem dX4_setLink_13 : decode cX4_setLink 13 = .ok (.ifCond .ne 4, 3) := DX4_setLink_c0.2.2.2.2.2.2.2.1
theorem dX4_setLink_16 : decode cX4_setLink 16 = .ok (.return_, 1) := DX4_setLink_c0.2.2.2.2.2.2.2.2.1
theorem dX4_setLink_17 : decode cX4_setLink 17 = .ok (.aload_n 0, 1) := DX4_setLink_c0.2.2.2.2.2.2.2.2.2
set_option maxRecDepth 100000 in
theorem DX4_setLink_c1 : decode cX4_setLink 18 = .ok (.getfield 9, 3) ∧ decode cX4_setLink 21 = .ok (.iload_n 1, 1) ∧ decode cX4_setLink 22 = .ok (.aload_n 0, 1) ∧ decode cX4_setLink 23 = .ok (.getfield 9, 3) ∧ decode cX4_setLink 26 = .ok (.iload_n 1, 1) ∧ decode cX4_setLink 27 = .ok (.iaload, 1) ∧ decode cX4_setLink 28 = .ok (.iconst 1, 1) ∧ decode cX4_setLink 29 = .ok (.iload_n 2, 1) ∧ decode cX4_setLink 30 = .ok (.ishl, 1) ∧ decode cX4_setLink 31 = .ok (.iconst (-1), 1) := by decide +kernel
theorem dX4_setLink_18 : decode cX4_setLink 18 = .ok (.getfield 9, 3) := DX4_setLink_c1.1
theorem dX4_setLink_21 : decode cX4_setLink 21 = .ok (.iload_n 1, 1) := DX4_setLink_c1.2.1
theorem dX4_setLink_22 : decode cX4_setLink 22 = .ok (.aload_n 0, 1) := DX4_setLink_c1.2.2.1
theorem dX4_setLink_23 : decode cX4_setLink 23 = .ok (.getfield 9, 3) := DX4_setLink_c1.2.2.2.1
theorem dX4_setLink_26 : decode cX4_setLink 26 = .ok (.iload_n 1, 1) := DX4_setLink_c1.2.2.2.2.1
theorem dX4_setLink_27 : decode cX4_setLink 27 = .ok (.iaload, 1) := DX4_setLink_c1.2.2.2.2.2.1
theorem dX4_setLink_28 : decode cX4_setLink 28 = .ok (.iconst 1, 1) := DX4_setLink_c1.2.2.2.2.2.2.1
theorem dX4_setLink_29 : decode cX4_setLink 29 = .ok (.iload_n 2, 1) := DX4_setLink_c1.2.2.2.2.2.2.2.1
theorem dX4_setLink_30 : decode cX4_setLink 30 = .ok (.ishl, 1) := DX4_setLink_c1.2.2.2.2.2.2.2.2.1
theorem dX4_setLink_31 : decode cX4_setLink 31 = .ok (.iconst (-1), 1) := DX4_setLink_c1.2.2.2.2.2.2.2.2.2
set_option maxRecDepth 100000 in
theorem DX4_setLink_c2 : decode cX4_setLink 32 = .ok (.ixor, 1) ∧ decode cX4_setLink 33 = .ok (.iand, 1) ∧ decode cX4_setLink 34 = .ok (.iload_n 3, 1) ∧ decode cX4_setLink 35 = .ok (.iload_n 2, 1) ∧ decode cX4_setLink 36 = .ok (.ishl, 1) ∧ decode cX4_setLink 37 = .ok (.ior, 1) ∧ decode cX4_setLink 38 = .ok (.iastore, 1) ∧ decode cX4_setLink 39 = .ok (.aload_n 0, 1) ∧ decode cX4_setLink 40 = .ok (.getfield 9, 3) ∧ decode cX4_setLink 43 = .ok (.iload_n 2, 1) := by decide +kernel
theorem dX4_setLink_32 : decode cX4_setLink 32 = .ok (.ixor, 1) := DX4_setLink_c2.1
theorem dX4_setLink_33 : decode cX4_setLink 33 = .ok (.iand, 1) := DX4_setLink_c2.2.1
theorem dX4_setLink_34 : decode cX4_setLink 34 = .ok (.iload_n 3, 1) := DX4_setLink_c2.2.2.1
theorem dX4_setLink_35 : decode cX4_setLink 35 = .ok (.iload_n 2, 1) := DX4_setLink_c2.2.2.2.1
theorem dX4_setLink_36 : decode cX4_setLink 36 = .ok (.ishl, 1) := DX4_setLink_c2.2.2.2.2.1
theorem dX4_setLink_37 : decode cX4_setLink 37 = .ok (.ior, 1) := DX4_setLink_c2.2.2.2.2.2.1
theorem dX4_setLink_38 : decode cX4_setLink 38 = .ok (.iastore, 1) := DX4_setLink_c2.2.2.2.2.2.2.1
theorem dX4_setLink_39 : decode cX4_setLink 39 = .ok (.aload_n 0, 1) := DX4_setLink_c2.2.2.2.2.2.2.2.1
theorem dX4_setLink_40 : decode cX4_setLink 40 = .ok (.getfield 9, 3) := DX4_setLink_c2.2.2.2.2.2.2.2.2.1
theorem dX4_setLink_43 : decode cX4_setLink 43 = .ok (.iload_n 2, 1) := DX4_setLink_c2.2.2.2.2.2.2.2.2.2
set_option maxRecDepth 100000 in
theorem DX4_setLink_c3 : decode cX4_setLink 44 = .ok (.aload_n 0, 1) ∧ decode cX4_setLink 45 = .ok (.getfield 9, 3) ∧ decode cX4_setLink 48 = .ok (.iload_n 2, 1) ∧ decode cX4_setLink 49 = .ok (.iaload, 1) ∧ decode cX4_setLink 50 = .ok (.iconst 1, 1) ∧ decode cX4_setLink 51 = .ok (.iload_n 1, 1) ∧ decode cX4_setLink 52 = .ok (.ishl, 1) ∧ decode cX4_setLink 53 = .ok (.iconst (-1), 1) ∧ decode cX4_setLink 54 = .ok (.ixor, 1) ∧ decode cX4_setLink 55 = .ok (.iand, 1) := by decide +kernel
theorem dX4_setLink_44 : decode cX4_setLink 44 = .ok (.aload_n 0, 1) := DX4_setLink_c3.1
theorem dX4_setLink_45 : decode cX4_setLink 45 = .ok (.getfield 9, 3) := DX4_setLink_c3.2.1
theorem dX4_setLink_48 : decode cX4_setLink 48 = .ok (.iload_n 2, 1) := DX4_setLink_c3.2.2.1
theorem dX4_setLink_49 : decode cX4_setLink 49 = .ok (.iaload, 1) := DX4_setLink_c3.2.2.2.1
theorem dX4_setLink_50 : decode cX4_setLink 50 = .ok (.iconst 1, 1) := DX4_setLink_c3.2.2.2.2.1
theorem dX4_setLink_51 : decode cX4_setLink 51 = .ok (.iload_n 1, 1) := DX4_setLink_c3.2.2.2.2.2.1
theorem dX4_setLink_52 : decode cX4_setLink 52 = .ok (.ishl, 1) := DX4_setLink_c3.2.2.2.2.2.2.1
theorem dX4_setLink_53 : decode cX4_setLink 53 = .ok (.iconst (-1), 1) := DX4_setLink_c3.2.2.2.2.2.2.2.1
theorem dX4_setLink_54 : decode cX4_setLink 54 = .ok (.ixor, 1) := DX4_setLink_c3.2.2.2.2.2.2.2.2.1
theorem dX4_setLink_55 : decode cX4_setLink 55 = .ok (.iand, 1) := DX4_setLink_c3.2.2.2.2.2.2.2.2.2
set_option maxRecDepth 100000 in
theorem DX4_setLink_c4 : decode cX4_setLink 56 = .ok (.iload_n 3, 1) ∧ decode cX4_setLink 57 = .ok (.iload_n 1, 1) ∧ decode cX4_setLink 58 = .ok (.ishl, 1) ∧ decode cX4_setLink 59 = .ok (.ior, 1) ∧ decode cX4_setLink 60 = .ok (.iastore, 1) ∧ decode cX4_setLink 61 = .ok (.return_, 1) := by decide +kernel
theorem dX4_setLink_56 : decode cX4_setLink 56 = .ok (.iload_n 3, 1) := DX4_setLink_c4.1
theorem dX4_setLink_57 : decode cX4_setLink 57 = .ok (.iload_n 1, 1) := DX4_setLink_c4.2.1
theorem dX4_setLink_58 : decode cX4_setLink 58 = .ok (.ishl, 1) := DX4_setLink_c4.2.2.1
theorem dX4_setLink_59 : decode cX4_setLink 59 = .ok (.ior, 1) := DX4_setLink_c4.2.2.2.1
theorem dX4_setLink_60 : decode cX4_setLink 60 = .ok (.iastore, 1) := DX4_setLink_c4.2.2.2.2.1
theorem dX4_setLink_61 : decode cX4_setLink 61 = .ok (.return_, 1) := DX4_setLink_c4.2.2.2.2.2
set_option maxRecDepth 100000 in
theorem DX4_degree_c0 : decode cX4_degree 0 = .ok (.aload_n 0, 1) ∧ decode cX4_degree 1 = .ok (.iload_n 1, 1) ∧ decode cX4_degree 2 = .ok (.invokevirtual 19, 3) ∧ decode cX4_degree 5 = .ok (.invokestatic 27, 3) ∧ decode cX4_degree 8 = .ok (.ireturn, 1) := by decide +kernel
theorem dX4_degree_0 : decode cX4_degree 0 = .ok (.aload_n 0, 1) := DX4_degree_c0.1
theorem dX4_degree_1 : decode cX4_degree 1 = .ok (.iload_n 1, 1) := DX4_degree_c0.2.1
theorem dX4_degree_2 : decode cX4_degree 2 = .ok (.invokevirtual 19, 3) := DX4_degree_c0.2.2.1
theorem dX4_degree_5 : decode cX4_degree 5 = .ok (.invokestatic 27, 3) := DX4_degree_c0.2.2.2.1
theorem dX4_degree_8 : decode cX4_degree 8 = .ok (.ireturn, 1) := DX4_degree_c0.2.2.2.2
set_option maxRecDepth 100000 in
theorem DX4_edges_c0 : decode cX4_edges 0 = .ok (.iconst 0, 1) ∧ decode cX4_edges 1 = .ok (.istore_n 1, 1) ∧ decode cX4_edges 2 = .ok (.iconst 0, 1) ∧ decode cX4_edges 3 = .ok (.istore_n 2, 1) ∧ decode cX4_edges 4 = .ok (.iload_n 2, 1) ∧ decode cX4_edges 5 = .ok (.aload_n 0, 1) ∧ decode cX4_edges 6 = .ok (.getfield 15, 3) ∧ decode cX4_edges 9 = .ok (.if_icmp .ge 21, 3) ∧ decode cX4_edges 12 = .ok (.iload_n 1, 1) ∧ decode cX4_edges 13 = .ok (.aload_n 0, 1) := by decide +kernel
theorem dX4_edges_0 : decode cX4_edges 0 = .ok (.iconst 0, 1) := DX4_edges_c0.1
theorem dX4_edges_1 : decode cX4_edges 1 = .ok (.istore_n 1, 1) := DX4_edges_c0.2.1
theorem dX4_edges_2 : decode cX4_edges 2 = .ok (.iconst 0, 1) := DX4_edges_c0.2.2.1
theorem dX4_edges_3 : decode cX4_edges 3 = .ok (.istore_n 2, 1) := DX4_edges_c0.2.2.2.1
theorem dX4_edges_4 : decode cX4_edges 4 = .ok (.iload_n 2, 1) := DX4_edges_c0.2.2.2.2.1
theorem dX4_edges_5 : decode cX4_edges 5 = .ok (.aload_n 0, 1) := DX4_edges_c0.2.2.2.2.2.1
theorem dX4_edges_6 : decode cX4_edges 6 = .ok (.getfield 15, 3) := DX4_edges_c0.2.2.2.2.2.2.1
theorem dX4_edges_9 : decode cX4_edges 9 = .ok (.if_icmp .ge 21, 3) := DX4_edges_c0.2.2.2.2.2.2.2.1
theorem dX4_edges_12 : decode cX4_edges 12 = .ok (.iload_n 1, 1) := DX4_edges_c0.2.2.2.2.2.2.2.2.1
theorem dX4_edges_13 : decode cX4_edges 13 = .ok (.aload_n 0, 1) := DX4_edges_c0.2.2.2.2.2.2.2.2.2
set_option maxRecDepth 100000 in
theorem DX4_edges_c1 : decode cX4_edges 14 = .ok (.getfield 9, 3) ∧ decode cX4_edges 17 = .ok (.iload_n 2, 1) ∧ decode cX4_edges 18 = .ok (.iaload, 1) ∧ decode cX4_edges 19 = .ok (.invokestatic 27, 3) ∧ decode cX4_edges 22 = .ok (.iadd, 1) ∧ decode cX4_edges 23 = .ok (.istore_n 1, 1) ∧ decode cX4_edges 24 = .ok (.iinc 2 1, 3) ∧ decode cX4_edges 27 = .ok (.goto (-23), 3) ∧ decode cX4_edges 30 = .ok (.iload_n 1, 1) ∧ decode cX4_edges 31 = .ok (.iconst 2, 1) := by decide +kernel
theorem dX4_edges_14 : decode cX4_edges 14 = .ok (.getfield 9, 3) := DX4_edges_c1.1
theorem dX4_edges_17 : decode cX4_edges 17 = .ok (.iload_n 2, 1) := DX4_edges_c1.2.1
theorem dX4_edges_18 : decode cX4_edges 18 = .ok (.iaload, 1) := DX4_edges_c1.2.2.1
theorem dX4_edges_19 : decode cX4_edges 19 = .ok (.invokestatic 27, 3) := DX4_edges_c1.2.2.2.1
theorem dX4_edges_22 : decode cX4_edges 22 = .ok (.iadd, 1) := DX4_edges_c1.2.2.2.2.1
theorem dX4_edges_23 : decode cX4_edges 23 = .ok (.istore_n 1, 1) := DX4_edges_c1.2.2.2.2.2.1
theorem dX4_edges_24 : decode cX4_edges 24 = .ok (.iinc 2 1, 3) := DX4_edges_c1.2.2.2.2.2.2.1
theorem dX4_edges_27 : decode cX4_edges 27 = .ok (.goto (-23), 3) := DX4_edges_c1.2.2.2.2.2.2.2.1
theorem dX4_edges_30 : decode cX4_edges 30 = .ok (.iload_n 1, 1) := DX4_edges_c1.2.2.2.2.2.2.2.2.1
theorem dX4_edges_31 : decode cX4_edges 31 = .ok (.iconst 2, 1) := DX4_edges_c1.2.2.2.2.2.2.2.2.2
set_option maxRecDepth 100000 in
theorem DX4_edges_c2 : decode cX4_edges 32 = .ok (.idiv, 1) ∧ decode cX4_edges 33 = .ok (.ireturn, 1) := by decide +kernel
theorem dX4_edges_32 : decode cX4_edges 32 = .ok (.idiv, 1) := DX4_edges_c2.1
theorem dX4_edges_33 : decode cX4_edges 33 = .ok (.ireturn, 1) := DX4_edges_c2.2
set_option maxRecDepth 100000 in
theorem DX4_code_c0 : decode cX4_code 0 = .ok (.aload_n 0, 1) ∧ decode cX4_code 1 = .ok (.iconst (-1), 1) ∧ decode cX4_code 2 = .ok (.invokevirtual 32, 3) ∧ decode cX4_code 5 = .ok (.ireturn, 1) := by decide +kernel
theorem dX4_code_0 : decode cX4_code 0 = .ok (.aload_n 0, 1) := DX4_code_c0.1
theorem dX4_code_1 : decode cX4_code 1 = .ok (.iconst (-1), 1) := DX4_code_c0.2.1
theorem dX4_code_2 : decode cX4_code 2 = .ok (.invokevirtual 32, 3) := DX4_code_c0.2.2.1
theorem dX4_code_5 : decode cX4_code 5 = .ok (.ireturn, 1) := DX4_code_c0.2.2.2
set_option maxRecDepth 100000 in
theorem DX4_codeWithout_c0 : decode cX4_codeWithout 0 = .ok (.iconst 0, 1) ∧ decode cX4_codeWithout 1 = .ok (.istore_n 2, 1) ∧ decode cX4_codeWithout 2 = .ok (.iconst 1, 1) ∧ decode cX4_codeWithout 3 = .ok (.istore_n 3, 1) ∧ decode cX4_codeWithout 4 = .ok (.iload_n 3, 1) ∧ decode cX4_codeWithout 5 = .ok (.aload_n 0, 1) ∧ decode cX4_codeWithout 6 = .ok (.getfield 15, 3) ∧ decode cX4_codeWithout 9 = .ok (.if_icmp .ge 51, 3) ∧ decode cX4_codeWithout 12 = .ok (.iconst 0, 1) ∧ decode cX4_codeWithout 13 = .ok (.istore 4, 2) := by decide +kernel
theorem dX4_codeWithout_0 : decode cX4_codeWithout 0 = .ok (.iconst 0, 1) := DX4_codeWithout_c0.1
theorem dX4_codeWithout_1 : decode cX4_codeWithout 1 = .ok (.istore_n 2, 1) := DX4_codeWithout_c0.2.1
theorem dX4_codeWithout_2 : decode cX4_codeWithout 2 = .ok (.iconst 1, 1) := DX4_codeWithout_c0.2.2.1
theorem dX4_codeWithout_3 : decode cX4_codeWithout 3 = .ok (.istore_n 3, 1) := DX4_codeWithout_c0.2.2.2.1
theorem dX4_codeWithout_4 : decode cX4_codeWithout 4 = .ok (.iload_n 3, 1) := DX4_codeWithout_c0.2.2.2.2.1
theorem dX4_codeWithout_5 : decode cX4_codeWithout 5 = .ok (.aload_n 0, 1) := DX4_codeWithout_c0.2.2.2.2.2.1
theorem dX4_codeWithout_6 : decode cX4_codeWithout 6 = .ok (.getfield 15, 3) := DX4_codeWithout_c0.2.2.2.2.2.2.1
theorem dX4_codeWithout_9 : decode cX4_codeWithout 9 = .ok (.if_icmp .ge 51, 3) := DX4_codeWithout_c0.2.2.2.2.2.2.2.1
theorem dX4_codeWithout_12 : decode cX4_codeWithout 12 = .ok (.iconst 0, 1) := DX4_codeWithout_c0.2.2.2.2.2.2.2.2.1
theorem dX4_codeWithout_13 : decode cX4_codeWithout 13 = .ok (.istore 4, 2) := DX4_codeWithout_c0.2.2.2.2.2.2.2.2.2
set_option maxRecDepth 100000 in
theorem DX4_codeWithout_c1 : decode cX4_codeWithout 15 = .ok (.iload 4, 2) ∧ decode cX4_codeWithout 17 = .ok (.iload_n 3, 1) ∧ decode cX4_codeWithout 18 = .ok (.if_icmp .ge 36, 3) ∧ decode cX4_codeWithout 21 = .ok (.iload 4, 2) ∧ decode cX4_codeWithout 23 = .ok (.iload_n 1, 1) ∧ decode cX4_codeWithout 24 = .ok (.if_icmp .eq 24, 3) ∧ decode cX4_codeWithout 27 = .ok (.iload_n 3, 1) ∧ decode cX4_codeWithout 28 = .ok (.iload_n 1, 1) ∧ decode cX4_codeWithout 29 = .ok (.if_icmp .eq 19, 3) ∧ decode cX4_codeWithout 32 = .ok (.iload_n 2, 1) := by decide +kernel
theorem dX4_codeWithout_15 : decode cX4_codeWithout 15 = .ok (.iload 4, 2) := DX4_codeWithout_c1.1
theorem dX4_codeWithout_17 : decode cX4_codeWithout 17 = .ok (.iload_n 3, 1) := DX4_codeWithout_c1.2.1
theorem dX4_codeWithout_18 : decode cX4_codeWithout 18 = .ok (.if_icmp .ge 36, 3) := DX4_codeWithout_c1.2.2.1
theorem dX4_codeWithout_21 : decode cX4_codeWithout 21 = .ok (.iload 4, 2) := DX4_codeWithout_c1.2.2.2.1
theorem dX4_codeWithout_23 : decode cX4_codeWithout 23 = .ok (.iload_n 1, 1) := DX4_codeWithout_c1.2.2.2.2.1
theorem dX4_codeWithout_24 : decode cX4_codeWithout 24 = .ok (.if_icmp .eq 24, 3) := DX4_codeWithout_c1.2.2.2.2.2.1
theorem dX4_codeWithout_27 : decode cX4_codeWithout 27 = .ok (.iload_n 3, 1) := DX4_codeWithout_c1.2.2.2.2.2.2.1
theorem dX4_codeWithout_28 : decode cX4_codeWithout 28 = .ok (.iload_n 1, 1) := DX4_codeWithout_c1.2.2.2.2.2.2.2.1
theorem dX4_codeWithout_29 : decode cX4_codeWithout 29 = .ok (.if_icmp .eq 19, 3) := DX4_codeWithout_c1.2.2.2.2.2.2.2.2.1
theorem dX4_codeWithout_32 : decode cX4_codeWithout 32 = .ok (.iload_n 2, 1) := DX4_codeWithout_c1.2.2.2.2.2.2.2.2.2
set_option maxRecDepth 100000 in
theorem DX4_codeWithout_c2 : decode cX4_codeWithout 33 = .ok (.iconst 1, 1) ∧ decode cX4_codeWithout 34 = .ok (.ishl, 1) ∧ decode cX4_codeWithout 35 = .ok (.aload_n 0, 1) ∧ decode cX4_codeWithout 36 = .ok (.getfield 9, 3) ∧ decode cX4_codeWithout 39 = .ok (.iload_n 3, 1) ∧ decode cX4_codeWithout 40 = .ok (.iaload, 1) ∧ decode cX4_codeWithout 41 = .ok (.iload 4, 2) ∧ decode cX4_codeWithout 43 = .ok (.ishr, 1) ∧ decode cX4_codeWithout 44 = .ok (.iconst 1, 1) ∧ decode cX4_codeWithout 45 = .ok (.iand, 1) := by decide +kernel
theorem dX4_codeWithout_33 : decode cX4_codeWithout 33 = .ok (.iconst 1, 1) := DX4_codeWithout_c2.1
theorem dX4_codeWithout_34 : decode cX4_codeWithout 34 = .ok (.ishl, 1) := DX4_codeWithout_c2.2.1
theorem dX4_codeWithout_35 : decode cX4_codeWithout 35 = .ok (.aload_n 0, 1) := DX4_codeWithout_c2.2.2.1
theorem dX4_codeWithout_36 : decode cX4_codeWithout 36 = .ok (.getfield 9, 3) := DX4_codeWithout_c2.2.2.2.1
theorem dX4_codeWithout_39 : decode cX4_codeWithout 39 = .ok (.iload_n 3, 1) := DX4_codeWithout_c2.2.2.2.2.1
theorem dX4_codeWithout_40 : decode cX4_codeWithout 40 = .ok (.iaload, 1) := DX4_codeWithout_c2.2.2.2.2.2.1
theorem dX4_codeWithout_41 : decode cX4_codeWithout 41 = .ok (.iload 4, 2) := DX4_codeWithout_c2.2.2.2.2.2.2.1
theorem dX4_codeWithout_43 : decode cX4_codeWithout 43 = .ok (.ishr, 1) := DX4_codeWithout_c2.2.2.2.2.2.2.2.1
theorem dX4_codeWithout_44 : decode cX4_codeWithout 44 = .ok (.iconst 1, 1) := DX4_codeWithout_c2.2.2.2.2.2.2.2.2.1
theorem dX4_codeWithout_45 : decode cX4_codeWithout 45 = .ok (.iand, 1) := DX4_codeWithout_c2.2.2.2.2.2.2.2.2.2
set_option maxRecDepth 100000 in
theorem DX4_codeWithout_c3 : decode cX4_codeWithout 46 = .ok (.ior, 1) ∧ decode cX4_codeWithout 47 = .ok (.istore_n 2, 1) ∧ decode cX4_codeWithout 48 = .ok (.iinc 4 1, 3) ∧ decode cX4_codeWithout 51 = .ok (.goto (-36), 3) ∧ decode cX4_codeWithout 54 = .ok (.iinc 3 1, 3) ∧ decode cX4_codeWithout 57 = .ok (.goto (-53), 3) ∧ decode cX4_codeWithout 60 = .ok (.iload_n 2, 1) ∧ decode cX4_codeWithout 61 = .ok (.ireturn, 1) := by decide +kernel
theorem dX4_codeWithout_46 : decode cX4_codeWithout 46 = .ok (.ior, 1) := DX4_codeWithout_c3.1
theorem dX4_codeWithout_47 : decode cX4_codeWithout 47 = .ok (.istore_n 2, 1) := DX4_codeWithout_c3.2.1
theorem dX4_codeWithout_48 : decode cX4_codeWithout 48 = .ok (.iinc 4 1, 3) := DX4_codeWithout_c3.2.2.1
theorem dX4_codeWithout_51 : decode cX4_codeWithout 51 = .ok (.goto (-36), 3) := DX4_codeWithout_c3.2.2.2.1
theorem dX4_codeWithout_54 : decode cX4_codeWithout 54 = .ok (.iinc 3 1, 3) := DX4_codeWithout_c3.2.2.2.2.1
theorem dX4_codeWithout_57 : decode cX4_codeWithout 57 = .ok (.goto (-53), 3) := DX4_codeWithout_c3.2.2.2.2.2.1
theorem dX4_codeWithout_60 : decode cX4_codeWithout 60 = .ok (.iload_n 2, 1) := DX4_codeWithout_c3.2.2.2.2.2.2.1
theorem dX4_codeWithout_61 : decode cX4_codeWithout 61 = .ok (.ireturn, 1) := DX4_codeWithout_c3.2.2.2.2.2.2.2
set_option maxRecDepth 100000 in
theorem DX4_components_c0 : decode cX4_components 0 = .ok (.iconst 1, 1) ∧ decode cX4_components 1 = .ok (.aload_n 0, 1) ∧ decode cX4_components 2 = .ok (.getfield 15, 3) ∧ decode cX4_components 5 = .ok (.ishl, 1) ∧ decode cX4_components 6 = .ok (.iconst 1, 1) ∧ decode cX4_components 7 = .ok (.isub, 1) ∧ decode cX4_components 8 = .ok (.istore_n 1, 1) ∧ decode cX4_components 9 = .ok (.iconst 0, 1) ∧ decode cX4_components 10 = .ok (.istore_n 2, 1) ∧ decode cX4_components 11 = .ok (.iconst 0, 1) := by decide +kernel
theorem dX4_components_0 : decode cX4_components 0 = .ok (.iconst 1, 1) := DX4_components_c0.1
theorem dX4_components_1 : decode cX4_components 1 = .ok (.aload_n 0, 1) := DX4_components_c0.2.1
theorem dX4_components_2 : decode cX4_components 2 = .ok (.getfield 15, 3) := DX4_components_c0.2.2.1
theorem dX4_components_5 : decode cX4_components 5 = .ok (.ishl, 1) := DX4_components_c0.2.2.2.1
theorem dX4_components_6 : decode cX4_components 6 = .ok (.iconst 1, 1) := DX4_components_c0.2.2.2.2.1
theorem dX4_components_7 : decode cX4_components 7 = .ok (.isub, 1) := DX4_components_c0.2.2.2.2.2.1
theorem dX4_components_8 : decode cX4_components 8 = .ok (.istore_n 1, 1) := DX4_components_c0.2.2.2.2.2.2.1
theorem dX4_components_9 : decode cX4_components 9 = .ok (.iconst 0, 1) := DX4_components_c0.2.2.2.2.2.2.2.1
theorem dX4_components_10 : decode cX4_components 10 = .ok (.istore_n 2, 1) := DX4_components_c0.2.2.2.2.2.2.2.2.1
theorem dX4_components_11 : decode cX4_components 11 = .ok (.iconst 0, 1) := DX4_components_c0.2.2.2.2.2.2.2.2.2
set_option maxRecDepth 100000 in
theorem DX4_components_c1 : decode cX4_components 12 = .ok (.istore_n 3, 1) ∧ decode cX4_components 13 = .ok (.iload_n 3, 1) ∧ decode cX4_components 14 = .ok (.aload_n 0, 1) ∧ decode cX4_components 15 = .ok (.getfield 15, 3) ∧ decode cX4_components 18 = .ok (.if_icmp .ge 31, 3) ∧ decode cX4_components 21 = .ok (.iload_n 1, 1) ∧ decode cX4_components 22 = .ok (.iload_n 3, 1) ∧ decode cX4_components 23 = .ok (.ishr, 1) ∧ decode cX4_components 24 = .ok (.iconst 1, 1) ∧ decode cX4_components 25 = .ok (.iand, 1) := by decide +kernel
theorem dX4_components_12 : decode cX4_components 12 = .ok (.istore_n 3, 1) := DX4_components_c1.1
theorem dX4_components_13 : decode cX4_components 13 = .ok (.iload_n 3, 1) := DX4_components_c1.2.1
theorem dX4_components_14 : decode cX4_components 14 = .ok (.aload_n 0, 1) := DX4_components_c1.2.2.1
theorem dX4_components_15 : decode cX4_components 15 = .ok (.getfield 15, 3) := DX4_components_c1.2.2.2.1
theorem dX4_components_18 : decode cX4_components 18 = .ok (.if_icmp .ge 31, 3) := DX4_components_c1.2.2.2.2.1
theorem dX4_components_21 : decode cX4_components 21 = .ok (.iload_n 1, 1) := DX4_components_c1.2.2.2.2.2.1
theorem dX4_components_22 : decode cX4_components 22 = .ok (.iload_n 3, 1) := DX4_components_c1.2.2.2.2.2.2.1
theorem dX4_components_23 : decode cX4_components 23 = .ok (.ishr, 1) := DX4_components_c1.2.2.2.2.2.2.2.1
theorem dX4_components_24 : decode cX4_components 24 = .ok (.iconst 1, 1) := DX4_components_c1.2.2.2.2.2.2.2.2.1
theorem dX4_components_25 : decode cX4_components 25 = .ok (.iand, 1) := DX4_components_c1.2.2.2.2.2.2.2.2.2
set_option maxRecDepth 100000 in
theorem DX4_components_c2 : decode cX4_components 26 = .ok (.iconst 1, 1) ∧ decode cX4_components 27 = .ok (.if_icmp .ne 16, 3) ∧ decode cX4_components 30 = .ok (.iinc 2 1, 3) ∧ decode cX4_components 33 = .ok (.iload_n 1, 1) ∧ decode cX4_components 34 = .ok (.aload_n 0, 1) ∧ decode cX4_components 35 = .ok (.iload_n 3, 1) ∧ decode cX4_components 36 = .ok (.invokevirtual 35, 3) ∧ decode cX4_components 39 = .ok (.iconst (-1), 1) ∧ decode cX4_components 40 = .ok (.ixor, 1) ∧ decode cX4_components 41 = .ok (.iand, 1) := by decide +kernel
theorem dX4_components_26 : decode cX4_components 26 = .ok (.iconst 1, 1) := DX4_components_c2.1
theorem dX4_components_27 : decode cX4_components 27 = .ok (.if_icmp .ne 16, 3) := DX4_components_c2.2.1
theorem dX4_components_30 : decode cX4_components 30 = .ok (.iinc 2 1, 3) := DX4_components_c2.2.2.1
theorem dX4_components_33 : decode cX4_components 33 = .ok (.iload_n 1, 1) := DX4_components_c2.2.2.2.1
theorem dX4_components_34 : decode cX4_components 34 = .ok (.aload_n 0, 1) := DX4_components_c2.2.2.2.2.1
theorem dX4_components_35 : decode cX4_components 35 = .ok (.iload_n 3, 1) := DX4_components_c2.2.2.2.2.2.1
theorem dX4_components_36 : decode cX4_components 36 = .ok (.invokevirtual 35, 3) := DX4_components_c2.2.2.2.2.2.2.1
theorem dX4_components_39 : decode cX4_components 39 = .ok (.iconst (-1), 1) := DX4_components_c2.2.2.2.2.2.2.2.1
theorem dX4_components_40 : decode cX4_components 40 = .ok (.ixor, 1) := DX4_components_c2.2.2.2.2.2.2.2.2.1
theorem dX4_components_41 : decode cX4_components 41 = .ok (.iand, 1) := DX4_components_c2.2.2.2.2.2.2.2.2.2
set_option maxRecDepth 100000 in
theorem DX4_components_c3 : decode cX4_components 42 = .ok (.istore_n 1, 1) ∧ decode cX4_components 43 = .ok (.iinc 3 1, 3) ∧ decode cX4_components 46 = .ok (.goto (-33), 3) ∧ decode cX4_components 49 = .ok (.iload_n 2, 1) ∧ decode cX4_components 50 = .ok (.ireturn, 1) := by decide +kernel
theorem dX4_components_42 : decode cX4_components 42 = .ok (.istore_n 1, 1) := DX4_components_c3.1
theorem dX4_components_43 : decode cX4_components 43 = .ok (.iinc 3 1, 3) := DX4_components_c3.2.1
theorem dX4_components_46 : decode cX4_components 46 = .ok (.goto (-33), 3) := DX4_components_c3.2.2.1
theorem dX4_components_49 : decode cX4_components 49 = .ok (.iload_n 2, 1) := DX4_components_c3.2.2.2.1
theorem dX4_components_50 : decode cX4_components 50 = .ok (.ireturn, 1) := DX4_components_c3.2.2.2.2
set_option maxRecDepth 100000 in
theorem DX4_reachedFrom_c0 : decode cX4_reachedFrom 0 = .ok (.iconst 1, 1) ∧ decode cX4_reachedFrom 1 = .ok (.iload_n 1, 1) ∧ decode cX4_reachedFrom 2 = .ok (.ishl, 1) ∧ decode cX4_reachedFrom 3 = .ok (.istore_n 2, 1) ∧ decode cX4_reachedFrom 4 = .ok (.iconst 1, 1) ∧ decode cX4_reachedFrom 5 = .ok (.istore_n 3, 1) ∧ decode cX4_reachedFrom 6 = .ok (.iload_n 3, 1) ∧ decode cX4_reachedFrom 7 = .ok (.aload_n 0, 1) ∧ decode cX4_reachedFrom 8 = .ok (.getfield 15, 3) ∧ decode cX4_reachedFrom 11 = .ok (.if_icmp .ge 17, 3) := by decide +kernel
theorem dX4_reachedFrom_0 : decode cX4_reachedFrom 0 = .ok (.iconst 1, 1) := DX4_reachedFrom_c0.1
theorem dX4_reachedFrom_1 : decode cX4_reachedFrom 1 = .ok (.iload_n 1, 1) := DX4_reachedFrom_c0.2.1
theorem dX4_reachedFrom_2 : decode cX4_reachedFrom 2 = .ok (.ishl, 1) := DX4_reachedFrom_c0.2.2.1
theorem dX4_reachedFrom_3 : decode cX4_reachedFrom 3 = .ok (.istore_n 2, 1) := DX4_reachedFrom_c0.2.2.2.1
theorem dX4_reachedFrom_4 : decode cX4_reachedFrom 4 = .ok (.iconst 1, 1) := DX4_reachedFrom_c0.2.2.2.2.1
theorem dX4_reachedFrom_5 : decode cX4_reachedFrom 5 = .ok (.istore_n 3, 1) := DX4_reachedFrom_c0.2.2.2.2.2.1
theorem dX4_reachedFrom_6 : decode cX4_reachedFrom 6 = .ok (.iload_n 3, 1) := DX4_reachedFrom_c0.2.2.2.2.2.2.1
theorem dX4_reachedFrom_7 : decode cX4_reachedFrom 7 = .ok (.aload_n 0, 1) := DX4_reachedFrom_c0.2.2.2.2.2.2.2.1
theorem dX4_reachedFrom_8 : decode cX4_reachedFrom 8 = .ok (.getfield 15, 3) := DX4_reachedFrom_c0.2.2.2.2.2.2.2.2.1
theorem dX4_reachedFrom_11 : decode cX4_reachedFrom 11 = .ok (.if_icmp .ge 17, 3) := DX4_reachedFrom_c0.2.2.2.2.2.2.2.2.2
set_option maxRecDepth 100000 in
theorem DX4_reachedFrom_c1 : decode cX4_reachedFrom 14 = .ok (.iload_n 2, 1) ∧ decode cX4_reachedFrom 15 = .ok (.aload_n 0, 1) ∧ decode cX4_reachedFrom 16 = .ok (.iload_n 2, 1) ∧ decode cX4_reachedFrom 17 = .ok (.invokevirtual 38, 3) ∧ decode cX4_reachedFrom 20 = .ok (.ior, 1) ∧ decode cX4_reachedFrom 21 = .ok (.istore_n 2, 1) ∧ decode cX4_reachedFrom 22 = .ok (.iinc 3 1, 3) ∧ decode cX4_reachedFrom 25 = .ok (.goto (-19), 3) ∧ decode cX4_reachedFrom 28 = .ok (.iload_n 2, 1) ∧ decode cX4_reachedFrom 29 = .ok (.ireturn, 1) := by decide +kernel
theorem dX4_reachedFrom_14 : decode cX4_reachedFrom 14 = .ok (.iload_n 2, 1) := DX4_reachedFrom_c1.1
theorem dX4_reachedFrom_15 : decode cX4_reachedFrom 15 = .ok (.aload_n 0, 1) := DX4_reachedFrom_c1.2.1
theorem dX4_reachedFrom_16 : decode cX4_reachedFrom 16 = .ok (.iload_n 2, 1) := DX4_reachedFrom_c1.2.2.1
theorem dX4_reachedFrom_17 : decode cX4_reachedFrom 17 = .ok (.invokevirtual 38, 3) := DX4_reachedFrom_c1.2.2.2.1
theorem dX4_reachedFrom_20 : decode cX4_reachedFrom 20 = .ok (.ior, 1) := DX4_reachedFrom_c1.2.2.2.2.1
theorem dX4_reachedFrom_21 : decode cX4_reachedFrom 21 = .ok (.istore_n 2, 1) := DX4_reachedFrom_c1.2.2.2.2.2.1
theorem dX4_reachedFrom_22 : decode cX4_reachedFrom 22 = .ok (.iinc 3 1, 3) := DX4_reachedFrom_c1.2.2.2.2.2.2.1
theorem dX4_reachedFrom_25 : decode cX4_reachedFrom 25 = .ok (.goto (-19), 3) := DX4_reachedFrom_c1.2.2.2.2.2.2.2.1
theorem dX4_reachedFrom_28 : decode cX4_reachedFrom 28 = .ok (.iload_n 2, 1) := DX4_reachedFrom_c1.2.2.2.2.2.2.2.2.1
theorem dX4_reachedFrom_29 : decode cX4_reachedFrom 29 = .ok (.ireturn, 1) := DX4_reachedFrom_c1.2.2.2.2.2.2.2.2.2
set_option maxRecDepth 100000 in
theorem DX4_neighboursOf_c0 : decode cX4_neighboursOf 0 = .ok (.iconst 0, 1) ∧ decode cX4_neighboursOf 1 = .ok (.istore_n 2, 1) ∧ decode cX4_neighboursOf 2 = .ok (.iconst 0, 1) ∧ decode cX4_neighboursOf 3 = .ok (.istore_n 3, 1) ∧ decode cX4_neighboursOf 4 = .ok (.iload_n 3, 1) ∧ decode cX4_neighboursOf 5 = .ok (.aload_n 0, 1) ∧ decode cX4_neighboursOf 6 = .ok (.getfield 15, 3) ∧ decode cX4_neighboursOf 9 = .ok (.if_icmp .ge 27, 3) ∧ decode cX4_neighboursOf 12 = .ok (.iload_n 1, 1) ∧ decode cX4_neighboursOf 13 = .ok (.iload_n 3, 1) := by decide +kernel
theorem dX4_neighboursOf_0 : decode cX4_neighboursOf 0 = .ok (.iconst 0, 1) := DX4_neighboursOf_c0.1
theorem dX4_neighboursOf_1 : decode cX4_neighboursOf 1 = .ok (.istore_n 2, 1) := DX4_neighboursOf_c0.2.1
theorem dX4_neighboursOf_2 : decode cX4_neighboursOf 2 = .ok (.iconst 0, 1) := DX4_neighboursOf_c0.2.2.1
theorem dX4_neighboursOf_3 : decode cX4_neighboursOf 3 = .ok (.istore_n 3, 1) := DX4_neighboursOf_c0.2.2.2.1
theorem dX4_neighboursOf_4 : decode cX4_neighboursOf 4 = .ok (.iload_n 3, 1) := DX4_neighboursOf_c0.2.2.2.2.1
theorem dX4_neighboursOf_5 : decode cX4_neighboursOf 5 = .ok (.aload_n 0, 1) := DX4_neighboursOf_c0.2.2.2.2.2.1
theorem dX4_neighboursOf_6 : decode cX4_neighboursOf 6 = .ok (.getfield 15, 3) := DX4_neighboursOf_c0.2.2.2.2.2.2.1
theorem dX4_neighboursOf_9 : decode cX4_neighboursOf 9 = .ok (.if_icmp .ge 27, 3) := DX4_neighboursOf_c0.2.2.2.2.2.2.2.1
theorem dX4_neighboursOf_12 : decode cX4_neighboursOf 12 = .ok (.iload_n 1, 1) := DX4_neighboursOf_c0.2.2.2.2.2.2.2.2.1
theorem dX4_neighboursOf_13 : decode cX4_neighboursOf 13 = .ok (.iload_n 3, 1) := DX4_neighboursOf_c0.2.2.2.2.2.2.2.2.2
set_option maxRecDepth 100000 in
theorem DX4_neighboursOf_c1 : decode cX4_neighboursOf 14 = .ok (.ishr, 1) ∧ decode cX4_neighboursOf 15 = .ok (.iconst 1, 1) ∧ decode cX4_neighboursOf 16 = .ok (.iand, 1) ∧ decode cX4_neighboursOf 17 = .ok (.iconst 1, 1) ∧ decode cX4_neighboursOf 18 = .ok (.if_icmp .ne 12, 3) ∧ decode cX4_neighboursOf 21 = .ok (.iload_n 2, 1) ∧ decode cX4_neighboursOf 22 = .ok (.aload_n 0, 1) ∧ decode cX4_neighboursOf 23 = .ok (.getfield 9, 3) ∧ decode cX4_neighboursOf 26 = .ok (.iload_n 3, 1) ∧ decode cX4_neighboursOf 27 = .ok (.iaload, 1) := by decide +kernel
theorem dX4_neighboursOf_14 : decode cX4_neighboursOf 14 = .ok (.ishr, 1) := DX4_neighboursOf_c1.1
theorem dX4_neighboursOf_15 : decode cX4_neighboursOf 15 = .ok (.iconst 1, 1) := DX4_neighboursOf_c1.2.1
theorem dX4_neighboursOf_16 : decode cX4_neighboursOf 16 = .ok (.iand, 1) := DX4_neighboursOf_c1.2.2.1
theorem dX4_neighboursOf_17 : decode cX4_neighboursOf 17 = .ok (.iconst 1, 1) := DX4_neighboursOf_c1.2.2.2.1
theorem dX4_neighboursOf_18 : decode cX4_neighboursOf 18 = .ok (.if_icmp .ne 12, 3) := DX4_neighboursOf_c1.2.2.2.2.1
theorem dX4_neighboursOf_21 : decode cX4_neighboursOf 21 = .ok (.iload_n 2, 1) := DX4_neighboursOf_c1.2.2.2.2.2.1
theorem dX4_neighboursOf_22 : decode cX4_neighboursOf 22 = .ok (.aload_n 0, 1) := DX4_neighboursOf_c1.2.2.2.2.2.2.1
theorem dX4_neighboursOf_23 : decode cX4_neighboursOf 23 = .ok (.getfield 9, 3) := DX4_neighboursOf_c1.2.2.2.2.2.2.2.1
theorem dX4_neighboursOf_26 : decode cX4_neighboursOf 26 = .ok (.iload_n 3, 1) := DX4_neighboursOf_c1.2.2.2.2.2.2.2.2.1
theorem dX4_neighboursOf_27 : decode cX4_neighboursOf 27 = .ok (.iaload, 1) := DX4_neighboursOf_c1.2.2.2.2.2.2.2.2.2
set_option maxRecDepth 100000 in
theorem DX4_neighboursOf_c2 : decode cX4_neighboursOf 28 = .ok (.ior, 1) ∧ decode cX4_neighboursOf 29 = .ok (.istore_n 2, 1) ∧ decode cX4_neighboursOf 30 = .ok (.iinc 3 1, 3) ∧ decode cX4_neighboursOf 33 = .ok (.goto (-29), 3) ∧ decode cX4_neighboursOf 36 = .ok (.iload_n 2, 1) ∧ decode cX4_neighboursOf 37 = .ok (.ireturn, 1) := by decide +kernel
theorem dX4_neighboursOf_28 : decode cX4_neighboursOf 28 = .ok (.ior, 1) := DX4_neighboursOf_c2.1
theorem dX4_neighboursOf_29 : decode cX4_neighboursOf 29 = .ok (.istore_n 2, 1) := DX4_neighboursOf_c2.2.1
theorem dX4_neighboursOf_30 : decode cX4_neighboursOf 30 = .ok (.iinc 3 1, 3) := DX4_neighboursOf_c2.2.2.1
theorem dX4_neighboursOf_33 : decode cX4_neighboursOf 33 = .ok (.goto (-29), 3) := DX4_neighboursOf_c2.2.2.2.1
theorem dX4_neighboursOf_36 : decode cX4_neighboursOf 36 = .ok (.iload_n 2, 1) := DX4_neighboursOf_c2.2.2.2.2.1
theorem dX4_neighboursOf_37 : decode cX4_neighboursOf 37 = .ok (.ireturn, 1) := DX4_neighboursOf_c2.2.2.2.2.2
set_option maxRecDepth 100000 in
theorem DX4_edgesWithin_c0 : decode cX4_edgesWithin 0 = .ok (.iconst 0, 1) ∧ decode cX4_edgesWithin 1 = .ok (.istore_n 2, 1) ∧ decode cX4_edgesWithin 2 = .ok (.iconst 0, 1) ∧ decode cX4_edgesWithin 3 = .ok (.istore_n 3, 1) ∧ decode cX4_edgesWithin 4 = .ok (.iload_n 3, 1) ∧ decode cX4_edgesWithin 5 = .ok (.aload_n 0, 1) ∧ decode cX4_edgesWithin 6 = .ok (.getfield 15, 3) ∧ decode cX4_edgesWithin 9 = .ok (.if_icmp .ge 32, 3) ∧ decode cX4_edgesWithin 12 = .ok (.iload_n 1, 1) ∧ decode cX4_edgesWithin 13 = .ok (.iload_n 3, 1) := by decide +kernel
theorem dX4_edgesWithin_0 : decode cX4_edgesWithin 0 = .ok (.iconst 0, 1) := DX4_edgesWithin_c0.1
theorem dX4_edgesWithin_1 : decode cX4_edgesWithin 1 = .ok (.istore_n 2, 1) := DX4_edgesWithin_c0.2.1
theorem dX4_edgesWithin_2 : decode cX4_edgesWithin 2 = .ok (.iconst 0, 1) := DX4_edgesWithin_c0.2.2.1
theorem dX4_edgesWithin_3 : decode cX4_edgesWithin 3 = .ok (.istore_n 3, 1) := DX4_edgesWithin_c0.2.2.2.1
theorem dX4_edgesWithin_4 : decode cX4_edgesWithin 4 = .ok (.iload_n 3, 1) := DX4_edgesWithin_c0.2.2.2.2.1
theorem dX4_edgesWithin_5 : decode cX4_edgesWithin 5 = .ok (.aload_n 0, 1) := DX4_edgesWithin_c0.2.2.2.2.2.1
theorem dX4_edgesWithin_6 : decode cX4_edgesWithin 6 = .ok (.getfield 15, 3) := DX4_edgesWithin_c0.2.2.2.2.2.2.1
theorem dX4_edgesWithin_9 : decode cX4_edgesWithin 9 = .ok (.if_icmp .ge 32, 3) := DX4_edgesWithin_c0.2.2.2.2.2.2.2.1
theorem dX4_edgesWithin_12 : decode cX4_edgesWithin 12 = .ok (.iload_n 1, 1) := DX4_edgesWithin_c0.2.2.2.2.2.2.2.2.1
theorem dX4_edgesWithin_13 : decode cX4_edgesWithin 13 = .ok (.iload_n 3, 1) := DX4_edgesWithin_c0.2.2.2.2.2.2.2.2.2
set_option maxRecDepth 100000 in
theorem DX4_edgesWithin_c1 : decode cX4_edgesWithin 14 = .ok (.ishr, 1) ∧ decode cX4_edgesWithin 15 = .ok (.iconst 1, 1) ∧ decode cX4_edgesWithin 16 = .ok (.iand, 1) ∧ decode cX4_edgesWithin 17 = .ok (.iconst 1, 1) ∧ decode cX4_edgesWithin 18 = .ok (.if_icmp .ne 17, 3) ∧ decode cX4_edgesWithin 21 = .ok (.iload_n 2, 1) ∧ decode cX4_edgesWithin 22 = .ok (.aload_n 0, 1) ∧ decode cX4_edgesWithin 23 = .ok (.getfield 9, 3) ∧ decode cX4_edgesWithin 26 = .ok (.iload_n 3, 1) ∧ decode cX4_edgesWithin 27 = .ok (.iaload, 1) := by decide +kernel
theorem dX4_edgesWithin_14 : decode cX4_edgesWithin 14 = .ok (.ishr, 1) := DX4_edgesWithin_c1.1
theorem dX4_edgesWithin_15 : decode cX4_edgesWithin 15 = .ok (.iconst 1, 1) := DX4_edgesWithin_c1.2.1
theorem dX4_edgesWithin_16 : decode cX4_edgesWithin 16 = .ok (.iand, 1) := DX4_edgesWithin_c1.2.2.1
theorem dX4_edgesWithin_17 : decode cX4_edgesWithin 17 = .ok (.iconst 1, 1) := DX4_edgesWithin_c1.2.2.2.1
theorem dX4_edgesWithin_18 : decode cX4_edgesWithin 18 = .ok (.if_icmp .ne 17, 3) := DX4_edgesWithin_c1.2.2.2.2.1
theorem dX4_edgesWithin_21 : decode cX4_edgesWithin 21 = .ok (.iload_n 2, 1) := DX4_edgesWithin_c1.2.2.2.2.2.1
theorem dX4_edgesWithin_22 : decode cX4_edgesWithin 22 = .ok (.aload_n 0, 1) := DX4_edgesWithin_c1.2.2.2.2.2.2.1
theorem dX4_edgesWithin_23 : decode cX4_edgesWithin 23 = .ok (.getfield 9, 3) := DX4_edgesWithin_c1.2.2.2.2.2.2.2.1
theorem dX4_edgesWithin_26 : decode cX4_edgesWithin 26 = .ok (.iload_n 3, 1) := DX4_edgesWithin_c1.2.2.2.2.2.2.2.2.1
theorem dX4_edgesWithin_27 : decode cX4_edgesWithin 27 = .ok (.iaload, 1) := DX4_edgesWithin_c1.2.2.2.2.2.2.2.2.2
set_option maxRecDepth 100000 in
theorem DX4_edgesWithin_c2 : decode cX4_edgesWithin 28 = .ok (.iload_n 1, 1) ∧ decode cX4_edgesWithin 29 = .ok (.iand, 1) ∧ decode cX4_edgesWithin 30 = .ok (.invokestatic 27, 3) ∧ decode cX4_edgesWithin 33 = .ok (.iadd, 1) ∧ decode cX4_edgesWithin 34 = .ok (.istore_n 2, 1) ∧ decode cX4_edgesWithin 35 = .ok (.iinc 3 1, 3) ∧ decode cX4_edgesWithin 38 = .ok (.goto (-34), 3) ∧ decode cX4_edgesWithin 41 = .ok (.iload_n 2, 1) ∧ decode cX4_edgesWithin 42 = .ok (.iconst 2, 1) ∧ decode cX4_edgesWithin 43 = .ok (.idiv, 1) := by decide +kernel
theorem dX4_edgesWithin_28 : decode cX4_edgesWithin 28 = .ok (.iload_n 1, 1) := DX4_edgesWithin_c2.1
theorem dX4_edgesWithin_29 : decode cX4_edgesWithin 29 = .ok (.iand, 1) := DX4_edgesWithin_c2.2.1
theorem dX4_edgesWithin_30 : decode cX4_edgesWithin 30 = .ok (.invokestatic 27, 3) := DX4_edgesWithin_c2.2.2.1
theorem dX4_edgesWithin_33 : decode cX4_edgesWithin 33 = .ok (.iadd, 1) := DX4_edgesWithin_c2.2.2.2.1
theorem dX4_edgesWithin_34 : decode cX4_edgesWithin 34 = .ok (.istore_n 2, 1) := DX4_edgesWithin_c2.2.2.2.2.1
theorem dX4_edgesWithin_35 : decode cX4_edgesWithin 35 = .ok (.iinc 3 1, 3) := DX4_edgesWithin_c2.2.2.2.2.2.1
theorem dX4_edgesWithin_38 : decode cX4_edgesWithin 38 = .ok (.goto (-34), 3) := DX4_edgesWithin_c2.2.2.2.2.2.2.1
theorem dX4_edgesWithin_41 : decode cX4_edgesWithin 41 = .ok (.iload_n 2, 1) := DX4_edgesWithin_c2.2.2.2.2.2.2.2.1
theorem dX4_edgesWithin_42 : decode cX4_edgesWithin 42 = .ok (.iconst 2, 1) := DX4_edgesWithin_c2.2.2.2.2.2.2.2.2.1
theorem dX4_edgesWithin_43 : decode cX4_edgesWithin 43 = .ok (.idiv, 1) := DX4_edgesWithin_c2.2.2.2.2.2.2.2.2.2
set_option maxRecDepth 100000 in
theorem DX4_edgesWithin_c3 : decode cX4_edgesWithin 44 = .ok (.ireturn, 1) := by decide +kernel
theorem dX4_edgesWithin_44 : decode cX4_edgesWithin 44 = .ok (.ireturn, 1) := DX4_edgesWithin_c3
set_option maxRecDepth 100000 in
theorem DX5_init_c0 : decode cX5_init 0 = .ok (.aload_n 0, 1) ∧ decode cX5_init 1 = .ok (.invokespecial 3, 3) ∧ decode cX5_init 4 = .ok (.aload_n 0, 1) ∧ decode cX5_init 5 = .ok (.bipush 8, 2) ∧ decode cX5_init 7 = .ok (.bipush 10, 2) ∧ decode cX5_init 9 = .ok (.multianewarray 11 2, 4) ∧ decode cX5_init 13 = .ok (.putfield 13, 3) ∧ decode cX5_init 16 = .ok (.return_, 1) := by decide +kernel
theorem dX5_init_0 : decode cX5_init 0 = .ok (.aload_n 0, 1) := DX5_init_c0.1
theorem dX5_init_1 : decode cX5_init 1 = .ok (.invokespecial 3, 3) := DX5_init_c0.2.1
theorem dX5_init_4 : decode cX5_init 4 = .ok (.aload_n 0, 1) := DX5_init_c0.2.2.1
theorem dX5_init_5 : decode cX5_init 5 = .ok (.bipush 8, 2) := DX5_init_c0.2.2.2.1
theorem dX5_init_7 : decode cX5_init 7 = .ok (.bipush 10, 2) := DX5_init_c0.2.2.2.2.1
theorem dX5_init_9 : decode cX5_init 9 = .ok (.multianewarray 11 2, 4) := DX5_init_c0.2.2.2.2.2.1
theorem dX5_init_13 : decode cX5_init 13 = .ok (.putfield 13, 3) := DX5_init_c0.2.2.2.2.2.2.1
theorem dX5_init_16 : decode cX5_init 16 = .ok (.return_, 1) := DX5_init_c0.2.2.2.2.2.2.2
set_option maxRecDepth 100000 in
theorem DX5_size_c0 : decode cX5_size 0 = .ok (.aload_n 0, 1) ∧ decode cX5_size 1 = .ok (.getfield 16, 3) ∧ decode cX5_size 4 = .ok (.ireturn, 1) := by decide +kernel
theorem dX5_size_0 : decode cX5_size 0 = .ok (.aload_n 0, 1) := DX5_size_c0.1
theorem dX5_size_1 : decode cX5_size 1 = .ok (.getfield 16, 3) := DX5_size_c0.2.1
theorem dX5_size_4 : decode cX5_size 4 = .ok (.ireturn, 1) := DX5_size_c0.2.2
set_option maxRecDepth 100000 in
theorem DX5_save_c0 : decode cX5_save 0 = .ok (.aload_n 0, 1) ∧ decode cX5_save 1 = .ok (.getfield 13, 3) ∧ decode cX5_save 4 = .ok (.aload_n 0, 1) ∧ decode cX5_save 5 = .ok (.getfield 20, 3) ∧ decode cX5_save 8 = .ok (.bipush 7, 2) ∧ decode cX5_save 10 = .ok (.iand, 1) ∧ decode cX5_save 11 = .ok (.aaload, 1) ∧ decode cX5_save 12 = .ok (.astore_n 3, 1) ∧ decode cX5_save 13 = .ok (.aload_n 3, 1) ∧ decode cX5_save 14 = .ok (.iconst 0, 1) := by decide +kernel
theorem dX5_save_0 : decode cX5_save 0 = .ok (.aload_n 0, 1) := DX5_save_c0.1
theorem dX5_save_1 : decode cX5_save 1 = .ok (.getfield 13, 3) := DX5_save_c0.2.1
theorem dX5_save_4 : decode cX5_save 4 = .ok (.aload_n 0, 1) := DX5_save_c0.2.2.1
theorem dX5_save_5 : decode cX5_save 5 = .ok (.getfield 20, 3) := DX5_save_c0.2.2.2.1
theorem dX5_save_8 : decode cX5_save 8 = .ok (.bipush 7, 2) := DX5_save_c0.2.2.2.2.1
theorem dX5_save_10 : decode cX5_save 10 = .ok (.iand, 1) := DX5_save_c0.2.2.2.2.2.1
theorem dX5_save_11 : decode cX5_save 11 = .ok (.aaload, 1) := DX5_save_c0.2.2.2.2.2.2.1
theorem dX5_save_12 : decode cX5_save 12 = .ok (.astore_n 3, 1) := DX5_save_c0.2.2.2.2.2.2.2.1
theorem dX5_save_13 : decode cX5_save 13 = .ok (.aload_n 3, 1) := DX5_save_c0.2.2.2.2.2.2.2.2.1
theorem dX5_save_14 : decode cX5_save 14 = .ok (.iconst 0, 1) := DX5_save_c0.2.2.2.2.2.2.2.2.2
set_option maxRecDepth 100000 in
theorem DX5_save_c1 : decode cX5_save 15 = .ok (.aload_n 1, 1) ∧ decode cX5_save 16 = .ok (.invokevirtual 23, 3) ∧ decode cX5_save 19 = .ok (.iastore, 1) ∧ decode cX5_save 20 = .ok (.aload_n 3, 1) ∧ decode cX5_save 21 = .ok (.iconst 1, 1) ∧ decode cX5_save 22 = .ok (.aload_n 1, 1) ∧ decode cX5_save 23 = .ok (.invokevirtual 28, 3) ∧ decode cX5_save 26 = .ok (.iastore, 1) ∧ decode cX5_save 27 = .ok (.aload_n 3, 1) ∧ decode cX5_save 28 = .ok (.iconst 2, 1) := by decide +kernel
theorem dX5_save_15 : decode cX5_save 15 = .ok (.aload_n 1, 1) := DX5_save_c1.1
theorem dX5_save_16 : decode cX5_save 16 = .ok (.invokevirtual 23, 3) := DX5_save_c1.2.1
theorem dX5_save_19 : decode cX5_save 19 = .ok (.iastore, 1) := DX5_save_c1.2.2.1
theorem dX5_save_20 : decode cX5_save 20 = .ok (.aload_n 3, 1) := DX5_save_c1.2.2.2.1
theorem dX5_save_21 : decode cX5_save 21 = .ok (.iconst 1, 1) := DX5_save_c1.2.2.2.2.1
theorem dX5_save_22 : decode cX5_save 22 = .ok (.aload_n 1, 1) := DX5_save_c1.2.2.2.2.2.1
theorem dX5_save_23 : decode cX5_save 23 = .ok (.invokevirtual 28, 3) := DX5_save_c1.2.2.2.2.2.2.1
theorem dX5_save_26 : decode cX5_save 26 = .ok (.iastore, 1) := DX5_save_c1.2.2.2.2.2.2.2.1
theorem dX5_save_27 : decode cX5_save 27 = .ok (.aload_n 3, 1) := DX5_save_c1.2.2.2.2.2.2.2.2.1
theorem dX5_save_28 : decode cX5_save 28 = .ok (.iconst 2, 1) := DX5_save_c1.2.2.2.2.2.2.2.2.2
set_option maxRecDepth 100000 in
theorem DX5_save_c2 : decode cX5_save 29 = .ok (.aload_n 2, 1) ∧ decode cX5_save 30 = .ok (.invokevirtual 31, 3) ∧ decode cX5_save 33 = .ok (.iastore, 1) ∧ decode cX5_save 34 = .ok (.aload_n 3, 1) ∧ decode cX5_save 35 = .ok (.iconst 3, 1) ∧ decode cX5_save 36 = .ok (.aload_n 2, 1) ∧ decode cX5_save 37 = .ok (.invokevirtual 36, 3) ∧ decode cX5_save 40 = .ok (.iastore, 1) ∧ decode cX5_save 41 = .ok (.iconst 0, 1) ∧ decode cX5_save 42 = .ok (.istore 4, 2) := by decide +kernel
theorem dX5_save_29 : decode cX5_save 29 = .ok (.aload_n 2, 1) := DX5_save_c2.1
theorem dX5_save_30 : decode cX5_save 30 = .ok (.invokevirtual 31, 3) := DX5_save_c2.2.1
theorem dX5_save_33 : decode cX5_save 33 = .ok (.iastore, 1) := DX5_save_c2.2.2.1
theorem dX5_save_34 : decode cX5_save 34 = .ok (.aload_n 3, 1) := DX5_save_c2.2.2.2.1
theorem dX5_save_35 : decode cX5_save 35 = .ok (.iconst 3, 1) := DX5_save_c2.2.2.2.2.1
theorem dX5_save_36 : decode cX5_save 36 = .ok (.aload_n 2, 1) := DX5_save_c2.2.2.2.2.2.1
theorem dX5_save_37 : decode cX5_save 37 = .ok (.invokevirtual 36, 3) := DX5_save_c2.2.2.2.2.2.2.1
theorem dX5_save_40 : decode cX5_save 40 = .ok (.iastore, 1) := DX5_save_c2.2.2.2.2.2.2.2.1
theorem dX5_save_41 : decode cX5_save 41 = .ok (.iconst 0, 1) := DX5_save_c2.2.2.2.2.2.2.2.2.1
theorem dX5_save_42 : decode cX5_save 42 = .ok (.istore 4, 2) := DX5_save_c2.2.2.2.2.2.2.2.2.2
set_option maxRecDepth 100000 in
theorem DX5_save_c3 : decode cX5_save 44 = .ok (.iload 4, 2) ∧ decode cX5_save 46 = .ok (.bipush 6, 2) ∧ decode cX5_save 48 = .ok (.if_icmp .ge 21, 3) ∧ decode cX5_save 51 = .ok (.aload_n 3, 1) ∧ decode cX5_save 52 = .ok (.iconst 4, 1) ∧ decode cX5_save 53 = .ok (.iload 4, 2) ∧ decode cX5_save 55 = .ok (.iadd, 1) ∧ decode cX5_save 56 = .ok (.aload_n 2, 1) ∧ decode cX5_save 57 = .ok (.iload 4, 2) ∧ decode cX5_save 59 = .ok (.invokevirtual 37, 3) := by decide +kernel
theorem dX5_save_44 : decode cX5_save 44 = .ok (.iload 4, 2) := DX5_save_c3.1
theorem dX5_save_46 : decode cX5_save 46 = .ok (.bipush 6, 2) := DX5_save_c3.2.1
theorem dX5_save_48 : decode cX5_save 48 = .ok (.if_icmp .ge 21, 3) := DX5_save_c3.2.2.1
theorem dX5_save_51 : decode cX5_save 51 = .ok (.aload_n 3, 1) := DX5_save_c3.2.2.2.1
theorem dX5_save_52 : decode cX5_save 52 = .ok (.iconst 4, 1) := DX5_save_c3.2.2.2.2.1
theorem dX5_save_53 : decode cX5_save 53 = .ok (.iload 4, 2) := DX5_save_c3.2.2.2.2.2.1
theorem dX5_save_55 : decode cX5_save 55 = .ok (.iadd, 1) := DX5_save_c3.2.2.2.2.2.2.1
theorem dX5_save_56 : decode cX5_save 56 = .ok (.aload_n 2, 1) := DX5_save_c3.2.2.2.2.2.2.2.1
theorem dX5_save_57 : decode cX5_save 57 = .ok (.iload 4, 2) := DX5_save_c3.2.2.2.2.2.2.2.2.1
theorem dX5_save_59 : decode cX5_save 59 = .ok (.invokevirtual 37, 3) := DX5_save_c3.2.2.2.2.2.2.2.2.2
set_option maxRecDepth 100000 in
theorem DX5_save_c4 : decode cX5_save 62 = .ok (.iastore, 1) ∧ decode cX5_save 63 = .ok (.iinc 4 1, 3) ∧ decode cX5_save 66 = .ok (.goto (-22), 3) ∧ decode cX5_save 69 = .ok (.aload_n 0, 1) ∧ decode cX5_save 70 = .ok (.aload_n 0, 1) ∧ decode cX5_save 71 = .ok (.getfield 20, 3) ∧ decode cX5_save 74 = .ok (.iconst 1, 1) ∧ decode cX5_save 75 = .ok (.iadd, 1) ∧ decode cX5_save 76 = .ok (.bipush 7, 2) ∧ decode cX5_save 78 = .ok (.iand, 1) := by decide +kernel
theorem dX5_save_62 : decode cX5_save 62 = .ok (.iastore, 1) := DX5_save_c4.1
theorem dX5_save_63 : decode cX5_save 63 = .ok (.iinc 4 1, 3) := DX5_save_c4.2.1
theorem dX5_save_66 : decode cX5_save 66 = .ok (.goto (-22), 3) := DX5_save_c4.2.2.1
theorem dX5_save_69 : decode cX5_save 69 = .ok (.aload_n 0, 1) := DX5_save_c4.2.2.2.1
theorem dX5_save_70 : decode cX5_save 70 = .ok (.aload_n 0, 1) := DX5_save_c4.2.2.2.2.1
theorem dX5_save_71 : decode cX5_save 71 = .ok (.getfield 20, 3) := DX5_save_c4.2.2.2.2.2.1
theorem dX5_save_74 : decode cX5_save 74 = .ok (.iconst 1, 1) := DX5_save_c4.2.2.2.2.2.2.1
theorem dX5_save_75 : decode cX5_save 75 = .ok (.iadd, 1) := DX5_save_c4.2.2.2.2.2.2.2.1
theorem dX5_save_76 : decode cX5_save 76 = .ok (.bipush 7, 2) := DX5_save_c4.2.2.2.2.2.2.2.2.1
theorem dX5_save_78 : decode cX5_save 78 = .ok (.iand, 1) := DX5_save_c4.2.2.2.2.2.2.2.2.2
set_option maxRecDepth 100000 in
theorem DX5_save_c5 : decode cX5_save 79 = .ok (.putfield 20, 3) ∧ decode cX5_save 82 = .ok (.aload_n 0, 1) ∧ decode cX5_save 83 = .ok (.aload_n 0, 1) ∧ decode cX5_save 84 = .ok (.getfield 16, 3) ∧ decode cX5_save 87 = .ok (.iconst 1, 1) ∧ decode cX5_save 88 = .ok (.iadd, 1) ∧ decode cX5_save 89 = .ok (.bipush 8, 2) ∧ decode cX5_save 91 = .ok (.invokestatic 41, 3) ∧ decode cX5_save 94 = .ok (.putfield 16, 3) ∧ decode cX5_save 97 = .ok (.return_, 1) := by decide +kernel
theorem dX5_save_79 : decode cX5_save 79 = .ok (.putfield 20, 3) := DX5_save_c5.1
theorem dX5_save_82 : decode cX5_save 82 = .ok (.aload_n 0, 1) := DX5_save_c5.2.1
theorem dX5_save_83 : decode cX5_save 83 = .ok (.aload_n 0, 1) := DX5_save_c5.2.2.1
theorem dX5_save_84 : decode cX5_save 84 = .ok (.getfield 16, 3) := DX5_save_c5.2.2.2.1
theorem dX5_save_87 : decode cX5_save 87 = .ok (.iconst 1, 1) := DX5_save_c5.2.2.2.2.1
theorem dX5_save_88 : decode cX5_save 88 = .ok (.iadd, 1) := DX5_save_c5.2.2.2.2.2.1
theorem dX5_save_89 : decode cX5_save 89 = .ok (.bipush 8, 2) := DX5_save_c5.2.2.2.2.2.2.1
theorem dX5_save_91 : decode cX5_save 91 = .ok (.invokestatic 41, 3) := DX5_save_c5.2.2.2.2.2.2.2.1
theorem dX5_save_94 : decode cX5_save 94 = .ok (.putfield 16, 3) := DX5_save_c5.2.2.2.2.2.2.2.2.1
theorem dX5_save_97 : decode cX5_save 97 = .ok (.return_, 1) := DX5_save_c5.2.2.2.2.2.2.2.2.2
set_option maxRecDepth 100000 in
theorem DX5_restore_c0 : decode cX5_restore 0 = .ok (.aload_n 0, 1) ∧ decode cX5_restore 1 = .ok (.getfield 16, 3) ∧ decode cX5_restore 4 = .ok (.ifCond .ne 4, 3) ∧ decode cX5_restore 7 = .ok (.return_, 1) ∧ decode cX5_restore 8 = .ok (.aload_n 0, 1) ∧ decode cX5_restore 9 = .ok (.dup, 1) ∧ decode cX5_restore 10 = .ok (.getfield 16, 3) ∧ decode cX5_restore 13 = .ok (.iconst 1, 1) ∧ decode cX5_restore 14 = .ok (.isub, 1) ∧ decode cX5_restore 15 = .ok (.putfield 16, 3) := by decide +kernel
theorem dX5_restore_0 : decode cX5_restore 0 = .ok (.aload_n 0, 1) := DX5_restore_c0.1
theorem dX5_restore_1 : decode cX5_restore 1 = .ok (.getfield 16, 3) := DX5_restore_c0.2.1
theorem dX5_restore_4 : decode cX5_restore 4 = .ok (.ifCond .ne 4, 3) := DX5_restore_c0.2.2.1
theorem dX5_restore_7 : decode cX5_restore 7 = .ok (.return_, 1) := DX5_restore_c0.2.2.2.1
theorem dX5_restore_8 : decode cX5_restore 8 = .ok (.aload_n 0, 1) := DX5_restore_c0.2.2.2.2.1
theorem dX5_restore_9 : decode cX5_restore 9 = .ok (.dup, 1) := DX5_restore_c0.2.2.2.2.2.1
theorem dX5_restore_10 : decode cX5_restore 10 = .ok (.getfield 16, 3) := DX5_restore_c0.2.2.2.2.2.2.1
theorem dX5_restore_13 : decode cX5_restore 13 = .ok (.iconst 1, 1) := DX5_restore_c0.2.2.2.2.2.2.2.1
theorem dX5_restore_14 : decode cX5_restore 14 = .ok (.isub, 1) := DX5_restore_c0.2.2.2.2.2.2.2.2.1
theorem dX5_restore_15 : decode cX5_restore 15 = .ok (.putfield 16, 3) := DX5_restore_c0.2.2.2.2.2.2.2.2.2
set_option maxRecDepth 100000 in
theorem DX5_restore_c1 : decode cX5_restore 18 = .ok (.aload_n 0, 1) ∧ decode cX5_restore 19 = .ok (.aload_n 0, 1) ∧ decode cX5_restore 20 = .ok (.getfield 20, 3) ∧ decode cX5_restore 23 = .ok (.iconst 1, 1) ∧ decode cX5_restore 24 = .ok (.isub, 1) ∧ decode cX5_restore 25 = .ok (.bipush 7, 2) ∧ decode cX5_restore 27 = .ok (.iand, 1) ∧ decode cX5_restore 28 = .ok (.putfield 20, 3) ∧ decode cX5_restore 31 = .ok (.aload_n 0, 1) ∧ decode cX5_restore 32 = .ok (.getfield 13, 3) := by decide +kernel
theorem dX5_restore_18 : decode cX5_restore 18 = .ok (.aload_n 0, 1) := DX5_restore_c1.1
theorem dX5_restore_19 : decode cX5_restore 19 = .ok (.aload_n 0, 1) := DX5_restore_c1.2.1
theorem dX5_restore_20 : decode cX5_restore 20 = .ok (.getfield 20, 3) := DX5_restore_c1.2.2.1
theorem dX5_restore_23 : decode cX5_restore 23 = .ok (.iconst 1, 1) := DX5_restore_c1.2.2.2.1
theorem dX5_restore_24 : decode cX5_restore 24 = .ok (.isub, 1) := DX5_restore_c1.2.2.2.2.1
theorem dX5_restore_25 : decode cX5_restore 25 = .ok (.bipush 7, 2) := DX5_restore_c1.2.2.2.2.2.1
theorem dX5_restore_27 : decode cX5_restore 27 = .ok (.iand, 1) := DX5_restore_c1.2.2.2.2.2.2.1
theorem dX5_restore_28 : decode cX5_restore 28 = .ok (.putfield 20, 3) := DX5_restore_c1.2.2.2.2.2.2.2.1
theorem dX5_restore_31 : decode cX5_restore 31 = .ok (.aload_n 0, 1) := DX5_restore_c1.2.2.2.2.2.2.2.2.1
theorem dX5_restore_32 : decode cX5_restore 32 = .ok (.getfield 13, 3) := DX5_restore_c1.2.2.2.2.2.2.2.2.2
set_option maxRecDepth 100000 in
theorem DX5_restore_c2 : decode cX5_restore 35 = .ok (.aload_n 0, 1) ∧ decode cX5_restore 36 = .ok (.getfield 20, 3) ∧ decode cX5_restore 39 = .ok (.aaload, 1) ∧ decode cX5_restore 40 = .ok (.astore_n 3, 1) ∧ decode cX5_restore 41 = .ok (.aload_n 1, 1) ∧ decode cX5_restore 42 = .ok (.aload_n 3, 1) ∧ decode cX5_restore 43 = .ok (.iconst 0, 1) ∧ decode cX5_restore 44 = .ok (.iaload, 1) ∧ decode cX5_restore 45 = .ok (.aload_n 3, 1) ∧ decode cX5_restore 46 = .ok (.iconst 1, 1) := by decide +kernel
theorem dX5_restore_35 : decode cX5_restore 35 = .ok (.aload_n 0, 1) := DX5_restore_c2.1
theorem dX5_restore_36 : decode cX5_restore 36 = .ok (.getfield 20, 3) := DX5_restore_c2.2.1
theorem dX5_restore_39 : decode cX5_restore 39 = .ok (.aaload, 1) := DX5_restore_c2.2.2.1
theorem dX5_restore_40 : decode cX5_restore 40 = .ok (.astore_n 3, 1) := DX5_restore_c2.2.2.2.1
theorem dX5_restore_41 : decode cX5_restore 41 = .ok (.aload_n 1, 1) := DX5_restore_c2.2.2.2.2.1
theorem dX5_restore_42 : decode cX5_restore 42 = .ok (.aload_n 3, 1) := DX5_restore_c2.2.2.2.2.2.1
theorem dX5_restore_43 : decode cX5_restore 43 = .ok (.iconst 0, 1) := DX5_restore_c2.2.2.2.2.2.2.1
theorem dX5_restore_44 : decode cX5_restore 44 = .ok (.iaload, 1) := DX5_restore_c2.2.2.2.2.2.2.2.1
theorem dX5_restore_45 : decode cX5_restore 45 = .ok (.aload_n 3, 1) := DX5_restore_c2.2.2.2.2.2.2.2.2.1
theorem dX5_restore_46 : decode cX5_restore 46 = .ok (.iconst 1, 1) := DX5_restore_c2.2.2.2.2.2.2.2.2.2
set_option maxRecDepth 100000 in
theorem DX5_restore_c3 : decode cX5_restore 47 = .ok (.iaload, 1) ∧ decode cX5_restore 48 = .ok (.invokevirtual 47, 3) ∧ decode cX5_restore 51 = .ok (.aload_n 2, 1) ∧ decode cX5_restore 52 = .ok (.aload_n 3, 1) ∧ decode cX5_restore 53 = .ok (.iconst 2, 1) ∧ decode cX5_restore 54 = .ok (.iaload, 1) ∧ decode cX5_restore 55 = .ok (.invokevirtual 51, 3) ∧ decode cX5_restore 58 = .ok (.iconst 0, 1) ∧ decode cX5_restore 59 = .ok (.istore 4, 2) ∧ decode cX5_restore 61 = .ok (.iload 4, 2) := by decide +kernel
theorem dX5_restore_47 : decode cX5_restore 47 = .ok (.iaload, 1) := DX5_restore_c3.1
theorem dX5_restore_48 : decode cX5_restore 48 = .ok (.invokevirtual 47, 3) := DX5_restore_c3.2.1
theorem dX5_restore_51 : decode cX5_restore 51 = .ok (.aload_n 2, 1) := DX5_restore_c3.2.2.1
theorem dX5_restore_52 : decode cX5_restore 52 = .ok (.aload_n 3, 1) := DX5_restore_c3.2.2.2.1
theorem dX5_restore_53 : decode cX5_restore 53 = .ok (.iconst 2, 1) := DX5_restore_c3.2.2.2.2.1
theorem dX5_restore_54 : decode cX5_restore 54 = .ok (.iaload, 1) := DX5_restore_c3.2.2.2.2.2.1
theorem dX5_restore_55 : decode cX5_restore 55 = .ok (.invokevirtual 51, 3) := DX5_restore_c3.2.2.2.2.2.2.1
theorem dX5_restore_58 : decode cX5_restore 58 = .ok (.iconst 0, 1) := DX5_restore_c3.2.2.2.2.2.2.2.1
theorem dX5_restore_59 : decode cX5_restore 59 = .ok (.istore 4, 2) := DX5_restore_c3.2.2.2.2.2.2.2.2.1
theorem dX5_restore_61 : decode cX5_restore 61 = .ok (.iload 4, 2) := DX5_restore_c3.2.2.2.2.2.2.2.2.2
set_option maxRecDepth 100000 in
theorem DX5_restore_c4 : decode cX5_restore 63 = .ok (.aload_n 3, 1) ∧ decode cX5_restore 64 = .ok (.iconst 3, 1) ∧ decode cX5_restore 65 = .ok (.iaload, 1) ∧ decode cX5_restore 66 = .ok (.if_icmp .ge 27, 3) ∧ decode cX5_restore 69 = .ok (.iload 4, 2) ∧ decode cX5_restore 71 = .ok (.bipush 6, 2) ∧ decode cX5_restore 73 = .ok (.if_icmp .ge 20, 3) ∧ decode cX5_restore 76 = .ok (.aload_n 2, 1) ∧ decode cX5_restore 77 = .ok (.aload_n 3, 1) ∧ decode cX5_restore 78 = .ok (.iconst 4, 1) := by decide +kernel
theorem dX5_restore_63 : decode cX5_restore 63 = .ok (.aload_n 3, 1) := DX5_restore_c4.1
theorem dX5_restore_64 : decode cX5_restore 64 = .ok (.iconst 3, 1) := DX5_restore_c4.2.1
theorem dX5_restore_65 : decode cX5_restore 65 = .ok (.iaload, 1) := DX5_restore_c4.2.2.1
theorem dX5_restore_66 : decode cX5_restore 66 = .ok (.if_icmp .ge 27, 3) := DX5_restore_c4.2.2.2.1
theorem dX5_restore_69 : decode cX5_restore 69 = .ok (.iload 4, 2) := DX5_restore_c4.2.2.2.2.1
theorem dX5_restore_71 : decode cX5_restore 71 = .ok (.bipush 6, 2) := DX5_restore_c4.2.2.2.2.2.1
theorem dX5_restore_73 : decode cX5_restore 73 = .ok (.if_icmp .ge 20, 3) := DX5_restore_c4.2.2.2.2.2.2.1
theorem dX5_restore_76 : decode cX5_restore 76 = .ok (.aload_n 2, 1) := DX5_restore_c4.2.2.2.2.2.2.2.1
theorem dX5_restore_77 : decode cX5_restore 77 = .ok (.aload_n 3, 1) := DX5_restore_c4.2.2.2.2.2.2.2.2.1
theorem dX5_restore_78 : decode cX5_restore 78 = .ok (.iconst 4, 1) := DX5_restore_c4.2.2.2.2.2.2.2.2.2
set_option maxRecDepth 100000 in
theorem DX5_restore_c5 : decode cX5_restore 79 = .ok (.iload 4, 2) ∧ decode cX5_restore 81 = .ok (.iadd, 1) ∧ decode cX5_restore 82 = .ok (.iaload, 1) ∧ decode cX5_restore 83 = .ok (.invokevirtual 55, 3) ∧ decode cX5_restore 86 = .ok (.pop, 1) ∧ decode cX5_restore 87 = .ok (.iinc 4 1, 3) ∧ decode cX5_restore 90 = .ok (.goto (-29), 3) ∧ decode cX5_restore 93 = .ok (.return_, 1) := by decide +kernel
theorem dX5_restore_79 : decode cX5_restore 79 = .ok (.iload 4, 2) := DX5_restore_c5.1
theorem dX5_restore_81 : decode cX5_restore 81 = .ok (.iadd, 1) := DX5_restore_c5.2.1
theorem dX5_restore_82 : decode cX5_restore 82 = .ok (.iaload, 1) := DX5_restore_c5.2.2.1
theorem dX5_restore_83 : decode cX5_restore 83 = .ok (.invokevirtual 55, 3) := DX5_restore_c5.2.2.2.1
theorem dX5_restore_86 : decode cX5_restore 86 = .ok (.pop, 1) := DX5_restore_c5.2.2.2.2.1
theorem dX5_restore_87 : decode cX5_restore 87 = .ok (.iinc 4 1, 3) := DX5_restore_c5.2.2.2.2.2.1
theorem dX5_restore_90 : decode cX5_restore 90 = .ok (.goto (-29), 3) := DX5_restore_c5.2.2.2.2.2.2.1
theorem dX5_restore_93 : decode cX5_restore 93 = .ok (.return_, 1) := DX5_restore_c5.2.2.2.2.2.2.2
set_option maxRecDepth 100000 in
theorem DX6_isPattern_c0 : decode cX6_isPattern 0 = .ok (.iload_n 0, 1) ∧ decode cX6_isPattern 1 = .ok (.ifCond .lt 15, 3) ∧ decode cX6_isPattern 4 = .ok (.iload_n 0, 1) ∧ decode cX6_isPattern 5 = .ok (.getstatic 7, 3) ∧ decode cX6_isPattern 8 = .ok (.arraylength, 1) ∧ decode cX6_isPattern 9 = .ok (.if_icmp .ge 7, 3) ∧ decode cX6_isPattern 12 = .ok (.iconst 1, 1) ∧ decode cX6_isPattern 13 = .ok (.goto 4, 3) ∧ decode cX6_isPattern 16 = .ok (.iconst 0, 1) ∧ decode cX6_isPattern 17 = .ok (.ireturn, 1) := by decide +kernel
theorem dX6_isPattern_0 : decode cX6_isPattern 0 = .ok (.iload_n 0, 1) := DX6_isPattern_c0.1
theorem dX6_isPattern_1 : decode cX6_isPattern 1 = .ok (.ifCond .lt 15, 3) := DX6_isPattern_c0.2.1
theorem dX6_isPattern_4 : decode cX6_isPattern 4 = .ok (.iload_n 0, 1) := DX6_isPattern_c0.2.2.1
theorem dX6_isPattern_5 : decode cX6_isPattern 5 = .ok (.getstatic 7, 3) := DX6_isPattern_c0.2.2.2.1
theorem dX6_isPattern_8 : decode cX6_isPattern 8 = .ok (.arraylength, 1) := DX6_isPattern_c0.2.2.2.2.1
theorem dX6_isPattern_9 : decode cX6_isPattern 9 = .ok (.if_icmp .ge 7, 3) := DX6_isPattern_c0.2.2.2.2.2.1
theorem dX6_isPattern_12 : decode cX6_isPattern 12 = .ok (.iconst 1, 1) := DX6_isPattern_c0.2.2.2.2.2.2.1
theorem dX6_isPattern_13 : decode cX6_isPattern 13 = .ok (.goto 4, 3) := DX6_isPattern_c0.2.2.2.2.2.2.2.1
theorem dX6_isPattern_16 : decode cX6_isPattern 16 = .ok (.iconst 0, 1) := DX6_isPattern_c0.2.2.2.2.2.2.2.2.1
theorem dX6_isPattern_17 : decode cX6_isPattern 17 = .ok (.ireturn, 1) := DX6_isPattern_c0.2.2.2.2.2.2.2.2.2
set_option maxRecDepth 100000 in
theorem DX6_vertices_c0 : decode cX6_vertices 0 = .ok (.iload_n 0, 1) ∧ decode cX6_vertices 1 = .ok (.invokestatic 13, 3) ∧ decode cX6_vertices 4 = .ok (.ifCond .eq 11, 3) ∧ decode cX6_vertices 7 = .ok (.getstatic 7, 3) ∧ decode cX6_vertices 10 = .ok (.iload_n 0, 1) ∧ decode cX6_vertices 11 = .ok (.iaload, 1) ∧ decode cX6_vertices 12 = .ok (.goto 4, 3) ∧ decode cX6_vertices 15 = .ok (.iconst 0, 1) ∧ decode cX6_vertices 16 = .ok (.ireturn, 1) := by decide +kernel
theorem dX6_vertices_0 : decode cX6_vertices 0 = .ok (.iload_n 0, 1) := DX6_vertices_c0.1
theorem dX6_vertices_1 : decode cX6_vertices 1 = .ok (.invokestatic 13, 3) := DX6_vertices_c0.2.1
theorem dX6_vertices_4 : decode cX6_vertices 4 = .ok (.ifCond .eq 11, 3) := DX6_vertices_c0.2.2.1
theorem dX6_vertices_7 : decode cX6_vertices 7 = .ok (.getstatic 7, 3) := DX6_vertices_c0.2.2.2.1
theorem dX6_vertices_10 : decode cX6_vertices 10 = .ok (.iload_n 0, 1) := DX6_vertices_c0.2.2.2.2.1
theorem dX6_vertices_11 : decode cX6_vertices 11 = .ok (.iaload, 1) := DX6_vertices_c0.2.2.2.2.2.1
theorem dX6_vertices_12 : decode cX6_vertices 12 = .ok (.goto 4, 3) := DX6_vertices_c0.2.2.2.2.2.2.1
theorem dX6_vertices_15 : decode cX6_vertices 15 = .ok (.iconst 0, 1) := DX6_vertices_c0.2.2.2.2.2.2.2.1
theorem dX6_vertices_16 : decode cX6_vertices 16 = .ok (.ireturn, 1) := DX6_vertices_c0.2.2.2.2.2.2.2.2
set_option maxRecDepth 100000 in
theorem DX6_count_c0 : decode cX6_count 0 = .ok (.iload_n 1, 1) ∧ decode cX6_count 1 = .ok (.tableswitch 96 0 8 #[51, 56, 61, 66, 71, 76, 81, 86, 91], 51) ∧ decode cX6_count 52 = .ok (.aload_n 0, 1) ∧ decode cX6_count 53 = .ok (.invokevirtual 17, 3) ∧ decode cX6_count 56 = .ok (.ireturn, 1) ∧ decode cX6_count 57 = .ok (.aload_n 0, 1) ∧ decode cX6_count 58 = .ok (.invokestatic 23, 3) ∧ decode cX6_count 61 = .ok (.ireturn, 1) ∧ decode cX6_count 62 = .ok (.aload_n 0, 1) ∧ decode cX6_count 63 = .ok (.invokestatic 27, 3) := by decide +kernel
theorem dX6_count_0 : decode cX6_count 0 = .ok (.iload_n 1, 1) := DX6_count_c0.1
theorem dX6_count_1 : decode cX6_count 1 = .ok (.tableswitch 96 0 8 #[51, 56, 61, 66, 71, 76, 81, 86, 91], 51) := DX6_count_c0.2.1
theorem dX6_count_52 : decode cX6_count 52 = .ok (.aload_n 0, 1) := DX6_count_c0.2.2.1
theorem dX6_count_53 : decode cX6_count 53 = .ok (.invokevirtual 17, 3) := DX6_count_c0.2.2.2.1
theorem dX6_count_56 : decode cX6_count 56 = .ok (.ireturn, 1) := DX6_count_c0.2.2.2.2.1
theorem dX6_count_57 : decode cX6_count 57 = .ok (.aload_n 0, 1) := DX6_count_c0.2.2.2.2.2.1
theorem dX6_count_58 : decode cX6_count 58 = .ok (.invokestatic 23, 3) := DX6_count_c0.2.2.2.2.2.2.1
theorem dX6_count_61 : decode cX6_count 61 = .ok (.ireturn, 1) := DX6_count_c0.2.2.2.2.2.2.2.1
theorem dX6_count_62 : decode cX6_count 62 = .ok (.aload_n 0, 1) := DX6_count_c0.2.2.2.2.2.2.2.2.1
theorem dX6_count_63 : decode cX6_count 63 = .ok (.invokestatic 27, 3) := DX6_count_c0.2.2.2.2.2.2.2.2.2
set_option maxRecDepth 100000 in
theorem DX6_count_c1 : decode cX6_count 66 = .ok (.ireturn, 1) ∧ decode cX6_count 67 = .ok (.aload_n 0, 1) ∧ decode cX6_count 68 = .ok (.invokestatic 30, 3) ∧ decode cX6_count 71 = .ok (.ireturn, 1) ∧ decode cX6_count 72 = .ok (.aload_n 0, 1) ∧ decode cX6_count 73 = .ok (.invokestatic 33, 3) ∧ decode cX6_count 76 = .ok (.ireturn, 1) ∧ decode cX6_count 77 = .ok (.aload_n 0, 1) ∧ decode cX6_count 78 = .ok (.invokestatic 36, 3) ∧ decode cX6_count 81 = .ok (.ireturn, 1) := by decide +kernel
theorem dX6_count_66 : decode cX6_count 66 = .ok (.ireturn, 1) := DX6_count_c1.1
theorem dX6_count_67 : decode cX6_count 67 = .ok (.aload_n 0, 1) := DX6_count_c1.2.1
theorem dX6_count_68 : decode cX6_count 68 = .ok (.invokestatic 30, 3) := DX6_count_c1.2.2.1
theorem dX6_count_71 : decode cX6_count 71 = .ok (.ireturn, 1) := DX6_count_c1.2.2.2.1
theorem dX6_count_72 : decode cX6_count 72 = .ok (.aload_n 0, 1) := DX6_count_c1.2.2.2.2.1
theorem dX6_count_73 : decode cX6_count 73 = .ok (.invokestatic 33, 3) := DX6_count_c1.2.2.2.2.2.1
theorem dX6_count_76 : decode cX6_count 76 = .ok (.ireturn, 1) := DX6_count_c1.2.2.2.2.2.2.1
theorem dX6_count_77 : decode cX6_count 77 = .ok (.aload_n 0, 1) := DX6_count_c1.2.2.2.2.2.2.2.1
theorem dX6_count_78 : decode cX6_count 78 = .ok (.invokestatic 36, 3) := DX6_count_c1.2.2.2.2.2.2.2.2.1
theorem dX6_count_81 : decode cX6_count 81 = .ok (.ireturn, 1) := DX6_count_c1.2.2.2.2.2.2.2.2.2
set_option maxRecDepth 100000 in
theorem DX6_count_c2 : decode cX6_count 82 = .ok (.aload_n 0, 1) ∧ decode cX6_count 83 = .ok (.invokestatic 39, 3) ∧ decode cX6_count 86 = .ok (.ireturn, 1) ∧ decode cX6_count 87 = .ok (.aload_n 0, 1) ∧ decode cX6_count 88 = .ok (.invokestatic 42, 3) ∧ decode cX6_count 91 = .ok (.ireturn, 1) ∧ decode cX6_count 92 = .ok (.aload_n 0, 1) ∧ decode cX6_count 93 = .ok (.invokestatic 45, 3) ∧ decode cX6_count 96 = .ok (.ireturn, 1) ∧ decode cX6_count 97 = .ok (.iconst 0, 1) := by decide +kernel
theorem dX6_count_82 : decode cX6_count 82 = .ok (.aload_n 0, 1) := DX6_count_c2.1
theorem dX6_count_83 : decode cX6_count 83 = .ok (.invokestatic 39, 3) := DX6_count_c2.2.1
theorem dX6_count_86 : decode cX6_count 86 = .ok (.ireturn, 1) := DX6_count_c2.2.2.1
theorem dX6_count_87 : decode cX6_count 87 = .ok (.aload_n 0, 1) := DX6_count_c2.2.2.2.1
theorem dX6_count_88 : decode cX6_count 88 = .ok (.invokestatic 42, 3) := DX6_count_c2.2.2.2.2.1
theorem dX6_count_91 : decode cX6_count 91 = .ok (.ireturn, 1) := DX6_count_c2.2.2.2.2.2.1
theorem dX6_count_92 : decode cX6_count 92 = .ok (.aload_n 0, 1) := DX6_count_c2.2.2.2.2.2.2.1
theorem dX6_count_93 : decode cX6_count 93 = .ok (.invokestatic 45, 3) := DX6_count_c2.2.2.2.2.2.2.2.1
theorem dX6_count_96 : decode cX6_count 96 = .ok (.ireturn, 1) := DX6_count_c2.2.2.2.2.2.2.2.2.1
theorem dX6_count_97 : decode cX6_count 97 = .ok (.iconst 0, 1) := DX6_count_c2.2.2.2.2.2.2.2.2.2
set_option maxRecDepth 100000 in
theorem DX6_count_c3 : decode cX6_count 98 = .ok (.ireturn, 1) := by decide +kernel
theorem dX6_count_98 : decode cX6_count 98 = .ok (.ireturn, 1) := DX6_count_c3
set_option maxRecDepth 100000 in
theorem DX6_pairs_c0 : decode cX6_pairs 0 = .ok (.iload_n 0, 1) ∧ decode cX6_pairs 1 = .ok (.iload_n 0, 1) ∧ decode cX6_pairs 2 = .ok (.iconst 1, 1) ∧ decode cX6_pairs 3 = .ok (.isub, 1) ∧ decode cX6_pairs 4 = .ok (.imul, 1) ∧ decode cX6_pairs 5 = .ok (.iconst 2, 1) ∧ decode cX6_pairs 6 = .ok (.idiv, 1) ∧ decode cX6_pairs 7 = .ok (.ireturn, 1) := by decide +kernel
theorem dX6_pairs_0 : decode cX6_pairs 0 = .ok (.iload_n 0, 1) := DX6_pairs_c0.1
theorem dX6_pairs_1 : decode cX6_pairs 1 = .ok (.iload_n 0, 1) := DX6_pairs_c0.2.1
theorem dX6_pairs_2 : decode cX6_pairs 2 = .ok (.iconst 1, 1) := DX6_pairs_c0.2.2.1
theorem dX6_pairs_3 : decode cX6_pairs 3 = .ok (.isub, 1) := DX6_pairs_c0.2.2.2.1
theorem dX6_pairs_4 : decode cX6_pairs 4 = .ok (.imul, 1) := DX6_pairs_c0.2.2.2.2.1
theorem dX6_pairs_5 : decode cX6_pairs 5 = .ok (.iconst 2, 1) := DX6_pairs_c0.2.2.2.2.2.1
theorem dX6_pairs_6 : decode cX6_pairs 6 = .ok (.idiv, 1) := DX6_pairs_c0.2.2.2.2.2.2.1
theorem dX6_pairs_7 : decode cX6_pairs 7 = .ok (.ireturn, 1) := DX6_pairs_c0.2.2.2.2.2.2.2
set_option maxRecDepth 100000 in
theorem DX6_common_c0 : decode cX6_common 0 = .ok (.aload_n 0, 1) ∧ decode cX6_common 1 = .ok (.iload_n 1, 1) ∧ decode cX6_common 2 = .ok (.invokevirtual 48, 3) ∧ decode cX6_common 5 = .ok (.aload_n 0, 1) ∧ decode cX6_common 6 = .ok (.iload_n 2, 1) ∧ decode cX6_common 7 = .ok (.invokevirtual 48, 3) ∧ decode cX6_common 10 = .ok (.iand, 1) ∧ decode cX6_common 11 = .ok (.ireturn, 1) := by decide +kernel
theorem dX6_common_0 : decode cX6_common 0 = .ok (.aload_n 0, 1) := DX6_common_c0.1
theorem dX6_common_1 : decode cX6_common 1 = .ok (.iload_n 1, 1) := DX6_common_c0.2.1
theorem dX6_common_2 : decode cX6_common 2 = .ok (.invokevirtual 48, 3) := DX6_common_c0.2.2.1
theorem dX6_common_5 : decode cX6_common 5 = .ok (.aload_n 0, 1) := DX6_common_c0.2.2.2.1
theorem dX6_common_6 : decode cX6_common 6 = .ok (.iload_n 2, 1) := DX6_common_c0.2.2.2.2.1
theorem dX6_common_7 : decode cX6_common 7 = .ok (.invokevirtual 48, 3) := DX6_common_c0.2.2.2.2.2.1
theorem dX6_common_10 : decode cX6_common 10 = .ok (.iand, 1) := DX6_common_c0.2.2.2.2.2.2.1
theorem dX6_common_11 : decode cX6_common 11 = .ok (.ireturn, 1) := DX6_common_c0.2.2.2.2.2.2.2
set_option maxRecDepth 100000 in
theorem DX6_cherries_c0 : decode cX6_cherries 0 = .ok (.iconst 0, 1) ∧ decode cX6_cherries 1 = .ok (.istore_n 1, 1) ∧ decode cX6_cherries 2 = .ok (.iconst 0, 1) ∧ decode cX6_cherries 3 = .ok (.istore_n 2, 1) ∧ decode cX6_cherries 4 = .ok (.iload_n 2, 1) ∧ decode cX6_cherries 5 = .ok (.aload_n 0, 1) ∧ decode cX6_cherries 6 = .ok (.invokevirtual 52, 3) ∧ decode cX6_cherries 9 = .ok (.if_icmp .ge 20, 3) ∧ decode cX6_cherries 12 = .ok (.iload_n 1, 1) ∧ decode cX6_cherries 13 = .ok (.aload_n 0, 1) := by decide +kernel
theorem dX6_cherries_0 : decode cX6_cherries 0 = .ok (.iconst 0, 1) := DX6_cherries_c0.1
theorem dX6_cherries_1 : decode cX6_cherries 1 = .ok (.istore_n 1, 1) := DX6_cherries_c0.2.1
theorem dX6_cherries_2 : decode cX6_cherries 2 = .ok (.iconst 0, 1) := DX6_cherries_c0.2.2.1
theorem dX6_cherries_3 : decode cX6_cherries 3 = .ok (.istore_n 2, 1) := DX6_cherries_c0.2.2.2.1
theorem dX6_cherries_4 : decode cX6_cherries 4 = .ok (.iload_n 2, 1) := DX6_cherries_c0.2.2.2.2.1
theorem dX6_cherries_5 : decode cX6_cherries 5 = .ok (.aload_n 0, 1) := DX6_cherries_c0.2.2.2.2.2.1
theorem dX6_cherries_6 : decode cX6_cherries 6 = .ok (.invokevirtual 52, 3) := DX6_cherries_c0.2.2.2.2.2.2.1
theorem dX6_cherries_9 : decode cX6_cherries 9 = .ok (.if_icmp .ge 20, 3) := DX6_cherries_c0.2.2.2.2.2.2.2.1
theorem dX6_cherries_12 : decode cX6_cherries 12 = .ok (.iload_n 1, 1) := DX6_cherries_c0.2.2.2.2.2.2.2.2.1
theorem dX6_cherries_13 : decode cX6_cherries 13 = .ok (.aload_n 0, 1) := DX6_cherries_c0.2.2.2.2.2.2.2.2.2
set_option maxRecDepth 100000 in
theorem DX6_cherries_c1 : decode cX6_cherries 14 = .ok (.iload_n 2, 1) ∧ decode cX6_cherries 15 = .ok (.invokevirtual 55, 3) ∧ decode cX6_cherries 18 = .ok (.invokestatic 58, 3) ∧ decode cX6_cherries 21 = .ok (.iadd, 1) ∧ decode cX6_cherries 22 = .ok (.istore_n 1, 1) ∧ decode cX6_cherries 23 = .ok (.iinc 2 1, 3) ∧ decode cX6_cherries 26 = .ok (.goto (-22), 3) ∧ decode cX6_cherries 29 = .ok (.iload_n 1, 1) ∧ decode cX6_cherries 30 = .ok (.ireturn, 1) := by decide +kernel
theorem dX6_cherries_14 : decode cX6_cherries 14 = .ok (.iload_n 2, 1) := DX6_cherries_c1.1
theorem dX6_cherries_15 : decode cX6_cherries 15 = .ok (.invokevirtual 55, 3) := DX6_cherries_c1.2.1
theorem dX6_cherries_18 : decode cX6_cherries 18 = .ok (.invokestatic 58, 3) := DX6_cherries_c1.2.2.1
theorem dX6_cherries_21 : decode cX6_cherries 21 = .ok (.iadd, 1) := DX6_cherries_c1.2.2.2.1
theorem dX6_cherries_22 : decode cX6_cherries 22 = .ok (.istore_n 1, 1) := DX6_cherries_c1.2.2.2.2.1
theorem dX6_cherries_23 : decode cX6_cherries 23 = .ok (.iinc 2 1, 3) := DX6_cherries_c1.2.2.2.2.2.1
theorem dX6_cherries_26 : decode cX6_cherries 26 = .ok (.goto (-22), 3) := DX6_cherries_c1.2.2.2.2.2.2.1
theorem dX6_cherries_29 : decode cX6_cherries 29 = .ok (.iload_n 1, 1) := DX6_cherries_c1.2.2.2.2.2.2.2.1
theorem dX6_cherries_30 : decode cX6_cherries 30 = .ok (.ireturn, 1) := DX6_cherries_c1.2.2.2.2.2.2.2.2
set_option maxRecDepth 100000 in
theorem DX6_triangles_c0 : decode cX6_triangles 0 = .ok (.iconst 0, 1) ∧ decode cX6_triangles 1 = .ok (.istore_n 1, 1) ∧ decode cX6_triangles 2 = .ok (.iconst 0, 1) ∧ decode cX6_triangles 3 = .ok (.istore_n 2, 1) ∧ decode cX6_triangles 4 = .ok (.iload_n 2, 1) ∧ decode cX6_triangles 5 = .ok (.aload_n 0, 1) ∧ decode cX6_triangles 6 = .ok (.invokevirtual 52, 3) ∧ decode cX6_triangles 9 = .ok (.if_icmp .ge 21, 3) ∧ decode cX6_triangles 12 = .ok (.iload_n 1, 1) ∧ decode cX6_triangles 13 = .ok (.aload_n 0, 1) := by decide +kernel
theorem dX6_triangles_0 : decode cX6_triangles 0 = .ok (.iconst 0, 1) := DX6_triangles_c0.1
theorem dX6_triangles_1 : decode cX6_triangles 1 = .ok (.istore_n 1, 1) := DX6_triangles_c0.2.1
theorem dX6_triangles_2 : decode cX6_triangles 2 = .ok (.iconst 0, 1) := DX6_triangles_c0.2.2.1
theorem dX6_triangles_3 : decode cX6_triangles 3 = .ok (.istore_n 2, 1) := DX6_triangles_c0.2.2.2.1
theorem dX6_triangles_4 : decode cX6_triangles 4 = .ok (.iload_n 2, 1) := DX6_triangles_c0.2.2.2.2.1
theorem dX6_triangles_5 : decode cX6_triangles 5 = .ok (.aload_n 0, 1) := DX6_triangles_c0.2.2.2.2.2.1
theorem dX6_triangles_6 : decode cX6_triangles 6 = .ok (.invokevirtual 52, 3) := DX6_triangles_c0.2.2.2.2.2.2.1
theorem dX6_triangles_9 : decode cX6_triangles 9 = .ok (.if_icmp .ge 21, 3) := DX6_triangles_c0.2.2.2.2.2.2.2.1
theorem dX6_triangles_12 : decode cX6_triangles 12 = .ok (.iload_n 1, 1) := DX6_triangles_c0.2.2.2.2.2.2.2.2.1
theorem dX6_triangles_13 : decode cX6_triangles 13 = .ok (.aload_n 0, 1) := DX6_triangles_c0.2.2.2.2.2.2.2.2.2
set_option maxRecDepth 100000 in
theorem DX6_triangles_c1 : decode cX6_triangles 14 = .ok (.aload_n 0, 1) ∧ decode cX6_triangles 15 = .ok (.iload_n 2, 1) ∧ decode cX6_triangles 16 = .ok (.invokevirtual 48, 3) ∧ decode cX6_triangles 19 = .ok (.invokevirtual 61, 3) ∧ decode cX6_triangles 22 = .ok (.iadd, 1) ∧ decode cX6_triangles 23 = .ok (.istore_n 1, 1) ∧ decode cX6_triangles 24 = .ok (.iinc 2 1, 3) ∧ decode cX6_triangles 27 = .ok (.goto (-23), 3) ∧ decode cX6_triangles 30 = .ok (.iload_n 1, 1) ∧ decode cX6_triangles 31 = .ok (.iconst 3, 1) := by decide +kernel
theorem dX6_triangles_14 : decode cX6_triangles 14 = .ok (.aload_n 0, 1) := DX6_triangles_c1.1
theorem dX6_triangles_15 : decode cX6_triangles 15 = .ok (.iload_n 2, 1) := DX6_triangles_c1.2.1
theorem dX6_triangles_16 : decode cX6_triangles 16 = .ok (.invokevirtual 48, 3) := DX6_triangles_c1.2.2.1
theorem dX6_triangles_19 : decode cX6_triangles 19 = .ok (.invokevirtual 61, 3) := DX6_triangles_c1.2.2.2.1
theorem dX6_triangles_22 : decode cX6_triangles 22 = .ok (.iadd, 1) := DX6_triangles_c1.2.2.2.2.1
theorem dX6_triangles_23 : decode cX6_triangles 23 = .ok (.istore_n 1, 1) := DX6_triangles_c1.2.2.2.2.2.1
theorem dX6_triangles_24 : decode cX6_triangles 24 = .ok (.iinc 2 1, 3) := DX6_triangles_c1.2.2.2.2.2.2.1
theorem dX6_triangles_27 : decode cX6_triangles 27 = .ok (.goto (-23), 3) := DX6_triangles_c1.2.2.2.2.2.2.2.1
theorem dX6_triangles_30 : decode cX6_triangles 30 = .ok (.iload_n 1, 1) := DX6_triangles_c1.2.2.2.2.2.2.2.2.1
theorem dX6_triangles_31 : decode cX6_triangles 31 = .ok (.iconst 3, 1) := DX6_triangles_c1.2.2.2.2.2.2.2.2.2
set_option maxRecDepth 100000 in
theorem DX6_triangles_c2 : decode cX6_triangles 32 = .ok (.idiv, 1) ∧ decode cX6_triangles 33 = .ok (.ireturn, 1) := by decide +kernel
theorem dX6_triangles_32 : decode cX6_triangles 32 = .ok (.idiv, 1) := DX6_triangles_c2.1
theorem dX6_triangles_33 : decode cX6_triangles 33 = .ok (.ireturn, 1) := DX6_triangles_c2.2
set_option maxRecDepth 100000 in
theorem DX6_claws_c0 : decode cX6_claws 0 = .ok (.iconst 0, 1) ∧ decode cX6_claws 1 = .ok (.istore_n 1, 1) ∧ decode cX6_claws 2 = .ok (.iconst 0, 1) ∧ decode cX6_claws 3 = .ok (.istore_n 2, 1) ∧ decode cX6_claws 4 = .ok (.iload_n 2, 1) ∧ decode cX6_claws 5 = .ok (.aload_n 0, 1) ∧ decode cX6_claws 6 = .ok (.invokevirtual 52, 3) ∧ decode cX6_claws 9 = .ok (.if_icmp .ge 30, 3) ∧ decode cX6_claws 12 = .ok (.iload_n 1, 1) ∧ decode cX6_claws 13 = .ok (.aload_n 0, 1) := by decide +kernel
theorem dX6_claws_0 : decode cX6_claws 0 = .ok (.iconst 0, 1) := DX6_claws_c0.1
theorem dX6_claws_1 : decode cX6_claws 1 = .ok (.istore_n 1, 1) := DX6_claws_c0.2.1
theorem dX6_claws_2 : decode cX6_claws 2 = .ok (.iconst 0, 1) := DX6_claws_c0.2.2.1
theorem dX6_claws_3 : decode cX6_claws 3 = .ok (.istore_n 2, 1) := DX6_claws_c0.2.2.2.1
theorem dX6_claws_4 : decode cX6_claws 4 = .ok (.iload_n 2, 1) := DX6_claws_c0.2.2.2.2.1
theorem dX6_claws_5 : decode cX6_claws 5 = .ok (.aload_n 0, 1) := DX6_claws_c0.2.2.2.2.2.1
theorem dX6_claws_6 : decode cX6_claws 6 = .ok (.invokevirtual 52, 3) := DX6_claws_c0.2.2.2.2.2.2.1
theorem dX6_claws_9 : decode cX6_claws 9 = .ok (.if_icmp .ge 30, 3) := DX6_claws_c0.2.2.2.2.2.2.2.1
theorem dX6_claws_12 : decode cX6_claws 12 = .ok (.iload_n 1, 1) := DX6_claws_c0.2.2.2.2.2.2.2.2.1
theorem dX6_claws_13 : decode cX6_claws 13 = .ok (.aload_n 0, 1) := DX6_claws_c0.2.2.2.2.2.2.2.2.2
set_option maxRecDepth 100000 in
theorem DX6_claws_c1 : decode cX6_claws 14 = .ok (.iload_n 2, 1) ∧ decode cX6_claws 15 = .ok (.invokevirtual 55, 3) ∧ decode cX6_claws 18 = .ok (.invokestatic 58, 3) ∧ decode cX6_claws 21 = .ok (.aload_n 0, 1) ∧ decode cX6_claws 22 = .ok (.iload_n 2, 1) ∧ decode cX6_claws 23 = .ok (.invokevirtual 55, 3) ∧ decode cX6_claws 26 = .ok (.iconst 2, 1) ∧ decode cX6_claws 27 = .ok (.isub, 1) ∧ decode cX6_claws 28 = .ok (.imul, 1) ∧ decode cX6_claws 29 = .ok (.iconst 3, 1) := by decide +kernel
theorem dX6_claws_14 : decode cX6_claws 14 = .ok (.iload_n 2, 1) := DX6_claws_c1.1
theorem dX6_claws_15 : decode cX6_claws 15 = .ok (.invokevirtual 55, 3) := DX6_claws_c1.2.1
theorem dX6_claws_18 : decode cX6_claws 18 = .ok (.invokestatic 58, 3) := DX6_claws_c1.2.2.1
theorem dX6_claws_21 : decode cX6_claws 21 = .ok (.aload_n 0, 1) := DX6_claws_c1.2.2.2.1
theorem dX6_claws_22 : decode cX6_claws 22 = .ok (.iload_n 2, 1) := DX6_claws_c1.2.2.2.2.1
theorem dX6_claws_23 : decode cX6_claws 23 = .ok (.invokevirtual 55, 3) := DX6_claws_c1.2.2.2.2.2.1
theorem dX6_claws_26 : decode cX6_claws 26 = .ok (.iconst 2, 1) := DX6_claws_c1.2.2.2.2.2.2.1
theorem dX6_claws_27 : decode cX6_claws 27 = .ok (.isub, 1) := DX6_claws_c1.2.2.2.2.2.2.2.1
theorem dX6_claws_28 : decode cX6_claws 28 = .ok (.imul, 1) := DX6_claws_c1.2.2.2.2.2.2.2.2.1
theorem dX6_claws_29 : decode cX6_claws 29 = .ok (.iconst 3, 1) := DX6_claws_c1.2.2.2.2.2.2.2.2.2
set_option maxRecDepth 100000 in
theorem DX6_claws_c2 : decode cX6_claws 30 = .ok (.idiv, 1) ∧ decode cX6_claws 31 = .ok (.iadd, 1) ∧ decode cX6_claws 32 = .ok (.istore_n 1, 1) ∧ decode cX6_claws 33 = .ok (.iinc 2 1, 3) ∧ decode cX6_claws 36 = .ok (.goto (-32), 3) ∧ decode cX6_claws 39 = .ok (.iload_n 1, 1) ∧ decode cX6_claws 40 = .ok (.ireturn, 1) := by decide +kernel
theorem dX6_claws_30 : decode cX6_claws 30 = .ok (.idiv, 1) := DX6_claws_c2.1
theorem dX6_claws_31 : decode cX6_claws 31 = .ok (.iadd, 1) := DX6_claws_c2.2.1
theorem dX6_claws_32 : decode cX6_claws 32 = .ok (.istore_n 1, 1) := DX6_claws_c2.2.2.1
theorem dX6_claws_33 : decode cX6_claws 33 = .ok (.iinc 2 1, 3) := DX6_claws_c2.2.2.2.1
theorem dX6_claws_36 : decode cX6_claws 36 = .ok (.goto (-32), 3) := DX6_claws_c2.2.2.2.2.1
theorem dX6_claws_39 : decode cX6_claws 39 = .ok (.iload_n 1, 1) := DX6_claws_c2.2.2.2.2.2.1
theorem dX6_claws_40 : decode cX6_claws 40 = .ok (.ireturn, 1) := DX6_claws_c2.2.2.2.2.2.2
set_option maxRecDepth 100000 in
theorem DX6_longPaths_c0 : decode cX6_longPaths 0 = .ok (.iconst 0, 1) ∧ decode cX6_longPaths 1 = .ok (.istore_n 1, 1) ∧ decode cX6_longPaths 2 = .ok (.iconst 1, 1) ∧ decode cX6_longPaths 3 = .ok (.istore_n 2, 1) ∧ decode cX6_longPaths 4 = .ok (.iload_n 2, 1) ∧ decode cX6_longPaths 5 = .ok (.aload_n 0, 1) ∧ decode cX6_longPaths 6 = .ok (.invokevirtual 52, 3) ∧ decode cX6_longPaths 9 = .ok (.if_icmp .ge 47, 3) ∧ decode cX6_longPaths 12 = .ok (.iconst 0, 1) ∧ decode cX6_longPaths 13 = .ok (.istore_n 3, 1) := by decide +kernel
theorem dX6_longPaths_0 : decode cX6_longPaths 0 = .ok (.iconst 0, 1) := DX6_longPaths_c0.1
theorem dX6_longPaths_1 : decode cX6_longPaths 1 = .ok (.istore_n 1, 1) := DX6_longPaths_c0.2.1
theorem dX6_longPaths_2 : decode cX6_longPaths 2 = .ok (.iconst 1, 1) := DX6_longPaths_c0.2.2.1
theorem dX6_longPaths_3 : decode cX6_longPaths 3 = .ok (.istore_n 2, 1) := DX6_longPaths_c0.2.2.2.1
theorem dX6_longPaths_4 : decode cX6_longPaths 4 = .ok (.iload_n 2, 1) := DX6_longPaths_c0.2.2.2.2.1
theorem dX6_longPaths_5 : decode cX6_longPaths 5 = .ok (.aload_n 0, 1) := DX6_longPaths_c0.2.2.2.2.2.1
theorem dX6_longPaths_6 : decode cX6_longPaths 6 = .ok (.invokevirtual 52, 3) := DX6_longPaths_c0.2.2.2.2.2.2.1
theorem dX6_longPaths_9 : decode cX6_longPaths 9 = .ok (.if_icmp .ge 47, 3) := DX6_longPaths_c0.2.2.2.2.2.2.2.1
theorem dX6_longPaths_12 : decode cX6_longPaths 12 = .ok (.iconst 0, 1) := DX6_longPaths_c0.2.2.2.2.2.2.2.2.1
theorem dX6_longPaths_13 : decode cX6_longPaths 13 = .ok (.istore_n 3, 1) := DX6_longPaths_c0.2.2.2.2.2.2.2.2.2
set_option maxRecDepth 100000 in
theorem DX6_longPaths_c1 : decode cX6_longPaths 14 = .ok (.iload_n 3, 1) ∧ decode cX6_longPaths 15 = .ok (.iload_n 2, 1) ∧ decode cX6_longPaths 16 = .ok (.if_icmp .ge 34, 3) ∧ decode cX6_longPaths 19 = .ok (.iload_n 1, 1) ∧ decode cX6_longPaths 20 = .ok (.aload_n 0, 1) ∧ decode cX6_longPaths 21 = .ok (.iload_n 3, 1) ∧ decode cX6_longPaths 22 = .ok (.iload_n 2, 1) ∧ decode cX6_longPaths 23 = .ok (.invokevirtual 64, 3) ∧ decode cX6_longPaths 26 = .ok (.aload_n 0, 1) ∧ decode cX6_longPaths 27 = .ok (.iload_n 3, 1) := by decide +kernel
theorem dX6_longPaths_14 : decode cX6_longPaths 14 = .ok (.iload_n 3, 1) := DX6_longPaths_c1.1
theorem dX6_longPaths_15 : decode cX6_longPaths 15 = .ok (.iload_n 2, 1) := DX6_longPaths_c1.2.1
theorem dX6_longPaths_16 : decode cX6_longPaths 16 = .ok (.if_icmp .ge 34, 3) := DX6_longPaths_c1.2.2.1
theorem dX6_longPaths_19 : decode cX6_longPaths 19 = .ok (.iload_n 1, 1) := DX6_longPaths_c1.2.2.2.1
theorem dX6_longPaths_20 : decode cX6_longPaths 20 = .ok (.aload_n 0, 1) := DX6_longPaths_c1.2.2.2.2.1
theorem dX6_longPaths_21 : decode cX6_longPaths 21 = .ok (.iload_n 3, 1) := DX6_longPaths_c1.2.2.2.2.2.1
theorem dX6_longPaths_22 : decode cX6_longPaths 22 = .ok (.iload_n 2, 1) := DX6_longPaths_c1.2.2.2.2.2.2.1
theorem dX6_longPaths_23 : decode cX6_longPaths 23 = .ok (.invokevirtual 64, 3) := DX6_longPaths_c1.2.2.2.2.2.2.2.1
theorem dX6_longPaths_26 : decode cX6_longPaths 26 = .ok (.aload_n 0, 1) := DX6_longPaths_c1.2.2.2.2.2.2.2.2.1
theorem dX6_longPaths_27 : decode cX6_longPaths 27 = .ok (.iload_n 3, 1) := DX6_longPaths_c1.2.2.2.2.2.2.2.2.2
set_option maxRecDepth 100000 in
theorem DX6_longPaths_c2 : decode cX6_longPaths 28 = .ok (.invokevirtual 55, 3) ∧ decode cX6_longPaths 31 = .ok (.iconst 1, 1) ∧ decode cX6_longPaths 32 = .ok (.isub, 1) ∧ decode cX6_longPaths 33 = .ok (.imul, 1) ∧ decode cX6_longPaths 34 = .ok (.aload_n 0, 1) ∧ decode cX6_longPaths 35 = .ok (.iload_n 2, 1) ∧ decode cX6_longPaths 36 = .ok (.invokevirtual 55, 3) ∧ decode cX6_longPaths 39 = .ok (.iconst 1, 1) ∧ decode cX6_longPaths 40 = .ok (.isub, 1) ∧ decode cX6_longPaths 41 = .ok (.imul, 1) := by decide +kernel
theorem dX6_longPaths_28 : decode cX6_longPaths 28 = .ok (.invokevirtual 55, 3) := DX6_longPaths_c2.1
theorem dX6_longPaths_31 : decode cX6_longPaths 31 = .ok (.iconst 1, 1) := DX6_longPaths_c2.2.1
theorem dX6_longPaths_32 : decode cX6_longPaths 32 = .ok (.isub, 1) := DX6_longPaths_c2.2.2.1
theorem dX6_longPaths_33 : decode cX6_longPaths 33 = .ok (.imul, 1) := DX6_longPaths_c2.2.2.2.1
theorem dX6_longPaths_34 : decode cX6_longPaths 34 = .ok (.aload_n 0, 1) := DX6_longPaths_c2.2.2.2.2.1
theorem dX6_longPaths_35 : decode cX6_longPaths 35 = .ok (.iload_n 2, 1) := DX6_longPaths_c2.2.2.2.2.2.1
theorem dX6_longPaths_36 : decode cX6_longPaths 36 = .ok (.invokevirtual 55, 3) := DX6_longPaths_c2.2.2.2.2.2.2.1
theorem dX6_longPaths_39 : decode cX6_longPaths 39 = .ok (.iconst 1, 1) := DX6_longPaths_c2.2.2.2.2.2.2.2.1
theorem dX6_longPaths_40 : decode cX6_longPaths 40 = .ok (.isub, 1) := DX6_longPaths_c2.2.2.2.2.2.2.2.2.1
theorem dX6_longPaths_41 : decode cX6_longPaths 41 = .ok (.imul, 1) := DX6_longPaths_c2.2.2.2.2.2.2.2.2.2
set_option maxRecDepth 100000 in
theorem DX6_longPaths_c3 : decode cX6_longPaths 42 = .ok (.iadd, 1) ∧ decode cX6_longPaths 43 = .ok (.istore_n 1, 1) ∧ decode cX6_longPaths 44 = .ok (.iinc 3 1, 3) ∧ decode cX6_longPaths 47 = .ok (.goto (-33), 3) ∧ decode cX6_longPaths 50 = .ok (.iinc 2 1, 3) ∧ decode cX6_longPaths 53 = .ok (.goto (-49), 3) ∧ decode cX6_longPaths 56 = .ok (.iload_n 1, 1) ∧ decode cX6_longPaths 57 = .ok (.iconst 3, 1) ∧ decode cX6_longPaths 58 = .ok (.aload_n 0, 1) ∧ decode cX6_longPaths 59 = .ok (.invokestatic 27, 3) := by decide +kernel
theorem dX6_longPaths_42 : decode cX6_longPaths 42 = .ok (.iadd, 1) := DX6_longPaths_c3.1
theorem dX6_longPaths_43 : decode cX6_longPaths 43 = .ok (.istore_n 1, 1) := DX6_longPaths_c3.2.1
theorem dX6_longPaths_44 : decode cX6_longPaths 44 = .ok (.iinc 3 1, 3) := DX6_longPaths_c3.2.2.1
theorem dX6_longPaths_47 : decode cX6_longPaths 47 = .ok (.goto (-33), 3) := DX6_longPaths_c3.2.2.2.1
theorem dX6_longPaths_50 : decode cX6_longPaths 50 = .ok (.iinc 2 1, 3) := DX6_longPaths_c3.2.2.2.2.1
theorem dX6_longPaths_53 : decode cX6_longPaths 53 = .ok (.goto (-49), 3) := DX6_longPaths_c3.2.2.2.2.2.1
theorem dX6_longPaths_56 : decode cX6_longPaths 56 = .ok (.iload_n 1, 1) := DX6_longPaths_c3.2.2.2.2.2.2.1
theorem dX6_longPaths_57 : decode cX6_longPaths 57 = .ok (.iconst 3, 1) := DX6_longPaths_c3.2.2.2.2.2.2.2.1
theorem dX6_longPaths_58 : decode cX6_longPaths 58 = .ok (.aload_n 0, 1) := DX6_longPaths_c3.2.2.2.2.2.2.2.2.1
theorem dX6_longPaths_59 : decode cX6_longPaths 59 = .ok (.invokestatic 27, 3) := DX6_longPaths_c3.2.2.2.2.2.2.2.2.2
set_option maxRecDepth 100000 in
theorem DX6_longPaths_c4 : decode cX6_longPaths 62 = .ok (.imul, 1) ∧ decode cX6_longPaths 63 = .ok (.isub, 1) ∧ decode cX6_longPaths 64 = .ok (.ireturn, 1) := by decide +kernel
theorem dX6_longPaths_62 : decode cX6_longPaths 62 = .ok (.imul, 1) := DX6_longPaths_c4.1
theorem dX6_longPaths_63 : decode cX6_longPaths 63 = .ok (.isub, 1) := DX6_longPaths_c4.2.1
theorem dX6_longPaths_64 : decode cX6_longPaths 64 = .ok (.ireturn, 1) := DX6_longPaths_c4.2.2
set_option maxRecDepth 100000 in
theorem DX6_squares_c0 : decode cX6_squares 0 = .ok (.iconst 0, 1) ∧ decode cX6_squares 1 = .ok (.istore_n 1, 1) ∧ decode cX6_squares 2 = .ok (.iconst 1, 1) ∧ decode cX6_squares 3 = .ok (.istore_n 2, 1) ∧ decode cX6_squares 4 = .ok (.iload_n 2, 1) ∧ decode cX6_squares 5 = .ok (.aload_n 0, 1) ∧ decode cX6_squares 6 = .ok (.invokevirtual 52, 3) ∧ decode cX6_squares 9 = .ok (.if_icmp .ge 37, 3) ∧ decode cX6_squares 12 = .ok (.iconst 0, 1) ∧ decode cX6_squares 13 = .ok (.istore_n 3, 1) := by decide +kernel
theorem dX6_squares_0 : decode cX6_squares 0 = .ok (.iconst 0, 1) := DX6_squares_c0.1
theorem dX6_squares_1 : decode cX6_squares 1 = .ok (.istore_n 1, 1) := DX6_squares_c0.2.1
theorem dX6_squares_2 : decode cX6_squares 2 = .ok (.iconst 1, 1) := DX6_squares_c0.2.2.1
theorem dX6_squares_3 : decode cX6_squares 3 = .ok (.istore_n 2, 1) := DX6_squares_c0.2.2.2.1
theorem dX6_squares_4 : decode cX6_squares 4 = .ok (.iload_n 2, 1) := DX6_squares_c0.2.2.2.2.1
theorem dX6_squares_5 : decode cX6_squares 5 = .ok (.aload_n 0, 1) := DX6_squares_c0.2.2.2.2.2.1
theorem dX6_squares_6 : decode cX6_squares 6 = .ok (.invokevirtual 52, 3) := DX6_squares_c0.2.2.2.2.2.2.1
theorem dX6_squares_9 : decode cX6_squares 9 = .ok (.if_icmp .ge 37, 3) := DX6_squares_c0.2.2.2.2.2.2.2.1
theorem dX6_squares_12 : decode cX6_squares 12 = .ok (.iconst 0, 1) := DX6_squares_c0.2.2.2.2.2.2.2.2.1
theorem dX6_squares_13 : decode cX6_squares 13 = .ok (.istore_n 3, 1) := DX6_squares_c0.2.2.2.2.2.2.2.2.2
set_option maxRecDepth 100000 in
theorem DX6_squares_c1 : decode cX6_squares 14 = .ok (.iload_n 3, 1) ∧ decode cX6_squares 15 = .ok (.iload_n 2, 1) ∧ decode cX6_squares 16 = .ok (.if_icmp .ge 24, 3) ∧ decode cX6_squares 19 = .ok (.iload_n 1, 1) ∧ decode cX6_squares 20 = .ok (.aload_n 0, 1) ∧ decode cX6_squares 21 = .ok (.iload_n 3, 1) ∧ decode cX6_squares 22 = .ok (.iload_n 2, 1) ∧ decode cX6_squares 23 = .ok (.invokestatic 68, 3) ∧ decode cX6_squares 26 = .ok (.invokestatic 72, 3) ∧ decode cX6_squares 29 = .ok (.invokestatic 58, 3) := by decide +kernel
theorem dX6_squares_14 : decode cX6_squares 14 = .ok (.iload_n 3, 1) := DX6_squares_c1.1
theorem dX6_squares_15 : decode cX6_squares 15 = .ok (.iload_n 2, 1) := DX6_squares_c1.2.1
theorem dX6_squares_16 : decode cX6_squares 16 = .ok (.if_icmp .ge 24, 3) := DX6_squares_c1.2.2.1
theorem dX6_squares_19 : decode cX6_squares 19 = .ok (.iload_n 1, 1) := DX6_squares_c1.2.2.2.1
theorem dX6_squares_20 : decode cX6_squares 20 = .ok (.aload_n 0, 1) := DX6_squares_c1.2.2.2.2.1
theorem dX6_squares_21 : decode cX6_squares 21 = .ok (.iload_n 3, 1) := DX6_squares_c1.2.2.2.2.2.1
theorem dX6_squares_22 : decode cX6_squares 22 = .ok (.iload_n 2, 1) := DX6_squares_c1.2.2.2.2.2.2.1
theorem dX6_squares_23 : decode cX6_squares 23 = .ok (.invokestatic 68, 3) := DX6_squares_c1.2.2.2.2.2.2.2.1
theorem dX6_squares_26 : decode cX6_squares 26 = .ok (.invokestatic 72, 3) := DX6_squares_c1.2.2.2.2.2.2.2.2.1
theorem dX6_squares_29 : decode cX6_squares 29 = .ok (.invokestatic 58, 3) := DX6_squares_c1.2.2.2.2.2.2.2.2.2
set_option maxRecDepth 100000 in
theorem DX6_squares_c2 : decode cX6_squares 32 = .ok (.iadd, 1) ∧ decode cX6_squares 33 = .ok (.istore_n 1, 1) ∧ decode cX6_squares 34 = .ok (.iinc 3 1, 3) ∧ decode cX6_squares 37 = .ok (.goto (-23), 3) ∧ decode cX6_squares 40 = .ok (.iinc 2 1, 3) ∧ decode cX6_squares 43 = .ok (.goto (-39), 3) ∧ decode cX6_squares 46 = .ok (.iload_n 1, 1) ∧ decode cX6_squares 47 = .ok (.iconst 2, 1) ∧ decode cX6_squares 48 = .ok (.idiv, 1) ∧ decode cX6_squares 49 = .ok (.ireturn, 1) := by decide +kernel
theorem dX6_squares_32 : decode cX6_squares 32 = .ok (.iadd, 1) := DX6_squares_c2.1
theorem dX6_squares_33 : decode cX6_squares 33 = .ok (.istore_n 1, 1) := DX6_squares_c2.2.1
theorem dX6_squares_34 : decode cX6_squares 34 = .ok (.iinc 3 1, 3) := DX6_squares_c2.2.2.1
theorem dX6_squares_37 : decode cX6_squares 37 = .ok (.goto (-23), 3) := DX6_squares_c2.2.2.2.1
theorem dX6_squares_40 : decode cX6_squares 40 = .ok (.iinc 2 1, 3) := DX6_squares_c2.2.2.2.2.1
theorem dX6_squares_43 : decode cX6_squares 43 = .ok (.goto (-39), 3) := DX6_squares_c2.2.2.2.2.2.1
theorem dX6_squares_46 : decode cX6_squares 46 = .ok (.iload_n 1, 1) := DX6_squares_c2.2.2.2.2.2.2.1
theorem dX6_squares_47 : decode cX6_squares 47 = .ok (.iconst 2, 1) := DX6_squares_c2.2.2.2.2.2.2.2.1
theorem dX6_squares_48 : decode cX6_squares 48 = .ok (.idiv, 1) := DX6_squares_c2.2.2.2.2.2.2.2.2.1
theorem dX6_squares_49 : decode cX6_squares 49 = .ok (.ireturn, 1) := DX6_squares_c2.2.2.2.2.2.2.2.2.2
set_option maxRecDepth 100000 in
theorem DX6_paws_c0 : decode cX6_paws 0 = .ok (.iconst 0, 1) ∧ decode cX6_paws 1 = .ok (.istore_n 1, 1) ∧ decode cX6_paws 2 = .ok (.iconst 0, 1) ∧ decode cX6_paws 3 = .ok (.istore_n 2, 1) ∧ decode cX6_paws 4 = .ok (.iload_n 2, 1) ∧ decode cX6_paws 5 = .ok (.aload_n 0, 1) ∧ decode cX6_paws 6 = .ok (.invokevirtual 52, 3) ∧ decode cX6_paws 9 = .ok (.if_icmp .ge 29, 3) ∧ decode cX6_paws 12 = .ok (.iload_n 1, 1) ∧ decode cX6_paws 13 = .ok (.aload_n 0, 1) := by decide +kernel
theorem dX6_paws_0 : decode cX6_paws 0 = .ok (.iconst 0, 1) := DX6_paws_c0.1
theorem dX6_paws_1 : decode cX6_paws 1 = .ok (.istore_n 1, 1) := DX6_paws_c0.2.1
theorem dX6_paws_2 : decode cX6_paws 2 = .ok (.iconst 0, 1) := DX6_paws_c0.2.2.1
theorem dX6_paws_3 : decode cX6_paws 3 = .ok (.istore_n 2, 1) := DX6_paws_c0.2.2.2.1
theorem dX6_paws_4 : decode cX6_paws 4 = .ok (.iload_n 2, 1) := DX6_paws_c0.2.2.2.2.1
theorem dX6_paws_5 : decode cX6_paws 5 = .ok (.aload_n 0, 1) := DX6_paws_c0.2.2.2.2.2.1
theorem dX6_paws_6 : decode cX6_paws 6 = .ok (.invokevirtual 52, 3) := DX6_paws_c0.2.2.2.2.2.2.1
theorem dX6_paws_9 : decode cX6_paws 9 = .ok (.if_icmp .ge 29, 3) := DX6_paws_c0.2.2.2.2.2.2.2.1
theorem dX6_paws_12 : decode cX6_paws 12 = .ok (.iload_n 1, 1) := DX6_paws_c0.2.2.2.2.2.2.2.2.1
theorem dX6_paws_13 : decode cX6_paws 13 = .ok (.aload_n 0, 1) := DX6_paws_c0.2.2.2.2.2.2.2.2.2
set_option maxRecDepth 100000 in
theorem DX6_paws_c1 : decode cX6_paws 14 = .ok (.aload_n 0, 1) ∧ decode cX6_paws 15 = .ok (.iload_n 2, 1) ∧ decode cX6_paws 16 = .ok (.invokevirtual 48, 3) ∧ decode cX6_paws 19 = .ok (.invokevirtual 61, 3) ∧ decode cX6_paws 22 = .ok (.aload_n 0, 1) ∧ decode cX6_paws 23 = .ok (.iload_n 2, 1) ∧ decode cX6_paws 24 = .ok (.invokevirtual 55, 3) ∧ decode cX6_paws 27 = .ok (.iconst 2, 1) ∧ decode cX6_paws 28 = .ok (.isub, 1) ∧ decode cX6_paws 29 = .ok (.imul, 1) := by decide +kernel
theorem dX6_paws_14 : decode cX6_paws 14 = .ok (.aload_n 0, 1) := DX6_paws_c1.1
theorem dX6_paws_15 : decode cX6_paws 15 = .ok (.iload_n 2, 1) := DX6_paws_c1.2.1
theorem dX6_paws_16 : decode cX6_paws 16 = .ok (.invokevirtual 48, 3) := DX6_paws_c1.2.2.1
theorem dX6_paws_19 : decode cX6_paws 19 = .ok (.invokevirtual 61, 3) := DX6_paws_c1.2.2.2.1
theorem dX6_paws_22 : decode cX6_paws 22 = .ok (.aload_n 0, 1) := DX6_paws_c1.2.2.2.2.1
theorem dX6_paws_23 : decode cX6_paws 23 = .ok (.iload_n 2, 1) := DX6_paws_c1.2.2.2.2.2.1
theorem dX6_paws_24 : decode cX6_paws 24 = .ok (.invokevirtual 55, 3) := DX6_paws_c1.2.2.2.2.2.2.1
theorem dX6_paws_27 : decode cX6_paws 27 = .ok (.iconst 2, 1) := DX6_paws_c1.2.2.2.2.2.2.2.1
theorem dX6_paws_28 : decode cX6_paws 28 = .ok (.isub, 1) := DX6_paws_c1.2.2.2.2.2.2.2.2.1
theorem dX6_paws_29 : decode cX6_paws 29 = .ok (.imul, 1) := DX6_paws_c1.2.2.2.2.2.2.2.2.2
set_option maxRecDepth 100000 in
theorem DX6_paws_c2 : decode cX6_paws 30 = .ok (.iadd, 1) ∧ decode cX6_paws 31 = .ok (.istore_n 1, 1) ∧ decode cX6_paws 32 = .ok (.iinc 2 1, 3) ∧ decode cX6_paws 35 = .ok (.goto (-31), 3) ∧ decode cX6_paws 38 = .ok (.iload_n 1, 1) ∧ decode cX6_paws 39 = .ok (.ireturn, 1) := by decide +kernel
theorem dX6_paws_30 : decode cX6_paws 30 = .ok (.iadd, 1) := DX6_paws_c2.1
theorem dX6_paws_31 : decode cX6_paws 31 = .ok (.istore_n 1, 1) := DX6_paws_c2.2.1
theorem dX6_paws_32 : decode cX6_paws 32 = .ok (.iinc 2 1, 3) := DX6_paws_c2.2.2.1
theorem dX6_paws_35 : decode cX6_paws 35 = .ok (.goto (-31), 3) := DX6_paws_c2.2.2.2.1
theorem dX6_paws_38 : decode cX6_paws 38 = .ok (.iload_n 1, 1) := DX6_paws_c2.2.2.2.2.1
theorem dX6_paws_39 : decode cX6_paws 39 = .ok (.ireturn, 1) := DX6_paws_c2.2.2.2.2.2
set_option maxRecDepth 100000 in
theorem DX6_diamonds_c0 : decode cX6_diamonds 0 = .ok (.iconst 0, 1) ∧ decode cX6_diamonds 1 = .ok (.istore_n 1, 1) ∧ decode cX6_diamonds 2 = .ok (.iconst 1, 1) ∧ decode cX6_diamonds 3 = .ok (.istore_n 2, 1) ∧ decode cX6_diamonds 4 = .ok (.iload_n 2, 1) ∧ decode cX6_diamonds 5 = .ok (.aload_n 0, 1) ∧ decode cX6_diamonds 6 = .ok (.invokevirtual 52, 3) ∧ decode cX6_diamonds 9 = .ok (.if_icmp .ge 44, 3) ∧ decode cX6_diamonds 12 = .ok (.iconst 0, 1) ∧ decode cX6_diamonds 13 = .ok (.istore_n 3, 1) := by decide +kernel
theorem dX6_diamonds_0 : decode cX6_diamonds 0 = .ok (.iconst 0, 1) := DX6_diamonds_c0.1
theorem dX6_diamonds_1 : decode cX6_diamonds 1 = .ok (.istore_n 1, 1) := DX6_diamonds_c0.2.1
theorem dX6_diamonds_2 : decode cX6_diamonds 2 = .ok (.iconst 1, 1) := DX6_diamonds_c0.2.2.1
theorem dX6_diamonds_3 : decode cX6_diamonds 3 = .ok (.istore_n 2, 1) := DX6_diamonds_c0.2.2.2.1
theorem dX6_diamonds_4 : decode cX6_diamonds 4 = .ok (.iload_n 2, 1) := DX6_diamonds_c0.2.2.2.2.1
theorem dX6_diamonds_5 : decode cX6_diamonds 5 = .ok (.aload_n 0, 1) := DX6_diamonds_c0.2.2.2.2.2.1
theorem dX6_diamonds_6 : decode cX6_diamonds 6 = .ok (.invokevirtual 52, 3) := DX6_diamonds_c0.2.2.2.2.2.2.1
theorem dX6_diamonds_9 : decode cX6_diamonds 9 = .ok (.if_icmp .ge 44, 3) := DX6_diamonds_c0.2.2.2.2.2.2.2.1
theorem dX6_diamonds_12 : decode cX6_diamonds 12 = .ok (.iconst 0, 1) := DX6_diamonds_c0.2.2.2.2.2.2.2.2.1
theorem dX6_diamonds_13 : decode cX6_diamonds 13 = .ok (.istore_n 3, 1) := DX6_diamonds_c0.2.2.2.2.2.2.2.2.2
set_option maxRecDepth 100000 in
theorem DX6_diamonds_c1 : decode cX6_diamonds 14 = .ok (.iload_n 3, 1) ∧ decode cX6_diamonds 15 = .ok (.iload_n 2, 1) ∧ decode cX6_diamonds 16 = .ok (.if_icmp .ge 31, 3) ∧ decode cX6_diamonds 19 = .ok (.iload_n 1, 1) ∧ decode cX6_diamonds 20 = .ok (.aload_n 0, 1) ∧ decode cX6_diamonds 21 = .ok (.iload_n 3, 1) ∧ decode cX6_diamonds 22 = .ok (.iload_n 2, 1) ∧ decode cX6_diamonds 23 = .ok (.invokevirtual 64, 3) ∧ decode cX6_diamonds 26 = .ok (.aload_n 0, 1) ∧ decode cX6_diamonds 27 = .ok (.iload_n 3, 1) := by decide +kernel
theorem dX6_diamonds_14 : decode cX6_diamonds 14 = .ok (.iload_n 3, 1) := DX6_diamonds_c1.1
theorem dX6_diamonds_15 : decode cX6_diamonds 15 = .ok (.iload_n 2, 1) := DX6_diamonds_c1.2.1
theorem dX6_diamonds_16 : decode cX6_diamonds 16 = .ok (.if_icmp .ge 31, 3) := DX6_diamonds_c1.2.2.1
theorem dX6_diamonds_19 : decode cX6_diamonds 19 = .ok (.iload_n 1, 1) := DX6_diamonds_c1.2.2.2.1
theorem dX6_diamonds_20 : decode cX6_diamonds 20 = .ok (.aload_n 0, 1) := DX6_diamonds_c1.2.2.2.2.1
theorem dX6_diamonds_21 : decode cX6_diamonds 21 = .ok (.iload_n 3, 1) := DX6_diamonds_c1.2.2.2.2.2.1
theorem dX6_diamonds_22 : decode cX6_diamonds 22 = .ok (.iload_n 2, 1) := DX6_diamonds_c1.2.2.2.2.2.2.1
theorem dX6_diamonds_23 : decode cX6_diamonds 23 = .ok (.invokevirtual 64, 3) := DX6_diamonds_c1.2.2.2.2.2.2.2.1
theorem dX6_diamonds_26 : decode cX6_diamonds 26 = .ok (.aload_n 0, 1) := DX6_diamonds_c1.2.2.2.2.2.2.2.2.1
theorem dX6_diamonds_27 : decode cX6_diamonds 27 = .ok (.iload_n 3, 1) := DX6_diamonds_c1.2.2.2.2.2.2.2.2.2
set_option maxRecDepth 100000 in
theorem DX6_diamonds_c2 : decode cX6_diamonds 28 = .ok (.iload_n 2, 1) ∧ decode cX6_diamonds 29 = .ok (.invokestatic 68, 3) ∧ decode cX6_diamonds 32 = .ok (.invokestatic 72, 3) ∧ decode cX6_diamonds 35 = .ok (.invokestatic 58, 3) ∧ decode cX6_diamonds 38 = .ok (.imul, 1) ∧ decode cX6_diamonds 39 = .ok (.iadd, 1) ∧ decode cX6_diamonds 40 = .ok (.istore_n 1, 1) ∧ decode cX6_diamonds 41 = .ok (.iinc 3 1, 3) ∧ decode cX6_diamonds 44 = .ok (.goto (-30), 3) ∧ decode cX6_diamonds 47 = .ok (.iinc 2 1, 3) := by decide +kernel
theorem dX6_diamonds_28 : decode cX6_diamonds 28 = .ok (.iload_n 2, 1) := DX6_diamonds_c2.1
theorem dX6_diamonds_29 : decode cX6_diamonds 29 = .ok (.invokestatic 68, 3) := DX6_diamonds_c2.2.1
theorem dX6_diamonds_32 : decode cX6_diamonds 32 = .ok (.invokestatic 72, 3) := DX6_diamonds_c2.2.2.1
theorem dX6_diamonds_35 : decode cX6_diamonds 35 = .ok (.invokestatic 58, 3) := DX6_diamonds_c2.2.2.2.1
theorem dX6_diamonds_38 : decode cX6_diamonds 38 = .ok (.imul, 1) := DX6_diamonds_c2.2.2.2.2.1
theorem dX6_diamonds_39 : decode cX6_diamonds 39 = .ok (.iadd, 1) := DX6_diamonds_c2.2.2.2.2.2.1
theorem dX6_diamonds_40 : decode cX6_diamonds 40 = .ok (.istore_n 1, 1) := DX6_diamonds_c2.2.2.2.2.2.2.1
theorem dX6_diamonds_41 : decode cX6_diamonds 41 = .ok (.iinc 3 1, 3) := DX6_diamonds_c2.2.2.2.2.2.2.2.1
theorem dX6_diamonds_44 : decode cX6_diamonds 44 = .ok (.goto (-30), 3) := DX6_diamonds_c2.2.2.2.2.2.2.2.2.1
theorem dX6_diamonds_47 : decode cX6_diamonds 47 = .ok (.iinc 2 1, 3) := DX6_diamonds_c2.2.2.2.2.2.2.2.2.2
set_option maxRecDepth 100000 in
theorem DX6_diamonds_c3 : decode cX6_diamonds 50 = .ok (.goto (-46), 3) ∧ decode cX6_diamonds 53 = .ok (.iload_n 1, 1) ∧ decode cX6_diamonds 54 = .ok (.ireturn, 1) := by decide +kernel
theorem dX6_diamonds_50 : decode cX6_diamonds 50 = .ok (.goto (-46), 3) := DX6_diamonds_c3.1
theorem dX6_diamonds_53 : decode cX6_diamonds 53 = .ok (.iload_n 1, 1) := DX6_diamonds_c3.2.1
theorem dX6_diamonds_54 : decode cX6_diamonds 54 = .ok (.ireturn, 1) := DX6_diamonds_c3.2.2
set_option maxRecDepth 100000 in
theorem DX6_tetrahedra_c0 : decode cX6_tetrahedra 0 = .ok (.iconst 0, 1) ∧ decode cX6_tetrahedra 1 = .ok (.istore_n 1, 1) ∧ decode cX6_tetrahedra 2 = .ok (.iconst 1, 1) ∧ decode cX6_tetrahedra 3 = .ok (.istore_n 2, 1) ∧ decode cX6_tetrahedra 4 = .ok (.iload_n 2, 1) ∧ decode cX6_tetrahedra 5 = .ok (.aload_n 0, 1) ∧ decode cX6_tetrahedra 6 = .ok (.invokevirtual 52, 3) ∧ decode cX6_tetrahedra 9 = .ok (.if_icmp .ge 42, 3) ∧ decode cX6_tetrahedra 12 = .ok (.iconst 0, 1) ∧ decode cX6_tetrahedra 13 = .ok (.istore_n 3, 1) := by decide +kernel
theorem dX6_tetrahedra_0 : decode cX6_tetrahedra 0 = .ok (.iconst 0, 1) := DX6_tetrahedra_c0.1
theorem dX6_tetrahedra_1 : decode cX6_tetrahedra 1 = .ok (.istore_n 1, 1) := DX6_tetrahedra_c0.2.1
theorem dX6_tetrahedra_2 : decode cX6_tetrahedra 2 = .ok (.iconst 1, 1) := DX6_tetrahedra_c0.2.2.1
theorem dX6_tetrahedra_3 : decode cX6_tetrahedra 3 = .ok (.istore_n 2, 1) := DX6_tetrahedra_c0.2.2.2.1
theorem dX6_tetrahedra_4 : decode cX6_tetrahedra 4 = .ok (.iload_n 2, 1) := DX6_tetrahedra_c0.2.2.2.2.1
theorem dX6_tetrahedra_5 : decode cX6_tetrahedra 5 = .ok (.aload_n 0, 1) := DX6_tetrahedra_c0.2.2.2.2.2.1
theorem dX6_tetrahedra_6 : decode cX6_tetrahedra 6 = .ok (.invokevirtual 52, 3) := DX6_tetrahedra_c0.2.2.2.2.2.2.1
theorem dX6_tetrahedra_9 : decode cX6_tetrahedra 9 = .ok (.if_icmp .ge 42, 3) := DX6_tetrahedra_c0.2.2.2.2.2.2.2.1
theorem dX6_tetrahedra_12 : decode cX6_tetrahedra 12 = .ok (.iconst 0, 1) := DX6_tetrahedra_c0.2.2.2.2.2.2.2.2.1
theorem dX6_tetrahedra_13 : decode cX6_tetrahedra 13 = .ok (.istore_n 3, 1) := DX6_tetrahedra_c0.2.2.2.2.2.2.2.2.2
set_option maxRecDepth 100000 in
theorem DX6_tetrahedra_c1 : decode cX6_tetrahedra 14 = .ok (.iload_n 3, 1) ∧ decode cX6_tetrahedra 15 = .ok (.iload_n 2, 1) ∧ decode cX6_tetrahedra 16 = .ok (.if_icmp .ge 29, 3) ∧ decode cX6_tetrahedra 19 = .ok (.iload_n 1, 1) ∧ decode cX6_tetrahedra 20 = .ok (.aload_n 0, 1) ∧ decode cX6_tetrahedra 21 = .ok (.iload_n 3, 1) ∧ decode cX6_tetrahedra 22 = .ok (.iload_n 2, 1) ∧ decode cX6_tetrahedra 23 = .ok (.invokevirtual 64, 3) ∧ decode cX6_tetrahedra 26 = .ok (.aload_n 0, 1) ∧ decode cX6_tetrahedra 27 = .ok (.aload_n 0, 1) := by decide +kernel
theorem dX6_tetrahedra_14 : decode cX6_tetrahedra 14 = .ok (.iload_n 3, 1) := DX6_tetrahedra_c1.1
theorem dX6_tetrahedra_15 : decode cX6_tetrahedra 15 = .ok (.iload_n 2, 1) := DX6_tetrahedra_c1.2.1
theorem dX6_tetrahedra_16 : decode cX6_tetrahedra 16 = .ok (.if_icmp .ge 29, 3) := DX6_tetrahedra_c1.2.2.1
theorem dX6_tetrahedra_19 : decode cX6_tetrahedra 19 = .ok (.iload_n 1, 1) := DX6_tetrahedra_c1.2.2.2.1
theorem dX6_tetrahedra_20 : decode cX6_tetrahedra 20 = .ok (.aload_n 0, 1) := DX6_tetrahedra_c1.2.2.2.2.1
theorem dX6_tetrahedra_21 : decode cX6_tetrahedra 21 = .ok (.iload_n 3, 1) := DX6_tetrahedra_c1.2.2.2.2.2.1
theorem dX6_tetrahedra_22 : decode cX6_tetrahedra 22 = .ok (.iload_n 2, 1) := DX6_tetrahedra_c1.2.2.2.2.2.2.1
theorem dX6_tetrahedra_23 : decode cX6_tetrahedra 23 = .ok (.invokevirtual 64, 3) := DX6_tetrahedra_c1.2.2.2.2.2.2.2.1
theorem dX6_tetrahedra_26 : decode cX6_tetrahedra 26 = .ok (.aload_n 0, 1) := DX6_tetrahedra_c1.2.2.2.2.2.2.2.2.1
theorem dX6_tetrahedra_27 : decode cX6_tetrahedra 27 = .ok (.aload_n 0, 1) := DX6_tetrahedra_c1.2.2.2.2.2.2.2.2.2
set_option maxRecDepth 100000 in
theorem DX6_tetrahedra_c2 : decode cX6_tetrahedra 28 = .ok (.iload_n 3, 1) ∧ decode cX6_tetrahedra 29 = .ok (.iload_n 2, 1) ∧ decode cX6_tetrahedra 30 = .ok (.invokestatic 68, 3) ∧ decode cX6_tetrahedra 33 = .ok (.invokevirtual 61, 3) ∧ decode cX6_tetrahedra 36 = .ok (.imul, 1) ∧ decode cX6_tetrahedra 37 = .ok (.iadd, 1) ∧ decode cX6_tetrahedra 38 = .ok (.istore_n 1, 1) ∧ decode cX6_tetrahedra 39 = .ok (.iinc 3 1, 3) ∧ decode cX6_tetrahedra 42 = .ok (.goto (-28), 3) ∧ decode cX6_tetrahedra 45 = .ok (.iinc 2 1, 3) := by decide +kernel
theorem dX6_tetrahedra_28 : decode cX6_tetrahedra 28 = .ok (.iload_n 3, 1) := DX6_tetrahedra_c2.1
theorem dX6_tetrahedra_29 : decode cX6_tetrahedra 29 = .ok (.iload_n 2, 1) := DX6_tetrahedra_c2.2.1
theorem dX6_tetrahedra_30 : decode cX6_tetrahedra 30 = .ok (.invokestatic 68, 3) := DX6_tetrahedra_c2.2.2.1
theorem dX6_tetrahedra_33 : decode cX6_tetrahedra 33 = .ok (.invokevirtual 61, 3) := DX6_tetrahedra_c2.2.2.2.1
theorem dX6_tetrahedra_36 : decode cX6_tetrahedra 36 = .ok (.imul, 1) := DX6_tetrahedra_c2.2.2.2.2.1
theorem dX6_tetrahedra_37 : decode cX6_tetrahedra 37 = .ok (.iadd, 1) := DX6_tetrahedra_c2.2.2.2.2.2.1
theorem dX6_tetrahedra_38 : decode cX6_tetrahedra 38 = .ok (.istore_n 1, 1) := DX6_tetrahedra_c2.2.2.2.2.2.2.1
theorem dX6_tetrahedra_39 : decode cX6_tetrahedra 39 = .ok (.iinc 3 1, 3) := DX6_tetrahedra_c2.2.2.2.2.2.2.2.1
theorem dX6_tetrahedra_42 : decode cX6_tetrahedra 42 = .ok (.goto (-28), 3) := DX6_tetrahedra_c2.2.2.2.2.2.2.2.2.1
theorem dX6_tetrahedra_45 : decode cX6_tetrahedra 45 = .ok (.iinc 2 1, 3) := DX6_tetrahedra_c2.2.2.2.2.2.2.2.2.2
set_option maxRecDepth 100000 in
theorem DX6_tetrahedra_c3 : decode cX6_tetrahedra 48 = .ok (.goto (-44), 3) ∧ decode cX6_tetrahedra 51 = .ok (.iload_n 1, 1) ∧ decode cX6_tetrahedra 52 = .ok (.bipush 6, 2) ∧ decode cX6_tetrahedra 54 = .ok (.idiv, 1) ∧ decode cX6_tetrahedra 55 = .ok (.ireturn, 1) := by decide +kernel
theorem dX6_tetrahedra_48 : decode cX6_tetrahedra 48 = .ok (.goto (-44), 3) := DX6_tetrahedra_c3.1
theorem dX6_tetrahedra_51 : decode cX6_tetrahedra 51 = .ok (.iload_n 1, 1) := DX6_tetrahedra_c3.2.1
theorem dX6_tetrahedra_52 : decode cX6_tetrahedra 52 = .ok (.bipush 6, 2) := DX6_tetrahedra_c3.2.2.1
theorem dX6_tetrahedra_54 : decode cX6_tetrahedra 54 = .ok (.idiv, 1) := DX6_tetrahedra_c3.2.2.2.1
theorem dX6_tetrahedra_55 : decode cX6_tetrahedra 55 = .ok (.ireturn, 1) := DX6_tetrahedra_c3.2.2.2.2
set_option maxRecDepth 100000 in
theorem DX7_init_c0 : decode cX7_init 0 = .ok (.aload_n 0, 1) ∧ decode cX7_init 1 = .ok (.invokespecial 3, 3) ∧ decode cX7_init 4 = .ok (.aload_n 0, 1) ∧ decode cX7_init 5 = .ok (.bipush 8, 2) ∧ decode cX7_init 7 = .ok (.newarray .int, 2) ∧ decode cX7_init 9 = .ok (.putfield 9, 3) ∧ decode cX7_init 12 = .ok (.return_, 1) := by decide +kernel
theorem dX7_init_0 : decode cX7_init 0 = .ok (.aload_n 0, 1) := DX7_init_c0.1
theorem dX7_init_1 : decode cX7_init 1 = .ok (.invokespecial 3, 3) := DX7_init_c0.2.1
theorem dX7_init_4 : decode cX7_init 4 = .ok (.aload_n 0, 1) := DX7_init_c0.2.2.1
theorem dX7_init_5 : decode cX7_init 5 = .ok (.bipush 8, 2) := DX7_init_c0.2.2.2.1
theorem dX7_init_7 : decode cX7_init 7 = .ok (.newarray .int, 2) := DX7_init_c0.2.2.2.2.1
theorem dX7_init_9 : decode cX7_init 9 = .ok (.putfield 9, 3) := DX7_init_c0.2.2.2.2.2.1
theorem dX7_init_12 : decode cX7_init 12 = .ok (.return_, 1) := DX7_init_c0.2.2.2.2.2.2
set_option maxRecDepth 100000 in
theorem DX7_find_c0 : decode cX7_find 0 = .ok (.aload_n 0, 1) ∧ decode cX7_find 1 = .ok (.iload_n 3, 1) ∧ decode cX7_find 2 = .ok (.putfield 15, 3) ∧ decode cX7_find 5 = .ok (.aload_n 0, 1) ∧ decode cX7_find 6 = .ok (.iload 4, 2) ∧ decode cX7_find 8 = .ok (.putfield 19, 3) ∧ decode cX7_find 11 = .ok (.iconst 0, 1) ∧ decode cX7_find 12 = .ok (.istore 5, 2) ∧ decode cX7_find 14 = .ok (.iconst 0, 1) ∧ decode cX7_find 15 = .ok (.istore 6, 2) := by decide +kernel
theorem dX7_find_0 : decode cX7_find 0 = .ok (.aload_n 0, 1) := DX7_find_c0.1
theorem dX7_find_1 : decode cX7_find 1 = .ok (.iload_n 3, 1) := DX7_find_c0.2.1
theorem dX7_find_2 : decode cX7_find 2 = .ok (.putfield 15, 3) := DX7_find_c0.2.2.1
theorem dX7_find_5 : decode cX7_find 5 = .ok (.aload_n 0, 1) := DX7_find_c0.2.2.2.1
theorem dX7_find_6 : decode cX7_find 6 = .ok (.iload 4, 2) := DX7_find_c0.2.2.2.2.1
theorem dX7_find_8 : decode cX7_find 8 = .ok (.putfield 19, 3) := DX7_find_c0.2.2.2.2.2.1
theorem dX7_find_11 : decode cX7_find 11 = .ok (.iconst 0, 1) := DX7_find_c0.2.2.2.2.2.2.1
theorem dX7_find_12 : decode cX7_find 12 = .ok (.istore 5, 2) := DX7_find_c0.2.2.2.2.2.2.2.1
theorem dX7_find_14 : decode cX7_find 14 = .ok (.iconst 0, 1) := DX7_find_c0.2.2.2.2.2.2.2.2.1
theorem dX7_find_15 : decode cX7_find 15 = .ok (.istore 6, 2) := DX7_find_c0.2.2.2.2.2.2.2.2.2
set_option maxRecDepth 100000 in
theorem DX7_find_c1 : decode cX7_find 17 = .ok (.iload 6, 2) ∧ decode cX7_find 19 = .ok (.iload_n 2, 1) ∧ decode cX7_find 20 = .ok (.if_icmp .ge 36, 3) ∧ decode cX7_find 23 = .ok (.iload 6, 2) ∧ decode cX7_find 25 = .ok (.aload_n 1, 1) ∧ decode cX7_find 26 = .ok (.invokevirtual 22, 3) ∧ decode cX7_find 29 = .ok (.if_icmp .ge 27, 3) ∧ decode cX7_find 32 = .ok (.aload_n 0, 1) ∧ decode cX7_find 33 = .ok (.getfield 9, 3) ∧ decode cX7_find 36 = .ok (.iload 6, 2) := by decide +kernel
theorem dX7_find_17 : decode cX7_find 17 = .ok (.iload 6, 2) := DX7_find_c1.1
theorem dX7_find_19 : decode cX7_find 19 = .ok (.iload_n 2, 1) := DX7_find_c1.2.1
theorem dX7_find_20 : decode cX7_find 20 = .ok (.if_icmp .ge 36, 3) := DX7_find_c1.2.2.1
theorem dX7_find_23 : decode cX7_find 23 = .ok (.iload 6, 2) := DX7_find_c1.2.2.2.1
theorem dX7_find_25 : decode cX7_find 25 = .ok (.aload_n 1, 1) := DX7_find_c1.2.2.2.2.1
theorem dX7_find_26 : decode cX7_find 26 = .ok (.invokevirtual 22, 3) := DX7_find_c1.2.2.2.2.2.1
theorem dX7_find_29 : decode cX7_find 29 = .ok (.if_icmp .ge 27, 3) := DX7_find_c1.2.2.2.2.2.2.1
theorem dX7_find_32 : decode cX7_find 32 = .ok (.aload_n 0, 1) := DX7_find_c1.2.2.2.2.2.2.2.1
theorem dX7_find_33 : decode cX7_find 33 = .ok (.getfield 9, 3) := DX7_find_c1.2.2.2.2.2.2.2.2.1
theorem dX7_find_36 : decode cX7_find 36 = .ok (.iload 6, 2) := DX7_find_c1.2.2.2.2.2.2.2.2.2
set_option maxRecDepth 100000 in
theorem DX7_find_c2 : decode cX7_find 38 = .ok (.iload 6, 2) ∧ decode cX7_find 40 = .ok (.iastore, 1) ∧ decode cX7_find 41 = .ok (.iload 5, 2) ∧ decode cX7_find 43 = .ok (.iconst 1, 1) ∧ decode cX7_find 44 = .ok (.iload 6, 2) ∧ decode cX7_find 46 = .ok (.ishl, 1) ∧ decode cX7_find 47 = .ok (.ior, 1) ∧ decode cX7_find 48 = .ok (.istore 5, 2) ∧ decode cX7_find 50 = .ok (.iinc 6 1, 3) ∧ decode cX7_find 53 = .ok (.goto (-36), 3) := by decide +kernel
theorem dX7_find_38 : decode cX7_find 38 = .ok (.iload 6, 2) := DX7_find_c2.1
theorem dX7_find_40 : decode cX7_find 40 = .ok (.iastore, 1) := DX7_find_c2.2.1
theorem dX7_find_41 : decode cX7_find 41 = .ok (.iload 5, 2) := DX7_find_c2.2.2.1
theorem dX7_find_43 : decode cX7_find 43 = .ok (.iconst 1, 1) := DX7_find_c2.2.2.2.1
theorem dX7_find_44 : decode cX7_find 44 = .ok (.iload 6, 2) := DX7_find_c2.2.2.2.2.1
theorem dX7_find_46 : decode cX7_find 46 = .ok (.ishl, 1) := DX7_find_c2.2.2.2.2.2.1
theorem dX7_find_47 : decode cX7_find 47 = .ok (.ior, 1) := DX7_find_c2.2.2.2.2.2.2.1
theorem dX7_find_48 : decode cX7_find 48 = .ok (.istore 5, 2) := DX7_find_c2.2.2.2.2.2.2.2.1
theorem dX7_find_50 : decode cX7_find 50 = .ok (.iinc 6 1, 3) := DX7_find_c2.2.2.2.2.2.2.2.2.1
theorem dX7_find_53 : decode cX7_find 53 = .ok (.goto (-36), 3) := DX7_find_c2.2.2.2.2.2.2.2.2.2
set_option maxRecDepth 100000 in
theorem DX7_find_c3 : decode cX7_find 56 = .ok (.aload_n 0, 1) ∧ decode cX7_find 57 = .ok (.aload_n 1, 1) ∧ decode cX7_find 58 = .ok (.iload_n 2, 1) ∧ decode cX7_find 59 = .ok (.iload 5, 2) ∧ decode cX7_find 61 = .ok (.invokestatic 28, 3) ∧ decode cX7_find 64 = .ok (.ireturn, 1) := by decide +kernel
theorem dX7_find_56 : decode cX7_find 56 = .ok (.aload_n 0, 1) := DX7_find_c3.1
theorem dX7_find_57 : decode cX7_find 57 = .ok (.aload_n 1, 1) := DX7_find_c3.2.1
theorem dX7_find_58 : decode cX7_find 58 = .ok (.iload_n 2, 1) := DX7_find_c3.2.2.1
theorem dX7_find_59 : decode cX7_find 59 = .ok (.iload 5, 2) := DX7_find_c3.2.2.2.1
theorem dX7_find_61 : decode cX7_find 61 = .ok (.invokestatic 28, 3) := DX7_find_c3.2.2.2.2.1
theorem dX7_find_64 : decode cX7_find 64 = .ok (.ireturn, 1) := DX7_find_c3.2.2.2.2.2
set_option maxRecDepth 100000 in
theorem DX7_imageOf_c0 : decode cX7_imageOf 0 = .ok (.iload_n 1, 1) ∧ decode cX7_imageOf 1 = .ok (.ifCond .lt 18, 3) ∧ decode cX7_imageOf 4 = .ok (.iload_n 1, 1) ∧ decode cX7_imageOf 5 = .ok (.bipush 8, 2) ∧ decode cX7_imageOf 7 = .ok (.if_icmp .ge 12, 3) ∧ decode cX7_imageOf 10 = .ok (.aload_n 0, 1) ∧ decode cX7_imageOf 11 = .ok (.getfield 9, 3) ∧ decode cX7_imageOf 14 = .ok (.iload_n 1, 1) ∧ decode cX7_imageOf 15 = .ok (.iaload, 1) ∧ decode cX7_imageOf 16 = .ok (.goto 4, 3) := by decide +kernel
theorem dX7_imageOf_0 : decode cX7_imageOf 0 = .ok (.iload_n 1, 1) := DX7_imageOf_c0.1
theorem dX7_imageOf_1 : decode cX7_imageOf 1 = .ok (.ifCond .lt 18, 3) := DX7_imageOf_c0.2.1
theorem dX7_imageOf_4 : decode cX7_imageOf 4 = .ok (.iload_n 1, 1) := DX7_imageOf_c0.2.2.1
theorem dX7_imageOf_5 : decode cX7_imageOf 5 = .ok (.bipush 8, 2) := DX7_imageOf_c0.2.2.2.1
theorem dX7_imageOf_7 : decode cX7_imageOf 7 = .ok (.if_icmp .ge 12, 3) := DX7_imageOf_c0.2.2.2.2.1
theorem dX7_imageOf_10 : decode cX7_imageOf 10 = .ok (.aload_n 0, 1) := DX7_imageOf_c0.2.2.2.2.2.1
theorem dX7_imageOf_11 : decode cX7_imageOf 11 = .ok (.getfield 9, 3) := DX7_imageOf_c0.2.2.2.2.2.2.1
theorem dX7_imageOf_14 : decode cX7_imageOf 14 = .ok (.iload_n 1, 1) := DX7_imageOf_c0.2.2.2.2.2.2.2.1
theorem dX7_imageOf_15 : decode cX7_imageOf 15 = .ok (.iaload, 1) := DX7_imageOf_c0.2.2.2.2.2.2.2.2.1
theorem dX7_imageOf_16 : decode cX7_imageOf 16 = .ok (.goto 4, 3) := DX7_imageOf_c0.2.2.2.2.2.2.2.2.2
set_option maxRecDepth 100000 in
theorem DX7_imageOf_c1 : decode cX7_imageOf 19 = .ok (.iconst (-1), 1) ∧ decode cX7_imageOf 20 = .ok (.ireturn, 1) := by decide +kernel
theorem dX7_imageOf_19 : decode cX7_imageOf 19 = .ok (.iconst (-1), 1) := DX7_imageOf_c1.1
theorem dX7_imageOf_20 : decode cX7_imageOf 20 = .ok (.ireturn, 1) := DX7_imageOf_c1.2
set_option maxRecDepth 100000 in
theorem DX7_extend_c0 : decode cX7_extend 0 = .ok (.aload_n 1, 1) ∧ decode cX7_extend 1 = .ok (.iload_n 2, 1) ∧ decode cX7_extend 2 = .ok (.invokevirtual 32, 3) ∧ decode cX7_extend 5 = .ok (.ifCond .ne 5, 3) ∧ decode cX7_extend 8 = .ok (.iconst 1, 1) ∧ decode cX7_extend 9 = .ok (.ireturn, 1) ∧ decode cX7_extend 10 = .ok (.iconst 0, 1) ∧ decode cX7_extend 11 = .ok (.istore 4, 2) ∧ decode cX7_extend 13 = .ok (.iload 4, 2) ∧ decode cX7_extend 15 = .ok (.aload_n 1, 1) := by decide +kernel
theorem dX7_extend_0 : decode cX7_extend 0 = .ok (.aload_n 1, 1) := DX7_extend_c0.1
theorem dX7_extend_1 : decode cX7_extend 1 = .ok (.iload_n 2, 1) := DX7_extend_c0.2.1
theorem dX7_extend_2 : decode cX7_extend 2 = .ok (.invokevirtual 32, 3) := DX7_extend_c0.2.2.1
theorem dX7_extend_5 : decode cX7_extend 5 = .ok (.ifCond .ne 5, 3) := DX7_extend_c0.2.2.2.1
theorem dX7_extend_8 : decode cX7_extend 8 = .ok (.iconst 1, 1) := DX7_extend_c0.2.2.2.2.1
theorem dX7_extend_9 : decode cX7_extend 9 = .ok (.ireturn, 1) := DX7_extend_c0.2.2.2.2.2.1
theorem dX7_extend_10 : decode cX7_extend 10 = .ok (.iconst 0, 1) := DX7_extend_c0.2.2.2.2.2.2.1
theorem dX7_extend_11 : decode cX7_extend 11 = .ok (.istore 4, 2) := DX7_extend_c0.2.2.2.2.2.2.2.1
theorem dX7_extend_13 : decode cX7_extend 13 = .ok (.iload 4, 2) := DX7_extend_c0.2.2.2.2.2.2.2.2.1
theorem dX7_extend_15 : decode cX7_extend 15 = .ok (.aload_n 1, 1) := DX7_extend_c0.2.2.2.2.2.2.2.2.2
set_option maxRecDepth 100000 in
theorem DX7_extend_c1 : decode cX7_extend 16 = .ok (.invokevirtual 22, 3) ∧ decode cX7_extend 19 = .ok (.if_icmp .ge 56, 3) ∧ decode cX7_extend 22 = .ok (.iload_n 3, 1) ∧ decode cX7_extend 23 = .ok (.iload 4, 2) ∧ decode cX7_extend 25 = .ok (.ishr, 1) ∧ decode cX7_extend 26 = .ok (.iconst 1, 1) ∧ decode cX7_extend 27 = .ok (.iand, 1) ∧ decode cX7_extend 28 = .ok (.ifCond .ne 41, 3) ∧ decode cX7_extend 31 = .ok (.aload_n 0, 1) ∧ decode cX7_extend 32 = .ok (.aload_n 1, 1) := by decide +kernel
theorem dX7_extend_16 : decode cX7_extend 16 = .ok (.invokevirtual 22, 3) := DX7_extend_c1.1
theorem dX7_extend_19 : decode cX7_extend 19 = .ok (.if_icmp .ge 56, 3) := DX7_extend_c1.2.1
theorem dX7_extend_22 : decode cX7_extend 22 = .ok (.iload_n 3, 1) := DX7_extend_c1.2.2.1
theorem dX7_extend_23 : decode cX7_extend 23 = .ok (.iload 4, 2) := DX7_extend_c1.2.2.2.1
theorem dX7_extend_25 : decode cX7_extend 25 = .ok (.ishr, 1) := DX7_extend_c1.2.2.2.2.1
theorem dX7_extend_26 : decode cX7_extend 26 = .ok (.iconst 1, 1) := DX7_extend_c1.2.2.2.2.2.1
theorem dX7_extend_27 : decode cX7_extend 27 = .ok (.iand, 1) := DX7_extend_c1.2.2.2.2.2.2.1
theorem dX7_extend_28 : decode cX7_extend 28 = .ok (.ifCond .ne 41, 3) := DX7_extend_c1.2.2.2.2.2.2.2.1
theorem dX7_extend_31 : decode cX7_extend 31 = .ok (.aload_n 0, 1) := DX7_extend_c1.2.2.2.2.2.2.2.2.1
theorem dX7_extend_32 : decode cX7_extend 32 = .ok (.aload_n 1, 1) := DX7_extend_c1.2.2.2.2.2.2.2.2.2
set_option maxRecDepth 100000 in
theorem DX7_extend_c2 : decode cX7_extend 33 = .ok (.iload_n 2, 1) ∧ decode cX7_extend 34 = .ok (.iload 4, 2) ∧ decode cX7_extend 36 = .ok (.invokevirtual 36, 3) ∧ decode cX7_extend 39 = .ok (.ifCond .eq 30, 3) ∧ decode cX7_extend 42 = .ok (.aload_n 0, 1) ∧ decode cX7_extend 43 = .ok (.getfield 9, 3) ∧ decode cX7_extend 46 = .ok (.iload_n 2, 1) ∧ decode cX7_extend 47 = .ok (.iload 4, 2) ∧ decode cX7_extend 49 = .ok (.iastore, 1) ∧ decode cX7_extend 50 = .ok (.aload_n 0, 1) := by decide +kernel
theorem dX7_extend_33 : decode cX7_extend 33 = .ok (.iload_n 2, 1) := DX7_extend_c2.1
theorem dX7_extend_34 : decode cX7_extend 34 = .ok (.iload 4, 2) := DX7_extend_c2.2.1
theorem dX7_extend_36 : decode cX7_extend 36 = .ok (.invokevirtual 36, 3) := DX7_extend_c2.2.2.1
theorem dX7_extend_39 : decode cX7_extend 39 = .ok (.ifCond .eq 30, 3) := DX7_extend_c2.2.2.2.1
theorem dX7_extend_42 : decode cX7_extend 42 = .ok (.aload_n 0, 1) := DX7_extend_c2.2.2.2.2.1
theorem dX7_extend_43 : decode cX7_extend 43 = .ok (.getfield 9, 3) := DX7_extend_c2.2.2.2.2.2.1
theorem dX7_extend_46 : decode cX7_extend 46 = .ok (.iload_n 2, 1) := DX7_extend_c2.2.2.2.2.2.2.1
theorem dX7_extend_47 : decode cX7_extend 47 = .ok (.iload 4, 2) := DX7_extend_c2.2.2.2.2.2.2.2.1
theorem dX7_extend_49 : decode cX7_extend 49 = .ok (.iastore, 1) := DX7_extend_c2.2.2.2.2.2.2.2.2.1
theorem dX7_extend_50 : decode cX7_extend 50 = .ok (.aload_n 0, 1) := DX7_extend_c2.2.2.2.2.2.2.2.2.2
set_option maxRecDepth 100000 in
theorem DX7_extend_c3 : decode cX7_extend 51 = .ok (.aload_n 1, 1) ∧ decode cX7_extend 52 = .ok (.iload_n 2, 1) ∧ decode cX7_extend 53 = .ok (.iconst 1, 1) ∧ decode cX7_extend 54 = .ok (.iadd, 1) ∧ decode cX7_extend 55 = .ok (.iload_n 3, 1) ∧ decode cX7_extend 56 = .ok (.iconst 1, 1) ∧ decode cX7_extend 57 = .ok (.iload 4, 2) ∧ decode cX7_extend 59 = .ok (.ishl, 1) ∧ decode cX7_extend 60 = .ok (.ior, 1) ∧ decode cX7_extend 61 = .ok (.invokestatic 28, 3) := by decide +kernel
theorem dX7_extend_51 : decode cX7_extend 51 = .ok (.aload_n 1, 1) := DX7_extend_c3.1
theorem dX7_extend_52 : decode cX7_extend 52 = .ok (.iload_n 2, 1) := DX7_extend_c3.2.1
theorem dX7_extend_53 : decode cX7_extend 53 = .ok (.iconst 1, 1) := DX7_extend_c3.2.2.1
theorem dX7_extend_54 : decode cX7_extend 54 = .ok (.iadd, 1) := DX7_extend_c3.2.2.2.1
theorem dX7_extend_55 : decode cX7_extend 55 = .ok (.iload_n 3, 1) := DX7_extend_c3.2.2.2.2.1
theorem dX7_extend_56 : decode cX7_extend 56 = .ok (.iconst 1, 1) := DX7_extend_c3.2.2.2.2.2.1
theorem dX7_extend_57 : decode cX7_extend 57 = .ok (.iload 4, 2) := DX7_extend_c3.2.2.2.2.2.2.1
theorem dX7_extend_59 : decode cX7_extend 59 = .ok (.ishl, 1) := DX7_extend_c3.2.2.2.2.2.2.2.1
theorem dX7_extend_60 : decode cX7_extend 60 = .ok (.ior, 1) := DX7_extend_c3.2.2.2.2.2.2.2.2.1
theorem dX7_extend_61 : decode cX7_extend 61 = .ok (.invokestatic 28, 3) := DX7_extend_c3.2.2.2.2.2.2.2.2.2
set_option maxRecDepth 100000 in
theorem DX7_extend_c4 : decode cX7_extend 64 = .ok (.ifCond .eq 5, 3) ∧ decode cX7_extend 67 = .ok (.iconst 1, 1) ∧ decode cX7_extend 68 = .ok (.ireturn, 1) ∧ decode cX7_extend 69 = .ok (.iinc 4 1, 3) ∧ decode cX7_extend 72 = .ok (.goto (-59), 3) ∧ decode cX7_extend 75 = .ok (.iconst 0, 1) ∧ decode cX7_extend 76 = .ok (.ireturn, 1) := by decide +kernel
theorem dX7_extend_64 : decode cX7_extend 64 = .ok (.ifCond .eq 5, 3) := DX7_extend_c4.1
theorem dX7_extend_67 : decode cX7_extend 67 = .ok (.iconst 1, 1) := DX7_extend_c4.2.1
theorem dX7_extend_68 : decode cX7_extend 68 = .ok (.ireturn, 1) := DX7_extend_c4.2.2.1
theorem dX7_extend_69 : decode cX7_extend 69 = .ok (.iinc 4 1, 3) := DX7_extend_c4.2.2.2.1
theorem dX7_extend_72 : decode cX7_extend 72 = .ok (.goto (-59), 3) := DX7_extend_c4.2.2.2.2.1
theorem dX7_extend_75 : decode cX7_extend 75 = .ok (.iconst 0, 1) := DX7_extend_c4.2.2.2.2.2.1
theorem dX7_extend_76 : decode cX7_extend 76 = .ok (.ireturn, 1) := DX7_extend_c4.2.2.2.2.2.2
set_option maxRecDepth 100000 in
theorem DX7_fits_c0 : decode cX7_fits 0 = .ok (.aload_n 1, 1) ∧ decode cX7_fits 1 = .ok (.iload_n 2, 1) ∧ decode cX7_fits 2 = .ok (.invokevirtual 40, 3) ∧ decode cX7_fits 5 = .ok (.istore 4, 2) ∧ decode cX7_fits 7 = .ok (.aload_n 1, 1) ∧ decode cX7_fits 8 = .ok (.iload_n 3, 1) ∧ decode cX7_fits 9 = .ok (.invokevirtual 40, 3) ∧ decode cX7_fits 12 = .ok (.istore 5, 2) ∧ decode cX7_fits 14 = .ok (.iload_n 2, 1) ∧ decode cX7_fits 15 = .ok (.aload_n 0, 1) := by decide +kernel
theorem dX7_fits_0 : decode cX7_fits 0 = .ok (.aload_n 1, 1) := DX7_fits_c0.1
theorem dX7_fits_1 : decode cX7_fits 1 = .ok (.iload_n 2, 1) := DX7_fits_c0.2.1
theorem dX7_fits_2 : decode cX7_fits 2 = .ok (.invokevirtual 40, 3) := DX7_fits_c0.2.2.1
theorem dX7_fits_5 : decode cX7_fits 5 = .ok (.istore 4, 2) := DX7_fits_c0.2.2.2.1
theorem dX7_fits_7 : decode cX7_fits 7 = .ok (.aload_n 1, 1) := DX7_fits_c0.2.2.2.2.1
theorem dX7_fits_8 : decode cX7_fits 8 = .ok (.iload_n 3, 1) := DX7_fits_c0.2.2.2.2.2.1
theorem dX7_fits_9 : decode cX7_fits 9 = .ok (.invokevirtual 40, 3) := DX7_fits_c0.2.2.2.2.2.2.1
theorem dX7_fits_12 : decode cX7_fits 12 = .ok (.istore 5, 2) := DX7_fits_c0.2.2.2.2.2.2.2.1
theorem dX7_fits_14 : decode cX7_fits 14 = .ok (.iload_n 2, 1) := DX7_fits_c0.2.2.2.2.2.2.2.2.1
theorem dX7_fits_15 : decode cX7_fits 15 = .ok (.aload_n 0, 1) := DX7_fits_c0.2.2.2.2.2.2.2.2.2
set_option maxRecDepth 100000 in
theorem DX7_fits_c1 : decode cX7_fits 16 = .ok (.getfield 15, 3) ∧ decode cX7_fits 19 = .ok (.if_icmp .ne 7, 3) ∧ decode cX7_fits 22 = .ok (.iconst 1, 1) ∧ decode cX7_fits 23 = .ok (.goto 4, 3) ∧ decode cX7_fits 26 = .ok (.iconst 0, 1) ∧ decode cX7_fits 27 = .ok (.iload_n 3, 1) ∧ decode cX7_fits 28 = .ok (.aload_n 0, 1) ∧ decode cX7_fits 29 = .ok (.getfield 19, 3) ∧ decode cX7_fits 32 = .ok (.if_icmp .ne 7, 3) ∧ decode cX7_fits 35 = .ok (.iconst 1, 1) := by decide +kernel
theorem dX7_fits_16 : decode cX7_fits 16 = .ok (.getfield 15, 3) := DX7_fits_c1.1
theorem dX7_fits_19 : decode cX7_fits 19 = .ok (.if_icmp .ne 7, 3) := DX7_fits_c1.2.1
theorem dX7_fits_22 : decode cX7_fits 22 = .ok (.iconst 1, 1) := DX7_fits_c1.2.2.1
theorem dX7_fits_23 : decode cX7_fits 23 = .ok (.goto 4, 3) := DX7_fits_c1.2.2.2.1
theorem dX7_fits_26 : decode cX7_fits 26 = .ok (.iconst 0, 1) := DX7_fits_c1.2.2.2.2.1
theorem dX7_fits_27 : decode cX7_fits 27 = .ok (.iload_n 3, 1) := DX7_fits_c1.2.2.2.2.2.1
theorem dX7_fits_28 : decode cX7_fits 28 = .ok (.aload_n 0, 1) := DX7_fits_c1.2.2.2.2.2.2.1
theorem dX7_fits_29 : decode cX7_fits 29 = .ok (.getfield 19, 3) := DX7_fits_c1.2.2.2.2.2.2.2.1
theorem dX7_fits_32 : decode cX7_fits 32 = .ok (.if_icmp .ne 7, 3) := DX7_fits_c1.2.2.2.2.2.2.2.2.1
theorem dX7_fits_35 : decode cX7_fits 35 = .ok (.iconst 1, 1) := DX7_fits_c1.2.2.2.2.2.2.2.2.2
set_option maxRecDepth 100000 in
theorem DX7_fits_c2 : decode cX7_fits 36 = .ok (.goto 4, 3) ∧ decode cX7_fits 39 = .ok (.iconst 0, 1) ∧ decode cX7_fits 40 = .ok (.if_icmp .ne 16, 3) ∧ decode cX7_fits 43 = .ok (.iload 4, 2) ∧ decode cX7_fits 45 = .ok (.invokestatic 44, 3) ∧ decode cX7_fits 48 = .ok (.iload 5, 2) ∧ decode cX7_fits 50 = .ok (.invokestatic 44, 3) ∧ decode cX7_fits 53 = .ok (.if_icmp .eq 5, 3) ∧ decode cX7_fits 56 = .ok (.iconst 0, 1) ∧ decode cX7_fits 57 = .ok (.ireturn, 1) := by decide +kernel
theorem dX7_fits_36 : decode cX7_fits 36 = .ok (.goto 4, 3) := DX7_fits_c2.1
theorem dX7_fits_39 : decode cX7_fits 39 = .ok (.iconst 0, 1) := DX7_fits_c2.2.1
theorem dX7_fits_40 : decode cX7_fits 40 = .ok (.if_icmp .ne 16, 3) := DX7_fits_c2.2.2.1
theorem dX7_fits_43 : decode cX7_fits 43 = .ok (.iload 4, 2) := DX7_fits_c2.2.2.2.1
theorem dX7_fits_45 : decode cX7_fits 45 = .ok (.invokestatic 44, 3) := DX7_fits_c2.2.2.2.2.1
theorem dX7_fits_48 : decode cX7_fits 48 = .ok (.iload 5, 2) := DX7_fits_c2.2.2.2.2.2.1
theorem dX7_fits_50 : decode cX7_fits 50 = .ok (.invokestatic 44, 3) := DX7_fits_c2.2.2.2.2.2.2.1
theorem dX7_fits_53 : decode cX7_fits 53 = .ok (.if_icmp .eq 5, 3) := DX7_fits_c2.2.2.2.2.2.2.2.1
theorem dX7_fits_56 : decode cX7_fits 56 = .ok (.iconst 0, 1) := DX7_fits_c2.2.2.2.2.2.2.2.2.1
theorem dX7_fits_57 : decode cX7_fits 57 = .ok (.ireturn, 1) := DX7_fits_c2.2.2.2.2.2.2.2.2.2
set_option maxRecDepth 100000 in
theorem DX7_fits_c3 : decode cX7_fits 58 = .ok (.iload 4, 2) ∧ decode cX7_fits 60 = .ok (.aload_n 0, 1) ∧ decode cX7_fits 61 = .ok (.getfield 15, 3) ∧ decode cX7_fits 64 = .ok (.ishr, 1) ∧ decode cX7_fits 65 = .ok (.iconst 1, 1) ∧ decode cX7_fits 66 = .ok (.iand, 1) ∧ decode cX7_fits 67 = .ok (.iload 5, 2) ∧ decode cX7_fits 69 = .ok (.aload_n 0, 1) ∧ decode cX7_fits 70 = .ok (.getfield 19, 3) ∧ decode cX7_fits 73 = .ok (.ishr, 1) := by decide +kernel
theorem dX7_fits_58 : decode cX7_fits 58 = .ok (.iload 4, 2) := DX7_fits_c3.1
theorem dX7_fits_60 : decode cX7_fits 60 = .ok (.aload_n 0, 1) := DX7_fits_c3.2.1
theorem dX7_fits_61 : decode cX7_fits 61 = .ok (.getfield 15, 3) := DX7_fits_c3.2.2.1
theorem dX7_fits_64 : decode cX7_fits 64 = .ok (.ishr, 1) := DX7_fits_c3.2.2.2.1
theorem dX7_fits_65 : decode cX7_fits 65 = .ok (.iconst 1, 1) := DX7_fits_c3.2.2.2.2.1
theorem dX7_fits_66 : decode cX7_fits 66 = .ok (.iand, 1) := DX7_fits_c3.2.2.2.2.2.1
theorem dX7_fits_67 : decode cX7_fits 67 = .ok (.iload 5, 2) := DX7_fits_c3.2.2.2.2.2.2.1
theorem dX7_fits_69 : decode cX7_fits 69 = .ok (.aload_n 0, 1) := DX7_fits_c3.2.2.2.2.2.2.2.1
theorem dX7_fits_70 : decode cX7_fits 70 = .ok (.getfield 19, 3) := DX7_fits_c3.2.2.2.2.2.2.2.2.1
theorem dX7_fits_73 : decode cX7_fits 73 = .ok (.ishr, 1) := DX7_fits_c3.2.2.2.2.2.2.2.2.2
set_option maxRecDepth 100000 in
theorem DX7_fits_c4 : decode cX7_fits 74 = .ok (.iconst 1, 1) ∧ decode cX7_fits 75 = .ok (.iand, 1) ∧ decode cX7_fits 76 = .ok (.if_icmp .eq 5, 3) ∧ decode cX7_fits 79 = .ok (.iconst 0, 1) ∧ decode cX7_fits 80 = .ok (.ireturn, 1) ∧ decode cX7_fits 81 = .ok (.iconst 0, 1) ∧ decode cX7_fits 82 = .ok (.istore 6, 2) ∧ decode cX7_fits 84 = .ok (.iload 6, 2) ∧ decode cX7_fits 86 = .ok (.iload_n 2, 1) ∧ decode cX7_fits 87 = .ok (.if_icmp .ge 40, 3) := by decide +kernel
theorem dX7_fits_74 : decode cX7_fits 74 = .ok (.iconst 1, 1) := DX7_fits_c4.1
theorem dX7_fits_75 : decode cX7_fits 75 = .ok (.iand, 1) := DX7_fits_c4.2.1
theorem dX7_fits_76 : decode cX7_fits 76 = .ok (.if_icmp .eq 5, 3) := DX7_fits_c4.2.2.1
theorem dX7_fits_79 : decode cX7_fits 79 = .ok (.iconst 0, 1) := DX7_fits_c4.2.2.2.1
theorem dX7_fits_80 : decode cX7_fits 80 = .ok (.ireturn, 1) := DX7_fits_c4.2.2.2.2.1
theorem dX7_fits_81 : decode cX7_fits 81 = .ok (.iconst 0, 1) := DX7_fits_c4.2.2.2.2.2.1
theorem dX7_fits_82 : decode cX7_fits 82 = .ok (.istore 6, 2) := DX7_fits_c4.2.2.2.2.2.2.1
theorem dX7_fits_84 : decode cX7_fits 84 = .ok (.iload 6, 2) := DX7_fits_c4.2.2.2.2.2.2.2.1
theorem dX7_fits_86 : decode cX7_fits 86 = .ok (.iload_n 2, 1) := DX7_fits_c4.2.2.2.2.2.2.2.2.1
theorem dX7_fits_87 : decode cX7_fits 87 = .ok (.if_icmp .ge 40, 3) := DX7_fits_c4.2.2.2.2.2.2.2.2.2
set_option maxRecDepth 100000 in
theorem DX7_fits_c5 : decode cX7_fits 90 = .ok (.iload 6, 2) ∧ decode cX7_fits 92 = .ok (.bipush 8, 2) ∧ decode cX7_fits 94 = .ok (.if_icmp .ge 33, 3) ∧ decode cX7_fits 97 = .ok (.iload 4, 2) ∧ decode cX7_fits 99 = .ok (.iload 6, 2) ∧ decode cX7_fits 101 = .ok (.ishr, 1) ∧ decode cX7_fits 102 = .ok (.iconst 1, 1) ∧ decode cX7_fits 103 = .ok (.iand, 1) ∧ decode cX7_fits 104 = .ok (.iload 5, 2) ∧ decode cX7_fits 106 = .ok (.aload_n 0, 1) := by decide +kernel
theorem dX7_fits_90 : decode cX7_fits 90 = .ok (.iload 6, 2) := DX7_fits_c5.1
theorem dX7_fits_92 : decode cX7_fits 92 = .ok (.bipush 8, 2) := DX7_fits_c5.2.1
theorem dX7_fits_94 : decode cX7_fits 94 = .ok (.if_icmp .ge 33, 3) := DX7_fits_c5.2.2.1
theorem dX7_fits_97 : decode cX7_fits 97 = .ok (.iload 4, 2) := DX7_fits_c5.2.2.2.1
theorem dX7_fits_99 : decode cX7_fits 99 = .ok (.iload 6, 2) := DX7_fits_c5.2.2.2.2.1
theorem dX7_fits_101 : decode cX7_fits 101 = .ok (.ishr, 1) := DX7_fits_c5.2.2.2.2.2.1
theorem dX7_fits_102 : decode cX7_fits 102 = .ok (.iconst 1, 1) := DX7_fits_c5.2.2.2.2.2.2.1
theorem dX7_fits_103 : decode cX7_fits 103 = .ok (.iand, 1) := DX7_fits_c5.2.2.2.2.2.2.2.1
theorem dX7_fits_104 : decode cX7_fits 104 = .ok (.iload 5, 2) := DX7_fits_c5.2.2.2.2.2.2.2.2.1
theorem dX7_fits_106 : decode cX7_fits 106 = .ok (.aload_n 0, 1) := DX7_fits_c5.2.2.2.2.2.2.2.2.2
set_option maxRecDepth 100000 in
theorem DX7_fits_c6 : decode cX7_fits 107 = .ok (.getfield 9, 3) ∧ decode cX7_fits 110 = .ok (.iload 6, 2) ∧ decode cX7_fits 112 = .ok (.iaload, 1) ∧ decode cX7_fits 113 = .ok (.ishr, 1) ∧ decode cX7_fits 114 = .ok (.iconst 1, 1) ∧ decode cX7_fits 115 = .ok (.iand, 1) ∧ decode cX7_fits 116 = .ok (.if_icmp .eq 5, 3) ∧ decode cX7_fits 119 = .ok (.iconst 0, 1) ∧ decode cX7_fits 120 = .ok (.ireturn, 1) ∧ decode cX7_fits 121 = .ok (.iinc 6 1, 3) := by decide +kernel
theorem dX7_fits_107 : decode cX7_fits 107 = .ok (.getfield 9, 3) := DX7_fits_c6.1
theorem dX7_fits_110 : decode cX7_fits 110 = .ok (.iload 6, 2) := DX7_fits_c6.2.1
theorem dX7_fits_112 : decode cX7_fits 112 = .ok (.iaload, 1) := DX7_fits_c6.2.2.1
theorem dX7_fits_113 : decode cX7_fits 113 = .ok (.ishr, 1) := DX7_fits_c6.2.2.2.1
theorem dX7_fits_114 : decode cX7_fits 114 = .ok (.iconst 1, 1) := DX7_fits_c6.2.2.2.2.1
theorem dX7_fits_115 : decode cX7_fits 115 = .ok (.iand, 1) := DX7_fits_c6.2.2.2.2.2.1
theorem dX7_fits_116 : decode cX7_fits 116 = .ok (.if_icmp .eq 5, 3) := DX7_fits_c6.2.2.2.2.2.2.1
theorem dX7_fits_119 : decode cX7_fits 119 = .ok (.iconst 0, 1) := DX7_fits_c6.2.2.2.2.2.2.2.1
theorem dX7_fits_120 : decode cX7_fits 120 = .ok (.ireturn, 1) := DX7_fits_c6.2.2.2.2.2.2.2.2.1
theorem dX7_fits_121 : decode cX7_fits 121 = .ok (.iinc 6 1, 3) := DX7_fits_c6.2.2.2.2.2.2.2.2.2
set_option maxRecDepth 100000 in
theorem DX7_fits_c7 : decode cX7_fits 124 = .ok (.goto (-40), 3) ∧ decode cX7_fits 127 = .ok (.iconst 1, 1) ∧ decode cX7_fits 128 = .ok (.ireturn, 1) := by decide +kernel
theorem dX7_fits_124 : decode cX7_fits 124 = .ok (.goto (-40), 3) := DX7_fits_c7.1
theorem dX7_fits_127 : decode cX7_fits 127 = .ok (.iconst 1, 1) := DX7_fits_c7.2.1
theorem dX7_fits_128 : decode cX7_fits 128 = .ok (.ireturn, 1) := DX7_fits_c7.2.2
set_option maxRecDepth 100000 in
theorem DX7_automorphisms_c0 : decode cX7_automorphisms 0 = .ok (.iconst 1, 1) ∧ decode cX7_automorphisms 1 = .ok (.istore_n 2, 1) ∧ decode cX7_automorphisms 2 = .ok (.iconst 0, 1) ∧ decode cX7_automorphisms 3 = .ok (.istore_n 3, 1) ∧ decode cX7_automorphisms 4 = .ok (.iload_n 3, 1) ∧ decode cX7_automorphisms 5 = .ok (.aload_n 1, 1) ∧ decode cX7_automorphisms 6 = .ok (.invokevirtual 22, 3) ∧ decode cX7_automorphisms 9 = .ok (.if_icmp .ge 50, 3) ∧ decode cX7_automorphisms 12 = .ok (.iconst 0, 1) ∧ decode cX7_automorphisms 13 = .ok (.istore 4, 2) := by decide +kernel
theorem dX7_automorphisms_0 : decode cX7_automorphisms 0 = .ok (.iconst 1, 1) := DX7_automorphisms_c0.1
theorem dX7_automorphisms_1 : decode cX7_automorphisms 1 = .ok (.istore_n 2, 1) := DX7_automorphisms_c0.2.1
theorem dX7_automorphisms_2 : decode cX7_automorphisms 2 = .ok (.iconst 0, 1) := DX7_automorphisms_c0.2.2.1
theorem dX7_automorphisms_3 : decode cX7_automorphisms 3 = .ok (.istore_n 3, 1) := DX7_automorphisms_c0.2.2.2.1
theorem dX7_automorphisms_4 : decode cX7_automorphisms 4 = .ok (.iload_n 3, 1) := DX7_automorphisms_c0.2.2.2.2.1
theorem dX7_automorphisms_5 : decode cX7_automorphisms 5 = .ok (.aload_n 1, 1) := DX7_automorphisms_c0.2.2.2.2.2.1
theorem dX7_automorphisms_6 : decode cX7_automorphisms 6 = .ok (.invokevirtual 22, 3) := DX7_automorphisms_c0.2.2.2.2.2.2.1
theorem dX7_automorphisms_9 : decode cX7_automorphisms 9 = .ok (.if_icmp .ge 50, 3) := DX7_automorphisms_c0.2.2.2.2.2.2.2.1
theorem dX7_automorphisms_12 : decode cX7_automorphisms 12 = .ok (.iconst 0, 1) := DX7_automorphisms_c0.2.2.2.2.2.2.2.2.1
theorem dX7_automorphisms_13 : decode cX7_automorphisms 13 = .ok (.istore 4, 2) := DX7_automorphisms_c0.2.2.2.2.2.2.2.2.2
set_option maxRecDepth 100000 in
theorem DX7_automorphisms_c1 : decode cX7_automorphisms 15 = .ok (.iload_n 3, 1) ∧ decode cX7_automorphisms 16 = .ok (.istore 5, 2) ∧ decode cX7_automorphisms 18 = .ok (.iload 5, 2) ∧ decode cX7_automorphisms 20 = .ok (.aload_n 1, 1) ∧ decode cX7_automorphisms 21 = .ok (.invokevirtual 22, 3) ∧ decode cX7_automorphisms 24 = .ok (.if_icmp .ge 24, 3) ∧ decode cX7_automorphisms 27 = .ok (.aload_n 0, 1) ∧ decode cX7_automorphisms 28 = .ok (.aload_n 1, 1) ∧ decode cX7_automorphisms 29 = .ok (.iload_n 3, 1) ∧ decode cX7_automorphisms 30 = .ok (.iload_n 3, 1) := by decide +kernel
theorem dX7_automorphisms_15 : decode cX7_automorphisms 15 = .ok (.iload_n 3, 1) := DX7_automorphisms_c1.1
theorem dX7_automorphisms_16 : decode cX7_automorphisms 16 = .ok (.istore 5, 2) := DX7_automorphisms_c1.2.1
theorem dX7_automorphisms_18 : decode cX7_automorphisms 18 = .ok (.iload 5, 2) := DX7_automorphisms_c1.2.2.1
theorem dX7_automorphisms_20 : decode cX7_automorphisms 20 = .ok (.aload_n 1, 1) := DX7_automorphisms_c1.2.2.2.1
theorem dX7_automorphisms_21 : decode cX7_automorphisms 21 = .ok (.invokevirtual 22, 3) := DX7_automorphisms_c1.2.2.2.2.1
theorem dX7_automorphisms_24 : decode cX7_automorphisms 24 = .ok (.if_icmp .ge 24, 3) := DX7_automorphisms_c1.2.2.2.2.2.1
theorem dX7_automorphisms_27 : decode cX7_automorphisms 27 = .ok (.aload_n 0, 1) := DX7_automorphisms_c1.2.2.2.2.2.2.1
theorem dX7_automorphisms_28 : decode cX7_automorphisms 28 = .ok (.aload_n 1, 1) := DX7_automorphisms_c1.2.2.2.2.2.2.2.1
theorem dX7_automorphisms_29 : decode cX7_automorphisms 29 = .ok (.iload_n 3, 1) := DX7_automorphisms_c1.2.2.2.2.2.2.2.2.1
theorem dX7_automorphisms_30 : decode cX7_automorphisms 30 = .ok (.iload_n 3, 1) := DX7_automorphisms_c1.2.2.2.2.2.2.2.2.2
set_option maxRecDepth 100000 in
theorem DX7_automorphisms_c2 : decode cX7_automorphisms 31 = .ok (.iload 5, 2) ∧ decode cX7_automorphisms 33 = .ok (.invokevirtual 49, 3) ∧ decode cX7_automorphisms 36 = .ok (.ifCond .eq 6, 3) ∧ decode cX7_automorphisms 39 = .ok (.iinc 4 1, 3) ∧ decode cX7_automorphisms 42 = .ok (.iinc 5 1, 3) ∧ decode cX7_automorphisms 45 = .ok (.goto (-27), 3) ∧ decode cX7_automorphisms 48 = .ok (.iload_n 2, 1) ∧ decode cX7_automorphisms 49 = .ok (.iload 4, 2) ∧ decode cX7_automorphisms 51 = .ok (.imul, 1) ∧ decode cX7_automorphisms 52 = .ok (.istore_n 2, 1) := by decide +kernel
theorem dX7_automorphisms_31 : decode cX7_automorphisms 31 = .ok (.iload 5, 2) := DX7_automorphisms_c2.1
theorem dX7_automorphisms_33 : decode cX7_automorphisms 33 = .ok (.invokevirtual 49, 3) := DX7_automorphisms_c2.2.1
theorem dX7_automorphisms_36 : decode cX7_automorphisms 36 = .ok (.ifCond .eq 6, 3) := DX7_automorphisms_c2.2.2.1
theorem dX7_automorphisms_39 : decode cX7_automorphisms 39 = .ok (.iinc 4 1, 3) := DX7_automorphisms_c2.2.2.2.1
theorem dX7_automorphisms_42 : decode cX7_automorphisms 42 = .ok (.iinc 5 1, 3) := DX7_automorphisms_c2.2.2.2.2.1
theorem dX7_automorphisms_45 : decode cX7_automorphisms 45 = .ok (.goto (-27), 3) := DX7_automorphisms_c2.2.2.2.2.2.1
theorem dX7_automorphisms_48 : decode cX7_automorphisms 48 = .ok (.iload_n 2, 1) := DX7_automorphisms_c2.2.2.2.2.2.2.1
theorem dX7_automorphisms_49 : decode cX7_automorphisms 49 = .ok (.iload 4, 2) := DX7_automorphisms_c2.2.2.2.2.2.2.2.1
theorem dX7_automorphisms_51 : decode cX7_automorphisms 51 = .ok (.imul, 1) := DX7_automorphisms_c2.2.2.2.2.2.2.2.2.1
theorem dX7_automorphisms_52 : decode cX7_automorphisms 52 = .ok (.istore_n 2, 1) := DX7_automorphisms_c2.2.2.2.2.2.2.2.2.2
set_option maxRecDepth 100000 in
theorem DX7_automorphisms_c3 : decode cX7_automorphisms 53 = .ok (.iinc 3 1, 3) ∧ decode cX7_automorphisms 56 = .ok (.goto (-52), 3) ∧ decode cX7_automorphisms 59 = .ok (.iload_n 2, 1) ∧ decode cX7_automorphisms 60 = .ok (.ireturn, 1) := by decide +kernel
theorem dX7_automorphisms_53 : decode cX7_automorphisms 53 = .ok (.iinc 3 1, 3) := DX7_automorphisms_c3.1
theorem dX7_automorphisms_56 : decode cX7_automorphisms 56 = .ok (.goto (-52), 3) := DX7_automorphisms_c3.2.1
theorem dX7_automorphisms_59 : decode cX7_automorphisms 59 = .ok (.iload_n 2, 1) := DX7_automorphisms_c3.2.2.1
theorem dX7_automorphisms_60 : decode cX7_automorphisms 60 = .ok (.ireturn, 1) := DX7_automorphisms_c3.2.2.2
set_option maxRecDepth 100000 in
theorem DX7_similarTo_c0 : decode cX7_similarTo 0 = .ok (.iconst 0, 1) ∧ decode cX7_similarTo 1 = .ok (.istore_n 3, 1) ∧ decode cX7_similarTo 2 = .ok (.iconst 0, 1) ∧ decode cX7_similarTo 3 = .ok (.istore 4, 2) ∧ decode cX7_similarTo 5 = .ok (.iload 4, 2) ∧ decode cX7_similarTo 7 = .ok (.aload_n 1, 1) ∧ decode cX7_similarTo 8 = .ok (.invokevirtual 22, 3) ∧ decode cX7_similarTo 11 = .ok (.if_icmp .ge 34, 3) ∧ decode cX7_similarTo 14 = .ok (.iload 4, 2) ∧ decode cX7_similarTo 16 = .ok (.iload_n 2, 1) := by decide +kernel
theorem dX7_similarTo_0 : decode cX7_similarTo 0 = .ok (.iconst 0, 1) := DX7_similarTo_c0.1
theorem dX7_similarTo_1 : decode cX7_similarTo 1 = .ok (.istore_n 3, 1) := DX7_similarTo_c0.2.1
theorem dX7_similarTo_2 : decode cX7_similarTo 2 = .ok (.iconst 0, 1) := DX7_similarTo_c0.2.2.1
theorem dX7_similarTo_3 : decode cX7_similarTo 3 = .ok (.istore 4, 2) := DX7_similarTo_c0.2.2.2.1
theorem dX7_similarTo_5 : decode cX7_similarTo 5 = .ok (.iload 4, 2) := DX7_similarTo_c0.2.2.2.2.1
theorem dX7_similarTo_7 : decode cX7_similarTo 7 = .ok (.aload_n 1, 1) := DX7_similarTo_c0.2.2.2.2.2.1
theorem dX7_similarTo_8 : decode cX7_similarTo 8 = .ok (.invokevirtual 22, 3) := DX7_similarTo_c0.2.2.2.2.2.2.1
theorem dX7_similarTo_11 : decode cX7_similarTo 11 = .ok (.if_icmp .ge 34, 3) := DX7_similarTo_c0.2.2.2.2.2.2.2.1
theorem dX7_similarTo_14 : decode cX7_similarTo 14 = .ok (.iload 4, 2) := DX7_similarTo_c0.2.2.2.2.2.2.2.2.1
theorem dX7_similarTo_16 : decode cX7_similarTo 16 = .ok (.iload_n 2, 1) := DX7_similarTo_c0.2.2.2.2.2.2.2.2.2
set_option maxRecDepth 100000 in
theorem DX7_similarTo_c1 : decode cX7_similarTo 17 = .ok (.if_icmp .eq 22, 3) ∧ decode cX7_similarTo 20 = .ok (.aload_n 0, 1) ∧ decode cX7_similarTo 21 = .ok (.aload_n 1, 1) ∧ decode cX7_similarTo 22 = .ok (.iconst 0, 1) ∧ decode cX7_similarTo 23 = .ok (.iload_n 2, 1) ∧ decode cX7_similarTo 24 = .ok (.iload 4, 2) ∧ decode cX7_similarTo 26 = .ok (.invokevirtual 49, 3) ∧ decode cX7_similarTo 29 = .ok (.ifCond .eq 10, 3) ∧ decode cX7_similarTo 32 = .ok (.iload_n 3, 1) ∧ decode cX7_similarTo 33 = .ok (.iconst 1, 1) := by decide +kernel
theorem dX7_similarTo_17 : decode cX7_similarTo 17 = .ok (.if_icmp .eq 22, 3) := DX7_similarTo_c1.1
theorem dX7_similarTo_20 : decode cX7_similarTo 20 = .ok (.aload_n 0, 1) := DX7_similarTo_c1.2.1
theorem dX7_similarTo_21 : decode cX7_similarTo 21 = .ok (.aload_n 1, 1) := DX7_similarTo_c1.2.2.1
theorem dX7_similarTo_22 : decode cX7_similarTo 22 = .ok (.iconst 0, 1) := DX7_similarTo_c1.2.2.2.1
theorem dX7_similarTo_23 : decode cX7_similarTo 23 = .ok (.iload_n 2, 1) := DX7_similarTo_c1.2.2.2.2.1
theorem dX7_similarTo_24 : decode cX7_similarTo 24 = .ok (.iload 4, 2) := DX7_similarTo_c1.2.2.2.2.2.1
theorem dX7_similarTo_26 : decode cX7_similarTo 26 = .ok (.invokevirtual 49, 3) := DX7_similarTo_c1.2.2.2.2.2.2.1
theorem dX7_similarTo_29 : decode cX7_similarTo 29 = .ok (.ifCond .eq 10, 3) := DX7_similarTo_c1.2.2.2.2.2.2.2.1
theorem dX7_similarTo_32 : decode cX7_similarTo 32 = .ok (.iload_n 3, 1) := DX7_similarTo_c1.2.2.2.2.2.2.2.2.1
theorem dX7_similarTo_33 : decode cX7_similarTo 33 = .ok (.iconst 1, 1) := DX7_similarTo_c1.2.2.2.2.2.2.2.2.2
set_option maxRecDepth 100000 in
theorem DX7_similarTo_c2 : decode cX7_similarTo 34 = .ok (.iload 4, 2) ∧ decode cX7_similarTo 36 = .ok (.ishl, 1) ∧ decode cX7_similarTo 37 = .ok (.ior, 1) ∧ decode cX7_similarTo 38 = .ok (.istore_n 3, 1) ∧ decode cX7_similarTo 39 = .ok (.iinc 4 1, 3) ∧ decode cX7_similarTo 42 = .ok (.goto (-37), 3) ∧ decode cX7_similarTo 45 = .ok (.iload_n 3, 1) ∧ decode cX7_similarTo 46 = .ok (.ireturn, 1) := by decide +kernel
theorem dX7_similarTo_34 : decode cX7_similarTo 34 = .ok (.iload 4, 2) := DX7_similarTo_c2.1
theorem dX7_similarTo_36 : decode cX7_similarTo 36 = .ok (.ishl, 1) := DX7_similarTo_c2.2.1
theorem dX7_similarTo_37 : decode cX7_similarTo 37 = .ok (.ior, 1) := DX7_similarTo_c2.2.2.1
theorem dX7_similarTo_38 : decode cX7_similarTo 38 = .ok (.istore_n 3, 1) := DX7_similarTo_c2.2.2.2.1
theorem dX7_similarTo_39 : decode cX7_similarTo 39 = .ok (.iinc 4 1, 3) := DX7_similarTo_c2.2.2.2.2.1
theorem dX7_similarTo_42 : decode cX7_similarTo 42 = .ok (.goto (-37), 3) := DX7_similarTo_c2.2.2.2.2.2.1
theorem dX7_similarTo_45 : decode cX7_similarTo 45 = .ok (.iload_n 3, 1) := DX7_similarTo_c2.2.2.2.2.2.2.1
theorem dX7_similarTo_46 : decode cX7_similarTo 46 = .ok (.ireturn, 1) := DX7_similarTo_c2.2.2.2.2.2.2.2
set_option maxRecDepth 100000 in
theorem DX7_classes_c0 : decode cX7_classes 0 = .ok (.iconst 0, 1) ∧ decode cX7_classes 1 = .ok (.istore_n 2, 1) ∧ decode cX7_classes 2 = .ok (.iconst 1, 1) ∧ decode cX7_classes 3 = .ok (.aload_n 1, 1) ∧ decode cX7_classes 4 = .ok (.invokevirtual 22, 3) ∧ decode cX7_classes 7 = .ok (.ishl, 1) ∧ decode cX7_classes 8 = .ok (.iconst 1, 1) ∧ decode cX7_classes 9 = .ok (.isub, 1) ∧ decode cX7_classes 10 = .ok (.istore_n 3, 1) ∧ decode cX7_classes 11 = .ok (.iconst 0, 1) := by decide +kernel
theorem dX7_classes_0 : decode cX7_classes 0 = .ok (.iconst 0, 1) := DX7_classes_c0.1
theorem dX7_classes_1 : decode cX7_classes 1 = .ok (.istore_n 2, 1) := DX7_classes_c0.2.1
theorem dX7_classes_2 : decode cX7_classes 2 = .ok (.iconst 1, 1) := DX7_classes_c0.2.2.1
theorem dX7_classes_3 : decode cX7_classes 3 = .ok (.aload_n 1, 1) := DX7_classes_c0.2.2.2.1
theorem dX7_classes_4 : decode cX7_classes 4 = .ok (.invokevirtual 22, 3) := DX7_classes_c0.2.2.2.2.1
theorem dX7_classes_7 : decode cX7_classes 7 = .ok (.ishl, 1) := DX7_classes_c0.2.2.2.2.2.1
theorem dX7_classes_8 : decode cX7_classes 8 = .ok (.iconst 1, 1) := DX7_classes_c0.2.2.2.2.2.2.1
theorem dX7_classes_9 : decode cX7_classes 9 = .ok (.isub, 1) := DX7_classes_c0.2.2.2.2.2.2.2.1
theorem dX7_classes_10 : decode cX7_classes 10 = .ok (.istore_n 3, 1) := DX7_classes_c0.2.2.2.2.2.2.2.2.1
theorem dX7_classes_11 : decode cX7_classes 11 = .ok (.iconst 0, 1) := DX7_classes_c0.2.2.2.2.2.2.2.2.2
set_option maxRecDepth 100000 in
theorem DX7_classes_c1 : decode cX7_classes 12 = .ok (.istore 4, 2) ∧ decode cX7_classes 14 = .ok (.iload 4, 2) ∧ decode cX7_classes 16 = .ok (.aload_n 1, 1) ∧ decode cX7_classes 17 = .ok (.invokevirtual 22, 3) ∧ decode cX7_classes 20 = .ok (.if_icmp .ge 34, 3) ∧ decode cX7_classes 23 = .ok (.iload_n 3, 1) ∧ decode cX7_classes 24 = .ok (.iload 4, 2) ∧ decode cX7_classes 26 = .ok (.ishr, 1) ∧ decode cX7_classes 27 = .ok (.iconst 1, 1) ∧ decode cX7_classes 28 = .ok (.iand, 1) := by decide +kernel
theorem dX7_classes_12 : decode cX7_classes 12 = .ok (.istore 4, 2) := DX7_classes_c1.1
theorem dX7_classes_14 : decode cX7_classes 14 = .ok (.iload 4, 2) := DX7_classes_c1.2.1
theorem dX7_classes_16 : decode cX7_classes 16 = .ok (.aload_n 1, 1) := DX7_classes_c1.2.2.1
theorem dX7_classes_17 : decode cX7_classes 17 = .ok (.invokevirtual 22, 3) := DX7_classes_c1.2.2.2.1
theorem dX7_classes_20 : decode cX7_classes 20 = .ok (.if_icmp .ge 34, 3) := DX7_classes_c1.2.2.2.2.1
theorem dX7_classes_23 : decode cX7_classes 23 = .ok (.iload_n 3, 1) := DX7_classes_c1.2.2.2.2.2.1
theorem dX7_classes_24 : decode cX7_classes 24 = .ok (.iload 4, 2) := DX7_classes_c1.2.2.2.2.2.2.1
theorem dX7_classes_26 : decode cX7_classes 26 = .ok (.ishr, 1) := DX7_classes_c1.2.2.2.2.2.2.2.1
theorem dX7_classes_27 : decode cX7_classes 27 = .ok (.iconst 1, 1) := DX7_classes_c1.2.2.2.2.2.2.2.2.1
theorem dX7_classes_28 : decode cX7_classes 28 = .ok (.iand, 1) := DX7_classes_c1.2.2.2.2.2.2.2.2.2
set_option maxRecDepth 100000 in
theorem DX7_classes_c2 : decode cX7_classes 29 = .ok (.iconst 1, 1) ∧ decode cX7_classes 30 = .ok (.if_icmp .ne 18, 3) ∧ decode cX7_classes 33 = .ok (.iinc 2 1, 3) ∧ decode cX7_classes 36 = .ok (.iload_n 3, 1) ∧ decode cX7_classes 37 = .ok (.aload_n 0, 1) ∧ decode cX7_classes 38 = .ok (.aload_n 1, 1) ∧ decode cX7_classes 39 = .ok (.iload 4, 2) ∧ decode cX7_classes 41 = .ok (.invokevirtual 53, 3) ∧ decode cX7_classes 44 = .ok (.iconst (-1), 1) ∧ decode cX7_classes 45 = .ok (.ixor, 1) := by decide +kernel
theorem dX7_classes_29 : decode cX7_classes 29 = .ok (.iconst 1, 1) := DX7_classes_c2.1
theorem dX7_classes_30 : decode cX7_classes 30 = .ok (.if_icmp .ne 18, 3) := DX7_classes_c2.2.1
theorem dX7_classes_33 : decode cX7_classes 33 = .ok (.iinc 2 1, 3) := DX7_classes_c2.2.2.1
theorem dX7_classes_36 : decode cX7_classes 36 = .ok (.iload_n 3, 1) := DX7_classes_c2.2.2.2.1
theorem dX7_classes_37 : decode cX7_classes 37 = .ok (.aload_n 0, 1) := DX7_classes_c2.2.2.2.2.1
theorem dX7_classes_38 : decode cX7_classes 38 = .ok (.aload_n 1, 1) := DX7_classes_c2.2.2.2.2.2.1
theorem dX7_classes_39 : decode cX7_classes 39 = .ok (.iload 4, 2) := DX7_classes_c2.2.2.2.2.2.2.1
theorem dX7_classes_41 : decode cX7_classes 41 = .ok (.invokevirtual 53, 3) := DX7_classes_c2.2.2.2.2.2.2.2.1
theorem dX7_classes_44 : decode cX7_classes 44 = .ok (.iconst (-1), 1) := DX7_classes_c2.2.2.2.2.2.2.2.2.1
theorem dX7_classes_45 : decode cX7_classes 45 = .ok (.ixor, 1) := DX7_classes_c2.2.2.2.2.2.2.2.2.2
set_option maxRecDepth 100000 in
theorem DX7_classes_c3 : decode cX7_classes 46 = .ok (.iand, 1) ∧ decode cX7_classes 47 = .ok (.istore_n 3, 1) ∧ decode cX7_classes 48 = .ok (.iinc 4 1, 3) ∧ decode cX7_classes 51 = .ok (.goto (-37), 3) ∧ decode cX7_classes 54 = .ok (.iload_n 2, 1) ∧ decode cX7_classes 55 = .ok (.ireturn, 1) := by decide +kernel
theorem dX7_classes_46 : decode cX7_classes 46 = .ok (.iand, 1) := DX7_classes_c3.1
theorem dX7_classes_47 : decode cX7_classes 47 = .ok (.istore_n 3, 1) := DX7_classes_c3.2.1
theorem dX7_classes_48 : decode cX7_classes 48 = .ok (.iinc 4 1, 3) := DX7_classes_c3.2.2.1
theorem dX7_classes_51 : decode cX7_classes 51 = .ok (.goto (-37), 3) := DX7_classes_c3.2.2.2.1
theorem dX7_classes_54 : decode cX7_classes 54 = .ok (.iload_n 2, 1) := DX7_classes_c3.2.2.2.2.1
theorem dX7_classes_55 : decode cX7_classes 55 = .ok (.ireturn, 1) := DX7_classes_c3.2.2.2.2.2
set_option maxRecDepth 100000 in
theorem DX8_init_c0 : decode cX8_init 0 = .ok (.aload_n 0, 1) ∧ decode cX8_init 1 = .ok (.invokespecial 1, 3) ∧ decode cX8_init 4 = .ok (.aload_n 0, 1) ∧ decode cX8_init 5 = .ok (.new 7, 3) ∧ decode cX8_init 8 = .ok (.dup, 1) ∧ decode cX8_init 9 = .ok (.invokespecial 9, 3) ∧ decode cX8_init 12 = .ok (.putfield 10, 3) ∧ decode cX8_init 15 = .ok (.aload_n 0, 1) ∧ decode cX8_init 16 = .ok (.new 16, 3) ∧ decode cX8_init 19 = .ok (.dup, 1) := by decide +kernel
theorem dX8_init_0 : decode cX8_init 0 = .ok (.aload_n 0, 1) := DX8_init_c0.1
theorem dX8_init_1 : decode cX8_init 1 = .ok (.invokespecial 1, 3) := DX8_init_c0.2.1
theorem dX8_init_4 : decode cX8_init 4 = .ok (.aload_n 0, 1) := DX8_init_c0.2.2.1
theorem dX8_init_5 : decode cX8_init 5 = .ok (.new 7, 3) := DX8_init_c0.2.2.2.1
theorem dX8_init_8 : decode cX8_init 8 = .ok (.dup, 1) := DX8_init_c0.2.2.2.2.1
theorem dX8_init_9 : decode cX8_init 9 = .ok (.invokespecial 9, 3) := DX8_init_c0.2.2.2.2.2.1
theorem dX8_init_12 : decode cX8_init 12 = .ok (.putfield 10, 3) := DX8_init_c0.2.2.2.2.2.2.1
theorem dX8_init_15 : decode cX8_init 15 = .ok (.aload_n 0, 1) := DX8_init_c0.2.2.2.2.2.2.2.1
theorem dX8_init_16 : decode cX8_init 16 = .ok (.new 16, 3) := DX8_init_c0.2.2.2.2.2.2.2.2.1
theorem dX8_init_19 : decode cX8_init 19 = .ok (.dup, 1) := DX8_init_c0.2.2.2.2.2.2.2.2.2
set_option maxRecDepth 100000 in
theorem DX8_init_c1 : decode cX8_init 20 = .ok (.invokespecial 18, 3) ∧ decode cX8_init 23 = .ok (.putfield 19, 3) ∧ decode cX8_init 26 = .ok (.aload_n 0, 1) ∧ decode cX8_init 27 = .ok (.new 23, 3) ∧ decode cX8_init 30 = .ok (.dup, 1) ∧ decode cX8_init 31 = .ok (.invokespecial 25, 3) ∧ decode cX8_init 34 = .ok (.putfield 26, 3) ∧ decode cX8_init 37 = .ok (.aload_n 0, 1) ∧ decode cX8_init 38 = .ok (.new 30, 3) ∧ decode cX8_init 41 = .ok (.dup, 1) := by decide +kernel
theorem dX8_init_20 : decode cX8_init 20 = .ok (.invokespecial 18, 3) := DX8_init_c1.1
theorem dX8_init_23 : decode cX8_init 23 = .ok (.putfield 19, 3) := DX8_init_c1.2.1
theorem dX8_init_26 : decode cX8_init 26 = .ok (.aload_n 0, 1) := DX8_init_c1.2.2.1
theorem dX8_init_27 : decode cX8_init 27 = .ok (.new 23, 3) := DX8_init_c1.2.2.2.1
theorem dX8_init_30 : decode cX8_init 30 = .ok (.dup, 1) := DX8_init_c1.2.2.2.2.1
theorem dX8_init_31 : decode cX8_init 31 = .ok (.invokespecial 25, 3) := DX8_init_c1.2.2.2.2.2.1
theorem dX8_init_34 : decode cX8_init 34 = .ok (.putfield 26, 3) := DX8_init_c1.2.2.2.2.2.2.1
theorem dX8_init_37 : decode cX8_init 37 = .ok (.aload_n 0, 1) := DX8_init_c1.2.2.2.2.2.2.2.1
theorem dX8_init_38 : decode cX8_init 38 = .ok (.new 30, 3) := DX8_init_c1.2.2.2.2.2.2.2.2.1
theorem dX8_init_41 : decode cX8_init 41 = .ok (.dup, 1) := DX8_init_c1.2.2.2.2.2.2.2.2.2
set_option maxRecDepth 100000 in
theorem DX8_init_c2 : decode cX8_init 42 = .ok (.invokespecial 32, 3) ∧ decode cX8_init 45 = .ok (.putfield 33, 3) ∧ decode cX8_init 48 = .ok (.aload_n 0, 1) ∧ decode cX8_init 49 = .ok (.new 37, 3) ∧ decode cX8_init 52 = .ok (.dup, 1) ∧ decode cX8_init 53 = .ok (.invokespecial 39, 3) ∧ decode cX8_init 56 = .ok (.putfield 40, 3) ∧ decode cX8_init 59 = .ok (.aload_n 0, 1) ∧ decode cX8_init 60 = .ok (.new 44, 3) ∧ decode cX8_init 63 = .ok (.dup, 1) := by decide +kernel
theorem dX8_init_42 : decode cX8_init 42 = .ok (.invokespecial 32, 3) := DX8_init_c2.1
theorem dX8_init_45 : decode cX8_init 45 = .ok (.putfield 33, 3) := DX8_init_c2.2.1
theorem dX8_init_48 : decode cX8_init 48 = .ok (.aload_n 0, 1) := DX8_init_c2.2.2.1
theorem dX8_init_49 : decode cX8_init 49 = .ok (.new 37, 3) := DX8_init_c2.2.2.2.1
theorem dX8_init_52 : decode cX8_init 52 = .ok (.dup, 1) := DX8_init_c2.2.2.2.2.1
theorem dX8_init_53 : decode cX8_init 53 = .ok (.invokespecial 39, 3) := DX8_init_c2.2.2.2.2.2.1
theorem dX8_init_56 : decode cX8_init 56 = .ok (.putfield 40, 3) := DX8_init_c2.2.2.2.2.2.2.1
theorem dX8_init_59 : decode cX8_init 59 = .ok (.aload_n 0, 1) := DX8_init_c2.2.2.2.2.2.2.2.1
theorem dX8_init_60 : decode cX8_init 60 = .ok (.new 44, 3) := DX8_init_c2.2.2.2.2.2.2.2.2.1
theorem dX8_init_63 : decode cX8_init 63 = .ok (.dup, 1) := DX8_init_c2.2.2.2.2.2.2.2.2.2
set_option maxRecDepth 100000 in
theorem DX8_init_c3 : decode cX8_init 64 = .ok (.invokespecial 46, 3) ∧ decode cX8_init 67 = .ok (.putfield 47, 3) ∧ decode cX8_init 70 = .ok (.aload_n 0, 1) ∧ decode cX8_init 71 = .ok (.new 51, 3) ∧ decode cX8_init 74 = .ok (.dup, 1) ∧ decode cX8_init 75 = .ok (.invokespecial 53, 3) ∧ decode cX8_init 78 = .ok (.putfield 54, 3) ∧ decode cX8_init 81 = .ok (.aload_n 0, 1) ∧ decode cX8_init 82 = .ok (.new 16, 3) ∧ decode cX8_init 85 = .ok (.dup, 1) := by decide +kernel
theorem dX8_init_64 : decode cX8_init 64 = .ok (.invokespecial 46, 3) := DX8_init_c3.1
theorem dX8_init_67 : decode cX8_init 67 = .ok (.putfield 47, 3) := DX8_init_c3.2.1
theorem dX8_init_70 : decode cX8_init 70 = .ok (.aload_n 0, 1) := DX8_init_c3.2.2.1
theorem dX8_init_71 : decode cX8_init 71 = .ok (.new 51, 3) := DX8_init_c3.2.2.2.1
theorem dX8_init_74 : decode cX8_init 74 = .ok (.dup, 1) := DX8_init_c3.2.2.2.2.1
theorem dX8_init_75 : decode cX8_init 75 = .ok (.invokespecial 53, 3) := DX8_init_c3.2.2.2.2.2.1
theorem dX8_init_78 : decode cX8_init 78 = .ok (.putfield 54, 3) := DX8_init_c3.2.2.2.2.2.2.1
theorem dX8_init_81 : decode cX8_init 81 = .ok (.aload_n 0, 1) := DX8_init_c3.2.2.2.2.2.2.2.1
theorem dX8_init_82 : decode cX8_init 82 = .ok (.new 16, 3) := DX8_init_c3.2.2.2.2.2.2.2.2.1
theorem dX8_init_85 : decode cX8_init 85 = .ok (.dup, 1) := DX8_init_c3.2.2.2.2.2.2.2.2.2
set_option maxRecDepth 100000 in
theorem DX8_init_c4 : decode cX8_init 86 = .ok (.invokespecial 18, 3) ∧ decode cX8_init 89 = .ok (.putfield 58, 3) ∧ decode cX8_init 92 = .ok (.return_, 1) := by decide +kernel
theorem dX8_init_86 : decode cX8_init 86 = .ok (.invokespecial 18, 3) := DX8_init_c4.1
theorem dX8_init_89 : decode cX8_init 89 = .ok (.putfield 58, 3) := DX8_init_c4.2.1
theorem dX8_init_92 : decode cX8_init 92 = .ok (.return_, 1) := DX8_init_c4.2.2
set_option maxRecDepth 100000 in
theorem DX8_begin_c0 : decode cX8_begin 0 = .ok (.iload_n 1, 1) ∧ decode cX8_begin 1 = .ok (.iconst 1, 1) ∧ decode cX8_begin 2 = .ok (.if_icmp .lt 9, 3) ∧ decode cX8_begin 5 = .ok (.iload_n 1, 1) ∧ decode cX8_begin 6 = .ok (.bipush 8, 2) ∧ decode cX8_begin 8 = .ok (.if_icmp .le 5, 3) ∧ decode cX8_begin 11 = .ok (.iconst (-1), 1) ∧ decode cX8_begin 12 = .ok (.ireturn, 1) ∧ decode cX8_begin 13 = .ok (.aload_n 0, 1) ∧ decode cX8_begin 14 = .ok (.getfield 10, 3) := by decide +kernel
theorem dX8_begin_0 : decode cX8_begin 0 = .ok (.iload_n 1, 1) := DX8_begin_c0.1
theorem dX8_begin_1 : decode cX8_begin 1 = .ok (.iconst 1, 1) := DX8_begin_c0.2.1
theorem dX8_begin_2 : decode cX8_begin 2 = .ok (.if_icmp .lt 9, 3) := DX8_begin_c0.2.2.1
theorem dX8_begin_5 : decode cX8_begin 5 = .ok (.iload_n 1, 1) := DX8_begin_c0.2.2.2.1
theorem dX8_begin_6 : decode cX8_begin 6 = .ok (.bipush 8, 2) := DX8_begin_c0.2.2.2.2.1
theorem dX8_begin_8 : decode cX8_begin 8 = .ok (.if_icmp .le 5, 3) := DX8_begin_c0.2.2.2.2.2.1
theorem dX8_begin_11 : decode cX8_begin 11 = .ok (.iconst (-1), 1) := DX8_begin_c0.2.2.2.2.2.2.1
theorem dX8_begin_12 : decode cX8_begin 12 = .ok (.ireturn, 1) := DX8_begin_c0.2.2.2.2.2.2.2.1
theorem dX8_begin_13 : decode cX8_begin 13 = .ok (.aload_n 0, 1) := DX8_begin_c0.2.2.2.2.2.2.2.2.1
theorem dX8_begin_14 : decode cX8_begin 14 = .ok (.getfield 10, 3) := DX8_begin_c0.2.2.2.2.2.2.2.2.2
set_option maxRecDepth 100000 in
theorem DX8_begin_c1 : decode cX8_begin 17 = .ok (.invokevirtual 61, 3) ∧ decode cX8_begin 20 = .ok (.istore_n 2, 1) ∧ decode cX8_begin 21 = .ok (.aload_n 0, 1) ∧ decode cX8_begin 22 = .ok (.getfield 26, 3) ∧ decode cX8_begin 25 = .ok (.aload_n 0, 1) ∧ decode cX8_begin 26 = .ok (.getfield 10, 3) ∧ decode cX8_begin 29 = .ok (.aload_n 0, 1) ∧ decode cX8_begin 30 = .ok (.getfield 19, 3) ∧ decode cX8_begin 33 = .ok (.invokevirtual 65, 3) ∧ decode cX8_begin 36 = .ok (.aload_n 0, 1) := by decide +kernel
theorem dX8_begin_17 : decode cX8_begin 17 = .ok (.invokevirtual 61, 3) := DX8_begin_c1.1
theorem dX8_begin_20 : decode cX8_begin 20 = .ok (.istore_n 2, 1) := DX8_begin_c1.2.1
theorem dX8_begin_21 : decode cX8_begin 21 = .ok (.aload_n 0, 1) := DX8_begin_c1.2.2.1
theorem dX8_begin_22 : decode cX8_begin 22 = .ok (.getfield 26, 3) := DX8_begin_c1.2.2.2.1
theorem dX8_begin_25 : decode cX8_begin 25 = .ok (.aload_n 0, 1) := DX8_begin_c1.2.2.2.2.1
theorem dX8_begin_26 : decode cX8_begin 26 = .ok (.getfield 10, 3) := DX8_begin_c1.2.2.2.2.2.1
theorem dX8_begin_29 : decode cX8_begin 29 = .ok (.aload_n 0, 1) := DX8_begin_c1.2.2.2.2.2.2.1
theorem dX8_begin_30 : decode cX8_begin 30 = .ok (.getfield 19, 3) := DX8_begin_c1.2.2.2.2.2.2.2.1
theorem dX8_begin_33 : decode cX8_begin 33 = .ok (.invokevirtual 65, 3) := DX8_begin_c1.2.2.2.2.2.2.2.2.1
theorem dX8_begin_36 : decode cX8_begin 36 = .ok (.aload_n 0, 1) := DX8_begin_c1.2.2.2.2.2.2.2.2.2
set_option maxRecDepth 100000 in
theorem DX8_begin_c2 : decode cX8_begin 37 = .ok (.getfield 10, 3) ∧ decode cX8_begin 40 = .ok (.iload_n 1, 1) ∧ decode cX8_begin 41 = .ok (.iconst 0, 1) ∧ decode cX8_begin 42 = .ok (.invokevirtual 69, 3) ∧ decode cX8_begin 45 = .ok (.iload_n 2, 1) ∧ decode cX8_begin 46 = .ok (.ireturn, 1) := by decide +kernel
theorem dX8_begin_37 : decode cX8_begin 37 = .ok (.getfield 10, 3) := DX8_begin_c2.1
theorem dX8_begin_40 : decode cX8_begin 40 = .ok (.iload_n 1, 1) := DX8_begin_c2.2.1
theorem dX8_begin_41 : decode cX8_begin 41 = .ok (.iconst 0, 1) := DX8_begin_c2.2.2.1
theorem dX8_begin_42 : decode cX8_begin 42 = .ok (.invokevirtual 69, 3) := DX8_begin_c2.2.2.2.1
theorem dX8_begin_45 : decode cX8_begin 45 = .ok (.iload_n 2, 1) := DX8_begin_c2.2.2.2.2.1
theorem dX8_begin_46 : decode cX8_begin 46 = .ok (.ireturn, 1) := DX8_begin_c2.2.2.2.2.2
set_option maxRecDepth 100000 in
theorem DX8_edge_c0 : decode cX8_edge 0 = .ok (.aload_n 0, 1) ∧ decode cX8_edge 1 = .ok (.getfield 10, 3) ∧ decode cX8_edge 4 = .ok (.iload_n 1, 1) ∧ decode cX8_edge 5 = .ok (.invokevirtual 73, 3) ∧ decode cX8_edge 8 = .ok (.ifCond .eq 28, 3) ∧ decode cX8_edge 11 = .ok (.aload_n 0, 1) ∧ decode cX8_edge 12 = .ok (.getfield 10, 3) ∧ decode cX8_edge 15 = .ok (.iload_n 2, 1) ∧ decode cX8_edge 16 = .ok (.invokevirtual 73, 3) ∧ decode cX8_edge 19 = .ok (.ifCond .eq 17, 3) := by decide +kernel
theorem dX8_edge_0 : decode cX8_edge 0 = .ok (.aload_n 0, 1) := DX8_edge_c0.1
theorem dX8_edge_1 : decode cX8_edge 1 = .ok (.getfield 10, 3) := DX8_edge_c0.2.1
theorem dX8_edge_4 : decode cX8_edge 4 = .ok (.iload_n 1, 1) := DX8_edge_c0.2.2.1
theorem dX8_edge_5 : decode cX8_edge 5 = .ok (.invokevirtual 73, 3) := DX8_edge_c0.2.2.2.1
theorem dX8_edge_8 : decode cX8_edge 8 = .ok (.ifCond .eq 28, 3) := DX8_edge_c0.2.2.2.2.1
theorem dX8_edge_11 : decode cX8_edge 11 = .ok (.aload_n 0, 1) := DX8_edge_c0.2.2.2.2.2.1
theorem dX8_edge_12 : decode cX8_edge 12 = .ok (.getfield 10, 3) := DX8_edge_c0.2.2.2.2.2.2.1
theorem dX8_edge_15 : decode cX8_edge 15 = .ok (.iload_n 2, 1) := DX8_edge_c0.2.2.2.2.2.2.2.1
theorem dX8_edge_16 : decode cX8_edge 16 = .ok (.invokevirtual 73, 3) := DX8_edge_c0.2.2.2.2.2.2.2.2.1
theorem dX8_edge_19 : decode cX8_edge 19 = .ok (.ifCond .eq 17, 3) := DX8_edge_c0.2.2.2.2.2.2.2.2.2
set_option maxRecDepth 100000 in
theorem DX8_edge_c1 : decode cX8_edge 22 = .ok (.iload_n 1, 1) ∧ decode cX8_edge 23 = .ok (.iload_n 2, 1) ∧ decode cX8_edge 24 = .ok (.if_icmp .eq 12, 3) ∧ decode cX8_edge 27 = .ok (.iload_n 3, 1) ∧ decode cX8_edge 28 = .ok (.ifCond .lt 8, 3) ∧ decode cX8_edge 31 = .ok (.iload_n 3, 1) ∧ decode cX8_edge 32 = .ok (.iconst 1, 1) ∧ decode cX8_edge 33 = .ok (.if_icmp .le 5, 3) ∧ decode cX8_edge 36 = .ok (.iconst (-1), 1) ∧ decode cX8_edge 37 = .ok (.ireturn, 1) := by decide +kernel
theorem dX8_edge_22 : decode cX8_edge 22 = .ok (.iload_n 1, 1) := DX8_edge_c1.1
theorem dX8_edge_23 : decode cX8_edge 23 = .ok (.iload_n 2, 1) := DX8_edge_c1.2.1
theorem dX8_edge_24 : decode cX8_edge 24 = .ok (.if_icmp .eq 12, 3) := DX8_edge_c1.2.2.1
theorem dX8_edge_27 : decode cX8_edge 27 = .ok (.iload_n 3, 1) := DX8_edge_c1.2.2.2.1
theorem dX8_edge_28 : decode cX8_edge 28 = .ok (.ifCond .lt 8, 3) := DX8_edge_c1.2.2.2.2.1
theorem dX8_edge_31 : decode cX8_edge 31 = .ok (.iload_n 3, 1) := DX8_edge_c1.2.2.2.2.2.1
theorem dX8_edge_32 : decode cX8_edge 32 = .ok (.iconst 1, 1) := DX8_edge_c1.2.2.2.2.2.2.1
theorem dX8_edge_33 : decode cX8_edge 33 = .ok (.if_icmp .le 5, 3) := DX8_edge_c1.2.2.2.2.2.2.2.1
theorem dX8_edge_36 : decode cX8_edge 36 = .ok (.iconst (-1), 1) := DX8_edge_c1.2.2.2.2.2.2.2.2.1
theorem dX8_edge_37 : decode cX8_edge 37 = .ok (.ireturn, 1) := DX8_edge_c1.2.2.2.2.2.2.2.2.2
set_option maxRecDepth 100000 in
theorem DX8_edge_c2 : decode cX8_edge 38 = .ok (.aload_n 0, 1) ∧ decode cX8_edge 39 = .ok (.getfield 10, 3) ∧ decode cX8_edge 42 = .ok (.iload_n 1, 1) ∧ decode cX8_edge 43 = .ok (.iload_n 2, 1) ∧ decode cX8_edge 44 = .ok (.invokevirtual 77, 3) ∧ decode cX8_edge 47 = .ok (.istore 4, 2) ∧ decode cX8_edge 49 = .ok (.aload_n 0, 1) ∧ decode cX8_edge 50 = .ok (.getfield 26, 3) ∧ decode cX8_edge 53 = .ok (.aload_n 0, 1) ∧ decode cX8_edge 54 = .ok (.getfield 10, 3) := by decide +kernel
theorem dX8_edge_38 : decode cX8_edge 38 = .ok (.aload_n 0, 1) := DX8_edge_c2.1
theorem dX8_edge_39 : decode cX8_edge 39 = .ok (.getfield 10, 3) := DX8_edge_c2.2.1
theorem dX8_edge_42 : decode cX8_edge 42 = .ok (.iload_n 1, 1) := DX8_edge_c2.2.2.1
theorem dX8_edge_43 : decode cX8_edge 43 = .ok (.iload_n 2, 1) := DX8_edge_c2.2.2.2.1
theorem dX8_edge_44 : decode cX8_edge 44 = .ok (.invokevirtual 77, 3) := DX8_edge_c2.2.2.2.2.1
theorem dX8_edge_47 : decode cX8_edge 47 = .ok (.istore 4, 2) := DX8_edge_c2.2.2.2.2.2.1
theorem dX8_edge_49 : decode cX8_edge 49 = .ok (.aload_n 0, 1) := DX8_edge_c2.2.2.2.2.2.2.1
theorem dX8_edge_50 : decode cX8_edge 50 = .ok (.getfield 26, 3) := DX8_edge_c2.2.2.2.2.2.2.2.1
theorem dX8_edge_53 : decode cX8_edge 53 = .ok (.aload_n 0, 1) := DX8_edge_c2.2.2.2.2.2.2.2.2.1
theorem dX8_edge_54 : decode cX8_edge 54 = .ok (.getfield 10, 3) := DX8_edge_c2.2.2.2.2.2.2.2.2.2
set_option maxRecDepth 100000 in
theorem DX8_edge_c3 : decode cX8_edge 57 = .ok (.aload_n 0, 1) ∧ decode cX8_edge 58 = .ok (.getfield 19, 3) ∧ decode cX8_edge 61 = .ok (.invokevirtual 65, 3) ∧ decode cX8_edge 64 = .ok (.aload_n 0, 1) ∧ decode cX8_edge 65 = .ok (.getfield 10, 3) ∧ decode cX8_edge 68 = .ok (.iload_n 1, 1) ∧ decode cX8_edge 69 = .ok (.iload_n 2, 1) ∧ decode cX8_edge 70 = .ok (.iload_n 3, 1) ∧ decode cX8_edge 71 = .ok (.invokevirtual 81, 3) ∧ decode cX8_edge 74 = .ok (.iload 4, 2) := by decide +kernel
theorem dX8_edge_57 : decode cX8_edge 57 = .ok (.aload_n 0, 1) := DX8_edge_c3.1
theorem dX8_edge_58 : decode cX8_edge 58 = .ok (.getfield 19, 3) := DX8_edge_c3.2.1
theorem dX8_edge_61 : decode cX8_edge 61 = .ok (.invokevirtual 65, 3) := DX8_edge_c3.2.2.1
theorem dX8_edge_64 : decode cX8_edge 64 = .ok (.aload_n 0, 1) := DX8_edge_c3.2.2.2.1
theorem dX8_edge_65 : decode cX8_edge 65 = .ok (.getfield 10, 3) := DX8_edge_c3.2.2.2.2.1
theorem dX8_edge_68 : decode cX8_edge 68 = .ok (.iload_n 1, 1) := DX8_edge_c3.2.2.2.2.2.1
theorem dX8_edge_69 : decode cX8_edge 69 = .ok (.iload_n 2, 1) := DX8_edge_c3.2.2.2.2.2.2.1
theorem dX8_edge_70 : decode cX8_edge 70 = .ok (.iload_n 3, 1) := DX8_edge_c3.2.2.2.2.2.2.2.1
theorem dX8_edge_71 : decode cX8_edge 71 = .ok (.invokevirtual 81, 3) := DX8_edge_c3.2.2.2.2.2.2.2.2.1
theorem dX8_edge_74 : decode cX8_edge 74 = .ok (.iload 4, 2) := DX8_edge_c3.2.2.2.2.2.2.2.2.2
set_option maxRecDepth 100000 in
theorem DX8_edge_c4 : decode cX8_edge 76 = .ok (.ireturn, 1) := by decide +kernel
theorem dX8_edge_76 : decode cX8_edge 76 = .ok (.ireturn, 1) := DX8_edge_c4
set_option maxRecDepth 100000 in
theorem DX8_become_c0 : decode cX8_become 0 = .ok (.aload_n 0, 1) ∧ decode cX8_become 1 = .ok (.getfield 10, 3) ∧ decode cX8_become 4 = .ok (.invokevirtual 61, 3) ∧ decode cX8_become 7 = .ok (.iload_n 1, 1) ∧ decode cX8_become 8 = .ok (.invokestatic 85, 3) ∧ decode cX8_become 11 = .ok (.ifCond .ne 5, 3) ∧ decode cX8_become 14 = .ok (.iconst (-1), 1) ∧ decode cX8_become 15 = .ok (.ireturn, 1) ∧ decode cX8_become 16 = .ok (.aload_n 0, 1) ∧ decode cX8_become 17 = .ok (.getfield 10, 3) := by decide +kernel
theorem dX8_become_0 : decode cX8_become 0 = .ok (.aload_n 0, 1) := DX8_become_c0.1
theorem dX8_become_1 : decode cX8_become 1 = .ok (.getfield 10, 3) := DX8_become_c0.2.1
theorem dX8_become_4 : decode cX8_become 4 = .ok (.invokevirtual 61, 3) := DX8_become_c0.2.2.1
theorem dX8_become_7 : decode cX8_become 7 = .ok (.iload_n 1, 1) := DX8_become_c0.2.2.2.1
theorem dX8_become_8 : decode cX8_become 8 = .ok (.invokestatic 85, 3) := DX8_become_c0.2.2.2.2.1
theorem dX8_become_11 : decode cX8_become 11 = .ok (.ifCond .ne 5, 3) := DX8_become_c0.2.2.2.2.2.1
theorem dX8_become_14 : decode cX8_become 14 = .ok (.iconst (-1), 1) := DX8_become_c0.2.2.2.2.2.2.1
theorem dX8_become_15 : decode cX8_become 15 = .ok (.ireturn, 1) := DX8_become_c0.2.2.2.2.2.2.2.1
theorem dX8_become_16 : decode cX8_become 16 = .ok (.aload_n 0, 1) := DX8_become_c0.2.2.2.2.2.2.2.2.1
theorem dX8_become_17 : decode cX8_become 17 = .ok (.getfield 10, 3) := DX8_become_c0.2.2.2.2.2.2.2.2.2
set_option maxRecDepth 100000 in
theorem DX8_become_c1 : decode cX8_become 20 = .ok (.invokevirtual 89, 3) ∧ decode cX8_become 23 = .ok (.istore_n 2, 1) ∧ decode cX8_become 24 = .ok (.aload_n 0, 1) ∧ decode cX8_become 25 = .ok (.getfield 26, 3) ∧ decode cX8_become 28 = .ok (.aload_n 0, 1) ∧ decode cX8_become 29 = .ok (.getfield 10, 3) ∧ decode cX8_become 32 = .ok (.aload_n 0, 1) ∧ decode cX8_become 33 = .ok (.getfield 19, 3) ∧ decode cX8_become 36 = .ok (.invokevirtual 65, 3) ∧ decode cX8_become 39 = .ok (.aload_n 0, 1) := by decide +kernel
theorem dX8_become_20 : decode cX8_become 20 = .ok (.invokevirtual 89, 3) := DX8_become_c1.1
theorem dX8_become_23 : decode cX8_become 23 = .ok (.istore_n 2, 1) := DX8_become_c1.2.1
theorem dX8_become_24 : decode cX8_become 24 = .ok (.aload_n 0, 1) := DX8_become_c1.2.2.1
theorem dX8_become_25 : decode cX8_become 25 = .ok (.getfield 26, 3) := DX8_become_c1.2.2.2.1
theorem dX8_become_28 : decode cX8_become 28 = .ok (.aload_n 0, 1) := DX8_become_c1.2.2.2.2.1
theorem dX8_become_29 : decode cX8_become 29 = .ok (.getfield 10, 3) := DX8_become_c1.2.2.2.2.2.1
theorem dX8_become_32 : decode cX8_become 32 = .ok (.aload_n 0, 1) := DX8_become_c1.2.2.2.2.2.2.1
theorem dX8_become_33 : decode cX8_become 33 = .ok (.getfield 19, 3) := DX8_become_c1.2.2.2.2.2.2.2.1
theorem dX8_become_36 : decode cX8_become 36 = .ok (.invokevirtual 65, 3) := DX8_become_c1.2.2.2.2.2.2.2.2.1
theorem dX8_become_39 : decode cX8_become 39 = .ok (.aload_n 0, 1) := DX8_become_c1.2.2.2.2.2.2.2.2.2
set_option maxRecDepth 100000 in
theorem DX8_become_c2 : decode cX8_become 40 = .ok (.getfield 10, 3) ∧ decode cX8_become 43 = .ok (.aload_n 0, 1) ∧ decode cX8_become 44 = .ok (.getfield 10, 3) ∧ decode cX8_become 47 = .ok (.invokevirtual 61, 3) ∧ decode cX8_become 50 = .ok (.iload_n 1, 1) ∧ decode cX8_become 51 = .ok (.invokevirtual 69, 3) ∧ decode cX8_become 54 = .ok (.iload_n 2, 1) ∧ decode cX8_become 55 = .ok (.ireturn, 1) := by decide +kernel
theorem dX8_become_40 : decode cX8_become 40 = .ok (.getfield 10, 3) := DX8_become_c2.1
theorem dX8_become_43 : decode cX8_become 43 = .ok (.aload_n 0, 1) := DX8_become_c2.2.1
theorem dX8_become_44 : decode cX8_become 44 = .ok (.getfield 10, 3) := DX8_become_c2.2.2.1
theorem dX8_become_47 : decode cX8_become 47 = .ok (.invokevirtual 61, 3) := DX8_become_c2.2.2.2.1
theorem dX8_become_50 : decode cX8_become 50 = .ok (.iload_n 1, 1) := DX8_become_c2.2.2.2.2.1
theorem dX8_become_51 : decode cX8_become 51 = .ok (.invokevirtual 69, 3) := DX8_become_c2.2.2.2.2.2.1
theorem dX8_become_54 : decode cX8_become 54 = .ok (.iload_n 2, 1) := DX8_become_c2.2.2.2.2.2.2.1
theorem dX8_become_55 : decode cX8_become 55 = .ok (.ireturn, 1) := DX8_become_c2.2.2.2.2.2.2.2
set_option maxRecDepth 100000 in
theorem DX8_undo_c0 : decode cX8_undo 0 = .ok (.aload_n 0, 1) ∧ decode cX8_undo 1 = .ok (.getfield 26, 3) ∧ decode cX8_undo 4 = .ok (.invokevirtual 92, 3) ∧ decode cX8_undo 7 = .ok (.ifCond .ne 6, 3) ∧ decode cX8_undo 10 = .ok (.bipush (-2), 2) ∧ decode cX8_undo 12 = .ok (.ireturn, 1) ∧ decode cX8_undo 13 = .ok (.aload_n 0, 1) ∧ decode cX8_undo 14 = .ok (.getfield 26, 3) ∧ decode cX8_undo 17 = .ok (.aload_n 0, 1) ∧ decode cX8_undo 18 = .ok (.getfield 10, 3) := by decide +kernel
theorem dX8_undo_0 : decode cX8_undo 0 = .ok (.aload_n 0, 1) := DX8_undo_c0.1
theorem dX8_undo_1 : decode cX8_undo 1 = .ok (.getfield 26, 3) := DX8_undo_c0.2.1
theorem dX8_undo_4 : decode cX8_undo 4 = .ok (.invokevirtual 92, 3) := DX8_undo_c0.2.2.1
theorem dX8_undo_7 : decode cX8_undo 7 = .ok (.ifCond .ne 6, 3) := DX8_undo_c0.2.2.2.1
theorem dX8_undo_10 : decode cX8_undo 10 = .ok (.bipush (-2), 2) := DX8_undo_c0.2.2.2.2.1
theorem dX8_undo_12 : decode cX8_undo 12 = .ok (.ireturn, 1) := DX8_undo_c0.2.2.2.2.2.1
theorem dX8_undo_13 : decode cX8_undo 13 = .ok (.aload_n 0, 1) := DX8_undo_c0.2.2.2.2.2.2.1
theorem dX8_undo_14 : decode cX8_undo 14 = .ok (.getfield 26, 3) := DX8_undo_c0.2.2.2.2.2.2.2.1
theorem dX8_undo_17 : decode cX8_undo 17 = .ok (.aload_n 0, 1) := DX8_undo_c0.2.2.2.2.2.2.2.2.1
theorem dX8_undo_18 : decode cX8_undo 18 = .ok (.getfield 10, 3) := DX8_undo_c0.2.2.2.2.2.2.2.2.2
set_option maxRecDepth 100000 in
theorem DX8_undo_c1 : decode cX8_undo 21 = .ok (.aload_n 0, 1) ∧ decode cX8_undo 22 = .ok (.getfield 19, 3) ∧ decode cX8_undo 25 = .ok (.invokevirtual 93, 3) ∧ decode cX8_undo 28 = .ok (.aload_n 0, 1) ∧ decode cX8_undo 29 = .ok (.getfield 26, 3) ∧ decode cX8_undo 32 = .ok (.invokevirtual 92, 3) ∧ decode cX8_undo 35 = .ok (.ireturn, 1) := by decide +kernel
theorem dX8_undo_21 : decode cX8_undo 21 = .ok (.aload_n 0, 1) := DX8_undo_c1.1
theorem dX8_undo_22 : decode cX8_undo 22 = .ok (.getfield 19, 3) := DX8_undo_c1.2.1
theorem dX8_undo_25 : decode cX8_undo 25 = .ok (.invokevirtual 93, 3) := DX8_undo_c1.2.2.1
theorem dX8_undo_28 : decode cX8_undo 28 = .ok (.aload_n 0, 1) := DX8_undo_c1.2.2.2.1
theorem dX8_undo_29 : decode cX8_undo 29 = .ok (.getfield 26, 3) := DX8_undo_c1.2.2.2.2.1
theorem dX8_undo_32 : decode cX8_undo 32 = .ok (.invokevirtual 92, 3) := DX8_undo_c1.2.2.2.2.2.1
theorem dX8_undo_35 : decode cX8_undo 35 = .ok (.ireturn, 1) := DX8_undo_c1.2.2.2.2.2.2
set_option maxRecDepth 100000 in
theorem DX8_told_c0 : decode cX8_told 0 = .ok (.iload_n 1, 1) ∧ decode cX8_told 1 = .ok (.tableswitch 151 0 9 #[55, 63, 71, 79, 101, 113, 125, 130, 138, 143], 55) ∧ decode cX8_told 56 = .ok (.aload_n 0, 1) ∧ decode cX8_told 57 = .ok (.getfield 10, 3) ∧ decode cX8_told 60 = .ok (.invokevirtual 61, 3) ∧ decode cX8_told 63 = .ok (.ireturn, 1) ∧ decode cX8_told 64 = .ok (.aload_n 0, 1) ∧ decode cX8_told 65 = .ok (.getfield 10, 3) ∧ decode cX8_told 68 = .ok (.invokevirtual 96, 3) ∧ decode cX8_told 71 = .ok (.ireturn, 1) := by decide +kernel
theorem dX8_told_0 : decode cX8_told 0 = .ok (.iload_n 1, 1) := DX8_told_c0.1
theorem dX8_told_1 : decode cX8_told 1 = .ok (.tableswitch 151 0 9 #[55, 63, 71, 79, 101, 113, 125, 130, 138, 143], 55) := DX8_told_c0.2.1
theorem dX8_told_56 : decode cX8_told 56 = .ok (.aload_n 0, 1) := DX8_told_c0.2.2.1
theorem dX8_told_57 : decode cX8_told 57 = .ok (.getfield 10, 3) := DX8_told_c0.2.2.2.1
theorem dX8_told_60 : decode cX8_told 60 = .ok (.invokevirtual 61, 3) := DX8_told_c0.2.2.2.2.1
theorem dX8_told_63 : decode cX8_told 63 = .ok (.ireturn, 1) := DX8_told_c0.2.2.2.2.2.1
theorem dX8_told_64 : decode cX8_told 64 = .ok (.aload_n 0, 1) := DX8_told_c0.2.2.2.2.2.2.1
theorem dX8_told_65 : decode cX8_told 65 = .ok (.getfield 10, 3) := DX8_told_c0.2.2.2.2.2.2.2.1
theorem dX8_told_68 : decode cX8_told 68 = .ok (.invokevirtual 96, 3) := DX8_told_c0.2.2.2.2.2.2.2.2.1
theorem dX8_told_71 : decode cX8_told 71 = .ok (.ireturn, 1) := DX8_told_c0.2.2.2.2.2.2.2.2.2
set_option maxRecDepth 100000 in
theorem DX8_told_c1 : decode cX8_told 72 = .ok (.aload_n 0, 1) ∧ decode cX8_told 73 = .ok (.getfield 10, 3) ∧ decode cX8_told 76 = .ok (.invokevirtual 89, 3) ∧ decode cX8_told 79 = .ok (.ireturn, 1) ∧ decode cX8_told 80 = .ok (.aload_n 0, 1) ∧ decode cX8_told 81 = .ok (.getfield 33, 3) ∧ decode cX8_told 84 = .ok (.aload_n 0, 1) ∧ decode cX8_told 85 = .ok (.getfield 10, 3) ∧ decode cX8_told 88 = .ok (.invokevirtual 61, 3) ∧ decode cX8_told 91 = .ok (.aload_n 0, 1) := by decide +kernel
theorem dX8_told_72 : decode cX8_told 72 = .ok (.aload_n 0, 1) := DX8_told_c1.1
theorem dX8_told_73 : decode cX8_told 73 = .ok (.getfield 10, 3) := DX8_told_c1.2.1
theorem dX8_told_76 : decode cX8_told 76 = .ok (.invokevirtual 89, 3) := DX8_told_c1.2.2.1
theorem dX8_told_79 : decode cX8_told 79 = .ok (.ireturn, 1) := DX8_told_c1.2.2.2.1
theorem dX8_told_80 : decode cX8_told 80 = .ok (.aload_n 0, 1) := DX8_told_c1.2.2.2.2.1
theorem dX8_told_81 : decode cX8_told 81 = .ok (.getfield 33, 3) := DX8_told_c1.2.2.2.2.2.1
theorem dX8_told_84 : decode cX8_told 84 = .ok (.aload_n 0, 1) := DX8_told_c1.2.2.2.2.2.2.1
theorem dX8_told_85 : decode cX8_told 85 = .ok (.getfield 10, 3) := DX8_told_c1.2.2.2.2.2.2.2.1
theorem dX8_told_88 : decode cX8_told 88 = .ok (.invokevirtual 61, 3) := DX8_told_c1.2.2.2.2.2.2.2.2.1
theorem dX8_told_91 : decode cX8_told 91 = .ok (.aload_n 0, 1) := DX8_told_c1.2.2.2.2.2.2.2.2.2
set_option maxRecDepth 100000 in
theorem DX8_told_c2 : decode cX8_told 92 = .ok (.getfield 10, 3) ∧ decode cX8_told 95 = .ok (.invokevirtual 89, 3) ∧ decode cX8_told 98 = .ok (.invokevirtual 99, 3) ∧ decode cX8_told 101 = .ok (.ireturn, 1) ∧ decode cX8_told 102 = .ok (.aload_n 0, 1) ∧ decode cX8_told 103 = .ok (.getfield 40, 3) ∧ decode cX8_told 106 = .ok (.aload_n 0, 1) ∧ decode cX8_told 107 = .ok (.getfield 10, 3) ∧ decode cX8_told 110 = .ok (.invokevirtual 102, 3) ∧ decode cX8_told 113 = .ok (.ireturn, 1) := by decide +kernel
theorem dX8_told_92 : decode cX8_told 92 = .ok (.getfield 10, 3) := DX8_told_c2.1
theorem dX8_told_95 : decode cX8_told 95 = .ok (.invokevirtual 89, 3) := DX8_told_c2.2.1
theorem dX8_told_98 : decode cX8_told 98 = .ok (.invokevirtual 99, 3) := DX8_told_c2.2.2.1
theorem dX8_told_101 : decode cX8_told 101 = .ok (.ireturn, 1) := DX8_told_c2.2.2.2.1
theorem dX8_told_102 : decode cX8_told 102 = .ok (.aload_n 0, 1) := DX8_told_c2.2.2.2.2.1
theorem dX8_told_103 : decode cX8_told 103 = .ok (.getfield 40, 3) := DX8_told_c2.2.2.2.2.2.1
theorem dX8_told_106 : decode cX8_told 106 = .ok (.aload_n 0, 1) := DX8_told_c2.2.2.2.2.2.2.1
theorem dX8_told_107 : decode cX8_told 107 = .ok (.getfield 10, 3) := DX8_told_c2.2.2.2.2.2.2.2.1
theorem dX8_told_110 : decode cX8_told 110 = .ok (.invokevirtual 102, 3) := DX8_told_c2.2.2.2.2.2.2.2.2.1
theorem dX8_told_113 : decode cX8_told 113 = .ok (.ireturn, 1) := DX8_told_c2.2.2.2.2.2.2.2.2.2
set_option maxRecDepth 100000 in
theorem DX8_told_c3 : decode cX8_told 114 = .ok (.aload_n 0, 1) ∧ decode cX8_told 115 = .ok (.getfield 40, 3) ∧ decode cX8_told 118 = .ok (.aload_n 0, 1) ∧ decode cX8_told 119 = .ok (.getfield 10, 3) ∧ decode cX8_told 122 = .ok (.invokevirtual 106, 3) ∧ decode cX8_told 125 = .ok (.ireturn, 1) ∧ decode cX8_told 126 = .ok (.aload_n 0, 1) ∧ decode cX8_told 127 = .ok (.invokevirtual 109, 3) ∧ decode cX8_told 130 = .ok (.ireturn, 1) ∧ decode cX8_told 131 = .ok (.aload_n 0, 1) := by decide +kernel
theorem dX8_told_114 : decode cX8_told 114 = .ok (.aload_n 0, 1) := DX8_told_c3.1
theorem dX8_told_115 : decode cX8_told 115 = .ok (.getfield 40, 3) := DX8_told_c3.2.1
theorem dX8_told_118 : decode cX8_told 118 = .ok (.aload_n 0, 1) := DX8_told_c3.2.2.1
theorem dX8_told_119 : decode cX8_told 119 = .ok (.getfield 10, 3) := DX8_told_c3.2.2.2.1
theorem dX8_told_122 : decode cX8_told 122 = .ok (.invokevirtual 106, 3) := DX8_told_c3.2.2.2.2.1
theorem dX8_told_125 : decode cX8_told 125 = .ok (.ireturn, 1) := DX8_told_c3.2.2.2.2.2.1
theorem dX8_told_126 : decode cX8_told 126 = .ok (.aload_n 0, 1) := DX8_told_c3.2.2.2.2.2.2.1
theorem dX8_told_127 : decode cX8_told 127 = .ok (.invokevirtual 109, 3) := DX8_told_c3.2.2.2.2.2.2.2.1
theorem dX8_told_130 : decode cX8_told 130 = .ok (.ireturn, 1) := DX8_told_c3.2.2.2.2.2.2.2.2.1
theorem dX8_told_131 : decode cX8_told 131 = .ok (.aload_n 0, 1) := DX8_told_c3.2.2.2.2.2.2.2.2.2
set_option maxRecDepth 100000 in
theorem DX8_told_c4 : decode cX8_told 132 = .ok (.getfield 10, 3) ∧ decode cX8_told 135 = .ok (.invokevirtual 112, 3) ∧ decode cX8_told 138 = .ok (.ireturn, 1) ∧ decode cX8_told 139 = .ok (.aload_n 0, 1) ∧ decode cX8_told 140 = .ok (.invokevirtual 115, 3) ∧ decode cX8_told 143 = .ok (.ireturn, 1) ∧ decode cX8_told 144 = .ok (.aload_n 0, 1) ∧ decode cX8_told 145 = .ok (.getfield 26, 3) ∧ decode cX8_told 148 = .ok (.invokevirtual 92, 3) ∧ decode cX8_told 151 = .ok (.ireturn, 1) := by decide +kernel
theorem dX8_told_132 : decode cX8_told 132 = .ok (.getfield 10, 3) := DX8_told_c4.1
theorem dX8_told_135 : decode cX8_told 135 = .ok (.invokevirtual 112, 3) := DX8_told_c4.2.1
theorem dX8_told_138 : decode cX8_told 138 = .ok (.ireturn, 1) := DX8_told_c4.2.2.1
theorem dX8_told_139 : decode cX8_told 139 = .ok (.aload_n 0, 1) := DX8_told_c4.2.2.2.1
theorem dX8_told_140 : decode cX8_told 140 = .ok (.invokevirtual 115, 3) := DX8_told_c4.2.2.2.2.1
theorem dX8_told_143 : decode cX8_told 143 = .ok (.ireturn, 1) := DX8_told_c4.2.2.2.2.2.1
theorem dX8_told_144 : decode cX8_told 144 = .ok (.aload_n 0, 1) := DX8_told_c4.2.2.2.2.2.2.1
theorem dX8_told_145 : decode cX8_told 145 = .ok (.getfield 26, 3) := DX8_told_c4.2.2.2.2.2.2.2.1
theorem dX8_told_148 : decode cX8_told 148 = .ok (.invokevirtual 92, 3) := DX8_told_c4.2.2.2.2.2.2.2.2.1
theorem dX8_told_151 : decode cX8_told 151 = .ok (.ireturn, 1) := DX8_told_c4.2.2.2.2.2.2.2.2.2
set_option maxRecDepth 100000 in
theorem DX8_told_c5 : decode cX8_told 152 = .ok (.iconst (-1), 1) ∧ decode cX8_told 153 = .ok (.ireturn, 1) := by decide +kernel
theorem dX8_told_152 : decode cX8_told 152 = .ok (.iconst (-1), 1) := DX8_told_c5.1
theorem dX8_told_153 : decode cX8_told 153 = .ok (.ireturn, 1) := DX8_told_c5.2
set_option maxRecDepth 100000 in
theorem DX8_vertex_c0 : decode cX8_vertex 0 = .ok (.aload_n 0, 1) ∧ decode cX8_vertex 1 = .ok (.getfield 10, 3) ∧ decode cX8_vertex 4 = .ok (.iload_n 1, 1) ∧ decode cX8_vertex 5 = .ok (.invokevirtual 73, 3) ∧ decode cX8_vertex 8 = .ok (.ifCond .eq 12, 3) ∧ decode cX8_vertex 11 = .ok (.iload_n 2, 1) ∧ decode cX8_vertex 12 = .ok (.ifCond .lt 8, 3) ∧ decode cX8_vertex 15 = .ok (.iload_n 2, 1) ∧ decode cX8_vertex 16 = .ok (.iconst 5, 1) ∧ decode cX8_vertex 17 = .ok (.if_icmp .le 5, 3) := by decide +kernel
theorem dX8_vertex_0 : decode cX8_vertex 0 = .ok (.aload_n 0, 1) := DX8_vertex_c0.1
theorem dX8_vertex_1 : decode cX8_vertex 1 = .ok (.getfield 10, 3) := DX8_vertex_c0.2.1
theorem dX8_vertex_4 : decode cX8_vertex 4 = .ok (.iload_n 1, 1) := DX8_vertex_c0.2.2.1
theorem dX8_vertex_5 : decode cX8_vertex 5 = .ok (.invokevirtual 73, 3) := DX8_vertex_c0.2.2.2.1
theorem dX8_vertex_8 : decode cX8_vertex 8 = .ok (.ifCond .eq 12, 3) := DX8_vertex_c0.2.2.2.2.1
theorem dX8_vertex_11 : decode cX8_vertex 11 = .ok (.iload_n 2, 1) := DX8_vertex_c0.2.2.2.2.2.1
theorem dX8_vertex_12 : decode cX8_vertex 12 = .ok (.ifCond .lt 8, 3) := DX8_vertex_c0.2.2.2.2.2.2.1
theorem dX8_vertex_15 : decode cX8_vertex 15 = .ok (.iload_n 2, 1) := DX8_vertex_c0.2.2.2.2.2.2.2.1
theorem dX8_vertex_16 : decode cX8_vertex 16 = .ok (.iconst 5, 1) := DX8_vertex_c0.2.2.2.2.2.2.2.2.1
theorem dX8_vertex_17 : decode cX8_vertex 17 = .ok (.if_icmp .le 5, 3) := DX8_vertex_c0.2.2.2.2.2.2.2.2.2
set_option maxRecDepth 100000 in
theorem DX8_vertex_c1 : decode cX8_vertex 20 = .ok (.iconst (-1), 1) ∧ decode cX8_vertex 21 = .ok (.ireturn, 1) ∧ decode cX8_vertex 22 = .ok (.iload_n 2, 1) ∧ decode cX8_vertex 23 = .ok (.iconst 2, 1) ∧ decode cX8_vertex 24 = .ok (.if_icmp .lt 17, 3) ∧ decode cX8_vertex 27 = .ok (.aload_n 0, 1) ∧ decode cX8_vertex 28 = .ok (.getfield 10, 3) ∧ decode cX8_vertex 31 = .ok (.invokevirtual 61, 3) ∧ decode cX8_vertex 34 = .ok (.iconst 1, 1) ∧ decode cX8_vertex 35 = .ok (.if_icmp .ne 6, 3) := by decide +kernel
theorem dX8_vertex_20 : decode cX8_vertex 20 = .ok (.iconst (-1), 1) := DX8_vertex_c1.1
theorem dX8_vertex_21 : decode cX8_vertex 21 = .ok (.ireturn, 1) := DX8_vertex_c1.2.1
theorem dX8_vertex_22 : decode cX8_vertex 22 = .ok (.iload_n 2, 1) := DX8_vertex_c1.2.2.1
theorem dX8_vertex_23 : decode cX8_vertex 23 = .ok (.iconst 2, 1) := DX8_vertex_c1.2.2.2.1
theorem dX8_vertex_24 : decode cX8_vertex 24 = .ok (.if_icmp .lt 17, 3) := DX8_vertex_c1.2.2.2.2.1
theorem dX8_vertex_27 : decode cX8_vertex 27 = .ok (.aload_n 0, 1) := DX8_vertex_c1.2.2.2.2.2.1
theorem dX8_vertex_28 : decode cX8_vertex 28 = .ok (.getfield 10, 3) := DX8_vertex_c1.2.2.2.2.2.2.1
theorem dX8_vertex_31 : decode cX8_vertex 31 = .ok (.invokevirtual 61, 3) := DX8_vertex_c1.2.2.2.2.2.2.2.1
theorem dX8_vertex_34 : decode cX8_vertex 34 = .ok (.iconst 1, 1) := DX8_vertex_c1.2.2.2.2.2.2.2.2.1
theorem dX8_vertex_35 : decode cX8_vertex 35 = .ok (.if_icmp .ne 6, 3) := DX8_vertex_c1.2.2.2.2.2.2.2.2.2
set_option maxRecDepth 100000 in
theorem DX8_vertex_c2 : decode cX8_vertex 38 = .ok (.bipush (-9), 2) ∧ decode cX8_vertex 40 = .ok (.ireturn, 1) ∧ decode cX8_vertex 41 = .ok (.iload_n 2, 1) ∧ decode cX8_vertex 42 = .ok (.tableswitch 88 0 4 #[34, 43, 52, 58, 75], 34) ∧ decode cX8_vertex 76 = .ok (.aload_n 0, 1) ∧ decode cX8_vertex 77 = .ok (.getfield 10, 3) ∧ decode cX8_vertex 80 = .ok (.iload_n 1, 1) ∧ decode cX8_vertex 81 = .ok (.invokevirtual 118, 3) ∧ decode cX8_vertex 84 = .ok (.ireturn, 1) ∧ decode cX8_vertex 85 = .ok (.aload_n 0, 1) := by decide +kernel
theorem dX8_vertex_38 : decode cX8_vertex 38 = .ok (.bipush (-9), 2) := DX8_vertex_c2.1
theorem dX8_vertex_40 : decode cX8_vertex 40 = .ok (.ireturn, 1) := DX8_vertex_c2.2.1
theorem dX8_vertex_41 : decode cX8_vertex 41 = .ok (.iload_n 2, 1) := DX8_vertex_c2.2.2.1
theorem dX8_vertex_42 : decode cX8_vertex 42 = .ok (.tableswitch 88 0 4 #[34, 43, 52, 58, 75], 34) := DX8_vertex_c2.2.2.2.1
theorem dX8_vertex_76 : decode cX8_vertex 76 = .ok (.aload_n 0, 1) := DX8_vertex_c2.2.2.2.2.1
theorem dX8_vertex_77 : decode cX8_vertex 77 = .ok (.getfield 10, 3) := DX8_vertex_c2.2.2.2.2.2.1
theorem dX8_vertex_80 : decode cX8_vertex 80 = .ok (.iload_n 1, 1) := DX8_vertex_c2.2.2.2.2.2.2.1
theorem dX8_vertex_81 : decode cX8_vertex 81 = .ok (.invokevirtual 118, 3) := DX8_vertex_c2.2.2.2.2.2.2.2.1
theorem dX8_vertex_84 : decode cX8_vertex 84 = .ok (.ireturn, 1) := DX8_vertex_c2.2.2.2.2.2.2.2.2.1
theorem dX8_vertex_85 : decode cX8_vertex 85 = .ok (.aload_n 0, 1) := DX8_vertex_c2.2.2.2.2.2.2.2.2.2
set_option maxRecDepth 100000 in
theorem DX8_vertex_c3 : decode cX8_vertex 86 = .ok (.getfield 10, 3) ∧ decode cX8_vertex 89 = .ok (.iload_n 1, 1) ∧ decode cX8_vertex 90 = .ok (.invokevirtual 122, 3) ∧ decode cX8_vertex 93 = .ok (.ireturn, 1) ∧ decode cX8_vertex 94 = .ok (.aload_n 0, 1) ∧ decode cX8_vertex 95 = .ok (.iload_n 1, 1) ∧ decode cX8_vertex 96 = .ok (.invokevirtual 125, 3) ∧ decode cX8_vertex 99 = .ok (.ireturn, 1) ∧ decode cX8_vertex 100 = .ok (.aload_n 0, 1) ∧ decode cX8_vertex 101 = .ok (.getfield 10, 3) := by decide +kernel
theorem dX8_vertex_86 : decode cX8_vertex 86 = .ok (.getfield 10, 3) := DX8_vertex_c3.1
theorem dX8_vertex_89 : decode cX8_vertex 89 = .ok (.iload_n 1, 1) := DX8_vertex_c3.2.1
theorem dX8_vertex_90 : decode cX8_vertex 90 = .ok (.invokevirtual 122, 3) := DX8_vertex_c3.2.2.1
theorem dX8_vertex_93 : decode cX8_vertex 93 = .ok (.ireturn, 1) := DX8_vertex_c3.2.2.2.1
theorem dX8_vertex_94 : decode cX8_vertex 94 = .ok (.aload_n 0, 1) := DX8_vertex_c3.2.2.2.2.1
theorem dX8_vertex_95 : decode cX8_vertex 95 = .ok (.iload_n 1, 1) := DX8_vertex_c3.2.2.2.2.2.1
theorem dX8_vertex_96 : decode cX8_vertex 96 = .ok (.invokevirtual 125, 3) := DX8_vertex_c3.2.2.2.2.2.2.1
theorem dX8_vertex_99 : decode cX8_vertex 99 = .ok (.ireturn, 1) := DX8_vertex_c3.2.2.2.2.2.2.2.1
theorem dX8_vertex_100 : decode cX8_vertex 100 = .ok (.aload_n 0, 1) := DX8_vertex_c3.2.2.2.2.2.2.2.2.1
theorem dX8_vertex_101 : decode cX8_vertex 101 = .ok (.getfield 10, 3) := DX8_vertex_c3.2.2.2.2.2.2.2.2.2
set_option maxRecDepth 100000 in
theorem DX8_vertex_c4 : decode cX8_vertex 104 = .ok (.invokevirtual 96, 3) ∧ decode cX8_vertex 107 = .ok (.aload_n 0, 1) ∧ decode cX8_vertex 108 = .ok (.getfield 10, 3) ∧ decode cX8_vertex 111 = .ok (.iload_n 1, 1) ∧ decode cX8_vertex 112 = .ok (.invokevirtual 118, 3) ∧ decode cX8_vertex 115 = .ok (.isub, 1) ∧ decode cX8_vertex 116 = .ok (.ireturn, 1) ∧ decode cX8_vertex 117 = .ok (.aload_n 0, 1) ∧ decode cX8_vertex 118 = .ok (.getfield 40, 3) ∧ decode cX8_vertex 121 = .ok (.aload_n 0, 1) := by decide +kernel
theorem dX8_vertex_104 : decode cX8_vertex 104 = .ok (.invokevirtual 96, 3) := DX8_vertex_c4.1
theorem dX8_vertex_107 : decode cX8_vertex 107 = .ok (.aload_n 0, 1) := DX8_vertex_c4.2.1
theorem dX8_vertex_108 : decode cX8_vertex 108 = .ok (.getfield 10, 3) := DX8_vertex_c4.2.2.1
theorem dX8_vertex_111 : decode cX8_vertex 111 = .ok (.iload_n 1, 1) := DX8_vertex_c4.2.2.2.1
theorem dX8_vertex_112 : decode cX8_vertex 112 = .ok (.invokevirtual 118, 3) := DX8_vertex_c4.2.2.2.2.1
theorem dX8_vertex_115 : decode cX8_vertex 115 = .ok (.isub, 1) := DX8_vertex_c4.2.2.2.2.2.1
theorem dX8_vertex_116 : decode cX8_vertex 116 = .ok (.ireturn, 1) := DX8_vertex_c4.2.2.2.2.2.2.1
theorem dX8_vertex_117 : decode cX8_vertex 117 = .ok (.aload_n 0, 1) := DX8_vertex_c4.2.2.2.2.2.2.2.1
theorem dX8_vertex_118 : decode cX8_vertex 118 = .ok (.getfield 40, 3) := DX8_vertex_c4.2.2.2.2.2.2.2.2.1
theorem dX8_vertex_121 : decode cX8_vertex 121 = .ok (.aload_n 0, 1) := DX8_vertex_c4.2.2.2.2.2.2.2.2.2
set_option maxRecDepth 100000 in
theorem DX8_vertex_c5 : decode cX8_vertex 122 = .ok (.getfield 10, 3) ∧ decode cX8_vertex 125 = .ok (.iload_n 1, 1) ∧ decode cX8_vertex 126 = .ok (.invokevirtual 128, 3) ∧ decode cX8_vertex 129 = .ok (.ireturn, 1) ∧ decode cX8_vertex 130 = .ok (.aload_n 0, 1) ∧ decode cX8_vertex 131 = .ok (.iload_n 1, 1) ∧ decode cX8_vertex 132 = .ok (.invokevirtual 132, 3) ∧ decode cX8_vertex 135 = .ok (.ireturn, 1) := by decide +kernel
theorem dX8_vertex_122 : decode cX8_vertex 122 = .ok (.getfield 10, 3) := DX8_vertex_c5.1
theorem dX8_vertex_125 : decode cX8_vertex 125 = .ok (.iload_n 1, 1) := DX8_vertex_c5.2.1
theorem dX8_vertex_126 : decode cX8_vertex 126 = .ok (.invokevirtual 128, 3) := DX8_vertex_c5.2.2.1
theorem dX8_vertex_129 : decode cX8_vertex 129 = .ok (.ireturn, 1) := DX8_vertex_c5.2.2.2.1
theorem dX8_vertex_130 : decode cX8_vertex 130 = .ok (.aload_n 0, 1) := DX8_vertex_c5.2.2.2.2.1
theorem dX8_vertex_131 : decode cX8_vertex 131 = .ok (.iload_n 1, 1) := DX8_vertex_c5.2.2.2.2.2.1
theorem dX8_vertex_132 : decode cX8_vertex 132 = .ok (.invokevirtual 132, 3) := DX8_vertex_c5.2.2.2.2.2.2.1
theorem dX8_vertex_135 : decode cX8_vertex 135 = .ok (.ireturn, 1) := DX8_vertex_c5.2.2.2.2.2.2.2
set_option maxRecDepth 100000 in
theorem DX8_image_c0 : decode cX8_image 0 = .ok (.aload_n 0, 1) ∧ decode cX8_image 1 = .ok (.getfield 10, 3) ∧ decode cX8_image 4 = .ok (.iload_n 1, 1) ∧ decode cX8_image 5 = .ok (.invokevirtual 73, 3) ∧ decode cX8_image 8 = .ok (.ifCond .eq 25, 3) ∧ decode cX8_image 11 = .ok (.aload_n 0, 1) ∧ decode cX8_image 12 = .ok (.getfield 10, 3) ∧ decode cX8_image 15 = .ok (.iload_n 2, 1) ∧ decode cX8_image 16 = .ok (.invokevirtual 73, 3) ∧ decode cX8_image 19 = .ok (.ifCond .eq 14, 3) := by decide +kernel
theorem dX8_image_0 : decode cX8_image 0 = .ok (.aload_n 0, 1) := DX8_image_c0.1
theorem dX8_image_1 : decode cX8_image 1 = .ok (.getfield 10, 3) := DX8_image_c0.2.1
theorem dX8_image_4 : decode cX8_image 4 = .ok (.iload_n 1, 1) := DX8_image_c0.2.2.1
theorem dX8_image_5 : decode cX8_image 5 = .ok (.invokevirtual 73, 3) := DX8_image_c0.2.2.2.1
theorem dX8_image_8 : decode cX8_image 8 = .ok (.ifCond .eq 25, 3) := DX8_image_c0.2.2.2.2.1
theorem dX8_image_11 : decode cX8_image 11 = .ok (.aload_n 0, 1) := DX8_image_c0.2.2.2.2.2.1
theorem dX8_image_12 : decode cX8_image 12 = .ok (.getfield 10, 3) := DX8_image_c0.2.2.2.2.2.2.1
theorem dX8_image_15 : decode cX8_image 15 = .ok (.iload_n 2, 1) := DX8_image_c0.2.2.2.2.2.2.2.1
theorem dX8_image_16 : decode cX8_image 16 = .ok (.invokevirtual 73, 3) := DX8_image_c0.2.2.2.2.2.2.2.2.1
theorem dX8_image_19 : decode cX8_image 19 = .ok (.ifCond .eq 14, 3) := DX8_image_c0.2.2.2.2.2.2.2.2.2
set_option maxRecDepth 100000 in
theorem DX8_image_c1 : decode cX8_image 22 = .ok (.aload_n 0, 1) ∧ decode cX8_image 23 = .ok (.getfield 10, 3) ∧ decode cX8_image 26 = .ok (.iload_n 3, 1) ∧ decode cX8_image 27 = .ok (.invokevirtual 73, 3) ∧ decode cX8_image 30 = .ok (.ifCond .ne 5, 3) ∧ decode cX8_image 33 = .ok (.iconst (-1), 1) ∧ decode cX8_image 34 = .ok (.ireturn, 1) ∧ decode cX8_image 35 = .ok (.aload_n 0, 1) ∧ decode cX8_image 36 = .ok (.getfield 40, 3) ∧ decode cX8_image 39 = .ok (.aload_n 0, 1) := by decide +kernel
theorem dX8_image_22 : decode cX8_image 22 = .ok (.aload_n 0, 1) := DX8_image_c1.1
theorem dX8_image_23 : decode cX8_image 23 = .ok (.getfield 10, 3) := DX8_image_c1.2.1
theorem dX8_image_26 : decode cX8_image 26 = .ok (.iload_n 3, 1) := DX8_image_c1.2.2.1
theorem dX8_image_27 : decode cX8_image 27 = .ok (.invokevirtual 73, 3) := DX8_image_c1.2.2.2.1
theorem dX8_image_30 : decode cX8_image 30 = .ok (.ifCond .ne 5, 3) := DX8_image_c1.2.2.2.2.1
theorem dX8_image_33 : decode cX8_image 33 = .ok (.iconst (-1), 1) := DX8_image_c1.2.2.2.2.2.1
theorem dX8_image_34 : decode cX8_image 34 = .ok (.ireturn, 1) := DX8_image_c1.2.2.2.2.2.2.1
theorem dX8_image_35 : decode cX8_image 35 = .ok (.aload_n 0, 1) := DX8_image_c1.2.2.2.2.2.2.2.1
theorem dX8_image_36 : decode cX8_image 36 = .ok (.getfield 40, 3) := DX8_image_c1.2.2.2.2.2.2.2.2.1
theorem dX8_image_39 : decode cX8_image 39 = .ok (.aload_n 0, 1) := DX8_image_c1.2.2.2.2.2.2.2.2.2
set_option maxRecDepth 100000 in
theorem DX8_image_c2 : decode cX8_image 40 = .ok (.getfield 10, 3) ∧ decode cX8_image 43 = .ok (.iconst 0, 1) ∧ decode cX8_image 44 = .ok (.iload_n 1, 1) ∧ decode cX8_image 45 = .ok (.iload_n 2, 1) ∧ decode cX8_image 46 = .ok (.invokevirtual 135, 3) ∧ decode cX8_image 49 = .ok (.ifCond .eq 14, 3) ∧ decode cX8_image 52 = .ok (.aload_n 0, 1) ∧ decode cX8_image 53 = .ok (.getfield 40, 3) ∧ decode cX8_image 56 = .ok (.iload_n 3, 1) ∧ decode cX8_image 57 = .ok (.invokevirtual 139, 3) := by decide +kernel
theorem dX8_image_40 : decode cX8_image 40 = .ok (.getfield 10, 3) := DX8_image_c2.1
theorem dX8_image_43 : decode cX8_image 43 = .ok (.iconst 0, 1) := DX8_image_c2.2.1
theorem dX8_image_44 : decode cX8_image 44 = .ok (.iload_n 1, 1) := DX8_image_c2.2.2.1
theorem dX8_image_45 : decode cX8_image 45 = .ok (.iload_n 2, 1) := DX8_image_c2.2.2.2.1
theorem dX8_image_46 : decode cX8_image 46 = .ok (.invokevirtual 135, 3) := DX8_image_c2.2.2.2.2.1
theorem dX8_image_49 : decode cX8_image 49 = .ok (.ifCond .eq 14, 3) := DX8_image_c2.2.2.2.2.2.1
theorem dX8_image_52 : decode cX8_image 52 = .ok (.aload_n 0, 1) := DX8_image_c2.2.2.2.2.2.2.1
theorem dX8_image_53 : decode cX8_image 53 = .ok (.getfield 40, 3) := DX8_image_c2.2.2.2.2.2.2.2.1
theorem dX8_image_56 : decode cX8_image 56 = .ok (.iload_n 3, 1) := DX8_image_c2.2.2.2.2.2.2.2.2.1
theorem dX8_image_57 : decode cX8_image 57 = .ok (.invokevirtual 139, 3) := DX8_image_c2.2.2.2.2.2.2.2.2.2
set_option maxRecDepth 100000 in
theorem DX8_image_c3 : decode cX8_image 60 = .ok (.goto 5, 3) ∧ decode cX8_image 63 = .ok (.bipush (-9), 2) ∧ decode cX8_image 65 = .ok (.ireturn, 1) := by decide +kernel
theorem dX8_image_60 : decode cX8_image 60 = .ok (.goto 5, 3) := DX8_image_c3.1
theorem dX8_image_63 : decode cX8_image 63 = .ok (.bipush (-9), 2) := DX8_image_c3.2.1
theorem dX8_image_65 : decode cX8_image 65 = .ok (.ireturn, 1) := DX8_image_c3.2.2
set_option maxRecDepth 100000 in
theorem DX8_copies_c0 : decode cX8_copies 0 = .ok (.iload_n 1, 1) ∧ decode cX8_copies 1 = .ok (.invokestatic 142, 3) ∧ decode cX8_copies 4 = .ok (.ifCond .eq 14, 3) ∧ decode cX8_copies 7 = .ok (.aload_n 0, 1) ∧ decode cX8_copies 8 = .ok (.getfield 10, 3) ∧ decode cX8_copies 11 = .ok (.iload_n 1, 1) ∧ decode cX8_copies 12 = .ok (.invokestatic 147, 3) ∧ decode cX8_copies 15 = .ok (.goto 4, 3) ∧ decode cX8_copies 18 = .ok (.iconst (-1), 1) ∧ decode cX8_copies 19 = .ok (.ireturn, 1) := by decide +kernel
theorem dX8_copies_0 : decode cX8_copies 0 = .ok (.iload_n 1, 1) := DX8_copies_c0.1
theorem dX8_copies_1 : decode cX8_copies 1 = .ok (.invokestatic 142, 3) := DX8_copies_c0.2.1
theorem dX8_copies_4 : decode cX8_copies 4 = .ok (.ifCond .eq 14, 3) := DX8_copies_c0.2.2.1
theorem dX8_copies_7 : decode cX8_copies 7 = .ok (.aload_n 0, 1) := DX8_copies_c0.2.2.2.1
theorem dX8_copies_8 : decode cX8_copies 8 = .ok (.getfield 10, 3) := DX8_copies_c0.2.2.2.2.1
theorem dX8_copies_11 : decode cX8_copies 11 = .ok (.iload_n 1, 1) := DX8_copies_c0.2.2.2.2.2.1
theorem dX8_copies_12 : decode cX8_copies 12 = .ok (.invokestatic 147, 3) := DX8_copies_c0.2.2.2.2.2.2.1
theorem dX8_copies_15 : decode cX8_copies 15 = .ok (.goto 4, 3) := DX8_copies_c0.2.2.2.2.2.2.2.1
theorem dX8_copies_18 : decode cX8_copies 18 = .ok (.iconst (-1), 1) := DX8_copies_c0.2.2.2.2.2.2.2.2.1
theorem dX8_copies_19 : decode cX8_copies 19 = .ok (.ireturn, 1) := DX8_copies_c0.2.2.2.2.2.2.2.2.2
set_option maxRecDepth 100000 in
theorem DX8_hold_c0 : decode cX8_hold 0 = .ok (.iload_n 1, 1) ∧ decode cX8_hold 1 = .ok (.iconst 3, 1) ∧ decode cX8_hold 2 = .ok (.if_icmp .lt 9, 3) ∧ decode cX8_hold 5 = .ok (.iload_n 1, 1) ∧ decode cX8_hold 6 = .ok (.bipush 6, 2) ∧ decode cX8_hold 8 = .ok (.if_icmp .le 5, 3) ∧ decode cX8_hold 11 = .ok (.iconst (-1), 1) ∧ decode cX8_hold 12 = .ok (.ireturn, 1) ∧ decode cX8_hold 13 = .ok (.aload_n 0, 1) ∧ decode cX8_hold 14 = .ok (.getfield 19, 3) := by decide +kernel
theorem dX8_hold_0 : decode cX8_hold 0 = .ok (.iload_n 1, 1) := DX8_hold_c0.1
theorem dX8_hold_1 : decode cX8_hold 1 = .ok (.iconst 3, 1) := DX8_hold_c0.2.1
theorem dX8_hold_2 : decode cX8_hold 2 = .ok (.if_icmp .lt 9, 3) := DX8_hold_c0.2.2.1
theorem dX8_hold_5 : decode cX8_hold 5 = .ok (.iload_n 1, 1) := DX8_hold_c0.2.2.2.1
theorem dX8_hold_6 : decode cX8_hold 6 = .ok (.bipush 6, 2) := DX8_hold_c0.2.2.2.2.1
theorem dX8_hold_8 : decode cX8_hold 8 = .ok (.if_icmp .le 5, 3) := DX8_hold_c0.2.2.2.2.2.1
theorem dX8_hold_11 : decode cX8_hold 11 = .ok (.iconst (-1), 1) := DX8_hold_c0.2.2.2.2.2.2.1
theorem dX8_hold_12 : decode cX8_hold 12 = .ok (.ireturn, 1) := DX8_hold_c0.2.2.2.2.2.2.2.1
theorem dX8_hold_13 : decode cX8_hold 13 = .ok (.aload_n 0, 1) := DX8_hold_c0.2.2.2.2.2.2.2.2.1
theorem dX8_hold_14 : decode cX8_hold 14 = .ok (.getfield 19, 3) := DX8_hold_c0.2.2.2.2.2.2.2.2.2
set_option maxRecDepth 100000 in
theorem DX8_hold_c1 : decode cX8_hold 17 = .ok (.invokevirtual 150, 3) ∧ decode cX8_hold 20 = .ok (.istore_n 2, 1) ∧ decode cX8_hold 21 = .ok (.aload_n 0, 1) ∧ decode cX8_hold 22 = .ok (.getfield 26, 3) ∧ decode cX8_hold 25 = .ok (.aload_n 0, 1) ∧ decode cX8_hold 26 = .ok (.getfield 10, 3) ∧ decode cX8_hold 29 = .ok (.aload_n 0, 1) ∧ decode cX8_hold 30 = .ok (.getfield 19, 3) ∧ decode cX8_hold 33 = .ok (.invokevirtual 65, 3) ∧ decode cX8_hold 36 = .ok (.aload_n 0, 1) := by decide +kernel
theorem dX8_hold_17 : decode cX8_hold 17 = .ok (.invokevirtual 150, 3) := DX8_hold_c1.1
theorem dX8_hold_20 : decode cX8_hold 20 = .ok (.istore_n 2, 1) := DX8_hold_c1.2.1
theorem dX8_hold_21 : decode cX8_hold 21 = .ok (.aload_n 0, 1) := DX8_hold_c1.2.2.1
theorem dX8_hold_22 : decode cX8_hold 22 = .ok (.getfield 26, 3) := DX8_hold_c1.2.2.2.1
theorem dX8_hold_25 : decode cX8_hold 25 = .ok (.aload_n 0, 1) := DX8_hold_c1.2.2.2.2.1
theorem dX8_hold_26 : decode cX8_hold 26 = .ok (.getfield 10, 3) := DX8_hold_c1.2.2.2.2.2.1
theorem dX8_hold_29 : decode cX8_hold 29 = .ok (.aload_n 0, 1) := DX8_hold_c1.2.2.2.2.2.2.1
theorem dX8_hold_30 : decode cX8_hold 30 = .ok (.getfield 19, 3) := DX8_hold_c1.2.2.2.2.2.2.2.1
theorem dX8_hold_33 : decode cX8_hold 33 = .ok (.invokevirtual 65, 3) := DX8_hold_c1.2.2.2.2.2.2.2.2.1
theorem dX8_hold_36 : decode cX8_hold 36 = .ok (.aload_n 0, 1) := DX8_hold_c1.2.2.2.2.2.2.2.2.2
set_option maxRecDepth 100000 in
theorem DX8_hold_c2 : decode cX8_hold 37 = .ok (.getfield 19, 3) ∧ decode cX8_hold 40 = .ok (.iload_n 1, 1) ∧ decode cX8_hold 41 = .ok (.invokevirtual 151, 3) ∧ decode cX8_hold 44 = .ok (.iload_n 2, 1) ∧ decode cX8_hold 45 = .ok (.ireturn, 1) := by decide +kernel
theorem dX8_hold_37 : decode cX8_hold 37 = .ok (.getfield 19, 3) := DX8_hold_c2.1
theorem dX8_hold_40 : decode cX8_hold 40 = .ok (.iload_n 1, 1) := DX8_hold_c2.2.1
theorem dX8_hold_41 : decode cX8_hold 41 = .ok (.invokevirtual 151, 3) := DX8_hold_c2.2.2.1
theorem dX8_hold_44 : decode cX8_hold 44 = .ok (.iload_n 2, 1) := DX8_hold_c2.2.2.2.1
theorem dX8_hold_45 : decode cX8_hold 45 = .ok (.ireturn, 1) := DX8_hold_c2.2.2.2.2
set_option maxRecDepth 100000 in
theorem DX8_keepDeck_c0 : decode cX8_keepDeck 0 = .ok (.aload_n 0, 1) ∧ decode cX8_keepDeck 1 = .ok (.getfield 10, 3) ∧ decode cX8_keepDeck 4 = .ok (.invokevirtual 61, 3) ∧ decode cX8_keepDeck 7 = .ok (.iconst 3, 1) ∧ decode cX8_keepDeck 8 = .ok (.if_icmp .lt 15, 3) ∧ decode cX8_keepDeck 11 = .ok (.aload_n 0, 1) ∧ decode cX8_keepDeck 12 = .ok (.getfield 10, 3) ∧ decode cX8_keepDeck 15 = .ok (.invokevirtual 61, 3) ∧ decode cX8_keepDeck 18 = .ok (.bipush 6, 2) ∧ decode cX8_keepDeck 20 = .ok (.if_icmp .le 6, 3) := by decide +kernel
theorem dX8_keepDeck_0 : decode cX8_keepDeck 0 = .ok (.aload_n 0, 1) := DX8_keepDeck_c0.1
theorem dX8_keepDeck_1 : decode cX8_keepDeck 1 = .ok (.getfield 10, 3) := DX8_keepDeck_c0.2.1
theorem dX8_keepDeck_4 : decode cX8_keepDeck 4 = .ok (.invokevirtual 61, 3) := DX8_keepDeck_c0.2.2.1
theorem dX8_keepDeck_7 : decode cX8_keepDeck 7 = .ok (.iconst 3, 1) := DX8_keepDeck_c0.2.2.2.1
theorem dX8_keepDeck_8 : decode cX8_keepDeck 8 = .ok (.if_icmp .lt 15, 3) := DX8_keepDeck_c0.2.2.2.2.1
theorem dX8_keepDeck_11 : decode cX8_keepDeck 11 = .ok (.aload_n 0, 1) := DX8_keepDeck_c0.2.2.2.2.2.1
theorem dX8_keepDeck_12 : decode cX8_keepDeck 12 = .ok (.getfield 10, 3) := DX8_keepDeck_c0.2.2.2.2.2.2.1
theorem dX8_keepDeck_15 : decode cX8_keepDeck 15 = .ok (.invokevirtual 61, 3) := DX8_keepDeck_c0.2.2.2.2.2.2.2.1
theorem dX8_keepDeck_18 : decode cX8_keepDeck 18 = .ok (.bipush 6, 2) := DX8_keepDeck_c0.2.2.2.2.2.2.2.2.1
theorem dX8_keepDeck_20 : decode cX8_keepDeck 20 = .ok (.if_icmp .le 6, 3) := DX8_keepDeck_c0.2.2.2.2.2.2.2.2.2
set_option maxRecDepth 100000 in
theorem DX8_keepDeck_c1 : decode cX8_keepDeck 23 = .ok (.bipush (-2), 2) ∧ decode cX8_keepDeck 25 = .ok (.ireturn, 1) ∧ decode cX8_keepDeck 26 = .ok (.aload_n 0, 1) ∧ decode cX8_keepDeck 27 = .ok (.getfield 26, 3) ∧ decode cX8_keepDeck 30 = .ok (.aload_n 0, 1) ∧ decode cX8_keepDeck 31 = .ok (.getfield 10, 3) ∧ decode cX8_keepDeck 34 = .ok (.aload_n 0, 1) ∧ decode cX8_keepDeck 35 = .ok (.getfield 19, 3) ∧ decode cX8_keepDeck 38 = .ok (.invokevirtual 65, 3) ∧ decode cX8_keepDeck 41 = .ok (.aload_n 0, 1) := by decide +kernel
theorem dX8_keepDeck_23 : decode cX8_keepDeck 23 = .ok (.bipush (-2), 2) := DX8_keepDeck_c1.1
theorem dX8_keepDeck_25 : decode cX8_keepDeck 25 = .ok (.ireturn, 1) := DX8_keepDeck_c1.2.1
theorem dX8_keepDeck_26 : decode cX8_keepDeck 26 = .ok (.aload_n 0, 1) := DX8_keepDeck_c1.2.2.1
theorem dX8_keepDeck_27 : decode cX8_keepDeck 27 = .ok (.getfield 26, 3) := DX8_keepDeck_c1.2.2.2.1
theorem dX8_keepDeck_30 : decode cX8_keepDeck 30 = .ok (.aload_n 0, 1) := DX8_keepDeck_c1.2.2.2.2.1
theorem dX8_keepDeck_31 : decode cX8_keepDeck 31 = .ok (.getfield 10, 3) := DX8_keepDeck_c1.2.2.2.2.2.1
theorem dX8_keepDeck_34 : decode cX8_keepDeck 34 = .ok (.aload_n 0, 1) := DX8_keepDeck_c1.2.2.2.2.2.2.1
theorem dX8_keepDeck_35 : decode cX8_keepDeck 35 = .ok (.getfield 19, 3) := DX8_keepDeck_c1.2.2.2.2.2.2.2.1
theorem dX8_keepDeck_38 : decode cX8_keepDeck 38 = .ok (.invokevirtual 65, 3) := DX8_keepDeck_c1.2.2.2.2.2.2.2.2.1
theorem dX8_keepDeck_41 : decode cX8_keepDeck 41 = .ok (.aload_n 0, 1) := DX8_keepDeck_c1.2.2.2.2.2.2.2.2.2
set_option maxRecDepth 100000 in
theorem DX8_keepDeck_c2 : decode cX8_keepDeck 42 = .ok (.getfield 19, 3) ∧ decode cX8_keepDeck 45 = .ok (.aload_n 0, 1) ∧ decode cX8_keepDeck 46 = .ok (.getfield 10, 3) ∧ decode cX8_keepDeck 49 = .ok (.aload_n 0, 1) ∧ decode cX8_keepDeck 50 = .ok (.getfield 33, 3) ∧ decode cX8_keepDeck 53 = .ok (.invokevirtual 155, 3) ∧ decode cX8_keepDeck 56 = .ok (.aload_n 0, 1) ∧ decode cX8_keepDeck 57 = .ok (.getfield 19, 3) ∧ decode cX8_keepDeck 60 = .ok (.invokevirtual 150, 3) ∧ decode cX8_keepDeck 63 = .ok (.ireturn, 1) := by decide +kernel
theorem dX8_keepDeck_42 : decode cX8_keepDeck 42 = .ok (.getfield 19, 3) := DX8_keepDeck_c2.1
theorem dX8_keepDeck_45 : decode cX8_keepDeck 45 = .ok (.aload_n 0, 1) := DX8_keepDeck_c2.2.1
theorem dX8_keepDeck_46 : decode cX8_keepDeck 46 = .ok (.getfield 10, 3) := DX8_keepDeck_c2.2.2.1
theorem dX8_keepDeck_49 : decode cX8_keepDeck 49 = .ok (.aload_n 0, 1) := DX8_keepDeck_c2.2.2.2.1
theorem dX8_keepDeck_50 : decode cX8_keepDeck 50 = .ok (.getfield 33, 3) := DX8_keepDeck_c2.2.2.2.2.1
theorem dX8_keepDeck_53 : decode cX8_keepDeck 53 = .ok (.invokevirtual 155, 3) := DX8_keepDeck_c2.2.2.2.2.2.1
theorem dX8_keepDeck_56 : decode cX8_keepDeck 56 = .ok (.aload_n 0, 1) := DX8_keepDeck_c2.2.2.2.2.2.2.1
theorem dX8_keepDeck_57 : decode cX8_keepDeck 57 = .ok (.getfield 19, 3) := DX8_keepDeck_c2.2.2.2.2.2.2.2.1
theorem dX8_keepDeck_60 : decode cX8_keepDeck 60 = .ok (.invokevirtual 150, 3) := DX8_keepDeck_c2.2.2.2.2.2.2.2.2.1
theorem dX8_keepDeck_63 : decode cX8_keepDeck 63 = .ok (.ireturn, 1) := DX8_keepDeck_c2.2.2.2.2.2.2.2.2.2
set_option maxRecDepth 100000 in
theorem DX8_addCard_c0 : decode cX8_addCard 0 = .ok (.aload_n 0, 1) ∧ decode cX8_addCard 1 = .ok (.getfield 19, 3) ∧ decode cX8_addCard 4 = .ok (.invokevirtual 159, 3) ∧ decode cX8_addCard 7 = .ok (.iconst 1, 1) ∧ decode cX8_addCard 8 = .ok (.isub, 1) ∧ decode cX8_addCard 9 = .ok (.iload_n 1, 1) ∧ decode cX8_addCard 10 = .ok (.invokestatic 85, 3) ∧ decode cX8_addCard 13 = .ok (.ifCond .ne 5, 3) ∧ decode cX8_addCard 16 = .ok (.iconst (-1), 1) ∧ decode cX8_addCard 17 = .ok (.ireturn, 1) := by decide +kernel
theorem dX8_addCard_0 : decode cX8_addCard 0 = .ok (.aload_n 0, 1) := DX8_addCard_c0.1
theorem dX8_addCard_1 : decode cX8_addCard 1 = .ok (.getfield 19, 3) := DX8_addCard_c0.2.1
theorem dX8_addCard_4 : decode cX8_addCard 4 = .ok (.invokevirtual 159, 3) := DX8_addCard_c0.2.2.1
theorem dX8_addCard_7 : decode cX8_addCard 7 = .ok (.iconst 1, 1) := DX8_addCard_c0.2.2.2.1
theorem dX8_addCard_8 : decode cX8_addCard 8 = .ok (.isub, 1) := DX8_addCard_c0.2.2.2.2.1
theorem dX8_addCard_9 : decode cX8_addCard 9 = .ok (.iload_n 1, 1) := DX8_addCard_c0.2.2.2.2.2.1
theorem dX8_addCard_10 : decode cX8_addCard 10 = .ok (.invokestatic 85, 3) := DX8_addCard_c0.2.2.2.2.2.2.1
theorem dX8_addCard_13 : decode cX8_addCard 13 = .ok (.ifCond .ne 5, 3) := DX8_addCard_c0.2.2.2.2.2.2.2.1
theorem dX8_addCard_16 : decode cX8_addCard 16 = .ok (.iconst (-1), 1) := DX8_addCard_c0.2.2.2.2.2.2.2.2.1
theorem dX8_addCard_17 : decode cX8_addCard 17 = .ok (.ireturn, 1) := DX8_addCard_c0.2.2.2.2.2.2.2.2.2
set_option maxRecDepth 100000 in
theorem DX8_addCard_c1 : decode cX8_addCard 18 = .ok (.aload_n 0, 1) ∧ decode cX8_addCard 19 = .ok (.getfield 19, 3) ∧ decode cX8_addCard 22 = .ok (.invokevirtual 162, 3) ∧ decode cX8_addCard 25 = .ok (.ifCond .ne 6, 3) ∧ decode cX8_addCard 28 = .ok (.bipush (-3), 2) ∧ decode cX8_addCard 30 = .ok (.ireturn, 1) ∧ decode cX8_addCard 31 = .ok (.aload_n 0, 1) ∧ decode cX8_addCard 32 = .ok (.getfield 26, 3) ∧ decode cX8_addCard 35 = .ok (.aload_n 0, 1) ∧ decode cX8_addCard 36 = .ok (.getfield 10, 3) := by decide +kernel
theorem dX8_addCard_18 : decode cX8_addCard 18 = .ok (.aload_n 0, 1) := DX8_addCard_c1.1
theorem dX8_addCard_19 : decode cX8_addCard 19 = .ok (.getfield 19, 3) := DX8_addCard_c1.2.1
theorem dX8_addCard_22 : decode cX8_addCard 22 = .ok (.invokevirtual 162, 3) := DX8_addCard_c1.2.2.1
theorem dX8_addCard_25 : decode cX8_addCard 25 = .ok (.ifCond .ne 6, 3) := DX8_addCard_c1.2.2.2.1
theorem dX8_addCard_28 : decode cX8_addCard 28 = .ok (.bipush (-3), 2) := DX8_addCard_c1.2.2.2.2.1
theorem dX8_addCard_30 : decode cX8_addCard 30 = .ok (.ireturn, 1) := DX8_addCard_c1.2.2.2.2.2.1
theorem dX8_addCard_31 : decode cX8_addCard 31 = .ok (.aload_n 0, 1) := DX8_addCard_c1.2.2.2.2.2.2.1
theorem dX8_addCard_32 : decode cX8_addCard 32 = .ok (.getfield 26, 3) := DX8_addCard_c1.2.2.2.2.2.2.2.1
theorem dX8_addCard_35 : decode cX8_addCard 35 = .ok (.aload_n 0, 1) := DX8_addCard_c1.2.2.2.2.2.2.2.2.1
theorem dX8_addCard_36 : decode cX8_addCard 36 = .ok (.getfield 10, 3) := DX8_addCard_c1.2.2.2.2.2.2.2.2.2
set_option maxRecDepth 100000 in
theorem DX8_addCard_c2 : decode cX8_addCard 39 = .ok (.aload_n 0, 1) ∧ decode cX8_addCard 40 = .ok (.getfield 19, 3) ∧ decode cX8_addCard 43 = .ok (.invokevirtual 65, 3) ∧ decode cX8_addCard 46 = .ok (.aload_n 0, 1) ∧ decode cX8_addCard 47 = .ok (.getfield 19, 3) ∧ decode cX8_addCard 50 = .ok (.aload_n 0, 1) ∧ decode cX8_addCard 51 = .ok (.getfield 33, 3) ∧ decode cX8_addCard 54 = .ok (.aload_n 0, 1) ∧ decode cX8_addCard 55 = .ok (.getfield 19, 3) ∧ decode cX8_addCard 58 = .ok (.invokevirtual 159, 3) := by decide +kernel
theorem dX8_addCard_39 : decode cX8_addCard 39 = .ok (.aload_n 0, 1) := DX8_addCard_c2.1
theorem dX8_addCard_40 : decode cX8_addCard 40 = .ok (.getfield 19, 3) := DX8_addCard_c2.2.1
theorem dX8_addCard_43 : decode cX8_addCard 43 = .ok (.invokevirtual 65, 3) := DX8_addCard_c2.2.2.1
theorem dX8_addCard_46 : decode cX8_addCard 46 = .ok (.aload_n 0, 1) := DX8_addCard_c2.2.2.2.1
theorem dX8_addCard_47 : decode cX8_addCard 47 = .ok (.getfield 19, 3) := DX8_addCard_c2.2.2.2.2.1
theorem dX8_addCard_50 : decode cX8_addCard 50 = .ok (.aload_n 0, 1) := DX8_addCard_c2.2.2.2.2.2.1
theorem dX8_addCard_51 : decode cX8_addCard 51 = .ok (.getfield 33, 3) := DX8_addCard_c2.2.2.2.2.2.2.1
theorem dX8_addCard_54 : decode cX8_addCard 54 = .ok (.aload_n 0, 1) := DX8_addCard_c2.2.2.2.2.2.2.2.1
theorem dX8_addCard_55 : decode cX8_addCard 55 = .ok (.getfield 19, 3) := DX8_addCard_c2.2.2.2.2.2.2.2.2.1
theorem dX8_addCard_58 : decode cX8_addCard 58 = .ok (.invokevirtual 159, 3) := DX8_addCard_c2.2.2.2.2.2.2.2.2.2
set_option maxRecDepth 100000 in
theorem DX8_addCard_c3 : decode cX8_addCard 61 = .ok (.iconst 1, 1) ∧ decode cX8_addCard 62 = .ok (.isub, 1) ∧ decode cX8_addCard 63 = .ok (.iload_n 1, 1) ∧ decode cX8_addCard 64 = .ok (.invokevirtual 99, 3) ∧ decode cX8_addCard 67 = .ok (.invokevirtual 165, 3) ∧ decode cX8_addCard 70 = .ok (.ireturn, 1) := by decide +kernel
theorem dX8_addCard_61 : decode cX8_addCard 61 = .ok (.iconst 1, 1) := DX8_addCard_c3.1
theorem dX8_addCard_62 : decode cX8_addCard 62 = .ok (.isub, 1) := DX8_addCard_c3.2.1
theorem dX8_addCard_63 : decode cX8_addCard 63 = .ok (.iload_n 1, 1) := DX8_addCard_c3.2.2.1
theorem dX8_addCard_64 : decode cX8_addCard 64 = .ok (.invokevirtual 99, 3) := DX8_addCard_c3.2.2.2.1
theorem dX8_addCard_67 : decode cX8_addCard 67 = .ok (.invokevirtual 165, 3) := DX8_addCard_c3.2.2.2.2.1
theorem dX8_addCard_70 : decode cX8_addCard 70 = .ok (.ireturn, 1) := DX8_addCard_c3.2.2.2.2.2
set_option maxRecDepth 100000 in
theorem DX8_dropCard_c0 : decode cX8_dropCard 0 = .ok (.aload_n 0, 1) ∧ decode cX8_dropCard 1 = .ok (.getfield 19, 3) ∧ decode cX8_dropCard 4 = .ok (.iload_n 1, 1) ∧ decode cX8_dropCard 5 = .ok (.invokevirtual 168, 3) ∧ decode cX8_dropCard 8 = .ok (.ifCond .ne 5, 3) ∧ decode cX8_dropCard 11 = .ok (.iconst (-1), 1) ∧ decode cX8_dropCard 12 = .ok (.ireturn, 1) ∧ decode cX8_dropCard 13 = .ok (.aload_n 0, 1) ∧ decode cX8_dropCard 14 = .ok (.getfield 26, 3) ∧ decode cX8_dropCard 17 = .ok (.aload_n 0, 1) := by decide +kernel
theorem dX8_dropCard_0 : decode cX8_dropCard 0 = .ok (.aload_n 0, 1) := DX8_dropCard_c0.1
theorem dX8_dropCard_1 : decode cX8_dropCard 1 = .ok (.getfield 19, 3) := DX8_dropCard_c0.2.1
theorem dX8_dropCard_4 : decode cX8_dropCard 4 = .ok (.iload_n 1, 1) := DX8_dropCard_c0.2.2.1
theorem dX8_dropCard_5 : decode cX8_dropCard 5 = .ok (.invokevirtual 168, 3) := DX8_dropCard_c0.2.2.2.1
theorem dX8_dropCard_8 : decode cX8_dropCard 8 = .ok (.ifCond .ne 5, 3) := DX8_dropCard_c0.2.2.2.2.1
theorem dX8_dropCard_11 : decode cX8_dropCard 11 = .ok (.iconst (-1), 1) := DX8_dropCard_c0.2.2.2.2.2.1
theorem dX8_dropCard_12 : decode cX8_dropCard 12 = .ok (.ireturn, 1) := DX8_dropCard_c0.2.2.2.2.2.2.1
theorem dX8_dropCard_13 : decode cX8_dropCard 13 = .ok (.aload_n 0, 1) := DX8_dropCard_c0.2.2.2.2.2.2.2.1
theorem dX8_dropCard_14 : decode cX8_dropCard 14 = .ok (.getfield 26, 3) := DX8_dropCard_c0.2.2.2.2.2.2.2.2.1
theorem dX8_dropCard_17 : decode cX8_dropCard 17 = .ok (.aload_n 0, 1) := DX8_dropCard_c0.2.2.2.2.2.2.2.2.2
set_option maxRecDepth 100000 in
theorem DX8_dropCard_c1 : decode cX8_dropCard 18 = .ok (.getfield 10, 3) ∧ decode cX8_dropCard 21 = .ok (.aload_n 0, 1) ∧ decode cX8_dropCard 22 = .ok (.getfield 19, 3) ∧ decode cX8_dropCard 25 = .ok (.invokevirtual 65, 3) ∧ decode cX8_dropCard 28 = .ok (.aload_n 0, 1) ∧ decode cX8_dropCard 29 = .ok (.getfield 19, 3) ∧ decode cX8_dropCard 32 = .ok (.iload_n 1, 1) ∧ decode cX8_dropCard 33 = .ok (.invokevirtual 169, 3) ∧ decode cX8_dropCard 36 = .ok (.aload_n 0, 1) ∧ decode cX8_dropCard 37 = .ok (.getfield 19, 3) := by decide +kernel
theorem dX8_dropCard_18 : decode cX8_dropCard 18 = .ok (.getfield 10, 3) := DX8_dropCard_c1.1
theorem dX8_dropCard_21 : decode cX8_dropCard 21 = .ok (.aload_n 0, 1) := DX8_dropCard_c1.2.1
theorem dX8_dropCard_22 : decode cX8_dropCard 22 = .ok (.getfield 19, 3) := DX8_dropCard_c1.2.2.1
theorem dX8_dropCard_25 : decode cX8_dropCard 25 = .ok (.invokevirtual 65, 3) := DX8_dropCard_c1.2.2.2.1
theorem dX8_dropCard_28 : decode cX8_dropCard 28 = .ok (.aload_n 0, 1) := DX8_dropCard_c1.2.2.2.2.1
theorem dX8_dropCard_29 : decode cX8_dropCard 29 = .ok (.getfield 19, 3) := DX8_dropCard_c1.2.2.2.2.2.1
theorem dX8_dropCard_32 : decode cX8_dropCard 32 = .ok (.iload_n 1, 1) := DX8_dropCard_c1.2.2.2.2.2.2.1
theorem dX8_dropCard_33 : decode cX8_dropCard 33 = .ok (.invokevirtual 169, 3) := DX8_dropCard_c1.2.2.2.2.2.2.2.1
theorem dX8_dropCard_36 : decode cX8_dropCard 36 = .ok (.aload_n 0, 1) := DX8_dropCard_c1.2.2.2.2.2.2.2.2.1
theorem dX8_dropCard_37 : decode cX8_dropCard 37 = .ok (.getfield 19, 3) := DX8_dropCard_c1.2.2.2.2.2.2.2.2.2
set_option maxRecDepth 100000 in
theorem DX8_dropCard_c2 : decode cX8_dropCard 40 = .ok (.invokevirtual 150, 3) ∧ decode cX8_dropCard 43 = .ok (.ireturn, 1) := by decide +kernel
theorem dX8_dropCard_40 : decode cX8_dropCard 40 = .ok (.invokevirtual 150, 3) := DX8_dropCard_c2.1
theorem dX8_dropCard_43 : decode cX8_dropCard 43 = .ok (.ireturn, 1) := DX8_dropCard_c2.2
set_option maxRecDepth 100000 in
theorem DX8_card_c0 : decode cX8_card 0 = .ok (.aload_n 0, 1) ∧ decode cX8_card 1 = .ok (.getfield 19, 3) ∧ decode cX8_card 4 = .ok (.iload_n 1, 1) ∧ decode cX8_card 5 = .ok (.invokevirtual 168, 3) ∧ decode cX8_card 8 = .ok (.ifCond .ne 5, 3) ∧ decode cX8_card 11 = .ok (.iconst (-1), 1) ∧ decode cX8_card 12 = .ok (.ireturn, 1) ∧ decode cX8_card 13 = .ok (.iload_n 2, 1) ∧ decode cX8_card 14 = .ok (.tableswitch 90 0 4 #[34, 43, 55, 71, 84], 34) ∧ decode cX8_card 48 = .ok (.aload_n 0, 1) := by decide +kernel
theorem dX8_card_0 : decode cX8_card 0 = .ok (.aload_n 0, 1) := DX8_card_c0.1
theorem dX8_card_1 : decode cX8_card 1 = .ok (.getfield 19, 3) := DX8_card_c0.2.1
theorem dX8_card_4 : decode cX8_card 4 = .ok (.iload_n 1, 1) := DX8_card_c0.2.2.1
theorem dX8_card_5 : decode cX8_card 5 = .ok (.invokevirtual 168, 3) := DX8_card_c0.2.2.2.1
theorem dX8_card_8 : decode cX8_card 8 = .ok (.ifCond .ne 5, 3) := DX8_card_c0.2.2.2.2.1
theorem dX8_card_11 : decode cX8_card 11 = .ok (.iconst (-1), 1) := DX8_card_c0.2.2.2.2.2.1
theorem dX8_card_12 : decode cX8_card 12 = .ok (.ireturn, 1) := DX8_card_c0.2.2.2.2.2.2.1
theorem dX8_card_13 : decode cX8_card 13 = .ok (.iload_n 2, 1) := DX8_card_c0.2.2.2.2.2.2.2.1
theorem dX8_card_14 : decode cX8_card 14 = .ok (.tableswitch 90 0 4 #[34, 43, 55, 71, 84], 34) := DX8_card_c0.2.2.2.2.2.2.2.2.1
theorem dX8_card_48 : decode cX8_card 48 = .ok (.aload_n 0, 1) := DX8_card_c0.2.2.2.2.2.2.2.2.2
set_option maxRecDepth 100000 in
theorem DX8_card_c1 : decode cX8_card 49 = .ok (.getfield 19, 3) ∧ decode cX8_card 52 = .ok (.iload_n 1, 1) ∧ decode cX8_card 53 = .ok (.invokevirtual 172, 3) ∧ decode cX8_card 56 = .ok (.ireturn, 1) ∧ decode cX8_card 57 = .ok (.aload_n 0, 1) ∧ decode cX8_card 58 = .ok (.getfield 19, 3) ∧ decode cX8_card 61 = .ok (.iload_n 1, 1) ∧ decode cX8_card 62 = .ok (.invokevirtual 172, 3) ∧ decode cX8_card 65 = .ok (.invokestatic 175, 3) ∧ decode cX8_card 68 = .ok (.ireturn, 1) := by decide +kernel
theorem dX8_card_49 : decode cX8_card 49 = .ok (.getfield 19, 3) := DX8_card_c1.1
theorem dX8_card_52 : decode cX8_card 52 = .ok (.iload_n 1, 1) := DX8_card_c1.2.1
theorem dX8_card_53 : decode cX8_card 53 = .ok (.invokevirtual 172, 3) := DX8_card_c1.2.2.1
theorem dX8_card_56 : decode cX8_card 56 = .ok (.ireturn, 1) := DX8_card_c1.2.2.2.1
theorem dX8_card_57 : decode cX8_card 57 = .ok (.aload_n 0, 1) := DX8_card_c1.2.2.2.2.1
theorem dX8_card_58 : decode cX8_card 58 = .ok (.getfield 19, 3) := DX8_card_c1.2.2.2.2.2.1
theorem dX8_card_61 : decode cX8_card 61 = .ok (.iload_n 1, 1) := DX8_card_c1.2.2.2.2.2.2.1
theorem dX8_card_62 : decode cX8_card 62 = .ok (.invokevirtual 172, 3) := DX8_card_c1.2.2.2.2.2.2.2.1
theorem dX8_card_65 : decode cX8_card 65 = .ok (.invokestatic 175, 3) := DX8_card_c1.2.2.2.2.2.2.2.2.1
theorem dX8_card_68 : decode cX8_card 68 = .ok (.ireturn, 1) := DX8_card_c1.2.2.2.2.2.2.2.2.2
set_option maxRecDepth 100000 in
theorem DX8_card_c2 : decode cX8_card 69 = .ok (.aload_n 0, 1) ∧ decode cX8_card 70 = .ok (.getfield 19, 3) ∧ decode cX8_card 73 = .ok (.aload_n 0, 1) ∧ decode cX8_card 74 = .ok (.getfield 19, 3) ∧ decode cX8_card 77 = .ok (.iload_n 1, 1) ∧ decode cX8_card 78 = .ok (.invokevirtual 172, 3) ∧ decode cX8_card 81 = .ok (.invokevirtual 180, 3) ∧ decode cX8_card 84 = .ok (.ireturn, 1) ∧ decode cX8_card 85 = .ok (.aload_n 0, 1) ∧ decode cX8_card 86 = .ok (.getfield 47, 3) := by decide +kernel
theorem dX8_card_69 : decode cX8_card 69 = .ok (.aload_n 0, 1) := DX8_card_c2.1
theorem dX8_card_70 : decode cX8_card 70 = .ok (.getfield 19, 3) := DX8_card_c2.2.1
theorem dX8_card_73 : decode cX8_card 73 = .ok (.aload_n 0, 1) := DX8_card_c2.2.2.1
theorem dX8_card_74 : decode cX8_card 74 = .ok (.getfield 19, 3) := DX8_card_c2.2.2.2.1
theorem dX8_card_77 : decode cX8_card 77 = .ok (.iload_n 1, 1) := DX8_card_c2.2.2.2.2.1
theorem dX8_card_78 : decode cX8_card 78 = .ok (.invokevirtual 172, 3) := DX8_card_c2.2.2.2.2.2.1
theorem dX8_card_81 : decode cX8_card 81 = .ok (.invokevirtual 180, 3) := DX8_card_c2.2.2.2.2.2.2.1
theorem dX8_card_84 : decode cX8_card 84 = .ok (.ireturn, 1) := DX8_card_c2.2.2.2.2.2.2.2.1
theorem dX8_card_85 : decode cX8_card 85 = .ok (.aload_n 0, 1) := DX8_card_c2.2.2.2.2.2.2.2.2.1
theorem dX8_card_86 : decode cX8_card 86 = .ok (.getfield 47, 3) := DX8_card_c2.2.2.2.2.2.2.2.2.2
set_option maxRecDepth 100000 in
theorem DX8_card_c3 : decode cX8_card 89 = .ok (.aload_n 0, 1) ∧ decode cX8_card 90 = .ok (.getfield 19, 3) ∧ decode cX8_card 93 = .ok (.iload_n 1, 1) ∧ decode cX8_card 94 = .ok (.invokevirtual 183, 3) ∧ decode cX8_card 97 = .ok (.ireturn, 1) ∧ decode cX8_card 98 = .ok (.aload_n 0, 1) ∧ decode cX8_card 99 = .ok (.iload_n 1, 1) ∧ decode cX8_card 100 = .ok (.invokevirtual 186, 3) ∧ decode cX8_card 103 = .ok (.ireturn, 1) ∧ decode cX8_card 104 = .ok (.iconst (-1), 1) := by decide +kernel
theorem dX8_card_89 : decode cX8_card 89 = .ok (.aload_n 0, 1) := DX8_card_c3.1
theorem dX8_card_90 : decode cX8_card 90 = .ok (.getfield 19, 3) := DX8_card_c3.2.1
theorem dX8_card_93 : decode cX8_card 93 = .ok (.iload_n 1, 1) := DX8_card_c3.2.2.1
theorem dX8_card_94 : decode cX8_card 94 = .ok (.invokevirtual 183, 3) := DX8_card_c3.2.2.2.1
theorem dX8_card_97 : decode cX8_card 97 = .ok (.ireturn, 1) := DX8_card_c3.2.2.2.2.1
theorem dX8_card_98 : decode cX8_card 98 = .ok (.aload_n 0, 1) := DX8_card_c3.2.2.2.2.2.1
theorem dX8_card_99 : decode cX8_card 99 = .ok (.iload_n 1, 1) := DX8_card_c3.2.2.2.2.2.2.1
theorem dX8_card_100 : decode cX8_card 100 = .ok (.invokevirtual 186, 3) := DX8_card_c3.2.2.2.2.2.2.2.1
theorem dX8_card_103 : decode cX8_card 103 = .ok (.ireturn, 1) := DX8_card_c3.2.2.2.2.2.2.2.2.1
theorem dX8_card_104 : decode cX8_card 104 = .ok (.iconst (-1), 1) := DX8_card_c3.2.2.2.2.2.2.2.2.2
set_option maxRecDepth 100000 in
theorem DX8_card_c4 : decode cX8_card 105 = .ok (.ireturn, 1) := by decide +kernel
theorem dX8_card_105 : decode cX8_card 105 = .ok (.ireturn, 1) := DX8_card_c4
set_option maxRecDepth 100000 in
theorem DX8_deck_c0 : decode cX8_deck 0 = .ok (.iload_n 1, 1) ∧ decode cX8_deck 1 = .ok (.bipush 6, 2) ∧ decode cX8_deck 3 = .ok (.if_icmp .eq 9, 3) ∧ decode cX8_deck 6 = .ok (.iload_n 1, 1) ∧ decode cX8_deck 7 = .ok (.bipush 7, 2) ∧ decode cX8_deck 9 = .ok (.if_icmp .ne 16, 3) ∧ decode cX8_deck 12 = .ok (.aload_n 0, 1) ∧ decode cX8_deck 13 = .ok (.getfield 19, 3) ∧ decode cX8_deck 16 = .ok (.invokevirtual 150, 3) ∧ decode cX8_deck 19 = .ok (.ifCond .ne 6, 3) := by decide +kernel
theorem dX8_deck_0 : decode cX8_deck 0 = .ok (.iload_n 1, 1) := DX8_deck_c0.1
theorem dX8_deck_1 : decode cX8_deck 1 = .ok (.bipush 6, 2) := DX8_deck_c0.2.1
theorem dX8_deck_3 : decode cX8_deck 3 = .ok (.if_icmp .eq 9, 3) := DX8_deck_c0.2.2.1
theorem dX8_deck_6 : decode cX8_deck 6 = .ok (.iload_n 1, 1) := DX8_deck_c0.2.2.2.1
theorem dX8_deck_7 : decode cX8_deck 7 = .ok (.bipush 7, 2) := DX8_deck_c0.2.2.2.2.1
theorem dX8_deck_9 : decode cX8_deck 9 = .ok (.if_icmp .ne 16, 3) := DX8_deck_c0.2.2.2.2.2.1
theorem dX8_deck_12 : decode cX8_deck 12 = .ok (.aload_n 0, 1) := DX8_deck_c0.2.2.2.2.2.2.1
theorem dX8_deck_13 : decode cX8_deck 13 = .ok (.getfield 19, 3) := DX8_deck_c0.2.2.2.2.2.2.2.1
theorem dX8_deck_16 : decode cX8_deck 16 = .ok (.invokevirtual 150, 3) := DX8_deck_c0.2.2.2.2.2.2.2.2.1
theorem dX8_deck_19 : decode cX8_deck 19 = .ok (.ifCond .ne 6, 3) := DX8_deck_c0.2.2.2.2.2.2.2.2.2
set_option maxRecDepth 100000 in
theorem DX8_deck_c1 : decode cX8_deck 22 = .ok (.bipush (-2), 2) ∧ decode cX8_deck 24 = .ok (.ireturn, 1) ∧ decode cX8_deck 25 = .ok (.iload_n 1, 1) ∧ decode cX8_deck 26 = .ok (.tableswitch 147 0 8 #[50, 58, 66, 74, 82, 94, 106, 129, 134], 50) ∧ decode cX8_deck 76 = .ok (.aload_n 0, 1) ∧ decode cX8_deck 77 = .ok (.getfield 19, 3) ∧ decode cX8_deck 80 = .ok (.invokevirtual 159, 3) ∧ decode cX8_deck 83 = .ok (.ireturn, 1) ∧ decode cX8_deck 84 = .ok (.aload_n 0, 1) ∧ decode cX8_deck 85 = .ok (.getfield 19, 3) := by decide +kernel
theorem dX8_deck_22 : decode cX8_deck 22 = .ok (.bipush (-2), 2) := DX8_deck_c1.1
theorem dX8_deck_24 : decode cX8_deck 24 = .ok (.ireturn, 1) := DX8_deck_c1.2.1
theorem dX8_deck_25 : decode cX8_deck 25 = .ok (.iload_n 1, 1) := DX8_deck_c1.2.2.1
theorem dX8_deck_26 : decode cX8_deck 26 = .ok (.tableswitch 147 0 8 #[50, 58, 66, 74, 82, 94, 106, 129, 134], 50) := DX8_deck_c1.2.2.2.1
theorem dX8_deck_76 : decode cX8_deck 76 = .ok (.aload_n 0, 1) := DX8_deck_c1.2.2.2.2.1
theorem dX8_deck_77 : decode cX8_deck 77 = .ok (.getfield 19, 3) := DX8_deck_c1.2.2.2.2.2.1
theorem dX8_deck_80 : decode cX8_deck 80 = .ok (.invokevirtual 159, 3) := DX8_deck_c1.2.2.2.2.2.2.1
theorem dX8_deck_83 : decode cX8_deck 83 = .ok (.ireturn, 1) := DX8_deck_c1.2.2.2.2.2.2.2.1
theorem dX8_deck_84 : decode cX8_deck 84 = .ok (.aload_n 0, 1) := DX8_deck_c1.2.2.2.2.2.2.2.2.1
theorem dX8_deck_85 : decode cX8_deck 85 = .ok (.getfield 19, 3) := DX8_deck_c1.2.2.2.2.2.2.2.2.2
set_option maxRecDepth 100000 in
theorem DX8_deck_c2 : decode cX8_deck 88 = .ok (.invokevirtual 150, 3) ∧ decode cX8_deck 91 = .ok (.ireturn, 1) ∧ decode cX8_deck 92 = .ok (.aload_n 0, 1) ∧ decode cX8_deck 93 = .ok (.getfield 19, 3) ∧ decode cX8_deck 96 = .ok (.invokevirtual 189, 3) ∧ decode cX8_deck 99 = .ok (.ireturn, 1) ∧ decode cX8_deck 100 = .ok (.aload_n 0, 1) ∧ decode cX8_deck 101 = .ok (.getfield 19, 3) ∧ decode cX8_deck 104 = .ok (.invokevirtual 162, 3) ∧ decode cX8_deck 107 = .ok (.ireturn, 1) := by decide +kernel
theorem dX8_deck_88 : decode cX8_deck 88 = .ok (.invokevirtual 150, 3) := DX8_deck_c2.1
theorem dX8_deck_91 : decode cX8_deck 91 = .ok (.ireturn, 1) := DX8_deck_c2.2.1
theorem dX8_deck_92 : decode cX8_deck 92 = .ok (.aload_n 0, 1) := DX8_deck_c2.2.2.1
theorem dX8_deck_93 : decode cX8_deck 93 = .ok (.getfield 19, 3) := DX8_deck_c2.2.2.2.1
theorem dX8_deck_96 : decode cX8_deck 96 = .ok (.invokevirtual 189, 3) := DX8_deck_c2.2.2.2.2.1
theorem dX8_deck_99 : decode cX8_deck 99 = .ok (.ireturn, 1) := DX8_deck_c2.2.2.2.2.2.1
theorem dX8_deck_100 : decode cX8_deck 100 = .ok (.aload_n 0, 1) := DX8_deck_c2.2.2.2.2.2.2.1
theorem dX8_deck_101 : decode cX8_deck 101 = .ok (.getfield 19, 3) := DX8_deck_c2.2.2.2.2.2.2.2.1
theorem dX8_deck_104 : decode cX8_deck 104 = .ok (.invokevirtual 162, 3) := DX8_deck_c2.2.2.2.2.2.2.2.2.1
theorem dX8_deck_107 : decode cX8_deck 107 = .ok (.ireturn, 1) := DX8_deck_c2.2.2.2.2.2.2.2.2.2
set_option maxRecDepth 100000 in
theorem DX8_deck_c3 : decode cX8_deck 108 = .ok (.aload_n 0, 1) ∧ decode cX8_deck 109 = .ok (.getfield 47, 3) ∧ decode cX8_deck 112 = .ok (.aload_n 0, 1) ∧ decode cX8_deck 113 = .ok (.getfield 19, 3) ∧ decode cX8_deck 116 = .ok (.invokevirtual 192, 3) ∧ decode cX8_deck 119 = .ok (.ireturn, 1) ∧ decode cX8_deck 120 = .ok (.aload_n 0, 1) ∧ decode cX8_deck 121 = .ok (.getfield 47, 3) ∧ decode cX8_deck 124 = .ok (.aload_n 0, 1) ∧ decode cX8_deck 125 = .ok (.getfield 19, 3) := by decide +kernel
theorem dX8_deck_108 : decode cX8_deck 108 = .ok (.aload_n 0, 1) := DX8_deck_c3.1
theorem dX8_deck_109 : decode cX8_deck 109 = .ok (.getfield 47, 3) := DX8_deck_c3.2.1
theorem dX8_deck_112 : decode cX8_deck 112 = .ok (.aload_n 0, 1) := DX8_deck_c3.2.2.1
theorem dX8_deck_113 : decode cX8_deck 113 = .ok (.getfield 19, 3) := DX8_deck_c3.2.2.2.1
theorem dX8_deck_116 : decode cX8_deck 116 = .ok (.invokevirtual 192, 3) := DX8_deck_c3.2.2.2.2.1
theorem dX8_deck_119 : decode cX8_deck 119 = .ok (.ireturn, 1) := DX8_deck_c3.2.2.2.2.2.1
theorem dX8_deck_120 : decode cX8_deck 120 = .ok (.aload_n 0, 1) := DX8_deck_c3.2.2.2.2.2.2.1
theorem dX8_deck_121 : decode cX8_deck 121 = .ok (.getfield 47, 3) := DX8_deck_c3.2.2.2.2.2.2.2.1
theorem dX8_deck_124 : decode cX8_deck 124 = .ok (.aload_n 0, 1) := DX8_deck_c3.2.2.2.2.2.2.2.2.1
theorem dX8_deck_125 : decode cX8_deck 125 = .ok (.getfield 19, 3) := DX8_deck_c3.2.2.2.2.2.2.2.2.2
set_option maxRecDepth 100000 in
theorem DX8_deck_c4 : decode cX8_deck 128 = .ok (.invokevirtual 195, 3) ∧ decode cX8_deck 131 = .ok (.ireturn, 1) ∧ decode cX8_deck 132 = .ok (.aload_n 0, 1) ∧ decode cX8_deck 133 = .ok (.getfield 54, 3) ∧ decode cX8_deck 136 = .ok (.aload_n 0, 1) ∧ decode cX8_deck 137 = .ok (.getfield 19, 3) ∧ decode cX8_deck 140 = .ok (.aload_n 0, 1) ∧ decode cX8_deck 141 = .ok (.getfield 19, 3) ∧ decode cX8_deck 144 = .ok (.invokevirtual 198, 3) ∧ decode cX8_deck 147 = .ok (.aload_n 0, 1) := by decide +kernel
theorem dX8_deck_128 : decode cX8_deck 128 = .ok (.invokevirtual 195, 3) := DX8_deck_c4.1
theorem dX8_deck_131 : decode cX8_deck 131 = .ok (.ireturn, 1) := DX8_deck_c4.2.1
theorem dX8_deck_132 : decode cX8_deck 132 = .ok (.aload_n 0, 1) := DX8_deck_c4.2.2.1
theorem dX8_deck_133 : decode cX8_deck 133 = .ok (.getfield 54, 3) := DX8_deck_c4.2.2.2.1
theorem dX8_deck_136 : decode cX8_deck 136 = .ok (.aload_n 0, 1) := DX8_deck_c4.2.2.2.2.1
theorem dX8_deck_137 : decode cX8_deck 137 = .ok (.getfield 19, 3) := DX8_deck_c4.2.2.2.2.2.1
theorem dX8_deck_140 : decode cX8_deck 140 = .ok (.aload_n 0, 1) := DX8_deck_c4.2.2.2.2.2.2.1
theorem dX8_deck_141 : decode cX8_deck 141 = .ok (.getfield 19, 3) := DX8_deck_c4.2.2.2.2.2.2.2.1
theorem dX8_deck_144 : decode cX8_deck 144 = .ok (.invokevirtual 198, 3) := DX8_deck_c4.2.2.2.2.2.2.2.2.1
theorem dX8_deck_147 : decode cX8_deck 147 = .ok (.aload_n 0, 1) := DX8_deck_c4.2.2.2.2.2.2.2.2.2
set_option maxRecDepth 100000 in
theorem DX8_deck_c5 : decode cX8_deck 148 = .ok (.getfield 33, 3) ∧ decode cX8_deck 151 = .ok (.invokevirtual 201, 3) ∧ decode cX8_deck 154 = .ok (.ireturn, 1) ∧ decode cX8_deck 155 = .ok (.aload_n 0, 1) ∧ decode cX8_deck 156 = .ok (.invokevirtual 204, 3) ∧ decode cX8_deck 159 = .ok (.ireturn, 1) ∧ decode cX8_deck 160 = .ok (.aload_n 0, 1) ∧ decode cX8_deck 161 = .ok (.invokevirtual 207, 3) ∧ decode cX8_deck 164 = .ok (.ifCond .eq 7, 3) ∧ decode cX8_deck 167 = .ok (.iconst 1, 1) := by decide +kernel
theorem dX8_deck_148 : decode cX8_deck 148 = .ok (.getfield 33, 3) := DX8_deck_c5.1
theorem dX8_deck_151 : decode cX8_deck 151 = .ok (.invokevirtual 201, 3) := DX8_deck_c5.2.1
theorem dX8_deck_154 : decode cX8_deck 154 = .ok (.ireturn, 1) := DX8_deck_c5.2.2.1
theorem dX8_deck_155 : decode cX8_deck 155 = .ok (.aload_n 0, 1) := DX8_deck_c5.2.2.2.1
theorem dX8_deck_156 : decode cX8_deck 156 = .ok (.invokevirtual 204, 3) := DX8_deck_c5.2.2.2.2.1
theorem dX8_deck_159 : decode cX8_deck 159 = .ok (.ireturn, 1) := DX8_deck_c5.2.2.2.2.2.1
theorem dX8_deck_160 : decode cX8_deck 160 = .ok (.aload_n 0, 1) := DX8_deck_c5.2.2.2.2.2.2.1
theorem dX8_deck_161 : decode cX8_deck 161 = .ok (.invokevirtual 207, 3) := DX8_deck_c5.2.2.2.2.2.2.2.1
theorem dX8_deck_164 : decode cX8_deck 164 = .ok (.ifCond .eq 7, 3) := DX8_deck_c5.2.2.2.2.2.2.2.2.1
theorem dX8_deck_167 : decode cX8_deck 167 = .ok (.iconst 1, 1) := DX8_deck_c5.2.2.2.2.2.2.2.2.2
set_option maxRecDepth 100000 in
theorem DX8_deck_c6 : decode cX8_deck 168 = .ok (.goto 4, 3) ∧ decode cX8_deck 171 = .ok (.iconst 0, 1) ∧ decode cX8_deck 172 = .ok (.ireturn, 1) ∧ decode cX8_deck 173 = .ok (.iconst (-1), 1) ∧ decode cX8_deck 174 = .ok (.ireturn, 1) := by decide +kernel
theorem dX8_deck_168 : decode cX8_deck 168 = .ok (.goto 4, 3) := DX8_deck_c6.1
theorem dX8_deck_171 : decode cX8_deck 171 = .ok (.iconst 0, 1) := DX8_deck_c6.2.1
theorem dX8_deck_172 : decode cX8_deck 172 = .ok (.ireturn, 1) := DX8_deck_c6.2.2.1
theorem dX8_deck_173 : decode cX8_deck 173 = .ok (.iconst (-1), 1) := DX8_deck_c6.2.2.2.1
theorem dX8_deck_174 : decode cX8_deck 174 = .ok (.ireturn, 1) := DX8_deck_c6.2.2.2.2
set_option maxRecDepth 100000 in
theorem DX8_counted_c0 : decode cX8_counted 0 = .ok (.iload_n 1, 1) ∧ decode cX8_counted 1 = .ok (.invokestatic 142, 3) ∧ decode cX8_counted 4 = .ok (.ifCond .eq 18, 3) ∧ decode cX8_counted 7 = .ok (.aload_n 0, 1) ∧ decode cX8_counted 8 = .ok (.getfield 47, 3) ∧ decode cX8_counted 11 = .ok (.aload_n 0, 1) ∧ decode cX8_counted 12 = .ok (.getfield 19, 3) ∧ decode cX8_counted 15 = .ok (.iload_n 1, 1) ∧ decode cX8_counted 16 = .ok (.invokevirtual 211, 3) ∧ decode cX8_counted 19 = .ok (.goto 4, 3) := by decide +kernel
theorem dX8_counted_0 : decode cX8_counted 0 = .ok (.iload_n 1, 1) := DX8_counted_c0.1
theorem dX8_counted_1 : decode cX8_counted 1 = .ok (.invokestatic 142, 3) := DX8_counted_c0.2.1
theorem dX8_counted_4 : decode cX8_counted 4 = .ok (.ifCond .eq 18, 3) := DX8_counted_c0.2.2.1
theorem dX8_counted_7 : decode cX8_counted 7 = .ok (.aload_n 0, 1) := DX8_counted_c0.2.2.2.1
theorem dX8_counted_8 : decode cX8_counted 8 = .ok (.getfield 47, 3) := DX8_counted_c0.2.2.2.2.1
theorem dX8_counted_11 : decode cX8_counted 11 = .ok (.aload_n 0, 1) := DX8_counted_c0.2.2.2.2.2.1
theorem dX8_counted_12 : decode cX8_counted 12 = .ok (.getfield 19, 3) := DX8_counted_c0.2.2.2.2.2.2.1
theorem dX8_counted_15 : decode cX8_counted 15 = .ok (.iload_n 1, 1) := DX8_counted_c0.2.2.2.2.2.2.2.1
theorem dX8_counted_16 : decode cX8_counted 16 = .ok (.invokevirtual 211, 3) := DX8_counted_c0.2.2.2.2.2.2.2.2.1
theorem dX8_counted_19 : decode cX8_counted 19 = .ok (.goto 4, 3) := DX8_counted_c0.2.2.2.2.2.2.2.2.2
set_option maxRecDepth 100000 in
theorem DX8_counted_c1 : decode cX8_counted 22 = .ok (.iconst (-1), 1) ∧ decode cX8_counted 23 = .ok (.ireturn, 1) := by decide +kernel
theorem dX8_counted_22 : decode cX8_counted 22 = .ok (.iconst (-1), 1) := DX8_counted_c1.1
theorem dX8_counted_23 : decode cX8_counted 23 = .ok (.ireturn, 1) := DX8_counted_c1.2
set_option maxRecDepth 100000 in
theorem DX8_answer_c0 : decode cX8_answer 0 = .ok (.iload_n 1, 1) ∧ decode cX8_answer 1 = .ok (.ifCond .ge 5, 3) ∧ decode cX8_answer 4 = .ok (.iconst (-1), 1) ∧ decode cX8_answer 5 = .ok (.ireturn, 1) ∧ decode cX8_answer 6 = .ok (.aload_n 0, 1) ∧ decode cX8_answer 7 = .ok (.getfield 19, 3) ∧ decode cX8_answer 10 = .ok (.invokevirtual 150, 3) ∧ decode cX8_answer 13 = .ok (.ifCond .ne 6, 3) ∧ decode cX8_answer 16 = .ok (.bipush (-2), 2) ∧ decode cX8_answer 18 = .ok (.ireturn, 1) := by decide +kernel
theorem dX8_answer_0 : decode cX8_answer 0 = .ok (.iload_n 1, 1) := DX8_answer_c0.1
theorem dX8_answer_1 : decode cX8_answer 1 = .ok (.ifCond .ge 5, 3) := DX8_answer_c0.2.1
theorem dX8_answer_4 : decode cX8_answer 4 = .ok (.iconst (-1), 1) := DX8_answer_c0.2.2.1
theorem dX8_answer_5 : decode cX8_answer 5 = .ok (.ireturn, 1) := DX8_answer_c0.2.2.2.1
theorem dX8_answer_6 : decode cX8_answer 6 = .ok (.aload_n 0, 1) := DX8_answer_c0.2.2.2.2.1
theorem dX8_answer_7 : decode cX8_answer 7 = .ok (.getfield 19, 3) := DX8_answer_c0.2.2.2.2.2.1
theorem dX8_answer_10 : decode cX8_answer 10 = .ok (.invokevirtual 150, 3) := DX8_answer_c0.2.2.2.2.2.2.1
theorem dX8_answer_13 : decode cX8_answer 13 = .ok (.ifCond .ne 6, 3) := DX8_answer_c0.2.2.2.2.2.2.2.1
theorem dX8_answer_16 : decode cX8_answer 16 = .ok (.bipush (-2), 2) := DX8_answer_c0.2.2.2.2.2.2.2.2.1
theorem dX8_answer_18 : decode cX8_answer 18 = .ok (.ireturn, 1) := DX8_answer_c0.2.2.2.2.2.2.2.2.2
set_option maxRecDepth 100000 in
theorem DX8_answer_c1 : decode cX8_answer 19 = .ok (.iload_n 1, 1) ∧ decode cX8_answer 20 = .ok (.aload_n 0, 1) ∧ decode cX8_answer 21 = .ok (.getfield 54, 3) ∧ decode cX8_answer 24 = .ok (.aload_n 0, 1) ∧ decode cX8_answer 25 = .ok (.getfield 19, 3) ∧ decode cX8_answer 28 = .ok (.aload_n 0, 1) ∧ decode cX8_answer 29 = .ok (.getfield 19, 3) ∧ decode cX8_answer 32 = .ok (.invokevirtual 198, 3) ∧ decode cX8_answer 35 = .ok (.aload_n 0, 1) ∧ decode cX8_answer 36 = .ok (.getfield 33, 3) := by decide +kernel
theorem dX8_answer_19 : decode cX8_answer 19 = .ok (.iload_n 1, 1) := DX8_answer_c1.1
theorem dX8_answer_20 : decode cX8_answer 20 = .ok (.aload_n 0, 1) := DX8_answer_c1.2.1
theorem dX8_answer_21 : decode cX8_answer 21 = .ok (.getfield 54, 3) := DX8_answer_c1.2.2.1
theorem dX8_answer_24 : decode cX8_answer 24 = .ok (.aload_n 0, 1) := DX8_answer_c1.2.2.2.1
theorem dX8_answer_25 : decode cX8_answer 25 = .ok (.getfield 19, 3) := DX8_answer_c1.2.2.2.2.1
theorem dX8_answer_28 : decode cX8_answer 28 = .ok (.aload_n 0, 1) := DX8_answer_c1.2.2.2.2.2.1
theorem dX8_answer_29 : decode cX8_answer 29 = .ok (.getfield 19, 3) := DX8_answer_c1.2.2.2.2.2.2.1
theorem dX8_answer_32 : decode cX8_answer 32 = .ok (.invokevirtual 198, 3) := DX8_answer_c1.2.2.2.2.2.2.2.1
theorem dX8_answer_35 : decode cX8_answer 35 = .ok (.aload_n 0, 1) := DX8_answer_c1.2.2.2.2.2.2.2.2.1
theorem dX8_answer_36 : decode cX8_answer 36 = .ok (.getfield 33, 3) := DX8_answer_c1.2.2.2.2.2.2.2.2.2
set_option maxRecDepth 100000 in
theorem DX8_answer_c2 : decode cX8_answer 39 = .ok (.invokevirtual 201, 3) ∧ decode cX8_answer 42 = .ok (.if_icmp .ge 14, 3) ∧ decode cX8_answer 45 = .ok (.aload_n 0, 1) ∧ decode cX8_answer 46 = .ok (.getfield 54, 3) ∧ decode cX8_answer 49 = .ok (.iload_n 1, 1) ∧ decode cX8_answer 50 = .ok (.invokevirtual 214, 3) ∧ decode cX8_answer 53 = .ok (.goto 5, 3) ∧ decode cX8_answer 56 = .ok (.bipush (-9), 2) ∧ decode cX8_answer 58 = .ok (.ireturn, 1) := by decide +kernel
theorem dX8_answer_39 : decode cX8_answer 39 = .ok (.invokevirtual 201, 3) := DX8_answer_c2.1
theorem dX8_answer_42 : decode cX8_answer 42 = .ok (.if_icmp .ge 14, 3) := DX8_answer_c2.2.1
theorem dX8_answer_45 : decode cX8_answer 45 = .ok (.aload_n 0, 1) := DX8_answer_c2.2.2.1
theorem dX8_answer_46 : decode cX8_answer 46 = .ok (.getfield 54, 3) := DX8_answer_c2.2.2.2.1
theorem dX8_answer_49 : decode cX8_answer 49 = .ok (.iload_n 1, 1) := DX8_answer_c2.2.2.2.2.1
theorem dX8_answer_50 : decode cX8_answer 50 = .ok (.invokevirtual 214, 3) := DX8_answer_c2.2.2.2.2.2.1
theorem dX8_answer_53 : decode cX8_answer 53 = .ok (.goto 5, 3) := DX8_answer_c2.2.2.2.2.2.2.1
theorem dX8_answer_56 : decode cX8_answer 56 = .ok (.bipush (-9), 2) := DX8_answer_c2.2.2.2.2.2.2.2.1
theorem dX8_answer_58 : decode cX8_answer 58 = .ok (.ireturn, 1) := DX8_answer_c2.2.2.2.2.2.2.2.2
set_option maxRecDepth 100000 in
theorem DX8_missing_c0 : decode cX8_missing 0 = .ok (.iload_n 1, 1) ∧ decode cX8_missing 1 = .ok (.ifCond .ge 5, 3) ∧ decode cX8_missing 4 = .ok (.iconst (-1), 1) ∧ decode cX8_missing 5 = .ok (.ireturn, 1) ∧ decode cX8_missing 6 = .ok (.aload_n 0, 1) ∧ decode cX8_missing 7 = .ok (.getfield 19, 3) ∧ decode cX8_missing 10 = .ok (.invokevirtual 150, 3) ∧ decode cX8_missing 13 = .ok (.ifCond .ne 6, 3) ∧ decode cX8_missing 16 = .ok (.bipush (-2), 2) ∧ decode cX8_missing 18 = .ok (.ireturn, 1) := by decide +kernel
theorem dX8_missing_0 : decode cX8_missing 0 = .ok (.iload_n 1, 1) := DX8_missing_c0.1
theorem dX8_missing_1 : decode cX8_missing 1 = .ok (.ifCond .ge 5, 3) := DX8_missing_c0.2.1
theorem dX8_missing_4 : decode cX8_missing 4 = .ok (.iconst (-1), 1) := DX8_missing_c0.2.2.1
theorem dX8_missing_5 : decode cX8_missing 5 = .ok (.ireturn, 1) := DX8_missing_c0.2.2.2.1
theorem dX8_missing_6 : decode cX8_missing 6 = .ok (.aload_n 0, 1) := DX8_missing_c0.2.2.2.2.1
theorem dX8_missing_7 : decode cX8_missing 7 = .ok (.getfield 19, 3) := DX8_missing_c0.2.2.2.2.2.1
theorem dX8_missing_10 : decode cX8_missing 10 = .ok (.invokevirtual 150, 3) := DX8_missing_c0.2.2.2.2.2.2.1
theorem dX8_missing_13 : decode cX8_missing 13 = .ok (.ifCond .ne 6, 3) := DX8_missing_c0.2.2.2.2.2.2.2.1
theorem dX8_missing_16 : decode cX8_missing 16 = .ok (.bipush (-2), 2) := DX8_missing_c0.2.2.2.2.2.2.2.2.1
theorem dX8_missing_18 : decode cX8_missing 18 = .ok (.ireturn, 1) := DX8_missing_c0.2.2.2.2.2.2.2.2.2
set_option maxRecDepth 100000 in
theorem DX8_missing_c1 : decode cX8_missing 19 = .ok (.aload_n 0, 1) ∧ decode cX8_missing 20 = .ok (.getfield 54, 3) ∧ decode cX8_missing 23 = .ok (.aload_n 0, 1) ∧ decode cX8_missing 24 = .ok (.getfield 19, 3) ∧ decode cX8_missing 27 = .ok (.aload_n 0, 1) ∧ decode cX8_missing 28 = .ok (.getfield 19, 3) ∧ decode cX8_missing 31 = .ok (.invokevirtual 198, 3) ∧ decode cX8_missing 34 = .ok (.aload_n 0, 1) ∧ decode cX8_missing 35 = .ok (.getfield 33, 3) ∧ decode cX8_missing 38 = .ok (.invokevirtual 201, 3) := by decide +kernel
theorem dX8_missing_19 : decode cX8_missing 19 = .ok (.aload_n 0, 1) := DX8_missing_c1.1
theorem dX8_missing_20 : decode cX8_missing 20 = .ok (.getfield 54, 3) := DX8_missing_c1.2.1
theorem dX8_missing_23 : decode cX8_missing 23 = .ok (.aload_n 0, 1) := DX8_missing_c1.2.2.1
theorem dX8_missing_24 : decode cX8_missing 24 = .ok (.getfield 19, 3) := DX8_missing_c1.2.2.2.1
theorem dX8_missing_27 : decode cX8_missing 27 = .ok (.aload_n 0, 1) := DX8_missing_c1.2.2.2.2.1
theorem dX8_missing_28 : decode cX8_missing 28 = .ok (.getfield 19, 3) := DX8_missing_c1.2.2.2.2.2.1
theorem dX8_missing_31 : decode cX8_missing 31 = .ok (.invokevirtual 198, 3) := DX8_missing_c1.2.2.2.2.2.2.1
theorem dX8_missing_34 : decode cX8_missing 34 = .ok (.aload_n 0, 1) := DX8_missing_c1.2.2.2.2.2.2.2.1
theorem dX8_missing_35 : decode cX8_missing 35 = .ok (.getfield 33, 3) := DX8_missing_c1.2.2.2.2.2.2.2.2.1
theorem dX8_missing_38 : decode cX8_missing 38 = .ok (.invokevirtual 201, 3) := DX8_missing_c1.2.2.2.2.2.2.2.2.2
set_option maxRecDepth 100000 in
theorem DX8_missing_c2 : decode cX8_missing 41 = .ok (.iconst 1, 1) ∧ decode cX8_missing 42 = .ok (.if_icmp .eq 6, 3) ∧ decode cX8_missing 45 = .ok (.bipush (-9), 2) ∧ decode cX8_missing 47 = .ok (.ireturn, 1) ∧ decode cX8_missing 48 = .ok (.aload_n 0, 1) ∧ decode cX8_missing 49 = .ok (.getfield 54, 3) ∧ decode cX8_missing 52 = .ok (.iconst 0, 1) ∧ decode cX8_missing 53 = .ok (.aload_n 0, 1) ∧ decode cX8_missing 54 = .ok (.getfield 58, 3) ∧ decode cX8_missing 57 = .ok (.aload_n 0, 1) := by decide +kernel
theorem dX8_missing_41 : decode cX8_missing 41 = .ok (.iconst 1, 1) := DX8_missing_c2.1
theorem dX8_missing_42 : decode cX8_missing 42 = .ok (.if_icmp .eq 6, 3) := DX8_missing_c2.2.1
theorem dX8_missing_45 : decode cX8_missing 45 = .ok (.bipush (-9), 2) := DX8_missing_c2.2.2.1
theorem dX8_missing_47 : decode cX8_missing 47 = .ok (.ireturn, 1) := DX8_missing_c2.2.2.2.1
theorem dX8_missing_48 : decode cX8_missing 48 = .ok (.aload_n 0, 1) := DX8_missing_c2.2.2.2.2.1
theorem dX8_missing_49 : decode cX8_missing 49 = .ok (.getfield 54, 3) := DX8_missing_c2.2.2.2.2.2.1
theorem dX8_missing_52 : decode cX8_missing 52 = .ok (.iconst 0, 1) := DX8_missing_c2.2.2.2.2.2.2.1
theorem dX8_missing_53 : decode cX8_missing 53 = .ok (.aload_n 0, 1) := DX8_missing_c2.2.2.2.2.2.2.2.1
theorem dX8_missing_54 : decode cX8_missing 54 = .ok (.getfield 58, 3) := DX8_missing_c2.2.2.2.2.2.2.2.2.1
theorem dX8_missing_57 : decode cX8_missing 57 = .ok (.aload_n 0, 1) := DX8_missing_c2.2.2.2.2.2.2.2.2.2
set_option maxRecDepth 100000 in
theorem DX8_missing_c3 : decode cX8_missing 58 = .ok (.getfield 33, 3) ∧ decode cX8_missing 61 = .ok (.invokevirtual 215, 3) ∧ decode cX8_missing 64 = .ok (.aload_n 0, 1) ∧ decode cX8_missing 65 = .ok (.getfield 58, 3) ∧ decode cX8_missing 68 = .ok (.aload_n 0, 1) ∧ decode cX8_missing 69 = .ok (.getfield 19, 3) ∧ decode cX8_missing 72 = .ok (.iload_n 1, 1) ∧ decode cX8_missing 73 = .ok (.invokevirtual 219, 3) ∧ decode cX8_missing 76 = .ok (.ireturn, 1) := by decide +kernel
theorem dX8_missing_58 : decode cX8_missing 58 = .ok (.getfield 33, 3) := DX8_missing_c3.1
theorem dX8_missing_61 : decode cX8_missing 61 = .ok (.invokevirtual 215, 3) := DX8_missing_c3.2.1
theorem dX8_missing_64 : decode cX8_missing 64 = .ok (.aload_n 0, 1) := DX8_missing_c3.2.2.1
theorem dX8_missing_65 : decode cX8_missing 65 = .ok (.getfield 58, 3) := DX8_missing_c3.2.2.2.1
theorem dX8_missing_68 : decode cX8_missing 68 = .ok (.aload_n 0, 1) := DX8_missing_c3.2.2.2.2.1
theorem dX8_missing_69 : decode cX8_missing 69 = .ok (.getfield 19, 3) := DX8_missing_c3.2.2.2.2.2.1
theorem dX8_missing_72 : decode cX8_missing 72 = .ok (.iload_n 1, 1) := DX8_missing_c3.2.2.2.2.2.2.1
theorem dX8_missing_73 : decode cX8_missing 73 = .ok (.invokevirtual 219, 3) := DX8_missing_c3.2.2.2.2.2.2.2.1
theorem dX8_missing_76 : decode cX8_missing 76 = .ok (.ireturn, 1) := DX8_missing_c3.2.2.2.2.2.2.2.2
set_option maxRecDepth 100000 in
theorem DX8_accept_c0 : decode cX8_accept 0 = .ok (.iload_n 1, 1) ∧ decode cX8_accept 1 = .ok (.ifCond .lt 39, 3) ∧ decode cX8_accept 4 = .ok (.aload_n 0, 1) ∧ decode cX8_accept 5 = .ok (.getfield 19, 3) ∧ decode cX8_accept 8 = .ok (.invokevirtual 150, 3) ∧ decode cX8_accept 11 = .ok (.ifCond .eq 29, 3) ∧ decode cX8_accept 14 = .ok (.iload_n 1, 1) ∧ decode cX8_accept 15 = .ok (.aload_n 0, 1) ∧ decode cX8_accept 16 = .ok (.getfield 54, 3) ∧ decode cX8_accept 19 = .ok (.aload_n 0, 1) := by decide +kernel
theorem dX8_accept_0 : decode cX8_accept 0 = .ok (.iload_n 1, 1) := DX8_accept_c0.1
theorem dX8_accept_1 : decode cX8_accept 1 = .ok (.ifCond .lt 39, 3) := DX8_accept_c0.2.1
theorem dX8_accept_4 : decode cX8_accept 4 = .ok (.aload_n 0, 1) := DX8_accept_c0.2.2.1
theorem dX8_accept_5 : decode cX8_accept 5 = .ok (.getfield 19, 3) := DX8_accept_c0.2.2.2.1
theorem dX8_accept_8 : decode cX8_accept 8 = .ok (.invokevirtual 150, 3) := DX8_accept_c0.2.2.2.2.1
theorem dX8_accept_11 : decode cX8_accept 11 = .ok (.ifCond .eq 29, 3) := DX8_accept_c0.2.2.2.2.2.1
theorem dX8_accept_14 : decode cX8_accept 14 = .ok (.iload_n 1, 1) := DX8_accept_c0.2.2.2.2.2.2.1
theorem dX8_accept_15 : decode cX8_accept 15 = .ok (.aload_n 0, 1) := DX8_accept_c0.2.2.2.2.2.2.2.1
theorem dX8_accept_16 : decode cX8_accept 16 = .ok (.getfield 54, 3) := DX8_accept_c0.2.2.2.2.2.2.2.2.1
theorem dX8_accept_19 : decode cX8_accept 19 = .ok (.aload_n 0, 1) := DX8_accept_c0.2.2.2.2.2.2.2.2.2
set_option maxRecDepth 100000 in
theorem DX8_accept_c1 : decode cX8_accept 20 = .ok (.getfield 19, 3) ∧ decode cX8_accept 23 = .ok (.aload_n 0, 1) ∧ decode cX8_accept 24 = .ok (.getfield 19, 3) ∧ decode cX8_accept 27 = .ok (.invokevirtual 198, 3) ∧ decode cX8_accept 30 = .ok (.aload_n 0, 1) ∧ decode cX8_accept 31 = .ok (.getfield 33, 3) ∧ decode cX8_accept 34 = .ok (.invokevirtual 201, 3) ∧ decode cX8_accept 37 = .ok (.if_icmp .lt 5, 3) ∧ decode cX8_accept 40 = .ok (.iconst (-1), 1) ∧ decode cX8_accept 41 = .ok (.ireturn, 1) := by decide +kernel
theorem dX8_accept_20 : decode cX8_accept 20 = .ok (.getfield 19, 3) := DX8_accept_c1.1
theorem dX8_accept_23 : decode cX8_accept 23 = .ok (.aload_n 0, 1) := DX8_accept_c1.2.1
theorem dX8_accept_24 : decode cX8_accept 24 = .ok (.getfield 19, 3) := DX8_accept_c1.2.2.1
theorem dX8_accept_27 : decode cX8_accept 27 = .ok (.invokevirtual 198, 3) := DX8_accept_c1.2.2.2.1
theorem dX8_accept_30 : decode cX8_accept 30 = .ok (.aload_n 0, 1) := DX8_accept_c1.2.2.2.2.1
theorem dX8_accept_31 : decode cX8_accept 31 = .ok (.getfield 33, 3) := DX8_accept_c1.2.2.2.2.2.1
theorem dX8_accept_34 : decode cX8_accept 34 = .ok (.invokevirtual 201, 3) := DX8_accept_c1.2.2.2.2.2.2.1
theorem dX8_accept_37 : decode cX8_accept 37 = .ok (.if_icmp .lt 5, 3) := DX8_accept_c1.2.2.2.2.2.2.2.1
theorem dX8_accept_40 : decode cX8_accept 40 = .ok (.iconst (-1), 1) := DX8_accept_c1.2.2.2.2.2.2.2.2.1
theorem dX8_accept_41 : decode cX8_accept 41 = .ok (.ireturn, 1) := DX8_accept_c1.2.2.2.2.2.2.2.2.2
set_option maxRecDepth 100000 in
theorem DX8_accept_c2 : decode cX8_accept 42 = .ok (.aload_n 0, 1) ∧ decode cX8_accept 43 = .ok (.getfield 26, 3) ∧ decode cX8_accept 46 = .ok (.aload_n 0, 1) ∧ decode cX8_accept 47 = .ok (.getfield 10, 3) ∧ decode cX8_accept 50 = .ok (.aload_n 0, 1) ∧ decode cX8_accept 51 = .ok (.getfield 19, 3) ∧ decode cX8_accept 54 = .ok (.invokevirtual 65, 3) ∧ decode cX8_accept 57 = .ok (.aload_n 0, 1) ∧ decode cX8_accept 58 = .ok (.getfield 10, 3) ∧ decode cX8_accept 61 = .ok (.aload_n 0, 1) := by decide +kernel
theorem dX8_accept_42 : decode cX8_accept 42 = .ok (.aload_n 0, 1) := DX8_accept_c2.1
theorem dX8_accept_43 : decode cX8_accept 43 = .ok (.getfield 26, 3) := DX8_accept_c2.2.1
theorem dX8_accept_46 : decode cX8_accept 46 = .ok (.aload_n 0, 1) := DX8_accept_c2.2.2.1
theorem dX8_accept_47 : decode cX8_accept 47 = .ok (.getfield 10, 3) := DX8_accept_c2.2.2.2.1
theorem dX8_accept_50 : decode cX8_accept 50 = .ok (.aload_n 0, 1) := DX8_accept_c2.2.2.2.2.1
theorem dX8_accept_51 : decode cX8_accept 51 = .ok (.getfield 19, 3) := DX8_accept_c2.2.2.2.2.2.1
theorem dX8_accept_54 : decode cX8_accept 54 = .ok (.invokevirtual 65, 3) := DX8_accept_c2.2.2.2.2.2.2.1
theorem dX8_accept_57 : decode cX8_accept 57 = .ok (.aload_n 0, 1) := DX8_accept_c2.2.2.2.2.2.2.2.1
theorem dX8_accept_58 : decode cX8_accept 58 = .ok (.getfield 10, 3) := DX8_accept_c2.2.2.2.2.2.2.2.2.1
theorem dX8_accept_61 : decode cX8_accept 61 = .ok (.aload_n 0, 1) := DX8_accept_c2.2.2.2.2.2.2.2.2.2
set_option maxRecDepth 100000 in
theorem DX8_accept_c3 : decode cX8_accept 62 = .ok (.getfield 19, 3) ∧ decode cX8_accept 65 = .ok (.invokevirtual 159, 3) ∧ decode cX8_accept 68 = .ok (.aload_n 0, 1) ∧ decode cX8_accept 69 = .ok (.getfield 54, 3) ∧ decode cX8_accept 72 = .ok (.iload_n 1, 1) ∧ decode cX8_accept 73 = .ok (.invokevirtual 214, 3) ∧ decode cX8_accept 76 = .ok (.invokevirtual 69, 3) ∧ decode cX8_accept 79 = .ok (.aload_n 0, 1) ∧ decode cX8_accept 80 = .ok (.getfield 10, 3) ∧ decode cX8_accept 83 = .ok (.invokevirtual 96, 3) := by decide +kernel
theorem dX8_accept_62 : decode cX8_accept 62 = .ok (.getfield 19, 3) := DX8_accept_c3.1
theorem dX8_accept_65 : decode cX8_accept 65 = .ok (.invokevirtual 159, 3) := DX8_accept_c3.2.1
theorem dX8_accept_68 : decode cX8_accept 68 = .ok (.aload_n 0, 1) := DX8_accept_c3.2.2.1
theorem dX8_accept_69 : decode cX8_accept 69 = .ok (.getfield 54, 3) := DX8_accept_c3.2.2.2.1
theorem dX8_accept_72 : decode cX8_accept 72 = .ok (.iload_n 1, 1) := DX8_accept_c3.2.2.2.2.1
theorem dX8_accept_73 : decode cX8_accept 73 = .ok (.invokevirtual 214, 3) := DX8_accept_c3.2.2.2.2.2.1
theorem dX8_accept_76 : decode cX8_accept 76 = .ok (.invokevirtual 69, 3) := DX8_accept_c3.2.2.2.2.2.2.1
theorem dX8_accept_79 : decode cX8_accept 79 = .ok (.aload_n 0, 1) := DX8_accept_c3.2.2.2.2.2.2.2.1
theorem dX8_accept_80 : decode cX8_accept 80 = .ok (.getfield 10, 3) := DX8_accept_c3.2.2.2.2.2.2.2.2.1
theorem dX8_accept_83 : decode cX8_accept 83 = .ok (.invokevirtual 96, 3) := DX8_accept_c3.2.2.2.2.2.2.2.2.2
set_option maxRecDepth 100000 in
theorem DX8_accept_c4 : decode cX8_accept 86 = .ok (.ireturn, 1) := by decide +kernel
theorem dX8_accept_86 : decode cX8_accept 86 = .ok (.ireturn, 1) := DX8_accept_c4
set_option maxRecDepth 100000 in
theorem DX8_isCode_c0 : decode cX8_isCode 0 = .ok (.iload_n 1, 1) ∧ decode cX8_isCode 1 = .ok (.ifCond .lt 20, 3) ∧ decode cX8_isCode 4 = .ok (.iload_n 1, 1) ∧ decode cX8_isCode 5 = .ok (.iconst 1, 1) ∧ decode cX8_isCode 6 = .ok (.iload_n 0, 1) ∧ decode cX8_isCode 7 = .ok (.iload_n 0, 1) ∧ decode cX8_isCode 8 = .ok (.iconst 1, 1) ∧ decode cX8_isCode 9 = .ok (.isub, 1) ∧ decode cX8_isCode 10 = .ok (.imul, 1) ∧ decode cX8_isCode 11 = .ok (.iconst 2, 1) := by decide +kernel
theorem dX8_isCode_0 : decode cX8_isCode 0 = .ok (.iload_n 1, 1) := DX8_isCode_c0.1
theorem dX8_isCode_1 : decode cX8_isCode 1 = .ok (.ifCond .lt 20, 3) := DX8_isCode_c0.2.1
theorem dX8_isCode_4 : decode cX8_isCode 4 = .ok (.iload_n 1, 1) := DX8_isCode_c0.2.2.1
theorem dX8_isCode_5 : decode cX8_isCode 5 = .ok (.iconst 1, 1) := DX8_isCode_c0.2.2.2.1
theorem dX8_isCode_6 : decode cX8_isCode 6 = .ok (.iload_n 0, 1) := DX8_isCode_c0.2.2.2.2.1
theorem dX8_isCode_7 : decode cX8_isCode 7 = .ok (.iload_n 0, 1) := DX8_isCode_c0.2.2.2.2.2.1
theorem dX8_isCode_8 : decode cX8_isCode 8 = .ok (.iconst 1, 1) := DX8_isCode_c0.2.2.2.2.2.2.1
theorem dX8_isCode_9 : decode cX8_isCode 9 = .ok (.isub, 1) := DX8_isCode_c0.2.2.2.2.2.2.2.1
theorem dX8_isCode_10 : decode cX8_isCode 10 = .ok (.imul, 1) := DX8_isCode_c0.2.2.2.2.2.2.2.2.1
theorem dX8_isCode_11 : decode cX8_isCode 11 = .ok (.iconst 2, 1) := DX8_isCode_c0.2.2.2.2.2.2.2.2.2
set_option maxRecDepth 100000 in
theorem DX8_isCode_c1 : decode cX8_isCode 12 = .ok (.idiv, 1) ∧ decode cX8_isCode 13 = .ok (.ishl, 1) ∧ decode cX8_isCode 14 = .ok (.if_icmp .ge 7, 3) ∧ decode cX8_isCode 17 = .ok (.iconst 1, 1) ∧ decode cX8_isCode 18 = .ok (.goto 4, 3) ∧ decode cX8_isCode 21 = .ok (.iconst 0, 1) ∧ decode cX8_isCode 22 = .ok (.ireturn, 1) := by decide +kernel
theorem dX8_isCode_12 : decode cX8_isCode 12 = .ok (.idiv, 1) := DX8_isCode_c1.1
theorem dX8_isCode_13 : decode cX8_isCode 13 = .ok (.ishl, 1) := DX8_isCode_c1.2.1
theorem dX8_isCode_14 : decode cX8_isCode 14 = .ok (.if_icmp .ge 7, 3) := DX8_isCode_c1.2.2.1
theorem dX8_isCode_17 : decode cX8_isCode 17 = .ok (.iconst 1, 1) := DX8_isCode_c1.2.2.2.1
theorem dX8_isCode_18 : decode cX8_isCode 18 = .ok (.goto 4, 3) := DX8_isCode_c1.2.2.2.2.1
theorem dX8_isCode_21 : decode cX8_isCode 21 = .ok (.iconst 0, 1) := DX8_isCode_c1.2.2.2.2.2.1
theorem dX8_isCode_22 : decode cX8_isCode 22 = .ok (.ireturn, 1) := DX8_isCode_c1.2.2.2.2.2.2
set_option maxRecDepth 100000 in
theorem DX8_cardCode_c0 : decode cX8_cardCode 0 = .ok (.aload_n 0, 1) ∧ decode cX8_cardCode 1 = .ok (.getfield 33, 3) ∧ decode cX8_cardCode 4 = .ok (.aload_n 0, 1) ∧ decode cX8_cardCode 5 = .ok (.getfield 10, 3) ∧ decode cX8_cardCode 8 = .ok (.invokevirtual 61, 3) ∧ decode cX8_cardCode 11 = .ok (.iconst 1, 1) ∧ decode cX8_cardCode 12 = .ok (.isub, 1) ∧ decode cX8_cardCode 13 = .ok (.aload_n 0, 1) ∧ decode cX8_cardCode 14 = .ok (.getfield 10, 3) ∧ decode cX8_cardCode 17 = .ok (.iload_n 1, 1) := by decide +kernel
theorem dX8_cardCode_0 : decode cX8_cardCode 0 = .ok (.aload_n 0, 1) := DX8_cardCode_c0.1
theorem dX8_cardCode_1 : decode cX8_cardCode 1 = .ok (.getfield 33, 3) := DX8_cardCode_c0.2.1
theorem dX8_cardCode_4 : decode cX8_cardCode 4 = .ok (.aload_n 0, 1) := DX8_cardCode_c0.2.2.1
theorem dX8_cardCode_5 : decode cX8_cardCode 5 = .ok (.getfield 10, 3) := DX8_cardCode_c0.2.2.2.1
theorem dX8_cardCode_8 : decode cX8_cardCode 8 = .ok (.invokevirtual 61, 3) := DX8_cardCode_c0.2.2.2.2.1
theorem dX8_cardCode_11 : decode cX8_cardCode 11 = .ok (.iconst 1, 1) := DX8_cardCode_c0.2.2.2.2.2.1
theorem dX8_cardCode_12 : decode cX8_cardCode 12 = .ok (.isub, 1) := DX8_cardCode_c0.2.2.2.2.2.2.1
theorem dX8_cardCode_13 : decode cX8_cardCode 13 = .ok (.aload_n 0, 1) := DX8_cardCode_c0.2.2.2.2.2.2.2.1
theorem dX8_cardCode_14 : decode cX8_cardCode 14 = .ok (.getfield 10, 3) := DX8_cardCode_c0.2.2.2.2.2.2.2.2.1
theorem dX8_cardCode_17 : decode cX8_cardCode 17 = .ok (.iload_n 1, 1) := DX8_cardCode_c0.2.2.2.2.2.2.2.2.2
set_option maxRecDepth 100000 in
theorem DX8_cardCode_c1 : decode cX8_cardCode 18 = .ok (.invokevirtual 222, 3) ∧ decode cX8_cardCode 21 = .ok (.invokevirtual 99, 3) ∧ decode cX8_cardCode 24 = .ok (.ireturn, 1) := by decide +kernel
theorem dX8_cardCode_18 : decode cX8_cardCode 18 = .ok (.invokevirtual 222, 3) := DX8_cardCode_c1.1
theorem dX8_cardCode_21 : decode cX8_cardCode 21 = .ok (.invokevirtual 99, 3) := DX8_cardCode_c1.2.1
theorem dX8_cardCode_24 : decode cX8_cardCode 24 = .ok (.ireturn, 1) := DX8_cardCode_c1.2.2
set_option maxRecDepth 100000 in
theorem DX8_differentCards_c0 : decode cX8_differentCards 0 = .ok (.aload_n 0, 1) ∧ decode cX8_differentCards 1 = .ok (.getfield 10, 3) ∧ decode cX8_differentCards 4 = .ok (.invokevirtual 61, 3) ∧ decode cX8_differentCards 7 = .ok (.iconst 1, 1) ∧ decode cX8_differentCards 8 = .ok (.if_icmp .ne 5, 3) ∧ decode cX8_differentCards 11 = .ok (.iconst 0, 1) ∧ decode cX8_differentCards 12 = .ok (.ireturn, 1) ∧ decode cX8_differentCards 13 = .ok (.aload_n 0, 1) ∧ decode cX8_differentCards 14 = .ok (.getfield 58, 3) ∧ decode cX8_differentCards 17 = .ok (.aload_n 0, 1) := by decide +kernel
theorem dX8_differentCards_0 : decode cX8_differentCards 0 = .ok (.aload_n 0, 1) := DX8_differentCards_c0.1
theorem dX8_differentCards_1 : decode cX8_differentCards 1 = .ok (.getfield 10, 3) := DX8_differentCards_c0.2.1
theorem dX8_differentCards_4 : decode cX8_differentCards 4 = .ok (.invokevirtual 61, 3) := DX8_differentCards_c0.2.2.1
theorem dX8_differentCards_7 : decode cX8_differentCards 7 = .ok (.iconst 1, 1) := DX8_differentCards_c0.2.2.2.1
theorem dX8_differentCards_8 : decode cX8_differentCards 8 = .ok (.if_icmp .ne 5, 3) := DX8_differentCards_c0.2.2.2.2.1
theorem dX8_differentCards_11 : decode cX8_differentCards 11 = .ok (.iconst 0, 1) := DX8_differentCards_c0.2.2.2.2.2.1
theorem dX8_differentCards_12 : decode cX8_differentCards 12 = .ok (.ireturn, 1) := DX8_differentCards_c0.2.2.2.2.2.2.1
theorem dX8_differentCards_13 : decode cX8_differentCards 13 = .ok (.aload_n 0, 1) := DX8_differentCards_c0.2.2.2.2.2.2.2.1
theorem dX8_differentCards_14 : decode cX8_differentCards 14 = .ok (.getfield 58, 3) := DX8_differentCards_c0.2.2.2.2.2.2.2.2.1
theorem dX8_differentCards_17 : decode cX8_differentCards 17 = .ok (.aload_n 0, 1) := DX8_differentCards_c0.2.2.2.2.2.2.2.2.2
set_option maxRecDepth 100000 in
theorem DX8_differentCards_c1 : decode cX8_differentCards 18 = .ok (.getfield 10, 3) ∧ decode cX8_differentCards 21 = .ok (.aload_n 0, 1) ∧ decode cX8_differentCards 22 = .ok (.getfield 33, 3) ∧ decode cX8_differentCards 25 = .ok (.invokevirtual 155, 3) ∧ decode cX8_differentCards 28 = .ok (.aload_n 0, 1) ∧ decode cX8_differentCards 29 = .ok (.getfield 58, 3) ∧ decode cX8_differentCards 32 = .ok (.invokevirtual 189, 3) ∧ decode cX8_differentCards 35 = .ok (.ireturn, 1) := by decide +kernel
theorem dX8_differentCards_18 : decode cX8_differentCards 18 = .ok (.getfield 10, 3) := DX8_differentCards_c1.1
theorem dX8_differentCards_21 : decode cX8_differentCards 21 = .ok (.aload_n 0, 1) := DX8_differentCards_c1.2.1
theorem dX8_differentCards_22 : decode cX8_differentCards 22 = .ok (.getfield 33, 3) := DX8_differentCards_c1.2.2.1
theorem dX8_differentCards_25 : decode cX8_differentCards 25 = .ok (.invokevirtual 155, 3) := DX8_differentCards_c1.2.2.2.1
theorem dX8_differentCards_28 : decode cX8_differentCards 28 = .ok (.aload_n 0, 1) := DX8_differentCards_c1.2.2.2.2.1
theorem dX8_differentCards_29 : decode cX8_differentCards 29 = .ok (.getfield 58, 3) := DX8_differentCards_c1.2.2.2.2.2.1
theorem dX8_differentCards_32 : decode cX8_differentCards 32 = .ok (.invokevirtual 189, 3) := DX8_differentCards_c1.2.2.2.2.2.2.1
theorem dX8_differentCards_35 : decode cX8_differentCards 35 = .ok (.ireturn, 1) := DX8_differentCards_c1.2.2.2.2.2.2.2
set_option maxRecDepth 100000 in
theorem DX8_pseudoSimilarTo_c0 : decode cX8_pseudoSimilarTo 0 = .ok (.aload_n 0, 1) ∧ decode cX8_pseudoSimilarTo 1 = .ok (.iload_n 1, 1) ∧ decode cX8_pseudoSimilarTo 2 = .ok (.invokevirtual 125, 3) ∧ decode cX8_pseudoSimilarTo 5 = .ok (.istore_n 2, 1) ∧ decode cX8_pseudoSimilarTo 6 = .ok (.iconst 0, 1) ∧ decode cX8_pseudoSimilarTo 7 = .ok (.istore_n 3, 1) ∧ decode cX8_pseudoSimilarTo 8 = .ok (.iconst 0, 1) ∧ decode cX8_pseudoSimilarTo 9 = .ok (.istore 4, 2) ∧ decode cX8_pseudoSimilarTo 11 = .ok (.iload 4, 2) ∧ decode cX8_pseudoSimilarTo 13 = .ok (.aload_n 0, 1) := by decide +kernel
theorem dX8_pseudoSimilarTo_0 : decode cX8_pseudoSimilarTo 0 = .ok (.aload_n 0, 1) := DX8_pseudoSimilarTo_c0.1
theorem dX8_pseudoSimilarTo_1 : decode cX8_pseudoSimilarTo 1 = .ok (.iload_n 1, 1) := DX8_pseudoSimilarTo_c0.2.1
theorem dX8_pseudoSimilarTo_2 : decode cX8_pseudoSimilarTo 2 = .ok (.invokevirtual 125, 3) := DX8_pseudoSimilarTo_c0.2.2.1
theorem dX8_pseudoSimilarTo_5 : decode cX8_pseudoSimilarTo 5 = .ok (.istore_n 2, 1) := DX8_pseudoSimilarTo_c0.2.2.2.1
theorem dX8_pseudoSimilarTo_6 : decode cX8_pseudoSimilarTo 6 = .ok (.iconst 0, 1) := DX8_pseudoSimilarTo_c0.2.2.2.2.1
theorem dX8_pseudoSimilarTo_7 : decode cX8_pseudoSimilarTo 7 = .ok (.istore_n 3, 1) := DX8_pseudoSimilarTo_c0.2.2.2.2.2.1
theorem dX8_pseudoSimilarTo_8 : decode cX8_pseudoSimilarTo 8 = .ok (.iconst 0, 1) := DX8_pseudoSimilarTo_c0.2.2.2.2.2.2.1
theorem dX8_pseudoSimilarTo_9 : decode cX8_pseudoSimilarTo 9 = .ok (.istore 4, 2) := DX8_pseudoSimilarTo_c0.2.2.2.2.2.2.2.1
theorem dX8_pseudoSimilarTo_11 : decode cX8_pseudoSimilarTo 11 = .ok (.iload 4, 2) := DX8_pseudoSimilarTo_c0.2.2.2.2.2.2.2.2.1
theorem dX8_pseudoSimilarTo_13 : decode cX8_pseudoSimilarTo 13 = .ok (.aload_n 0, 1) := DX8_pseudoSimilarTo_c0.2.2.2.2.2.2.2.2.2
set_option maxRecDepth 100000 in
theorem DX8_pseudoSimilarTo_c1 : decode cX8_pseudoSimilarTo 14 = .ok (.getfield 10, 3) ∧ decode cX8_pseudoSimilarTo 17 = .ok (.invokevirtual 61, 3) ∧ decode cX8_pseudoSimilarTo 20 = .ok (.if_icmp .ge 50, 3) ∧ decode cX8_pseudoSimilarTo 23 = .ok (.iload 4, 2) ∧ decode cX8_pseudoSimilarTo 25 = .ok (.iload_n 1, 1) ∧ decode cX8_pseudoSimilarTo 26 = .ok (.if_icmp .eq 38, 3) ∧ decode cX8_pseudoSimilarTo 29 = .ok (.aload_n 0, 1) ∧ decode cX8_pseudoSimilarTo 30 = .ok (.iload 4, 2) ∧ decode cX8_pseudoSimilarTo 32 = .ok (.invokevirtual 125, 3) ∧ decode cX8_pseudoSimilarTo 35 = .ok (.iload_n 2, 1) := by decide +kernel
theorem dX8_pseudoSimilarTo_14 : decode cX8_pseudoSimilarTo 14 = .ok (.getfield 10, 3) := DX8_pseudoSimilarTo_c1.1
theorem dX8_pseudoSimilarTo_17 : decode cX8_pseudoSimilarTo 17 = .ok (.invokevirtual 61, 3) := DX8_pseudoSimilarTo_c1.2.1
theorem dX8_pseudoSimilarTo_20 : decode cX8_pseudoSimilarTo 20 = .ok (.if_icmp .ge 50, 3) := DX8_pseudoSimilarTo_c1.2.2.1
theorem dX8_pseudoSimilarTo_23 : decode cX8_pseudoSimilarTo 23 = .ok (.iload 4, 2) := DX8_pseudoSimilarTo_c1.2.2.2.1
theorem dX8_pseudoSimilarTo_25 : decode cX8_pseudoSimilarTo 25 = .ok (.iload_n 1, 1) := DX8_pseudoSimilarTo_c1.2.2.2.2.1
theorem dX8_pseudoSimilarTo_26 : decode cX8_pseudoSimilarTo 26 = .ok (.if_icmp .eq 38, 3) := DX8_pseudoSimilarTo_c1.2.2.2.2.2.1
theorem dX8_pseudoSimilarTo_29 : decode cX8_pseudoSimilarTo 29 = .ok (.aload_n 0, 1) := DX8_pseudoSimilarTo_c1.2.2.2.2.2.2.1
theorem dX8_pseudoSimilarTo_30 : decode cX8_pseudoSimilarTo 30 = .ok (.iload 4, 2) := DX8_pseudoSimilarTo_c1.2.2.2.2.2.2.2.1
theorem dX8_pseudoSimilarTo_32 : decode cX8_pseudoSimilarTo 32 = .ok (.invokevirtual 125, 3) := DX8_pseudoSimilarTo_c1.2.2.2.2.2.2.2.2.1
theorem dX8_pseudoSimilarTo_35 : decode cX8_pseudoSimilarTo 35 = .ok (.iload_n 2, 1) := DX8_pseudoSimilarTo_c1.2.2.2.2.2.2.2.2.2
set_option maxRecDepth 100000 in
theorem DX8_pseudoSimilarTo_c2 : decode cX8_pseudoSimilarTo 36 = .ok (.if_icmp .ne 28, 3) ∧ decode cX8_pseudoSimilarTo 39 = .ok (.aload_n 0, 1) ∧ decode cX8_pseudoSimilarTo 40 = .ok (.getfield 40, 3) ∧ decode cX8_pseudoSimilarTo 43 = .ok (.aload_n 0, 1) ∧ decode cX8_pseudoSimilarTo 44 = .ok (.getfield 10, 3) ∧ decode cX8_pseudoSimilarTo 47 = .ok (.iconst 0, 1) ∧ decode cX8_pseudoSimilarTo 48 = .ok (.iload 4, 2) ∧ decode cX8_pseudoSimilarTo 50 = .ok (.iload_n 1, 1) ∧ decode cX8_pseudoSimilarTo 51 = .ok (.invokevirtual 135, 3) ∧ decode cX8_pseudoSimilarTo 54 = .ok (.ifCond .ne 10, 3) := by decide +kernel
theorem dX8_pseudoSimilarTo_36 : decode cX8_pseudoSimilarTo 36 = .ok (.if_icmp .ne 28, 3) := DX8_pseudoSimilarTo_c2.1
theorem dX8_pseudoSimilarTo_39 : decode cX8_pseudoSimilarTo 39 = .ok (.aload_n 0, 1) := DX8_pseudoSimilarTo_c2.2.1
theorem dX8_pseudoSimilarTo_40 : decode cX8_pseudoSimilarTo 40 = .ok (.getfield 40, 3) := DX8_pseudoSimilarTo_c2.2.2.1
theorem dX8_pseudoSimilarTo_43 : decode cX8_pseudoSimilarTo 43 = .ok (.aload_n 0, 1) := DX8_pseudoSimilarTo_c2.2.2.2.1
theorem dX8_pseudoSimilarTo_44 : decode cX8_pseudoSimilarTo 44 = .ok (.getfield 10, 3) := DX8_pseudoSimilarTo_c2.2.2.2.2.1
theorem dX8_pseudoSimilarTo_47 : decode cX8_pseudoSimilarTo 47 = .ok (.iconst 0, 1) := DX8_pseudoSimilarTo_c2.2.2.2.2.2.1
theorem dX8_pseudoSimilarTo_48 : decode cX8_pseudoSimilarTo 48 = .ok (.iload 4, 2) := DX8_pseudoSimilarTo_c2.2.2.2.2.2.2.1
theorem dX8_pseudoSimilarTo_50 : decode cX8_pseudoSimilarTo 50 = .ok (.iload_n 1, 1) := DX8_pseudoSimilarTo_c2.2.2.2.2.2.2.2.1
theorem dX8_pseudoSimilarTo_51 : decode cX8_pseudoSimilarTo 51 = .ok (.invokevirtual 135, 3) := DX8_pseudoSimilarTo_c2.2.2.2.2.2.2.2.2.1
theorem dX8_pseudoSimilarTo_54 : decode cX8_pseudoSimilarTo 54 = .ok (.ifCond .ne 10, 3) := DX8_pseudoSimilarTo_c2.2.2.2.2.2.2.2.2.2
set_option maxRecDepth 100000 in
theorem DX8_pseudoSimilarTo_c3 : decode cX8_pseudoSimilarTo 57 = .ok (.iload_n 3, 1) ∧ decode cX8_pseudoSimilarTo 58 = .ok (.iconst 1, 1) ∧ decode cX8_pseudoSimilarTo 59 = .ok (.iload 4, 2) ∧ decode cX8_pseudoSimilarTo 61 = .ok (.ishl, 1) ∧ decode cX8_pseudoSimilarTo 62 = .ok (.ior, 1) ∧ decode cX8_pseudoSimilarTo 63 = .ok (.istore_n 3, 1) ∧ decode cX8_pseudoSimilarTo 64 = .ok (.iinc 4 1, 3) ∧ decode cX8_pseudoSimilarTo 67 = .ok (.goto (-56), 3) ∧ decode cX8_pseudoSimilarTo 70 = .ok (.iload_n 3, 1) ∧ decode cX8_pseudoSimilarTo 71 = .ok (.ireturn, 1) := by decide +kernel
theorem dX8_pseudoSimilarTo_57 : decode cX8_pseudoSimilarTo 57 = .ok (.iload_n 3, 1) := DX8_pseudoSimilarTo_c3.1
theorem dX8_pseudoSimilarTo_58 : decode cX8_pseudoSimilarTo 58 = .ok (.iconst 1, 1) := DX8_pseudoSimilarTo_c3.2.1
theorem dX8_pseudoSimilarTo_59 : decode cX8_pseudoSimilarTo 59 = .ok (.iload 4, 2) := DX8_pseudoSimilarTo_c3.2.2.1
theorem dX8_pseudoSimilarTo_61 : decode cX8_pseudoSimilarTo 61 = .ok (.ishl, 1) := DX8_pseudoSimilarTo_c3.2.2.2.1
theorem dX8_pseudoSimilarTo_62 : decode cX8_pseudoSimilarTo 62 = .ok (.ior, 1) := DX8_pseudoSimilarTo_c3.2.2.2.2.1
theorem dX8_pseudoSimilarTo_63 : decode cX8_pseudoSimilarTo 63 = .ok (.istore_n 3, 1) := DX8_pseudoSimilarTo_c3.2.2.2.2.2.1
theorem dX8_pseudoSimilarTo_64 : decode cX8_pseudoSimilarTo 64 = .ok (.iinc 4 1, 3) := DX8_pseudoSimilarTo_c3.2.2.2.2.2.2.1
theorem dX8_pseudoSimilarTo_67 : decode cX8_pseudoSimilarTo 67 = .ok (.goto (-56), 3) := DX8_pseudoSimilarTo_c3.2.2.2.2.2.2.2.1
theorem dX8_pseudoSimilarTo_70 : decode cX8_pseudoSimilarTo 70 = .ok (.iload_n 3, 1) := DX8_pseudoSimilarTo_c3.2.2.2.2.2.2.2.2.1
theorem dX8_pseudoSimilarTo_71 : decode cX8_pseudoSimilarTo 71 = .ok (.ireturn, 1) := DX8_pseudoSimilarTo_c3.2.2.2.2.2.2.2.2.2
set_option maxRecDepth 100000 in
theorem DX8_pseudoSimilarPairs_c0 : decode cX8_pseudoSimilarPairs 0 = .ok (.aload_n 0, 1) ∧ decode cX8_pseudoSimilarPairs 1 = .ok (.getfield 10, 3) ∧ decode cX8_pseudoSimilarPairs 4 = .ok (.invokevirtual 61, 3) ∧ decode cX8_pseudoSimilarPairs 7 = .ok (.iconst 1, 1) ∧ decode cX8_pseudoSimilarPairs 8 = .ok (.if_icmp .ne 5, 3) ∧ decode cX8_pseudoSimilarPairs 11 = .ok (.iconst 0, 1) ∧ decode cX8_pseudoSimilarPairs 12 = .ok (.ireturn, 1) ∧ decode cX8_pseudoSimilarPairs 13 = .ok (.iconst 0, 1) ∧ decode cX8_pseudoSimilarPairs 14 = .ok (.istore_n 1, 1) ∧ decode cX8_pseudoSimilarPairs 15 = .ok (.iconst 0, 1) := by decide +kernel
theorem dX8_pseudoSimilarPairs_0 : decode cX8_pseudoSimilarPairs 0 = .ok (.aload_n 0, 1) := DX8_pseudoSimilarPairs_c0.1
theorem dX8_pseudoSimilarPairs_1 : decode cX8_pseudoSimilarPairs 1 = .ok (.getfield 10, 3) := DX8_pseudoSimilarPairs_c0.2.1
theorem dX8_pseudoSimilarPairs_4 : decode cX8_pseudoSimilarPairs 4 = .ok (.invokevirtual 61, 3) := DX8_pseudoSimilarPairs_c0.2.2.1
theorem dX8_pseudoSimilarPairs_7 : decode cX8_pseudoSimilarPairs 7 = .ok (.iconst 1, 1) := DX8_pseudoSimilarPairs_c0.2.2.2.1
theorem dX8_pseudoSimilarPairs_8 : decode cX8_pseudoSimilarPairs 8 = .ok (.if_icmp .ne 5, 3) := DX8_pseudoSimilarPairs_c0.2.2.2.2.1
theorem dX8_pseudoSimilarPairs_11 : decode cX8_pseudoSimilarPairs 11 = .ok (.iconst 0, 1) := DX8_pseudoSimilarPairs_c0.2.2.2.2.2.1
theorem dX8_pseudoSimilarPairs_12 : decode cX8_pseudoSimilarPairs 12 = .ok (.ireturn, 1) := DX8_pseudoSimilarPairs_c0.2.2.2.2.2.2.1
theorem dX8_pseudoSimilarPairs_13 : decode cX8_pseudoSimilarPairs 13 = .ok (.iconst 0, 1) := DX8_pseudoSimilarPairs_c0.2.2.2.2.2.2.2.1
theorem dX8_pseudoSimilarPairs_14 : decode cX8_pseudoSimilarPairs 14 = .ok (.istore_n 1, 1) := DX8_pseudoSimilarPairs_c0.2.2.2.2.2.2.2.2.1
theorem dX8_pseudoSimilarPairs_15 : decode cX8_pseudoSimilarPairs 15 = .ok (.iconst 0, 1) := DX8_pseudoSimilarPairs_c0.2.2.2.2.2.2.2.2.2
set_option maxRecDepth 100000 in
theorem DX8_pseudoSimilarPairs_c1 : decode cX8_pseudoSimilarPairs 16 = .ok (.istore_n 2, 1) ∧ decode cX8_pseudoSimilarPairs 17 = .ok (.iload_n 2, 1) ∧ decode cX8_pseudoSimilarPairs 18 = .ok (.aload_n 0, 1) ∧ decode cX8_pseudoSimilarPairs 19 = .ok (.getfield 10, 3) ∧ decode cX8_pseudoSimilarPairs 22 = .ok (.invokevirtual 61, 3) ∧ decode cX8_pseudoSimilarPairs 25 = .ok (.if_icmp .ge 20, 3) ∧ decode cX8_pseudoSimilarPairs 28 = .ok (.iload_n 1, 1) ∧ decode cX8_pseudoSimilarPairs 29 = .ok (.aload_n 0, 1) ∧ decode cX8_pseudoSimilarPairs 30 = .ok (.iload_n 2, 1) ∧ decode cX8_pseudoSimilarPairs 31 = .ok (.invokevirtual 132, 3) := by decide +kernel
theorem dX8_pseudoSimilarPairs_16 : decode cX8_pseudoSimilarPairs 16 = .ok (.istore_n 2, 1) := DX8_pseudoSimilarPairs_c1.1
theorem dX8_pseudoSimilarPairs_17 : decode cX8_pseudoSimilarPairs 17 = .ok (.iload_n 2, 1) := DX8_pseudoSimilarPairs_c1.2.1
theorem dX8_pseudoSimilarPairs_18 : decode cX8_pseudoSimilarPairs 18 = .ok (.aload_n 0, 1) := DX8_pseudoSimilarPairs_c1.2.2.1
theorem dX8_pseudoSimilarPairs_19 : decode cX8_pseudoSimilarPairs 19 = .ok (.getfield 10, 3) := DX8_pseudoSimilarPairs_c1.2.2.2.1
theorem dX8_pseudoSimilarPairs_22 : decode cX8_pseudoSimilarPairs 22 = .ok (.invokevirtual 61, 3) := DX8_pseudoSimilarPairs_c1.2.2.2.2.1
theorem dX8_pseudoSimilarPairs_25 : decode cX8_pseudoSimilarPairs 25 = .ok (.if_icmp .ge 20, 3) := DX8_pseudoSimilarPairs_c1.2.2.2.2.2.1
theorem dX8_pseudoSimilarPairs_28 : decode cX8_pseudoSimilarPairs 28 = .ok (.iload_n 1, 1) := DX8_pseudoSimilarPairs_c1.2.2.2.2.2.2.1
theorem dX8_pseudoSimilarPairs_29 : decode cX8_pseudoSimilarPairs 29 = .ok (.aload_n 0, 1) := DX8_pseudoSimilarPairs_c1.2.2.2.2.2.2.2.1
theorem dX8_pseudoSimilarPairs_30 : decode cX8_pseudoSimilarPairs 30 = .ok (.iload_n 2, 1) := DX8_pseudoSimilarPairs_c1.2.2.2.2.2.2.2.2.1
theorem dX8_pseudoSimilarPairs_31 : decode cX8_pseudoSimilarPairs 31 = .ok (.invokevirtual 132, 3) := DX8_pseudoSimilarPairs_c1.2.2.2.2.2.2.2.2.2
set_option maxRecDepth 100000 in
theorem DX8_pseudoSimilarPairs_c2 : decode cX8_pseudoSimilarPairs 34 = .ok (.invokestatic 175, 3) ∧ decode cX8_pseudoSimilarPairs 37 = .ok (.iadd, 1) ∧ decode cX8_pseudoSimilarPairs 38 = .ok (.istore_n 1, 1) ∧ decode cX8_pseudoSimilarPairs 39 = .ok (.iinc 2 1, 3) ∧ decode cX8_pseudoSimilarPairs 42 = .ok (.goto (-25), 3) ∧ decode cX8_pseudoSimilarPairs 45 = .ok (.iload_n 1, 1) ∧ decode cX8_pseudoSimilarPairs 46 = .ok (.iconst 2, 1) ∧ decode cX8_pseudoSimilarPairs 47 = .ok (.idiv, 1) ∧ decode cX8_pseudoSimilarPairs 48 = .ok (.ireturn, 1) := by decide +kernel
theorem dX8_pseudoSimilarPairs_34 : decode cX8_pseudoSimilarPairs 34 = .ok (.invokestatic 175, 3) := DX8_pseudoSimilarPairs_c2.1
theorem dX8_pseudoSimilarPairs_37 : decode cX8_pseudoSimilarPairs 37 = .ok (.iadd, 1) := DX8_pseudoSimilarPairs_c2.2.1
theorem dX8_pseudoSimilarPairs_38 : decode cX8_pseudoSimilarPairs 38 = .ok (.istore_n 1, 1) := DX8_pseudoSimilarPairs_c2.2.2.1
theorem dX8_pseudoSimilarPairs_39 : decode cX8_pseudoSimilarPairs 39 = .ok (.iinc 2 1, 3) := DX8_pseudoSimilarPairs_c2.2.2.2.1
theorem dX8_pseudoSimilarPairs_42 : decode cX8_pseudoSimilarPairs 42 = .ok (.goto (-25), 3) := DX8_pseudoSimilarPairs_c2.2.2.2.2.1
theorem dX8_pseudoSimilarPairs_45 : decode cX8_pseudoSimilarPairs 45 = .ok (.iload_n 1, 1) := DX8_pseudoSimilarPairs_c2.2.2.2.2.2.1
theorem dX8_pseudoSimilarPairs_46 : decode cX8_pseudoSimilarPairs 46 = .ok (.iconst 2, 1) := DX8_pseudoSimilarPairs_c2.2.2.2.2.2.2.1
theorem dX8_pseudoSimilarPairs_47 : decode cX8_pseudoSimilarPairs 47 = .ok (.idiv, 1) := DX8_pseudoSimilarPairs_c2.2.2.2.2.2.2.2.1
theorem dX8_pseudoSimilarPairs_48 : decode cX8_pseudoSimilarPairs 48 = .ok (.ireturn, 1) := DX8_pseudoSimilarPairs_c2.2.2.2.2.2.2.2.2
set_option maxRecDepth 100000 in
theorem DX8_answersWithout_c0 : decode cX8_answersWithout 0 = .ok (.aload_n 0, 1) ∧ decode cX8_answersWithout 1 = .ok (.getfield 19, 3) ∧ decode cX8_answersWithout 4 = .ok (.invokevirtual 150, 3) ∧ decode cX8_answersWithout 7 = .ok (.iconst 1, 1) ∧ decode cX8_answersWithout 8 = .ok (.if_icmp .ne 6, 3) ∧ decode cX8_answersWithout 11 = .ok (.bipush (-9), 2) ∧ decode cX8_answersWithout 13 = .ok (.ireturn, 1) ∧ decode cX8_answersWithout 14 = .ok (.aload_n 0, 1) ∧ decode cX8_answersWithout 15 = .ok (.getfield 54, 3) ∧ decode cX8_answersWithout 18 = .ok (.aload_n 0, 1) := by decide +kernel
theorem dX8_answersWithout_0 : decode cX8_answersWithout 0 = .ok (.aload_n 0, 1) := DX8_answersWithout_c0.1
theorem dX8_answersWithout_1 : decode cX8_answersWithout 1 = .ok (.getfield 19, 3) := DX8_answersWithout_c0.2.1
theorem dX8_answersWithout_4 : decode cX8_answersWithout 4 = .ok (.invokevirtual 150, 3) := DX8_answersWithout_c0.2.2.1
theorem dX8_answersWithout_7 : decode cX8_answersWithout 7 = .ok (.iconst 1, 1) := DX8_answersWithout_c0.2.2.2.1
theorem dX8_answersWithout_8 : decode cX8_answersWithout 8 = .ok (.if_icmp .ne 6, 3) := DX8_answersWithout_c0.2.2.2.2.1
theorem dX8_answersWithout_11 : decode cX8_answersWithout 11 = .ok (.bipush (-9), 2) := DX8_answersWithout_c0.2.2.2.2.2.1
theorem dX8_answersWithout_13 : decode cX8_answersWithout 13 = .ok (.ireturn, 1) := DX8_answersWithout_c0.2.2.2.2.2.2.1
theorem dX8_answersWithout_14 : decode cX8_answersWithout 14 = .ok (.aload_n 0, 1) := DX8_answersWithout_c0.2.2.2.2.2.2.2.1
theorem dX8_answersWithout_15 : decode cX8_answersWithout 15 = .ok (.getfield 54, 3) := DX8_answersWithout_c0.2.2.2.2.2.2.2.2.1
theorem dX8_answersWithout_18 : decode cX8_answersWithout 18 = .ok (.aload_n 0, 1) := DX8_answersWithout_c0.2.2.2.2.2.2.2.2.2
set_option maxRecDepth 100000 in
theorem DX8_answersWithout_c1 : decode cX8_answersWithout 19 = .ok (.getfield 19, 3) ∧ decode cX8_answersWithout 22 = .ok (.aload_n 0, 1) ∧ decode cX8_answersWithout 23 = .ok (.getfield 19, 3) ∧ decode cX8_answersWithout 26 = .ok (.invokevirtual 198, 3) ∧ decode cX8_answersWithout 29 = .ok (.iconst 1, 1) ∧ decode cX8_answersWithout 30 = .ok (.iload_n 1, 1) ∧ decode cX8_answersWithout 31 = .ok (.ishl, 1) ∧ decode cX8_answersWithout 32 = .ok (.iconst (-1), 1) ∧ decode cX8_answersWithout 33 = .ok (.ixor, 1) ∧ decode cX8_answersWithout 34 = .ok (.iand, 1) := by decide +kernel
theorem dX8_answersWithout_19 : decode cX8_answersWithout 19 = .ok (.getfield 19, 3) := DX8_answersWithout_c1.1
theorem dX8_answersWithout_22 : decode cX8_answersWithout 22 = .ok (.aload_n 0, 1) := DX8_answersWithout_c1.2.1
theorem dX8_answersWithout_23 : decode cX8_answersWithout 23 = .ok (.getfield 19, 3) := DX8_answersWithout_c1.2.2.1
theorem dX8_answersWithout_26 : decode cX8_answersWithout 26 = .ok (.invokevirtual 198, 3) := DX8_answersWithout_c1.2.2.2.1
theorem dX8_answersWithout_29 : decode cX8_answersWithout 29 = .ok (.iconst 1, 1) := DX8_answersWithout_c1.2.2.2.2.1
theorem dX8_answersWithout_30 : decode cX8_answersWithout 30 = .ok (.iload_n 1, 1) := DX8_answersWithout_c1.2.2.2.2.2.1
theorem dX8_answersWithout_31 : decode cX8_answersWithout 31 = .ok (.ishl, 1) := DX8_answersWithout_c1.2.2.2.2.2.2.1
theorem dX8_answersWithout_32 : decode cX8_answersWithout 32 = .ok (.iconst (-1), 1) := DX8_answersWithout_c1.2.2.2.2.2.2.2.1
theorem dX8_answersWithout_33 : decode cX8_answersWithout 33 = .ok (.ixor, 1) := DX8_answersWithout_c1.2.2.2.2.2.2.2.2.1
theorem dX8_answersWithout_34 : decode cX8_answersWithout 34 = .ok (.iand, 1) := DX8_answersWithout_c1.2.2.2.2.2.2.2.2.2
set_option maxRecDepth 100000 in
theorem DX8_answersWithout_c2 : decode cX8_answersWithout 35 = .ok (.aload_n 0, 1) ∧ decode cX8_answersWithout 36 = .ok (.getfield 33, 3) ∧ decode cX8_answersWithout 39 = .ok (.invokevirtual 201, 3) ∧ decode cX8_answersWithout 42 = .ok (.ireturn, 1) := by decide +kernel
theorem dX8_answersWithout_35 : decode cX8_answersWithout 35 = .ok (.aload_n 0, 1) := DX8_answersWithout_c2.1
theorem dX8_answersWithout_36 : decode cX8_answersWithout 36 = .ok (.getfield 33, 3) := DX8_answersWithout_c2.2.1
theorem dX8_answersWithout_39 : decode cX8_answersWithout 39 = .ok (.invokevirtual 201, 3) := DX8_answersWithout_c2.2.2.1
theorem dX8_answersWithout_42 : decode cX8_answersWithout 42 = .ok (.ireturn, 1) := DX8_answersWithout_c2.2.2.2
set_option maxRecDepth 100000 in
theorem DX8_enoughCards_c0 : decode cX8_enoughCards 0 = .ok (.aload_n 0, 1) ∧ decode cX8_enoughCards 1 = .ok (.getfield 19, 3) ∧ decode cX8_enoughCards 4 = .ok (.invokevirtual 159, 3) ∧ decode cX8_enoughCards 7 = .ok (.bipush 6, 2) ∧ decode cX8_enoughCards 9 = .ok (.if_icmp .eq 29, 3) ∧ decode cX8_enoughCards 12 = .ok (.aload_n 0, 1) ∧ decode cX8_enoughCards 13 = .ok (.getfield 54, 3) ∧ decode cX8_enoughCards 16 = .ok (.aload_n 0, 1) ∧ decode cX8_enoughCards 17 = .ok (.getfield 19, 3) ∧ decode cX8_enoughCards 20 = .ok (.aload_n 0, 1) := by decide +kernel
theorem dX8_enoughCards_0 : decode cX8_enoughCards 0 = .ok (.aload_n 0, 1) := DX8_enoughCards_c0.1
theorem dX8_enoughCards_1 : decode cX8_enoughCards 1 = .ok (.getfield 19, 3) := DX8_enoughCards_c0.2.1
theorem dX8_enoughCards_4 : decode cX8_enoughCards 4 = .ok (.invokevirtual 159, 3) := DX8_enoughCards_c0.2.2.1
theorem dX8_enoughCards_7 : decode cX8_enoughCards 7 = .ok (.bipush 6, 2) := DX8_enoughCards_c0.2.2.2.1
theorem dX8_enoughCards_9 : decode cX8_enoughCards 9 = .ok (.if_icmp .eq 29, 3) := DX8_enoughCards_c0.2.2.2.2.1
theorem dX8_enoughCards_12 : decode cX8_enoughCards 12 = .ok (.aload_n 0, 1) := DX8_enoughCards_c0.2.2.2.2.2.1
theorem dX8_enoughCards_13 : decode cX8_enoughCards 13 = .ok (.getfield 54, 3) := DX8_enoughCards_c0.2.2.2.2.2.2.1
theorem dX8_enoughCards_16 : decode cX8_enoughCards 16 = .ok (.aload_n 0, 1) := DX8_enoughCards_c0.2.2.2.2.2.2.2.1
theorem dX8_enoughCards_17 : decode cX8_enoughCards 17 = .ok (.getfield 19, 3) := DX8_enoughCards_c0.2.2.2.2.2.2.2.2.1
theorem dX8_enoughCards_20 : decode cX8_enoughCards 20 = .ok (.aload_n 0, 1) := DX8_enoughCards_c0.2.2.2.2.2.2.2.2.2
set_option maxRecDepth 100000 in
theorem DX8_enoughCards_c1 : decode cX8_enoughCards 21 = .ok (.getfield 19, 3) ∧ decode cX8_enoughCards 24 = .ok (.invokevirtual 198, 3) ∧ decode cX8_enoughCards 27 = .ok (.aload_n 0, 1) ∧ decode cX8_enoughCards 28 = .ok (.getfield 33, 3) ∧ decode cX8_enoughCards 31 = .ok (.invokevirtual 201, 3) ∧ decode cX8_enoughCards 34 = .ok (.iconst 1, 1) ∧ decode cX8_enoughCards 35 = .ok (.if_icmp .eq 6, 3) ∧ decode cX8_enoughCards 38 = .ok (.bipush (-9), 2) ∧ decode cX8_enoughCards 40 = .ok (.ireturn, 1) ∧ decode cX8_enoughCards 41 = .ok (.iconst 1, 1) := by decide +kernel
theorem dX8_enoughCards_21 : decode cX8_enoughCards 21 = .ok (.getfield 19, 3) := DX8_enoughCards_c1.1
theorem dX8_enoughCards_24 : decode cX8_enoughCards 24 = .ok (.invokevirtual 198, 3) := DX8_enoughCards_c1.2.1
theorem dX8_enoughCards_27 : decode cX8_enoughCards 27 = .ok (.aload_n 0, 1) := DX8_enoughCards_c1.2.2.1
theorem dX8_enoughCards_28 : decode cX8_enoughCards 28 = .ok (.getfield 33, 3) := DX8_enoughCards_c1.2.2.2.1
theorem dX8_enoughCards_31 : decode cX8_enoughCards 31 = .ok (.invokevirtual 201, 3) := DX8_enoughCards_c1.2.2.2.2.1
theorem dX8_enoughCards_34 : decode cX8_enoughCards 34 = .ok (.iconst 1, 1) := DX8_enoughCards_c1.2.2.2.2.2.1
theorem dX8_enoughCards_35 : decode cX8_enoughCards 35 = .ok (.if_icmp .eq 6, 3) := DX8_enoughCards_c1.2.2.2.2.2.2.1
theorem dX8_enoughCards_38 : decode cX8_enoughCards 38 = .ok (.bipush (-9), 2) := DX8_enoughCards_c1.2.2.2.2.2.2.2.1
theorem dX8_enoughCards_40 : decode cX8_enoughCards 40 = .ok (.ireturn, 1) := DX8_enoughCards_c1.2.2.2.2.2.2.2.2.1
theorem dX8_enoughCards_41 : decode cX8_enoughCards 41 = .ok (.iconst 1, 1) := DX8_enoughCards_c1.2.2.2.2.2.2.2.2.2
set_option maxRecDepth 100000 in
theorem DX8_enoughCards_c2 : decode cX8_enoughCards 42 = .ok (.istore_n 1, 1) ∧ decode cX8_enoughCards 43 = .ok (.iload_n 1, 1) ∧ decode cX8_enoughCards 44 = .ok (.aload_n 0, 1) ∧ decode cX8_enoughCards 45 = .ok (.getfield 19, 3) ∧ decode cX8_enoughCards 48 = .ok (.invokevirtual 150, 3) ∧ decode cX8_enoughCards 51 = .ok (.if_icmp .ge 58, 3) ∧ decode cX8_enoughCards 54 = .ok (.iconst 1, 1) ∧ decode cX8_enoughCards 55 = .ok (.istore_n 2, 1) ∧ decode cX8_enoughCards 56 = .ok (.iload_n 2, 1) ∧ decode cX8_enoughCards 57 = .ok (.aload_n 0, 1) := by decide +kernel
theorem dX8_enoughCards_42 : decode cX8_enoughCards 42 = .ok (.istore_n 1, 1) := DX8_enoughCards_c2.1
theorem dX8_enoughCards_43 : decode cX8_enoughCards 43 = .ok (.iload_n 1, 1) := DX8_enoughCards_c2.2.1
theorem dX8_enoughCards_44 : decode cX8_enoughCards 44 = .ok (.aload_n 0, 1) := DX8_enoughCards_c2.2.2.1
theorem dX8_enoughCards_45 : decode cX8_enoughCards 45 = .ok (.getfield 19, 3) := DX8_enoughCards_c2.2.2.2.1
theorem dX8_enoughCards_48 : decode cX8_enoughCards 48 = .ok (.invokevirtual 150, 3) := DX8_enoughCards_c2.2.2.2.2.1
theorem dX8_enoughCards_51 : decode cX8_enoughCards 51 = .ok (.if_icmp .ge 58, 3) := DX8_enoughCards_c2.2.2.2.2.2.1
theorem dX8_enoughCards_54 : decode cX8_enoughCards 54 = .ok (.iconst 1, 1) := DX8_enoughCards_c2.2.2.2.2.2.2.1
theorem dX8_enoughCards_55 : decode cX8_enoughCards 55 = .ok (.istore_n 2, 1) := DX8_enoughCards_c2.2.2.2.2.2.2.2.1
theorem dX8_enoughCards_56 : decode cX8_enoughCards 56 = .ok (.iload_n 2, 1) := DX8_enoughCards_c2.2.2.2.2.2.2.2.2.1
theorem dX8_enoughCards_57 : decode cX8_enoughCards 57 = .ok (.aload_n 0, 1) := DX8_enoughCards_c2.2.2.2.2.2.2.2.2.2
set_option maxRecDepth 100000 in
theorem DX8_enoughCards_c3 : decode cX8_enoughCards 58 = .ok (.getfield 19, 3) ∧ decode cX8_enoughCards 61 = .ok (.invokevirtual 198, 3) ∧ decode cX8_enoughCards 64 = .ok (.if_icmp .ge 39, 3) ∧ decode cX8_enoughCards 67 = .ok (.iload_n 2, 1) ∧ decode cX8_enoughCards 68 = .ok (.invokestatic 175, 3) ∧ decode cX8_enoughCards 71 = .ok (.iload_n 1, 1) ∧ decode cX8_enoughCards 72 = .ok (.if_icmp .ne 25, 3) ∧ decode cX8_enoughCards 75 = .ok (.aload_n 0, 1) ∧ decode cX8_enoughCards 76 = .ok (.getfield 54, 3) ∧ decode cX8_enoughCards 79 = .ok (.aload_n 0, 1) := by decide +kernel
theorem dX8_enoughCards_58 : decode cX8_enoughCards 58 = .ok (.getfield 19, 3) := DX8_enoughCards_c3.1
theorem dX8_enoughCards_61 : decode cX8_enoughCards 61 = .ok (.invokevirtual 198, 3) := DX8_enoughCards_c3.2.1
theorem dX8_enoughCards_64 : decode cX8_enoughCards 64 = .ok (.if_icmp .ge 39, 3) := DX8_enoughCards_c3.2.2.1
theorem dX8_enoughCards_67 : decode cX8_enoughCards 67 = .ok (.iload_n 2, 1) := DX8_enoughCards_c3.2.2.2.1
theorem dX8_enoughCards_68 : decode cX8_enoughCards 68 = .ok (.invokestatic 175, 3) := DX8_enoughCards_c3.2.2.2.2.1
theorem dX8_enoughCards_71 : decode cX8_enoughCards 71 = .ok (.iload_n 1, 1) := DX8_enoughCards_c3.2.2.2.2.2.1
theorem dX8_enoughCards_72 : decode cX8_enoughCards 72 = .ok (.if_icmp .ne 25, 3) := DX8_enoughCards_c3.2.2.2.2.2.2.1
theorem dX8_enoughCards_75 : decode cX8_enoughCards 75 = .ok (.aload_n 0, 1) := DX8_enoughCards_c3.2.2.2.2.2.2.2.1
theorem dX8_enoughCards_76 : decode cX8_enoughCards 76 = .ok (.getfield 54, 3) := DX8_enoughCards_c3.2.2.2.2.2.2.2.2.1
theorem dX8_enoughCards_79 : decode cX8_enoughCards 79 = .ok (.aload_n 0, 1) := DX8_enoughCards_c3.2.2.2.2.2.2.2.2.2
set_option maxRecDepth 100000 in
theorem DX8_enoughCards_c4 : decode cX8_enoughCards 80 = .ok (.getfield 19, 3) ∧ decode cX8_enoughCards 83 = .ok (.iload_n 2, 1) ∧ decode cX8_enoughCards 84 = .ok (.aload_n 0, 1) ∧ decode cX8_enoughCards 85 = .ok (.getfield 33, 3) ∧ decode cX8_enoughCards 88 = .ok (.invokevirtual 201, 3) ∧ decode cX8_enoughCards 91 = .ok (.iconst 1, 1) ∧ decode cX8_enoughCards 92 = .ok (.if_icmp .ne 5, 3) ∧ decode cX8_enoughCards 95 = .ok (.iload_n 1, 1) ∧ decode cX8_enoughCards 96 = .ok (.ireturn, 1) ∧ decode cX8_enoughCards 97 = .ok (.iinc 2 1, 3) := by decide +kernel
theorem dX8_enoughCards_80 : decode cX8_enoughCards 80 = .ok (.getfield 19, 3) := DX8_enoughCards_c4.1
theorem dX8_enoughCards_83 : decode cX8_enoughCards 83 = .ok (.iload_n 2, 1) := DX8_enoughCards_c4.2.1
theorem dX8_enoughCards_84 : decode cX8_enoughCards 84 = .ok (.aload_n 0, 1) := DX8_enoughCards_c4.2.2.1
theorem dX8_enoughCards_85 : decode cX8_enoughCards 85 = .ok (.getfield 33, 3) := DX8_enoughCards_c4.2.2.2.1
theorem dX8_enoughCards_88 : decode cX8_enoughCards 88 = .ok (.invokevirtual 201, 3) := DX8_enoughCards_c4.2.2.2.2.1
theorem dX8_enoughCards_91 : decode cX8_enoughCards 91 = .ok (.iconst 1, 1) := DX8_enoughCards_c4.2.2.2.2.2.1
theorem dX8_enoughCards_92 : decode cX8_enoughCards 92 = .ok (.if_icmp .ne 5, 3) := DX8_enoughCards_c4.2.2.2.2.2.2.1
theorem dX8_enoughCards_95 : decode cX8_enoughCards 95 = .ok (.iload_n 1, 1) := DX8_enoughCards_c4.2.2.2.2.2.2.2.1
theorem dX8_enoughCards_96 : decode cX8_enoughCards 96 = .ok (.ireturn, 1) := DX8_enoughCards_c4.2.2.2.2.2.2.2.2.1
theorem dX8_enoughCards_97 : decode cX8_enoughCards 97 = .ok (.iinc 2 1, 3) := DX8_enoughCards_c4.2.2.2.2.2.2.2.2.2
set_option maxRecDepth 100000 in
theorem DX8_enoughCards_c5 : decode cX8_enoughCards 100 = .ok (.goto (-44), 3) ∧ decode cX8_enoughCards 103 = .ok (.iinc 1 1, 3) ∧ decode cX8_enoughCards 106 = .ok (.goto (-63), 3) ∧ decode cX8_enoughCards 109 = .ok (.aload_n 0, 1) ∧ decode cX8_enoughCards 110 = .ok (.getfield 19, 3) ∧ decode cX8_enoughCards 113 = .ok (.invokevirtual 150, 3) ∧ decode cX8_enoughCards 116 = .ok (.ireturn, 1) := by decide +kernel
theorem dX8_enoughCards_100 : decode cX8_enoughCards 100 = .ok (.goto (-44), 3) := DX8_enoughCards_c5.1
theorem dX8_enoughCards_103 : decode cX8_enoughCards 103 = .ok (.iinc 1 1, 3) := DX8_enoughCards_c5.2.1
theorem dX8_enoughCards_106 : decode cX8_enoughCards 106 = .ok (.goto (-63), 3) := DX8_enoughCards_c5.2.2.1
theorem dX8_enoughCards_109 : decode cX8_enoughCards 109 = .ok (.aload_n 0, 1) := DX8_enoughCards_c5.2.2.2.1
theorem dX8_enoughCards_110 : decode cX8_enoughCards 110 = .ok (.getfield 19, 3) := DX8_enoughCards_c5.2.2.2.2.1
theorem dX8_enoughCards_113 : decode cX8_enoughCards 113 = .ok (.invokevirtual 150, 3) := DX8_enoughCards_c5.2.2.2.2.2.1
theorem dX8_enoughCards_116 : decode cX8_enoughCards 116 = .ok (.ireturn, 1) := DX8_enoughCards_c5.2.2.2.2.2.2
set_option maxRecDepth 100000 in
theorem DX8_isDeckOfGraph_c0 : decode cX8_isDeckOfGraph 0 = .ok (.aload_n 0, 1) ∧ decode cX8_isDeckOfGraph 1 = .ok (.getfield 10, 3) ∧ decode cX8_isDeckOfGraph 4 = .ok (.invokevirtual 61, 3) ∧ decode cX8_isDeckOfGraph 7 = .ok (.aload_n 0, 1) ∧ decode cX8_isDeckOfGraph 8 = .ok (.getfield 19, 3) ∧ decode cX8_isDeckOfGraph 11 = .ok (.invokevirtual 159, 3) ∧ decode cX8_isDeckOfGraph 14 = .ok (.if_icmp .ne 13, 3) ∧ decode cX8_isDeckOfGraph 17 = .ok (.aload_n 0, 1) ∧ decode cX8_isDeckOfGraph 18 = .ok (.getfield 19, 3) ∧ decode cX8_isDeckOfGraph 21 = .ok (.invokevirtual 162, 3) := by decide +kernel
theorem dX8_isDeckOfGraph_0 : decode cX8_isDeckOfGraph 0 = .ok (.aload_n 0, 1) := DX8_isDeckOfGraph_c0.1
theorem dX8_isDeckOfGraph_1 : decode cX8_isDeckOfGraph 1 = .ok (.getfield 10, 3) := DX8_isDeckOfGraph_c0.2.1
theorem dX8_isDeckOfGraph_4 : decode cX8_isDeckOfGraph 4 = .ok (.invokevirtual 61, 3) := DX8_isDeckOfGraph_c0.2.2.1
theorem dX8_isDeckOfGraph_7 : decode cX8_isDeckOfGraph 7 = .ok (.aload_n 0, 1) := DX8_isDeckOfGraph_c0.2.2.2.1
theorem dX8_isDeckOfGraph_8 : decode cX8_isDeckOfGraph 8 = .ok (.getfield 19, 3) := DX8_isDeckOfGraph_c0.2.2.2.2.1
theorem dX8_isDeckOfGraph_11 : decode cX8_isDeckOfGraph 11 = .ok (.invokevirtual 159, 3) := DX8_isDeckOfGraph_c0.2.2.2.2.2.1
theorem dX8_isDeckOfGraph_14 : decode cX8_isDeckOfGraph 14 = .ok (.if_icmp .ne 13, 3) := DX8_isDeckOfGraph_c0.2.2.2.2.2.2.1
theorem dX8_isDeckOfGraph_17 : decode cX8_isDeckOfGraph 17 = .ok (.aload_n 0, 1) := DX8_isDeckOfGraph_c0.2.2.2.2.2.2.2.1
theorem dX8_isDeckOfGraph_18 : decode cX8_isDeckOfGraph 18 = .ok (.getfield 19, 3) := DX8_isDeckOfGraph_c0.2.2.2.2.2.2.2.2.1
theorem dX8_isDeckOfGraph_21 : decode cX8_isDeckOfGraph 21 = .ok (.invokevirtual 162, 3) := DX8_isDeckOfGraph_c0.2.2.2.2.2.2.2.2.2
set_option maxRecDepth 100000 in
theorem DX8_isDeckOfGraph_c1 : decode cX8_isDeckOfGraph 24 = .ok (.ifCond .eq 5, 3) ∧ decode cX8_isDeckOfGraph 27 = .ok (.iconst 0, 1) ∧ decode cX8_isDeckOfGraph 28 = .ok (.ireturn, 1) ∧ decode cX8_isDeckOfGraph 29 = .ok (.aload_n 0, 1) ∧ decode cX8_isDeckOfGraph 30 = .ok (.getfield 58, 3) ∧ decode cX8_isDeckOfGraph 33 = .ok (.aload_n 0, 1) ∧ decode cX8_isDeckOfGraph 34 = .ok (.getfield 10, 3) ∧ decode cX8_isDeckOfGraph 37 = .ok (.aload_n 0, 1) ∧ decode cX8_isDeckOfGraph 38 = .ok (.getfield 33, 3) ∧ decode cX8_isDeckOfGraph 41 = .ok (.invokevirtual 155, 3) := by decide +kernel
theorem dX8_isDeckOfGraph_24 : decode cX8_isDeckOfGraph 24 = .ok (.ifCond .eq 5, 3) := DX8_isDeckOfGraph_c1.1
theorem dX8_isDeckOfGraph_27 : decode cX8_isDeckOfGraph 27 = .ok (.iconst 0, 1) := DX8_isDeckOfGraph_c1.2.1
theorem dX8_isDeckOfGraph_28 : decode cX8_isDeckOfGraph 28 = .ok (.ireturn, 1) := DX8_isDeckOfGraph_c1.2.2.1
theorem dX8_isDeckOfGraph_29 : decode cX8_isDeckOfGraph 29 = .ok (.aload_n 0, 1) := DX8_isDeckOfGraph_c1.2.2.2.1
theorem dX8_isDeckOfGraph_30 : decode cX8_isDeckOfGraph 30 = .ok (.getfield 58, 3) := DX8_isDeckOfGraph_c1.2.2.2.2.1
theorem dX8_isDeckOfGraph_33 : decode cX8_isDeckOfGraph 33 = .ok (.aload_n 0, 1) := DX8_isDeckOfGraph_c1.2.2.2.2.2.1
theorem dX8_isDeckOfGraph_34 : decode cX8_isDeckOfGraph 34 = .ok (.getfield 10, 3) := DX8_isDeckOfGraph_c1.2.2.2.2.2.2.1
theorem dX8_isDeckOfGraph_37 : decode cX8_isDeckOfGraph 37 = .ok (.aload_n 0, 1) := DX8_isDeckOfGraph_c1.2.2.2.2.2.2.2.1
theorem dX8_isDeckOfGraph_38 : decode cX8_isDeckOfGraph 38 = .ok (.getfield 33, 3) := DX8_isDeckOfGraph_c1.2.2.2.2.2.2.2.2.1
theorem dX8_isDeckOfGraph_41 : decode cX8_isDeckOfGraph 41 = .ok (.invokevirtual 155, 3) := DX8_isDeckOfGraph_c1.2.2.2.2.2.2.2.2.2
set_option maxRecDepth 100000 in
theorem DX8_isDeckOfGraph_c2 : decode cX8_isDeckOfGraph 44 = .ok (.aload_n 0, 1) ∧ decode cX8_isDeckOfGraph 45 = .ok (.getfield 58, 3) ∧ decode cX8_isDeckOfGraph 48 = .ok (.aload_n 0, 1) ∧ decode cX8_isDeckOfGraph 49 = .ok (.getfield 19, 3) ∧ decode cX8_isDeckOfGraph 52 = .ok (.invokevirtual 225, 3) ∧ decode cX8_isDeckOfGraph 55 = .ok (.ireturn, 1) := by decide +kernel
theorem dX8_isDeckOfGraph_44 : decode cX8_isDeckOfGraph 44 = .ok (.aload_n 0, 1) := DX8_isDeckOfGraph_c2.1
theorem dX8_isDeckOfGraph_45 : decode cX8_isDeckOfGraph 45 = .ok (.getfield 58, 3) := DX8_isDeckOfGraph_c2.2.1
theorem dX8_isDeckOfGraph_48 : decode cX8_isDeckOfGraph 48 = .ok (.aload_n 0, 1) := DX8_isDeckOfGraph_c2.2.2.1
theorem dX8_isDeckOfGraph_49 : decode cX8_isDeckOfGraph 49 = .ok (.getfield 19, 3) := DX8_isDeckOfGraph_c2.2.2.2.1
theorem dX8_isDeckOfGraph_52 : decode cX8_isDeckOfGraph 52 = .ok (.invokevirtual 225, 3) := DX8_isDeckOfGraph_c2.2.2.2.2.1
theorem dX8_isDeckOfGraph_55 : decode cX8_isDeckOfGraph 55 = .ok (.ireturn, 1) := DX8_isDeckOfGraph_c2.2.2.2.2.2
set_option maxRecDepth 100000 in
theorem DX9_init_c0 : decode cX9_init 0 = .ok (.aload_n 0, 1) ∧ decode cX9_init 1 = .ok (.invokespecial 1, 3) ∧ decode cX9_init 4 = .ok (.aload_n 0, 1) ∧ decode cX9_init 5 = .ok (.bipush 10, 2) ∧ decode cX9_init 7 = .ok (.newarray .int, 2) ∧ decode cX9_init 9 = .ok (.putfield 7, 3) ∧ decode cX9_init 12 = .ok (.aload_n 0, 1) ∧ decode cX9_init 13 = .ok (.bipush 80, 2) ∧ decode cX9_init 15 = .ok (.newarray .int, 2) ∧ decode cX9_init 17 = .ok (.putfield 13, 3) := by decide +kernel
theorem dX9_init_0 : decode cX9_init 0 = .ok (.aload_n 0, 1) := DX9_init_c0.1
theorem dX9_init_1 : decode cX9_init 1 = .ok (.invokespecial 1, 3) := DX9_init_c0.2.1
theorem dX9_init_4 : decode cX9_init 4 = .ok (.aload_n 0, 1) := DX9_init_c0.2.2.1
theorem dX9_init_5 : decode cX9_init 5 = .ok (.bipush 10, 2) := DX9_init_c0.2.2.2.1
theorem dX9_init_7 : decode cX9_init 7 = .ok (.newarray .int, 2) := DX9_init_c0.2.2.2.2.1
theorem dX9_init_9 : decode cX9_init 9 = .ok (.putfield 7, 3) := DX9_init_c0.2.2.2.2.2.1
theorem dX9_init_12 : decode cX9_init 12 = .ok (.aload_n 0, 1) := DX9_init_c0.2.2.2.2.2.2.1
theorem dX9_init_13 : decode cX9_init 13 = .ok (.bipush 80, 2) := DX9_init_c0.2.2.2.2.2.2.2.1
theorem dX9_init_15 : decode cX9_init 15 = .ok (.newarray .int, 2) := DX9_init_c0.2.2.2.2.2.2.2.2.1
theorem dX9_init_17 : decode cX9_init 17 = .ok (.putfield 13, 3) := DX9_init_c0.2.2.2.2.2.2.2.2.2
set_option maxRecDepth 100000 in
theorem DX9_init_c1 : decode cX9_init 20 = .ok (.aload_n 0, 1) ∧ decode cX9_init 21 = .ok (.bipush 8, 2) ∧ decode cX9_init 23 = .ok (.newarray .int, 2) ∧ decode cX9_init 25 = .ok (.putfield 16, 3) ∧ decode cX9_init 28 = .ok (.aload_n 0, 1) ∧ decode cX9_init 29 = .ok (.bipush 9, 2) ∧ decode cX9_init 31 = .ok (.newarray .int, 2) ∧ decode cX9_init 33 = .ok (.putfield 19, 3) ∧ decode cX9_init 36 = .ok (.aload_n 0, 1) ∧ decode cX9_init 37 = .ok (.bipush 9, 2) := by decide +kernel
theorem dX9_init_20 : decode cX9_init 20 = .ok (.aload_n 0, 1) := DX9_init_c1.1
theorem dX9_init_21 : decode cX9_init 21 = .ok (.bipush 8, 2) := DX9_init_c1.2.1
theorem dX9_init_23 : decode cX9_init 23 = .ok (.newarray .int, 2) := DX9_init_c1.2.2.1
theorem dX9_init_25 : decode cX9_init 25 = .ok (.putfield 16, 3) := DX9_init_c1.2.2.2.1
theorem dX9_init_28 : decode cX9_init 28 = .ok (.aload_n 0, 1) := DX9_init_c1.2.2.2.2.1
theorem dX9_init_29 : decode cX9_init 29 = .ok (.bipush 9, 2) := DX9_init_c1.2.2.2.2.2.1
theorem dX9_init_31 : decode cX9_init 31 = .ok (.newarray .int, 2) := DX9_init_c1.2.2.2.2.2.2.1
theorem dX9_init_33 : decode cX9_init 33 = .ok (.putfield 19, 3) := DX9_init_c1.2.2.2.2.2.2.2.1
theorem dX9_init_36 : decode cX9_init 36 = .ok (.aload_n 0, 1) := DX9_init_c1.2.2.2.2.2.2.2.2.1
theorem dX9_init_37 : decode cX9_init 37 = .ok (.bipush 9, 2) := DX9_init_c1.2.2.2.2.2.2.2.2.2
set_option maxRecDepth 100000 in
theorem DX9_init_c2 : decode cX9_init 39 = .ok (.newarray .int, 2) ∧ decode cX9_init 41 = .ok (.putfield 22, 3) ∧ decode cX9_init 44 = .ok (.aload_n 0, 1) ∧ decode cX9_init 45 = .ok (.bipush 8, 2) ∧ decode cX9_init 47 = .ok (.newarray .int, 2) ∧ decode cX9_init 49 = .ok (.putfield 25, 3) ∧ decode cX9_init 52 = .ok (.aload_n 0, 1) ∧ decode cX9_init 53 = .ok (.bipush 8, 2) ∧ decode cX9_init 55 = .ok (.newarray .int, 2) ∧ decode cX9_init 57 = .ok (.putfield 28, 3) := by decide +kernel
theorem dX9_init_39 : decode cX9_init 39 = .ok (.newarray .int, 2) := DX9_init_c2.1
theorem dX9_init_41 : decode cX9_init 41 = .ok (.putfield 22, 3) := DX9_init_c2.2.1
theorem dX9_init_44 : decode cX9_init 44 = .ok (.aload_n 0, 1) := DX9_init_c2.2.2.1
theorem dX9_init_45 : decode cX9_init 45 = .ok (.bipush 8, 2) := DX9_init_c2.2.2.2.1
theorem dX9_init_47 : decode cX9_init 47 = .ok (.newarray .int, 2) := DX9_init_c2.2.2.2.2.1
theorem dX9_init_49 : decode cX9_init 49 = .ok (.putfield 25, 3) := DX9_init_c2.2.2.2.2.2.1
theorem dX9_init_52 : decode cX9_init 52 = .ok (.aload_n 0, 1) := DX9_init_c2.2.2.2.2.2.2.1
theorem dX9_init_53 : decode cX9_init 53 = .ok (.bipush 8, 2) := DX9_init_c2.2.2.2.2.2.2.2.1
theorem dX9_init_55 : decode cX9_init 55 = .ok (.newarray .int, 2) := DX9_init_c2.2.2.2.2.2.2.2.2.1
theorem dX9_init_57 : decode cX9_init 57 = .ok (.putfield 28, 3) := DX9_init_c2.2.2.2.2.2.2.2.2.2
set_option maxRecDepth 100000 in
theorem DX9_init_c3 : decode cX9_init 60 = .ok (.aload_n 0, 1) ∧ decode cX9_init 61 = .ok (.bipush 8, 2) ∧ decode cX9_init 63 = .ok (.newarray .int, 2) ∧ decode cX9_init 65 = .ok (.putfield 31, 3) ∧ decode cX9_init 68 = .ok (.aload_n 0, 1) ∧ decode cX9_init 69 = .ok (.ldc 34, 2) ∧ decode cX9_init 71 = .ok (.newarray .int, 2) ∧ decode cX9_init 73 = .ok (.putfield 35, 3) ∧ decode cX9_init 76 = .ok (.aload_n 0, 1) ∧ decode cX9_init 77 = .ok (.sipush 160, 3) := by decide +kernel
theorem dX9_init_60 : decode cX9_init 60 = .ok (.aload_n 0, 1) := DX9_init_c3.1
theorem dX9_init_61 : decode cX9_init 61 = .ok (.bipush 8, 2) := DX9_init_c3.2.1
theorem dX9_init_63 : decode cX9_init 63 = .ok (.newarray .int, 2) := DX9_init_c3.2.2.1
theorem dX9_init_65 : decode cX9_init 65 = .ok (.putfield 31, 3) := DX9_init_c3.2.2.2.1
theorem dX9_init_68 : decode cX9_init 68 = .ok (.aload_n 0, 1) := DX9_init_c3.2.2.2.2.1
theorem dX9_init_69 : decode cX9_init 69 = .ok (.ldc 34, 2) := DX9_init_c3.2.2.2.2.2.1
theorem dX9_init_71 : decode cX9_init 71 = .ok (.newarray .int, 2) := DX9_init_c3.2.2.2.2.2.2.1
theorem dX9_init_73 : decode cX9_init 73 = .ok (.putfield 35, 3) := DX9_init_c3.2.2.2.2.2.2.2.1
theorem dX9_init_76 : decode cX9_init 76 = .ok (.aload_n 0, 1) := DX9_init_c3.2.2.2.2.2.2.2.2.1
theorem dX9_init_77 : decode cX9_init 77 = .ok (.sipush 160, 3) := DX9_init_c3.2.2.2.2.2.2.2.2.2
set_option maxRecDepth 100000 in
theorem DX9_init_c4 : decode cX9_init 80 = .ok (.newarray .int, 2) ∧ decode cX9_init 82 = .ok (.putfield 38, 3) ∧ decode cX9_init 85 = .ok (.aload_n 0, 1) ∧ decode cX9_init 86 = .ok (.sipush 960, 3) ∧ decode cX9_init 89 = .ok (.newarray .int, 2) ∧ decode cX9_init 91 = .ok (.putfield 41, 3) ∧ decode cX9_init 94 = .ok (.aload_n 0, 1) ∧ decode cX9_init 95 = .ok (.bipush 6, 2) ∧ decode cX9_init 97 = .ok (.newarray .int, 2) ∧ decode cX9_init 99 = .ok (.putfield 44, 3) := by decide +kernel
theorem dX9_init_80 : decode cX9_init 80 = .ok (.newarray .int, 2) := DX9_init_c4.1
theorem dX9_init_82 : decode cX9_init 82 = .ok (.putfield 38, 3) := DX9_init_c4.2.1
theorem dX9_init_85 : decode cX9_init 85 = .ok (.aload_n 0, 1) := DX9_init_c4.2.2.1
theorem dX9_init_86 : decode cX9_init 86 = .ok (.sipush 960, 3) := DX9_init_c4.2.2.2.1
theorem dX9_init_89 : decode cX9_init 89 = .ok (.newarray .int, 2) := DX9_init_c4.2.2.2.2.1
theorem dX9_init_91 : decode cX9_init 91 = .ok (.putfield 41, 3) := DX9_init_c4.2.2.2.2.2.1
theorem dX9_init_94 : decode cX9_init 94 = .ok (.aload_n 0, 1) := DX9_init_c4.2.2.2.2.2.2.1
theorem dX9_init_95 : decode cX9_init 95 = .ok (.bipush 6, 2) := DX9_init_c4.2.2.2.2.2.2.2.1
theorem dX9_init_97 : decode cX9_init 97 = .ok (.newarray .int, 2) := DX9_init_c4.2.2.2.2.2.2.2.2.1
theorem dX9_init_99 : decode cX9_init 99 = .ok (.putfield 44, 3) := DX9_init_c4.2.2.2.2.2.2.2.2.2
set_option maxRecDepth 100000 in
theorem DX9_init_c5 : decode cX9_init 102 = .ok (.aload_n 0, 1) ∧ decode cX9_init 103 = .ok (.bipush 6, 2) ∧ decode cX9_init 105 = .ok (.newarray .int, 2) ∧ decode cX9_init 107 = .ok (.putfield 47, 3) ∧ decode cX9_init 110 = .ok (.aload_n 0, 1) ∧ decode cX9_init 111 = .ok (.getfield 7, 3) ∧ decode cX9_init 114 = .ok (.iconst 0, 1) ∧ decode cX9_init 115 = .ok (.iconst 4, 1) ∧ decode cX9_init 116 = .ok (.iastore, 1) ∧ decode cX9_init 117 = .ok (.aload_n 0, 1) := by decide +kernel
theorem dX9_init_102 : decode cX9_init 102 = .ok (.aload_n 0, 1) := DX9_init_c5.1
theorem dX9_init_103 : decode cX9_init 103 = .ok (.bipush 6, 2) := DX9_init_c5.2.1
theorem dX9_init_105 : decode cX9_init 105 = .ok (.newarray .int, 2) := DX9_init_c5.2.2.1
theorem dX9_init_107 : decode cX9_init 107 = .ok (.putfield 47, 3) := DX9_init_c5.2.2.2.1
theorem dX9_init_110 : decode cX9_init 110 = .ok (.aload_n 0, 1) := DX9_init_c5.2.2.2.2.1
theorem dX9_init_111 : decode cX9_init 111 = .ok (.getfield 7, 3) := DX9_init_c5.2.2.2.2.2.1
theorem dX9_init_114 : decode cX9_init 114 = .ok (.iconst 0, 1) := DX9_init_c5.2.2.2.2.2.2.1
theorem dX9_init_115 : decode cX9_init 115 = .ok (.iconst 4, 1) := DX9_init_c5.2.2.2.2.2.2.2.1
theorem dX9_init_116 : decode cX9_init 116 = .ok (.iastore, 1) := DX9_init_c5.2.2.2.2.2.2.2.2.1
theorem dX9_init_117 : decode cX9_init 117 = .ok (.aload_n 0, 1) := DX9_init_c5.2.2.2.2.2.2.2.2.2
set_option maxRecDepth 100000 in
theorem DX9_init_c6 : decode cX9_init 118 = .ok (.getfield 7, 3) ∧ decode cX9_init 121 = .ok (.iconst 2, 1) ∧ decode cX9_init 122 = .ok (.iconst 4, 1) ∧ decode cX9_init 123 = .ok (.iastore, 1) ∧ decode cX9_init 124 = .ok (.return_, 1) := by decide +kernel
theorem dX9_init_118 : decode cX9_init 118 = .ok (.getfield 7, 3) := DX9_init_c6.1
theorem dX9_init_121 : decode cX9_init 121 = .ok (.iconst 2, 1) := DX9_init_c6.2.1
theorem dX9_init_122 : decode cX9_init 122 = .ok (.iconst 4, 1) := DX9_init_c6.2.2.1
theorem dX9_init_123 : decode cX9_init 123 = .ok (.iastore, 1) := DX9_init_c6.2.2.2.1
theorem dX9_init_124 : decode cX9_init 124 = .ok (.return_, 1) := DX9_init_c6.2.2.2.2
set_option maxRecDepth 100000 in
theorem DX9_isIn_c0 : decode cX9_isIn 0 = .ok (.iload_n 0, 1) ∧ decode cX9_isIn 1 = .ok (.iload_n 1, 1) ∧ decode cX9_isIn 2 = .ok (.if_icmp .lt 12, 3) ∧ decode cX9_isIn 5 = .ok (.iload_n 0, 1) ∧ decode cX9_isIn 6 = .ok (.iload_n 2, 1) ∧ decode cX9_isIn 7 = .ok (.if_icmp .gt 7, 3) ∧ decode cX9_isIn 10 = .ok (.iconst 1, 1) ∧ decode cX9_isIn 11 = .ok (.goto 4, 3) ∧ decode cX9_isIn 14 = .ok (.iconst 0, 1) ∧ decode cX9_isIn 15 = .ok (.ireturn, 1) := by decide +kernel
theorem dX9_isIn_0 : decode cX9_isIn 0 = .ok (.iload_n 0, 1) := DX9_isIn_c0.1
theorem dX9_isIn_1 : decode cX9_isIn 1 = .ok (.iload_n 1, 1) := DX9_isIn_c0.2.1
theorem dX9_isIn_2 : decode cX9_isIn 2 = .ok (.if_icmp .lt 12, 3) := DX9_isIn_c0.2.2.1
theorem dX9_isIn_5 : decode cX9_isIn 5 = .ok (.iload_n 0, 1) := DX9_isIn_c0.2.2.2.1
theorem dX9_isIn_6 : decode cX9_isIn 6 = .ok (.iload_n 2, 1) := DX9_isIn_c0.2.2.2.2.1
theorem dX9_isIn_7 : decode cX9_isIn 7 = .ok (.if_icmp .gt 7, 3) := DX9_isIn_c0.2.2.2.2.2.1
theorem dX9_isIn_10 : decode cX9_isIn 10 = .ok (.iconst 1, 1) := DX9_isIn_c0.2.2.2.2.2.2.1
theorem dX9_isIn_11 : decode cX9_isIn 11 = .ok (.goto 4, 3) := DX9_isIn_c0.2.2.2.2.2.2.2.1
theorem dX9_isIn_14 : decode cX9_isIn 14 = .ok (.iconst 0, 1) := DX9_isIn_c0.2.2.2.2.2.2.2.2.1
theorem dX9_isIn_15 : decode cX9_isIn 15 = .ok (.ireturn, 1) := DX9_isIn_c0.2.2.2.2.2.2.2.2.2
set_option maxRecDepth 100000 in
theorem DX9_pairs_c0 : decode cX9_pairs 0 = .ok (.iload_n 0, 1) ∧ decode cX9_pairs 1 = .ok (.iload_n 0, 1) ∧ decode cX9_pairs 2 = .ok (.iconst 1, 1) ∧ decode cX9_pairs 3 = .ok (.isub, 1) ∧ decode cX9_pairs 4 = .ok (.imul, 1) ∧ decode cX9_pairs 5 = .ok (.iconst 2, 1) ∧ decode cX9_pairs 6 = .ok (.idiv, 1) ∧ decode cX9_pairs 7 = .ok (.ireturn, 1) := by decide +kernel
theorem dX9_pairs_0 : decode cX9_pairs 0 = .ok (.iload_n 0, 1) := DX9_pairs_c0.1
theorem dX9_pairs_1 : decode cX9_pairs 1 = .ok (.iload_n 0, 1) := DX9_pairs_c0.2.1
theorem dX9_pairs_2 : decode cX9_pairs 2 = .ok (.iconst 1, 1) := DX9_pairs_c0.2.2.1
theorem dX9_pairs_3 : decode cX9_pairs 3 = .ok (.isub, 1) := DX9_pairs_c0.2.2.2.1
theorem dX9_pairs_4 : decode cX9_pairs 4 = .ok (.imul, 1) := DX9_pairs_c0.2.2.2.2.1
theorem dX9_pairs_5 : decode cX9_pairs 5 = .ok (.iconst 2, 1) := DX9_pairs_c0.2.2.2.2.2.1
theorem dX9_pairs_6 : decode cX9_pairs 6 = .ok (.idiv, 1) := DX9_pairs_c0.2.2.2.2.2.2.1
theorem dX9_pairs_7 : decode cX9_pairs 7 = .ok (.ireturn, 1) := DX9_pairs_c0.2.2.2.2.2.2.2
set_option maxRecDepth 100000 in
theorem DX9_isVertex_c0 : decode cX9_isVertex 0 = .ok (.iload_n 1, 1) ∧ decode cX9_isVertex 1 = .ok (.iconst 0, 1) ∧ decode cX9_isVertex 2 = .ok (.aload_n 0, 1) ∧ decode cX9_isVertex 3 = .ok (.getfield 7, 3) ∧ decode cX9_isVertex 6 = .ok (.iconst 0, 1) ∧ decode cX9_isVertex 7 = .ok (.iaload, 1) ∧ decode cX9_isVertex 8 = .ok (.iconst 1, 1) ∧ decode cX9_isVertex 9 = .ok (.isub, 1) ∧ decode cX9_isVertex 10 = .ok (.invokestatic 50, 3) ∧ decode cX9_isVertex 13 = .ok (.ireturn, 1) := by decide +kernel
theorem dX9_isVertex_0 : decode cX9_isVertex 0 = .ok (.iload_n 1, 1) := DX9_isVertex_c0.1
theorem dX9_isVertex_1 : decode cX9_isVertex 1 = .ok (.iconst 0, 1) := DX9_isVertex_c0.2.1
theorem dX9_isVertex_2 : decode cX9_isVertex 2 = .ok (.aload_n 0, 1) := DX9_isVertex_c0.2.2.1
theorem dX9_isVertex_3 : decode cX9_isVertex 3 = .ok (.getfield 7, 3) := DX9_isVertex_c0.2.2.2.1
theorem dX9_isVertex_6 : decode cX9_isVertex 6 = .ok (.iconst 0, 1) := DX9_isVertex_c0.2.2.2.2.1
theorem dX9_isVertex_7 : decode cX9_isVertex 7 = .ok (.iaload, 1) := DX9_isVertex_c0.2.2.2.2.2.1
theorem dX9_isVertex_8 : decode cX9_isVertex 8 = .ok (.iconst 1, 1) := DX9_isVertex_c0.2.2.2.2.2.2.1
theorem dX9_isVertex_9 : decode cX9_isVertex 9 = .ok (.isub, 1) := DX9_isVertex_c0.2.2.2.2.2.2.2.1
theorem dX9_isVertex_10 : decode cX9_isVertex 10 = .ok (.invokestatic 50, 3) := DX9_isVertex_c0.2.2.2.2.2.2.2.2.1
theorem dX9_isVertex_13 : decode cX9_isVertex 13 = .ok (.ireturn, 1) := DX9_isVertex_c0.2.2.2.2.2.2.2.2.2
set_option maxRecDepth 100000 in
theorem DX9_remember_c0 : decode cX9_remember 0 = .ok (.aload_n 0, 1) ∧ decode cX9_remember 1 = .ok (.getfield 54, 3) ∧ decode cX9_remember 4 = .ok (.bipush 8, 2) ∧ decode cX9_remember 6 = .ok (.if_icmp .ne 42, 3) ∧ decode cX9_remember 9 = .ok (.iconst 0, 1) ∧ decode cX9_remember 10 = .ok (.istore_n 1, 1) ∧ decode cX9_remember 11 = .ok (.iload_n 1, 1) ∧ decode cX9_remember 12 = .ok (.bipush 70, 2) ∧ decode cX9_remember 14 = .ok (.if_icmp .ge 24, 3) ∧ decode cX9_remember 17 = .ok (.aload_n 0, 1) := by decide +kernel
theorem dX9_remember_0 : decode cX9_remember 0 = .ok (.aload_n 0, 1) := DX9_remember_c0.1
theorem dX9_remember_1 : decode cX9_remember 1 = .ok (.getfield 54, 3) := DX9_remember_c0.2.1
theorem dX9_remember_4 : decode cX9_remember 4 = .ok (.bipush 8, 2) := DX9_remember_c0.2.2.1
theorem dX9_remember_6 : decode cX9_remember 6 = .ok (.if_icmp .ne 42, 3) := DX9_remember_c0.2.2.2.1
theorem dX9_remember_9 : decode cX9_remember 9 = .ok (.iconst 0, 1) := DX9_remember_c0.2.2.2.2.1
theorem dX9_remember_10 : decode cX9_remember 10 = .ok (.istore_n 1, 1) := DX9_remember_c0.2.2.2.2.2.1
theorem dX9_remember_11 : decode cX9_remember 11 = .ok (.iload_n 1, 1) := DX9_remember_c0.2.2.2.2.2.2.1
theorem dX9_remember_12 : decode cX9_remember 12 = .ok (.bipush 70, 2) := DX9_remember_c0.2.2.2.2.2.2.2.1
theorem dX9_remember_14 : decode cX9_remember 14 = .ok (.if_icmp .ge 24, 3) := DX9_remember_c0.2.2.2.2.2.2.2.2.1
theorem dX9_remember_17 : decode cX9_remember 17 = .ok (.aload_n 0, 1) := DX9_remember_c0.2.2.2.2.2.2.2.2.2
set_option maxRecDepth 100000 in
theorem DX9_remember_c1 : decode cX9_remember 18 = .ok (.getfield 13, 3) ∧ decode cX9_remember 21 = .ok (.iload_n 1, 1) ∧ decode cX9_remember 22 = .ok (.aload_n 0, 1) ∧ decode cX9_remember 23 = .ok (.getfield 13, 3) ∧ decode cX9_remember 26 = .ok (.iload_n 1, 1) ∧ decode cX9_remember 27 = .ok (.bipush 10, 2) ∧ decode cX9_remember 29 = .ok (.iadd, 1) ∧ decode cX9_remember 30 = .ok (.iaload, 1) ∧ decode cX9_remember 31 = .ok (.iastore, 1) ∧ decode cX9_remember 32 = .ok (.iinc 1 1, 3) := by decide +kernel
theorem dX9_remember_18 : decode cX9_remember 18 = .ok (.getfield 13, 3) := DX9_remember_c1.1
theorem dX9_remember_21 : decode cX9_remember 21 = .ok (.iload_n 1, 1) := DX9_remember_c1.2.1
theorem dX9_remember_22 : decode cX9_remember 22 = .ok (.aload_n 0, 1) := DX9_remember_c1.2.2.1
theorem dX9_remember_23 : decode cX9_remember 23 = .ok (.getfield 13, 3) := DX9_remember_c1.2.2.2.1
theorem dX9_remember_26 : decode cX9_remember 26 = .ok (.iload_n 1, 1) := DX9_remember_c1.2.2.2.2.1
theorem dX9_remember_27 : decode cX9_remember 27 = .ok (.bipush 10, 2) := DX9_remember_c1.2.2.2.2.2.1
theorem dX9_remember_29 : decode cX9_remember 29 = .ok (.iadd, 1) := DX9_remember_c1.2.2.2.2.2.2.1
theorem dX9_remember_30 : decode cX9_remember 30 = .ok (.iaload, 1) := DX9_remember_c1.2.2.2.2.2.2.2.1
theorem dX9_remember_31 : decode cX9_remember 31 = .ok (.iastore, 1) := DX9_remember_c1.2.2.2.2.2.2.2.2.1
theorem dX9_remember_32 : decode cX9_remember 32 = .ok (.iinc 1 1, 3) := DX9_remember_c1.2.2.2.2.2.2.2.2.2
set_option maxRecDepth 100000 in
theorem DX9_remember_c2 : decode cX9_remember 35 = .ok (.goto (-24), 3) ∧ decode cX9_remember 38 = .ok (.aload_n 0, 1) ∧ decode cX9_remember 39 = .ok (.dup, 1) ∧ decode cX9_remember 40 = .ok (.getfield 54, 3) ∧ decode cX9_remember 43 = .ok (.iconst 1, 1) ∧ decode cX9_remember 44 = .ok (.isub, 1) ∧ decode cX9_remember 45 = .ok (.putfield 54, 3) ∧ decode cX9_remember 48 = .ok (.iconst 0, 1) ∧ decode cX9_remember 49 = .ok (.istore_n 1, 1) ∧ decode cX9_remember 50 = .ok (.iload_n 1, 1) := by decide +kernel
theorem dX9_remember_35 : decode cX9_remember 35 = .ok (.goto (-24), 3) := DX9_remember_c2.1
theorem dX9_remember_38 : decode cX9_remember 38 = .ok (.aload_n 0, 1) := DX9_remember_c2.2.1
theorem dX9_remember_39 : decode cX9_remember 39 = .ok (.dup, 1) := DX9_remember_c2.2.2.1
theorem dX9_remember_40 : decode cX9_remember 40 = .ok (.getfield 54, 3) := DX9_remember_c2.2.2.2.1
theorem dX9_remember_43 : decode cX9_remember 43 = .ok (.iconst 1, 1) := DX9_remember_c2.2.2.2.2.1
theorem dX9_remember_44 : decode cX9_remember 44 = .ok (.isub, 1) := DX9_remember_c2.2.2.2.2.2.1
theorem dX9_remember_45 : decode cX9_remember 45 = .ok (.putfield 54, 3) := DX9_remember_c2.2.2.2.2.2.2.1
theorem dX9_remember_48 : decode cX9_remember 48 = .ok (.iconst 0, 1) := DX9_remember_c2.2.2.2.2.2.2.2.1
theorem dX9_remember_49 : decode cX9_remember 49 = .ok (.istore_n 1, 1) := DX9_remember_c2.2.2.2.2.2.2.2.2.1
theorem dX9_remember_50 : decode cX9_remember 50 = .ok (.iload_n 1, 1) := DX9_remember_c2.2.2.2.2.2.2.2.2.2
set_option maxRecDepth 100000 in
theorem DX9_remember_c3 : decode cX9_remember 51 = .ok (.bipush 10, 2) ∧ decode cX9_remember 53 = .ok (.if_icmp .ge 29, 3) ∧ decode cX9_remember 56 = .ok (.aload_n 0, 1) ∧ decode cX9_remember 57 = .ok (.getfield 13, 3) ∧ decode cX9_remember 60 = .ok (.bipush 10, 2) ∧ decode cX9_remember 62 = .ok (.aload_n 0, 1) ∧ decode cX9_remember 63 = .ok (.getfield 54, 3) ∧ decode cX9_remember 66 = .ok (.imul, 1) ∧ decode cX9_remember 67 = .ok (.iload_n 1, 1) ∧ decode cX9_remember 68 = .ok (.iadd, 1) := by decide +kernel
theorem dX9_remember_51 : decode cX9_remember 51 = .ok (.bipush 10, 2) := DX9_remember_c3.1
theorem dX9_remember_53 : decode cX9_remember 53 = .ok (.if_icmp .ge 29, 3) := DX9_remember_c3.2.1
theorem dX9_remember_56 : decode cX9_remember 56 = .ok (.aload_n 0, 1) := DX9_remember_c3.2.2.1
theorem dX9_remember_57 : decode cX9_remember 57 = .ok (.getfield 13, 3) := DX9_remember_c3.2.2.2.1
theorem dX9_remember_60 : decode cX9_remember 60 = .ok (.bipush 10, 2) := DX9_remember_c3.2.2.2.2.1
theorem dX9_remember_62 : decode cX9_remember 62 = .ok (.aload_n 0, 1) := DX9_remember_c3.2.2.2.2.2.1
theorem dX9_remember_63 : decode cX9_remember 63 = .ok (.getfield 54, 3) := DX9_remember_c3.2.2.2.2.2.2.1
theorem dX9_remember_66 : decode cX9_remember 66 = .ok (.imul, 1) := DX9_remember_c3.2.2.2.2.2.2.2.1
theorem dX9_remember_67 : decode cX9_remember 67 = .ok (.iload_n 1, 1) := DX9_remember_c3.2.2.2.2.2.2.2.2.1
theorem dX9_remember_68 : decode cX9_remember 68 = .ok (.iadd, 1) := DX9_remember_c3.2.2.2.2.2.2.2.2.2
set_option maxRecDepth 100000 in
theorem DX9_remember_c4 : decode cX9_remember 69 = .ok (.aload_n 0, 1) ∧ decode cX9_remember 70 = .ok (.getfield 7, 3) ∧ decode cX9_remember 73 = .ok (.iload_n 1, 1) ∧ decode cX9_remember 74 = .ok (.iaload, 1) ∧ decode cX9_remember 75 = .ok (.iastore, 1) ∧ decode cX9_remember 76 = .ok (.iinc 1 1, 3) ∧ decode cX9_remember 79 = .ok (.goto (-29), 3) ∧ decode cX9_remember 82 = .ok (.aload_n 0, 1) ∧ decode cX9_remember 83 = .ok (.dup, 1) ∧ decode cX9_remember 84 = .ok (.getfield 54, 3) := by decide +kernel
theorem dX9_remember_69 : decode cX9_remember 69 = .ok (.aload_n 0, 1) := DX9_remember_c4.1
theorem dX9_remember_70 : decode cX9_remember 70 = .ok (.getfield 7, 3) := DX9_remember_c4.2.1
theorem dX9_remember_73 : decode cX9_remember 73 = .ok (.iload_n 1, 1) := DX9_remember_c4.2.2.1
theorem dX9_remember_74 : decode cX9_remember 74 = .ok (.iaload, 1) := DX9_remember_c4.2.2.2.1
theorem dX9_remember_75 : decode cX9_remember 75 = .ok (.iastore, 1) := DX9_remember_c4.2.2.2.2.1
theorem dX9_remember_76 : decode cX9_remember 76 = .ok (.iinc 1 1, 3) := DX9_remember_c4.2.2.2.2.2.1
theorem dX9_remember_79 : decode cX9_remember 79 = .ok (.goto (-29), 3) := DX9_remember_c4.2.2.2.2.2.2.1
theorem dX9_remember_82 : decode cX9_remember 82 = .ok (.aload_n 0, 1) := DX9_remember_c4.2.2.2.2.2.2.2.1
theorem dX9_remember_83 : decode cX9_remember 83 = .ok (.dup, 1) := DX9_remember_c4.2.2.2.2.2.2.2.2.1
theorem dX9_remember_84 : decode cX9_remember 84 = .ok (.getfield 54, 3) := DX9_remember_c4.2.2.2.2.2.2.2.2.2
set_option maxRecDepth 100000 in
theorem DX9_remember_c5 : decode cX9_remember 87 = .ok (.iconst 1, 1) ∧ decode cX9_remember 88 = .ok (.iadd, 1) ∧ decode cX9_remember 89 = .ok (.putfield 54, 3) ∧ decode cX9_remember 92 = .ok (.return_, 1) := by decide +kernel
theorem dX9_remember_87 : decode cX9_remember 87 = .ok (.iconst 1, 1) := DX9_remember_c5.1
theorem dX9_remember_88 : decode cX9_remember 88 = .ok (.iadd, 1) := DX9_remember_c5.2.1
theorem dX9_remember_89 : decode cX9_remember 89 = .ok (.putfield 54, 3) := DX9_remember_c5.2.2.1
theorem dX9_remember_92 : decode cX9_remember 92 = .ok (.return_, 1) := DX9_remember_c5.2.2.2
set_option maxRecDepth 100000 in
theorem DX9_bitOf_c0 : decode cX9_bitOf 0 = .ok (.iload_n 1, 1) ∧ decode cX9_bitOf 1 = .ok (.iload_n 2, 1) ∧ decode cX9_bitOf 2 = .ok (.if_icmp .ge 7, 3) ∧ decode cX9_bitOf 5 = .ok (.iload_n 1, 1) ∧ decode cX9_bitOf 6 = .ok (.goto 4, 3) ∧ decode cX9_bitOf 9 = .ok (.iload_n 2, 1) ∧ decode cX9_bitOf 10 = .ok (.istore_n 3, 1) ∧ decode cX9_bitOf 11 = .ok (.iload_n 1, 1) ∧ decode cX9_bitOf 12 = .ok (.iload_n 2, 1) ∧ decode cX9_bitOf 13 = .ok (.if_icmp .ge 7, 3) := by decide +kernel
theorem dX9_bitOf_0 : decode cX9_bitOf 0 = .ok (.iload_n 1, 1) := DX9_bitOf_c0.1
theorem dX9_bitOf_1 : decode cX9_bitOf 1 = .ok (.iload_n 2, 1) := DX9_bitOf_c0.2.1
theorem dX9_bitOf_2 : decode cX9_bitOf 2 = .ok (.if_icmp .ge 7, 3) := DX9_bitOf_c0.2.2.1
theorem dX9_bitOf_5 : decode cX9_bitOf 5 = .ok (.iload_n 1, 1) := DX9_bitOf_c0.2.2.2.1
theorem dX9_bitOf_6 : decode cX9_bitOf 6 = .ok (.goto 4, 3) := DX9_bitOf_c0.2.2.2.2.1
theorem dX9_bitOf_9 : decode cX9_bitOf 9 = .ok (.iload_n 2, 1) := DX9_bitOf_c0.2.2.2.2.2.1
theorem dX9_bitOf_10 : decode cX9_bitOf 10 = .ok (.istore_n 3, 1) := DX9_bitOf_c0.2.2.2.2.2.2.1
theorem dX9_bitOf_11 : decode cX9_bitOf 11 = .ok (.iload_n 1, 1) := DX9_bitOf_c0.2.2.2.2.2.2.2.1
theorem dX9_bitOf_12 : decode cX9_bitOf 12 = .ok (.iload_n 2, 1) := DX9_bitOf_c0.2.2.2.2.2.2.2.2.1
theorem dX9_bitOf_13 : decode cX9_bitOf 13 = .ok (.if_icmp .ge 7, 3) := DX9_bitOf_c0.2.2.2.2.2.2.2.2.2
set_option maxRecDepth 100000 in
theorem DX9_bitOf_c1 : decode cX9_bitOf 16 = .ok (.iload_n 2, 1) ∧ decode cX9_bitOf 17 = .ok (.goto 4, 3) ∧ decode cX9_bitOf 20 = .ok (.iload_n 1, 1) ∧ decode cX9_bitOf 21 = .ok (.istore 4, 2) ∧ decode cX9_bitOf 23 = .ok (.iload_n 0, 1) ∧ decode cX9_bitOf 24 = .ok (.invokestatic 58, 3) ∧ decode cX9_bitOf 27 = .ok (.iconst 1, 1) ∧ decode cX9_bitOf 28 = .ok (.isub, 1) ∧ decode cX9_bitOf 29 = .ok (.iload 4, 2) ∧ decode cX9_bitOf 31 = .ok (.invokestatic 58, 3) := by decide +kernel
theorem dX9_bitOf_16 : decode cX9_bitOf 16 = .ok (.iload_n 2, 1) := DX9_bitOf_c1.1
theorem dX9_bitOf_17 : decode cX9_bitOf 17 = .ok (.goto 4, 3) := DX9_bitOf_c1.2.1
theorem dX9_bitOf_20 : decode cX9_bitOf 20 = .ok (.iload_n 1, 1) := DX9_bitOf_c1.2.2.1
theorem dX9_bitOf_21 : decode cX9_bitOf 21 = .ok (.istore 4, 2) := DX9_bitOf_c1.2.2.2.1
theorem dX9_bitOf_23 : decode cX9_bitOf 23 = .ok (.iload_n 0, 1) := DX9_bitOf_c1.2.2.2.2.1
theorem dX9_bitOf_24 : decode cX9_bitOf 24 = .ok (.invokestatic 58, 3) := DX9_bitOf_c1.2.2.2.2.2.1
theorem dX9_bitOf_27 : decode cX9_bitOf 27 = .ok (.iconst 1, 1) := DX9_bitOf_c1.2.2.2.2.2.2.1
theorem dX9_bitOf_28 : decode cX9_bitOf 28 = .ok (.isub, 1) := DX9_bitOf_c1.2.2.2.2.2.2.2.1
theorem dX9_bitOf_29 : decode cX9_bitOf 29 = .ok (.iload 4, 2) := DX9_bitOf_c1.2.2.2.2.2.2.2.2.1
theorem dX9_bitOf_31 : decode cX9_bitOf 31 = .ok (.invokestatic 58, 3) := DX9_bitOf_c1.2.2.2.2.2.2.2.2.2
set_option maxRecDepth 100000 in
theorem DX9_bitOf_c2 : decode cX9_bitOf 34 = .ok (.isub, 1) ∧ decode cX9_bitOf 35 = .ok (.iload_n 3, 1) ∧ decode cX9_bitOf 36 = .ok (.isub, 1) ∧ decode cX9_bitOf 37 = .ok (.ireturn, 1) := by decide +kernel
theorem dX9_bitOf_34 : decode cX9_bitOf 34 = .ok (.isub, 1) := DX9_bitOf_c2.1
theorem dX9_bitOf_35 : decode cX9_bitOf 35 = .ok (.iload_n 3, 1) := DX9_bitOf_c2.2.1
theorem dX9_bitOf_36 : decode cX9_bitOf 36 = .ok (.isub, 1) := DX9_bitOf_c2.2.2.1
theorem dX9_bitOf_37 : decode cX9_bitOf 37 = .ok (.ireturn, 1) := DX9_bitOf_c2.2.2.2
set_option maxRecDepth 100000 in
theorem DX9_isEdge_c0 : decode cX9_isEdge 0 = .ok (.iload_n 2, 1) ∧ decode cX9_isEdge 1 = .ok (.iload_n 3, 1) ∧ decode cX9_isEdge 2 = .ok (.if_icmp .ne 7, 3) ∧ decode cX9_isEdge 5 = .ok (.iconst 0, 1) ∧ decode cX9_isEdge 6 = .ok (.goto 13, 3) ∧ decode cX9_isEdge 9 = .ok (.iload_n 1, 1) ∧ decode cX9_isEdge 10 = .ok (.iload_n 0, 1) ∧ decode cX9_isEdge 11 = .ok (.iload_n 2, 1) ∧ decode cX9_isEdge 12 = .ok (.iload_n 3, 1) ∧ decode cX9_isEdge 13 = .ok (.invokestatic 62, 3) := by decide +kernel
theorem dX9_isEdge_0 : decode cX9_isEdge 0 = .ok (.iload_n 2, 1) := DX9_isEdge_c0.1
theorem dX9_isEdge_1 : decode cX9_isEdge 1 = .ok (.iload_n 3, 1) := DX9_isEdge_c0.2.1
theorem dX9_isEdge_2 : decode cX9_isEdge 2 = .ok (.if_icmp .ne 7, 3) := DX9_isEdge_c0.2.2.1
theorem dX9_isEdge_5 : decode cX9_isEdge 5 = .ok (.iconst 0, 1) := DX9_isEdge_c0.2.2.2.1
theorem dX9_isEdge_6 : decode cX9_isEdge 6 = .ok (.goto 13, 3) := DX9_isEdge_c0.2.2.2.2.1
theorem dX9_isEdge_9 : decode cX9_isEdge 9 = .ok (.iload_n 1, 1) := DX9_isEdge_c0.2.2.2.2.2.1
theorem dX9_isEdge_10 : decode cX9_isEdge 10 = .ok (.iload_n 0, 1) := DX9_isEdge_c0.2.2.2.2.2.2.1
theorem dX9_isEdge_11 : decode cX9_isEdge 11 = .ok (.iload_n 2, 1) := DX9_isEdge_c0.2.2.2.2.2.2.2.1
theorem dX9_isEdge_12 : decode cX9_isEdge 12 = .ok (.iload_n 3, 1) := DX9_isEdge_c0.2.2.2.2.2.2.2.2.1
theorem dX9_isEdge_13 : decode cX9_isEdge 13 = .ok (.invokestatic 62, 3) := DX9_isEdge_c0.2.2.2.2.2.2.2.2.2
set_option maxRecDepth 100000 in
theorem DX9_isEdge_c1 : decode cX9_isEdge 16 = .ok (.ishr, 1) ∧ decode cX9_isEdge 17 = .ok (.iconst 1, 1) ∧ decode cX9_isEdge 18 = .ok (.iand, 1) ∧ decode cX9_isEdge 19 = .ok (.ireturn, 1) := by decide +kernel
theorem dX9_isEdge_16 : decode cX9_isEdge 16 = .ok (.ishr, 1) := DX9_isEdge_c1.1
theorem dX9_isEdge_17 : decode cX9_isEdge 17 = .ok (.iconst 1, 1) := DX9_isEdge_c1.2.1
theorem dX9_isEdge_18 : decode cX9_isEdge 18 = .ok (.iand, 1) := DX9_isEdge_c1.2.2.1
theorem dX9_isEdge_19 : decode cX9_isEdge 19 = .ok (.ireturn, 1) := DX9_isEdge_c1.2.2.2
set_option maxRecDepth 100000 in
theorem DX9_bits_c0 : decode cX9_bits 0 = .ok (.iconst 0, 1) ∧ decode cX9_bits 1 = .ok (.istore_n 1, 1) ∧ decode cX9_bits 2 = .ok (.iconst 0, 1) ∧ decode cX9_bits 3 = .ok (.istore_n 2, 1) ∧ decode cX9_bits 4 = .ok (.iload_n 2, 1) ∧ decode cX9_bits 5 = .ok (.bipush 30, 2) ∧ decode cX9_bits 7 = .ok (.if_icmp .ge 17, 3) ∧ decode cX9_bits 10 = .ok (.iload_n 1, 1) ∧ decode cX9_bits 11 = .ok (.iload_n 0, 1) ∧ decode cX9_bits 12 = .ok (.iload_n 2, 1) := by decide +kernel
theorem dX9_bits_0 : decode cX9_bits 0 = .ok (.iconst 0, 1) := DX9_bits_c0.1
theorem dX9_bits_1 : decode cX9_bits 1 = .ok (.istore_n 1, 1) := DX9_bits_c0.2.1
theorem dX9_bits_2 : decode cX9_bits 2 = .ok (.iconst 0, 1) := DX9_bits_c0.2.2.1
theorem dX9_bits_3 : decode cX9_bits 3 = .ok (.istore_n 2, 1) := DX9_bits_c0.2.2.2.1
theorem dX9_bits_4 : decode cX9_bits 4 = .ok (.iload_n 2, 1) := DX9_bits_c0.2.2.2.2.1
theorem dX9_bits_5 : decode cX9_bits 5 = .ok (.bipush 30, 2) := DX9_bits_c0.2.2.2.2.2.1
theorem dX9_bits_7 : decode cX9_bits 7 = .ok (.if_icmp .ge 17, 3) := DX9_bits_c0.2.2.2.2.2.2.1
theorem dX9_bits_10 : decode cX9_bits 10 = .ok (.iload_n 1, 1) := DX9_bits_c0.2.2.2.2.2.2.2.1
theorem dX9_bits_11 : decode cX9_bits 11 = .ok (.iload_n 0, 1) := DX9_bits_c0.2.2.2.2.2.2.2.2.1
theorem dX9_bits_12 : decode cX9_bits 12 = .ok (.iload_n 2, 1) := DX9_bits_c0.2.2.2.2.2.2.2.2.2
set_option maxRecDepth 100000 in
theorem DX9_bits_c1 : decode cX9_bits 13 = .ok (.ishr, 1) ∧ decode cX9_bits 14 = .ok (.iconst 1, 1) ∧ decode cX9_bits 15 = .ok (.iand, 1) ∧ decode cX9_bits 16 = .ok (.iadd, 1) ∧ decode cX9_bits 17 = .ok (.istore_n 1, 1) ∧ decode cX9_bits 18 = .ok (.iinc 2 1, 3) ∧ decode cX9_bits 21 = .ok (.goto (-17), 3) ∧ decode cX9_bits 24 = .ok (.iload_n 1, 1) ∧ decode cX9_bits 25 = .ok (.ireturn, 1) := by decide +kernel
theorem dX9_bits_13 : decode cX9_bits 13 = .ok (.ishr, 1) := DX9_bits_c1.1
theorem dX9_bits_14 : decode cX9_bits 14 = .ok (.iconst 1, 1) := DX9_bits_c1.2.1
theorem dX9_bits_15 : decode cX9_bits 15 = .ok (.iand, 1) := DX9_bits_c1.2.2.1
theorem dX9_bits_16 : decode cX9_bits 16 = .ok (.iadd, 1) := DX9_bits_c1.2.2.2.1
theorem dX9_bits_17 : decode cX9_bits 17 = .ok (.istore_n 1, 1) := DX9_bits_c1.2.2.2.2.1
theorem dX9_bits_18 : decode cX9_bits 18 = .ok (.iinc 2 1, 3) := DX9_bits_c1.2.2.2.2.2.1
theorem dX9_bits_21 : decode cX9_bits 21 = .ok (.goto (-17), 3) := DX9_bits_c1.2.2.2.2.2.2.1
theorem dX9_bits_24 : decode cX9_bits 24 = .ok (.iload_n 1, 1) := DX9_bits_c1.2.2.2.2.2.2.2.1
theorem dX9_bits_25 : decode cX9_bits 25 = .ok (.ireturn, 1) := DX9_bits_c1.2.2.2.2.2.2.2.2
set_option maxRecDepth 100000 in
theorem DX9_neighbours_c0 : decode cX9_neighbours 0 = .ok (.iconst 0, 1) ∧ decode cX9_neighbours 1 = .ok (.istore_n 3, 1) ∧ decode cX9_neighbours 2 = .ok (.iconst 0, 1) ∧ decode cX9_neighbours 3 = .ok (.istore 4, 2) ∧ decode cX9_neighbours 5 = .ok (.iload 4, 2) ∧ decode cX9_neighbours 7 = .ok (.iload_n 0, 1) ∧ decode cX9_neighbours 8 = .ok (.if_icmp .ge 23, 3) ∧ decode cX9_neighbours 11 = .ok (.iload_n 3, 1) ∧ decode cX9_neighbours 12 = .ok (.iload_n 0, 1) ∧ decode cX9_neighbours 13 = .ok (.iload_n 1, 1) := by decide +kernel
theorem dX9_neighbours_0 : decode cX9_neighbours 0 = .ok (.iconst 0, 1) := DX9_neighbours_c0.1
theorem dX9_neighbours_1 : decode cX9_neighbours 1 = .ok (.istore_n 3, 1) := DX9_neighbours_c0.2.1
theorem dX9_neighbours_2 : decode cX9_neighbours 2 = .ok (.iconst 0, 1) := DX9_neighbours_c0.2.2.1
theorem dX9_neighbours_3 : decode cX9_neighbours 3 = .ok (.istore 4, 2) := DX9_neighbours_c0.2.2.2.1
theorem dX9_neighbours_5 : decode cX9_neighbours 5 = .ok (.iload 4, 2) := DX9_neighbours_c0.2.2.2.2.1
theorem dX9_neighbours_7 : decode cX9_neighbours 7 = .ok (.iload_n 0, 1) := DX9_neighbours_c0.2.2.2.2.2.1
theorem dX9_neighbours_8 : decode cX9_neighbours 8 = .ok (.if_icmp .ge 23, 3) := DX9_neighbours_c0.2.2.2.2.2.2.1
theorem dX9_neighbours_11 : decode cX9_neighbours 11 = .ok (.iload_n 3, 1) := DX9_neighbours_c0.2.2.2.2.2.2.2.1
theorem dX9_neighbours_12 : decode cX9_neighbours 12 = .ok (.iload_n 0, 1) := DX9_neighbours_c0.2.2.2.2.2.2.2.2.1
theorem dX9_neighbours_13 : decode cX9_neighbours 13 = .ok (.iload_n 1, 1) := DX9_neighbours_c0.2.2.2.2.2.2.2.2.2
set_option maxRecDepth 100000 in
theorem DX9_neighbours_c1 : decode cX9_neighbours 14 = .ok (.iload 4, 2) ∧ decode cX9_neighbours 16 = .ok (.iload_n 2, 1) ∧ decode cX9_neighbours 17 = .ok (.invokestatic 66, 3) ∧ decode cX9_neighbours 20 = .ok (.iload 4, 2) ∧ decode cX9_neighbours 22 = .ok (.ishl, 1) ∧ decode cX9_neighbours 23 = .ok (.ior, 1) ∧ decode cX9_neighbours 24 = .ok (.istore_n 3, 1) ∧ decode cX9_neighbours 25 = .ok (.iinc 4 1, 3) ∧ decode cX9_neighbours 28 = .ok (.goto (-23), 3) ∧ decode cX9_neighbours 31 = .ok (.iload_n 3, 1) := by decide +kernel
theorem dX9_neighbours_14 : decode cX9_neighbours 14 = .ok (.iload 4, 2) := DX9_neighbours_c1.1
theorem dX9_neighbours_16 : decode cX9_neighbours 16 = .ok (.iload_n 2, 1) := DX9_neighbours_c1.2.1
theorem dX9_neighbours_17 : decode cX9_neighbours 17 = .ok (.invokestatic 66, 3) := DX9_neighbours_c1.2.2.1
theorem dX9_neighbours_20 : decode cX9_neighbours 20 = .ok (.iload 4, 2) := DX9_neighbours_c1.2.2.2.1
theorem dX9_neighbours_22 : decode cX9_neighbours 22 = .ok (.ishl, 1) := DX9_neighbours_c1.2.2.2.2.1
theorem dX9_neighbours_23 : decode cX9_neighbours 23 = .ok (.ior, 1) := DX9_neighbours_c1.2.2.2.2.2.1
theorem dX9_neighbours_24 : decode cX9_neighbours 24 = .ok (.istore_n 3, 1) := DX9_neighbours_c1.2.2.2.2.2.2.1
theorem dX9_neighbours_25 : decode cX9_neighbours 25 = .ok (.iinc 4 1, 3) := DX9_neighbours_c1.2.2.2.2.2.2.2.1
theorem dX9_neighbours_28 : decode cX9_neighbours 28 = .ok (.goto (-23), 3) := DX9_neighbours_c1.2.2.2.2.2.2.2.2.1
theorem dX9_neighbours_31 : decode cX9_neighbours 31 = .ok (.iload_n 3, 1) := DX9_neighbours_c1.2.2.2.2.2.2.2.2.2
set_option maxRecDepth 100000 in
theorem DX9_neighbours_c2 : decode cX9_neighbours 32 = .ok (.ireturn, 1) := by decide +kernel
theorem dX9_neighbours_32 : decode cX9_neighbours 32 = .ok (.ireturn, 1) := DX9_neighbours_c2
set_option maxRecDepth 100000 in
theorem DX9_begin_c0 : decode cX9_begin 0 = .ok (.iload_n 1, 1) ∧ decode cX9_begin 1 = .ok (.iconst 1, 1) ∧ decode cX9_begin 2 = .ok (.bipush 8, 2) ∧ decode cX9_begin 4 = .ok (.invokestatic 50, 3) ∧ decode cX9_begin 7 = .ok (.ifCond .ne 5, 3) ∧ decode cX9_begin 10 = .ok (.iconst (-1), 1) ∧ decode cX9_begin 11 = .ok (.ireturn, 1) ∧ decode cX9_begin 12 = .ok (.aload_n 0, 1) ∧ decode cX9_begin 13 = .ok (.invokevirtual 70, 3) ∧ decode cX9_begin 16 = .ok (.aload_n 0, 1) := by decide +kernel
theorem dX9_begin_0 : decode cX9_begin 0 = .ok (.iload_n 1, 1) := DX9_begin_c0.1
theorem dX9_begin_1 : decode cX9_begin 1 = .ok (.iconst 1, 1) := DX9_begin_c0.2.1
theorem dX9_begin_2 : decode cX9_begin 2 = .ok (.bipush 8, 2) := DX9_begin_c0.2.2.1
theorem dX9_begin_4 : decode cX9_begin 4 = .ok (.invokestatic 50, 3) := DX9_begin_c0.2.2.2.1
theorem dX9_begin_7 : decode cX9_begin 7 = .ok (.ifCond .ne 5, 3) := DX9_begin_c0.2.2.2.2.1
theorem dX9_begin_10 : decode cX9_begin 10 = .ok (.iconst (-1), 1) := DX9_begin_c0.2.2.2.2.2.1
theorem dX9_begin_11 : decode cX9_begin 11 = .ok (.ireturn, 1) := DX9_begin_c0.2.2.2.2.2.2.1
theorem dX9_begin_12 : decode cX9_begin 12 = .ok (.aload_n 0, 1) := DX9_begin_c0.2.2.2.2.2.2.2.1
theorem dX9_begin_13 : decode cX9_begin 13 = .ok (.invokevirtual 70, 3) := DX9_begin_c0.2.2.2.2.2.2.2.2.1
theorem dX9_begin_16 : decode cX9_begin 16 = .ok (.aload_n 0, 1) := DX9_begin_c0.2.2.2.2.2.2.2.2.2
set_option maxRecDepth 100000 in
theorem DX9_begin_c1 : decode cX9_begin 17 = .ok (.getfield 7, 3) ∧ decode cX9_begin 20 = .ok (.iconst 0, 1) ∧ decode cX9_begin 21 = .ok (.iaload, 1) ∧ decode cX9_begin 22 = .ok (.istore_n 2, 1) ∧ decode cX9_begin 23 = .ok (.aload_n 0, 1) ∧ decode cX9_begin 24 = .ok (.getfield 7, 3) ∧ decode cX9_begin 27 = .ok (.iconst 0, 1) ∧ decode cX9_begin 28 = .ok (.iload_n 1, 1) ∧ decode cX9_begin 29 = .ok (.iastore, 1) ∧ decode cX9_begin 30 = .ok (.aload_n 0, 1) := by decide +kernel
theorem dX9_begin_17 : decode cX9_begin 17 = .ok (.getfield 7, 3) := DX9_begin_c1.1
theorem dX9_begin_20 : decode cX9_begin 20 = .ok (.iconst 0, 1) := DX9_begin_c1.2.1
theorem dX9_begin_21 : decode cX9_begin 21 = .ok (.iaload, 1) := DX9_begin_c1.2.2.1
theorem dX9_begin_22 : decode cX9_begin 22 = .ok (.istore_n 2, 1) := DX9_begin_c1.2.2.2.1
theorem dX9_begin_23 : decode cX9_begin 23 = .ok (.aload_n 0, 1) := DX9_begin_c1.2.2.2.2.1
theorem dX9_begin_24 : decode cX9_begin 24 = .ok (.getfield 7, 3) := DX9_begin_c1.2.2.2.2.2.1
theorem dX9_begin_27 : decode cX9_begin 27 = .ok (.iconst 0, 1) := DX9_begin_c1.2.2.2.2.2.2.1
theorem dX9_begin_28 : decode cX9_begin 28 = .ok (.iload_n 1, 1) := DX9_begin_c1.2.2.2.2.2.2.2.1
theorem dX9_begin_29 : decode cX9_begin 29 = .ok (.iastore, 1) := DX9_begin_c1.2.2.2.2.2.2.2.2.1
theorem dX9_begin_30 : decode cX9_begin 30 = .ok (.aload_n 0, 1) := DX9_begin_c1.2.2.2.2.2.2.2.2.2
set_option maxRecDepth 100000 in
theorem DX9_begin_c2 : decode cX9_begin 31 = .ok (.getfield 7, 3) ∧ decode cX9_begin 34 = .ok (.iconst 1, 1) ∧ decode cX9_begin 35 = .ok (.iconst 0, 1) ∧ decode cX9_begin 36 = .ok (.iastore, 1) ∧ decode cX9_begin 37 = .ok (.iload_n 2, 1) ∧ decode cX9_begin 38 = .ok (.ireturn, 1) := by decide +kernel
theorem dX9_begin_31 : decode cX9_begin 31 = .ok (.getfield 7, 3) := DX9_begin_c2.1
theorem dX9_begin_34 : decode cX9_begin 34 = .ok (.iconst 1, 1) := DX9_begin_c2.2.1
theorem dX9_begin_35 : decode cX9_begin 35 = .ok (.iconst 0, 1) := DX9_begin_c2.2.2.1
theorem dX9_begin_36 : decode cX9_begin 36 = .ok (.iastore, 1) := DX9_begin_c2.2.2.2.1
theorem dX9_begin_37 : decode cX9_begin 37 = .ok (.iload_n 2, 1) := DX9_begin_c2.2.2.2.2.1
theorem dX9_begin_38 : decode cX9_begin 38 = .ok (.ireturn, 1) := DX9_begin_c2.2.2.2.2.2
set_option maxRecDepth 100000 in
theorem DX9_edge_c0 : decode cX9_edge 0 = .ok (.aload_n 0, 1) ∧ decode cX9_edge 1 = .ok (.iload_n 1, 1) ∧ decode cX9_edge 2 = .ok (.invokevirtual 73, 3) ∧ decode cX9_edge 5 = .ok (.ifCond .eq 25, 3) ∧ decode cX9_edge 8 = .ok (.aload_n 0, 1) ∧ decode cX9_edge 9 = .ok (.iload_n 2, 1) ∧ decode cX9_edge 10 = .ok (.invokevirtual 73, 3) ∧ decode cX9_edge 13 = .ok (.ifCond .eq 17, 3) ∧ decode cX9_edge 16 = .ok (.iload_n 1, 1) ∧ decode cX9_edge 17 = .ok (.iload_n 2, 1) := by decide +kernel
theorem dX9_edge_0 : decode cX9_edge 0 = .ok (.aload_n 0, 1) := DX9_edge_c0.1
theorem dX9_edge_1 : decode cX9_edge 1 = .ok (.iload_n 1, 1) := DX9_edge_c0.2.1
theorem dX9_edge_2 : decode cX9_edge 2 = .ok (.invokevirtual 73, 3) := DX9_edge_c0.2.2.1
theorem dX9_edge_5 : decode cX9_edge 5 = .ok (.ifCond .eq 25, 3) := DX9_edge_c0.2.2.2.1
theorem dX9_edge_8 : decode cX9_edge 8 = .ok (.aload_n 0, 1) := DX9_edge_c0.2.2.2.2.1
theorem dX9_edge_9 : decode cX9_edge 9 = .ok (.iload_n 2, 1) := DX9_edge_c0.2.2.2.2.2.1
theorem dX9_edge_10 : decode cX9_edge 10 = .ok (.invokevirtual 73, 3) := DX9_edge_c0.2.2.2.2.2.2.1
theorem dX9_edge_13 : decode cX9_edge 13 = .ok (.ifCond .eq 17, 3) := DX9_edge_c0.2.2.2.2.2.2.2.1
theorem dX9_edge_16 : decode cX9_edge 16 = .ok (.iload_n 1, 1) := DX9_edge_c0.2.2.2.2.2.2.2.2.1
theorem dX9_edge_17 : decode cX9_edge 17 = .ok (.iload_n 2, 1) := DX9_edge_c0.2.2.2.2.2.2.2.2.2
set_option maxRecDepth 100000 in
theorem DX9_edge_c1 : decode cX9_edge 18 = .ok (.if_icmp .eq 12, 3) ∧ decode cX9_edge 21 = .ok (.iload_n 3, 1) ∧ decode cX9_edge 22 = .ok (.iconst 0, 1) ∧ decode cX9_edge 23 = .ok (.iconst 1, 1) ∧ decode cX9_edge 24 = .ok (.invokestatic 50, 3) ∧ decode cX9_edge 27 = .ok (.ifCond .ne 5, 3) ∧ decode cX9_edge 30 = .ok (.iconst (-1), 1) ∧ decode cX9_edge 31 = .ok (.ireturn, 1) ∧ decode cX9_edge 32 = .ok (.aload_n 0, 1) ∧ decode cX9_edge 33 = .ok (.invokevirtual 70, 3) := by decide +kernel
theorem dX9_edge_18 : decode cX9_edge 18 = .ok (.if_icmp .eq 12, 3) := DX9_edge_c1.1
theorem dX9_edge_21 : decode cX9_edge 21 = .ok (.iload_n 3, 1) := DX9_edge_c1.2.1
theorem dX9_edge_22 : decode cX9_edge 22 = .ok (.iconst 0, 1) := DX9_edge_c1.2.2.1
theorem dX9_edge_23 : decode cX9_edge 23 = .ok (.iconst 1, 1) := DX9_edge_c1.2.2.2.1
theorem dX9_edge_24 : decode cX9_edge 24 = .ok (.invokestatic 50, 3) := DX9_edge_c1.2.2.2.2.1
theorem dX9_edge_27 : decode cX9_edge 27 = .ok (.ifCond .ne 5, 3) := DX9_edge_c1.2.2.2.2.2.1
theorem dX9_edge_30 : decode cX9_edge 30 = .ok (.iconst (-1), 1) := DX9_edge_c1.2.2.2.2.2.2.1
theorem dX9_edge_31 : decode cX9_edge 31 = .ok (.ireturn, 1) := DX9_edge_c1.2.2.2.2.2.2.2.1
theorem dX9_edge_32 : decode cX9_edge 32 = .ok (.aload_n 0, 1) := DX9_edge_c1.2.2.2.2.2.2.2.2.1
theorem dX9_edge_33 : decode cX9_edge 33 = .ok (.invokevirtual 70, 3) := DX9_edge_c1.2.2.2.2.2.2.2.2.2
set_option maxRecDepth 100000 in
theorem DX9_edge_c2 : decode cX9_edge 36 = .ok (.aload_n 0, 1) ∧ decode cX9_edge 37 = .ok (.getfield 7, 3) ∧ decode cX9_edge 40 = .ok (.iconst 0, 1) ∧ decode cX9_edge 41 = .ok (.iaload, 1) ∧ decode cX9_edge 42 = .ok (.iload_n 1, 1) ∧ decode cX9_edge 43 = .ok (.iload_n 2, 1) ∧ decode cX9_edge 44 = .ok (.invokestatic 62, 3) ∧ decode cX9_edge 47 = .ok (.istore 4, 2) ∧ decode cX9_edge 49 = .ok (.aload_n 0, 1) ∧ decode cX9_edge 50 = .ok (.getfield 7, 3) := by decide +kernel
theorem dX9_edge_36 : decode cX9_edge 36 = .ok (.aload_n 0, 1) := DX9_edge_c2.1
theorem dX9_edge_37 : decode cX9_edge 37 = .ok (.getfield 7, 3) := DX9_edge_c2.2.1
theorem dX9_edge_40 : decode cX9_edge 40 = .ok (.iconst 0, 1) := DX9_edge_c2.2.2.1
theorem dX9_edge_41 : decode cX9_edge 41 = .ok (.iaload, 1) := DX9_edge_c2.2.2.2.1
theorem dX9_edge_42 : decode cX9_edge 42 = .ok (.iload_n 1, 1) := DX9_edge_c2.2.2.2.2.1
theorem dX9_edge_43 : decode cX9_edge 43 = .ok (.iload_n 2, 1) := DX9_edge_c2.2.2.2.2.2.1
theorem dX9_edge_44 : decode cX9_edge 44 = .ok (.invokestatic 62, 3) := DX9_edge_c2.2.2.2.2.2.2.1
theorem dX9_edge_47 : decode cX9_edge 47 = .ok (.istore 4, 2) := DX9_edge_c2.2.2.2.2.2.2.2.1
theorem dX9_edge_49 : decode cX9_edge 49 = .ok (.aload_n 0, 1) := DX9_edge_c2.2.2.2.2.2.2.2.2.1
theorem dX9_edge_50 : decode cX9_edge 50 = .ok (.getfield 7, 3) := DX9_edge_c2.2.2.2.2.2.2.2.2.2
set_option maxRecDepth 100000 in
theorem DX9_edge_c3 : decode cX9_edge 53 = .ok (.iconst 1, 1) ∧ decode cX9_edge 54 = .ok (.iaload, 1) ∧ decode cX9_edge 55 = .ok (.iload 4, 2) ∧ decode cX9_edge 57 = .ok (.ishr, 1) ∧ decode cX9_edge 58 = .ok (.iconst 1, 1) ∧ decode cX9_edge 59 = .ok (.iand, 1) ∧ decode cX9_edge 60 = .ok (.istore 5, 2) ∧ decode cX9_edge 62 = .ok (.aload_n 0, 1) ∧ decode cX9_edge 63 = .ok (.getfield 7, 3) ∧ decode cX9_edge 66 = .ok (.iconst 1, 1) := by decide +kernel
theorem dX9_edge_53 : decode cX9_edge 53 = .ok (.iconst 1, 1) := DX9_edge_c3.1
theorem dX9_edge_54 : decode cX9_edge 54 = .ok (.iaload, 1) := DX9_edge_c3.2.1
theorem dX9_edge_55 : decode cX9_edge 55 = .ok (.iload 4, 2) := DX9_edge_c3.2.2.1
theorem dX9_edge_57 : decode cX9_edge 57 = .ok (.ishr, 1) := DX9_edge_c3.2.2.2.1
theorem dX9_edge_58 : decode cX9_edge 58 = .ok (.iconst 1, 1) := DX9_edge_c3.2.2.2.2.1
theorem dX9_edge_59 : decode cX9_edge 59 = .ok (.iand, 1) := DX9_edge_c3.2.2.2.2.2.1
theorem dX9_edge_60 : decode cX9_edge 60 = .ok (.istore 5, 2) := DX9_edge_c3.2.2.2.2.2.2.1
theorem dX9_edge_62 : decode cX9_edge 62 = .ok (.aload_n 0, 1) := DX9_edge_c3.2.2.2.2.2.2.2.1
theorem dX9_edge_63 : decode cX9_edge 63 = .ok (.getfield 7, 3) := DX9_edge_c3.2.2.2.2.2.2.2.2.1
theorem dX9_edge_66 : decode cX9_edge 66 = .ok (.iconst 1, 1) := DX9_edge_c3.2.2.2.2.2.2.2.2.2
set_option maxRecDepth 100000 in
theorem DX9_edge_c4 : decode cX9_edge 67 = .ok (.aload_n 0, 1) ∧ decode cX9_edge 68 = .ok (.getfield 7, 3) ∧ decode cX9_edge 71 = .ok (.iconst 1, 1) ∧ decode cX9_edge 72 = .ok (.iaload, 1) ∧ decode cX9_edge 73 = .ok (.iconst 1, 1) ∧ decode cX9_edge 74 = .ok (.iload 4, 2) ∧ decode cX9_edge 76 = .ok (.ishl, 1) ∧ decode cX9_edge 77 = .ok (.iconst (-1), 1) ∧ decode cX9_edge 78 = .ok (.ixor, 1) ∧ decode cX9_edge 79 = .ok (.iand, 1) := by decide +kernel
theorem dX9_edge_67 : decode cX9_edge 67 = .ok (.aload_n 0, 1) := DX9_edge_c4.1
theorem dX9_edge_68 : decode cX9_edge 68 = .ok (.getfield 7, 3) := DX9_edge_c4.2.1
theorem dX9_edge_71 : decode cX9_edge 71 = .ok (.iconst 1, 1) := DX9_edge_c4.2.2.1
theorem dX9_edge_72 : decode cX9_edge 72 = .ok (.iaload, 1) := DX9_edge_c4.2.2.2.1
theorem dX9_edge_73 : decode cX9_edge 73 = .ok (.iconst 1, 1) := DX9_edge_c4.2.2.2.2.1
theorem dX9_edge_74 : decode cX9_edge 74 = .ok (.iload 4, 2) := DX9_edge_c4.2.2.2.2.2.1
theorem dX9_edge_76 : decode cX9_edge 76 = .ok (.ishl, 1) := DX9_edge_c4.2.2.2.2.2.2.1
theorem dX9_edge_77 : decode cX9_edge 77 = .ok (.iconst (-1), 1) := DX9_edge_c4.2.2.2.2.2.2.2.1
theorem dX9_edge_78 : decode cX9_edge 78 = .ok (.ixor, 1) := DX9_edge_c4.2.2.2.2.2.2.2.2.1
theorem dX9_edge_79 : decode cX9_edge 79 = .ok (.iand, 1) := DX9_edge_c4.2.2.2.2.2.2.2.2.2
set_option maxRecDepth 100000 in
theorem DX9_edge_c5 : decode cX9_edge 80 = .ok (.iload_n 3, 1) ∧ decode cX9_edge 81 = .ok (.iload 4, 2) ∧ decode cX9_edge 83 = .ok (.ishl, 1) ∧ decode cX9_edge 84 = .ok (.ior, 1) ∧ decode cX9_edge 85 = .ok (.iastore, 1) ∧ decode cX9_edge 86 = .ok (.iload 5, 2) ∧ decode cX9_edge 88 = .ok (.ireturn, 1) := by decide +kernel
theorem dX9_edge_80 : decode cX9_edge 80 = .ok (.iload_n 3, 1) := DX9_edge_c5.1
theorem dX9_edge_81 : decode cX9_edge 81 = .ok (.iload 4, 2) := DX9_edge_c5.2.1
theorem dX9_edge_83 : decode cX9_edge 83 = .ok (.ishl, 1) := DX9_edge_c5.2.2.1
theorem dX9_edge_84 : decode cX9_edge 84 = .ok (.ior, 1) := DX9_edge_c5.2.2.2.1
theorem dX9_edge_85 : decode cX9_edge 85 = .ok (.iastore, 1) := DX9_edge_c5.2.2.2.2.1
theorem dX9_edge_86 : decode cX9_edge 86 = .ok (.iload 5, 2) := DX9_edge_c5.2.2.2.2.2.1
theorem dX9_edge_88 : decode cX9_edge 88 = .ok (.ireturn, 1) := DX9_edge_c5.2.2.2.2.2.2
set_option maxRecDepth 100000 in
theorem DX9_become_c0 : decode cX9_become 0 = .ok (.iload_n 1, 1) ∧ decode cX9_become 1 = .ok (.ifCond .lt 18, 3) ∧ decode cX9_become 4 = .ok (.iload_n 1, 1) ∧ decode cX9_become 5 = .ok (.iconst 1, 1) ∧ decode cX9_become 6 = .ok (.aload_n 0, 1) ∧ decode cX9_become 7 = .ok (.getfield 7, 3) ∧ decode cX9_become 10 = .ok (.iconst 0, 1) ∧ decode cX9_become 11 = .ok (.iaload, 1) ∧ decode cX9_become 12 = .ok (.invokestatic 58, 3) ∧ decode cX9_become 15 = .ok (.ishl, 1) := by decide +kernel
theorem dX9_become_0 : decode cX9_become 0 = .ok (.iload_n 1, 1) := DX9_become_c0.1
theorem dX9_become_1 : decode cX9_become 1 = .ok (.ifCond .lt 18, 3) := DX9_become_c0.2.1
theorem dX9_become_4 : decode cX9_become 4 = .ok (.iload_n 1, 1) := DX9_become_c0.2.2.1
theorem dX9_become_5 : decode cX9_become 5 = .ok (.iconst 1, 1) := DX9_become_c0.2.2.2.1
theorem dX9_become_6 : decode cX9_become 6 = .ok (.aload_n 0, 1) := DX9_become_c0.2.2.2.2.1
theorem dX9_become_7 : decode cX9_become 7 = .ok (.getfield 7, 3) := DX9_become_c0.2.2.2.2.2.1
theorem dX9_become_10 : decode cX9_become 10 = .ok (.iconst 0, 1) := DX9_become_c0.2.2.2.2.2.2.1
theorem dX9_become_11 : decode cX9_become 11 = .ok (.iaload, 1) := DX9_become_c0.2.2.2.2.2.2.2.1
theorem dX9_become_12 : decode cX9_become 12 = .ok (.invokestatic 58, 3) := DX9_become_c0.2.2.2.2.2.2.2.2.1
theorem dX9_become_15 : decode cX9_become 15 = .ok (.ishl, 1) := DX9_become_c0.2.2.2.2.2.2.2.2.2
set_option maxRecDepth 100000 in
theorem DX9_become_c1 : decode cX9_become 16 = .ok (.if_icmp .lt 5, 3) ∧ decode cX9_become 19 = .ok (.iconst (-1), 1) ∧ decode cX9_become 20 = .ok (.ireturn, 1) ∧ decode cX9_become 21 = .ok (.aload_n 0, 1) ∧ decode cX9_become 22 = .ok (.invokevirtual 70, 3) ∧ decode cX9_become 25 = .ok (.aload_n 0, 1) ∧ decode cX9_become 26 = .ok (.getfield 7, 3) ∧ decode cX9_become 29 = .ok (.iconst 1, 1) ∧ decode cX9_become 30 = .ok (.iaload, 1) ∧ decode cX9_become 31 = .ok (.istore_n 2, 1) := by decide +kernel
theorem dX9_become_16 : decode cX9_become 16 = .ok (.if_icmp .lt 5, 3) := DX9_become_c1.1
theorem dX9_become_19 : decode cX9_become 19 = .ok (.iconst (-1), 1) := DX9_become_c1.2.1
theorem dX9_become_20 : decode cX9_become 20 = .ok (.ireturn, 1) := DX9_become_c1.2.2.1
theorem dX9_become_21 : decode cX9_become 21 = .ok (.aload_n 0, 1) := DX9_become_c1.2.2.2.1
theorem dX9_become_22 : decode cX9_become 22 = .ok (.invokevirtual 70, 3) := DX9_become_c1.2.2.2.2.1
theorem dX9_become_25 : decode cX9_become 25 = .ok (.aload_n 0, 1) := DX9_become_c1.2.2.2.2.2.1
theorem dX9_become_26 : decode cX9_become 26 = .ok (.getfield 7, 3) := DX9_become_c1.2.2.2.2.2.2.1
theorem dX9_become_29 : decode cX9_become 29 = .ok (.iconst 1, 1) := DX9_become_c1.2.2.2.2.2.2.2.1
theorem dX9_become_30 : decode cX9_become 30 = .ok (.iaload, 1) := DX9_become_c1.2.2.2.2.2.2.2.2.1
theorem dX9_become_31 : decode cX9_become 31 = .ok (.istore_n 2, 1) := DX9_become_c1.2.2.2.2.2.2.2.2.2
set_option maxRecDepth 100000 in
theorem DX9_become_c2 : decode cX9_become 32 = .ok (.aload_n 0, 1) ∧ decode cX9_become 33 = .ok (.getfield 7, 3) ∧ decode cX9_become 36 = .ok (.iconst 1, 1) ∧ decode cX9_become 37 = .ok (.iload_n 1, 1) ∧ decode cX9_become 38 = .ok (.iastore, 1) ∧ decode cX9_become 39 = .ok (.iload_n 2, 1) ∧ decode cX9_become 40 = .ok (.ireturn, 1) := by decide +kernel
theorem dX9_become_32 : decode cX9_become 32 = .ok (.aload_n 0, 1) := DX9_become_c2.1
theorem dX9_become_33 : decode cX9_become 33 = .ok (.getfield 7, 3) := DX9_become_c2.2.1
theorem dX9_become_36 : decode cX9_become 36 = .ok (.iconst 1, 1) := DX9_become_c2.2.2.1
theorem dX9_become_37 : decode cX9_become 37 = .ok (.iload_n 1, 1) := DX9_become_c2.2.2.2.1
theorem dX9_become_38 : decode cX9_become 38 = .ok (.iastore, 1) := DX9_become_c2.2.2.2.2.1
theorem dX9_become_39 : decode cX9_become 39 = .ok (.iload_n 2, 1) := DX9_become_c2.2.2.2.2.2.1
theorem dX9_become_40 : decode cX9_become 40 = .ok (.ireturn, 1) := DX9_become_c2.2.2.2.2.2.2
set_option maxRecDepth 100000 in
theorem DX9_undo_c0 : decode cX9_undo 0 = .ok (.aload_n 0, 1) ∧ decode cX9_undo 1 = .ok (.getfield 54, 3) ∧ decode cX9_undo 4 = .ok (.ifCond .ne 6, 3) ∧ decode cX9_undo 7 = .ok (.bipush (-2), 2) ∧ decode cX9_undo 9 = .ok (.ireturn, 1) ∧ decode cX9_undo 10 = .ok (.aload_n 0, 1) ∧ decode cX9_undo 11 = .ok (.dup, 1) ∧ decode cX9_undo 12 = .ok (.getfield 54, 3) ∧ decode cX9_undo 15 = .ok (.iconst 1, 1) ∧ decode cX9_undo 16 = .ok (.isub, 1) := by decide +kernel
theorem dX9_undo_0 : decode cX9_undo 0 = .ok (.aload_n 0, 1) := DX9_undo_c0.1
theorem dX9_undo_1 : decode cX9_undo 1 = .ok (.getfield 54, 3) := DX9_undo_c0.2.1
theorem dX9_undo_4 : decode cX9_undo 4 = .ok (.ifCond .ne 6, 3) := DX9_undo_c0.2.2.1
theorem dX9_undo_7 : decode cX9_undo 7 = .ok (.bipush (-2), 2) := DX9_undo_c0.2.2.2.1
theorem dX9_undo_9 : decode cX9_undo 9 = .ok (.ireturn, 1) := DX9_undo_c0.2.2.2.2.1
theorem dX9_undo_10 : decode cX9_undo 10 = .ok (.aload_n 0, 1) := DX9_undo_c0.2.2.2.2.2.1
theorem dX9_undo_11 : decode cX9_undo 11 = .ok (.dup, 1) := DX9_undo_c0.2.2.2.2.2.2.1
theorem dX9_undo_12 : decode cX9_undo 12 = .ok (.getfield 54, 3) := DX9_undo_c0.2.2.2.2.2.2.2.1
theorem dX9_undo_15 : decode cX9_undo 15 = .ok (.iconst 1, 1) := DX9_undo_c0.2.2.2.2.2.2.2.2.1
theorem dX9_undo_16 : decode cX9_undo 16 = .ok (.isub, 1) := DX9_undo_c0.2.2.2.2.2.2.2.2.2
set_option maxRecDepth 100000 in
theorem DX9_undo_c1 : decode cX9_undo 17 = .ok (.putfield 54, 3) ∧ decode cX9_undo 20 = .ok (.iconst 0, 1) ∧ decode cX9_undo 21 = .ok (.istore_n 1, 1) ∧ decode cX9_undo 22 = .ok (.iload_n 1, 1) ∧ decode cX9_undo 23 = .ok (.bipush 10, 2) ∧ decode cX9_undo 25 = .ok (.if_icmp .ge 29, 3) ∧ decode cX9_undo 28 = .ok (.aload_n 0, 1) ∧ decode cX9_undo 29 = .ok (.getfield 7, 3) ∧ decode cX9_undo 32 = .ok (.iload_n 1, 1) ∧ decode cX9_undo 33 = .ok (.aload_n 0, 1) := by decide +kernel
theorem dX9_undo_17 : decode cX9_undo 17 = .ok (.putfield 54, 3) := DX9_undo_c1.1
theorem dX9_undo_20 : decode cX9_undo 20 = .ok (.iconst 0, 1) := DX9_undo_c1.2.1
theorem dX9_undo_21 : decode cX9_undo 21 = .ok (.istore_n 1, 1) := DX9_undo_c1.2.2.1
theorem dX9_undo_22 : decode cX9_undo 22 = .ok (.iload_n 1, 1) := DX9_undo_c1.2.2.2.1
theorem dX9_undo_23 : decode cX9_undo 23 = .ok (.bipush 10, 2) := DX9_undo_c1.2.2.2.2.1
theorem dX9_undo_25 : decode cX9_undo 25 = .ok (.if_icmp .ge 29, 3) := DX9_undo_c1.2.2.2.2.2.1
theorem dX9_undo_28 : decode cX9_undo 28 = .ok (.aload_n 0, 1) := DX9_undo_c1.2.2.2.2.2.2.1
theorem dX9_undo_29 : decode cX9_undo 29 = .ok (.getfield 7, 3) := DX9_undo_c1.2.2.2.2.2.2.2.1
theorem dX9_undo_32 : decode cX9_undo 32 = .ok (.iload_n 1, 1) := DX9_undo_c1.2.2.2.2.2.2.2.2.1
theorem dX9_undo_33 : decode cX9_undo 33 = .ok (.aload_n 0, 1) := DX9_undo_c1.2.2.2.2.2.2.2.2.2
set_option maxRecDepth 100000 in
theorem DX9_undo_c2 : decode cX9_undo 34 = .ok (.getfield 13, 3) ∧ decode cX9_undo 37 = .ok (.bipush 10, 2) ∧ decode cX9_undo 39 = .ok (.aload_n 0, 1) ∧ decode cX9_undo 40 = .ok (.getfield 54, 3) ∧ decode cX9_undo 43 = .ok (.imul, 1) ∧ decode cX9_undo 44 = .ok (.iload_n 1, 1) ∧ decode cX9_undo 45 = .ok (.iadd, 1) ∧ decode cX9_undo 46 = .ok (.iaload, 1) ∧ decode cX9_undo 47 = .ok (.iastore, 1) ∧ decode cX9_undo 48 = .ok (.iinc 1 1, 3) := by decide +kernel
theorem dX9_undo_34 : decode cX9_undo 34 = .ok (.getfield 13, 3) := DX9_undo_c2.1
theorem dX9_undo_37 : decode cX9_undo 37 = .ok (.bipush 10, 2) := DX9_undo_c2.2.1
theorem dX9_undo_39 : decode cX9_undo 39 = .ok (.aload_n 0, 1) := DX9_undo_c2.2.2.1
theorem dX9_undo_40 : decode cX9_undo 40 = .ok (.getfield 54, 3) := DX9_undo_c2.2.2.2.1
theorem dX9_undo_43 : decode cX9_undo 43 = .ok (.imul, 1) := DX9_undo_c2.2.2.2.2.1
theorem dX9_undo_44 : decode cX9_undo 44 = .ok (.iload_n 1, 1) := DX9_undo_c2.2.2.2.2.2.1
theorem dX9_undo_45 : decode cX9_undo 45 = .ok (.iadd, 1) := DX9_undo_c2.2.2.2.2.2.2.1
theorem dX9_undo_46 : decode cX9_undo 46 = .ok (.iaload, 1) := DX9_undo_c2.2.2.2.2.2.2.2.1
theorem dX9_undo_47 : decode cX9_undo 47 = .ok (.iastore, 1) := DX9_undo_c2.2.2.2.2.2.2.2.2.1
theorem dX9_undo_48 : decode cX9_undo 48 = .ok (.iinc 1 1, 3) := DX9_undo_c2.2.2.2.2.2.2.2.2.2
set_option maxRecDepth 100000 in
theorem DX9_undo_c3 : decode cX9_undo 51 = .ok (.goto (-29), 3) ∧ decode cX9_undo 54 = .ok (.aload_n 0, 1) ∧ decode cX9_undo 55 = .ok (.getfield 54, 3) ∧ decode cX9_undo 58 = .ok (.ireturn, 1) := by decide +kernel
theorem dX9_undo_51 : decode cX9_undo 51 = .ok (.goto (-29), 3) := DX9_undo_c3.1
theorem dX9_undo_54 : decode cX9_undo 54 = .ok (.aload_n 0, 1) := DX9_undo_c3.2.1
theorem dX9_undo_55 : decode cX9_undo 55 = .ok (.getfield 54, 3) := DX9_undo_c3.2.2.1
theorem dX9_undo_58 : decode cX9_undo 58 = .ok (.ireturn, 1) := DX9_undo_c3.2.2.2
set_option maxRecDepth 100000 in
theorem DX9_digits_c0 : decode cX9_digits 0 = .ok (.iconst 0, 1) ∧ decode cX9_digits 1 = .ok (.istore_n 3, 1) ∧ decode cX9_digits 2 = .ok (.iconst 0, 1) ∧ decode cX9_digits 3 = .ok (.istore 4, 2) ∧ decode cX9_digits 5 = .ok (.iload 4, 2) ∧ decode cX9_digits 7 = .ok (.iload_n 1, 1) ∧ decode cX9_digits 8 = .ok (.if_icmp .ge 30, 3) ∧ decode cX9_digits 11 = .ok (.iconst 2, 1) ∧ decode cX9_digits 12 = .ok (.iload_n 3, 1) ∧ decode cX9_digits 13 = .ok (.imul, 1) := by decide +kernel
theorem dX9_digits_0 : decode cX9_digits 0 = .ok (.iconst 0, 1) := DX9_digits_c0.1
theorem dX9_digits_1 : decode cX9_digits 1 = .ok (.istore_n 3, 1) := DX9_digits_c0.2.1
theorem dX9_digits_2 : decode cX9_digits 2 = .ok (.iconst 0, 1) := DX9_digits_c0.2.2.1
theorem dX9_digits_3 : decode cX9_digits 3 = .ok (.istore 4, 2) := DX9_digits_c0.2.2.2.1
theorem dX9_digits_5 : decode cX9_digits 5 = .ok (.iload 4, 2) := DX9_digits_c0.2.2.2.2.1
theorem dX9_digits_7 : decode cX9_digits 7 = .ok (.iload_n 1, 1) := DX9_digits_c0.2.2.2.2.2.1
theorem dX9_digits_8 : decode cX9_digits 8 = .ok (.if_icmp .ge 30, 3) := DX9_digits_c0.2.2.2.2.2.2.1
theorem dX9_digits_11 : decode cX9_digits 11 = .ok (.iconst 2, 1) := DX9_digits_c0.2.2.2.2.2.2.2.1
theorem dX9_digits_12 : decode cX9_digits 12 = .ok (.iload_n 3, 1) := DX9_digits_c0.2.2.2.2.2.2.2.2.1
theorem dX9_digits_13 : decode cX9_digits 13 = .ok (.imul, 1) := DX9_digits_c0.2.2.2.2.2.2.2.2.2
set_option maxRecDepth 100000 in
theorem DX9_digits_c1 : decode cX9_digits 14 = .ok (.aload_n 0, 1) ∧ decode cX9_digits 15 = .ok (.getfield 16, 3) ∧ decode cX9_digits 18 = .ok (.iload_n 2, 1) ∧ decode cX9_digits 19 = .ok (.iaload, 1) ∧ decode cX9_digits 20 = .ok (.aload_n 0, 1) ∧ decode cX9_digits 21 = .ok (.getfield 19, 3) ∧ decode cX9_digits 24 = .ok (.iload 4, 2) ∧ decode cX9_digits 26 = .ok (.iaload, 1) ∧ decode cX9_digits 27 = .ok (.ishr, 1) ∧ decode cX9_digits 28 = .ok (.iconst 1, 1) := by decide +kernel
theorem dX9_digits_14 : decode cX9_digits 14 = .ok (.aload_n 0, 1) := DX9_digits_c1.1
theorem dX9_digits_15 : decode cX9_digits 15 = .ok (.getfield 16, 3) := DX9_digits_c1.2.1
theorem dX9_digits_18 : decode cX9_digits 18 = .ok (.iload_n 2, 1) := DX9_digits_c1.2.2.1
theorem dX9_digits_19 : decode cX9_digits 19 = .ok (.iaload, 1) := DX9_digits_c1.2.2.2.1
theorem dX9_digits_20 : decode cX9_digits 20 = .ok (.aload_n 0, 1) := DX9_digits_c1.2.2.2.2.1
theorem dX9_digits_21 : decode cX9_digits 21 = .ok (.getfield 19, 3) := DX9_digits_c1.2.2.2.2.2.1
theorem dX9_digits_24 : decode cX9_digits 24 = .ok (.iload 4, 2) := DX9_digits_c1.2.2.2.2.2.2.1
theorem dX9_digits_26 : decode cX9_digits 26 = .ok (.iaload, 1) := DX9_digits_c1.2.2.2.2.2.2.2.1
theorem dX9_digits_27 : decode cX9_digits 27 = .ok (.ishr, 1) := DX9_digits_c1.2.2.2.2.2.2.2.2.1
theorem dX9_digits_28 : decode cX9_digits 28 = .ok (.iconst 1, 1) := DX9_digits_c1.2.2.2.2.2.2.2.2.2
set_option maxRecDepth 100000 in
theorem DX9_digits_c2 : decode cX9_digits 29 = .ok (.iand, 1) ∧ decode cX9_digits 30 = .ok (.iadd, 1) ∧ decode cX9_digits 31 = .ok (.istore_n 3, 1) ∧ decode cX9_digits 32 = .ok (.iinc 4 1, 3) ∧ decode cX9_digits 35 = .ok (.goto (-30), 3) ∧ decode cX9_digits 38 = .ok (.iload_n 3, 1) ∧ decode cX9_digits 39 = .ok (.ireturn, 1) := by decide +kernel
theorem dX9_digits_29 : decode cX9_digits 29 = .ok (.iand, 1) := DX9_digits_c2.1
theorem dX9_digits_30 : decode cX9_digits 30 = .ok (.iadd, 1) := DX9_digits_c2.2.1
theorem dX9_digits_31 : decode cX9_digits 31 = .ok (.istore_n 3, 1) := DX9_digits_c2.2.2.1
theorem dX9_digits_32 : decode cX9_digits 32 = .ok (.iinc 4 1, 3) := DX9_digits_c2.2.2.2.1
theorem dX9_digits_35 : decode cX9_digits 35 = .ok (.goto (-30), 3) := DX9_digits_c2.2.2.2.2.1
theorem dX9_digits_38 : decode cX9_digits 38 = .ok (.iload_n 3, 1) := DX9_digits_c2.2.2.2.2.2.1
theorem dX9_digits_39 : decode cX9_digits 39 = .ok (.ireturn, 1) := DX9_digits_c2.2.2.2.2.2.2
set_option maxRecDepth 100000 in
theorem DX9_usedBefore_c0 : decode cX9_usedBefore 0 = .ok (.iconst 0, 1) ∧ decode cX9_usedBefore 1 = .ok (.istore_n 2, 1) ∧ decode cX9_usedBefore 2 = .ok (.iconst 0, 1) ∧ decode cX9_usedBefore 3 = .ok (.istore_n 3, 1) ∧ decode cX9_usedBefore 4 = .ok (.iload_n 3, 1) ∧ decode cX9_usedBefore 5 = .ok (.iload_n 1, 1) ∧ decode cX9_usedBefore 6 = .ok (.if_icmp .ge 20, 3) ∧ decode cX9_usedBefore 9 = .ok (.iload_n 2, 1) ∧ decode cX9_usedBefore 10 = .ok (.iconst 1, 1) ∧ decode cX9_usedBefore 11 = .ok (.aload_n 0, 1) := by decide +kernel
theorem dX9_usedBefore_0 : decode cX9_usedBefore 0 = .ok (.iconst 0, 1) := DX9_usedBefore_c0.1
theorem dX9_usedBefore_1 : decode cX9_usedBefore 1 = .ok (.istore_n 2, 1) := DX9_usedBefore_c0.2.1
theorem dX9_usedBefore_2 : decode cX9_usedBefore 2 = .ok (.iconst 0, 1) := DX9_usedBefore_c0.2.2.1
theorem dX9_usedBefore_3 : decode cX9_usedBefore 3 = .ok (.istore_n 3, 1) := DX9_usedBefore_c0.2.2.2.1
theorem dX9_usedBefore_4 : decode cX9_usedBefore 4 = .ok (.iload_n 3, 1) := DX9_usedBefore_c0.2.2.2.2.1
theorem dX9_usedBefore_5 : decode cX9_usedBefore 5 = .ok (.iload_n 1, 1) := DX9_usedBefore_c0.2.2.2.2.2.1
theorem dX9_usedBefore_6 : decode cX9_usedBefore 6 = .ok (.if_icmp .ge 20, 3) := DX9_usedBefore_c0.2.2.2.2.2.2.1
theorem dX9_usedBefore_9 : decode cX9_usedBefore 9 = .ok (.iload_n 2, 1) := DX9_usedBefore_c0.2.2.2.2.2.2.2.1
theorem dX9_usedBefore_10 : decode cX9_usedBefore 10 = .ok (.iconst 1, 1) := DX9_usedBefore_c0.2.2.2.2.2.2.2.2.1
theorem dX9_usedBefore_11 : decode cX9_usedBefore 11 = .ok (.aload_n 0, 1) := DX9_usedBefore_c0.2.2.2.2.2.2.2.2.2
set_option maxRecDepth 100000 in
theorem DX9_usedBefore_c1 : decode cX9_usedBefore 12 = .ok (.getfield 19, 3) ∧ decode cX9_usedBefore 15 = .ok (.iload_n 3, 1) ∧ decode cX9_usedBefore 16 = .ok (.iaload, 1) ∧ decode cX9_usedBefore 17 = .ok (.ishl, 1) ∧ decode cX9_usedBefore 18 = .ok (.ior, 1) ∧ decode cX9_usedBefore 19 = .ok (.istore_n 2, 1) ∧ decode cX9_usedBefore 20 = .ok (.iinc 3 1, 3) ∧ decode cX9_usedBefore 23 = .ok (.goto (-19), 3) ∧ decode cX9_usedBefore 26 = .ok (.iload_n 2, 1) ∧ decode cX9_usedBefore 27 = .ok (.ireturn, 1) := by decide +kernel
theorem dX9_usedBefore_12 : decode cX9_usedBefore 12 = .ok (.getfield 19, 3) := DX9_usedBefore_c1.1
theorem dX9_usedBefore_15 : decode cX9_usedBefore 15 = .ok (.iload_n 3, 1) := DX9_usedBefore_c1.2.1
theorem dX9_usedBefore_16 : decode cX9_usedBefore 16 = .ok (.iaload, 1) := DX9_usedBefore_c1.2.2.1
theorem dX9_usedBefore_17 : decode cX9_usedBefore 17 = .ok (.ishl, 1) := DX9_usedBefore_c1.2.2.2.1
theorem dX9_usedBefore_18 : decode cX9_usedBefore 18 = .ok (.ior, 1) := DX9_usedBefore_c1.2.2.2.2.1
theorem dX9_usedBefore_19 : decode cX9_usedBefore 19 = .ok (.istore_n 2, 1) := DX9_usedBefore_c1.2.2.2.2.2.1
theorem dX9_usedBefore_20 : decode cX9_usedBefore 20 = .ok (.iinc 3 1, 3) := DX9_usedBefore_c1.2.2.2.2.2.2.1
theorem dX9_usedBefore_23 : decode cX9_usedBefore 23 = .ok (.goto (-19), 3) := DX9_usedBefore_c1.2.2.2.2.2.2.2.1
theorem dX9_usedBefore_26 : decode cX9_usedBefore 26 = .ok (.iload_n 2, 1) := DX9_usedBefore_c1.2.2.2.2.2.2.2.2.1
theorem dX9_usedBefore_27 : decode cX9_usedBefore 27 = .ok (.ireturn, 1) := DX9_usedBefore_c1.2.2.2.2.2.2.2.2.2
set_option maxRecDepth 100000 in
theorem DX9_canonical_c0 : decode cX9_canonical 0 = .ok (.iconst 0, 1) ∧ decode cX9_canonical 1 = .ok (.istore_n 3, 1) ∧ decode cX9_canonical 2 = .ok (.iload_n 3, 1) ∧ decode cX9_canonical 3 = .ok (.iload_n 1, 1) ∧ decode cX9_canonical 4 = .ok (.if_icmp .ge 21, 3) ∧ decode cX9_canonical 7 = .ok (.aload_n 0, 1) ∧ decode cX9_canonical 8 = .ok (.getfield 16, 3) ∧ decode cX9_canonical 11 = .ok (.iload_n 3, 1) ∧ decode cX9_canonical 12 = .ok (.iload_n 1, 1) ∧ decode cX9_canonical 13 = .ok (.iload_n 2, 1) := by decide +kernel
theorem dX9_canonical_0 : decode cX9_canonical 0 = .ok (.iconst 0, 1) := DX9_canonical_c0.1
theorem dX9_canonical_1 : decode cX9_canonical 1 = .ok (.istore_n 3, 1) := DX9_canonical_c0.2.1
theorem dX9_canonical_2 : decode cX9_canonical 2 = .ok (.iload_n 3, 1) := DX9_canonical_c0.2.2.1
theorem dX9_canonical_3 : decode cX9_canonical 3 = .ok (.iload_n 1, 1) := DX9_canonical_c0.2.2.2.1
theorem dX9_canonical_4 : decode cX9_canonical 4 = .ok (.if_icmp .ge 21, 3) := DX9_canonical_c0.2.2.2.2.1
theorem dX9_canonical_7 : decode cX9_canonical 7 = .ok (.aload_n 0, 1) := DX9_canonical_c0.2.2.2.2.2.1
theorem dX9_canonical_8 : decode cX9_canonical 8 = .ok (.getfield 16, 3) := DX9_canonical_c0.2.2.2.2.2.2.1
theorem dX9_canonical_11 : decode cX9_canonical 11 = .ok (.iload_n 3, 1) := DX9_canonical_c0.2.2.2.2.2.2.2.1
theorem dX9_canonical_12 : decode cX9_canonical 12 = .ok (.iload_n 1, 1) := DX9_canonical_c0.2.2.2.2.2.2.2.2.1
theorem dX9_canonical_13 : decode cX9_canonical 13 = .ok (.iload_n 2, 1) := DX9_canonical_c0.2.2.2.2.2.2.2.2.2
set_option maxRecDepth 100000 in
theorem DX9_canonical_c1 : decode cX9_canonical 14 = .ok (.iload_n 3, 1) ∧ decode cX9_canonical 15 = .ok (.invokestatic 77, 3) ∧ decode cX9_canonical 18 = .ok (.iastore, 1) ∧ decode cX9_canonical 19 = .ok (.iinc 3 1, 3) ∧ decode cX9_canonical 22 = .ok (.goto (-20), 3) ∧ decode cX9_canonical 25 = .ok (.iload_n 2, 1) ∧ decode cX9_canonical 26 = .ok (.istore_n 3, 1) ∧ decode cX9_canonical 27 = .ok (.iconst 0, 1) ∧ decode cX9_canonical 28 = .ok (.istore 4, 2) ∧ decode cX9_canonical 30 = .ok (.aload_n 0, 1) := by decide +kernel
theorem dX9_canonical_14 : decode cX9_canonical 14 = .ok (.iload_n 3, 1) := DX9_canonical_c1.1
theorem dX9_canonical_15 : decode cX9_canonical 15 = .ok (.invokestatic 77, 3) := DX9_canonical_c1.2.1
theorem dX9_canonical_18 : decode cX9_canonical 18 = .ok (.iastore, 1) := DX9_canonical_c1.2.2.1
theorem dX9_canonical_19 : decode cX9_canonical 19 = .ok (.iinc 3 1, 3) := DX9_canonical_c1.2.2.2.1
theorem dX9_canonical_22 : decode cX9_canonical 22 = .ok (.goto (-20), 3) := DX9_canonical_c1.2.2.2.2.1
theorem dX9_canonical_25 : decode cX9_canonical 25 = .ok (.iload_n 2, 1) := DX9_canonical_c1.2.2.2.2.2.1
theorem dX9_canonical_26 : decode cX9_canonical 26 = .ok (.istore_n 3, 1) := DX9_canonical_c1.2.2.2.2.2.2.1
theorem dX9_canonical_27 : decode cX9_canonical 27 = .ok (.iconst 0, 1) := DX9_canonical_c1.2.2.2.2.2.2.2.1
theorem dX9_canonical_28 : decode cX9_canonical 28 = .ok (.istore 4, 2) := DX9_canonical_c1.2.2.2.2.2.2.2.2.1
theorem dX9_canonical_30 : decode cX9_canonical 30 = .ok (.aload_n 0, 1) := DX9_canonical_c1.2.2.2.2.2.2.2.2.2
set_option maxRecDepth 100000 in
theorem DX9_canonical_c2 : decode cX9_canonical 31 = .ok (.getfield 19, 3) ∧ decode cX9_canonical 34 = .ok (.iconst 0, 1) ∧ decode cX9_canonical 35 = .ok (.iconst (-1), 1) ∧ decode cX9_canonical 36 = .ok (.iastore, 1) ∧ decode cX9_canonical 37 = .ok (.aload_n 0, 1) ∧ decode cX9_canonical 38 = .ok (.getfield 22, 3) ∧ decode cX9_canonical 41 = .ok (.iconst 0, 1) ∧ decode cX9_canonical 42 = .ok (.iconst 0, 1) ∧ decode cX9_canonical 43 = .ok (.iastore, 1) ∧ decode cX9_canonical 44 = .ok (.iload 4, 2) := by decide +kernel
theorem dX9_canonical_31 : decode cX9_canonical 31 = .ok (.getfield 19, 3) := DX9_canonical_c2.1
theorem dX9_canonical_34 : decode cX9_canonical 34 = .ok (.iconst 0, 1) := DX9_canonical_c2.2.1
theorem dX9_canonical_35 : decode cX9_canonical 35 = .ok (.iconst (-1), 1) := DX9_canonical_c2.2.2.1
theorem dX9_canonical_36 : decode cX9_canonical 36 = .ok (.iastore, 1) := DX9_canonical_c2.2.2.2.1
theorem dX9_canonical_37 : decode cX9_canonical 37 = .ok (.aload_n 0, 1) := DX9_canonical_c2.2.2.2.2.1
theorem dX9_canonical_38 : decode cX9_canonical 38 = .ok (.getfield 22, 3) := DX9_canonical_c2.2.2.2.2.2.1
theorem dX9_canonical_41 : decode cX9_canonical 41 = .ok (.iconst 0, 1) := DX9_canonical_c2.2.2.2.2.2.2.1
theorem dX9_canonical_42 : decode cX9_canonical 42 = .ok (.iconst 0, 1) := DX9_canonical_c2.2.2.2.2.2.2.2.1
theorem dX9_canonical_43 : decode cX9_canonical 43 = .ok (.iastore, 1) := DX9_canonical_c2.2.2.2.2.2.2.2.2.1
theorem dX9_canonical_44 : decode cX9_canonical 44 = .ok (.iload 4, 2) := DX9_canonical_c2.2.2.2.2.2.2.2.2.2
set_option maxRecDepth 100000 in
theorem DX9_canonical_c3 : decode cX9_canonical 46 = .ok (.ifCond .lt 154, 3) ∧ decode cX9_canonical 49 = .ok (.aload_n 0, 1) ∧ decode cX9_canonical 50 = .ok (.iload 4, 2) ∧ decode cX9_canonical 52 = .ok (.invokevirtual 80, 3) ∧ decode cX9_canonical 55 = .ok (.istore 5, 2) ∧ decode cX9_canonical 57 = .ok (.aload_n 0, 1) ∧ decode cX9_canonical 58 = .ok (.getfield 19, 3) ∧ decode cX9_canonical 61 = .ok (.iload 4, 2) ∧ decode cX9_canonical 63 = .ok (.iaload, 1) ∧ decode cX9_canonical 64 = .ok (.iconst 1, 1) := by decide +kernel
theorem dX9_canonical_46 : decode cX9_canonical 46 = .ok (.ifCond .lt 154, 3) := DX9_canonical_c3.1
theorem dX9_canonical_49 : decode cX9_canonical 49 = .ok (.aload_n 0, 1) := DX9_canonical_c3.2.1
theorem dX9_canonical_50 : decode cX9_canonical 50 = .ok (.iload 4, 2) := DX9_canonical_c3.2.2.1
theorem dX9_canonical_52 : decode cX9_canonical 52 = .ok (.invokevirtual 80, 3) := DX9_canonical_c3.2.2.2.1
theorem dX9_canonical_55 : decode cX9_canonical 55 = .ok (.istore 5, 2) := DX9_canonical_c3.2.2.2.2.1
theorem dX9_canonical_57 : decode cX9_canonical 57 = .ok (.aload_n 0, 1) := DX9_canonical_c3.2.2.2.2.2.1
theorem dX9_canonical_58 : decode cX9_canonical 58 = .ok (.getfield 19, 3) := DX9_canonical_c3.2.2.2.2.2.2.1
theorem dX9_canonical_61 : decode cX9_canonical 61 = .ok (.iload 4, 2) := DX9_canonical_c3.2.2.2.2.2.2.2.1
theorem dX9_canonical_63 : decode cX9_canonical 63 = .ok (.iaload, 1) := DX9_canonical_c3.2.2.2.2.2.2.2.2.1
theorem dX9_canonical_64 : decode cX9_canonical 64 = .ok (.iconst 1, 1) := DX9_canonical_c3.2.2.2.2.2.2.2.2.2
set_option maxRecDepth 100000 in
theorem DX9_canonical_c4 : decode cX9_canonical 65 = .ok (.iadd, 1) ∧ decode cX9_canonical 66 = .ok (.istore 6, 2) ∧ decode cX9_canonical 68 = .ok (.iload 6, 2) ∧ decode cX9_canonical 70 = .ok (.iload_n 1, 1) ∧ decode cX9_canonical 71 = .ok (.if_icmp .ge 20, 3) ∧ decode cX9_canonical 74 = .ok (.iload 5, 2) ∧ decode cX9_canonical 76 = .ok (.iload 6, 2) ∧ decode cX9_canonical 78 = .ok (.ishr, 1) ∧ decode cX9_canonical 79 = .ok (.iconst 1, 1) ∧ decode cX9_canonical 80 = .ok (.iand, 1) := by decide +kernel
theorem dX9_canonical_65 : decode cX9_canonical 65 = .ok (.iadd, 1) := DX9_canonical_c4.1
theorem dX9_canonical_66 : decode cX9_canonical 66 = .ok (.istore 6, 2) := DX9_canonical_c4.2.1
theorem dX9_canonical_68 : decode cX9_canonical 68 = .ok (.iload 6, 2) := DX9_canonical_c4.2.2.1
theorem dX9_canonical_70 : decode cX9_canonical 70 = .ok (.iload_n 1, 1) := DX9_canonical_c4.2.2.2.1
theorem dX9_canonical_71 : decode cX9_canonical 71 = .ok (.if_icmp .ge 20, 3) := DX9_canonical_c4.2.2.2.2.1
theorem dX9_canonical_74 : decode cX9_canonical 74 = .ok (.iload 5, 2) := DX9_canonical_c4.2.2.2.2.2.1
theorem dX9_canonical_76 : decode cX9_canonical 76 = .ok (.iload 6, 2) := DX9_canonical_c4.2.2.2.2.2.2.1
theorem dX9_canonical_78 : decode cX9_canonical 78 = .ok (.ishr, 1) := DX9_canonical_c4.2.2.2.2.2.2.2.1
theorem dX9_canonical_79 : decode cX9_canonical 79 = .ok (.iconst 1, 1) := DX9_canonical_c4.2.2.2.2.2.2.2.2.1
theorem dX9_canonical_80 : decode cX9_canonical 80 = .ok (.iand, 1) := DX9_canonical_c4.2.2.2.2.2.2.2.2.2
set_option maxRecDepth 100000 in
theorem DX9_canonical_c5 : decode cX9_canonical 81 = .ok (.iconst 1, 1) ∧ decode cX9_canonical 82 = .ok (.if_icmp .ne 9, 3) ∧ decode cX9_canonical 85 = .ok (.iinc 6 1, 3) ∧ decode cX9_canonical 88 = .ok (.goto (-20), 3) ∧ decode cX9_canonical 91 = .ok (.aload_n 0, 1) ∧ decode cX9_canonical 92 = .ok (.getfield 19, 3) ∧ decode cX9_canonical 95 = .ok (.iload 4, 2) ∧ decode cX9_canonical 97 = .ok (.iload 6, 2) ∧ decode cX9_canonical 99 = .ok (.iastore, 1) ∧ decode cX9_canonical 100 = .ok (.iload 6, 2) := by decide +kernel
theorem dX9_canonical_81 : decode cX9_canonical 81 = .ok (.iconst 1, 1) := DX9_canonical_c5.1
theorem dX9_canonical_82 : decode cX9_canonical 82 = .ok (.if_icmp .ne 9, 3) := DX9_canonical_c5.2.1
theorem dX9_canonical_85 : decode cX9_canonical 85 = .ok (.iinc 6 1, 3) := DX9_canonical_c5.2.2.1
theorem dX9_canonical_88 : decode cX9_canonical 88 = .ok (.goto (-20), 3) := DX9_canonical_c5.2.2.2.1
theorem dX9_canonical_91 : decode cX9_canonical 91 = .ok (.aload_n 0, 1) := DX9_canonical_c5.2.2.2.2.1
theorem dX9_canonical_92 : decode cX9_canonical 92 = .ok (.getfield 19, 3) := DX9_canonical_c5.2.2.2.2.2.1
theorem dX9_canonical_95 : decode cX9_canonical 95 = .ok (.iload 4, 2) := DX9_canonical_c5.2.2.2.2.2.2.1
theorem dX9_canonical_97 : decode cX9_canonical 97 = .ok (.iload 6, 2) := DX9_canonical_c5.2.2.2.2.2.2.2.1
theorem dX9_canonical_99 : decode cX9_canonical 99 = .ok (.iastore, 1) := DX9_canonical_c5.2.2.2.2.2.2.2.2.1
theorem dX9_canonical_100 : decode cX9_canonical 100 = .ok (.iload 6, 2) := DX9_canonical_c5.2.2.2.2.2.2.2.2.2
set_option maxRecDepth 100000 in
theorem DX9_canonical_c6 : decode cX9_canonical 102 = .ok (.iload_n 1, 1) ∧ decode cX9_canonical 103 = .ok (.if_icmp .lt 9, 3) ∧ decode cX9_canonical 106 = .ok (.iinc 4 (-1), 3) ∧ decode cX9_canonical 109 = .ok (.goto 88, 3) ∧ decode cX9_canonical 112 = .ok (.aload_n 0, 1) ∧ decode cX9_canonical 113 = .ok (.getfield 22, 3) ∧ decode cX9_canonical 116 = .ok (.iload 4, 2) ∧ decode cX9_canonical 118 = .ok (.iaload, 1) ∧ decode cX9_canonical 119 = .ok (.iload 4, 2) ∧ decode cX9_canonical 121 = .ok (.ishl, 1) := by decide +kernel
theorem dX9_canonical_102 : decode cX9_canonical 102 = .ok (.iload_n 1, 1) := DX9_canonical_c6.1
theorem dX9_canonical_103 : decode cX9_canonical 103 = .ok (.if_icmp .lt 9, 3) := DX9_canonical_c6.2.1
theorem dX9_canonical_106 : decode cX9_canonical 106 = .ok (.iinc 4 (-1), 3) := DX9_canonical_c6.2.2.1
theorem dX9_canonical_109 : decode cX9_canonical 109 = .ok (.goto 88, 3) := DX9_canonical_c6.2.2.2.1
theorem dX9_canonical_112 : decode cX9_canonical 112 = .ok (.aload_n 0, 1) := DX9_canonical_c6.2.2.2.2.1
theorem dX9_canonical_113 : decode cX9_canonical 113 = .ok (.getfield 22, 3) := DX9_canonical_c6.2.2.2.2.2.1
theorem dX9_canonical_116 : decode cX9_canonical 116 = .ok (.iload 4, 2) := DX9_canonical_c6.2.2.2.2.2.2.1
theorem dX9_canonical_118 : decode cX9_canonical 118 = .ok (.iaload, 1) := DX9_canonical_c6.2.2.2.2.2.2.2.1
theorem dX9_canonical_119 : decode cX9_canonical 119 = .ok (.iload 4, 2) := DX9_canonical_c6.2.2.2.2.2.2.2.2.1
theorem dX9_canonical_121 : decode cX9_canonical 121 = .ok (.ishl, 1) := DX9_canonical_c6.2.2.2.2.2.2.2.2.2
set_option maxRecDepth 100000 in
theorem DX9_canonical_c7 : decode cX9_canonical 122 = .ok (.aload_n 0, 1) ∧ decode cX9_canonical 123 = .ok (.iload 4, 2) ∧ decode cX9_canonical 125 = .ok (.iload 6, 2) ∧ decode cX9_canonical 127 = .ok (.invokevirtual 83, 3) ∧ decode cX9_canonical 130 = .ok (.ior, 1) ∧ decode cX9_canonical 131 = .ok (.istore 7, 2) ∧ decode cX9_canonical 133 = .ok (.iload_n 3, 1) ∧ decode cX9_canonical 134 = .ok (.iload_n 1, 1) ∧ decode cX9_canonical 135 = .ok (.invokestatic 58, 3) ∧ decode cX9_canonical 138 = .ok (.iload 4, 2) := by decide +kernel
theorem dX9_canonical_122 : decode cX9_canonical 122 = .ok (.aload_n 0, 1) := DX9_canonical_c7.1
theorem dX9_canonical_123 : decode cX9_canonical 123 = .ok (.iload 4, 2) := DX9_canonical_c7.2.1
theorem dX9_canonical_125 : decode cX9_canonical 125 = .ok (.iload 6, 2) := DX9_canonical_c7.2.2.1
theorem dX9_canonical_127 : decode cX9_canonical 127 = .ok (.invokevirtual 83, 3) := DX9_canonical_c7.2.2.2.1
theorem dX9_canonical_130 : decode cX9_canonical 130 = .ok (.ior, 1) := DX9_canonical_c7.2.2.2.2.1
theorem dX9_canonical_131 : decode cX9_canonical 131 = .ok (.istore 7, 2) := DX9_canonical_c7.2.2.2.2.2.1
theorem dX9_canonical_133 : decode cX9_canonical 133 = .ok (.iload_n 3, 1) := DX9_canonical_c7.2.2.2.2.2.2.1
theorem dX9_canonical_134 : decode cX9_canonical 134 = .ok (.iload_n 1, 1) := DX9_canonical_c7.2.2.2.2.2.2.2.1
theorem dX9_canonical_135 : decode cX9_canonical 135 = .ok (.invokestatic 58, 3) := DX9_canonical_c7.2.2.2.2.2.2.2.2.1
theorem dX9_canonical_138 : decode cX9_canonical 138 = .ok (.iload 4, 2) := DX9_canonical_c7.2.2.2.2.2.2.2.2.2
set_option maxRecDepth 100000 in
theorem DX9_canonical_c8 : decode cX9_canonical 140 = .ok (.iconst 1, 1) ∧ decode cX9_canonical 141 = .ok (.iadd, 1) ∧ decode cX9_canonical 142 = .ok (.invokestatic 58, 3) ∧ decode cX9_canonical 145 = .ok (.isub, 1) ∧ decode cX9_canonical 146 = .ok (.ishr, 1) ∧ decode cX9_canonical 147 = .ok (.istore 8, 2) ∧ decode cX9_canonical 149 = .ok (.iload 7, 2) ∧ decode cX9_canonical 151 = .ok (.iload 8, 2) ∧ decode cX9_canonical 153 = .ok (.if_icmp .gt 17, 3) ∧ decode cX9_canonical 156 = .ok (.iload 4, 2) := by decide +kernel
theorem dX9_canonical_140 : decode cX9_canonical 140 = .ok (.iconst 1, 1) := DX9_canonical_c8.1
theorem dX9_canonical_141 : decode cX9_canonical 141 = .ok (.iadd, 1) := DX9_canonical_c8.2.1
theorem dX9_canonical_142 : decode cX9_canonical 142 = .ok (.invokestatic 58, 3) := DX9_canonical_c8.2.2.1
theorem dX9_canonical_145 : decode cX9_canonical 145 = .ok (.isub, 1) := DX9_canonical_c8.2.2.2.1
theorem dX9_canonical_146 : decode cX9_canonical 146 = .ok (.ishr, 1) := DX9_canonical_c8.2.2.2.2.1
theorem dX9_canonical_147 : decode cX9_canonical 147 = .ok (.istore 8, 2) := DX9_canonical_c8.2.2.2.2.2.1
theorem dX9_canonical_149 : decode cX9_canonical 149 = .ok (.iload 7, 2) := DX9_canonical_c8.2.2.2.2.2.2.1
theorem dX9_canonical_151 : decode cX9_canonical 151 = .ok (.iload 8, 2) := DX9_canonical_c8.2.2.2.2.2.2.2.1
theorem dX9_canonical_153 : decode cX9_canonical 153 = .ok (.if_icmp .gt 17, 3) := DX9_canonical_c8.2.2.2.2.2.2.2.2.1
theorem dX9_canonical_156 : decode cX9_canonical 156 = .ok (.iload 4, 2) := DX9_canonical_c8.2.2.2.2.2.2.2.2.2
set_option maxRecDepth 100000 in
theorem DX9_canonical_c9 : decode cX9_canonical 158 = .ok (.iload_n 1, 1) ∧ decode cX9_canonical 159 = .ok (.iconst 1, 1) ∧ decode cX9_canonical 160 = .ok (.isub, 1) ∧ decode cX9_canonical 161 = .ok (.if_icmp .ne 9, 3) ∧ decode cX9_canonical 164 = .ok (.iload 7, 2) ∧ decode cX9_canonical 166 = .ok (.istore_n 3, 1) ∧ decode cX9_canonical 167 = .ok (.goto 30, 3) ∧ decode cX9_canonical 170 = .ok (.iload 7, 2) ∧ decode cX9_canonical 172 = .ok (.iload 8, 2) ∧ decode cX9_canonical 174 = .ok (.if_icmp .gt 23, 3) := by decide +kernel
theorem dX9_canonical_158 : decode cX9_canonical 158 = .ok (.iload_n 1, 1) := DX9_canonical_c9.1
theorem dX9_canonical_159 : decode cX9_canonical 159 = .ok (.iconst 1, 1) := DX9_canonical_c9.2.1
theorem dX9_canonical_160 : decode cX9_canonical 160 = .ok (.isub, 1) := DX9_canonical_c9.2.2.1
theorem dX9_canonical_161 : decode cX9_canonical 161 = .ok (.if_icmp .ne 9, 3) := DX9_canonical_c9.2.2.2.1
theorem dX9_canonical_164 : decode cX9_canonical 164 = .ok (.iload 7, 2) := DX9_canonical_c9.2.2.2.2.1
theorem dX9_canonical_166 : decode cX9_canonical 166 = .ok (.istore_n 3, 1) := DX9_canonical_c9.2.2.2.2.2.1
theorem dX9_canonical_167 : decode cX9_canonical 167 = .ok (.goto 30, 3) := DX9_canonical_c9.2.2.2.2.2.2.1
theorem dX9_canonical_170 : decode cX9_canonical 170 = .ok (.iload 7, 2) := DX9_canonical_c9.2.2.2.2.2.2.2.1
theorem dX9_canonical_172 : decode cX9_canonical 172 = .ok (.iload 8, 2) := DX9_canonical_c9.2.2.2.2.2.2.2.2.1
theorem dX9_canonical_174 : decode cX9_canonical 174 = .ok (.if_icmp .gt 23, 3) := DX9_canonical_c9.2.2.2.2.2.2.2.2.2
set_option maxRecDepth 100000 in
theorem DX9_canonical_c10 : decode cX9_canonical 177 = .ok (.iinc 4 1, 3) ∧ decode cX9_canonical 180 = .ok (.aload_n 0, 1) ∧ decode cX9_canonical 181 = .ok (.getfield 22, 3) ∧ decode cX9_canonical 184 = .ok (.iload 4, 2) ∧ decode cX9_canonical 186 = .ok (.iload 7, 2) ∧ decode cX9_canonical 188 = .ok (.iastore, 1) ∧ decode cX9_canonical 189 = .ok (.aload_n 0, 1) ∧ decode cX9_canonical 190 = .ok (.getfield 19, 3) ∧ decode cX9_canonical 193 = .ok (.iload 4, 2) ∧ decode cX9_canonical 195 = .ok (.iconst (-1), 1) := by decide +kernel
theorem dX9_canonical_177 : decode cX9_canonical 177 = .ok (.iinc 4 1, 3) := DX9_canonical_c10.1
theorem dX9_canonical_180 : decode cX9_canonical 180 = .ok (.aload_n 0, 1) := DX9_canonical_c10.2.1
theorem dX9_canonical_181 : decode cX9_canonical 181 = .ok (.getfield 22, 3) := DX9_canonical_c10.2.2.1
theorem dX9_canonical_184 : decode cX9_canonical 184 = .ok (.iload 4, 2) := DX9_canonical_c10.2.2.2.1
theorem dX9_canonical_186 : decode cX9_canonical 186 = .ok (.iload 7, 2) := DX9_canonical_c10.2.2.2.2.1
theorem dX9_canonical_188 : decode cX9_canonical 188 = .ok (.iastore, 1) := DX9_canonical_c10.2.2.2.2.2.1
theorem dX9_canonical_189 : decode cX9_canonical 189 = .ok (.aload_n 0, 1) := DX9_canonical_c10.2.2.2.2.2.2.1
theorem dX9_canonical_190 : decode cX9_canonical 190 = .ok (.getfield 19, 3) := DX9_canonical_c10.2.2.2.2.2.2.2.1
theorem dX9_canonical_193 : decode cX9_canonical 193 = .ok (.iload 4, 2) := DX9_canonical_c10.2.2.2.2.2.2.2.2.1
theorem dX9_canonical_195 : decode cX9_canonical 195 = .ok (.iconst (-1), 1) := DX9_canonical_c10.2.2.2.2.2.2.2.2.2
set_option maxRecDepth 100000 in
theorem DX9_canonical_c11 : decode cX9_canonical 196 = .ok (.iastore, 1) ∧ decode cX9_canonical 197 = .ok (.goto (-153), 3) ∧ decode cX9_canonical 200 = .ok (.iload_n 3, 1) ∧ decode cX9_canonical 201 = .ok (.ireturn, 1) := by decide +kernel
theorem dX9_canonical_196 : decode cX9_canonical 196 = .ok (.iastore, 1) := DX9_canonical_c11.1
theorem dX9_canonical_197 : decode cX9_canonical 197 = .ok (.goto (-153), 3) := DX9_canonical_c11.2.1
theorem dX9_canonical_200 : decode cX9_canonical 200 = .ok (.iload_n 3, 1) := DX9_canonical_c11.2.2.1
theorem dX9_canonical_201 : decode cX9_canonical 201 = .ok (.ireturn, 1) := DX9_canonical_c11.2.2.2
set_option maxRecDepth 100000 in
theorem DX9_without_c0 : decode cX9_without 0 = .ok (.iconst 0, 1) ∧ decode cX9_without 1 = .ok (.istore_n 3, 1) ∧ decode cX9_without 2 = .ok (.iconst 1, 1) ∧ decode cX9_without 3 = .ok (.istore 4, 2) ∧ decode cX9_without 5 = .ok (.iload 4, 2) ∧ decode cX9_without 7 = .ok (.iload_n 0, 1) ∧ decode cX9_without 8 = .ok (.if_icmp .ge 51, 3) ∧ decode cX9_without 11 = .ok (.iconst 0, 1) ∧ decode cX9_without 12 = .ok (.istore 5, 2) ∧ decode cX9_without 14 = .ok (.iload 5, 2) := by decide +kernel
theorem dX9_without_0 : decode cX9_without 0 = .ok (.iconst 0, 1) := DX9_without_c0.1
theorem dX9_without_1 : decode cX9_without 1 = .ok (.istore_n 3, 1) := DX9_without_c0.2.1
theorem dX9_without_2 : decode cX9_without 2 = .ok (.iconst 1, 1) := DX9_without_c0.2.2.1
theorem dX9_without_3 : decode cX9_without 3 = .ok (.istore 4, 2) := DX9_without_c0.2.2.2.1
theorem dX9_without_5 : decode cX9_without 5 = .ok (.iload 4, 2) := DX9_without_c0.2.2.2.2.1
theorem dX9_without_7 : decode cX9_without 7 = .ok (.iload_n 0, 1) := DX9_without_c0.2.2.2.2.2.1
theorem dX9_without_8 : decode cX9_without 8 = .ok (.if_icmp .ge 51, 3) := DX9_without_c0.2.2.2.2.2.2.1
theorem dX9_without_11 : decode cX9_without 11 = .ok (.iconst 0, 1) := DX9_without_c0.2.2.2.2.2.2.2.1
theorem dX9_without_12 : decode cX9_without 12 = .ok (.istore 5, 2) := DX9_without_c0.2.2.2.2.2.2.2.2.1
theorem dX9_without_14 : decode cX9_without 14 = .ok (.iload 5, 2) := DX9_without_c0.2.2.2.2.2.2.2.2.2
set_option maxRecDepth 100000 in
theorem DX9_without_c1 : decode cX9_without 16 = .ok (.iload 4, 2) ∧ decode cX9_without 18 = .ok (.if_icmp .ge 35, 3) ∧ decode cX9_without 21 = .ok (.iload 5, 2) ∧ decode cX9_without 23 = .ok (.iload_n 2, 1) ∧ decode cX9_without 24 = .ok (.if_icmp .eq 23, 3) ∧ decode cX9_without 27 = .ok (.iload 4, 2) ∧ decode cX9_without 29 = .ok (.iload_n 2, 1) ∧ decode cX9_without 30 = .ok (.if_icmp .eq 17, 3) ∧ decode cX9_without 33 = .ok (.iconst 2, 1) ∧ decode cX9_without 34 = .ok (.iload_n 3, 1) := by decide +kernel
theorem dX9_without_16 : decode cX9_without 16 = .ok (.iload 4, 2) := DX9_without_c1.1
theorem dX9_without_18 : decode cX9_without 18 = .ok (.if_icmp .ge 35, 3) := DX9_without_c1.2.1
theorem dX9_without_21 : decode cX9_without 21 = .ok (.iload 5, 2) := DX9_without_c1.2.2.1
theorem dX9_without_23 : decode cX9_without 23 = .ok (.iload_n 2, 1) := DX9_without_c1.2.2.2.1
theorem dX9_without_24 : decode cX9_without 24 = .ok (.if_icmp .eq 23, 3) := DX9_without_c1.2.2.2.2.1
theorem dX9_without_27 : decode cX9_without 27 = .ok (.iload 4, 2) := DX9_without_c1.2.2.2.2.2.1
theorem dX9_without_29 : decode cX9_without 29 = .ok (.iload_n 2, 1) := DX9_without_c1.2.2.2.2.2.2.1
theorem dX9_without_30 : decode cX9_without 30 = .ok (.if_icmp .eq 17, 3) := DX9_without_c1.2.2.2.2.2.2.2.1
theorem dX9_without_33 : decode cX9_without 33 = .ok (.iconst 2, 1) := DX9_without_c1.2.2.2.2.2.2.2.2.1
theorem dX9_without_34 : decode cX9_without 34 = .ok (.iload_n 3, 1) := DX9_without_c1.2.2.2.2.2.2.2.2.2
set_option maxRecDepth 100000 in
theorem DX9_without_c2 : decode cX9_without 35 = .ok (.imul, 1) ∧ decode cX9_without 36 = .ok (.iload_n 0, 1) ∧ decode cX9_without 37 = .ok (.iload_n 1, 1) ∧ decode cX9_without 38 = .ok (.iload 5, 2) ∧ decode cX9_without 40 = .ok (.iload 4, 2) ∧ decode cX9_without 42 = .ok (.invokestatic 66, 3) ∧ decode cX9_without 45 = .ok (.iadd, 1) ∧ decode cX9_without 46 = .ok (.istore_n 3, 1) ∧ decode cX9_without 47 = .ok (.iinc 5 1, 3) ∧ decode cX9_without 50 = .ok (.goto (-36), 3) := by decide +kernel
theorem dX9_without_35 : decode cX9_without 35 = .ok (.imul, 1) := DX9_without_c2.1
theorem dX9_without_36 : decode cX9_without 36 = .ok (.iload_n 0, 1) := DX9_without_c2.2.1
theorem dX9_without_37 : decode cX9_without 37 = .ok (.iload_n 1, 1) := DX9_without_c2.2.2.1
theorem dX9_without_38 : decode cX9_without 38 = .ok (.iload 5, 2) := DX9_without_c2.2.2.2.1
theorem dX9_without_40 : decode cX9_without 40 = .ok (.iload 4, 2) := DX9_without_c2.2.2.2.2.1
theorem dX9_without_42 : decode cX9_without 42 = .ok (.invokestatic 66, 3) := DX9_without_c2.2.2.2.2.2.1
theorem dX9_without_45 : decode cX9_without 45 = .ok (.iadd, 1) := DX9_without_c2.2.2.2.2.2.2.1
theorem dX9_without_46 : decode cX9_without 46 = .ok (.istore_n 3, 1) := DX9_without_c2.2.2.2.2.2.2.2.1
theorem dX9_without_47 : decode cX9_without 47 = .ok (.iinc 5 1, 3) := DX9_without_c2.2.2.2.2.2.2.2.2.1
theorem dX9_without_50 : decode cX9_without 50 = .ok (.goto (-36), 3) := DX9_without_c2.2.2.2.2.2.2.2.2.2
set_option maxRecDepth 100000 in
theorem DX9_without_c3 : decode cX9_without 53 = .ok (.iinc 4 1, 3) ∧ decode cX9_without 56 = .ok (.goto (-51), 3) ∧ decode cX9_without 59 = .ok (.iload_n 3, 1) ∧ decode cX9_without 60 = .ok (.ireturn, 1) := by decide +kernel
theorem dX9_without_53 : decode cX9_without 53 = .ok (.iinc 4 1, 3) := DX9_without_c3.1
theorem dX9_without_56 : decode cX9_without 56 = .ok (.goto (-51), 3) := DX9_without_c3.2.1
theorem dX9_without_59 : decode cX9_without 59 = .ok (.iload_n 3, 1) := DX9_without_c3.2.2.1
theorem dX9_without_60 : decode cX9_without 60 = .ok (.ireturn, 1) := DX9_without_c3.2.2.2
set_option maxRecDepth 100000 in
theorem DX9_cardOf_c0 : decode cX9_cardOf 0 = .ok (.aload_n 0, 1) ∧ decode cX9_cardOf 1 = .ok (.iload_n 1, 1) ∧ decode cX9_cardOf 2 = .ok (.iconst 1, 1) ∧ decode cX9_cardOf 3 = .ok (.isub, 1) ∧ decode cX9_cardOf 4 = .ok (.iload_n 1, 1) ∧ decode cX9_cardOf 5 = .ok (.iload_n 2, 1) ∧ decode cX9_cardOf 6 = .ok (.iload_n 3, 1) ∧ decode cX9_cardOf 7 = .ok (.invokestatic 87, 3) ∧ decode cX9_cardOf 10 = .ok (.invokevirtual 90, 3) ∧ decode cX9_cardOf 13 = .ok (.ireturn, 1) := by decide +kernel
theorem dX9_cardOf_0 : decode cX9_cardOf 0 = .ok (.aload_n 0, 1) := DX9_cardOf_c0.1
theorem dX9_cardOf_1 : decode cX9_cardOf 1 = .ok (.iload_n 1, 1) := DX9_cardOf_c0.2.1
theorem dX9_cardOf_2 : decode cX9_cardOf 2 = .ok (.iconst 1, 1) := DX9_cardOf_c0.2.2.1
theorem dX9_cardOf_3 : decode cX9_cardOf 3 = .ok (.isub, 1) := DX9_cardOf_c0.2.2.2.1
theorem dX9_cardOf_4 : decode cX9_cardOf 4 = .ok (.iload_n 1, 1) := DX9_cardOf_c0.2.2.2.2.1
theorem dX9_cardOf_5 : decode cX9_cardOf 5 = .ok (.iload_n 2, 1) := DX9_cardOf_c0.2.2.2.2.2.1
theorem dX9_cardOf_6 : decode cX9_cardOf 6 = .ok (.iload_n 3, 1) := DX9_cardOf_c0.2.2.2.2.2.2.1
theorem dX9_cardOf_7 : decode cX9_cardOf 7 = .ok (.invokestatic 87, 3) := DX9_cardOf_c0.2.2.2.2.2.2.2.1
theorem dX9_cardOf_10 : decode cX9_cardOf 10 = .ok (.invokevirtual 90, 3) := DX9_cardOf_c0.2.2.2.2.2.2.2.2.1
theorem dX9_cardOf_13 : decode cX9_cardOf 13 = .ok (.ireturn, 1) := DX9_cardOf_c0.2.2.2.2.2.2.2.2.2
set_option maxRecDepth 100000 in
theorem DX9_canBe_c0 : decode cX9_canBe 0 = .ok (.iconst 0, 1) ∧ decode cX9_canBe 1 = .ok (.istore 5, 2) ∧ decode cX9_canBe 3 = .ok (.iload 5, 2) ∧ decode cX9_canBe 5 = .ok (.iload_n 3, 1) ∧ decode cX9_canBe 6 = .ok (.if_icmp .ge 48, 3) ∧ decode cX9_canBe 9 = .ok (.aload_n 0, 1) ∧ decode cX9_canBe 10 = .ok (.getfield 25, 3) ∧ decode cX9_canBe 13 = .ok (.iload 5, 2) ∧ decode cX9_canBe 15 = .ok (.iaload, 1) ∧ decode cX9_canBe 16 = .ok (.iload 4, 2) := by decide +kernel
theorem dX9_canBe_0 : decode cX9_canBe 0 = .ok (.iconst 0, 1) := DX9_canBe_c0.1
theorem dX9_canBe_1 : decode cX9_canBe 1 = .ok (.istore 5, 2) := DX9_canBe_c0.2.1
theorem dX9_canBe_3 : decode cX9_canBe 3 = .ok (.iload 5, 2) := DX9_canBe_c0.2.2.1
theorem dX9_canBe_5 : decode cX9_canBe 5 = .ok (.iload_n 3, 1) := DX9_canBe_c0.2.2.2.1
theorem dX9_canBe_6 : decode cX9_canBe 6 = .ok (.if_icmp .ge 48, 3) := DX9_canBe_c0.2.2.2.2.1
theorem dX9_canBe_9 : decode cX9_canBe 9 = .ok (.aload_n 0, 1) := DX9_canBe_c0.2.2.2.2.2.1
theorem dX9_canBe_10 : decode cX9_canBe 10 = .ok (.getfield 25, 3) := DX9_canBe_c0.2.2.2.2.2.2.1
theorem dX9_canBe_13 : decode cX9_canBe 13 = .ok (.iload 5, 2) := DX9_canBe_c0.2.2.2.2.2.2.2.1
theorem dX9_canBe_15 : decode cX9_canBe 15 = .ok (.iaload, 1) := DX9_canBe_c0.2.2.2.2.2.2.2.2.1
theorem dX9_canBe_16 : decode cX9_canBe 16 = .ok (.iload 4, 2) := DX9_canBe_c0.2.2.2.2.2.2.2.2.2
set_option maxRecDepth 100000 in
theorem DX9_canBe_c1 : decode cX9_canBe 18 = .ok (.if_icmp .eq 28, 3) ∧ decode cX9_canBe 21 = .ok (.iload_n 1, 1) ∧ decode cX9_canBe 22 = .ok (.iload_n 2, 1) ∧ decode cX9_canBe 23 = .ok (.iload 5, 2) ∧ decode cX9_canBe 25 = .ok (.iload_n 3, 1) ∧ decode cX9_canBe 26 = .ok (.invokestatic 66, 3) ∧ decode cX9_canBe 29 = .ok (.iload_n 1, 1) ∧ decode cX9_canBe 30 = .ok (.iload_n 2, 1) ∧ decode cX9_canBe 31 = .ok (.aload_n 0, 1) ∧ decode cX9_canBe 32 = .ok (.getfield 25, 3) := by decide +kernel
theorem dX9_canBe_18 : decode cX9_canBe 18 = .ok (.if_icmp .eq 28, 3) := DX9_canBe_c1.1
theorem dX9_canBe_21 : decode cX9_canBe 21 = .ok (.iload_n 1, 1) := DX9_canBe_c1.2.1
theorem dX9_canBe_22 : decode cX9_canBe 22 = .ok (.iload_n 2, 1) := DX9_canBe_c1.2.2.1
theorem dX9_canBe_23 : decode cX9_canBe 23 = .ok (.iload 5, 2) := DX9_canBe_c1.2.2.2.1
theorem dX9_canBe_25 : decode cX9_canBe 25 = .ok (.iload_n 3, 1) := DX9_canBe_c1.2.2.2.2.1
theorem dX9_canBe_26 : decode cX9_canBe 26 = .ok (.invokestatic 66, 3) := DX9_canBe_c1.2.2.2.2.2.1
theorem dX9_canBe_29 : decode cX9_canBe 29 = .ok (.iload_n 1, 1) := DX9_canBe_c1.2.2.2.2.2.2.1
theorem dX9_canBe_30 : decode cX9_canBe 30 = .ok (.iload_n 2, 1) := DX9_canBe_c1.2.2.2.2.2.2.2.1
theorem dX9_canBe_31 : decode cX9_canBe 31 = .ok (.aload_n 0, 1) := DX9_canBe_c1.2.2.2.2.2.2.2.2.1
theorem dX9_canBe_32 : decode cX9_canBe 32 = .ok (.getfield 25, 3) := DX9_canBe_c1.2.2.2.2.2.2.2.2.2
set_option maxRecDepth 100000 in
theorem DX9_canBe_c2 : decode cX9_canBe 35 = .ok (.iload 5, 2) ∧ decode cX9_canBe 37 = .ok (.iaload, 1) ∧ decode cX9_canBe 38 = .ok (.iload 4, 2) ∧ decode cX9_canBe 40 = .ok (.invokestatic 66, 3) ∧ decode cX9_canBe 43 = .ok (.if_icmp .eq 5, 3) ∧ decode cX9_canBe 46 = .ok (.iconst 0, 1) ∧ decode cX9_canBe 47 = .ok (.ireturn, 1) ∧ decode cX9_canBe 48 = .ok (.iinc 5 1, 3) ∧ decode cX9_canBe 51 = .ok (.goto (-48), 3) ∧ decode cX9_canBe 54 = .ok (.iconst 1, 1) := by decide +kernel
theorem dX9_canBe_35 : decode cX9_canBe 35 = .ok (.iload 5, 2) := DX9_canBe_c2.1
theorem dX9_canBe_37 : decode cX9_canBe 37 = .ok (.iaload, 1) := DX9_canBe_c2.2.1
theorem dX9_canBe_38 : decode cX9_canBe 38 = .ok (.iload 4, 2) := DX9_canBe_c2.2.2.1
theorem dX9_canBe_40 : decode cX9_canBe 40 = .ok (.invokestatic 66, 3) := DX9_canBe_c2.2.2.2.1
theorem dX9_canBe_43 : decode cX9_canBe 43 = .ok (.if_icmp .eq 5, 3) := DX9_canBe_c2.2.2.2.2.1
theorem dX9_canBe_46 : decode cX9_canBe 46 = .ok (.iconst 0, 1) := DX9_canBe_c2.2.2.2.2.2.1
theorem dX9_canBe_47 : decode cX9_canBe 47 = .ok (.ireturn, 1) := DX9_canBe_c2.2.2.2.2.2.2.1
theorem dX9_canBe_48 : decode cX9_canBe 48 = .ok (.iinc 5 1, 3) := DX9_canBe_c2.2.2.2.2.2.2.2.1
theorem dX9_canBe_51 : decode cX9_canBe 51 = .ok (.goto (-48), 3) := DX9_canBe_c2.2.2.2.2.2.2.2.2.1
theorem dX9_canBe_54 : decode cX9_canBe 54 = .ok (.iconst 1, 1) := DX9_canBe_c2.2.2.2.2.2.2.2.2.2
set_option maxRecDepth 100000 in
theorem DX9_canBe_c3 : decode cX9_canBe 55 = .ok (.ireturn, 1) := by decide +kernel
theorem dX9_canBe_55 : decode cX9_canBe 55 = .ok (.ireturn, 1) := DX9_canBe_c3
set_option maxRecDepth 100000 in
theorem DX9_goThrough_c0 : decode cX9_goThrough 0 = .ok (.aload_n 0, 1) ∧ decode cX9_goThrough 1 = .ok (.iconst 0, 1) ∧ decode cX9_goThrough 2 = .ok (.putfield 93, 3) ∧ decode cX9_goThrough 5 = .ok (.iconst 0, 1) ∧ decode cX9_goThrough 6 = .ok (.istore 5, 2) ∧ decode cX9_goThrough 8 = .ok (.iload 5, 2) ∧ decode cX9_goThrough 10 = .ok (.iload_n 1, 1) ∧ decode cX9_goThrough 11 = .ok (.if_icmp .ge 17, 3) ∧ decode cX9_goThrough 14 = .ok (.aload_n 0, 1) ∧ decode cX9_goThrough 15 = .ok (.getfield 28, 3) := by decide +kernel
theorem dX9_goThrough_0 : decode cX9_goThrough 0 = .ok (.aload_n 0, 1) := DX9_goThrough_c0.1
theorem dX9_goThrough_1 : decode cX9_goThrough 1 = .ok (.iconst 0, 1) := DX9_goThrough_c0.2.1
theorem dX9_goThrough_2 : decode cX9_goThrough 2 = .ok (.putfield 93, 3) := DX9_goThrough_c0.2.2.1
theorem dX9_goThrough_5 : decode cX9_goThrough 5 = .ok (.iconst 0, 1) := DX9_goThrough_c0.2.2.2.1
theorem dX9_goThrough_6 : decode cX9_goThrough 6 = .ok (.istore 5, 2) := DX9_goThrough_c0.2.2.2.2.1
theorem dX9_goThrough_8 : decode cX9_goThrough 8 = .ok (.iload 5, 2) := DX9_goThrough_c0.2.2.2.2.2.1
theorem dX9_goThrough_10 : decode cX9_goThrough 10 = .ok (.iload_n 1, 1) := DX9_goThrough_c0.2.2.2.2.2.2.1
theorem dX9_goThrough_11 : decode cX9_goThrough 11 = .ok (.if_icmp .ge 17, 3) := DX9_goThrough_c0.2.2.2.2.2.2.2.1
theorem dX9_goThrough_14 : decode cX9_goThrough 14 = .ok (.aload_n 0, 1) := DX9_goThrough_c0.2.2.2.2.2.2.2.2.1
theorem dX9_goThrough_15 : decode cX9_goThrough 15 = .ok (.getfield 28, 3) := DX9_goThrough_c0.2.2.2.2.2.2.2.2.2
set_option maxRecDepth 100000 in
theorem DX9_goThrough_c1 : decode cX9_goThrough 18 = .ok (.iload 5, 2) ∧ decode cX9_goThrough 20 = .ok (.iconst 0, 1) ∧ decode cX9_goThrough 21 = .ok (.iastore, 1) ∧ decode cX9_goThrough 22 = .ok (.iinc 5 1, 3) ∧ decode cX9_goThrough 25 = .ok (.goto (-17), 3) ∧ decode cX9_goThrough 28 = .ok (.iconst 0, 1) ∧ decode cX9_goThrough 29 = .ok (.istore 5, 2) ∧ decode cX9_goThrough 31 = .ok (.aload_n 0, 1) ∧ decode cX9_goThrough 32 = .ok (.getfield 25, 3) ∧ decode cX9_goThrough 35 = .ok (.iconst 0, 1) := by decide +kernel
theorem dX9_goThrough_18 : decode cX9_goThrough 18 = .ok (.iload 5, 2) := DX9_goThrough_c1.1
theorem dX9_goThrough_20 : decode cX9_goThrough 20 = .ok (.iconst 0, 1) := DX9_goThrough_c1.2.1
theorem dX9_goThrough_21 : decode cX9_goThrough 21 = .ok (.iastore, 1) := DX9_goThrough_c1.2.2.1
theorem dX9_goThrough_22 : decode cX9_goThrough 22 = .ok (.iinc 5 1, 3) := DX9_goThrough_c1.2.2.2.1
theorem dX9_goThrough_25 : decode cX9_goThrough 25 = .ok (.goto (-17), 3) := DX9_goThrough_c1.2.2.2.2.1
theorem dX9_goThrough_28 : decode cX9_goThrough 28 = .ok (.iconst 0, 1) := DX9_goThrough_c1.2.2.2.2.2.1
theorem dX9_goThrough_29 : decode cX9_goThrough 29 = .ok (.istore 5, 2) := DX9_goThrough_c1.2.2.2.2.2.2.1
theorem dX9_goThrough_31 : decode cX9_goThrough 31 = .ok (.aload_n 0, 1) := DX9_goThrough_c1.2.2.2.2.2.2.2.1
theorem dX9_goThrough_32 : decode cX9_goThrough 32 = .ok (.getfield 25, 3) := DX9_goThrough_c1.2.2.2.2.2.2.2.2.1
theorem dX9_goThrough_35 : decode cX9_goThrough 35 = .ok (.iconst 0, 1) := DX9_goThrough_c1.2.2.2.2.2.2.2.2.2
set_option maxRecDepth 100000 in
theorem DX9_goThrough_c2 : decode cX9_goThrough 36 = .ok (.iconst (-1), 1) ∧ decode cX9_goThrough 37 = .ok (.iastore, 1) ∧ decode cX9_goThrough 38 = .ok (.iload 5, 2) ∧ decode cX9_goThrough 40 = .ok (.ifCond .lt 138, 3) ∧ decode cX9_goThrough 43 = .ok (.aload_n 0, 1) ∧ decode cX9_goThrough 44 = .ok (.getfield 25, 3) ∧ decode cX9_goThrough 47 = .ok (.iload 5, 2) ∧ decode cX9_goThrough 49 = .ok (.dup2, 1) ∧ decode cX9_goThrough 50 = .ok (.iaload, 1) ∧ decode cX9_goThrough 51 = .ok (.iconst 1, 1) := by decide +kernel
theorem dX9_goThrough_36 : decode cX9_goThrough 36 = .ok (.iconst (-1), 1) := DX9_goThrough_c2.1
theorem dX9_goThrough_37 : decode cX9_goThrough 37 = .ok (.iastore, 1) := DX9_goThrough_c2.2.1
theorem dX9_goThrough_38 : decode cX9_goThrough 38 = .ok (.iload 5, 2) := DX9_goThrough_c2.2.2.1
theorem dX9_goThrough_40 : decode cX9_goThrough 40 = .ok (.ifCond .lt 138, 3) := DX9_goThrough_c2.2.2.2.1
theorem dX9_goThrough_43 : decode cX9_goThrough 43 = .ok (.aload_n 0, 1) := DX9_goThrough_c2.2.2.2.2.1
theorem dX9_goThrough_44 : decode cX9_goThrough 44 = .ok (.getfield 25, 3) := DX9_goThrough_c2.2.2.2.2.2.1
theorem dX9_goThrough_47 : decode cX9_goThrough 47 = .ok (.iload 5, 2) := DX9_goThrough_c2.2.2.2.2.2.2.1
theorem dX9_goThrough_49 : decode cX9_goThrough 49 = .ok (.dup2, 1) := DX9_goThrough_c2.2.2.2.2.2.2.2.1
theorem dX9_goThrough_50 : decode cX9_goThrough 50 = .ok (.iaload, 1) := DX9_goThrough_c2.2.2.2.2.2.2.2.2.1
theorem dX9_goThrough_51 : decode cX9_goThrough 51 = .ok (.iconst 1, 1) := DX9_goThrough_c2.2.2.2.2.2.2.2.2.2
set_option maxRecDepth 100000 in
theorem DX9_goThrough_c3 : decode cX9_goThrough 52 = .ok (.iadd, 1) ∧ decode cX9_goThrough 53 = .ok (.iastore, 1) ∧ decode cX9_goThrough 54 = .ok (.aload_n 0, 1) ∧ decode cX9_goThrough 55 = .ok (.getfield 25, 3) ∧ decode cX9_goThrough 58 = .ok (.iload 5, 2) ∧ decode cX9_goThrough 60 = .ok (.iaload, 1) ∧ decode cX9_goThrough 61 = .ok (.istore 6, 2) ∧ decode cX9_goThrough 63 = .ok (.iload 6, 2) ∧ decode cX9_goThrough 65 = .ok (.iload_n 1, 1) ∧ decode cX9_goThrough 66 = .ok (.if_icmp .lt 9, 3) := by decide +kernel
theorem dX9_goThrough_52 : decode cX9_goThrough 52 = .ok (.iadd, 1) := DX9_goThrough_c3.1
theorem dX9_goThrough_53 : decode cX9_goThrough 53 = .ok (.iastore, 1) := DX9_goThrough_c3.2.1
theorem dX9_goThrough_54 : decode cX9_goThrough 54 = .ok (.aload_n 0, 1) := DX9_goThrough_c3.2.2.1
theorem dX9_goThrough_55 : decode cX9_goThrough 55 = .ok (.getfield 25, 3) := DX9_goThrough_c3.2.2.2.1
theorem dX9_goThrough_58 : decode cX9_goThrough 58 = .ok (.iload 5, 2) := DX9_goThrough_c3.2.2.2.2.1
theorem dX9_goThrough_60 : decode cX9_goThrough 60 = .ok (.iaload, 1) := DX9_goThrough_c3.2.2.2.2.2.1
theorem dX9_goThrough_61 : decode cX9_goThrough 61 = .ok (.istore 6, 2) := DX9_goThrough_c3.2.2.2.2.2.2.1
theorem dX9_goThrough_63 : decode cX9_goThrough 63 = .ok (.iload 6, 2) := DX9_goThrough_c3.2.2.2.2.2.2.2.1
theorem dX9_goThrough_65 : decode cX9_goThrough 65 = .ok (.iload_n 1, 1) := DX9_goThrough_c3.2.2.2.2.2.2.2.2.1
theorem dX9_goThrough_66 : decode cX9_goThrough 66 = .ok (.if_icmp .lt 9, 3) := DX9_goThrough_c3.2.2.2.2.2.2.2.2.2
set_option maxRecDepth 100000 in
theorem DX9_goThrough_c4 : decode cX9_goThrough 69 = .ok (.iinc 5 (-1), 3) ∧ decode cX9_goThrough 72 = .ok (.goto 103, 3) ∧ decode cX9_goThrough 75 = .ok (.iload 5, 2) ∧ decode cX9_goThrough 77 = .ok (.iload_n 3, 1) ∧ decode cX9_goThrough 78 = .ok (.if_icmp .ne 10, 3) ∧ decode cX9_goThrough 81 = .ok (.iload 6, 2) ∧ decode cX9_goThrough 83 = .ok (.iload 4, 2) ∧ decode cX9_goThrough 85 = .ok (.if_icmp .ne 90, 3) ∧ decode cX9_goThrough 88 = .ok (.aload_n 0, 1) ∧ decode cX9_goThrough 89 = .ok (.iload_n 1, 1) := by decide +kernel
theorem dX9_goThrough_69 : decode cX9_goThrough 69 = .ok (.iinc 5 (-1), 3) := DX9_goThrough_c4.1
theorem dX9_goThrough_72 : decode cX9_goThrough 72 = .ok (.goto 103, 3) := DX9_goThrough_c4.2.1
theorem dX9_goThrough_75 : decode cX9_goThrough 75 = .ok (.iload 5, 2) := DX9_goThrough_c4.2.2.1
theorem dX9_goThrough_77 : decode cX9_goThrough 77 = .ok (.iload_n 3, 1) := DX9_goThrough_c4.2.2.2.1
theorem dX9_goThrough_78 : decode cX9_goThrough 78 = .ok (.if_icmp .ne 10, 3) := DX9_goThrough_c4.2.2.2.2.1
theorem dX9_goThrough_81 : decode cX9_goThrough 81 = .ok (.iload 6, 2) := DX9_goThrough_c4.2.2.2.2.2.1
theorem dX9_goThrough_83 : decode cX9_goThrough 83 = .ok (.iload 4, 2) := DX9_goThrough_c4.2.2.2.2.2.2.1
theorem dX9_goThrough_85 : decode cX9_goThrough 85 = .ok (.if_icmp .ne 90, 3) := DX9_goThrough_c4.2.2.2.2.2.2.2.1
theorem dX9_goThrough_88 : decode cX9_goThrough 88 = .ok (.aload_n 0, 1) := DX9_goThrough_c4.2.2.2.2.2.2.2.2.1
theorem dX9_goThrough_89 : decode cX9_goThrough 89 = .ok (.iload_n 1, 1) := DX9_goThrough_c4.2.2.2.2.2.2.2.2.2
set_option maxRecDepth 100000 in
theorem DX9_goThrough_c5 : decode cX9_goThrough 90 = .ok (.iload_n 2, 1) ∧ decode cX9_goThrough 91 = .ok (.iload 5, 2) ∧ decode cX9_goThrough 93 = .ok (.iload 6, 2) ∧ decode cX9_goThrough 95 = .ok (.invokevirtual 96, 3) ∧ decode cX9_goThrough 98 = .ok (.ifCond .eq 77, 3) ∧ decode cX9_goThrough 101 = .ok (.iload 5, 2) ∧ decode cX9_goThrough 103 = .ok (.iload_n 1, 1) ∧ decode cX9_goThrough 104 = .ok (.iconst 1, 1) ∧ decode cX9_goThrough 105 = .ok (.isub, 1) ∧ decode cX9_goThrough 106 = .ok (.if_icmp .ge 17, 3) := by decide +kernel
theorem dX9_goThrough_90 : decode cX9_goThrough 90 = .ok (.iload_n 2, 1) := DX9_goThrough_c5.1
theorem dX9_goThrough_91 : decode cX9_goThrough 91 = .ok (.iload 5, 2) := DX9_goThrough_c5.2.1
theorem dX9_goThrough_93 : decode cX9_goThrough 93 = .ok (.iload 6, 2) := DX9_goThrough_c5.2.2.1
theorem dX9_goThrough_95 : decode cX9_goThrough 95 = .ok (.invokevirtual 96, 3) := DX9_goThrough_c5.2.2.2.1
theorem dX9_goThrough_98 : decode cX9_goThrough 98 = .ok (.ifCond .eq 77, 3) := DX9_goThrough_c5.2.2.2.2.1
theorem dX9_goThrough_101 : decode cX9_goThrough 101 = .ok (.iload 5, 2) := DX9_goThrough_c5.2.2.2.2.2.1
theorem dX9_goThrough_103 : decode cX9_goThrough 103 = .ok (.iload_n 1, 1) := DX9_goThrough_c5.2.2.2.2.2.2.1
theorem dX9_goThrough_104 : decode cX9_goThrough 104 = .ok (.iconst 1, 1) := DX9_goThrough_c5.2.2.2.2.2.2.2.1
theorem dX9_goThrough_105 : decode cX9_goThrough 105 = .ok (.isub, 1) := DX9_goThrough_c5.2.2.2.2.2.2.2.2.1
theorem dX9_goThrough_106 : decode cX9_goThrough 106 = .ok (.if_icmp .ge 17, 3) := DX9_goThrough_c5.2.2.2.2.2.2.2.2.2
set_option maxRecDepth 100000 in
theorem DX9_goThrough_c6 : decode cX9_goThrough 109 = .ok (.iinc 5 1, 3) ∧ decode cX9_goThrough 112 = .ok (.aload_n 0, 1) ∧ decode cX9_goThrough 113 = .ok (.getfield 25, 3) ∧ decode cX9_goThrough 116 = .ok (.iload 5, 2) ∧ decode cX9_goThrough 118 = .ok (.iconst (-1), 1) ∧ decode cX9_goThrough 119 = .ok (.iastore, 1) ∧ decode cX9_goThrough 120 = .ok (.goto 55, 3) ∧ decode cX9_goThrough 123 = .ok (.iload_n 3, 1) ∧ decode cX9_goThrough 124 = .ok (.bipush (-9), 2) ∧ decode cX9_goThrough 126 = .ok (.if_icmp .eq 5, 3) := by decide +kernel
theorem dX9_goThrough_109 : decode cX9_goThrough 109 = .ok (.iinc 5 1, 3) := DX9_goThrough_c6.1
theorem dX9_goThrough_112 : decode cX9_goThrough 112 = .ok (.aload_n 0, 1) := DX9_goThrough_c6.2.1
theorem dX9_goThrough_113 : decode cX9_goThrough 113 = .ok (.getfield 25, 3) := DX9_goThrough_c6.2.2.1
theorem dX9_goThrough_116 : decode cX9_goThrough 116 = .ok (.iload 5, 2) := DX9_goThrough_c6.2.2.2.1
theorem dX9_goThrough_118 : decode cX9_goThrough 118 = .ok (.iconst (-1), 1) := DX9_goThrough_c6.2.2.2.2.1
theorem dX9_goThrough_119 : decode cX9_goThrough 119 = .ok (.iastore, 1) := DX9_goThrough_c6.2.2.2.2.2.1
theorem dX9_goThrough_120 : decode cX9_goThrough 120 = .ok (.goto 55, 3) := DX9_goThrough_c6.2.2.2.2.2.2.1
theorem dX9_goThrough_123 : decode cX9_goThrough 123 = .ok (.iload_n 3, 1) := DX9_goThrough_c6.2.2.2.2.2.2.2.1
theorem dX9_goThrough_124 : decode cX9_goThrough 124 = .ok (.bipush (-9), 2) := DX9_goThrough_c6.2.2.2.2.2.2.2.2.1
theorem dX9_goThrough_126 : decode cX9_goThrough 126 = .ok (.if_icmp .eq 5, 3) := DX9_goThrough_c6.2.2.2.2.2.2.2.2.2
set_option maxRecDepth 100000 in
theorem DX9_goThrough_c7 : decode cX9_goThrough 129 = .ok (.iconst 1, 1) ∧ decode cX9_goThrough 130 = .ok (.ireturn, 1) ∧ decode cX9_goThrough 131 = .ok (.aload_n 0, 1) ∧ decode cX9_goThrough 132 = .ok (.dup, 1) ∧ decode cX9_goThrough 133 = .ok (.getfield 93, 3) ∧ decode cX9_goThrough 136 = .ok (.iconst 1, 1) ∧ decode cX9_goThrough 137 = .ok (.iadd, 1) ∧ decode cX9_goThrough 138 = .ok (.putfield 93, 3) ∧ decode cX9_goThrough 141 = .ok (.iconst 0, 1) ∧ decode cX9_goThrough 142 = .ok (.istore 7, 2) := by decide +kernel
theorem dX9_goThrough_129 : decode cX9_goThrough 129 = .ok (.iconst 1, 1) := DX9_goThrough_c7.1
theorem dX9_goThrough_130 : decode cX9_goThrough 130 = .ok (.ireturn, 1) := DX9_goThrough_c7.2.1
theorem dX9_goThrough_131 : decode cX9_goThrough 131 = .ok (.aload_n 0, 1) := DX9_goThrough_c7.2.2.1
theorem dX9_goThrough_132 : decode cX9_goThrough 132 = .ok (.dup, 1) := DX9_goThrough_c7.2.2.2.1
theorem dX9_goThrough_133 : decode cX9_goThrough 133 = .ok (.getfield 93, 3) := DX9_goThrough_c7.2.2.2.2.1
theorem dX9_goThrough_136 : decode cX9_goThrough 136 = .ok (.iconst 1, 1) := DX9_goThrough_c7.2.2.2.2.2.1
theorem dX9_goThrough_137 : decode cX9_goThrough 137 = .ok (.iadd, 1) := DX9_goThrough_c7.2.2.2.2.2.2.1
theorem dX9_goThrough_138 : decode cX9_goThrough 138 = .ok (.putfield 93, 3) := DX9_goThrough_c7.2.2.2.2.2.2.2.1
theorem dX9_goThrough_141 : decode cX9_goThrough 141 = .ok (.iconst 0, 1) := DX9_goThrough_c7.2.2.2.2.2.2.2.2.1
theorem dX9_goThrough_142 : decode cX9_goThrough 142 = .ok (.istore 7, 2) := DX9_goThrough_c7.2.2.2.2.2.2.2.2.2
set_option maxRecDepth 100000 in
theorem DX9_goThrough_c8 : decode cX9_goThrough 144 = .ok (.iload 7, 2) ∧ decode cX9_goThrough 146 = .ok (.iload_n 1, 1) ∧ decode cX9_goThrough 147 = .ok (.if_icmp .ge 28, 3) ∧ decode cX9_goThrough 150 = .ok (.aload_n 0, 1) ∧ decode cX9_goThrough 151 = .ok (.getfield 28, 3) ∧ decode cX9_goThrough 154 = .ok (.iload 7, 2) ∧ decode cX9_goThrough 156 = .ok (.dup2, 1) ∧ decode cX9_goThrough 157 = .ok (.iaload, 1) ∧ decode cX9_goThrough 158 = .ok (.iconst 1, 1) ∧ decode cX9_goThrough 159 = .ok (.aload_n 0, 1) := by decide +kernel
theorem dX9_goThrough_144 : decode cX9_goThrough 144 = .ok (.iload 7, 2) := DX9_goThrough_c8.1
theorem dX9_goThrough_146 : decode cX9_goThrough 146 = .ok (.iload_n 1, 1) := DX9_goThrough_c8.2.1
theorem dX9_goThrough_147 : decode cX9_goThrough 147 = .ok (.if_icmp .ge 28, 3) := DX9_goThrough_c8.2.2.1
theorem dX9_goThrough_150 : decode cX9_goThrough 150 = .ok (.aload_n 0, 1) := DX9_goThrough_c8.2.2.2.1
theorem dX9_goThrough_151 : decode cX9_goThrough 151 = .ok (.getfield 28, 3) := DX9_goThrough_c8.2.2.2.2.1
theorem dX9_goThrough_154 : decode cX9_goThrough 154 = .ok (.iload 7, 2) := DX9_goThrough_c8.2.2.2.2.2.1
theorem dX9_goThrough_156 : decode cX9_goThrough 156 = .ok (.dup2, 1) := DX9_goThrough_c8.2.2.2.2.2.2.1
theorem dX9_goThrough_157 : decode cX9_goThrough 157 = .ok (.iaload, 1) := DX9_goThrough_c8.2.2.2.2.2.2.2.1
theorem dX9_goThrough_158 : decode cX9_goThrough 158 = .ok (.iconst 1, 1) := DX9_goThrough_c8.2.2.2.2.2.2.2.2.1
theorem dX9_goThrough_159 : decode cX9_goThrough 159 = .ok (.aload_n 0, 1) := DX9_goThrough_c8.2.2.2.2.2.2.2.2.2
set_option maxRecDepth 100000 in
theorem DX9_goThrough_c9 : decode cX9_goThrough 160 = .ok (.getfield 25, 3) ∧ decode cX9_goThrough 163 = .ok (.iload 7, 2) ∧ decode cX9_goThrough 165 = .ok (.iaload, 1) ∧ decode cX9_goThrough 166 = .ok (.ishl, 1) ∧ decode cX9_goThrough 167 = .ok (.ior, 1) ∧ decode cX9_goThrough 168 = .ok (.iastore, 1) ∧ decode cX9_goThrough 169 = .ok (.iinc 7 1, 3) ∧ decode cX9_goThrough 172 = .ok (.goto (-28), 3) ∧ decode cX9_goThrough 175 = .ok (.goto (-137), 3) ∧ decode cX9_goThrough 178 = .ok (.iconst 0, 1) := by decide +kernel
theorem dX9_goThrough_160 : decode cX9_goThrough 160 = .ok (.getfield 25, 3) := DX9_goThrough_c9.1
theorem dX9_goThrough_163 : decode cX9_goThrough 163 = .ok (.iload 7, 2) := DX9_goThrough_c9.2.1
theorem dX9_goThrough_165 : decode cX9_goThrough 165 = .ok (.iaload, 1) := DX9_goThrough_c9.2.2.1
theorem dX9_goThrough_166 : decode cX9_goThrough 166 = .ok (.ishl, 1) := DX9_goThrough_c9.2.2.2.1
theorem dX9_goThrough_167 : decode cX9_goThrough 167 = .ok (.ior, 1) := DX9_goThrough_c9.2.2.2.2.1
theorem dX9_goThrough_168 : decode cX9_goThrough 168 = .ok (.iastore, 1) := DX9_goThrough_c9.2.2.2.2.2.1
theorem dX9_goThrough_169 : decode cX9_goThrough 169 = .ok (.iinc 7 1, 3) := DX9_goThrough_c9.2.2.2.2.2.2.1
theorem dX9_goThrough_172 : decode cX9_goThrough 172 = .ok (.goto (-28), 3) := DX9_goThrough_c9.2.2.2.2.2.2.2.1
theorem dX9_goThrough_175 : decode cX9_goThrough 175 = .ok (.goto (-137), 3) := DX9_goThrough_c9.2.2.2.2.2.2.2.2.1
theorem dX9_goThrough_178 : decode cX9_goThrough 178 = .ok (.iconst 0, 1) := DX9_goThrough_c9.2.2.2.2.2.2.2.2.2
set_option maxRecDepth 100000 in
theorem DX9_goThrough_c10 : decode cX9_goThrough 179 = .ok (.ireturn, 1) := by decide +kernel
theorem dX9_goThrough_179 : decode cX9_goThrough 179 = .ok (.ireturn, 1) := DX9_goThrough_c10
set_option maxRecDepth 100000 in
theorem DX9_layOrbits_c0 : decode cX9_layOrbits 0 = .ok (.aload_n 0, 1) ∧ decode cX9_layOrbits 1 = .ok (.aload_n 0, 1) ∧ decode cX9_layOrbits 2 = .ok (.getfield 7, 3) ∧ decode cX9_layOrbits 5 = .ok (.iconst 0, 1) ∧ decode cX9_layOrbits 6 = .ok (.iaload, 1) ∧ decode cX9_layOrbits 7 = .ok (.aload_n 0, 1) ∧ decode cX9_layOrbits 8 = .ok (.getfield 7, 3) ∧ decode cX9_layOrbits 11 = .ok (.iconst 1, 1) ∧ decode cX9_layOrbits 12 = .ok (.iaload, 1) ∧ decode cX9_layOrbits 13 = .ok (.bipush (-9), 2) := by decide +kernel
theorem dX9_layOrbits_0 : decode cX9_layOrbits 0 = .ok (.aload_n 0, 1) := DX9_layOrbits_c0.1
theorem dX9_layOrbits_1 : decode cX9_layOrbits 1 = .ok (.aload_n 0, 1) := DX9_layOrbits_c0.2.1
theorem dX9_layOrbits_2 : decode cX9_layOrbits 2 = .ok (.getfield 7, 3) := DX9_layOrbits_c0.2.2.1
theorem dX9_layOrbits_5 : decode cX9_layOrbits 5 = .ok (.iconst 0, 1) := DX9_layOrbits_c0.2.2.2.1
theorem dX9_layOrbits_6 : decode cX9_layOrbits 6 = .ok (.iaload, 1) := DX9_layOrbits_c0.2.2.2.2.1
theorem dX9_layOrbits_7 : decode cX9_layOrbits 7 = .ok (.aload_n 0, 1) := DX9_layOrbits_c0.2.2.2.2.2.1
theorem dX9_layOrbits_8 : decode cX9_layOrbits 8 = .ok (.getfield 7, 3) := DX9_layOrbits_c0.2.2.2.2.2.2.1
theorem dX9_layOrbits_11 : decode cX9_layOrbits 11 = .ok (.iconst 1, 1) := DX9_layOrbits_c0.2.2.2.2.2.2.2.1
theorem dX9_layOrbits_12 : decode cX9_layOrbits 12 = .ok (.iaload, 1) := DX9_layOrbits_c0.2.2.2.2.2.2.2.2.1
theorem dX9_layOrbits_13 : decode cX9_layOrbits 13 = .ok (.bipush (-9), 2) := DX9_layOrbits_c0.2.2.2.2.2.2.2.2.2
set_option maxRecDepth 100000 in
theorem DX9_layOrbits_c1 : decode cX9_layOrbits 15 = .ok (.bipush (-9), 2) ∧ decode cX9_layOrbits 17 = .ok (.invokevirtual 100, 3) ∧ decode cX9_layOrbits 20 = .ok (.istore_n 1, 1) ∧ decode cX9_layOrbits 21 = .ok (.return_, 1) := by decide +kernel
theorem dX9_layOrbits_15 : decode cX9_layOrbits 15 = .ok (.bipush (-9), 2) := DX9_layOrbits_c1.1
theorem dX9_layOrbits_17 : decode cX9_layOrbits 17 = .ok (.invokevirtual 100, 3) := DX9_layOrbits_c1.2.1
theorem dX9_layOrbits_20 : decode cX9_layOrbits 20 = .ok (.istore_n 1, 1) := DX9_layOrbits_c1.2.2.1
theorem dX9_layOrbits_21 : decode cX9_layOrbits 21 = .ok (.return_, 1) := DX9_layOrbits_c1.2.2.2
set_option maxRecDepth 100000 in
theorem DX9_layCards_c0 : decode cX9_layCards 0 = .ok (.iconst 0, 1) ∧ decode cX9_layCards 1 = .ok (.istore_n 1, 1) ∧ decode cX9_layCards 2 = .ok (.iload_n 1, 1) ∧ decode cX9_layCards 3 = .ok (.aload_n 0, 1) ∧ decode cX9_layCards 4 = .ok (.getfield 7, 3) ∧ decode cX9_layCards 7 = .ok (.iconst 0, 1) ∧ decode cX9_layCards 8 = .ok (.iaload, 1) ∧ decode cX9_layCards 9 = .ok (.if_icmp .ge 32, 3) ∧ decode cX9_layCards 12 = .ok (.aload_n 0, 1) ∧ decode cX9_layCards 13 = .ok (.getfield 31, 3) := by decide +kernel
theorem dX9_layCards_0 : decode cX9_layCards 0 = .ok (.iconst 0, 1) := DX9_layCards_c0.1
theorem dX9_layCards_1 : decode cX9_layCards 1 = .ok (.istore_n 1, 1) := DX9_layCards_c0.2.1
theorem dX9_layCards_2 : decode cX9_layCards 2 = .ok (.iload_n 1, 1) := DX9_layCards_c0.2.2.1
theorem dX9_layCards_3 : decode cX9_layCards 3 = .ok (.aload_n 0, 1) := DX9_layCards_c0.2.2.2.1
theorem dX9_layCards_4 : decode cX9_layCards 4 = .ok (.getfield 7, 3) := DX9_layCards_c0.2.2.2.2.1
theorem dX9_layCards_7 : decode cX9_layCards 7 = .ok (.iconst 0, 1) := DX9_layCards_c0.2.2.2.2.2.1
theorem dX9_layCards_8 : decode cX9_layCards 8 = .ok (.iaload, 1) := DX9_layCards_c0.2.2.2.2.2.2.1
theorem dX9_layCards_9 : decode cX9_layCards 9 = .ok (.if_icmp .ge 32, 3) := DX9_layCards_c0.2.2.2.2.2.2.2.1
theorem dX9_layCards_12 : decode cX9_layCards 12 = .ok (.aload_n 0, 1) := DX9_layCards_c0.2.2.2.2.2.2.2.2.1
theorem dX9_layCards_13 : decode cX9_layCards 13 = .ok (.getfield 31, 3) := DX9_layCards_c0.2.2.2.2.2.2.2.2.2
set_option maxRecDepth 100000 in
theorem DX9_layCards_c1 : decode cX9_layCards 16 = .ok (.iload_n 1, 1) ∧ decode cX9_layCards 17 = .ok (.aload_n 0, 1) ∧ decode cX9_layCards 18 = .ok (.aload_n 0, 1) ∧ decode cX9_layCards 19 = .ok (.getfield 7, 3) ∧ decode cX9_layCards 22 = .ok (.iconst 0, 1) ∧ decode cX9_layCards 23 = .ok (.iaload, 1) ∧ decode cX9_layCards 24 = .ok (.aload_n 0, 1) ∧ decode cX9_layCards 25 = .ok (.getfield 7, 3) ∧ decode cX9_layCards 28 = .ok (.iconst 1, 1) ∧ decode cX9_layCards 29 = .ok (.iaload, 1) := by decide +kernel
theorem dX9_layCards_16 : decode cX9_layCards 16 = .ok (.iload_n 1, 1) := DX9_layCards_c1.1
theorem dX9_layCards_17 : decode cX9_layCards 17 = .ok (.aload_n 0, 1) := DX9_layCards_c1.2.1
theorem dX9_layCards_18 : decode cX9_layCards 18 = .ok (.aload_n 0, 1) := DX9_layCards_c1.2.2.1
theorem dX9_layCards_19 : decode cX9_layCards 19 = .ok (.getfield 7, 3) := DX9_layCards_c1.2.2.2.1
theorem dX9_layCards_22 : decode cX9_layCards 22 = .ok (.iconst 0, 1) := DX9_layCards_c1.2.2.2.2.1
theorem dX9_layCards_23 : decode cX9_layCards 23 = .ok (.iaload, 1) := DX9_layCards_c1.2.2.2.2.2.1
theorem dX9_layCards_24 : decode cX9_layCards 24 = .ok (.aload_n 0, 1) := DX9_layCards_c1.2.2.2.2.2.2.1
theorem dX9_layCards_25 : decode cX9_layCards 25 = .ok (.getfield 7, 3) := DX9_layCards_c1.2.2.2.2.2.2.2.1
theorem dX9_layCards_28 : decode cX9_layCards 28 = .ok (.iconst 1, 1) := DX9_layCards_c1.2.2.2.2.2.2.2.2.1
theorem dX9_layCards_29 : decode cX9_layCards 29 = .ok (.iaload, 1) := DX9_layCards_c1.2.2.2.2.2.2.2.2.2
set_option maxRecDepth 100000 in
theorem DX9_layCards_c2 : decode cX9_layCards 30 = .ok (.iload_n 1, 1) ∧ decode cX9_layCards 31 = .ok (.invokevirtual 103, 3) ∧ decode cX9_layCards 34 = .ok (.iastore, 1) ∧ decode cX9_layCards 35 = .ok (.iinc 1 1, 3) ∧ decode cX9_layCards 38 = .ok (.goto (-36), 3) ∧ decode cX9_layCards 41 = .ok (.return_, 1) := by decide +kernel
theorem dX9_layCards_30 : decode cX9_layCards 30 = .ok (.iload_n 1, 1) := DX9_layCards_c2.1
theorem dX9_layCards_31 : decode cX9_layCards 31 = .ok (.invokevirtual 103, 3) := DX9_layCards_c2.2.1
theorem dX9_layCards_34 : decode cX9_layCards 34 = .ok (.iastore, 1) := DX9_layCards_c2.2.2.1
theorem dX9_layCards_35 : decode cX9_layCards 35 = .ok (.iinc 1 1, 3) := DX9_layCards_c2.2.2.2.1
theorem dX9_layCards_38 : decode cX9_layCards 38 = .ok (.goto (-36), 3) := DX9_layCards_c2.2.2.2.2.1
theorem dX9_layCards_41 : decode cX9_layCards 41 = .ok (.return_, 1) := DX9_layCards_c2.2.2.2.2.2
set_option maxRecDepth 100000 in
theorem DX9_pseudo_c0 : decode cX9_pseudo 0 = .ok (.iconst 0, 1) ∧ decode cX9_pseudo 1 = .ok (.istore_n 2, 1) ∧ decode cX9_pseudo 2 = .ok (.iconst 0, 1) ∧ decode cX9_pseudo 3 = .ok (.istore_n 3, 1) ∧ decode cX9_pseudo 4 = .ok (.iload_n 3, 1) ∧ decode cX9_pseudo 5 = .ok (.aload_n 0, 1) ∧ decode cX9_pseudo 6 = .ok (.getfield 7, 3) ∧ decode cX9_pseudo 9 = .ok (.iconst 0, 1) ∧ decode cX9_pseudo 10 = .ok (.iaload, 1) ∧ decode cX9_pseudo 11 = .ok (.if_icmp .ge 52, 3) := by decide +kernel
theorem dX9_pseudo_0 : decode cX9_pseudo 0 = .ok (.iconst 0, 1) := DX9_pseudo_c0.1
theorem dX9_pseudo_1 : decode cX9_pseudo 1 = .ok (.istore_n 2, 1) := DX9_pseudo_c0.2.1
theorem dX9_pseudo_2 : decode cX9_pseudo 2 = .ok (.iconst 0, 1) := DX9_pseudo_c0.2.2.1
theorem dX9_pseudo_3 : decode cX9_pseudo 3 = .ok (.istore_n 3, 1) := DX9_pseudo_c0.2.2.2.1
theorem dX9_pseudo_4 : decode cX9_pseudo 4 = .ok (.iload_n 3, 1) := DX9_pseudo_c0.2.2.2.2.1
theorem dX9_pseudo_5 : decode cX9_pseudo 5 = .ok (.aload_n 0, 1) := DX9_pseudo_c0.2.2.2.2.2.1
theorem dX9_pseudo_6 : decode cX9_pseudo 6 = .ok (.getfield 7, 3) := DX9_pseudo_c0.2.2.2.2.2.2.1
theorem dX9_pseudo_9 : decode cX9_pseudo 9 = .ok (.iconst 0, 1) := DX9_pseudo_c0.2.2.2.2.2.2.2.1
theorem dX9_pseudo_10 : decode cX9_pseudo 10 = .ok (.iaload, 1) := DX9_pseudo_c0.2.2.2.2.2.2.2.2.1
theorem dX9_pseudo_11 : decode cX9_pseudo 11 = .ok (.if_icmp .ge 52, 3) := DX9_pseudo_c0.2.2.2.2.2.2.2.2.2
set_option maxRecDepth 100000 in
theorem DX9_pseudo_c1 : decode cX9_pseudo 14 = .ok (.iload_n 2, 1) ∧ decode cX9_pseudo 15 = .ok (.iload_n 3, 1) ∧ decode cX9_pseudo 16 = .ok (.iload_n 1, 1) ∧ decode cX9_pseudo 17 = .ok (.if_icmp .eq 37, 3) ∧ decode cX9_pseudo 20 = .ok (.aload_n 0, 1) ∧ decode cX9_pseudo 21 = .ok (.getfield 31, 3) ∧ decode cX9_pseudo 24 = .ok (.iload_n 3, 1) ∧ decode cX9_pseudo 25 = .ok (.iaload, 1) ∧ decode cX9_pseudo 26 = .ok (.aload_n 0, 1) ∧ decode cX9_pseudo 27 = .ok (.getfield 31, 3) := by decide +kernel
theorem dX9_pseudo_14 : decode cX9_pseudo 14 = .ok (.iload_n 2, 1) := DX9_pseudo_c1.1
theorem dX9_pseudo_15 : decode cX9_pseudo 15 = .ok (.iload_n 3, 1) := DX9_pseudo_c1.2.1
theorem dX9_pseudo_16 : decode cX9_pseudo 16 = .ok (.iload_n 1, 1) := DX9_pseudo_c1.2.2.1
theorem dX9_pseudo_17 : decode cX9_pseudo 17 = .ok (.if_icmp .eq 37, 3) := DX9_pseudo_c1.2.2.2.1
theorem dX9_pseudo_20 : decode cX9_pseudo 20 = .ok (.aload_n 0, 1) := DX9_pseudo_c1.2.2.2.2.1
theorem dX9_pseudo_21 : decode cX9_pseudo 21 = .ok (.getfield 31, 3) := DX9_pseudo_c1.2.2.2.2.2.1
theorem dX9_pseudo_24 : decode cX9_pseudo 24 = .ok (.iload_n 3, 1) := DX9_pseudo_c1.2.2.2.2.2.2.1
theorem dX9_pseudo_25 : decode cX9_pseudo 25 = .ok (.iaload, 1) := DX9_pseudo_c1.2.2.2.2.2.2.2.1
theorem dX9_pseudo_26 : decode cX9_pseudo 26 = .ok (.aload_n 0, 1) := DX9_pseudo_c1.2.2.2.2.2.2.2.2.1
theorem dX9_pseudo_27 : decode cX9_pseudo 27 = .ok (.getfield 31, 3) := DX9_pseudo_c1.2.2.2.2.2.2.2.2.2
set_option maxRecDepth 100000 in
theorem DX9_pseudo_c2 : decode cX9_pseudo 30 = .ok (.iload_n 1, 1) ∧ decode cX9_pseudo 31 = .ok (.iaload, 1) ∧ decode cX9_pseudo 32 = .ok (.if_icmp .ne 22, 3) ∧ decode cX9_pseudo 35 = .ok (.aload_n 0, 1) ∧ decode cX9_pseudo 36 = .ok (.getfield 28, 3) ∧ decode cX9_pseudo 39 = .ok (.iload_n 1, 1) ∧ decode cX9_pseudo 40 = .ok (.iaload, 1) ∧ decode cX9_pseudo 41 = .ok (.iload_n 3, 1) ∧ decode cX9_pseudo 42 = .ok (.ishr, 1) ∧ decode cX9_pseudo 43 = .ok (.iconst 1, 1) := by decide +kernel
theorem dX9_pseudo_30 : decode cX9_pseudo 30 = .ok (.iload_n 1, 1) := DX9_pseudo_c2.1
theorem dX9_pseudo_31 : decode cX9_pseudo 31 = .ok (.iaload, 1) := DX9_pseudo_c2.2.1
theorem dX9_pseudo_32 : decode cX9_pseudo 32 = .ok (.if_icmp .ne 22, 3) := DX9_pseudo_c2.2.2.1
theorem dX9_pseudo_35 : decode cX9_pseudo 35 = .ok (.aload_n 0, 1) := DX9_pseudo_c2.2.2.2.1
theorem dX9_pseudo_36 : decode cX9_pseudo 36 = .ok (.getfield 28, 3) := DX9_pseudo_c2.2.2.2.2.1
theorem dX9_pseudo_39 : decode cX9_pseudo 39 = .ok (.iload_n 1, 1) := DX9_pseudo_c2.2.2.2.2.2.1
theorem dX9_pseudo_40 : decode cX9_pseudo 40 = .ok (.iaload, 1) := DX9_pseudo_c2.2.2.2.2.2.2.1
theorem dX9_pseudo_41 : decode cX9_pseudo 41 = .ok (.iload_n 3, 1) := DX9_pseudo_c2.2.2.2.2.2.2.2.1
theorem dX9_pseudo_42 : decode cX9_pseudo 42 = .ok (.ishr, 1) := DX9_pseudo_c2.2.2.2.2.2.2.2.2.1
theorem dX9_pseudo_43 : decode cX9_pseudo 43 = .ok (.iconst 1, 1) := DX9_pseudo_c2.2.2.2.2.2.2.2.2.2
set_option maxRecDepth 100000 in
theorem DX9_pseudo_c3 : decode cX9_pseudo 44 = .ok (.iand, 1) ∧ decode cX9_pseudo 45 = .ok (.ifCond .ne 9, 3) ∧ decode cX9_pseudo 48 = .ok (.iconst 1, 1) ∧ decode cX9_pseudo 49 = .ok (.iload_n 3, 1) ∧ decode cX9_pseudo 50 = .ok (.ishl, 1) ∧ decode cX9_pseudo 51 = .ok (.goto 4, 3) ∧ decode cX9_pseudo 54 = .ok (.iconst 0, 1) ∧ decode cX9_pseudo 55 = .ok (.ior, 1) ∧ decode cX9_pseudo 56 = .ok (.istore_n 2, 1) ∧ decode cX9_pseudo 57 = .ok (.iinc 3 1, 3) := by decide +kernel
theorem dX9_pseudo_44 : decode cX9_pseudo 44 = .ok (.iand, 1) := DX9_pseudo_c3.1
theorem dX9_pseudo_45 : decode cX9_pseudo 45 = .ok (.ifCond .ne 9, 3) := DX9_pseudo_c3.2.1
theorem dX9_pseudo_48 : decode cX9_pseudo 48 = .ok (.iconst 1, 1) := DX9_pseudo_c3.2.2.1
theorem dX9_pseudo_49 : decode cX9_pseudo 49 = .ok (.iload_n 3, 1) := DX9_pseudo_c3.2.2.2.1
theorem dX9_pseudo_50 : decode cX9_pseudo 50 = .ok (.ishl, 1) := DX9_pseudo_c3.2.2.2.2.1
theorem dX9_pseudo_51 : decode cX9_pseudo 51 = .ok (.goto 4, 3) := DX9_pseudo_c3.2.2.2.2.2.1
theorem dX9_pseudo_54 : decode cX9_pseudo 54 = .ok (.iconst 0, 1) := DX9_pseudo_c3.2.2.2.2.2.2.1
theorem dX9_pseudo_55 : decode cX9_pseudo 55 = .ok (.ior, 1) := DX9_pseudo_c3.2.2.2.2.2.2.2.1
theorem dX9_pseudo_56 : decode cX9_pseudo 56 = .ok (.istore_n 2, 1) := DX9_pseudo_c3.2.2.2.2.2.2.2.2.1
theorem dX9_pseudo_57 : decode cX9_pseudo 57 = .ok (.iinc 3 1, 3) := DX9_pseudo_c3.2.2.2.2.2.2.2.2.2
set_option maxRecDepth 100000 in
theorem DX9_pseudo_c4 : decode cX9_pseudo 60 = .ok (.goto (-56), 3) ∧ decode cX9_pseudo 63 = .ok (.iload_n 2, 1) ∧ decode cX9_pseudo 64 = .ok (.ireturn, 1) := by decide +kernel
theorem dX9_pseudo_60 : decode cX9_pseudo 60 = .ok (.goto (-56), 3) := DX9_pseudo_c4.1
theorem dX9_pseudo_63 : decode cX9_pseudo 63 = .ok (.iload_n 2, 1) := DX9_pseudo_c4.2.1
theorem dX9_pseudo_64 : decode cX9_pseudo 64 = .ok (.ireturn, 1) := DX9_pseudo_c4.2.2
set_option maxRecDepth 100000 in
theorem DX9_classes_c0 : decode cX9_classes 0 = .ok (.aload_n 0, 1) ∧ decode cX9_classes 1 = .ok (.invokevirtual 106, 3) ∧ decode cX9_classes 4 = .ok (.iconst 0, 1) ∧ decode cX9_classes 5 = .ok (.istore_n 1, 1) ∧ decode cX9_classes 6 = .ok (.iconst 0, 1) ∧ decode cX9_classes 7 = .ok (.istore_n 2, 1) ∧ decode cX9_classes 8 = .ok (.iload_n 2, 1) ∧ decode cX9_classes 9 = .ok (.aload_n 0, 1) ∧ decode cX9_classes 10 = .ok (.getfield 7, 3) ∧ decode cX9_classes 13 = .ok (.iconst 0, 1) := by decide +kernel
theorem dX9_classes_0 : decode cX9_classes 0 = .ok (.aload_n 0, 1) := DX9_classes_c0.1
theorem dX9_classes_1 : decode cX9_classes 1 = .ok (.invokevirtual 106, 3) := DX9_classes_c0.2.1
theorem dX9_classes_4 : decode cX9_classes 4 = .ok (.iconst 0, 1) := DX9_classes_c0.2.2.1
theorem dX9_classes_5 : decode cX9_classes 5 = .ok (.istore_n 1, 1) := DX9_classes_c0.2.2.2.1
theorem dX9_classes_6 : decode cX9_classes 6 = .ok (.iconst 0, 1) := DX9_classes_c0.2.2.2.2.1
theorem dX9_classes_7 : decode cX9_classes 7 = .ok (.istore_n 2, 1) := DX9_classes_c0.2.2.2.2.2.1
theorem dX9_classes_8 : decode cX9_classes 8 = .ok (.iload_n 2, 1) := DX9_classes_c0.2.2.2.2.2.2.1
theorem dX9_classes_9 : decode cX9_classes 9 = .ok (.aload_n 0, 1) := DX9_classes_c0.2.2.2.2.2.2.2.1
theorem dX9_classes_10 : decode cX9_classes 10 = .ok (.getfield 7, 3) := DX9_classes_c0.2.2.2.2.2.2.2.2.1
theorem dX9_classes_13 : decode cX9_classes 13 = .ok (.iconst 0, 1) := DX9_classes_c0.2.2.2.2.2.2.2.2.2
set_option maxRecDepth 100000 in
theorem DX9_classes_c1 : decode cX9_classes 14 = .ok (.iaload, 1) ∧ decode cX9_classes 15 = .ok (.if_icmp .ge 32, 3) ∧ decode cX9_classes 18 = .ok (.iload_n 1, 1) ∧ decode cX9_classes 19 = .ok (.aload_n 0, 1) ∧ decode cX9_classes 20 = .ok (.getfield 28, 3) ∧ decode cX9_classes 23 = .ok (.iload_n 2, 1) ∧ decode cX9_classes 24 = .ok (.iaload, 1) ∧ decode cX9_classes 25 = .ok (.iconst 1, 1) ∧ decode cX9_classes 26 = .ok (.iload_n 2, 1) ∧ decode cX9_classes 27 = .ok (.ishl, 1) := by decide +kernel
theorem dX9_classes_14 : decode cX9_classes 14 = .ok (.iaload, 1) := DX9_classes_c1.1
theorem dX9_classes_15 : decode cX9_classes 15 = .ok (.if_icmp .ge 32, 3) := DX9_classes_c1.2.1
theorem dX9_classes_18 : decode cX9_classes 18 = .ok (.iload_n 1, 1) := DX9_classes_c1.2.2.1
theorem dX9_classes_19 : decode cX9_classes 19 = .ok (.aload_n 0, 1) := DX9_classes_c1.2.2.2.1
theorem dX9_classes_20 : decode cX9_classes 20 = .ok (.getfield 28, 3) := DX9_classes_c1.2.2.2.2.1
theorem dX9_classes_23 : decode cX9_classes 23 = .ok (.iload_n 2, 1) := DX9_classes_c1.2.2.2.2.2.1
theorem dX9_classes_24 : decode cX9_classes 24 = .ok (.iaload, 1) := DX9_classes_c1.2.2.2.2.2.2.1
theorem dX9_classes_25 : decode cX9_classes 25 = .ok (.iconst 1, 1) := DX9_classes_c1.2.2.2.2.2.2.2.1
theorem dX9_classes_26 : decode cX9_classes 26 = .ok (.iload_n 2, 1) := DX9_classes_c1.2.2.2.2.2.2.2.2.1
theorem dX9_classes_27 : decode cX9_classes 27 = .ok (.ishl, 1) := DX9_classes_c1.2.2.2.2.2.2.2.2.2
set_option maxRecDepth 100000 in
theorem DX9_classes_c2 : decode cX9_classes 28 = .ok (.iconst 1, 1) ∧ decode cX9_classes 29 = .ok (.isub, 1) ∧ decode cX9_classes 30 = .ok (.iand, 1) ∧ decode cX9_classes 31 = .ok (.ifCond .ne 7, 3) ∧ decode cX9_classes 34 = .ok (.iconst 1, 1) ∧ decode cX9_classes 35 = .ok (.goto 4, 3) ∧ decode cX9_classes 38 = .ok (.iconst 0, 1) ∧ decode cX9_classes 39 = .ok (.iadd, 1) ∧ decode cX9_classes 40 = .ok (.istore_n 1, 1) ∧ decode cX9_classes 41 = .ok (.iinc 2 1, 3) := by decide +kernel
theorem dX9_classes_28 : decode cX9_classes 28 = .ok (.iconst 1, 1) := DX9_classes_c2.1
theorem dX9_classes_29 : decode cX9_classes 29 = .ok (.isub, 1) := DX9_classes_c2.2.1
theorem dX9_classes_30 : decode cX9_classes 30 = .ok (.iand, 1) := DX9_classes_c2.2.2.1
theorem dX9_classes_31 : decode cX9_classes 31 = .ok (.ifCond .ne 7, 3) := DX9_classes_c2.2.2.2.1
theorem dX9_classes_34 : decode cX9_classes 34 = .ok (.iconst 1, 1) := DX9_classes_c2.2.2.2.2.1
theorem dX9_classes_35 : decode cX9_classes 35 = .ok (.goto 4, 3) := DX9_classes_c2.2.2.2.2.2.1
theorem dX9_classes_38 : decode cX9_classes 38 = .ok (.iconst 0, 1) := DX9_classes_c2.2.2.2.2.2.2.1
theorem dX9_classes_39 : decode cX9_classes 39 = .ok (.iadd, 1) := DX9_classes_c2.2.2.2.2.2.2.2.1
theorem dX9_classes_40 : decode cX9_classes 40 = .ok (.istore_n 1, 1) := DX9_classes_c2.2.2.2.2.2.2.2.2.1
theorem dX9_classes_41 : decode cX9_classes 41 = .ok (.iinc 2 1, 3) := DX9_classes_c2.2.2.2.2.2.2.2.2.2
set_option maxRecDepth 100000 in
theorem DX9_classes_c3 : decode cX9_classes 44 = .ok (.goto (-36), 3) ∧ decode cX9_classes 47 = .ok (.iload_n 1, 1) ∧ decode cX9_classes 48 = .ok (.ireturn, 1) := by decide +kernel
theorem dX9_classes_44 : decode cX9_classes 44 = .ok (.goto (-36), 3) := DX9_classes_c3.1
theorem dX9_classes_47 : decode cX9_classes 47 = .ok (.iload_n 1, 1) := DX9_classes_c3.2.1
theorem dX9_classes_48 : decode cX9_classes 48 = .ok (.ireturn, 1) := DX9_classes_c3.2.2
set_option maxRecDepth 100000 in
theorem DX9_differentCards_c0 : decode cX9_differentCards 0 = .ok (.aload_n 0, 1) ∧ decode cX9_differentCards 1 = .ok (.getfield 7, 3) ∧ decode cX9_differentCards 4 = .ok (.iconst 0, 1) ∧ decode cX9_differentCards 5 = .ok (.iaload, 1) ∧ decode cX9_differentCards 6 = .ok (.iconst 1, 1) ∧ decode cX9_differentCards 7 = .ok (.if_icmp .ne 5, 3) ∧ decode cX9_differentCards 10 = .ok (.iconst 0, 1) ∧ decode cX9_differentCards 11 = .ok (.ireturn, 1) ∧ decode cX9_differentCards 12 = .ok (.aload_n 0, 1) ∧ decode cX9_differentCards 13 = .ok (.invokevirtual 109, 3) := by decide +kernel
theorem dX9_differentCards_0 : decode cX9_differentCards 0 = .ok (.aload_n 0, 1) := DX9_differentCards_c0.1
theorem dX9_differentCards_1 : decode cX9_differentCards 1 = .ok (.getfield 7, 3) := DX9_differentCards_c0.2.1
theorem dX9_differentCards_4 : decode cX9_differentCards 4 = .ok (.iconst 0, 1) := DX9_differentCards_c0.2.2.1
theorem dX9_differentCards_5 : decode cX9_differentCards 5 = .ok (.iaload, 1) := DX9_differentCards_c0.2.2.2.1
theorem dX9_differentCards_6 : decode cX9_differentCards 6 = .ok (.iconst 1, 1) := DX9_differentCards_c0.2.2.2.2.1
theorem dX9_differentCards_7 : decode cX9_differentCards 7 = .ok (.if_icmp .ne 5, 3) := DX9_differentCards_c0.2.2.2.2.2.1
theorem dX9_differentCards_10 : decode cX9_differentCards 10 = .ok (.iconst 0, 1) := DX9_differentCards_c0.2.2.2.2.2.2.1
theorem dX9_differentCards_11 : decode cX9_differentCards 11 = .ok (.ireturn, 1) := DX9_differentCards_c0.2.2.2.2.2.2.2.1
theorem dX9_differentCards_12 : decode cX9_differentCards 12 = .ok (.aload_n 0, 1) := DX9_differentCards_c0.2.2.2.2.2.2.2.2.1
theorem dX9_differentCards_13 : decode cX9_differentCards 13 = .ok (.invokevirtual 109, 3) := DX9_differentCards_c0.2.2.2.2.2.2.2.2.2
set_option maxRecDepth 100000 in
theorem DX9_differentCards_c1 : decode cX9_differentCards 16 = .ok (.iconst 0, 1) ∧ decode cX9_differentCards 17 = .ok (.istore_n 1, 1) ∧ decode cX9_differentCards 18 = .ok (.iconst 0, 1) ∧ decode cX9_differentCards 19 = .ok (.istore_n 2, 1) ∧ decode cX9_differentCards 20 = .ok (.iload_n 2, 1) ∧ decode cX9_differentCards 21 = .ok (.aload_n 0, 1) ∧ decode cX9_differentCards 22 = .ok (.getfield 7, 3) ∧ decode cX9_differentCards 25 = .ok (.iconst 0, 1) ∧ decode cX9_differentCards 26 = .ok (.iaload, 1) ∧ decode cX9_differentCards 27 = .ok (.if_icmp .ge 62, 3) := by decide +kernel
theorem dX9_differentCards_16 : decode cX9_differentCards 16 = .ok (.iconst 0, 1) := DX9_differentCards_c1.1
theorem dX9_differentCards_17 : decode cX9_differentCards 17 = .ok (.istore_n 1, 1) := DX9_differentCards_c1.2.1
theorem dX9_differentCards_18 : decode cX9_differentCards 18 = .ok (.iconst 0, 1) := DX9_differentCards_c1.2.2.1
theorem dX9_differentCards_19 : decode cX9_differentCards 19 = .ok (.istore_n 2, 1) := DX9_differentCards_c1.2.2.2.1
theorem dX9_differentCards_20 : decode cX9_differentCards 20 = .ok (.iload_n 2, 1) := DX9_differentCards_c1.2.2.2.2.1
theorem dX9_differentCards_21 : decode cX9_differentCards 21 = .ok (.aload_n 0, 1) := DX9_differentCards_c1.2.2.2.2.2.1
theorem dX9_differentCards_22 : decode cX9_differentCards 22 = .ok (.getfield 7, 3) := DX9_differentCards_c1.2.2.2.2.2.2.1
theorem dX9_differentCards_25 : decode cX9_differentCards 25 = .ok (.iconst 0, 1) := DX9_differentCards_c1.2.2.2.2.2.2.2.1
theorem dX9_differentCards_26 : decode cX9_differentCards 26 = .ok (.iaload, 1) := DX9_differentCards_c1.2.2.2.2.2.2.2.2.1
theorem dX9_differentCards_27 : decode cX9_differentCards 27 = .ok (.if_icmp .ge 62, 3) := DX9_differentCards_c1.2.2.2.2.2.2.2.2.2
set_option maxRecDepth 100000 in
theorem DX9_differentCards_c2 : decode cX9_differentCards 30 = .ok (.iconst 1, 1) ∧ decode cX9_differentCards 31 = .ok (.istore_n 3, 1) ∧ decode cX9_differentCards 32 = .ok (.iconst 0, 1) ∧ decode cX9_differentCards 33 = .ok (.istore 4, 2) ∧ decode cX9_differentCards 35 = .ok (.iload 4, 2) ∧ decode cX9_differentCards 37 = .ok (.iload_n 2, 1) ∧ decode cX9_differentCards 38 = .ok (.if_icmp .ge 33, 3) ∧ decode cX9_differentCards 41 = .ok (.iload_n 3, 1) ∧ decode cX9_differentCards 42 = .ok (.aload_n 0, 1) ∧ decode cX9_differentCards 43 = .ok (.getfield 31, 3) := by decide +kernel
theorem dX9_differentCards_30 : decode cX9_differentCards 30 = .ok (.iconst 1, 1) := DX9_differentCards_c2.1
theorem dX9_differentCards_31 : decode cX9_differentCards 31 = .ok (.istore_n 3, 1) := DX9_differentCards_c2.2.1
theorem dX9_differentCards_32 : decode cX9_differentCards 32 = .ok (.iconst 0, 1) := DX9_differentCards_c2.2.2.1
theorem dX9_differentCards_33 : decode cX9_differentCards 33 = .ok (.istore 4, 2) := DX9_differentCards_c2.2.2.2.1
theorem dX9_differentCards_35 : decode cX9_differentCards 35 = .ok (.iload 4, 2) := DX9_differentCards_c2.2.2.2.2.1
theorem dX9_differentCards_37 : decode cX9_differentCards 37 = .ok (.iload_n 2, 1) := DX9_differentCards_c2.2.2.2.2.2.1
theorem dX9_differentCards_38 : decode cX9_differentCards 38 = .ok (.if_icmp .ge 33, 3) := DX9_differentCards_c2.2.2.2.2.2.2.1
theorem dX9_differentCards_41 : decode cX9_differentCards 41 = .ok (.iload_n 3, 1) := DX9_differentCards_c2.2.2.2.2.2.2.2.1
theorem dX9_differentCards_42 : decode cX9_differentCards 42 = .ok (.aload_n 0, 1) := DX9_differentCards_c2.2.2.2.2.2.2.2.2.1
theorem dX9_differentCards_43 : decode cX9_differentCards 43 = .ok (.getfield 31, 3) := DX9_differentCards_c2.2.2.2.2.2.2.2.2.2
set_option maxRecDepth 100000 in
theorem DX9_differentCards_c3 : decode cX9_differentCards 46 = .ok (.iload 4, 2) ∧ decode cX9_differentCards 48 = .ok (.iaload, 1) ∧ decode cX9_differentCards 49 = .ok (.aload_n 0, 1) ∧ decode cX9_differentCards 50 = .ok (.getfield 31, 3) ∧ decode cX9_differentCards 53 = .ok (.iload_n 2, 1) ∧ decode cX9_differentCards 54 = .ok (.iaload, 1) ∧ decode cX9_differentCards 55 = .ok (.if_icmp .eq 7, 3) ∧ decode cX9_differentCards 58 = .ok (.iconst 1, 1) ∧ decode cX9_differentCards 59 = .ok (.goto 4, 3) ∧ decode cX9_differentCards 62 = .ok (.iconst 0, 1) := by decide +kernel
theorem dX9_differentCards_46 : decode cX9_differentCards 46 = .ok (.iload 4, 2) := DX9_differentCards_c3.1
theorem dX9_differentCards_48 : decode cX9_differentCards 48 = .ok (.iaload, 1) := DX9_differentCards_c3.2.1
theorem dX9_differentCards_49 : decode cX9_differentCards 49 = .ok (.aload_n 0, 1) := DX9_differentCards_c3.2.2.1
theorem dX9_differentCards_50 : decode cX9_differentCards 50 = .ok (.getfield 31, 3) := DX9_differentCards_c3.2.2.2.1
theorem dX9_differentCards_53 : decode cX9_differentCards 53 = .ok (.iload_n 2, 1) := DX9_differentCards_c3.2.2.2.2.1
theorem dX9_differentCards_54 : decode cX9_differentCards 54 = .ok (.iaload, 1) := DX9_differentCards_c3.2.2.2.2.2.1
theorem dX9_differentCards_55 : decode cX9_differentCards 55 = .ok (.if_icmp .eq 7, 3) := DX9_differentCards_c3.2.2.2.2.2.2.1
theorem dX9_differentCards_58 : decode cX9_differentCards 58 = .ok (.iconst 1, 1) := DX9_differentCards_c3.2.2.2.2.2.2.2.1
theorem dX9_differentCards_59 : decode cX9_differentCards 59 = .ok (.goto 4, 3) := DX9_differentCards_c3.2.2.2.2.2.2.2.2.1
theorem dX9_differentCards_62 : decode cX9_differentCards 62 = .ok (.iconst 0, 1) := DX9_differentCards_c3.2.2.2.2.2.2.2.2.2
set_option maxRecDepth 100000 in
theorem DX9_differentCards_c4 : decode cX9_differentCards 63 = .ok (.iand, 1) ∧ decode cX9_differentCards 64 = .ok (.istore_n 3, 1) ∧ decode cX9_differentCards 65 = .ok (.iinc 4 1, 3) ∧ decode cX9_differentCards 68 = .ok (.goto (-33), 3) ∧ decode cX9_differentCards 71 = .ok (.iload_n 1, 1) ∧ decode cX9_differentCards 72 = .ok (.iload_n 3, 1) ∧ decode cX9_differentCards 73 = .ok (.ifCond .eq 7, 3) ∧ decode cX9_differentCards 76 = .ok (.iconst 1, 1) ∧ decode cX9_differentCards 77 = .ok (.goto 4, 3) ∧ decode cX9_differentCards 80 = .ok (.iconst 0, 1) := by decide +kernel
theorem dX9_differentCards_63 : decode cX9_differentCards 63 = .ok (.iand, 1) := DX9_differentCards_c4.1
theorem dX9_differentCards_64 : decode cX9_differentCards 64 = .ok (.istore_n 3, 1) := DX9_differentCards_c4.2.1
theorem dX9_differentCards_65 : decode cX9_differentCards 65 = .ok (.iinc 4 1, 3) := DX9_differentCards_c4.2.2.1
theorem dX9_differentCards_68 : decode cX9_differentCards 68 = .ok (.goto (-33), 3) := DX9_differentCards_c4.2.2.2.1
theorem dX9_differentCards_71 : decode cX9_differentCards 71 = .ok (.iload_n 1, 1) := DX9_differentCards_c4.2.2.2.2.1
theorem dX9_differentCards_72 : decode cX9_differentCards 72 = .ok (.iload_n 3, 1) := DX9_differentCards_c4.2.2.2.2.2.1
theorem dX9_differentCards_73 : decode cX9_differentCards 73 = .ok (.ifCond .eq 7, 3) := DX9_differentCards_c4.2.2.2.2.2.2.1
theorem dX9_differentCards_76 : decode cX9_differentCards 76 = .ok (.iconst 1, 1) := DX9_differentCards_c4.2.2.2.2.2.2.2.1
theorem dX9_differentCards_77 : decode cX9_differentCards 77 = .ok (.goto 4, 3) := DX9_differentCards_c4.2.2.2.2.2.2.2.2.1
theorem dX9_differentCards_80 : decode cX9_differentCards 80 = .ok (.iconst 0, 1) := DX9_differentCards_c4.2.2.2.2.2.2.2.2.2
set_option maxRecDepth 100000 in
theorem DX9_differentCards_c5 : decode cX9_differentCards 81 = .ok (.iadd, 1) ∧ decode cX9_differentCards 82 = .ok (.istore_n 1, 1) ∧ decode cX9_differentCards 83 = .ok (.iinc 2 1, 3) ∧ decode cX9_differentCards 86 = .ok (.goto (-66), 3) ∧ decode cX9_differentCards 89 = .ok (.iload_n 1, 1) ∧ decode cX9_differentCards 90 = .ok (.ireturn, 1) := by decide +kernel
theorem dX9_differentCards_81 : decode cX9_differentCards 81 = .ok (.iadd, 1) := DX9_differentCards_c5.1
theorem dX9_differentCards_82 : decode cX9_differentCards 82 = .ok (.istore_n 1, 1) := DX9_differentCards_c5.2.1
theorem dX9_differentCards_83 : decode cX9_differentCards 83 = .ok (.iinc 2 1, 3) := DX9_differentCards_c5.2.2.1
theorem dX9_differentCards_86 : decode cX9_differentCards 86 = .ok (.goto (-66), 3) := DX9_differentCards_c5.2.2.2.1
theorem dX9_differentCards_89 : decode cX9_differentCards 89 = .ok (.iload_n 1, 1) := DX9_differentCards_c5.2.2.2.2.1
theorem dX9_differentCards_90 : decode cX9_differentCards 90 = .ok (.ireturn, 1) := DX9_differentCards_c5.2.2.2.2.2
set_option maxRecDepth 100000 in
theorem DX9_components_c0 : decode cX9_components 0 = .ok (.iconst 0, 1) ∧ decode cX9_components 1 = .ok (.istore_n 1, 1) ∧ decode cX9_components 2 = .ok (.iconst 0, 1) ∧ decode cX9_components 3 = .ok (.istore_n 2, 1) ∧ decode cX9_components 4 = .ok (.iconst 0, 1) ∧ decode cX9_components 5 = .ok (.istore_n 3, 1) ∧ decode cX9_components 6 = .ok (.iload_n 3, 1) ∧ decode cX9_components 7 = .ok (.aload_n 0, 1) ∧ decode cX9_components 8 = .ok (.getfield 7, 3) ∧ decode cX9_components 11 = .ok (.iconst 0, 1) := by decide +kernel
theorem dX9_components_0 : decode cX9_components 0 = .ok (.iconst 0, 1) := DX9_components_c0.1
theorem dX9_components_1 : decode cX9_components 1 = .ok (.istore_n 1, 1) := DX9_components_c0.2.1
theorem dX9_components_2 : decode cX9_components 2 = .ok (.iconst 0, 1) := DX9_components_c0.2.2.1
theorem dX9_components_3 : decode cX9_components 3 = .ok (.istore_n 2, 1) := DX9_components_c0.2.2.2.1
theorem dX9_components_4 : decode cX9_components 4 = .ok (.iconst 0, 1) := DX9_components_c0.2.2.2.2.1
theorem dX9_components_5 : decode cX9_components 5 = .ok (.istore_n 3, 1) := DX9_components_c0.2.2.2.2.2.1
theorem dX9_components_6 : decode cX9_components 6 = .ok (.iload_n 3, 1) := DX9_components_c0.2.2.2.2.2.2.1
theorem dX9_components_7 : decode cX9_components 7 = .ok (.aload_n 0, 1) := DX9_components_c0.2.2.2.2.2.2.2.1
theorem dX9_components_8 : decode cX9_components 8 = .ok (.getfield 7, 3) := DX9_components_c0.2.2.2.2.2.2.2.2.1
theorem dX9_components_11 : decode cX9_components 11 = .ok (.iconst 0, 1) := DX9_components_c0.2.2.2.2.2.2.2.2.2
set_option maxRecDepth 100000 in
theorem DX9_components_c1 : decode cX9_components 12 = .ok (.iaload, 1) ∧ decode cX9_components 13 = .ok (.if_icmp .ge 28, 3) ∧ decode cX9_components 16 = .ok (.iload_n 2, 1) ∧ decode cX9_components 17 = .ok (.iload_n 3, 1) ∧ decode cX9_components 18 = .ok (.ishr, 1) ∧ decode cX9_components 19 = .ok (.iconst 1, 1) ∧ decode cX9_components 20 = .ok (.iand, 1) ∧ decode cX9_components 21 = .ok (.ifCond .ne 14, 3) ∧ decode cX9_components 24 = .ok (.iinc 1 1, 3) ∧ decode cX9_components 27 = .ok (.iload_n 2, 1) := by decide +kernel
theorem dX9_components_12 : decode cX9_components 12 = .ok (.iaload, 1) := DX9_components_c1.1
theorem dX9_components_13 : decode cX9_components 13 = .ok (.if_icmp .ge 28, 3) := DX9_components_c1.2.1
theorem dX9_components_16 : decode cX9_components 16 = .ok (.iload_n 2, 1) := DX9_components_c1.2.2.1
theorem dX9_components_17 : decode cX9_components 17 = .ok (.iload_n 3, 1) := DX9_components_c1.2.2.2.1
theorem dX9_components_18 : decode cX9_components 18 = .ok (.ishr, 1) := DX9_components_c1.2.2.2.2.1
theorem dX9_components_19 : decode cX9_components 19 = .ok (.iconst 1, 1) := DX9_components_c1.2.2.2.2.2.1
theorem dX9_components_20 : decode cX9_components 20 = .ok (.iand, 1) := DX9_components_c1.2.2.2.2.2.2.1
theorem dX9_components_21 : decode cX9_components 21 = .ok (.ifCond .ne 14, 3) := DX9_components_c1.2.2.2.2.2.2.2.1
theorem dX9_components_24 : decode cX9_components 24 = .ok (.iinc 1 1, 3) := DX9_components_c1.2.2.2.2.2.2.2.2.1
theorem dX9_components_27 : decode cX9_components 27 = .ok (.iload_n 2, 1) := DX9_components_c1.2.2.2.2.2.2.2.2.2
set_option maxRecDepth 100000 in
theorem DX9_components_c2 : decode cX9_components 28 = .ok (.aload_n 0, 1) ∧ decode cX9_components 29 = .ok (.iload_n 3, 1) ∧ decode cX9_components 30 = .ok (.invokevirtual 112, 3) ∧ decode cX9_components 33 = .ok (.ior, 1) ∧ decode cX9_components 34 = .ok (.istore_n 2, 1) ∧ decode cX9_components 35 = .ok (.iinc 3 1, 3) ∧ decode cX9_components 38 = .ok (.goto (-32), 3) ∧ decode cX9_components 41 = .ok (.iload_n 1, 1) ∧ decode cX9_components 42 = .ok (.ireturn, 1) := by decide +kernel
theorem dX9_components_28 : decode cX9_components 28 = .ok (.aload_n 0, 1) := DX9_components_c2.1
theorem dX9_components_29 : decode cX9_components 29 = .ok (.iload_n 3, 1) := DX9_components_c2.2.1
theorem dX9_components_30 : decode cX9_components 30 = .ok (.invokevirtual 112, 3) := DX9_components_c2.2.2.1
theorem dX9_components_33 : decode cX9_components 33 = .ok (.ior, 1) := DX9_components_c2.2.2.2.1
theorem dX9_components_34 : decode cX9_components 34 = .ok (.istore_n 2, 1) := DX9_components_c2.2.2.2.2.1
theorem dX9_components_35 : decode cX9_components 35 = .ok (.iinc 3 1, 3) := DX9_components_c2.2.2.2.2.2.1
theorem dX9_components_38 : decode cX9_components 38 = .ok (.goto (-32), 3) := DX9_components_c2.2.2.2.2.2.2.1
theorem dX9_components_41 : decode cX9_components 41 = .ok (.iload_n 1, 1) := DX9_components_c2.2.2.2.2.2.2.2.1
theorem dX9_components_42 : decode cX9_components 42 = .ok (.ireturn, 1) := DX9_components_c2.2.2.2.2.2.2.2.2
set_option maxRecDepth 100000 in
theorem DX9_reached_c0 : decode cX9_reached 0 = .ok (.iconst 1, 1) ∧ decode cX9_reached 1 = .ok (.iload_n 1, 1) ∧ decode cX9_reached 2 = .ok (.ishl, 1) ∧ decode cX9_reached 3 = .ok (.istore_n 2, 1) ∧ decode cX9_reached 4 = .ok (.iconst 0, 1) ∧ decode cX9_reached 5 = .ok (.istore_n 3, 1) ∧ decode cX9_reached 6 = .ok (.iload_n 3, 1) ∧ decode cX9_reached 7 = .ok (.bipush 8, 2) ∧ decode cX9_reached 9 = .ok (.if_icmp .ge 63, 3) ∧ decode cX9_reached 12 = .ok (.iconst 0, 1) := by decide +kernel
theorem dX9_reached_0 : decode cX9_reached 0 = .ok (.iconst 1, 1) := DX9_reached_c0.1
theorem dX9_reached_1 : decode cX9_reached 1 = .ok (.iload_n 1, 1) := DX9_reached_c0.2.1
theorem dX9_reached_2 : decode cX9_reached 2 = .ok (.ishl, 1) := DX9_reached_c0.2.2.1
theorem dX9_reached_3 : decode cX9_reached 3 = .ok (.istore_n 2, 1) := DX9_reached_c0.2.2.2.1
theorem dX9_reached_4 : decode cX9_reached 4 = .ok (.iconst 0, 1) := DX9_reached_c0.2.2.2.2.1
theorem dX9_reached_5 : decode cX9_reached 5 = .ok (.istore_n 3, 1) := DX9_reached_c0.2.2.2.2.2.1
theorem dX9_reached_6 : decode cX9_reached 6 = .ok (.iload_n 3, 1) := DX9_reached_c0.2.2.2.2.2.2.1
theorem dX9_reached_7 : decode cX9_reached 7 = .ok (.bipush 8, 2) := DX9_reached_c0.2.2.2.2.2.2.2.1
theorem dX9_reached_9 : decode cX9_reached 9 = .ok (.if_icmp .ge 63, 3) := DX9_reached_c0.2.2.2.2.2.2.2.2.1
theorem dX9_reached_12 : decode cX9_reached 12 = .ok (.iconst 0, 1) := DX9_reached_c0.2.2.2.2.2.2.2.2.2
set_option maxRecDepth 100000 in
theorem DX9_reached_c1 : decode cX9_reached 13 = .ok (.istore 4, 2) ∧ decode cX9_reached 15 = .ok (.iload 4, 2) ∧ decode cX9_reached 17 = .ok (.aload_n 0, 1) ∧ decode cX9_reached 18 = .ok (.getfield 7, 3) ∧ decode cX9_reached 21 = .ok (.iconst 0, 1) ∧ decode cX9_reached 22 = .ok (.iaload, 1) ∧ decode cX9_reached 23 = .ok (.if_icmp .ge 43, 3) ∧ decode cX9_reached 26 = .ok (.iload_n 2, 1) ∧ decode cX9_reached 27 = .ok (.iload_n 2, 1) ∧ decode cX9_reached 28 = .ok (.iload 4, 2) := by decide +kernel
theorem dX9_reached_13 : decode cX9_reached 13 = .ok (.istore 4, 2) := DX9_reached_c1.1
theorem dX9_reached_15 : decode cX9_reached 15 = .ok (.iload 4, 2) := DX9_reached_c1.2.1
theorem dX9_reached_17 : decode cX9_reached 17 = .ok (.aload_n 0, 1) := DX9_reached_c1.2.2.1
theorem dX9_reached_18 : decode cX9_reached 18 = .ok (.getfield 7, 3) := DX9_reached_c1.2.2.2.1
theorem dX9_reached_21 : decode cX9_reached 21 = .ok (.iconst 0, 1) := DX9_reached_c1.2.2.2.2.1
theorem dX9_reached_22 : decode cX9_reached 22 = .ok (.iaload, 1) := DX9_reached_c1.2.2.2.2.2.1
theorem dX9_reached_23 : decode cX9_reached 23 = .ok (.if_icmp .ge 43, 3) := DX9_reached_c1.2.2.2.2.2.2.1
theorem dX9_reached_26 : decode cX9_reached 26 = .ok (.iload_n 2, 1) := DX9_reached_c1.2.2.2.2.2.2.2.1
theorem dX9_reached_27 : decode cX9_reached 27 = .ok (.iload_n 2, 1) := DX9_reached_c1.2.2.2.2.2.2.2.2.1
theorem dX9_reached_28 : decode cX9_reached 28 = .ok (.iload 4, 2) := DX9_reached_c1.2.2.2.2.2.2.2.2.2
set_option maxRecDepth 100000 in
theorem DX9_reached_c2 : decode cX9_reached 30 = .ok (.ishr, 1) ∧ decode cX9_reached 31 = .ok (.iconst 1, 1) ∧ decode cX9_reached 32 = .ok (.iand, 1) ∧ decode cX9_reached 33 = .ok (.iconst 1, 1) ∧ decode cX9_reached 34 = .ok (.if_icmp .ne 23, 3) ∧ decode cX9_reached 37 = .ok (.aload_n 0, 1) ∧ decode cX9_reached 38 = .ok (.getfield 7, 3) ∧ decode cX9_reached 41 = .ok (.iconst 0, 1) ∧ decode cX9_reached 42 = .ok (.iaload, 1) ∧ decode cX9_reached 43 = .ok (.aload_n 0, 1) := by decide +kernel
theorem dX9_reached_30 : decode cX9_reached 30 = .ok (.ishr, 1) := DX9_reached_c2.1
theorem dX9_reached_31 : decode cX9_reached 31 = .ok (.iconst 1, 1) := DX9_reached_c2.2.1
theorem dX9_reached_32 : decode cX9_reached 32 = .ok (.iand, 1) := DX9_reached_c2.2.2.1
theorem dX9_reached_33 : decode cX9_reached 33 = .ok (.iconst 1, 1) := DX9_reached_c2.2.2.2.1
theorem dX9_reached_34 : decode cX9_reached 34 = .ok (.if_icmp .ne 23, 3) := DX9_reached_c2.2.2.2.2.1
theorem dX9_reached_37 : decode cX9_reached 37 = .ok (.aload_n 0, 1) := DX9_reached_c2.2.2.2.2.2.1
theorem dX9_reached_38 : decode cX9_reached 38 = .ok (.getfield 7, 3) := DX9_reached_c2.2.2.2.2.2.2.1
theorem dX9_reached_41 : decode cX9_reached 41 = .ok (.iconst 0, 1) := DX9_reached_c2.2.2.2.2.2.2.2.1
theorem dX9_reached_42 : decode cX9_reached 42 = .ok (.iaload, 1) := DX9_reached_c2.2.2.2.2.2.2.2.2.1
theorem dX9_reached_43 : decode cX9_reached 43 = .ok (.aload_n 0, 1) := DX9_reached_c2.2.2.2.2.2.2.2.2.2
set_option maxRecDepth 100000 in
theorem DX9_reached_c3 : decode cX9_reached 44 = .ok (.getfield 7, 3) ∧ decode cX9_reached 47 = .ok (.iconst 1, 1) ∧ decode cX9_reached 48 = .ok (.iaload, 1) ∧ decode cX9_reached 49 = .ok (.iload 4, 2) ∧ decode cX9_reached 51 = .ok (.invokestatic 77, 3) ∧ decode cX9_reached 54 = .ok (.goto 4, 3) ∧ decode cX9_reached 57 = .ok (.iconst 0, 1) ∧ decode cX9_reached 58 = .ok (.ior, 1) ∧ decode cX9_reached 59 = .ok (.istore_n 2, 1) ∧ decode cX9_reached 60 = .ok (.iinc 4 1, 3) := by decide +kernel
theorem dX9_reached_44 : decode cX9_reached 44 = .ok (.getfield 7, 3) := DX9_reached_c3.1
theorem dX9_reached_47 : decode cX9_reached 47 = .ok (.iconst 1, 1) := DX9_reached_c3.2.1
theorem dX9_reached_48 : decode cX9_reached 48 = .ok (.iaload, 1) := DX9_reached_c3.2.2.1
theorem dX9_reached_49 : decode cX9_reached 49 = .ok (.iload 4, 2) := DX9_reached_c3.2.2.2.1
theorem dX9_reached_51 : decode cX9_reached 51 = .ok (.invokestatic 77, 3) := DX9_reached_c3.2.2.2.2.1
theorem dX9_reached_54 : decode cX9_reached 54 = .ok (.goto 4, 3) := DX9_reached_c3.2.2.2.2.2.1
theorem dX9_reached_57 : decode cX9_reached 57 = .ok (.iconst 0, 1) := DX9_reached_c3.2.2.2.2.2.2.1
theorem dX9_reached_58 : decode cX9_reached 58 = .ok (.ior, 1) := DX9_reached_c3.2.2.2.2.2.2.2.1
theorem dX9_reached_59 : decode cX9_reached 59 = .ok (.istore_n 2, 1) := DX9_reached_c3.2.2.2.2.2.2.2.2.1
theorem dX9_reached_60 : decode cX9_reached 60 = .ok (.iinc 4 1, 3) := DX9_reached_c3.2.2.2.2.2.2.2.2.2
set_option maxRecDepth 100000 in
theorem DX9_reached_c4 : decode cX9_reached 63 = .ok (.goto (-48), 3) ∧ decode cX9_reached 66 = .ok (.iinc 3 1, 3) ∧ decode cX9_reached 69 = .ok (.goto (-63), 3) ∧ decode cX9_reached 72 = .ok (.iload_n 2, 1) ∧ decode cX9_reached 73 = .ok (.ireturn, 1) := by decide +kernel
theorem dX9_reached_63 : decode cX9_reached 63 = .ok (.goto (-48), 3) := DX9_reached_c4.1
theorem dX9_reached_66 : decode cX9_reached 66 = .ok (.iinc 3 1, 3) := DX9_reached_c4.2.1
theorem dX9_reached_69 : decode cX9_reached 69 = .ok (.goto (-63), 3) := DX9_reached_c4.2.2.1
theorem dX9_reached_72 : decode cX9_reached 72 = .ok (.iload_n 2, 1) := DX9_reached_c4.2.2.2.1
theorem dX9_reached_73 : decode cX9_reached 73 = .ok (.ireturn, 1) := DX9_reached_c4.2.2.2.2
set_option maxRecDepth 100000 in
theorem DX9_pseudoPairs_c0 : decode cX9_pseudoPairs 0 = .ok (.aload_n 0, 1) ∧ decode cX9_pseudoPairs 1 = .ok (.getfield 7, 3) ∧ decode cX9_pseudoPairs 4 = .ok (.iconst 0, 1) ∧ decode cX9_pseudoPairs 5 = .ok (.iaload, 1) ∧ decode cX9_pseudoPairs 6 = .ok (.iconst 1, 1) ∧ decode cX9_pseudoPairs 7 = .ok (.if_icmp .ne 5, 3) ∧ decode cX9_pseudoPairs 10 = .ok (.iconst 0, 1) ∧ decode cX9_pseudoPairs 11 = .ok (.ireturn, 1) ∧ decode cX9_pseudoPairs 12 = .ok (.aload_n 0, 1) ∧ decode cX9_pseudoPairs 13 = .ok (.invokevirtual 109, 3) := by decide +kernel
theorem dX9_pseudoPairs_0 : decode cX9_pseudoPairs 0 = .ok (.aload_n 0, 1) := DX9_pseudoPairs_c0.1
theorem dX9_pseudoPairs_1 : decode cX9_pseudoPairs 1 = .ok (.getfield 7, 3) := DX9_pseudoPairs_c0.2.1
theorem dX9_pseudoPairs_4 : decode cX9_pseudoPairs 4 = .ok (.iconst 0, 1) := DX9_pseudoPairs_c0.2.2.1
theorem dX9_pseudoPairs_5 : decode cX9_pseudoPairs 5 = .ok (.iaload, 1) := DX9_pseudoPairs_c0.2.2.2.1
theorem dX9_pseudoPairs_6 : decode cX9_pseudoPairs 6 = .ok (.iconst 1, 1) := DX9_pseudoPairs_c0.2.2.2.2.1
theorem dX9_pseudoPairs_7 : decode cX9_pseudoPairs 7 = .ok (.if_icmp .ne 5, 3) := DX9_pseudoPairs_c0.2.2.2.2.2.1
theorem dX9_pseudoPairs_10 : decode cX9_pseudoPairs 10 = .ok (.iconst 0, 1) := DX9_pseudoPairs_c0.2.2.2.2.2.2.1
theorem dX9_pseudoPairs_11 : decode cX9_pseudoPairs 11 = .ok (.ireturn, 1) := DX9_pseudoPairs_c0.2.2.2.2.2.2.2.1
theorem dX9_pseudoPairs_12 : decode cX9_pseudoPairs 12 = .ok (.aload_n 0, 1) := DX9_pseudoPairs_c0.2.2.2.2.2.2.2.2.1
theorem dX9_pseudoPairs_13 : decode cX9_pseudoPairs 13 = .ok (.invokevirtual 109, 3) := DX9_pseudoPairs_c0.2.2.2.2.2.2.2.2.2
set_option maxRecDepth 100000 in
theorem DX9_pseudoPairs_c1 : decode cX9_pseudoPairs 16 = .ok (.aload_n 0, 1) ∧ decode cX9_pseudoPairs 17 = .ok (.invokevirtual 106, 3) ∧ decode cX9_pseudoPairs 20 = .ok (.iconst 0, 1) ∧ decode cX9_pseudoPairs 21 = .ok (.istore_n 1, 1) ∧ decode cX9_pseudoPairs 22 = .ok (.iconst 0, 1) ∧ decode cX9_pseudoPairs 23 = .ok (.istore_n 2, 1) ∧ decode cX9_pseudoPairs 24 = .ok (.iload_n 2, 1) ∧ decode cX9_pseudoPairs 25 = .ok (.aload_n 0, 1) ∧ decode cX9_pseudoPairs 26 = .ok (.getfield 7, 3) ∧ decode cX9_pseudoPairs 29 = .ok (.iconst 0, 1) := by decide +kernel
theorem dX9_pseudoPairs_16 : decode cX9_pseudoPairs 16 = .ok (.aload_n 0, 1) := DX9_pseudoPairs_c1.1
theorem dX9_pseudoPairs_17 : decode cX9_pseudoPairs 17 = .ok (.invokevirtual 106, 3) := DX9_pseudoPairs_c1.2.1
theorem dX9_pseudoPairs_20 : decode cX9_pseudoPairs 20 = .ok (.iconst 0, 1) := DX9_pseudoPairs_c1.2.2.1
theorem dX9_pseudoPairs_21 : decode cX9_pseudoPairs 21 = .ok (.istore_n 1, 1) := DX9_pseudoPairs_c1.2.2.2.1
theorem dX9_pseudoPairs_22 : decode cX9_pseudoPairs 22 = .ok (.iconst 0, 1) := DX9_pseudoPairs_c1.2.2.2.2.1
theorem dX9_pseudoPairs_23 : decode cX9_pseudoPairs 23 = .ok (.istore_n 2, 1) := DX9_pseudoPairs_c1.2.2.2.2.2.1
theorem dX9_pseudoPairs_24 : decode cX9_pseudoPairs 24 = .ok (.iload_n 2, 1) := DX9_pseudoPairs_c1.2.2.2.2.2.2.1
theorem dX9_pseudoPairs_25 : decode cX9_pseudoPairs 25 = .ok (.aload_n 0, 1) := DX9_pseudoPairs_c1.2.2.2.2.2.2.2.1
theorem dX9_pseudoPairs_26 : decode cX9_pseudoPairs 26 = .ok (.getfield 7, 3) := DX9_pseudoPairs_c1.2.2.2.2.2.2.2.2.1
theorem dX9_pseudoPairs_29 : decode cX9_pseudoPairs 29 = .ok (.iconst 0, 1) := DX9_pseudoPairs_c1.2.2.2.2.2.2.2.2.2
set_option maxRecDepth 100000 in
theorem DX9_pseudoPairs_c2 : decode cX9_pseudoPairs 30 = .ok (.iaload, 1) ∧ decode cX9_pseudoPairs 31 = .ok (.if_icmp .ge 20, 3) ∧ decode cX9_pseudoPairs 34 = .ok (.iload_n 1, 1) ∧ decode cX9_pseudoPairs 35 = .ok (.aload_n 0, 1) ∧ decode cX9_pseudoPairs 36 = .ok (.iload_n 2, 1) ∧ decode cX9_pseudoPairs 37 = .ok (.invokevirtual 115, 3) ∧ decode cX9_pseudoPairs 40 = .ok (.invokestatic 118, 3) ∧ decode cX9_pseudoPairs 43 = .ok (.iadd, 1) ∧ decode cX9_pseudoPairs 44 = .ok (.istore_n 1, 1) ∧ decode cX9_pseudoPairs 45 = .ok (.iinc 2 1, 3) := by decide +kernel
theorem dX9_pseudoPairs_30 : decode cX9_pseudoPairs 30 = .ok (.iaload, 1) := DX9_pseudoPairs_c2.1
theorem dX9_pseudoPairs_31 : decode cX9_pseudoPairs 31 = .ok (.if_icmp .ge 20, 3) := DX9_pseudoPairs_c2.2.1
theorem dX9_pseudoPairs_34 : decode cX9_pseudoPairs 34 = .ok (.iload_n 1, 1) := DX9_pseudoPairs_c2.2.2.1
theorem dX9_pseudoPairs_35 : decode cX9_pseudoPairs 35 = .ok (.aload_n 0, 1) := DX9_pseudoPairs_c2.2.2.2.1
theorem dX9_pseudoPairs_36 : decode cX9_pseudoPairs 36 = .ok (.iload_n 2, 1) := DX9_pseudoPairs_c2.2.2.2.2.1
theorem dX9_pseudoPairs_37 : decode cX9_pseudoPairs 37 = .ok (.invokevirtual 115, 3) := DX9_pseudoPairs_c2.2.2.2.2.2.1
theorem dX9_pseudoPairs_40 : decode cX9_pseudoPairs 40 = .ok (.invokestatic 118, 3) := DX9_pseudoPairs_c2.2.2.2.2.2.2.1
theorem dX9_pseudoPairs_43 : decode cX9_pseudoPairs 43 = .ok (.iadd, 1) := DX9_pseudoPairs_c2.2.2.2.2.2.2.2.1
theorem dX9_pseudoPairs_44 : decode cX9_pseudoPairs 44 = .ok (.istore_n 1, 1) := DX9_pseudoPairs_c2.2.2.2.2.2.2.2.2.1
theorem dX9_pseudoPairs_45 : decode cX9_pseudoPairs 45 = .ok (.iinc 2 1, 3) := DX9_pseudoPairs_c2.2.2.2.2.2.2.2.2.2
set_option maxRecDepth 100000 in
theorem DX9_pseudoPairs_c3 : decode cX9_pseudoPairs 48 = .ok (.goto (-24), 3) ∧ decode cX9_pseudoPairs 51 = .ok (.iload_n 1, 1) ∧ decode cX9_pseudoPairs 52 = .ok (.iconst 2, 1) ∧ decode cX9_pseudoPairs 53 = .ok (.idiv, 1) ∧ decode cX9_pseudoPairs 54 = .ok (.ireturn, 1) := by decide +kernel
theorem dX9_pseudoPairs_48 : decode cX9_pseudoPairs 48 = .ok (.goto (-24), 3) := DX9_pseudoPairs_c3.1
theorem dX9_pseudoPairs_51 : decode cX9_pseudoPairs 51 = .ok (.iload_n 1, 1) := DX9_pseudoPairs_c3.2.1
theorem dX9_pseudoPairs_52 : decode cX9_pseudoPairs 52 = .ok (.iconst 2, 1) := DX9_pseudoPairs_c3.2.2.1
theorem dX9_pseudoPairs_53 : decode cX9_pseudoPairs 53 = .ok (.idiv, 1) := DX9_pseudoPairs_c3.2.2.2.1
theorem dX9_pseudoPairs_54 : decode cX9_pseudoPairs 54 = .ok (.ireturn, 1) := DX9_pseudoPairs_c3.2.2.2.2
set_option maxRecDepth 100000 in
theorem DX9_told_c0 : decode cX9_told 0 = .ok (.iload_n 1, 1) ∧ decode cX9_told 1 = .ok (.tableswitch 130 0 9 #[55, 62, 72, 79, 96, 105, 110, 115, 120, 125], 55) ∧ decode cX9_told 56 = .ok (.aload_n 0, 1) ∧ decode cX9_told 57 = .ok (.getfield 7, 3) ∧ decode cX9_told 60 = .ok (.iconst 0, 1) ∧ decode cX9_told 61 = .ok (.iaload, 1) ∧ decode cX9_told 62 = .ok (.ireturn, 1) ∧ decode cX9_told 63 = .ok (.aload_n 0, 1) ∧ decode cX9_told 64 = .ok (.getfield 7, 3) ∧ decode cX9_told 67 = .ok (.iconst 1, 1) := by decide +kernel
theorem dX9_told_0 : decode cX9_told 0 = .ok (.iload_n 1, 1) := DX9_told_c0.1
theorem dX9_told_1 : decode cX9_told 1 = .ok (.tableswitch 130 0 9 #[55, 62, 72, 79, 96, 105, 110, 115, 120, 125], 55) := DX9_told_c0.2.1
theorem dX9_told_56 : decode cX9_told 56 = .ok (.aload_n 0, 1) := DX9_told_c0.2.2.1
theorem dX9_told_57 : decode cX9_told 57 = .ok (.getfield 7, 3) := DX9_told_c0.2.2.2.1
theorem dX9_told_60 : decode cX9_told 60 = .ok (.iconst 0, 1) := DX9_told_c0.2.2.2.2.1
theorem dX9_told_61 : decode cX9_told 61 = .ok (.iaload, 1) := DX9_told_c0.2.2.2.2.2.1
theorem dX9_told_62 : decode cX9_told 62 = .ok (.ireturn, 1) := DX9_told_c0.2.2.2.2.2.2.1
theorem dX9_told_63 : decode cX9_told 63 = .ok (.aload_n 0, 1) := DX9_told_c0.2.2.2.2.2.2.2.1
theorem dX9_told_64 : decode cX9_told 64 = .ok (.getfield 7, 3) := DX9_told_c0.2.2.2.2.2.2.2.2.1
theorem dX9_told_67 : decode cX9_told 67 = .ok (.iconst 1, 1) := DX9_told_c0.2.2.2.2.2.2.2.2.2
set_option maxRecDepth 100000 in
theorem DX9_told_c1 : decode cX9_told 68 = .ok (.iaload, 1) ∧ decode cX9_told 69 = .ok (.invokestatic 118, 3) ∧ decode cX9_told 72 = .ok (.ireturn, 1) ∧ decode cX9_told 73 = .ok (.aload_n 0, 1) ∧ decode cX9_told 74 = .ok (.getfield 7, 3) ∧ decode cX9_told 77 = .ok (.iconst 1, 1) ∧ decode cX9_told 78 = .ok (.iaload, 1) ∧ decode cX9_told 79 = .ok (.ireturn, 1) ∧ decode cX9_told 80 = .ok (.aload_n 0, 1) ∧ decode cX9_told 81 = .ok (.aload_n 0, 1) := by decide +kernel
theorem dX9_told_68 : decode cX9_told 68 = .ok (.iaload, 1) := DX9_told_c1.1
theorem dX9_told_69 : decode cX9_told 69 = .ok (.invokestatic 118, 3) := DX9_told_c1.2.1
theorem dX9_told_72 : decode cX9_told 72 = .ok (.ireturn, 1) := DX9_told_c1.2.2.1
theorem dX9_told_73 : decode cX9_told 73 = .ok (.aload_n 0, 1) := DX9_told_c1.2.2.2.1
theorem dX9_told_74 : decode cX9_told 74 = .ok (.getfield 7, 3) := DX9_told_c1.2.2.2.2.1
theorem dX9_told_77 : decode cX9_told 77 = .ok (.iconst 1, 1) := DX9_told_c1.2.2.2.2.2.1
theorem dX9_told_78 : decode cX9_told 78 = .ok (.iaload, 1) := DX9_told_c1.2.2.2.2.2.2.1
theorem dX9_told_79 : decode cX9_told 79 = .ok (.ireturn, 1) := DX9_told_c1.2.2.2.2.2.2.2.1
theorem dX9_told_80 : decode cX9_told 80 = .ok (.aload_n 0, 1) := DX9_told_c1.2.2.2.2.2.2.2.2.1
theorem dX9_told_81 : decode cX9_told 81 = .ok (.aload_n 0, 1) := DX9_told_c1.2.2.2.2.2.2.2.2.2
set_option maxRecDepth 100000 in
theorem DX9_told_c2 : decode cX9_told 82 = .ok (.getfield 7, 3) ∧ decode cX9_told 85 = .ok (.iconst 0, 1) ∧ decode cX9_told 86 = .ok (.iaload, 1) ∧ decode cX9_told 87 = .ok (.aload_n 0, 1) ∧ decode cX9_told 88 = .ok (.getfield 7, 3) ∧ decode cX9_told 91 = .ok (.iconst 1, 1) ∧ decode cX9_told 92 = .ok (.iaload, 1) ∧ decode cX9_told 93 = .ok (.invokevirtual 90, 3) ∧ decode cX9_told 96 = .ok (.ireturn, 1) ∧ decode cX9_told 97 = .ok (.aload_n 0, 1) := by decide +kernel
theorem dX9_told_82 : decode cX9_told 82 = .ok (.getfield 7, 3) := DX9_told_c2.1
theorem dX9_told_85 : decode cX9_told 85 = .ok (.iconst 0, 1) := DX9_told_c2.2.1
theorem dX9_told_86 : decode cX9_told 86 = .ok (.iaload, 1) := DX9_told_c2.2.2.1
theorem dX9_told_87 : decode cX9_told 87 = .ok (.aload_n 0, 1) := DX9_told_c2.2.2.2.1
theorem dX9_told_88 : decode cX9_told 88 = .ok (.getfield 7, 3) := DX9_told_c2.2.2.2.2.1
theorem dX9_told_91 : decode cX9_told 91 = .ok (.iconst 1, 1) := DX9_told_c2.2.2.2.2.2.1
theorem dX9_told_92 : decode cX9_told 92 = .ok (.iaload, 1) := DX9_told_c2.2.2.2.2.2.2.1
theorem dX9_told_93 : decode cX9_told 93 = .ok (.invokevirtual 90, 3) := DX9_told_c2.2.2.2.2.2.2.2.1
theorem dX9_told_96 : decode cX9_told 96 = .ok (.ireturn, 1) := DX9_told_c2.2.2.2.2.2.2.2.2.1
theorem dX9_told_97 : decode cX9_told 97 = .ok (.aload_n 0, 1) := DX9_told_c2.2.2.2.2.2.2.2.2.2
set_option maxRecDepth 100000 in
theorem DX9_told_c3 : decode cX9_told 98 = .ok (.invokevirtual 106, 3) ∧ decode cX9_told 101 = .ok (.aload_n 0, 1) ∧ decode cX9_told 102 = .ok (.getfield 93, 3) ∧ decode cX9_told 105 = .ok (.ireturn, 1) ∧ decode cX9_told 106 = .ok (.aload_n 0, 1) ∧ decode cX9_told 107 = .ok (.invokevirtual 121, 3) ∧ decode cX9_told 110 = .ok (.ireturn, 1) ∧ decode cX9_told 111 = .ok (.aload_n 0, 1) ∧ decode cX9_told 112 = .ok (.invokevirtual 125, 3) ∧ decode cX9_told 115 = .ok (.ireturn, 1) := by decide +kernel
theorem dX9_told_98 : decode cX9_told 98 = .ok (.invokevirtual 106, 3) := DX9_told_c3.1
theorem dX9_told_101 : decode cX9_told 101 = .ok (.aload_n 0, 1) := DX9_told_c3.2.1
theorem dX9_told_102 : decode cX9_told 102 = .ok (.getfield 93, 3) := DX9_told_c3.2.2.1
theorem dX9_told_105 : decode cX9_told 105 = .ok (.ireturn, 1) := DX9_told_c3.2.2.2.1
theorem dX9_told_106 : decode cX9_told 106 = .ok (.aload_n 0, 1) := DX9_told_c3.2.2.2.2.1
theorem dX9_told_107 : decode cX9_told 107 = .ok (.invokevirtual 121, 3) := DX9_told_c3.2.2.2.2.2.1
theorem dX9_told_110 : decode cX9_told 110 = .ok (.ireturn, 1) := DX9_told_c3.2.2.2.2.2.2.1
theorem dX9_told_111 : decode cX9_told 111 = .ok (.aload_n 0, 1) := DX9_told_c3.2.2.2.2.2.2.2.1
theorem dX9_told_112 : decode cX9_told 112 = .ok (.invokevirtual 125, 3) := DX9_told_c3.2.2.2.2.2.2.2.2.1
theorem dX9_told_115 : decode cX9_told 115 = .ok (.ireturn, 1) := DX9_told_c3.2.2.2.2.2.2.2.2.2
set_option maxRecDepth 100000 in
theorem DX9_told_c4 : decode cX9_told 116 = .ok (.aload_n 0, 1) ∧ decode cX9_told 117 = .ok (.invokevirtual 128, 3) ∧ decode cX9_told 120 = .ok (.ireturn, 1) ∧ decode cX9_told 121 = .ok (.aload_n 0, 1) ∧ decode cX9_told 122 = .ok (.invokevirtual 131, 3) ∧ decode cX9_told 125 = .ok (.ireturn, 1) ∧ decode cX9_told 126 = .ok (.aload_n 0, 1) ∧ decode cX9_told 127 = .ok (.getfield 54, 3) ∧ decode cX9_told 130 = .ok (.ireturn, 1) ∧ decode cX9_told 131 = .ok (.iconst (-1), 1) := by decide +kernel
theorem dX9_told_116 : decode cX9_told 116 = .ok (.aload_n 0, 1) := DX9_told_c4.1
theorem dX9_told_117 : decode cX9_told 117 = .ok (.invokevirtual 128, 3) := DX9_told_c4.2.1
theorem dX9_told_120 : decode cX9_told 120 = .ok (.ireturn, 1) := DX9_told_c4.2.2.1
theorem dX9_told_121 : decode cX9_told 121 = .ok (.aload_n 0, 1) := DX9_told_c4.2.2.2.1
theorem dX9_told_122 : decode cX9_told 122 = .ok (.invokevirtual 131, 3) := DX9_told_c4.2.2.2.2.1
theorem dX9_told_125 : decode cX9_told 125 = .ok (.ireturn, 1) := DX9_told_c4.2.2.2.2.2.1
theorem dX9_told_126 : decode cX9_told 126 = .ok (.aload_n 0, 1) := DX9_told_c4.2.2.2.2.2.2.1
theorem dX9_told_127 : decode cX9_told 127 = .ok (.getfield 54, 3) := DX9_told_c4.2.2.2.2.2.2.2.1
theorem dX9_told_130 : decode cX9_told 130 = .ok (.ireturn, 1) := DX9_told_c4.2.2.2.2.2.2.2.2.1
theorem dX9_told_131 : decode cX9_told 131 = .ok (.iconst (-1), 1) := DX9_told_c4.2.2.2.2.2.2.2.2.2
set_option maxRecDepth 100000 in
theorem DX9_told_c5 : decode cX9_told 132 = .ok (.ireturn, 1) := by decide +kernel
theorem dX9_told_132 : decode cX9_told 132 = .ok (.ireturn, 1) := DX9_told_c5
set_option maxRecDepth 100000 in
theorem DX9_similar_c0 : decode cX9_similar 0 = .ok (.aload_n 0, 1) ∧ decode cX9_similar 1 = .ok (.invokevirtual 106, 3) ∧ decode cX9_similar 4 = .ok (.aload_n 0, 1) ∧ decode cX9_similar 5 = .ok (.getfield 28, 3) ∧ decode cX9_similar 8 = .ok (.iload_n 1, 1) ∧ decode cX9_similar 9 = .ok (.iaload, 1) ∧ decode cX9_similar 10 = .ok (.iconst 1, 1) ∧ decode cX9_similar 11 = .ok (.iload_n 1, 1) ∧ decode cX9_similar 12 = .ok (.ishl, 1) ∧ decode cX9_similar 13 = .ok (.iconst (-1), 1) := by decide +kernel
theorem dX9_similar_0 : decode cX9_similar 0 = .ok (.aload_n 0, 1) := DX9_similar_c0.1
theorem dX9_similar_1 : decode cX9_similar 1 = .ok (.invokevirtual 106, 3) := DX9_similar_c0.2.1
theorem dX9_similar_4 : decode cX9_similar 4 = .ok (.aload_n 0, 1) := DX9_similar_c0.2.2.1
theorem dX9_similar_5 : decode cX9_similar 5 = .ok (.getfield 28, 3) := DX9_similar_c0.2.2.2.1
theorem dX9_similar_8 : decode cX9_similar 8 = .ok (.iload_n 1, 1) := DX9_similar_c0.2.2.2.2.1
theorem dX9_similar_9 : decode cX9_similar 9 = .ok (.iaload, 1) := DX9_similar_c0.2.2.2.2.2.1
theorem dX9_similar_10 : decode cX9_similar 10 = .ok (.iconst 1, 1) := DX9_similar_c0.2.2.2.2.2.2.1
theorem dX9_similar_11 : decode cX9_similar 11 = .ok (.iload_n 1, 1) := DX9_similar_c0.2.2.2.2.2.2.2.1
theorem dX9_similar_12 : decode cX9_similar 12 = .ok (.ishl, 1) := DX9_similar_c0.2.2.2.2.2.2.2.2.1
theorem dX9_similar_13 : decode cX9_similar 13 = .ok (.iconst (-1), 1) := DX9_similar_c0.2.2.2.2.2.2.2.2.2
set_option maxRecDepth 100000 in
theorem DX9_similar_c1 : decode cX9_similar 14 = .ok (.ixor, 1) ∧ decode cX9_similar 15 = .ok (.iand, 1) ∧ decode cX9_similar 16 = .ok (.ireturn, 1) := by decide +kernel
theorem dX9_similar_14 : decode cX9_similar 14 = .ok (.ixor, 1) := DX9_similar_c1.1
theorem dX9_similar_15 : decode cX9_similar 15 = .ok (.iand, 1) := DX9_similar_c1.2.1
theorem dX9_similar_16 : decode cX9_similar 16 = .ok (.ireturn, 1) := DX9_similar_c1.2.2
set_option maxRecDepth 100000 in
theorem DX9_pseudoSimilar_c0 : decode cX9_pseudoSimilar 0 = .ok (.aload_n 0, 1) ∧ decode cX9_pseudoSimilar 1 = .ok (.invokevirtual 109, 3) ∧ decode cX9_pseudoSimilar 4 = .ok (.aload_n 0, 1) ∧ decode cX9_pseudoSimilar 5 = .ok (.invokevirtual 106, 3) ∧ decode cX9_pseudoSimilar 8 = .ok (.aload_n 0, 1) ∧ decode cX9_pseudoSimilar 9 = .ok (.iload_n 1, 1) ∧ decode cX9_pseudoSimilar 10 = .ok (.invokevirtual 115, 3) ∧ decode cX9_pseudoSimilar 13 = .ok (.ireturn, 1) := by decide +kernel
theorem dX9_pseudoSimilar_0 : decode cX9_pseudoSimilar 0 = .ok (.aload_n 0, 1) := DX9_pseudoSimilar_c0.1
theorem dX9_pseudoSimilar_1 : decode cX9_pseudoSimilar 1 = .ok (.invokevirtual 109, 3) := DX9_pseudoSimilar_c0.2.1
theorem dX9_pseudoSimilar_4 : decode cX9_pseudoSimilar 4 = .ok (.aload_n 0, 1) := DX9_pseudoSimilar_c0.2.2.1
theorem dX9_pseudoSimilar_5 : decode cX9_pseudoSimilar 5 = .ok (.invokevirtual 106, 3) := DX9_pseudoSimilar_c0.2.2.2.1
theorem dX9_pseudoSimilar_8 : decode cX9_pseudoSimilar 8 = .ok (.aload_n 0, 1) := DX9_pseudoSimilar_c0.2.2.2.2.1
theorem dX9_pseudoSimilar_9 : decode cX9_pseudoSimilar 9 = .ok (.iload_n 1, 1) := DX9_pseudoSimilar_c0.2.2.2.2.2.1
theorem dX9_pseudoSimilar_10 : decode cX9_pseudoSimilar 10 = .ok (.invokevirtual 115, 3) := DX9_pseudoSimilar_c0.2.2.2.2.2.2.1
theorem dX9_pseudoSimilar_13 : decode cX9_pseudoSimilar 13 = .ok (.ireturn, 1) := DX9_pseudoSimilar_c0.2.2.2.2.2.2.2
set_option maxRecDepth 100000 in
theorem DX9_vertex_c0 : decode cX9_vertex 0 = .ok (.aload_n 0, 1) ∧ decode cX9_vertex 1 = .ok (.iload_n 1, 1) ∧ decode cX9_vertex 2 = .ok (.invokevirtual 73, 3) ∧ decode cX9_vertex 5 = .ok (.ifCond .eq 12, 3) ∧ decode cX9_vertex 8 = .ok (.iload_n 2, 1) ∧ decode cX9_vertex 9 = .ok (.iconst 0, 1) ∧ decode cX9_vertex 10 = .ok (.iconst 5, 1) ∧ decode cX9_vertex 11 = .ok (.invokestatic 50, 3) ∧ decode cX9_vertex 14 = .ok (.ifCond .ne 5, 3) ∧ decode cX9_vertex 17 = .ok (.iconst (-1), 1) := by decide +kernel
theorem dX9_vertex_0 : decode cX9_vertex 0 = .ok (.aload_n 0, 1) := DX9_vertex_c0.1
theorem dX9_vertex_1 : decode cX9_vertex 1 = .ok (.iload_n 1, 1) := DX9_vertex_c0.2.1
theorem dX9_vertex_2 : decode cX9_vertex 2 = .ok (.invokevirtual 73, 3) := DX9_vertex_c0.2.2.1
theorem dX9_vertex_5 : decode cX9_vertex 5 = .ok (.ifCond .eq 12, 3) := DX9_vertex_c0.2.2.2.1
theorem dX9_vertex_8 : decode cX9_vertex 8 = .ok (.iload_n 2, 1) := DX9_vertex_c0.2.2.2.2.1
theorem dX9_vertex_9 : decode cX9_vertex 9 = .ok (.iconst 0, 1) := DX9_vertex_c0.2.2.2.2.2.1
theorem dX9_vertex_10 : decode cX9_vertex 10 = .ok (.iconst 5, 1) := DX9_vertex_c0.2.2.2.2.2.2.1
theorem dX9_vertex_11 : decode cX9_vertex 11 = .ok (.invokestatic 50, 3) := DX9_vertex_c0.2.2.2.2.2.2.2.1
theorem dX9_vertex_14 : decode cX9_vertex 14 = .ok (.ifCond .ne 5, 3) := DX9_vertex_c0.2.2.2.2.2.2.2.2.1
theorem dX9_vertex_17 : decode cX9_vertex 17 = .ok (.iconst (-1), 1) := DX9_vertex_c0.2.2.2.2.2.2.2.2.2
set_option maxRecDepth 100000 in
theorem DX9_vertex_c1 : decode cX9_vertex 18 = .ok (.ireturn, 1) ∧ decode cX9_vertex 19 = .ok (.aload_n 0, 1) ∧ decode cX9_vertex 20 = .ok (.getfield 7, 3) ∧ decode cX9_vertex 23 = .ok (.iconst 0, 1) ∧ decode cX9_vertex 24 = .ok (.iaload, 1) ∧ decode cX9_vertex 25 = .ok (.istore_n 3, 1) ∧ decode cX9_vertex 26 = .ok (.iload_n 3, 1) ∧ decode cX9_vertex 27 = .ok (.aload_n 0, 1) ∧ decode cX9_vertex 28 = .ok (.getfield 7, 3) ∧ decode cX9_vertex 31 = .ok (.iconst 1, 1) := by decide +kernel
theorem dX9_vertex_18 : decode cX9_vertex 18 = .ok (.ireturn, 1) := DX9_vertex_c1.1
theorem dX9_vertex_19 : decode cX9_vertex 19 = .ok (.aload_n 0, 1) := DX9_vertex_c1.2.1
theorem dX9_vertex_20 : decode cX9_vertex 20 = .ok (.getfield 7, 3) := DX9_vertex_c1.2.2.1
theorem dX9_vertex_23 : decode cX9_vertex 23 = .ok (.iconst 0, 1) := DX9_vertex_c1.2.2.2.1
theorem dX9_vertex_24 : decode cX9_vertex 24 = .ok (.iaload, 1) := DX9_vertex_c1.2.2.2.2.1
theorem dX9_vertex_25 : decode cX9_vertex 25 = .ok (.istore_n 3, 1) := DX9_vertex_c1.2.2.2.2.2.1
theorem dX9_vertex_26 : decode cX9_vertex 26 = .ok (.iload_n 3, 1) := DX9_vertex_c1.2.2.2.2.2.2.1
theorem dX9_vertex_27 : decode cX9_vertex 27 = .ok (.aload_n 0, 1) := DX9_vertex_c1.2.2.2.2.2.2.2.1
theorem dX9_vertex_28 : decode cX9_vertex 28 = .ok (.getfield 7, 3) := DX9_vertex_c1.2.2.2.2.2.2.2.2.1
theorem dX9_vertex_31 : decode cX9_vertex 31 = .ok (.iconst 1, 1) := DX9_vertex_c1.2.2.2.2.2.2.2.2.2
set_option maxRecDepth 100000 in
theorem DX9_vertex_c2 : decode cX9_vertex 32 = .ok (.iaload, 1) ∧ decode cX9_vertex 33 = .ok (.iload_n 1, 1) ∧ decode cX9_vertex 34 = .ok (.invokestatic 77, 3) ∧ decode cX9_vertex 37 = .ok (.istore 4, 2) ∧ decode cX9_vertex 39 = .ok (.iload_n 2, 1) ∧ decode cX9_vertex 40 = .ok (.iconst 1, 1) ∧ decode cX9_vertex 41 = .ok (.if_icmp .le 11, 3) ∧ decode cX9_vertex 44 = .ok (.iload_n 3, 1) ∧ decode cX9_vertex 45 = .ok (.iconst 1, 1) ∧ decode cX9_vertex 46 = .ok (.if_icmp .ne 6, 3) := by decide +kernel
theorem dX9_vertex_32 : decode cX9_vertex 32 = .ok (.iaload, 1) := DX9_vertex_c2.1
theorem dX9_vertex_33 : decode cX9_vertex 33 = .ok (.iload_n 1, 1) := DX9_vertex_c2.2.1
theorem dX9_vertex_34 : decode cX9_vertex 34 = .ok (.invokestatic 77, 3) := DX9_vertex_c2.2.2.1
theorem dX9_vertex_37 : decode cX9_vertex 37 = .ok (.istore 4, 2) := DX9_vertex_c2.2.2.2.1
theorem dX9_vertex_39 : decode cX9_vertex 39 = .ok (.iload_n 2, 1) := DX9_vertex_c2.2.2.2.2.1
theorem dX9_vertex_40 : decode cX9_vertex 40 = .ok (.iconst 1, 1) := DX9_vertex_c2.2.2.2.2.2.1
theorem dX9_vertex_41 : decode cX9_vertex 41 = .ok (.if_icmp .le 11, 3) := DX9_vertex_c2.2.2.2.2.2.2.1
theorem dX9_vertex_44 : decode cX9_vertex 44 = .ok (.iload_n 3, 1) := DX9_vertex_c2.2.2.2.2.2.2.2.1
theorem dX9_vertex_45 : decode cX9_vertex 45 = .ok (.iconst 1, 1) := DX9_vertex_c2.2.2.2.2.2.2.2.2.1
theorem dX9_vertex_46 : decode cX9_vertex 46 = .ok (.if_icmp .ne 6, 3) := DX9_vertex_c2.2.2.2.2.2.2.2.2.2
set_option maxRecDepth 100000 in
theorem DX9_vertex_c3 : decode cX9_vertex 49 = .ok (.bipush (-9), 2) ∧ decode cX9_vertex 51 = .ok (.ireturn, 1) ∧ decode cX9_vertex 52 = .ok (.iload_n 2, 1) ∧ decode cX9_vertex 53 = .ok (.tableswitch 79 0 4 #[35, 41, 44, 57, 73], 35) ∧ decode cX9_vertex 88 = .ok (.iload 4, 2) ∧ decode cX9_vertex 90 = .ok (.invokestatic 118, 3) ∧ decode cX9_vertex 93 = .ok (.ireturn, 1) ∧ decode cX9_vertex 94 = .ok (.iload 4, 2) ∧ decode cX9_vertex 96 = .ok (.ireturn, 1) ∧ decode cX9_vertex 97 = .ok (.aload_n 0, 1) := by decide +kernel
theorem dX9_vertex_49 : decode cX9_vertex 49 = .ok (.bipush (-9), 2) := DX9_vertex_c3.1
theorem dX9_vertex_51 : decode cX9_vertex 51 = .ok (.ireturn, 1) := DX9_vertex_c3.2.1
theorem dX9_vertex_52 : decode cX9_vertex 52 = .ok (.iload_n 2, 1) := DX9_vertex_c3.2.2.1
theorem dX9_vertex_53 : decode cX9_vertex 53 = .ok (.tableswitch 79 0 4 #[35, 41, 44, 57, 73], 35) := DX9_vertex_c3.2.2.2.1
theorem dX9_vertex_88 : decode cX9_vertex 88 = .ok (.iload 4, 2) := DX9_vertex_c3.2.2.2.2.1
theorem dX9_vertex_90 : decode cX9_vertex 90 = .ok (.invokestatic 118, 3) := DX9_vertex_c3.2.2.2.2.2.1
theorem dX9_vertex_93 : decode cX9_vertex 93 = .ok (.ireturn, 1) := DX9_vertex_c3.2.2.2.2.2.2.1
theorem dX9_vertex_94 : decode cX9_vertex 94 = .ok (.iload 4, 2) := DX9_vertex_c3.2.2.2.2.2.2.2.1
theorem dX9_vertex_96 : decode cX9_vertex 96 = .ok (.ireturn, 1) := DX9_vertex_c3.2.2.2.2.2.2.2.2.1
theorem dX9_vertex_97 : decode cX9_vertex 97 = .ok (.aload_n 0, 1) := DX9_vertex_c3.2.2.2.2.2.2.2.2.2
set_option maxRecDepth 100000 in
theorem DX9_vertex_c4 : decode cX9_vertex 98 = .ok (.iload_n 3, 1) ∧ decode cX9_vertex 99 = .ok (.aload_n 0, 1) ∧ decode cX9_vertex 100 = .ok (.getfield 7, 3) ∧ decode cX9_vertex 103 = .ok (.iconst 1, 1) ∧ decode cX9_vertex 104 = .ok (.iaload, 1) ∧ decode cX9_vertex 105 = .ok (.iload_n 1, 1) ∧ decode cX9_vertex 106 = .ok (.invokevirtual 103, 3) ∧ decode cX9_vertex 109 = .ok (.ireturn, 1) ∧ decode cX9_vertex 110 = .ok (.aload_n 0, 1) ∧ decode cX9_vertex 111 = .ok (.getfield 7, 3) := by decide +kernel
theorem dX9_vertex_98 : decode cX9_vertex 98 = .ok (.iload_n 3, 1) := DX9_vertex_c4.1
theorem dX9_vertex_99 : decode cX9_vertex 99 = .ok (.aload_n 0, 1) := DX9_vertex_c4.2.1
theorem dX9_vertex_100 : decode cX9_vertex 100 = .ok (.getfield 7, 3) := DX9_vertex_c4.2.2.1
theorem dX9_vertex_103 : decode cX9_vertex 103 = .ok (.iconst 1, 1) := DX9_vertex_c4.2.2.2.1
theorem dX9_vertex_104 : decode cX9_vertex 104 = .ok (.iaload, 1) := DX9_vertex_c4.2.2.2.2.1
theorem dX9_vertex_105 : decode cX9_vertex 105 = .ok (.iload_n 1, 1) := DX9_vertex_c4.2.2.2.2.2.1
theorem dX9_vertex_106 : decode cX9_vertex 106 = .ok (.invokevirtual 103, 3) := DX9_vertex_c4.2.2.2.2.2.2.1
theorem dX9_vertex_109 : decode cX9_vertex 109 = .ok (.ireturn, 1) := DX9_vertex_c4.2.2.2.2.2.2.2.1
theorem dX9_vertex_110 : decode cX9_vertex 110 = .ok (.aload_n 0, 1) := DX9_vertex_c4.2.2.2.2.2.2.2.2.1
theorem dX9_vertex_111 : decode cX9_vertex 111 = .ok (.getfield 7, 3) := DX9_vertex_c4.2.2.2.2.2.2.2.2.2
set_option maxRecDepth 100000 in
theorem DX9_vertex_c5 : decode cX9_vertex 114 = .ok (.iconst 1, 1) ∧ decode cX9_vertex 115 = .ok (.iaload, 1) ∧ decode cX9_vertex 116 = .ok (.invokestatic 118, 3) ∧ decode cX9_vertex 119 = .ok (.iload 4, 2) ∧ decode cX9_vertex 121 = .ok (.invokestatic 118, 3) ∧ decode cX9_vertex 124 = .ok (.isub, 1) ∧ decode cX9_vertex 125 = .ok (.ireturn, 1) ∧ decode cX9_vertex 126 = .ok (.aload_n 0, 1) ∧ decode cX9_vertex 127 = .ok (.iload_n 1, 1) ∧ decode cX9_vertex 128 = .ok (.invokevirtual 134, 3) := by decide +kernel
theorem dX9_vertex_114 : decode cX9_vertex 114 = .ok (.iconst 1, 1) := DX9_vertex_c5.1
theorem dX9_vertex_115 : decode cX9_vertex 115 = .ok (.iaload, 1) := DX9_vertex_c5.2.1
theorem dX9_vertex_116 : decode cX9_vertex 116 = .ok (.invokestatic 118, 3) := DX9_vertex_c5.2.2.1
theorem dX9_vertex_119 : decode cX9_vertex 119 = .ok (.iload 4, 2) := DX9_vertex_c5.2.2.2.1
theorem dX9_vertex_121 : decode cX9_vertex 121 = .ok (.invokestatic 118, 3) := DX9_vertex_c5.2.2.2.2.1
theorem dX9_vertex_124 : decode cX9_vertex 124 = .ok (.isub, 1) := DX9_vertex_c5.2.2.2.2.2.1
theorem dX9_vertex_125 : decode cX9_vertex 125 = .ok (.ireturn, 1) := DX9_vertex_c5.2.2.2.2.2.2.1
theorem dX9_vertex_126 : decode cX9_vertex 126 = .ok (.aload_n 0, 1) := DX9_vertex_c5.2.2.2.2.2.2.2.1
theorem dX9_vertex_127 : decode cX9_vertex 127 = .ok (.iload_n 1, 1) := DX9_vertex_c5.2.2.2.2.2.2.2.2.1
theorem dX9_vertex_128 : decode cX9_vertex 128 = .ok (.invokevirtual 134, 3) := DX9_vertex_c5.2.2.2.2.2.2.2.2.2
set_option maxRecDepth 100000 in
theorem DX9_vertex_c6 : decode cX9_vertex 131 = .ok (.ireturn, 1) ∧ decode cX9_vertex 132 = .ok (.aload_n 0, 1) ∧ decode cX9_vertex 133 = .ok (.iload_n 1, 1) ∧ decode cX9_vertex 134 = .ok (.invokevirtual 137, 3) ∧ decode cX9_vertex 137 = .ok (.ireturn, 1) := by decide +kernel
theorem dX9_vertex_131 : decode cX9_vertex 131 = .ok (.ireturn, 1) := DX9_vertex_c6.1
theorem dX9_vertex_132 : decode cX9_vertex 132 = .ok (.aload_n 0, 1) := DX9_vertex_c6.2.1
theorem dX9_vertex_133 : decode cX9_vertex 133 = .ok (.iload_n 1, 1) := DX9_vertex_c6.2.2.1
theorem dX9_vertex_134 : decode cX9_vertex 134 = .ok (.invokevirtual 137, 3) := DX9_vertex_c6.2.2.2.1
theorem dX9_vertex_137 : decode cX9_vertex 137 = .ok (.ireturn, 1) := DX9_vertex_c6.2.2.2.2
set_option maxRecDepth 100000 in
theorem DX9_image_c0 : decode cX9_image 0 = .ok (.aload_n 0, 1) ∧ decode cX9_image 1 = .ok (.iload_n 1, 1) ∧ decode cX9_image 2 = .ok (.invokevirtual 73, 3) ∧ decode cX9_image 5 = .ok (.ifCond .eq 19, 3) ∧ decode cX9_image 8 = .ok (.aload_n 0, 1) ∧ decode cX9_image 9 = .ok (.iload_n 2, 1) ∧ decode cX9_image 10 = .ok (.invokevirtual 73, 3) ∧ decode cX9_image 13 = .ok (.ifCond .eq 11, 3) ∧ decode cX9_image 16 = .ok (.aload_n 0, 1) ∧ decode cX9_image 17 = .ok (.iload_n 3, 1) := by decide +kernel
theorem dX9_image_0 : decode cX9_image 0 = .ok (.aload_n 0, 1) := DX9_image_c0.1
theorem dX9_image_1 : decode cX9_image 1 = .ok (.iload_n 1, 1) := DX9_image_c0.2.1
theorem dX9_image_2 : decode cX9_image 2 = .ok (.invokevirtual 73, 3) := DX9_image_c0.2.2.1
theorem dX9_image_5 : decode cX9_image 5 = .ok (.ifCond .eq 19, 3) := DX9_image_c0.2.2.2.1
theorem dX9_image_8 : decode cX9_image 8 = .ok (.aload_n 0, 1) := DX9_image_c0.2.2.2.2.1
theorem dX9_image_9 : decode cX9_image 9 = .ok (.iload_n 2, 1) := DX9_image_c0.2.2.2.2.2.1
theorem dX9_image_10 : decode cX9_image 10 = .ok (.invokevirtual 73, 3) := DX9_image_c0.2.2.2.2.2.2.1
theorem dX9_image_13 : decode cX9_image 13 = .ok (.ifCond .eq 11, 3) := DX9_image_c0.2.2.2.2.2.2.2.1
theorem dX9_image_16 : decode cX9_image 16 = .ok (.aload_n 0, 1) := DX9_image_c0.2.2.2.2.2.2.2.2.1
theorem dX9_image_17 : decode cX9_image 17 = .ok (.iload_n 3, 1) := DX9_image_c0.2.2.2.2.2.2.2.2.2
set_option maxRecDepth 100000 in
theorem DX9_image_c1 : decode cX9_image 18 = .ok (.invokevirtual 73, 3) ∧ decode cX9_image 21 = .ok (.ifCond .ne 5, 3) ∧ decode cX9_image 24 = .ok (.iconst (-1), 1) ∧ decode cX9_image 25 = .ok (.ireturn, 1) ∧ decode cX9_image 26 = .ok (.aload_n 0, 1) ∧ decode cX9_image 27 = .ok (.aload_n 0, 1) ∧ decode cX9_image 28 = .ok (.getfield 7, 3) ∧ decode cX9_image 31 = .ok (.iconst 0, 1) ∧ decode cX9_image 32 = .ok (.iaload, 1) ∧ decode cX9_image 33 = .ok (.aload_n 0, 1) := by decide +kernel
theorem dX9_image_18 : decode cX9_image 18 = .ok (.invokevirtual 73, 3) := DX9_image_c1.1
theorem dX9_image_21 : decode cX9_image 21 = .ok (.ifCond .ne 5, 3) := DX9_image_c1.2.1
theorem dX9_image_24 : decode cX9_image 24 = .ok (.iconst (-1), 1) := DX9_image_c1.2.2.1
theorem dX9_image_25 : decode cX9_image 25 = .ok (.ireturn, 1) := DX9_image_c1.2.2.2.1
theorem dX9_image_26 : decode cX9_image 26 = .ok (.aload_n 0, 1) := DX9_image_c1.2.2.2.2.1
theorem dX9_image_27 : decode cX9_image 27 = .ok (.aload_n 0, 1) := DX9_image_c1.2.2.2.2.2.1
theorem dX9_image_28 : decode cX9_image 28 = .ok (.getfield 7, 3) := DX9_image_c1.2.2.2.2.2.2.1
theorem dX9_image_31 : decode cX9_image 31 = .ok (.iconst 0, 1) := DX9_image_c1.2.2.2.2.2.2.2.1
theorem dX9_image_32 : decode cX9_image 32 = .ok (.iaload, 1) := DX9_image_c1.2.2.2.2.2.2.2.2.1
theorem dX9_image_33 : decode cX9_image 33 = .ok (.aload_n 0, 1) := DX9_image_c1.2.2.2.2.2.2.2.2.2
set_option maxRecDepth 100000 in
theorem DX9_image_c2 : decode cX9_image 34 = .ok (.getfield 7, 3) ∧ decode cX9_image 37 = .ok (.iconst 1, 1) ∧ decode cX9_image 38 = .ok (.iaload, 1) ∧ decode cX9_image 39 = .ok (.iload_n 1, 1) ∧ decode cX9_image 40 = .ok (.iload_n 2, 1) ∧ decode cX9_image 41 = .ok (.invokevirtual 100, 3) ∧ decode cX9_image 44 = .ok (.ifCond .eq 12, 3) ∧ decode cX9_image 47 = .ok (.aload_n 0, 1) ∧ decode cX9_image 48 = .ok (.getfield 25, 3) ∧ decode cX9_image 51 = .ok (.iload_n 3, 1) := by decide +kernel
theorem dX9_image_34 : decode cX9_image 34 = .ok (.getfield 7, 3) := DX9_image_c2.1
theorem dX9_image_37 : decode cX9_image 37 = .ok (.iconst 1, 1) := DX9_image_c2.2.1
theorem dX9_image_38 : decode cX9_image 38 = .ok (.iaload, 1) := DX9_image_c2.2.2.1
theorem dX9_image_39 : decode cX9_image 39 = .ok (.iload_n 1, 1) := DX9_image_c2.2.2.2.1
theorem dX9_image_40 : decode cX9_image 40 = .ok (.iload_n 2, 1) := DX9_image_c2.2.2.2.2.1
theorem dX9_image_41 : decode cX9_image 41 = .ok (.invokevirtual 100, 3) := DX9_image_c2.2.2.2.2.2.1
theorem dX9_image_44 : decode cX9_image 44 = .ok (.ifCond .eq 12, 3) := DX9_image_c2.2.2.2.2.2.2.1
theorem dX9_image_47 : decode cX9_image 47 = .ok (.aload_n 0, 1) := DX9_image_c2.2.2.2.2.2.2.2.1
theorem dX9_image_48 : decode cX9_image 48 = .ok (.getfield 25, 3) := DX9_image_c2.2.2.2.2.2.2.2.2.1
theorem dX9_image_51 : decode cX9_image 51 = .ok (.iload_n 3, 1) := DX9_image_c2.2.2.2.2.2.2.2.2.2
set_option maxRecDepth 100000 in
theorem DX9_image_c3 : decode cX9_image 52 = .ok (.iaload, 1) ∧ decode cX9_image 53 = .ok (.goto 5, 3) ∧ decode cX9_image 56 = .ok (.bipush (-9), 2) ∧ decode cX9_image 58 = .ok (.ireturn, 1) := by decide +kernel
theorem dX9_image_52 : decode cX9_image 52 = .ok (.iaload, 1) := DX9_image_c3.1
theorem dX9_image_53 : decode cX9_image 53 = .ok (.goto 5, 3) := DX9_image_c3.2.1
theorem dX9_image_56 : decode cX9_image 56 = .ok (.bipush (-9), 2) := DX9_image_c3.2.2.1
theorem dX9_image_58 : decode cX9_image 58 = .ok (.ireturn, 1) := DX9_image_c3.2.2.2
set_option maxRecDepth 100000 in
theorem DX9_two_c0 : decode cX9_two 0 = .ok (.iload_n 0, 1) ∧ decode cX9_two 1 = .ok (.iload_n 0, 1) ∧ decode cX9_two 2 = .ok (.iconst 1, 1) ∧ decode cX9_two 3 = .ok (.isub, 1) ∧ decode cX9_two 4 = .ok (.imul, 1) ∧ decode cX9_two 5 = .ok (.iconst 2, 1) ∧ decode cX9_two 6 = .ok (.idiv, 1) ∧ decode cX9_two 7 = .ok (.ireturn, 1) := by decide +kernel
theorem dX9_two_0 : decode cX9_two 0 = .ok (.iload_n 0, 1) := DX9_two_c0.1
theorem dX9_two_1 : decode cX9_two 1 = .ok (.iload_n 0, 1) := DX9_two_c0.2.1
theorem dX9_two_2 : decode cX9_two 2 = .ok (.iconst 1, 1) := DX9_two_c0.2.2.1
theorem dX9_two_3 : decode cX9_two 3 = .ok (.isub, 1) := DX9_two_c0.2.2.2.1
theorem dX9_two_4 : decode cX9_two 4 = .ok (.imul, 1) := DX9_two_c0.2.2.2.2.1
theorem dX9_two_5 : decode cX9_two 5 = .ok (.iconst 2, 1) := DX9_two_c0.2.2.2.2.2.1
theorem dX9_two_6 : decode cX9_two 6 = .ok (.idiv, 1) := DX9_two_c0.2.2.2.2.2.2.1
theorem dX9_two_7 : decode cX9_two 7 = .ok (.ireturn, 1) := DX9_two_c0.2.2.2.2.2.2.2
set_option maxRecDepth 100000 in
theorem DX9_common_c0 : decode cX9_common 0 = .ok (.aload_n 0, 1) ∧ decode cX9_common 1 = .ok (.getfield 16, 3) ∧ decode cX9_common 4 = .ok (.iload_n 1, 1) ∧ decode cX9_common 5 = .ok (.iaload, 1) ∧ decode cX9_common 6 = .ok (.aload_n 0, 1) ∧ decode cX9_common 7 = .ok (.getfield 16, 3) ∧ decode cX9_common 10 = .ok (.iload_n 2, 1) ∧ decode cX9_common 11 = .ok (.iaload, 1) ∧ decode cX9_common 12 = .ok (.iand, 1) ∧ decode cX9_common 13 = .ok (.invokestatic 118, 3) := by decide +kernel
theorem dX9_common_0 : decode cX9_common 0 = .ok (.aload_n 0, 1) := DX9_common_c0.1
theorem dX9_common_1 : decode cX9_common 1 = .ok (.getfield 16, 3) := DX9_common_c0.2.1
theorem dX9_common_4 : decode cX9_common 4 = .ok (.iload_n 1, 1) := DX9_common_c0.2.2.1
theorem dX9_common_5 : decode cX9_common 5 = .ok (.iaload, 1) := DX9_common_c0.2.2.2.1
theorem dX9_common_6 : decode cX9_common 6 = .ok (.aload_n 0, 1) := DX9_common_c0.2.2.2.2.1
theorem dX9_common_7 : decode cX9_common 7 = .ok (.getfield 16, 3) := DX9_common_c0.2.2.2.2.2.1
theorem dX9_common_10 : decode cX9_common 10 = .ok (.iload_n 2, 1) := DX9_common_c0.2.2.2.2.2.2.1
theorem dX9_common_11 : decode cX9_common 11 = .ok (.iaload, 1) := DX9_common_c0.2.2.2.2.2.2.2.1
theorem dX9_common_12 : decode cX9_common 12 = .ok (.iand, 1) := DX9_common_c0.2.2.2.2.2.2.2.2.1
theorem dX9_common_13 : decode cX9_common 13 = .ok (.invokestatic 118, 3) := DX9_common_c0.2.2.2.2.2.2.2.2.2
set_option maxRecDepth 100000 in
theorem DX9_common_c1 : decode cX9_common 16 = .ok (.ireturn, 1) := by decide +kernel
theorem dX9_common_16 : decode cX9_common 16 = .ok (.ireturn, 1) := DX9_common_c1
set_option maxRecDepth 100000 in
theorem DX9_triangles_c0 : decode cX9_triangles 0 = .ok (.iconst 0, 1) ∧ decode cX9_triangles 1 = .ok (.istore_n 2, 1) ∧ decode cX9_triangles 2 = .ok (.iconst 0, 1) ∧ decode cX9_triangles 3 = .ok (.istore_n 3, 1) ∧ decode cX9_triangles 4 = .ok (.iload_n 3, 1) ∧ decode cX9_triangles 5 = .ok (.iload_n 1, 1) ∧ decode cX9_triangles 6 = .ok (.if_icmp .ge 53, 3) ∧ decode cX9_triangles 9 = .ok (.iconst 0, 1) ∧ decode cX9_triangles 10 = .ok (.istore 4, 2) ∧ decode cX9_triangles 12 = .ok (.iload 4, 2) := by decide +kernel
theorem dX9_triangles_0 : decode cX9_triangles 0 = .ok (.iconst 0, 1) := DX9_triangles_c0.1
theorem dX9_triangles_1 : decode cX9_triangles 1 = .ok (.istore_n 2, 1) := DX9_triangles_c0.2.1
theorem dX9_triangles_2 : decode cX9_triangles 2 = .ok (.iconst 0, 1) := DX9_triangles_c0.2.2.1
theorem dX9_triangles_3 : decode cX9_triangles 3 = .ok (.istore_n 3, 1) := DX9_triangles_c0.2.2.2.1
theorem dX9_triangles_4 : decode cX9_triangles 4 = .ok (.iload_n 3, 1) := DX9_triangles_c0.2.2.2.2.1
theorem dX9_triangles_5 : decode cX9_triangles 5 = .ok (.iload_n 1, 1) := DX9_triangles_c0.2.2.2.2.2.1
theorem dX9_triangles_6 : decode cX9_triangles 6 = .ok (.if_icmp .ge 53, 3) := DX9_triangles_c0.2.2.2.2.2.2.1
theorem dX9_triangles_9 : decode cX9_triangles 9 = .ok (.iconst 0, 1) := DX9_triangles_c0.2.2.2.2.2.2.2.1
theorem dX9_triangles_10 : decode cX9_triangles 10 = .ok (.istore 4, 2) := DX9_triangles_c0.2.2.2.2.2.2.2.2.1
theorem dX9_triangles_12 : decode cX9_triangles 12 = .ok (.iload 4, 2) := DX9_triangles_c0.2.2.2.2.2.2.2.2.2
set_option maxRecDepth 100000 in
theorem DX9_triangles_c1 : decode cX9_triangles 14 = .ok (.iload_n 3, 1) ∧ decode cX9_triangles 15 = .ok (.if_icmp .ge 38, 3) ∧ decode cX9_triangles 18 = .ok (.iload_n 2, 1) ∧ decode cX9_triangles 19 = .ok (.aload_n 0, 1) ∧ decode cX9_triangles 20 = .ok (.getfield 16, 3) ∧ decode cX9_triangles 23 = .ok (.iload_n 3, 1) ∧ decode cX9_triangles 24 = .ok (.iaload, 1) ∧ decode cX9_triangles 25 = .ok (.iload 4, 2) ∧ decode cX9_triangles 27 = .ok (.ishr, 1) ∧ decode cX9_triangles 28 = .ok (.iconst 1, 1) := by decide +kernel
theorem dX9_triangles_14 : decode cX9_triangles 14 = .ok (.iload_n 3, 1) := DX9_triangles_c1.1
theorem dX9_triangles_15 : decode cX9_triangles 15 = .ok (.if_icmp .ge 38, 3) := DX9_triangles_c1.2.1
theorem dX9_triangles_18 : decode cX9_triangles 18 = .ok (.iload_n 2, 1) := DX9_triangles_c1.2.2.1
theorem dX9_triangles_19 : decode cX9_triangles 19 = .ok (.aload_n 0, 1) := DX9_triangles_c1.2.2.2.1
theorem dX9_triangles_20 : decode cX9_triangles 20 = .ok (.getfield 16, 3) := DX9_triangles_c1.2.2.2.2.1
theorem dX9_triangles_23 : decode cX9_triangles 23 = .ok (.iload_n 3, 1) := DX9_triangles_c1.2.2.2.2.2.1
theorem dX9_triangles_24 : decode cX9_triangles 24 = .ok (.iaload, 1) := DX9_triangles_c1.2.2.2.2.2.2.1
theorem dX9_triangles_25 : decode cX9_triangles 25 = .ok (.iload 4, 2) := DX9_triangles_c1.2.2.2.2.2.2.2.1
theorem dX9_triangles_27 : decode cX9_triangles 27 = .ok (.ishr, 1) := DX9_triangles_c1.2.2.2.2.2.2.2.2.1
theorem dX9_triangles_28 : decode cX9_triangles 28 = .ok (.iconst 1, 1) := DX9_triangles_c1.2.2.2.2.2.2.2.2.2
set_option maxRecDepth 100000 in
theorem DX9_triangles_c2 : decode cX9_triangles 29 = .ok (.iand, 1) ∧ decode cX9_triangles 30 = .ok (.iconst 1, 1) ∧ decode cX9_triangles 31 = .ok (.if_icmp .ne 13, 3) ∧ decode cX9_triangles 34 = .ok (.aload_n 0, 1) ∧ decode cX9_triangles 35 = .ok (.iload_n 3, 1) ∧ decode cX9_triangles 36 = .ok (.iload 4, 2) ∧ decode cX9_triangles 38 = .ok (.invokevirtual 140, 3) ∧ decode cX9_triangles 41 = .ok (.goto 4, 3) ∧ decode cX9_triangles 44 = .ok (.iconst 0, 1) ∧ decode cX9_triangles 45 = .ok (.iadd, 1) := by decide +kernel
theorem dX9_triangles_29 : decode cX9_triangles 29 = .ok (.iand, 1) := DX9_triangles_c2.1
theorem dX9_triangles_30 : decode cX9_triangles 30 = .ok (.iconst 1, 1) := DX9_triangles_c2.2.1
theorem dX9_triangles_31 : decode cX9_triangles 31 = .ok (.if_icmp .ne 13, 3) := DX9_triangles_c2.2.2.1
theorem dX9_triangles_34 : decode cX9_triangles 34 = .ok (.aload_n 0, 1) := DX9_triangles_c2.2.2.2.1
theorem dX9_triangles_35 : decode cX9_triangles 35 = .ok (.iload_n 3, 1) := DX9_triangles_c2.2.2.2.2.1
theorem dX9_triangles_36 : decode cX9_triangles 36 = .ok (.iload 4, 2) := DX9_triangles_c2.2.2.2.2.2.1
theorem dX9_triangles_38 : decode cX9_triangles 38 = .ok (.invokevirtual 140, 3) := DX9_triangles_c2.2.2.2.2.2.2.1
theorem dX9_triangles_41 : decode cX9_triangles 41 = .ok (.goto 4, 3) := DX9_triangles_c2.2.2.2.2.2.2.2.1
theorem dX9_triangles_44 : decode cX9_triangles 44 = .ok (.iconst 0, 1) := DX9_triangles_c2.2.2.2.2.2.2.2.2.1
theorem dX9_triangles_45 : decode cX9_triangles 45 = .ok (.iadd, 1) := DX9_triangles_c2.2.2.2.2.2.2.2.2.2
set_option maxRecDepth 100000 in
theorem DX9_triangles_c3 : decode cX9_triangles 46 = .ok (.istore_n 2, 1) ∧ decode cX9_triangles 47 = .ok (.iinc 4 1, 3) ∧ decode cX9_triangles 50 = .ok (.goto (-38), 3) ∧ decode cX9_triangles 53 = .ok (.iinc 3 1, 3) ∧ decode cX9_triangles 56 = .ok (.goto (-52), 3) ∧ decode cX9_triangles 59 = .ok (.iload_n 2, 1) ∧ decode cX9_triangles 60 = .ok (.iconst 3, 1) ∧ decode cX9_triangles 61 = .ok (.idiv, 1) ∧ decode cX9_triangles 62 = .ok (.ireturn, 1) := by decide +kernel
theorem dX9_triangles_46 : decode cX9_triangles 46 = .ok (.istore_n 2, 1) := DX9_triangles_c3.1
theorem dX9_triangles_47 : decode cX9_triangles 47 = .ok (.iinc 4 1, 3) := DX9_triangles_c3.2.1
theorem dX9_triangles_50 : decode cX9_triangles 50 = .ok (.goto (-38), 3) := DX9_triangles_c3.2.2.1
theorem dX9_triangles_53 : decode cX9_triangles 53 = .ok (.iinc 3 1, 3) := DX9_triangles_c3.2.2.2.1
theorem dX9_triangles_56 : decode cX9_triangles 56 = .ok (.goto (-52), 3) := DX9_triangles_c3.2.2.2.2.1
theorem dX9_triangles_59 : decode cX9_triangles 59 = .ok (.iload_n 2, 1) := DX9_triangles_c3.2.2.2.2.2.1
theorem dX9_triangles_60 : decode cX9_triangles 60 = .ok (.iconst 3, 1) := DX9_triangles_c3.2.2.2.2.2.2.1
theorem dX9_triangles_61 : decode cX9_triangles 61 = .ok (.idiv, 1) := DX9_triangles_c3.2.2.2.2.2.2.2.1
theorem dX9_triangles_62 : decode cX9_triangles 62 = .ok (.ireturn, 1) := DX9_triangles_c3.2.2.2.2.2.2.2.2
set_option maxRecDepth 100000 in
theorem DX9_ofVertex_c0 : decode cX9_ofVertex 0 = .ok (.aload_n 0, 1) ∧ decode cX9_ofVertex 1 = .ok (.getfield 16, 3) ∧ decode cX9_ofVertex 4 = .ok (.iload_n 2, 1) ∧ decode cX9_ofVertex 5 = .ok (.iaload, 1) ∧ decode cX9_ofVertex 6 = .ok (.invokestatic 118, 3) ∧ decode cX9_ofVertex 9 = .ok (.istore 4, 2) ∧ decode cX9_ofVertex 11 = .ok (.iload_n 3, 1) ∧ decode cX9_ofVertex 12 = .ok (.iconst 1, 1) ∧ decode cX9_ofVertex 13 = .ok (.if_icmp .ne 9, 3) ∧ decode cX9_ofVertex 16 = .ok (.iload 4, 2) := by decide +kernel
theorem dX9_ofVertex_0 : decode cX9_ofVertex 0 = .ok (.aload_n 0, 1) := DX9_ofVertex_c0.1
theorem dX9_ofVertex_1 : decode cX9_ofVertex 1 = .ok (.getfield 16, 3) := DX9_ofVertex_c0.2.1
theorem dX9_ofVertex_4 : decode cX9_ofVertex 4 = .ok (.iload_n 2, 1) := DX9_ofVertex_c0.2.2.1
theorem dX9_ofVertex_5 : decode cX9_ofVertex 5 = .ok (.iaload, 1) := DX9_ofVertex_c0.2.2.2.1
theorem dX9_ofVertex_6 : decode cX9_ofVertex 6 = .ok (.invokestatic 118, 3) := DX9_ofVertex_c0.2.2.2.2.1
theorem dX9_ofVertex_9 : decode cX9_ofVertex 9 = .ok (.istore 4, 2) := DX9_ofVertex_c0.2.2.2.2.2.1
theorem dX9_ofVertex_11 : decode cX9_ofVertex 11 = .ok (.iload_n 3, 1) := DX9_ofVertex_c0.2.2.2.2.2.2.1
theorem dX9_ofVertex_12 : decode cX9_ofVertex 12 = .ok (.iconst 1, 1) := DX9_ofVertex_c0.2.2.2.2.2.2.2.1
theorem dX9_ofVertex_13 : decode cX9_ofVertex 13 = .ok (.if_icmp .ne 9, 3) := DX9_ofVertex_c0.2.2.2.2.2.2.2.2.1
theorem dX9_ofVertex_16 : decode cX9_ofVertex 16 = .ok (.iload 4, 2) := DX9_ofVertex_c0.2.2.2.2.2.2.2.2.2
set_option maxRecDepth 100000 in
theorem DX9_ofVertex_c1 : decode cX9_ofVertex 18 = .ok (.invokestatic 143, 3) ∧ decode cX9_ofVertex 21 = .ok (.ireturn, 1) ∧ decode cX9_ofVertex 22 = .ok (.iload_n 3, 1) ∧ decode cX9_ofVertex 23 = .ok (.iconst 3, 1) ∧ decode cX9_ofVertex 24 = .ok (.if_icmp .ne 19, 3) ∧ decode cX9_ofVertex 27 = .ok (.iload 4, 2) ∧ decode cX9_ofVertex 29 = .ok (.iload 4, 2) ∧ decode cX9_ofVertex 31 = .ok (.iconst 1, 1) ∧ decode cX9_ofVertex 32 = .ok (.isub, 1) ∧ decode cX9_ofVertex 33 = .ok (.imul, 1) := by decide +kernel
theorem dX9_ofVertex_18 : decode cX9_ofVertex 18 = .ok (.invokestatic 143, 3) := DX9_ofVertex_c1.1
theorem dX9_ofVertex_21 : decode cX9_ofVertex 21 = .ok (.ireturn, 1) := DX9_ofVertex_c1.2.1
theorem dX9_ofVertex_22 : decode cX9_ofVertex 22 = .ok (.iload_n 3, 1) := DX9_ofVertex_c1.2.2.1
theorem dX9_ofVertex_23 : decode cX9_ofVertex 23 = .ok (.iconst 3, 1) := DX9_ofVertex_c1.2.2.2.1
theorem dX9_ofVertex_24 : decode cX9_ofVertex 24 = .ok (.if_icmp .ne 19, 3) := DX9_ofVertex_c1.2.2.2.2.1
theorem dX9_ofVertex_27 : decode cX9_ofVertex 27 = .ok (.iload 4, 2) := DX9_ofVertex_c1.2.2.2.2.2.1
theorem dX9_ofVertex_29 : decode cX9_ofVertex 29 = .ok (.iload 4, 2) := DX9_ofVertex_c1.2.2.2.2.2.2.1
theorem dX9_ofVertex_31 : decode cX9_ofVertex 31 = .ok (.iconst 1, 1) := DX9_ofVertex_c1.2.2.2.2.2.2.2.1
theorem dX9_ofVertex_32 : decode cX9_ofVertex 32 = .ok (.isub, 1) := DX9_ofVertex_c1.2.2.2.2.2.2.2.2.1
theorem dX9_ofVertex_33 : decode cX9_ofVertex 33 = .ok (.imul, 1) := DX9_ofVertex_c1.2.2.2.2.2.2.2.2.2
set_option maxRecDepth 100000 in
theorem DX9_ofVertex_c2 : decode cX9_ofVertex 34 = .ok (.iload 4, 2) ∧ decode cX9_ofVertex 36 = .ok (.iconst 2, 1) ∧ decode cX9_ofVertex 37 = .ok (.isub, 1) ∧ decode cX9_ofVertex 38 = .ok (.imul, 1) ∧ decode cX9_ofVertex 39 = .ok (.bipush 6, 2) ∧ decode cX9_ofVertex 41 = .ok (.idiv, 1) ∧ decode cX9_ofVertex 42 = .ok (.ireturn, 1) ∧ decode cX9_ofVertex 43 = .ok (.iconst 0, 1) ∧ decode cX9_ofVertex 44 = .ok (.istore 5, 2) ∧ decode cX9_ofVertex 46 = .ok (.iconst 0, 1) := by decide +kernel
theorem dX9_ofVertex_34 : decode cX9_ofVertex 34 = .ok (.iload 4, 2) := DX9_ofVertex_c2.1
theorem dX9_ofVertex_36 : decode cX9_ofVertex 36 = .ok (.iconst 2, 1) := DX9_ofVertex_c2.2.1
theorem dX9_ofVertex_37 : decode cX9_ofVertex 37 = .ok (.isub, 1) := DX9_ofVertex_c2.2.2.1
theorem dX9_ofVertex_38 : decode cX9_ofVertex 38 = .ok (.imul, 1) := DX9_ofVertex_c2.2.2.2.1
theorem dX9_ofVertex_39 : decode cX9_ofVertex 39 = .ok (.bipush 6, 2) := DX9_ofVertex_c2.2.2.2.2.1
theorem dX9_ofVertex_41 : decode cX9_ofVertex 41 = .ok (.idiv, 1) := DX9_ofVertex_c2.2.2.2.2.2.1
theorem dX9_ofVertex_42 : decode cX9_ofVertex 42 = .ok (.ireturn, 1) := DX9_ofVertex_c2.2.2.2.2.2.2.1
theorem dX9_ofVertex_43 : decode cX9_ofVertex 43 = .ok (.iconst 0, 1) := DX9_ofVertex_c2.2.2.2.2.2.2.2.1
theorem dX9_ofVertex_44 : decode cX9_ofVertex 44 = .ok (.istore 5, 2) := DX9_ofVertex_c2.2.2.2.2.2.2.2.2.1
theorem dX9_ofVertex_46 : decode cX9_ofVertex 46 = .ok (.iconst 0, 1) := DX9_ofVertex_c2.2.2.2.2.2.2.2.2.2
set_option maxRecDepth 100000 in
theorem DX9_ofVertex_c3 : decode cX9_ofVertex 47 = .ok (.istore 6, 2) ∧ decode cX9_ofVertex 49 = .ok (.iload 6, 2) ∧ decode cX9_ofVertex 51 = .ok (.iload_n 1, 1) ∧ decode cX9_ofVertex 52 = .ok (.if_icmp .ge 40, 3) ∧ decode cX9_ofVertex 55 = .ok (.iload 5, 2) ∧ decode cX9_ofVertex 57 = .ok (.aload_n 0, 1) ∧ decode cX9_ofVertex 58 = .ok (.getfield 16, 3) ∧ decode cX9_ofVertex 61 = .ok (.iload_n 2, 1) ∧ decode cX9_ofVertex 62 = .ok (.iaload, 1) ∧ decode cX9_ofVertex 63 = .ok (.iload 6, 2) := by decide +kernel
theorem dX9_ofVertex_47 : decode cX9_ofVertex 47 = .ok (.istore 6, 2) := DX9_ofVertex_c3.1
theorem dX9_ofVertex_49 : decode cX9_ofVertex 49 = .ok (.iload 6, 2) := DX9_ofVertex_c3.2.1
theorem dX9_ofVertex_51 : decode cX9_ofVertex 51 = .ok (.iload_n 1, 1) := DX9_ofVertex_c3.2.2.1
theorem dX9_ofVertex_52 : decode cX9_ofVertex 52 = .ok (.if_icmp .ge 40, 3) := DX9_ofVertex_c3.2.2.2.1
theorem dX9_ofVertex_55 : decode cX9_ofVertex 55 = .ok (.iload 5, 2) := DX9_ofVertex_c3.2.2.2.2.1
theorem dX9_ofVertex_57 : decode cX9_ofVertex 57 = .ok (.aload_n 0, 1) := DX9_ofVertex_c3.2.2.2.2.2.1
theorem dX9_ofVertex_58 : decode cX9_ofVertex 58 = .ok (.getfield 16, 3) := DX9_ofVertex_c3.2.2.2.2.2.2.1
theorem dX9_ofVertex_61 : decode cX9_ofVertex 61 = .ok (.iload_n 2, 1) := DX9_ofVertex_c3.2.2.2.2.2.2.2.1
theorem dX9_ofVertex_62 : decode cX9_ofVertex 62 = .ok (.iaload, 1) := DX9_ofVertex_c3.2.2.2.2.2.2.2.2.1
theorem dX9_ofVertex_63 : decode cX9_ofVertex 63 = .ok (.iload 6, 2) := DX9_ofVertex_c3.2.2.2.2.2.2.2.2.2
set_option maxRecDepth 100000 in
theorem DX9_ofVertex_c4 : decode cX9_ofVertex 65 = .ok (.ishr, 1) ∧ decode cX9_ofVertex 66 = .ok (.iconst 1, 1) ∧ decode cX9_ofVertex 67 = .ok (.iand, 1) ∧ decode cX9_ofVertex 68 = .ok (.iconst 1, 1) ∧ decode cX9_ofVertex 69 = .ok (.if_icmp .ne 13, 3) ∧ decode cX9_ofVertex 72 = .ok (.aload_n 0, 1) ∧ decode cX9_ofVertex 73 = .ok (.iload 6, 2) ∧ decode cX9_ofVertex 75 = .ok (.iload_n 2, 1) ∧ decode cX9_ofVertex 76 = .ok (.invokevirtual 140, 3) ∧ decode cX9_ofVertex 79 = .ok (.goto 4, 3) := by decide +kernel
theorem dX9_ofVertex_65 : decode cX9_ofVertex 65 = .ok (.ishr, 1) := DX9_ofVertex_c4.1
theorem dX9_ofVertex_66 : decode cX9_ofVertex 66 = .ok (.iconst 1, 1) := DX9_ofVertex_c4.2.1
theorem dX9_ofVertex_67 : decode cX9_ofVertex 67 = .ok (.iand, 1) := DX9_ofVertex_c4.2.2.1
theorem dX9_ofVertex_68 : decode cX9_ofVertex 68 = .ok (.iconst 1, 1) := DX9_ofVertex_c4.2.2.2.1
theorem dX9_ofVertex_69 : decode cX9_ofVertex 69 = .ok (.if_icmp .ne 13, 3) := DX9_ofVertex_c4.2.2.2.2.1
theorem dX9_ofVertex_72 : decode cX9_ofVertex 72 = .ok (.aload_n 0, 1) := DX9_ofVertex_c4.2.2.2.2.2.1
theorem dX9_ofVertex_73 : decode cX9_ofVertex 73 = .ok (.iload 6, 2) := DX9_ofVertex_c4.2.2.2.2.2.2.1
theorem dX9_ofVertex_75 : decode cX9_ofVertex 75 = .ok (.iload_n 2, 1) := DX9_ofVertex_c4.2.2.2.2.2.2.2.1
theorem dX9_ofVertex_76 : decode cX9_ofVertex 76 = .ok (.invokevirtual 140, 3) := DX9_ofVertex_c4.2.2.2.2.2.2.2.2.1
theorem dX9_ofVertex_79 : decode cX9_ofVertex 79 = .ok (.goto 4, 3) := DX9_ofVertex_c4.2.2.2.2.2.2.2.2.2
set_option maxRecDepth 100000 in
theorem DX9_ofVertex_c5 : decode cX9_ofVertex 82 = .ok (.iconst 0, 1) ∧ decode cX9_ofVertex 83 = .ok (.iadd, 1) ∧ decode cX9_ofVertex 84 = .ok (.istore 5, 2) ∧ decode cX9_ofVertex 86 = .ok (.iinc 6 1, 3) ∧ decode cX9_ofVertex 89 = .ok (.goto (-40), 3) ∧ decode cX9_ofVertex 92 = .ok (.iload 5, 2) ∧ decode cX9_ofVertex 94 = .ok (.iconst 2, 1) ∧ decode cX9_ofVertex 95 = .ok (.idiv, 1) ∧ decode cX9_ofVertex 96 = .ok (.iload 4, 2) ∧ decode cX9_ofVertex 98 = .ok (.iconst 2, 1) := by decide +kernel
theorem dX9_ofVertex_82 : decode cX9_ofVertex 82 = .ok (.iconst 0, 1) := DX9_ofVertex_c5.1
theorem dX9_ofVertex_83 : decode cX9_ofVertex 83 = .ok (.iadd, 1) := DX9_ofVertex_c5.2.1
theorem dX9_ofVertex_84 : decode cX9_ofVertex 84 = .ok (.istore 5, 2) := DX9_ofVertex_c5.2.2.1
theorem dX9_ofVertex_86 : decode cX9_ofVertex 86 = .ok (.iinc 6 1, 3) := DX9_ofVertex_c5.2.2.2.1
theorem dX9_ofVertex_89 : decode cX9_ofVertex 89 = .ok (.goto (-40), 3) := DX9_ofVertex_c5.2.2.2.2.1
theorem dX9_ofVertex_92 : decode cX9_ofVertex 92 = .ok (.iload 5, 2) := DX9_ofVertex_c5.2.2.2.2.2.1
theorem dX9_ofVertex_94 : decode cX9_ofVertex 94 = .ok (.iconst 2, 1) := DX9_ofVertex_c5.2.2.2.2.2.2.1
theorem dX9_ofVertex_95 : decode cX9_ofVertex 95 = .ok (.idiv, 1) := DX9_ofVertex_c5.2.2.2.2.2.2.2.1
theorem dX9_ofVertex_96 : decode cX9_ofVertex 96 = .ok (.iload 4, 2) := DX9_ofVertex_c5.2.2.2.2.2.2.2.2.1
theorem dX9_ofVertex_98 : decode cX9_ofVertex 98 = .ok (.iconst 2, 1) := DX9_ofVertex_c5.2.2.2.2.2.2.2.2.2
set_option maxRecDepth 100000 in
theorem DX9_ofVertex_c6 : decode cX9_ofVertex 99 = .ok (.isub, 1) ∧ decode cX9_ofVertex 100 = .ok (.imul, 1) ∧ decode cX9_ofVertex 101 = .ok (.ireturn, 1) := by decide +kernel
theorem dX9_ofVertex_99 : decode cX9_ofVertex 99 = .ok (.isub, 1) := DX9_ofVertex_c6.1
theorem dX9_ofVertex_100 : decode cX9_ofVertex 100 = .ok (.imul, 1) := DX9_ofVertex_c6.2.1
theorem dX9_ofVertex_101 : decode cX9_ofVertex 101 = .ok (.ireturn, 1) := DX9_ofVertex_c6.2.2
set_option maxRecDepth 100000 in
theorem DX9_ofPair_c0 : decode cX9_ofPair 0 = .ok (.aload_n 0, 1) ∧ decode cX9_ofPair 1 = .ok (.iload_n 1, 1) ∧ decode cX9_ofPair 2 = .ok (.iload_n 2, 1) ∧ decode cX9_ofPair 3 = .ok (.invokevirtual 140, 3) ∧ decode cX9_ofPair 6 = .ok (.istore 4, 2) ∧ decode cX9_ofPair 8 = .ok (.iload_n 3, 1) ∧ decode cX9_ofPair 9 = .ok (.iconst 5, 1) ∧ decode cX9_ofPair 10 = .ok (.if_icmp .ne 9, 3) ∧ decode cX9_ofPair 13 = .ok (.iload 4, 2) ∧ decode cX9_ofPair 15 = .ok (.invokestatic 143, 3) := by decide +kernel
theorem dX9_ofPair_0 : decode cX9_ofPair 0 = .ok (.aload_n 0, 1) := DX9_ofPair_c0.1
theorem dX9_ofPair_1 : decode cX9_ofPair 1 = .ok (.iload_n 1, 1) := DX9_ofPair_c0.2.1
theorem dX9_ofPair_2 : decode cX9_ofPair 2 = .ok (.iload_n 2, 1) := DX9_ofPair_c0.2.2.1
theorem dX9_ofPair_3 : decode cX9_ofPair 3 = .ok (.invokevirtual 140, 3) := DX9_ofPair_c0.2.2.2.1
theorem dX9_ofPair_6 : decode cX9_ofPair 6 = .ok (.istore 4, 2) := DX9_ofPair_c0.2.2.2.2.1
theorem dX9_ofPair_8 : decode cX9_ofPair 8 = .ok (.iload_n 3, 1) := DX9_ofPair_c0.2.2.2.2.2.1
theorem dX9_ofPair_9 : decode cX9_ofPair 9 = .ok (.iconst 5, 1) := DX9_ofPair_c0.2.2.2.2.2.2.1
theorem dX9_ofPair_10 : decode cX9_ofPair 10 = .ok (.if_icmp .ne 9, 3) := DX9_ofPair_c0.2.2.2.2.2.2.2.1
theorem dX9_ofPair_13 : decode cX9_ofPair 13 = .ok (.iload 4, 2) := DX9_ofPair_c0.2.2.2.2.2.2.2.2.1
theorem dX9_ofPair_15 : decode cX9_ofPair 15 = .ok (.invokestatic 143, 3) := DX9_ofPair_c0.2.2.2.2.2.2.2.2.2
set_option maxRecDepth 100000 in
theorem DX9_ofPair_c1 : decode cX9_ofPair 18 = .ok (.ireturn, 1) ∧ decode cX9_ofPair 19 = .ok (.aload_n 0, 1) ∧ decode cX9_ofPair 20 = .ok (.getfield 16, 3) ∧ decode cX9_ofPair 23 = .ok (.iload_n 1, 1) ∧ decode cX9_ofPair 24 = .ok (.iaload, 1) ∧ decode cX9_ofPair 25 = .ok (.iload_n 2, 1) ∧ decode cX9_ofPair 26 = .ok (.ishr, 1) ∧ decode cX9_ofPair 27 = .ok (.iconst 1, 1) ∧ decode cX9_ofPair 28 = .ok (.iand, 1) ∧ decode cX9_ofPair 29 = .ok (.ifCond .ne 5, 3) := by decide +kernel
theorem dX9_ofPair_18 : decode cX9_ofPair 18 = .ok (.ireturn, 1) := DX9_ofPair_c1.1
theorem dX9_ofPair_19 : decode cX9_ofPair 19 = .ok (.aload_n 0, 1) := DX9_ofPair_c1.2.1
theorem dX9_ofPair_20 : decode cX9_ofPair 20 = .ok (.getfield 16, 3) := DX9_ofPair_c1.2.2.1
theorem dX9_ofPair_23 : decode cX9_ofPair 23 = .ok (.iload_n 1, 1) := DX9_ofPair_c1.2.2.2.1
theorem dX9_ofPair_24 : decode cX9_ofPair 24 = .ok (.iaload, 1) := DX9_ofPair_c1.2.2.2.2.1
theorem dX9_ofPair_25 : decode cX9_ofPair 25 = .ok (.iload_n 2, 1) := DX9_ofPair_c1.2.2.2.2.2.1
theorem dX9_ofPair_26 : decode cX9_ofPair 26 = .ok (.ishr, 1) := DX9_ofPair_c1.2.2.2.2.2.2.1
theorem dX9_ofPair_27 : decode cX9_ofPair 27 = .ok (.iconst 1, 1) := DX9_ofPair_c1.2.2.2.2.2.2.2.1
theorem dX9_ofPair_28 : decode cX9_ofPair 28 = .ok (.iand, 1) := DX9_ofPair_c1.2.2.2.2.2.2.2.2.1
theorem dX9_ofPair_29 : decode cX9_ofPair 29 = .ok (.ifCond .ne 5, 3) := DX9_ofPair_c1.2.2.2.2.2.2.2.2.2
set_option maxRecDepth 100000 in
theorem DX9_ofPair_c2 : decode cX9_ofPair 32 = .ok (.iconst 0, 1) ∧ decode cX9_ofPair 33 = .ok (.ireturn, 1) ∧ decode cX9_ofPair 34 = .ok (.iload_n 3, 1) ∧ decode cX9_ofPair 35 = .ok (.iconst 4, 1) ∧ decode cX9_ofPair 36 = .ok (.if_icmp .ne 27, 3) ∧ decode cX9_ofPair 39 = .ok (.aload_n 0, 1) ∧ decode cX9_ofPair 40 = .ok (.getfield 16, 3) ∧ decode cX9_ofPair 43 = .ok (.iload_n 1, 1) ∧ decode cX9_ofPair 44 = .ok (.iaload, 1) ∧ decode cX9_ofPair 45 = .ok (.invokestatic 118, 3) := by decide +kernel
theorem dX9_ofPair_32 : decode cX9_ofPair 32 = .ok (.iconst 0, 1) := DX9_ofPair_c2.1
theorem dX9_ofPair_33 : decode cX9_ofPair 33 = .ok (.ireturn, 1) := DX9_ofPair_c2.2.1
theorem dX9_ofPair_34 : decode cX9_ofPair 34 = .ok (.iload_n 3, 1) := DX9_ofPair_c2.2.2.1
theorem dX9_ofPair_35 : decode cX9_ofPair 35 = .ok (.iconst 4, 1) := DX9_ofPair_c2.2.2.2.1
theorem dX9_ofPair_36 : decode cX9_ofPair 36 = .ok (.if_icmp .ne 27, 3) := DX9_ofPair_c2.2.2.2.2.1
theorem dX9_ofPair_39 : decode cX9_ofPair 39 = .ok (.aload_n 0, 1) := DX9_ofPair_c2.2.2.2.2.2.1
theorem dX9_ofPair_40 : decode cX9_ofPair 40 = .ok (.getfield 16, 3) := DX9_ofPair_c2.2.2.2.2.2.2.1
theorem dX9_ofPair_43 : decode cX9_ofPair 43 = .ok (.iload_n 1, 1) := DX9_ofPair_c2.2.2.2.2.2.2.2.1
theorem dX9_ofPair_44 : decode cX9_ofPair 44 = .ok (.iaload, 1) := DX9_ofPair_c2.2.2.2.2.2.2.2.2.1
theorem dX9_ofPair_45 : decode cX9_ofPair 45 = .ok (.invokestatic 118, 3) := DX9_ofPair_c2.2.2.2.2.2.2.2.2.2
set_option maxRecDepth 100000 in
theorem DX9_ofPair_c3 : decode cX9_ofPair 48 = .ok (.iconst 1, 1) ∧ decode cX9_ofPair 49 = .ok (.isub, 1) ∧ decode cX9_ofPair 50 = .ok (.aload_n 0, 1) ∧ decode cX9_ofPair 51 = .ok (.getfield 16, 3) ∧ decode cX9_ofPair 54 = .ok (.iload_n 2, 1) ∧ decode cX9_ofPair 55 = .ok (.iaload, 1) ∧ decode cX9_ofPair 56 = .ok (.invokestatic 118, 3) ∧ decode cX9_ofPair 59 = .ok (.iconst 1, 1) ∧ decode cX9_ofPair 60 = .ok (.isub, 1) ∧ decode cX9_ofPair 61 = .ok (.imul, 1) := by decide +kernel
theorem dX9_ofPair_48 : decode cX9_ofPair 48 = .ok (.iconst 1, 1) := DX9_ofPair_c3.1
theorem dX9_ofPair_49 : decode cX9_ofPair 49 = .ok (.isub, 1) := DX9_ofPair_c3.2.1
theorem dX9_ofPair_50 : decode cX9_ofPair 50 = .ok (.aload_n 0, 1) := DX9_ofPair_c3.2.2.1
theorem dX9_ofPair_51 : decode cX9_ofPair 51 = .ok (.getfield 16, 3) := DX9_ofPair_c3.2.2.2.1
theorem dX9_ofPair_54 : decode cX9_ofPair 54 = .ok (.iload_n 2, 1) := DX9_ofPair_c3.2.2.2.2.1
theorem dX9_ofPair_55 : decode cX9_ofPair 55 = .ok (.iaload, 1) := DX9_ofPair_c3.2.2.2.2.2.1
theorem dX9_ofPair_56 : decode cX9_ofPair 56 = .ok (.invokestatic 118, 3) := DX9_ofPair_c3.2.2.2.2.2.2.1
theorem dX9_ofPair_59 : decode cX9_ofPair 59 = .ok (.iconst 1, 1) := DX9_ofPair_c3.2.2.2.2.2.2.2.1
theorem dX9_ofPair_60 : decode cX9_ofPair 60 = .ok (.isub, 1) := DX9_ofPair_c3.2.2.2.2.2.2.2.2.1
theorem dX9_ofPair_61 : decode cX9_ofPair 61 = .ok (.imul, 1) := DX9_ofPair_c3.2.2.2.2.2.2.2.2.2
set_option maxRecDepth 100000 in
theorem DX9_ofPair_c4 : decode cX9_ofPair 62 = .ok (.ireturn, 1) ∧ decode cX9_ofPair 63 = .ok (.iload_n 3, 1) ∧ decode cX9_ofPair 64 = .ok (.bipush 7, 2) ∧ decode cX9_ofPair 66 = .ok (.if_icmp .ne 11, 3) ∧ decode cX9_ofPair 69 = .ok (.iload 4, 2) ∧ decode cX9_ofPair 71 = .ok (.invokestatic 143, 3) ∧ decode cX9_ofPair 74 = .ok (.goto 20, 3) ∧ decode cX9_ofPair 77 = .ok (.aload_n 0, 1) ∧ decode cX9_ofPair 78 = .ok (.aload_n 0, 1) ∧ decode cX9_ofPair 79 = .ok (.getfield 16, 3) := by decide +kernel
theorem dX9_ofPair_62 : decode cX9_ofPair 62 = .ok (.ireturn, 1) := DX9_ofPair_c4.1
theorem dX9_ofPair_63 : decode cX9_ofPair 63 = .ok (.iload_n 3, 1) := DX9_ofPair_c4.2.1
theorem dX9_ofPair_64 : decode cX9_ofPair 64 = .ok (.bipush 7, 2) := DX9_ofPair_c4.2.2.1
theorem dX9_ofPair_66 : decode cX9_ofPair 66 = .ok (.if_icmp .ne 11, 3) := DX9_ofPair_c4.2.2.2.1
theorem dX9_ofPair_69 : decode cX9_ofPair 69 = .ok (.iload 4, 2) := DX9_ofPair_c4.2.2.2.2.1
theorem dX9_ofPair_71 : decode cX9_ofPair 71 = .ok (.invokestatic 143, 3) := DX9_ofPair_c4.2.2.2.2.2.1
theorem dX9_ofPair_74 : decode cX9_ofPair 74 = .ok (.goto 20, 3) := DX9_ofPair_c4.2.2.2.2.2.2.1
theorem dX9_ofPair_77 : decode cX9_ofPair 77 = .ok (.aload_n 0, 1) := DX9_ofPair_c4.2.2.2.2.2.2.2.1
theorem dX9_ofPair_78 : decode cX9_ofPair 78 = .ok (.aload_n 0, 1) := DX9_ofPair_c4.2.2.2.2.2.2.2.2.1
theorem dX9_ofPair_79 : decode cX9_ofPair 79 = .ok (.getfield 16, 3) := DX9_ofPair_c4.2.2.2.2.2.2.2.2.2
set_option maxRecDepth 100000 in
theorem DX9_ofPair_c5 : decode cX9_ofPair 82 = .ok (.iload_n 1, 1) ∧ decode cX9_ofPair 83 = .ok (.iaload, 1) ∧ decode cX9_ofPair 84 = .ok (.aload_n 0, 1) ∧ decode cX9_ofPair 85 = .ok (.getfield 16, 3) ∧ decode cX9_ofPair 88 = .ok (.iload_n 2, 1) ∧ decode cX9_ofPair 89 = .ok (.iaload, 1) ∧ decode cX9_ofPair 90 = .ok (.iand, 1) ∧ decode cX9_ofPair 91 = .ok (.invokevirtual 146, 3) ∧ decode cX9_ofPair 94 = .ok (.ireturn, 1) := by decide +kernel
theorem dX9_ofPair_82 : decode cX9_ofPair 82 = .ok (.iload_n 1, 1) := DX9_ofPair_c5.1
theorem dX9_ofPair_83 : decode cX9_ofPair 83 = .ok (.iaload, 1) := DX9_ofPair_c5.2.1
theorem dX9_ofPair_84 : decode cX9_ofPair 84 = .ok (.aload_n 0, 1) := DX9_ofPair_c5.2.2.1
theorem dX9_ofPair_85 : decode cX9_ofPair 85 = .ok (.getfield 16, 3) := DX9_ofPair_c5.2.2.2.1
theorem dX9_ofPair_88 : decode cX9_ofPair 88 = .ok (.iload_n 2, 1) := DX9_ofPair_c5.2.2.2.2.1
theorem dX9_ofPair_89 : decode cX9_ofPair 89 = .ok (.iaload, 1) := DX9_ofPair_c5.2.2.2.2.2.1
theorem dX9_ofPair_90 : decode cX9_ofPair 90 = .ok (.iand, 1) := DX9_ofPair_c5.2.2.2.2.2.2.1
theorem dX9_ofPair_91 : decode cX9_ofPair 91 = .ok (.invokevirtual 146, 3) := DX9_ofPair_c5.2.2.2.2.2.2.2.1
theorem dX9_ofPair_94 : decode cX9_ofPair 94 = .ok (.ireturn, 1) := DX9_ofPair_c5.2.2.2.2.2.2.2.2
set_option maxRecDepth 100000 in
theorem DX9_insideOf_c0 : decode cX9_insideOf 0 = .ok (.iconst 0, 1) ∧ decode cX9_insideOf 1 = .ok (.istore_n 2, 1) ∧ decode cX9_insideOf 2 = .ok (.iconst 0, 1) ∧ decode cX9_insideOf 3 = .ok (.istore_n 3, 1) ∧ decode cX9_insideOf 4 = .ok (.iload_n 3, 1) ∧ decode cX9_insideOf 5 = .ok (.bipush 8, 2) ∧ decode cX9_insideOf 7 = .ok (.if_icmp .ge 36, 3) ∧ decode cX9_insideOf 10 = .ok (.iload_n 2, 1) ∧ decode cX9_insideOf 11 = .ok (.iload_n 1, 1) ∧ decode cX9_insideOf 12 = .ok (.iload_n 3, 1) := by decide +kernel
theorem dX9_insideOf_0 : decode cX9_insideOf 0 = .ok (.iconst 0, 1) := DX9_insideOf_c0.1
theorem dX9_insideOf_1 : decode cX9_insideOf 1 = .ok (.istore_n 2, 1) := DX9_insideOf_c0.2.1
theorem dX9_insideOf_2 : decode cX9_insideOf 2 = .ok (.iconst 0, 1) := DX9_insideOf_c0.2.2.1
theorem dX9_insideOf_3 : decode cX9_insideOf 3 = .ok (.istore_n 3, 1) := DX9_insideOf_c0.2.2.2.1
theorem dX9_insideOf_4 : decode cX9_insideOf 4 = .ok (.iload_n 3, 1) := DX9_insideOf_c0.2.2.2.2.1
theorem dX9_insideOf_5 : decode cX9_insideOf 5 = .ok (.bipush 8, 2) := DX9_insideOf_c0.2.2.2.2.2.1
theorem dX9_insideOf_7 : decode cX9_insideOf 7 = .ok (.if_icmp .ge 36, 3) := DX9_insideOf_c0.2.2.2.2.2.2.1
theorem dX9_insideOf_10 : decode cX9_insideOf 10 = .ok (.iload_n 2, 1) := DX9_insideOf_c0.2.2.2.2.2.2.2.1
theorem dX9_insideOf_11 : decode cX9_insideOf 11 = .ok (.iload_n 1, 1) := DX9_insideOf_c0.2.2.2.2.2.2.2.2.1
theorem dX9_insideOf_12 : decode cX9_insideOf 12 = .ok (.iload_n 3, 1) := DX9_insideOf_c0.2.2.2.2.2.2.2.2.2
set_option maxRecDepth 100000 in
theorem DX9_insideOf_c1 : decode cX9_insideOf 13 = .ok (.ishr, 1) ∧ decode cX9_insideOf 14 = .ok (.iconst 1, 1) ∧ decode cX9_insideOf 15 = .ok (.iand, 1) ∧ decode cX9_insideOf 16 = .ok (.iconst 1, 1) ∧ decode cX9_insideOf 17 = .ok (.if_icmp .ne 17, 3) ∧ decode cX9_insideOf 20 = .ok (.aload_n 0, 1) ∧ decode cX9_insideOf 21 = .ok (.getfield 16, 3) ∧ decode cX9_insideOf 24 = .ok (.iload_n 3, 1) ∧ decode cX9_insideOf 25 = .ok (.iaload, 1) ∧ decode cX9_insideOf 26 = .ok (.iload_n 1, 1) := by decide +kernel
theorem dX9_insideOf_13 : decode cX9_insideOf 13 = .ok (.ishr, 1) := DX9_insideOf_c1.1
theorem dX9_insideOf_14 : decode cX9_insideOf 14 = .ok (.iconst 1, 1) := DX9_insideOf_c1.2.1
theorem dX9_insideOf_15 : decode cX9_insideOf 15 = .ok (.iand, 1) := DX9_insideOf_c1.2.2.1
theorem dX9_insideOf_16 : decode cX9_insideOf 16 = .ok (.iconst 1, 1) := DX9_insideOf_c1.2.2.2.1
theorem dX9_insideOf_17 : decode cX9_insideOf 17 = .ok (.if_icmp .ne 17, 3) := DX9_insideOf_c1.2.2.2.2.1
theorem dX9_insideOf_20 : decode cX9_insideOf 20 = .ok (.aload_n 0, 1) := DX9_insideOf_c1.2.2.2.2.2.1
theorem dX9_insideOf_21 : decode cX9_insideOf 21 = .ok (.getfield 16, 3) := DX9_insideOf_c1.2.2.2.2.2.2.1
theorem dX9_insideOf_24 : decode cX9_insideOf 24 = .ok (.iload_n 3, 1) := DX9_insideOf_c1.2.2.2.2.2.2.2.1
theorem dX9_insideOf_25 : decode cX9_insideOf 25 = .ok (.iaload, 1) := DX9_insideOf_c1.2.2.2.2.2.2.2.2.1
theorem dX9_insideOf_26 : decode cX9_insideOf 26 = .ok (.iload_n 1, 1) := DX9_insideOf_c1.2.2.2.2.2.2.2.2.2
set_option maxRecDepth 100000 in
theorem DX9_insideOf_c2 : decode cX9_insideOf 27 = .ok (.iand, 1) ∧ decode cX9_insideOf 28 = .ok (.invokestatic 118, 3) ∧ decode cX9_insideOf 31 = .ok (.goto 4, 3) ∧ decode cX9_insideOf 34 = .ok (.iconst 0, 1) ∧ decode cX9_insideOf 35 = .ok (.iadd, 1) ∧ decode cX9_insideOf 36 = .ok (.istore_n 2, 1) ∧ decode cX9_insideOf 37 = .ok (.iinc 3 1, 3) ∧ decode cX9_insideOf 40 = .ok (.goto (-36), 3) ∧ decode cX9_insideOf 43 = .ok (.iload_n 2, 1) ∧ decode cX9_insideOf 44 = .ok (.iconst 2, 1) := by decide +kernel
theorem dX9_insideOf_27 : decode cX9_insideOf 27 = .ok (.iand, 1) := DX9_insideOf_c2.1
theorem dX9_insideOf_28 : decode cX9_insideOf 28 = .ok (.invokestatic 118, 3) := DX9_insideOf_c2.2.1
theorem dX9_insideOf_31 : decode cX9_insideOf 31 = .ok (.goto 4, 3) := DX9_insideOf_c2.2.2.1
theorem dX9_insideOf_34 : decode cX9_insideOf 34 = .ok (.iconst 0, 1) := DX9_insideOf_c2.2.2.2.1
theorem dX9_insideOf_35 : decode cX9_insideOf 35 = .ok (.iadd, 1) := DX9_insideOf_c2.2.2.2.2.1
theorem dX9_insideOf_36 : decode cX9_insideOf 36 = .ok (.istore_n 2, 1) := DX9_insideOf_c2.2.2.2.2.2.1
theorem dX9_insideOf_37 : decode cX9_insideOf 37 = .ok (.iinc 3 1, 3) := DX9_insideOf_c2.2.2.2.2.2.2.1
theorem dX9_insideOf_40 : decode cX9_insideOf 40 = .ok (.goto (-36), 3) := DX9_insideOf_c2.2.2.2.2.2.2.2.1
theorem dX9_insideOf_43 : decode cX9_insideOf 43 = .ok (.iload_n 2, 1) := DX9_insideOf_c2.2.2.2.2.2.2.2.2.1
theorem dX9_insideOf_44 : decode cX9_insideOf 44 = .ok (.iconst 2, 1) := DX9_insideOf_c2.2.2.2.2.2.2.2.2.2
set_option maxRecDepth 100000 in
theorem DX9_insideOf_c3 : decode cX9_insideOf 45 = .ok (.idiv, 1) ∧ decode cX9_insideOf 46 = .ok (.ireturn, 1) := by decide +kernel
theorem dX9_insideOf_45 : decode cX9_insideOf 45 = .ok (.idiv, 1) := DX9_insideOf_c3.1
theorem dX9_insideOf_46 : decode cX9_insideOf 46 = .ok (.ireturn, 1) := DX9_insideOf_c3.2
set_option maxRecDepth 100000 in
theorem DX9_copiesIn_c0 : decode cX9_copiesIn 0 = .ok (.iconst 0, 1) ∧ decode cX9_copiesIn 1 = .ok (.istore 4, 2) ∧ decode cX9_copiesIn 3 = .ok (.iload 4, 2) ∧ decode cX9_copiesIn 5 = .ok (.bipush 8, 2) ∧ decode cX9_copiesIn 7 = .ok (.if_icmp .ge 33, 3) ∧ decode cX9_copiesIn 10 = .ok (.aload_n 0, 1) ∧ decode cX9_copiesIn 11 = .ok (.getfield 16, 3) ∧ decode cX9_copiesIn 14 = .ok (.iload 4, 2) ∧ decode cX9_copiesIn 16 = .ok (.iload 4, 2) ∧ decode cX9_copiesIn 18 = .ok (.iload_n 1, 1) := by decide +kernel
theorem dX9_copiesIn_0 : decode cX9_copiesIn 0 = .ok (.iconst 0, 1) := DX9_copiesIn_c0.1
theorem dX9_copiesIn_1 : decode cX9_copiesIn 1 = .ok (.istore 4, 2) := DX9_copiesIn_c0.2.1
theorem dX9_copiesIn_3 : decode cX9_copiesIn 3 = .ok (.iload 4, 2) := DX9_copiesIn_c0.2.2.1
theorem dX9_copiesIn_5 : decode cX9_copiesIn 5 = .ok (.bipush 8, 2) := DX9_copiesIn_c0.2.2.2.1
theorem dX9_copiesIn_7 : decode cX9_copiesIn 7 = .ok (.if_icmp .ge 33, 3) := DX9_copiesIn_c0.2.2.2.2.1
theorem dX9_copiesIn_10 : decode cX9_copiesIn 10 = .ok (.aload_n 0, 1) := DX9_copiesIn_c0.2.2.2.2.2.1
theorem dX9_copiesIn_11 : decode cX9_copiesIn 11 = .ok (.getfield 16, 3) := DX9_copiesIn_c0.2.2.2.2.2.2.1
theorem dX9_copiesIn_14 : decode cX9_copiesIn 14 = .ok (.iload 4, 2) := DX9_copiesIn_c0.2.2.2.2.2.2.2.1
theorem dX9_copiesIn_16 : decode cX9_copiesIn 16 = .ok (.iload 4, 2) := DX9_copiesIn_c0.2.2.2.2.2.2.2.2.1
theorem dX9_copiesIn_18 : decode cX9_copiesIn 18 = .ok (.iload_n 1, 1) := DX9_copiesIn_c0.2.2.2.2.2.2.2.2.2
set_option maxRecDepth 100000 in
theorem DX9_copiesIn_c1 : decode cX9_copiesIn 19 = .ok (.if_icmp .ge 13, 3) ∧ decode cX9_copiesIn 22 = .ok (.iload_n 1, 1) ∧ decode cX9_copiesIn 23 = .ok (.iload_n 2, 1) ∧ decode cX9_copiesIn 24 = .ok (.iload 4, 2) ∧ decode cX9_copiesIn 26 = .ok (.invokestatic 77, 3) ∧ decode cX9_copiesIn 29 = .ok (.goto 4, 3) ∧ decode cX9_copiesIn 32 = .ok (.iconst 0, 1) ∧ decode cX9_copiesIn 33 = .ok (.iastore, 1) ∧ decode cX9_copiesIn 34 = .ok (.iinc 4 1, 3) ∧ decode cX9_copiesIn 37 = .ok (.goto (-34), 3) := by decide +kernel
theorem dX9_copiesIn_19 : decode cX9_copiesIn 19 = .ok (.if_icmp .ge 13, 3) := DX9_copiesIn_c1.1
theorem dX9_copiesIn_22 : decode cX9_copiesIn 22 = .ok (.iload_n 1, 1) := DX9_copiesIn_c1.2.1
theorem dX9_copiesIn_23 : decode cX9_copiesIn 23 = .ok (.iload_n 2, 1) := DX9_copiesIn_c1.2.2.1
theorem dX9_copiesIn_24 : decode cX9_copiesIn 24 = .ok (.iload 4, 2) := DX9_copiesIn_c1.2.2.2.1
theorem dX9_copiesIn_26 : decode cX9_copiesIn 26 = .ok (.invokestatic 77, 3) := DX9_copiesIn_c1.2.2.2.2.1
theorem dX9_copiesIn_29 : decode cX9_copiesIn 29 = .ok (.goto 4, 3) := DX9_copiesIn_c1.2.2.2.2.2.1
theorem dX9_copiesIn_32 : decode cX9_copiesIn 32 = .ok (.iconst 0, 1) := DX9_copiesIn_c1.2.2.2.2.2.2.1
theorem dX9_copiesIn_33 : decode cX9_copiesIn 33 = .ok (.iastore, 1) := DX9_copiesIn_c1.2.2.2.2.2.2.2.1
theorem dX9_copiesIn_34 : decode cX9_copiesIn 34 = .ok (.iinc 4 1, 3) := DX9_copiesIn_c1.2.2.2.2.2.2.2.2.1
theorem dX9_copiesIn_37 : decode cX9_copiesIn 37 = .ok (.goto (-34), 3) := DX9_copiesIn_c1.2.2.2.2.2.2.2.2.2
set_option maxRecDepth 100000 in
theorem DX9_copiesIn_c2 : decode cX9_copiesIn 40 = .ok (.iload_n 3, 1) ∧ decode cX9_copiesIn 41 = .ok (.ifCond .ne 8, 3) ∧ decode cX9_copiesIn 44 = .ok (.iload_n 2, 1) ∧ decode cX9_copiesIn 45 = .ok (.invokestatic 118, 3) ∧ decode cX9_copiesIn 48 = .ok (.ireturn, 1) ∧ decode cX9_copiesIn 49 = .ok (.iload_n 3, 1) ∧ decode cX9_copiesIn 50 = .ok (.iconst 2, 1) ∧ decode cX9_copiesIn 51 = .ok (.if_icmp .ne 9, 3) ∧ decode cX9_copiesIn 54 = .ok (.aload_n 0, 1) ∧ decode cX9_copiesIn 55 = .ok (.iload_n 1, 1) := by decide +kernel
theorem dX9_copiesIn_40 : decode cX9_copiesIn 40 = .ok (.iload_n 3, 1) := DX9_copiesIn_c2.1
theorem dX9_copiesIn_41 : decode cX9_copiesIn 41 = .ok (.ifCond .ne 8, 3) := DX9_copiesIn_c2.2.1
theorem dX9_copiesIn_44 : decode cX9_copiesIn 44 = .ok (.iload_n 2, 1) := DX9_copiesIn_c2.2.2.1
theorem dX9_copiesIn_45 : decode cX9_copiesIn 45 = .ok (.invokestatic 118, 3) := DX9_copiesIn_c2.2.2.2.1
theorem dX9_copiesIn_48 : decode cX9_copiesIn 48 = .ok (.ireturn, 1) := DX9_copiesIn_c2.2.2.2.2.1
theorem dX9_copiesIn_49 : decode cX9_copiesIn 49 = .ok (.iload_n 3, 1) := DX9_copiesIn_c2.2.2.2.2.2.1
theorem dX9_copiesIn_50 : decode cX9_copiesIn 50 = .ok (.iconst 2, 1) := DX9_copiesIn_c2.2.2.2.2.2.2.1
theorem dX9_copiesIn_51 : decode cX9_copiesIn 51 = .ok (.if_icmp .ne 9, 3) := DX9_copiesIn_c2.2.2.2.2.2.2.2.1
theorem dX9_copiesIn_54 : decode cX9_copiesIn 54 = .ok (.aload_n 0, 1) := DX9_copiesIn_c2.2.2.2.2.2.2.2.2.1
theorem dX9_copiesIn_55 : decode cX9_copiesIn 55 = .ok (.iload_n 1, 1) := DX9_copiesIn_c2.2.2.2.2.2.2.2.2.2
set_option maxRecDepth 100000 in
theorem DX9_copiesIn_c3 : decode cX9_copiesIn 56 = .ok (.invokevirtual 149, 3) ∧ decode cX9_copiesIn 59 = .ok (.ireturn, 1) ∧ decode cX9_copiesIn 60 = .ok (.iload_n 3, 1) ∧ decode cX9_copiesIn 61 = .ok (.iconst 1, 1) ∧ decode cX9_copiesIn 62 = .ok (.if_icmp .eq 14, 3) ∧ decode cX9_copiesIn 65 = .ok (.iload_n 3, 1) ∧ decode cX9_copiesIn 66 = .ok (.iconst 3, 1) ∧ decode cX9_copiesIn 67 = .ok (.if_icmp .eq 9, 3) ∧ decode cX9_copiesIn 70 = .ok (.iload_n 3, 1) ∧ decode cX9_copiesIn 71 = .ok (.bipush 6, 2) := by decide +kernel
theorem dX9_copiesIn_56 : decode cX9_copiesIn 56 = .ok (.invokevirtual 149, 3) := DX9_copiesIn_c3.1
theorem dX9_copiesIn_59 : decode cX9_copiesIn 59 = .ok (.ireturn, 1) := DX9_copiesIn_c3.2.1
theorem dX9_copiesIn_60 : decode cX9_copiesIn 60 = .ok (.iload_n 3, 1) := DX9_copiesIn_c3.2.2.1
theorem dX9_copiesIn_61 : decode cX9_copiesIn 61 = .ok (.iconst 1, 1) := DX9_copiesIn_c3.2.2.2.1
theorem dX9_copiesIn_62 : decode cX9_copiesIn 62 = .ok (.if_icmp .eq 14, 3) := DX9_copiesIn_c3.2.2.2.2.1
theorem dX9_copiesIn_65 : decode cX9_copiesIn 65 = .ok (.iload_n 3, 1) := DX9_copiesIn_c3.2.2.2.2.2.1
theorem dX9_copiesIn_66 : decode cX9_copiesIn 66 = .ok (.iconst 3, 1) := DX9_copiesIn_c3.2.2.2.2.2.2.1
theorem dX9_copiesIn_67 : decode cX9_copiesIn 67 = .ok (.if_icmp .eq 9, 3) := DX9_copiesIn_c3.2.2.2.2.2.2.2.1
theorem dX9_copiesIn_70 : decode cX9_copiesIn 70 = .ok (.iload_n 3, 1) := DX9_copiesIn_c3.2.2.2.2.2.2.2.2.1
theorem dX9_copiesIn_71 : decode cX9_copiesIn 71 = .ok (.bipush 6, 2) := DX9_copiesIn_c3.2.2.2.2.2.2.2.2.2
set_option maxRecDepth 100000 in
theorem DX9_copiesIn_c4 : decode cX9_copiesIn 73 = .ok (.if_icmp .ne 7, 3) ∧ decode cX9_copiesIn 76 = .ok (.iconst 1, 1) ∧ decode cX9_copiesIn 77 = .ok (.goto 4, 3) ∧ decode cX9_copiesIn 80 = .ok (.iconst 0, 1) ∧ decode cX9_copiesIn 81 = .ok (.istore 4, 2) ∧ decode cX9_copiesIn 83 = .ok (.iconst 0, 1) ∧ decode cX9_copiesIn 84 = .ok (.istore 5, 2) ∧ decode cX9_copiesIn 86 = .ok (.iconst 0, 1) ∧ decode cX9_copiesIn 87 = .ok (.istore 6, 2) ∧ decode cX9_copiesIn 89 = .ok (.iload 6, 2) := by decide +kernel
theorem dX9_copiesIn_73 : decode cX9_copiesIn 73 = .ok (.if_icmp .ne 7, 3) := DX9_copiesIn_c4.1
theorem dX9_copiesIn_76 : decode cX9_copiesIn 76 = .ok (.iconst 1, 1) := DX9_copiesIn_c4.2.1
theorem dX9_copiesIn_77 : decode cX9_copiesIn 77 = .ok (.goto 4, 3) := DX9_copiesIn_c4.2.2.1
theorem dX9_copiesIn_80 : decode cX9_copiesIn 80 = .ok (.iconst 0, 1) := DX9_copiesIn_c4.2.2.2.1
theorem dX9_copiesIn_81 : decode cX9_copiesIn 81 = .ok (.istore 4, 2) := DX9_copiesIn_c4.2.2.2.2.1
theorem dX9_copiesIn_83 : decode cX9_copiesIn 83 = .ok (.iconst 0, 1) := DX9_copiesIn_c4.2.2.2.2.2.1
theorem dX9_copiesIn_84 : decode cX9_copiesIn 84 = .ok (.istore 5, 2) := DX9_copiesIn_c4.2.2.2.2.2.2.1
theorem dX9_copiesIn_86 : decode cX9_copiesIn 86 = .ok (.iconst 0, 1) := DX9_copiesIn_c4.2.2.2.2.2.2.2.1
theorem dX9_copiesIn_87 : decode cX9_copiesIn 87 = .ok (.istore 6, 2) := DX9_copiesIn_c4.2.2.2.2.2.2.2.2.1
theorem dX9_copiesIn_89 : decode cX9_copiesIn 89 = .ok (.iload 6, 2) := DX9_copiesIn_c4.2.2.2.2.2.2.2.2.2
set_option maxRecDepth 100000 in
theorem DX9_copiesIn_c5 : decode cX9_copiesIn 91 = .ok (.iload_n 1, 1) ∧ decode cX9_copiesIn 92 = .ok (.if_icmp .ge 66, 3) ∧ decode cX9_copiesIn 95 = .ok (.iload 5, 2) ∧ decode cX9_copiesIn 97 = .ok (.iload 4, 2) ∧ decode cX9_copiesIn 99 = .ok (.ifCond .eq 14, 3) ∧ decode cX9_copiesIn 102 = .ok (.aload_n 0, 1) ∧ decode cX9_copiesIn 103 = .ok (.iload_n 1, 1) ∧ decode cX9_copiesIn 104 = .ok (.iload 6, 2) ∧ decode cX9_copiesIn 106 = .ok (.iload_n 3, 1) ∧ decode cX9_copiesIn 107 = .ok (.invokevirtual 152, 3) := by decide +kernel
theorem dX9_copiesIn_91 : decode cX9_copiesIn 91 = .ok (.iload_n 1, 1) := DX9_copiesIn_c5.1
theorem dX9_copiesIn_92 : decode cX9_copiesIn 92 = .ok (.if_icmp .ge 66, 3) := DX9_copiesIn_c5.2.1
theorem dX9_copiesIn_95 : decode cX9_copiesIn 95 = .ok (.iload 5, 2) := DX9_copiesIn_c5.2.2.1
theorem dX9_copiesIn_97 : decode cX9_copiesIn 97 = .ok (.iload 4, 2) := DX9_copiesIn_c5.2.2.2.1
theorem dX9_copiesIn_99 : decode cX9_copiesIn 99 = .ok (.ifCond .eq 14, 3) := DX9_copiesIn_c5.2.2.2.2.1
theorem dX9_copiesIn_102 : decode cX9_copiesIn 102 = .ok (.aload_n 0, 1) := DX9_copiesIn_c5.2.2.2.2.2.1
theorem dX9_copiesIn_103 : decode cX9_copiesIn 103 = .ok (.iload_n 1, 1) := DX9_copiesIn_c5.2.2.2.2.2.2.1
theorem dX9_copiesIn_104 : decode cX9_copiesIn 104 = .ok (.iload 6, 2) := DX9_copiesIn_c5.2.2.2.2.2.2.2.1
theorem dX9_copiesIn_106 : decode cX9_copiesIn 106 = .ok (.iload_n 3, 1) := DX9_copiesIn_c5.2.2.2.2.2.2.2.2.1
theorem dX9_copiesIn_107 : decode cX9_copiesIn 107 = .ok (.invokevirtual 152, 3) := DX9_copiesIn_c5.2.2.2.2.2.2.2.2.2
set_option maxRecDepth 100000 in
theorem DX9_copiesIn_c6 : decode cX9_copiesIn 110 = .ok (.goto 4, 3) ∧ decode cX9_copiesIn 113 = .ok (.iconst 0, 1) ∧ decode cX9_copiesIn 114 = .ok (.iadd, 1) ∧ decode cX9_copiesIn 115 = .ok (.istore 5, 2) ∧ decode cX9_copiesIn 117 = .ok (.iconst 0, 1) ∧ decode cX9_copiesIn 118 = .ok (.istore 7, 2) ∧ decode cX9_copiesIn 120 = .ok (.iload 7, 2) ∧ decode cX9_copiesIn 122 = .ok (.iload 6, 2) ∧ decode cX9_copiesIn 124 = .ok (.if_icmp .ge 28, 3) ∧ decode cX9_copiesIn 127 = .ok (.iload 4, 2) := by decide +kernel
theorem dX9_copiesIn_110 : decode cX9_copiesIn 110 = .ok (.goto 4, 3) := DX9_copiesIn_c6.1
theorem dX9_copiesIn_113 : decode cX9_copiesIn 113 = .ok (.iconst 0, 1) := DX9_copiesIn_c6.2.1
theorem dX9_copiesIn_114 : decode cX9_copiesIn 114 = .ok (.iadd, 1) := DX9_copiesIn_c6.2.2.1
theorem dX9_copiesIn_115 : decode cX9_copiesIn 115 = .ok (.istore 5, 2) := DX9_copiesIn_c6.2.2.2.1
theorem dX9_copiesIn_117 : decode cX9_copiesIn 117 = .ok (.iconst 0, 1) := DX9_copiesIn_c6.2.2.2.2.1
theorem dX9_copiesIn_118 : decode cX9_copiesIn 118 = .ok (.istore 7, 2) := DX9_copiesIn_c6.2.2.2.2.2.1
theorem dX9_copiesIn_120 : decode cX9_copiesIn 120 = .ok (.iload 7, 2) := DX9_copiesIn_c6.2.2.2.2.2.2.1
theorem dX9_copiesIn_122 : decode cX9_copiesIn 122 = .ok (.iload 6, 2) := DX9_copiesIn_c6.2.2.2.2.2.2.2.1
theorem dX9_copiesIn_124 : decode cX9_copiesIn 124 = .ok (.if_icmp .ge 28, 3) := DX9_copiesIn_c6.2.2.2.2.2.2.2.2.1
theorem dX9_copiesIn_127 : decode cX9_copiesIn 127 = .ok (.iload 4, 2) := DX9_copiesIn_c6.2.2.2.2.2.2.2.2.2
set_option maxRecDepth 100000 in
theorem DX9_copiesIn_c7 : decode cX9_copiesIn 129 = .ok (.ifCond .ne 23, 3) ∧ decode cX9_copiesIn 132 = .ok (.iload 5, 2) ∧ decode cX9_copiesIn 134 = .ok (.aload_n 0, 1) ∧ decode cX9_copiesIn 135 = .ok (.iload 7, 2) ∧ decode cX9_copiesIn 137 = .ok (.iload 6, 2) ∧ decode cX9_copiesIn 139 = .ok (.iload_n 3, 1) ∧ decode cX9_copiesIn 140 = .ok (.invokevirtual 155, 3) ∧ decode cX9_copiesIn 143 = .ok (.iadd, 1) ∧ decode cX9_copiesIn 144 = .ok (.istore 5, 2) ∧ decode cX9_copiesIn 146 = .ok (.iinc 7 1, 3) := by decide +kernel
theorem dX9_copiesIn_129 : decode cX9_copiesIn 129 = .ok (.ifCond .ne 23, 3) := DX9_copiesIn_c7.1
theorem dX9_copiesIn_132 : decode cX9_copiesIn 132 = .ok (.iload 5, 2) := DX9_copiesIn_c7.2.1
theorem dX9_copiesIn_134 : decode cX9_copiesIn 134 = .ok (.aload_n 0, 1) := DX9_copiesIn_c7.2.2.1
theorem dX9_copiesIn_135 : decode cX9_copiesIn 135 = .ok (.iload 7, 2) := DX9_copiesIn_c7.2.2.2.1
theorem dX9_copiesIn_137 : decode cX9_copiesIn 137 = .ok (.iload 6, 2) := DX9_copiesIn_c7.2.2.2.2.1
theorem dX9_copiesIn_139 : decode cX9_copiesIn 139 = .ok (.iload_n 3, 1) := DX9_copiesIn_c7.2.2.2.2.2.1
theorem dX9_copiesIn_140 : decode cX9_copiesIn 140 = .ok (.invokevirtual 155, 3) := DX9_copiesIn_c7.2.2.2.2.2.2.1
theorem dX9_copiesIn_143 : decode cX9_copiesIn 143 = .ok (.iadd, 1) := DX9_copiesIn_c7.2.2.2.2.2.2.2.1
theorem dX9_copiesIn_144 : decode cX9_copiesIn 144 = .ok (.istore 5, 2) := DX9_copiesIn_c7.2.2.2.2.2.2.2.2.1
theorem dX9_copiesIn_146 : decode cX9_copiesIn 146 = .ok (.iinc 7 1, 3) := DX9_copiesIn_c7.2.2.2.2.2.2.2.2.2
set_option maxRecDepth 100000 in
theorem DX9_copiesIn_c8 : decode cX9_copiesIn 149 = .ok (.goto (-29), 3) ∧ decode cX9_copiesIn 152 = .ok (.iinc 6 1, 3) ∧ decode cX9_copiesIn 155 = .ok (.goto (-66), 3) ∧ decode cX9_copiesIn 158 = .ok (.iload_n 3, 1) ∧ decode cX9_copiesIn 159 = .ok (.iconst 4, 1) ∧ decode cX9_copiesIn 160 = .ok (.if_icmp .ne 16, 3) ∧ decode cX9_copiesIn 163 = .ok (.iload 5, 2) ∧ decode cX9_copiesIn 165 = .ok (.iconst 3, 1) ∧ decode cX9_copiesIn 166 = .ok (.aload_n 0, 1) ∧ decode cX9_copiesIn 167 = .ok (.iload_n 1, 1) := by decide +kernel
theorem dX9_copiesIn_149 : decode cX9_copiesIn 149 = .ok (.goto (-29), 3) := DX9_copiesIn_c8.1
theorem dX9_copiesIn_152 : decode cX9_copiesIn 152 = .ok (.iinc 6 1, 3) := DX9_copiesIn_c8.2.1
theorem dX9_copiesIn_155 : decode cX9_copiesIn 155 = .ok (.goto (-66), 3) := DX9_copiesIn_c8.2.2.1
theorem dX9_copiesIn_158 : decode cX9_copiesIn 158 = .ok (.iload_n 3, 1) := DX9_copiesIn_c8.2.2.2.1
theorem dX9_copiesIn_159 : decode cX9_copiesIn 159 = .ok (.iconst 4, 1) := DX9_copiesIn_c8.2.2.2.2.1
theorem dX9_copiesIn_160 : decode cX9_copiesIn 160 = .ok (.if_icmp .ne 16, 3) := DX9_copiesIn_c8.2.2.2.2.2.1
theorem dX9_copiesIn_163 : decode cX9_copiesIn 163 = .ok (.iload 5, 2) := DX9_copiesIn_c8.2.2.2.2.2.2.1
theorem dX9_copiesIn_165 : decode cX9_copiesIn 165 = .ok (.iconst 3, 1) := DX9_copiesIn_c8.2.2.2.2.2.2.2.1
theorem dX9_copiesIn_166 : decode cX9_copiesIn 166 = .ok (.aload_n 0, 1) := DX9_copiesIn_c8.2.2.2.2.2.2.2.2.1
theorem dX9_copiesIn_167 : decode cX9_copiesIn 167 = .ok (.iload_n 1, 1) := DX9_copiesIn_c8.2.2.2.2.2.2.2.2.2
set_option maxRecDepth 100000 in
theorem DX9_copiesIn_c9 : decode cX9_copiesIn 168 = .ok (.invokevirtual 149, 3) ∧ decode cX9_copiesIn 171 = .ok (.imul, 1) ∧ decode cX9_copiesIn 172 = .ok (.isub, 1) ∧ decode cX9_copiesIn 173 = .ok (.goto 31, 3) ∧ decode cX9_copiesIn 176 = .ok (.iload_n 3, 1) ∧ decode cX9_copiesIn 177 = .ok (.iconst 5, 1) ∧ decode cX9_copiesIn 178 = .ok (.if_icmp .ne 10, 3) ∧ decode cX9_copiesIn 181 = .ok (.iload 5, 2) ∧ decode cX9_copiesIn 183 = .ok (.iconst 2, 1) ∧ decode cX9_copiesIn 184 = .ok (.idiv, 1) := by decide +kernel
theorem dX9_copiesIn_168 : decode cX9_copiesIn 168 = .ok (.invokevirtual 149, 3) := DX9_copiesIn_c9.1
theorem dX9_copiesIn_171 : decode cX9_copiesIn 171 = .ok (.imul, 1) := DX9_copiesIn_c9.2.1
theorem dX9_copiesIn_172 : decode cX9_copiesIn 172 = .ok (.isub, 1) := DX9_copiesIn_c9.2.2.1
theorem dX9_copiesIn_173 : decode cX9_copiesIn 173 = .ok (.goto 31, 3) := DX9_copiesIn_c9.2.2.2.1
theorem dX9_copiesIn_176 : decode cX9_copiesIn 176 = .ok (.iload_n 3, 1) := DX9_copiesIn_c9.2.2.2.2.1
theorem dX9_copiesIn_177 : decode cX9_copiesIn 177 = .ok (.iconst 5, 1) := DX9_copiesIn_c9.2.2.2.2.2.1
theorem dX9_copiesIn_178 : decode cX9_copiesIn 178 = .ok (.if_icmp .ne 10, 3) := DX9_copiesIn_c9.2.2.2.2.2.2.1
theorem dX9_copiesIn_181 : decode cX9_copiesIn 181 = .ok (.iload 5, 2) := DX9_copiesIn_c9.2.2.2.2.2.2.2.1
theorem dX9_copiesIn_183 : decode cX9_copiesIn 183 = .ok (.iconst 2, 1) := DX9_copiesIn_c9.2.2.2.2.2.2.2.2.1
theorem dX9_copiesIn_184 : decode cX9_copiesIn 184 = .ok (.idiv, 1) := DX9_copiesIn_c9.2.2.2.2.2.2.2.2.2
set_option maxRecDepth 100000 in
theorem DX9_copiesIn_c10 : decode cX9_copiesIn 185 = .ok (.goto 19, 3) ∧ decode cX9_copiesIn 188 = .ok (.iload_n 3, 1) ∧ decode cX9_copiesIn 189 = .ok (.bipush 8, 2) ∧ decode cX9_copiesIn 191 = .ok (.if_icmp .ne 11, 3) ∧ decode cX9_copiesIn 194 = .ok (.iload 5, 2) ∧ decode cX9_copiesIn 196 = .ok (.bipush 6, 2) ∧ decode cX9_copiesIn 198 = .ok (.idiv, 1) ∧ decode cX9_copiesIn 199 = .ok (.goto 5, 3) ∧ decode cX9_copiesIn 202 = .ok (.iload 5, 2) ∧ decode cX9_copiesIn 204 = .ok (.ireturn, 1) := by decide +kernel
theorem dX9_copiesIn_185 : decode cX9_copiesIn 185 = .ok (.goto 19, 3) := DX9_copiesIn_c10.1
theorem dX9_copiesIn_188 : decode cX9_copiesIn 188 = .ok (.iload_n 3, 1) := DX9_copiesIn_c10.2.1
theorem dX9_copiesIn_189 : decode cX9_copiesIn 189 = .ok (.bipush 8, 2) := DX9_copiesIn_c10.2.2.1
theorem dX9_copiesIn_191 : decode cX9_copiesIn 191 = .ok (.if_icmp .ne 11, 3) := DX9_copiesIn_c10.2.2.2.1
theorem dX9_copiesIn_194 : decode cX9_copiesIn 194 = .ok (.iload 5, 2) := DX9_copiesIn_c10.2.2.2.2.1
theorem dX9_copiesIn_196 : decode cX9_copiesIn 196 = .ok (.bipush 6, 2) := DX9_copiesIn_c10.2.2.2.2.2.1
theorem dX9_copiesIn_198 : decode cX9_copiesIn 198 = .ok (.idiv, 1) := DX9_copiesIn_c10.2.2.2.2.2.2.1
theorem dX9_copiesIn_199 : decode cX9_copiesIn 199 = .ok (.goto 5, 3) := DX9_copiesIn_c10.2.2.2.2.2.2.2.1
theorem dX9_copiesIn_202 : decode cX9_copiesIn 202 = .ok (.iload 5, 2) := DX9_copiesIn_c10.2.2.2.2.2.2.2.2.1
theorem dX9_copiesIn_204 : decode cX9_copiesIn 204 = .ok (.ireturn, 1) := DX9_copiesIn_c10.2.2.2.2.2.2.2.2.2
set_option maxRecDepth 100000 in
theorem DX9_copies_c0 : decode cX9_copies 0 = .ok (.iload_n 1, 1) ∧ decode cX9_copies 1 = .ok (.iconst 0, 1) ∧ decode cX9_copies 2 = .ok (.bipush 8, 2) ∧ decode cX9_copies 4 = .ok (.invokestatic 50, 3) ∧ decode cX9_copies 7 = .ok (.ifCond .eq 23, 3) ∧ decode cX9_copies 10 = .ok (.aload_n 0, 1) ∧ decode cX9_copies 11 = .ok (.aload_n 0, 1) ∧ decode cX9_copies 12 = .ok (.getfield 7, 3) ∧ decode cX9_copies 15 = .ok (.iconst 0, 1) ∧ decode cX9_copies 16 = .ok (.iaload, 1) := by decide +kernel
theorem dX9_copies_0 : decode cX9_copies 0 = .ok (.iload_n 1, 1) := DX9_copies_c0.1
theorem dX9_copies_1 : decode cX9_copies 1 = .ok (.iconst 0, 1) := DX9_copies_c0.2.1
theorem dX9_copies_2 : decode cX9_copies 2 = .ok (.bipush 8, 2) := DX9_copies_c0.2.2.1
theorem dX9_copies_4 : decode cX9_copies 4 = .ok (.invokestatic 50, 3) := DX9_copies_c0.2.2.2.1
theorem dX9_copies_7 : decode cX9_copies 7 = .ok (.ifCond .eq 23, 3) := DX9_copies_c0.2.2.2.2.1
theorem dX9_copies_10 : decode cX9_copies 10 = .ok (.aload_n 0, 1) := DX9_copies_c0.2.2.2.2.2.1
theorem dX9_copies_11 : decode cX9_copies 11 = .ok (.aload_n 0, 1) := DX9_copies_c0.2.2.2.2.2.2.1
theorem dX9_copies_12 : decode cX9_copies 12 = .ok (.getfield 7, 3) := DX9_copies_c0.2.2.2.2.2.2.2.1
theorem dX9_copies_15 : decode cX9_copies 15 = .ok (.iconst 0, 1) := DX9_copies_c0.2.2.2.2.2.2.2.2.1
theorem dX9_copies_16 : decode cX9_copies 16 = .ok (.iaload, 1) := DX9_copies_c0.2.2.2.2.2.2.2.2.2
set_option maxRecDepth 100000 in
theorem DX9_copies_c1 : decode cX9_copies 17 = .ok (.aload_n 0, 1) ∧ decode cX9_copies 18 = .ok (.getfield 7, 3) ∧ decode cX9_copies 21 = .ok (.iconst 1, 1) ∧ decode cX9_copies 22 = .ok (.iaload, 1) ∧ decode cX9_copies 23 = .ok (.iload_n 1, 1) ∧ decode cX9_copies 24 = .ok (.invokevirtual 158, 3) ∧ decode cX9_copies 27 = .ok (.goto 4, 3) ∧ decode cX9_copies 30 = .ok (.iconst (-1), 1) ∧ decode cX9_copies 31 = .ok (.ireturn, 1) := by decide +kernel
theorem dX9_copies_17 : decode cX9_copies 17 = .ok (.aload_n 0, 1) := DX9_copies_c1.1
theorem dX9_copies_18 : decode cX9_copies 18 = .ok (.getfield 7, 3) := DX9_copies_c1.2.1
theorem dX9_copies_21 : decode cX9_copies 21 = .ok (.iconst 1, 1) := DX9_copies_c1.2.2.1
theorem dX9_copies_22 : decode cX9_copies 22 = .ok (.iaload, 1) := DX9_copies_c1.2.2.2.1
theorem dX9_copies_23 : decode cX9_copies 23 = .ok (.iload_n 1, 1) := DX9_copies_c1.2.2.2.2.1
theorem dX9_copies_24 : decode cX9_copies 24 = .ok (.invokevirtual 158, 3) := DX9_copies_c1.2.2.2.2.2.1
theorem dX9_copies_27 : decode cX9_copies 27 = .ok (.goto 4, 3) := DX9_copies_c1.2.2.2.2.2.2.1
theorem dX9_copies_30 : decode cX9_copies 30 = .ok (.iconst (-1), 1) := DX9_copies_c1.2.2.2.2.2.2.2.1
theorem dX9_copies_31 : decode cX9_copies 31 = .ok (.ireturn, 1) := DX9_copies_c1.2.2.2.2.2.2.2.2
set_option maxRecDepth 100000 in
theorem DX9_layKinds_c0 : decode cX9_layKinds 0 = .ok (.aload_n 0, 1) ∧ decode cX9_layKinds 1 = .ok (.iconst 0, 1) ∧ decode cX9_layKinds 2 = .ok (.putfield 161, 3) ∧ decode cX9_layKinds 5 = .ok (.iconst 0, 1) ∧ decode cX9_layKinds 6 = .ok (.istore_n 2, 1) ∧ decode cX9_layKinds 7 = .ok (.iload_n 2, 1) ∧ decode cX9_layKinds 8 = .ok (.iconst 1, 1) ∧ decode cX9_layKinds 9 = .ok (.iload_n 1, 1) ∧ decode cX9_layKinds 10 = .ok (.invokestatic 58, 3) ∧ decode cX9_layKinds 13 = .ok (.ishl, 1) := by decide +kernel
theorem dX9_layKinds_0 : decode cX9_layKinds 0 = .ok (.aload_n 0, 1) := DX9_layKinds_c0.1
theorem dX9_layKinds_1 : decode cX9_layKinds 1 = .ok (.iconst 0, 1) := DX9_layKinds_c0.2.1
theorem dX9_layKinds_2 : decode cX9_layKinds 2 = .ok (.putfield 161, 3) := DX9_layKinds_c0.2.2.1
theorem dX9_layKinds_5 : decode cX9_layKinds 5 = .ok (.iconst 0, 1) := DX9_layKinds_c0.2.2.2.1
theorem dX9_layKinds_6 : decode cX9_layKinds 6 = .ok (.istore_n 2, 1) := DX9_layKinds_c0.2.2.2.2.1
theorem dX9_layKinds_7 : decode cX9_layKinds 7 = .ok (.iload_n 2, 1) := DX9_layKinds_c0.2.2.2.2.2.1
theorem dX9_layKinds_8 : decode cX9_layKinds 8 = .ok (.iconst 1, 1) := DX9_layKinds_c0.2.2.2.2.2.2.1
theorem dX9_layKinds_9 : decode cX9_layKinds 9 = .ok (.iload_n 1, 1) := DX9_layKinds_c0.2.2.2.2.2.2.2.1
theorem dX9_layKinds_10 : decode cX9_layKinds 10 = .ok (.invokestatic 58, 3) := DX9_layKinds_c0.2.2.2.2.2.2.2.2.1
theorem dX9_layKinds_13 : decode cX9_layKinds 13 = .ok (.ishl, 1) := DX9_layKinds_c0.2.2.2.2.2.2.2.2.2
set_option maxRecDepth 100000 in
theorem DX9_layKinds_c1 : decode cX9_layKinds 14 = .ok (.if_icmp .ge 16, 3) ∧ decode cX9_layKinds 17 = .ok (.aload_n 0, 1) ∧ decode cX9_layKinds 18 = .ok (.getfield 35, 3) ∧ decode cX9_layKinds 21 = .ok (.iload_n 2, 1) ∧ decode cX9_layKinds 22 = .ok (.iconst (-1), 1) ∧ decode cX9_layKinds 23 = .ok (.iastore, 1) ∧ decode cX9_layKinds 24 = .ok (.iinc 2 1, 3) ∧ decode cX9_layKinds 27 = .ok (.goto (-20), 3) ∧ decode cX9_layKinds 30 = .ok (.iconst 0, 1) ∧ decode cX9_layKinds 31 = .ok (.istore_n 2, 1) := by decide +kernel
theorem dX9_layKinds_14 : decode cX9_layKinds 14 = .ok (.if_icmp .ge 16, 3) := DX9_layKinds_c1.1
theorem dX9_layKinds_17 : decode cX9_layKinds 17 = .ok (.aload_n 0, 1) := DX9_layKinds_c1.2.1
theorem dX9_layKinds_18 : decode cX9_layKinds 18 = .ok (.getfield 35, 3) := DX9_layKinds_c1.2.2.1
theorem dX9_layKinds_21 : decode cX9_layKinds 21 = .ok (.iload_n 2, 1) := DX9_layKinds_c1.2.2.2.1
theorem dX9_layKinds_22 : decode cX9_layKinds 22 = .ok (.iconst (-1), 1) := DX9_layKinds_c1.2.2.2.2.1
theorem dX9_layKinds_23 : decode cX9_layKinds 23 = .ok (.iastore, 1) := DX9_layKinds_c1.2.2.2.2.2.1
theorem dX9_layKinds_24 : decode cX9_layKinds 24 = .ok (.iinc 2 1, 3) := DX9_layKinds_c1.2.2.2.2.2.2.1
theorem dX9_layKinds_27 : decode cX9_layKinds 27 = .ok (.goto (-20), 3) := DX9_layKinds_c1.2.2.2.2.2.2.2.1
theorem dX9_layKinds_30 : decode cX9_layKinds 30 = .ok (.iconst 0, 1) := DX9_layKinds_c1.2.2.2.2.2.2.2.2.1
theorem dX9_layKinds_31 : decode cX9_layKinds 31 = .ok (.istore_n 2, 1) := DX9_layKinds_c1.2.2.2.2.2.2.2.2.2
set_option maxRecDepth 100000 in
theorem DX9_layKinds_c2 : decode cX9_layKinds 32 = .ok (.iload_n 2, 1) ∧ decode cX9_layKinds 33 = .ok (.iconst 1, 1) ∧ decode cX9_layKinds 34 = .ok (.iload_n 1, 1) ∧ decode cX9_layKinds 35 = .ok (.invokestatic 58, 3) ∧ decode cX9_layKinds 38 = .ok (.ishl, 1) ∧ decode cX9_layKinds 39 = .ok (.if_icmp .ge 44, 3) ∧ decode cX9_layKinds 42 = .ok (.aload_n 0, 1) ∧ decode cX9_layKinds 43 = .ok (.getfield 35, 3) ∧ decode cX9_layKinds 46 = .ok (.iload_n 2, 1) ∧ decode cX9_layKinds 47 = .ok (.iaload, 1) := by decide +kernel
theorem dX9_layKinds_32 : decode cX9_layKinds 32 = .ok (.iload_n 2, 1) := DX9_layKinds_c2.1
theorem dX9_layKinds_33 : decode cX9_layKinds 33 = .ok (.iconst 1, 1) := DX9_layKinds_c2.2.1
theorem dX9_layKinds_34 : decode cX9_layKinds 34 = .ok (.iload_n 1, 1) := DX9_layKinds_c2.2.2.1
theorem dX9_layKinds_35 : decode cX9_layKinds 35 = .ok (.invokestatic 58, 3) := DX9_layKinds_c2.2.2.2.1
theorem dX9_layKinds_38 : decode cX9_layKinds 38 = .ok (.ishl, 1) := DX9_layKinds_c2.2.2.2.2.1
theorem dX9_layKinds_39 : decode cX9_layKinds 39 = .ok (.if_icmp .ge 44, 3) := DX9_layKinds_c2.2.2.2.2.2.1
theorem dX9_layKinds_42 : decode cX9_layKinds 42 = .ok (.aload_n 0, 1) := DX9_layKinds_c2.2.2.2.2.2.2.1
theorem dX9_layKinds_43 : decode cX9_layKinds 43 = .ok (.getfield 35, 3) := DX9_layKinds_c2.2.2.2.2.2.2.2.1
theorem dX9_layKinds_46 : decode cX9_layKinds 46 = .ok (.iload_n 2, 1) := DX9_layKinds_c2.2.2.2.2.2.2.2.2.1
theorem dX9_layKinds_47 : decode cX9_layKinds 47 = .ok (.iaload, 1) := DX9_layKinds_c2.2.2.2.2.2.2.2.2.2
set_option maxRecDepth 100000 in
theorem DX9_layKinds_c3 : decode cX9_layKinds 48 = .ok (.ifCond .ge 29, 3) ∧ decode cX9_layKinds 51 = .ok (.aload_n 0, 1) ∧ decode cX9_layKinds 52 = .ok (.getfield 38, 3) ∧ decode cX9_layKinds 55 = .ok (.aload_n 0, 1) ∧ decode cX9_layKinds 56 = .ok (.getfield 161, 3) ∧ decode cX9_layKinds 59 = .ok (.iload_n 2, 1) ∧ decode cX9_layKinds 60 = .ok (.iastore, 1) ∧ decode cX9_layKinds 61 = .ok (.aload_n 0, 1) ∧ decode cX9_layKinds 62 = .ok (.dup, 1) ∧ decode cX9_layKinds 63 = .ok (.getfield 161, 3) := by decide +kernel
theorem dX9_layKinds_48 : decode cX9_layKinds 48 = .ok (.ifCond .ge 29, 3) := DX9_layKinds_c3.1
theorem dX9_layKinds_51 : decode cX9_layKinds 51 = .ok (.aload_n 0, 1) := DX9_layKinds_c3.2.1
theorem dX9_layKinds_52 : decode cX9_layKinds 52 = .ok (.getfield 38, 3) := DX9_layKinds_c3.2.2.1
theorem dX9_layKinds_55 : decode cX9_layKinds 55 = .ok (.aload_n 0, 1) := DX9_layKinds_c3.2.2.2.1
theorem dX9_layKinds_56 : decode cX9_layKinds 56 = .ok (.getfield 161, 3) := DX9_layKinds_c3.2.2.2.2.1
theorem dX9_layKinds_59 : decode cX9_layKinds 59 = .ok (.iload_n 2, 1) := DX9_layKinds_c3.2.2.2.2.2.1
theorem dX9_layKinds_60 : decode cX9_layKinds 60 = .ok (.iastore, 1) := DX9_layKinds_c3.2.2.2.2.2.2.1
theorem dX9_layKinds_61 : decode cX9_layKinds 61 = .ok (.aload_n 0, 1) := DX9_layKinds_c3.2.2.2.2.2.2.2.1
theorem dX9_layKinds_62 : decode cX9_layKinds 62 = .ok (.dup, 1) := DX9_layKinds_c3.2.2.2.2.2.2.2.2.1
theorem dX9_layKinds_63 : decode cX9_layKinds 63 = .ok (.getfield 161, 3) := DX9_layKinds_c3.2.2.2.2.2.2.2.2.2
set_option maxRecDepth 100000 in
theorem DX9_layKinds_c4 : decode cX9_layKinds 66 = .ok (.iconst 1, 1) ∧ decode cX9_layKinds 67 = .ok (.iadd, 1) ∧ decode cX9_layKinds 68 = .ok (.putfield 161, 3) ∧ decode cX9_layKinds 71 = .ok (.aload_n 0, 1) ∧ decode cX9_layKinds 72 = .ok (.iload_n 1, 1) ∧ decode cX9_layKinds 73 = .ok (.iload_n 2, 1) ∧ decode cX9_layKinds 74 = .ok (.invokevirtual 164, 3) ∧ decode cX9_layKinds 77 = .ok (.iinc 2 1, 3) ∧ decode cX9_layKinds 80 = .ok (.goto (-48), 3) ∧ decode cX9_layKinds 83 = .ok (.return_, 1) := by decide +kernel
theorem dX9_layKinds_66 : decode cX9_layKinds 66 = .ok (.iconst 1, 1) := DX9_layKinds_c4.1
theorem dX9_layKinds_67 : decode cX9_layKinds 67 = .ok (.iadd, 1) := DX9_layKinds_c4.2.1
theorem dX9_layKinds_68 : decode cX9_layKinds 68 = .ok (.putfield 161, 3) := DX9_layKinds_c4.2.2.1
theorem dX9_layKinds_71 : decode cX9_layKinds 71 = .ok (.aload_n 0, 1) := DX9_layKinds_c4.2.2.2.1
theorem dX9_layKinds_72 : decode cX9_layKinds 72 = .ok (.iload_n 1, 1) := DX9_layKinds_c4.2.2.2.2.1
theorem dX9_layKinds_73 : decode cX9_layKinds 73 = .ok (.iload_n 2, 1) := DX9_layKinds_c4.2.2.2.2.2.1
theorem dX9_layKinds_74 : decode cX9_layKinds 74 = .ok (.invokevirtual 164, 3) := DX9_layKinds_c4.2.2.2.2.2.2.1
theorem dX9_layKinds_77 : decode cX9_layKinds 77 = .ok (.iinc 2 1, 3) := DX9_layKinds_c4.2.2.2.2.2.2.2.1
theorem dX9_layKinds_80 : decode cX9_layKinds 80 = .ok (.goto (-48), 3) := DX9_layKinds_c4.2.2.2.2.2.2.2.2.1
theorem dX9_layKinds_83 : decode cX9_layKinds 83 = .ok (.return_, 1) := DX9_layKinds_c4.2.2.2.2.2.2.2.2.2
set_option maxRecDepth 100000 in
theorem DX9_renumber_c0 : decode cX9_renumber 0 = .ok (.iconst 0, 1) ∧ decode cX9_renumber 1 = .ok (.istore_n 3, 1) ∧ decode cX9_renumber 2 = .ok (.aload_n 0, 1) ∧ decode cX9_renumber 3 = .ok (.getfield 25, 3) ∧ decode cX9_renumber 6 = .ok (.iconst 0, 1) ∧ decode cX9_renumber 7 = .ok (.iconst (-1), 1) ∧ decode cX9_renumber 8 = .ok (.iastore, 1) ∧ decode cX9_renumber 9 = .ok (.iload_n 3, 1) ∧ decode cX9_renumber 10 = .ok (.ifCond .lt 130, 3) ∧ decode cX9_renumber 13 = .ok (.aload_n 0, 1) := by decide +kernel
theorem dX9_renumber_0 : decode cX9_renumber 0 = .ok (.iconst 0, 1) := DX9_renumber_c0.1
theorem dX9_renumber_1 : decode cX9_renumber 1 = .ok (.istore_n 3, 1) := DX9_renumber_c0.2.1
theorem dX9_renumber_2 : decode cX9_renumber 2 = .ok (.aload_n 0, 1) := DX9_renumber_c0.2.2.1
theorem dX9_renumber_3 : decode cX9_renumber 3 = .ok (.getfield 25, 3) := DX9_renumber_c0.2.2.2.1
theorem dX9_renumber_6 : decode cX9_renumber 6 = .ok (.iconst 0, 1) := DX9_renumber_c0.2.2.2.2.1
theorem dX9_renumber_7 : decode cX9_renumber 7 = .ok (.iconst (-1), 1) := DX9_renumber_c0.2.2.2.2.2.1
theorem dX9_renumber_8 : decode cX9_renumber 8 = .ok (.iastore, 1) := DX9_renumber_c0.2.2.2.2.2.2.1
theorem dX9_renumber_9 : decode cX9_renumber 9 = .ok (.iload_n 3, 1) := DX9_renumber_c0.2.2.2.2.2.2.2.1
theorem dX9_renumber_10 : decode cX9_renumber 10 = .ok (.ifCond .lt 130, 3) := DX9_renumber_c0.2.2.2.2.2.2.2.2.1
theorem dX9_renumber_13 : decode cX9_renumber 13 = .ok (.aload_n 0, 1) := DX9_renumber_c0.2.2.2.2.2.2.2.2.2
set_option maxRecDepth 100000 in
theorem DX9_renumber_c1 : decode cX9_renumber 14 = .ok (.getfield 25, 3) ∧ decode cX9_renumber 17 = .ok (.iload_n 3, 1) ∧ decode cX9_renumber 18 = .ok (.dup2, 1) ∧ decode cX9_renumber 19 = .ok (.iaload, 1) ∧ decode cX9_renumber 20 = .ok (.iconst 1, 1) ∧ decode cX9_renumber 21 = .ok (.iadd, 1) ∧ decode cX9_renumber 22 = .ok (.iastore, 1) ∧ decode cX9_renumber 23 = .ok (.aload_n 0, 1) ∧ decode cX9_renumber 24 = .ok (.getfield 25, 3) ∧ decode cX9_renumber 27 = .ok (.iload_n 3, 1) := by decide +kernel
theorem dX9_renumber_14 : decode cX9_renumber 14 = .ok (.getfield 25, 3) := DX9_renumber_c1.1
theorem dX9_renumber_17 : decode cX9_renumber 17 = .ok (.iload_n 3, 1) := DX9_renumber_c1.2.1
theorem dX9_renumber_18 : decode cX9_renumber 18 = .ok (.dup2, 1) := DX9_renumber_c1.2.2.1
theorem dX9_renumber_19 : decode cX9_renumber 19 = .ok (.iaload, 1) := DX9_renumber_c1.2.2.2.1
theorem dX9_renumber_20 : decode cX9_renumber 20 = .ok (.iconst 1, 1) := DX9_renumber_c1.2.2.2.2.1
theorem dX9_renumber_21 : decode cX9_renumber 21 = .ok (.iadd, 1) := DX9_renumber_c1.2.2.2.2.2.1
theorem dX9_renumber_22 : decode cX9_renumber 22 = .ok (.iastore, 1) := DX9_renumber_c1.2.2.2.2.2.2.1
theorem dX9_renumber_23 : decode cX9_renumber 23 = .ok (.aload_n 0, 1) := DX9_renumber_c1.2.2.2.2.2.2.2.1
theorem dX9_renumber_24 : decode cX9_renumber 24 = .ok (.getfield 25, 3) := DX9_renumber_c1.2.2.2.2.2.2.2.2.1
theorem dX9_renumber_27 : decode cX9_renumber 27 = .ok (.iload_n 3, 1) := DX9_renumber_c1.2.2.2.2.2.2.2.2.2
set_option maxRecDepth 100000 in
theorem DX9_renumber_c2 : decode cX9_renumber 28 = .ok (.iaload, 1) ∧ decode cX9_renumber 29 = .ok (.istore 4, 2) ∧ decode cX9_renumber 31 = .ok (.iload 4, 2) ∧ decode cX9_renumber 33 = .ok (.iload_n 1, 1) ∧ decode cX9_renumber 34 = .ok (.if_icmp .ge 7, 3) ∧ decode cX9_renumber 37 = .ok (.iconst 1, 1) ∧ decode cX9_renumber 38 = .ok (.goto 4, 3) ∧ decode cX9_renumber 41 = .ok (.iconst 0, 1) ∧ decode cX9_renumber 42 = .ok (.istore 5, 2) ∧ decode cX9_renumber 44 = .ok (.iconst 0, 1) := by decide +kernel
theorem dX9_renumber_28 : decode cX9_renumber 28 = .ok (.iaload, 1) := DX9_renumber_c2.1
theorem dX9_renumber_29 : decode cX9_renumber 29 = .ok (.istore 4, 2) := DX9_renumber_c2.2.1
theorem dX9_renumber_31 : decode cX9_renumber 31 = .ok (.iload 4, 2) := DX9_renumber_c2.2.2.1
theorem dX9_renumber_33 : decode cX9_renumber 33 = .ok (.iload_n 1, 1) := DX9_renumber_c2.2.2.2.1
theorem dX9_renumber_34 : decode cX9_renumber 34 = .ok (.if_icmp .ge 7, 3) := DX9_renumber_c2.2.2.2.2.1
theorem dX9_renumber_37 : decode cX9_renumber 37 = .ok (.iconst 1, 1) := DX9_renumber_c2.2.2.2.2.2.1
theorem dX9_renumber_38 : decode cX9_renumber 38 = .ok (.goto 4, 3) := DX9_renumber_c2.2.2.2.2.2.2.1
theorem dX9_renumber_41 : decode cX9_renumber 41 = .ok (.iconst 0, 1) := DX9_renumber_c2.2.2.2.2.2.2.2.1
theorem dX9_renumber_42 : decode cX9_renumber 42 = .ok (.istore 5, 2) := DX9_renumber_c2.2.2.2.2.2.2.2.2.1
theorem dX9_renumber_44 : decode cX9_renumber 44 = .ok (.iconst 0, 1) := DX9_renumber_c2.2.2.2.2.2.2.2.2.2
set_option maxRecDepth 100000 in
theorem DX9_renumber_c3 : decode cX9_renumber 45 = .ok (.istore 6, 2) ∧ decode cX9_renumber 47 = .ok (.iload 6, 2) ∧ decode cX9_renumber 49 = .ok (.iload_n 3, 1) ∧ decode cX9_renumber 50 = .ok (.if_icmp .ge 33, 3) ∧ decode cX9_renumber 53 = .ok (.iload 5, 2) ∧ decode cX9_renumber 55 = .ok (.ifCond .eq 28, 3) ∧ decode cX9_renumber 58 = .ok (.aload_n 0, 1) ∧ decode cX9_renumber 59 = .ok (.getfield 25, 3) ∧ decode cX9_renumber 62 = .ok (.iload 6, 2) ∧ decode cX9_renumber 64 = .ok (.iaload, 1) := by decide +kernel
theorem dX9_renumber_45 : decode cX9_renumber 45 = .ok (.istore 6, 2) := DX9_renumber_c3.1
theorem dX9_renumber_47 : decode cX9_renumber 47 = .ok (.iload 6, 2) := DX9_renumber_c3.2.1
theorem dX9_renumber_49 : decode cX9_renumber 49 = .ok (.iload_n 3, 1) := DX9_renumber_c3.2.2.1
theorem dX9_renumber_50 : decode cX9_renumber 50 = .ok (.if_icmp .ge 33, 3) := DX9_renumber_c3.2.2.2.1
theorem dX9_renumber_53 : decode cX9_renumber 53 = .ok (.iload 5, 2) := DX9_renumber_c3.2.2.2.2.1
theorem dX9_renumber_55 : decode cX9_renumber 55 = .ok (.ifCond .eq 28, 3) := DX9_renumber_c3.2.2.2.2.2.1
theorem dX9_renumber_58 : decode cX9_renumber 58 = .ok (.aload_n 0, 1) := DX9_renumber_c3.2.2.2.2.2.2.1
theorem dX9_renumber_59 : decode cX9_renumber 59 = .ok (.getfield 25, 3) := DX9_renumber_c3.2.2.2.2.2.2.2.1
theorem dX9_renumber_62 : decode cX9_renumber 62 = .ok (.iload 6, 2) := DX9_renumber_c3.2.2.2.2.2.2.2.2.1
theorem dX9_renumber_64 : decode cX9_renumber 64 = .ok (.iaload, 1) := DX9_renumber_c3.2.2.2.2.2.2.2.2.2
set_option maxRecDepth 100000 in
theorem DX9_renumber_c4 : decode cX9_renumber 65 = .ok (.iload 4, 2) ∧ decode cX9_renumber 67 = .ok (.if_icmp .eq 7, 3) ∧ decode cX9_renumber 70 = .ok (.iconst 1, 1) ∧ decode cX9_renumber 71 = .ok (.goto 4, 3) ∧ decode cX9_renumber 74 = .ok (.iconst 0, 1) ∧ decode cX9_renumber 75 = .ok (.istore 5, 2) ∧ decode cX9_renumber 77 = .ok (.iinc 6 1, 3) ∧ decode cX9_renumber 80 = .ok (.goto (-33), 3) ∧ decode cX9_renumber 83 = .ok (.iload 4, 2) ∧ decode cX9_renumber 85 = .ok (.iload_n 1, 1) := by decide +kernel
theorem dX9_renumber_65 : decode cX9_renumber 65 = .ok (.iload 4, 2) := DX9_renumber_c4.1
theorem dX9_renumber_67 : decode cX9_renumber 67 = .ok (.if_icmp .eq 7, 3) := DX9_renumber_c4.2.1
theorem dX9_renumber_70 : decode cX9_renumber 70 = .ok (.iconst 1, 1) := DX9_renumber_c4.2.2.1
theorem dX9_renumber_71 : decode cX9_renumber 71 = .ok (.goto 4, 3) := DX9_renumber_c4.2.2.2.1
theorem dX9_renumber_74 : decode cX9_renumber 74 = .ok (.iconst 0, 1) := DX9_renumber_c4.2.2.2.2.1
theorem dX9_renumber_75 : decode cX9_renumber 75 = .ok (.istore 5, 2) := DX9_renumber_c4.2.2.2.2.2.1
theorem dX9_renumber_77 : decode cX9_renumber 77 = .ok (.iinc 6 1, 3) := DX9_renumber_c4.2.2.2.2.2.2.1
theorem dX9_renumber_80 : decode cX9_renumber 80 = .ok (.goto (-33), 3) := DX9_renumber_c4.2.2.2.2.2.2.2.1
theorem dX9_renumber_83 : decode cX9_renumber 83 = .ok (.iload 4, 2) := DX9_renumber_c4.2.2.2.2.2.2.2.2.1
theorem dX9_renumber_85 : decode cX9_renumber 85 = .ok (.iload_n 1, 1) := DX9_renumber_c4.2.2.2.2.2.2.2.2.2
set_option maxRecDepth 100000 in
theorem DX9_renumber_c5 : decode cX9_renumber 86 = .ok (.if_icmp .lt 9, 3) ∧ decode cX9_renumber 89 = .ok (.iinc 3 (-1), 3) ∧ decode cX9_renumber 92 = .ok (.goto 45, 3) ∧ decode cX9_renumber 95 = .ok (.iload 5, 2) ∧ decode cX9_renumber 97 = .ok (.ifCond .eq 23, 3) ∧ decode cX9_renumber 100 = .ok (.iload_n 3, 1) ∧ decode cX9_renumber 101 = .ok (.iload_n 1, 1) ∧ decode cX9_renumber 102 = .ok (.iconst 1, 1) ∧ decode cX9_renumber 103 = .ok (.isub, 1) ∧ decode cX9_renumber 104 = .ok (.if_icmp .ge 16, 3) := by decide +kernel
theorem dX9_renumber_86 : decode cX9_renumber 86 = .ok (.if_icmp .lt 9, 3) := DX9_renumber_c5.1
theorem dX9_renumber_89 : decode cX9_renumber 89 = .ok (.iinc 3 (-1), 3) := DX9_renumber_c5.2.1
theorem dX9_renumber_92 : decode cX9_renumber 92 = .ok (.goto 45, 3) := DX9_renumber_c5.2.2.1
theorem dX9_renumber_95 : decode cX9_renumber 95 = .ok (.iload 5, 2) := DX9_renumber_c5.2.2.2.1
theorem dX9_renumber_97 : decode cX9_renumber 97 = .ok (.ifCond .eq 23, 3) := DX9_renumber_c5.2.2.2.2.1
theorem dX9_renumber_100 : decode cX9_renumber 100 = .ok (.iload_n 3, 1) := DX9_renumber_c5.2.2.2.2.2.1
theorem dX9_renumber_101 : decode cX9_renumber 101 = .ok (.iload_n 1, 1) := DX9_renumber_c5.2.2.2.2.2.2.1
theorem dX9_renumber_102 : decode cX9_renumber 102 = .ok (.iconst 1, 1) := DX9_renumber_c5.2.2.2.2.2.2.2.1
theorem dX9_renumber_103 : decode cX9_renumber 103 = .ok (.isub, 1) := DX9_renumber_c5.2.2.2.2.2.2.2.2.1
theorem dX9_renumber_104 : decode cX9_renumber 104 = .ok (.if_icmp .ge 16, 3) := DX9_renumber_c5.2.2.2.2.2.2.2.2.2
set_option maxRecDepth 100000 in
theorem DX9_renumber_c6 : decode cX9_renumber 107 = .ok (.iinc 3 1, 3) ∧ decode cX9_renumber 110 = .ok (.aload_n 0, 1) ∧ decode cX9_renumber 111 = .ok (.getfield 25, 3) ∧ decode cX9_renumber 114 = .ok (.iload_n 3, 1) ∧ decode cX9_renumber 115 = .ok (.iconst (-1), 1) ∧ decode cX9_renumber 116 = .ok (.iastore, 1) ∧ decode cX9_renumber 117 = .ok (.goto 20, 3) ∧ decode cX9_renumber 120 = .ok (.iload 5, 2) ∧ decode cX9_renumber 122 = .ok (.ifCond .eq 15, 3) ∧ decode cX9_renumber 125 = .ok (.aload_n 0, 1) := by decide +kernel
theorem dX9_renumber_107 : decode cX9_renumber 107 = .ok (.iinc 3 1, 3) := DX9_renumber_c6.1
theorem dX9_renumber_110 : decode cX9_renumber 110 = .ok (.aload_n 0, 1) := DX9_renumber_c6.2.1
theorem dX9_renumber_111 : decode cX9_renumber 111 = .ok (.getfield 25, 3) := DX9_renumber_c6.2.2.1
theorem dX9_renumber_114 : decode cX9_renumber 114 = .ok (.iload_n 3, 1) := DX9_renumber_c6.2.2.2.1
theorem dX9_renumber_115 : decode cX9_renumber 115 = .ok (.iconst (-1), 1) := DX9_renumber_c6.2.2.2.2.1
theorem dX9_renumber_116 : decode cX9_renumber 116 = .ok (.iastore, 1) := DX9_renumber_c6.2.2.2.2.2.1
theorem dX9_renumber_117 : decode cX9_renumber 117 = .ok (.goto 20, 3) := DX9_renumber_c6.2.2.2.2.2.2.1
theorem dX9_renumber_120 : decode cX9_renumber 120 = .ok (.iload 5, 2) := DX9_renumber_c6.2.2.2.2.2.2.2.1
theorem dX9_renumber_122 : decode cX9_renumber 122 = .ok (.ifCond .eq 15, 3) := DX9_renumber_c6.2.2.2.2.2.2.2.2.1
theorem dX9_renumber_125 : decode cX9_renumber 125 = .ok (.aload_n 0, 1) := DX9_renumber_c6.2.2.2.2.2.2.2.2.2
set_option maxRecDepth 100000 in
theorem DX9_renumber_c7 : decode cX9_renumber 126 = .ok (.getfield 35, 3) ∧ decode cX9_renumber 129 = .ok (.aload_n 0, 1) ∧ decode cX9_renumber 130 = .ok (.iload_n 1, 1) ∧ decode cX9_renumber 131 = .ok (.iload_n 2, 1) ∧ decode cX9_renumber 132 = .ok (.invokevirtual 168, 3) ∧ decode cX9_renumber 135 = .ok (.iload_n 2, 1) ∧ decode cX9_renumber 136 = .ok (.iastore, 1) ∧ decode cX9_renumber 137 = .ok (.goto (-128), 3) ∧ decode cX9_renumber 140 = .ok (.return_, 1) := by decide +kernel
theorem dX9_renumber_126 : decode cX9_renumber 126 = .ok (.getfield 35, 3) := DX9_renumber_c7.1
theorem dX9_renumber_129 : decode cX9_renumber 129 = .ok (.aload_n 0, 1) := DX9_renumber_c7.2.1
theorem dX9_renumber_130 : decode cX9_renumber 130 = .ok (.iload_n 1, 1) := DX9_renumber_c7.2.2.1
theorem dX9_renumber_131 : decode cX9_renumber 131 = .ok (.iload_n 2, 1) := DX9_renumber_c7.2.2.2.1
theorem dX9_renumber_132 : decode cX9_renumber 132 = .ok (.invokevirtual 168, 3) := DX9_renumber_c7.2.2.2.2.1
theorem dX9_renumber_135 : decode cX9_renumber 135 = .ok (.iload_n 2, 1) := DX9_renumber_c7.2.2.2.2.2.1
theorem dX9_renumber_136 : decode cX9_renumber 136 = .ok (.iastore, 1) := DX9_renumber_c7.2.2.2.2.2.2.1
theorem dX9_renumber_137 : decode cX9_renumber 137 = .ok (.goto (-128), 3) := DX9_renumber_c7.2.2.2.2.2.2.2.1
theorem dX9_renumber_140 : decode cX9_renumber 140 = .ok (.return_, 1) := DX9_renumber_c7.2.2.2.2.2.2.2.2
set_option maxRecDepth 100000 in
theorem DX9_turned_c0 : decode cX9_turned 0 = .ok (.iconst 0, 1) ∧ decode cX9_turned 1 = .ok (.istore_n 3, 1) ∧ decode cX9_turned 2 = .ok (.iconst 1, 1) ∧ decode cX9_turned 3 = .ok (.istore 4, 2) ∧ decode cX9_turned 5 = .ok (.iload 4, 2) ∧ decode cX9_turned 7 = .ok (.iload_n 1, 1) ∧ decode cX9_turned 8 = .ok (.if_icmp .ge 49, 3) ∧ decode cX9_turned 11 = .ok (.iconst 0, 1) ∧ decode cX9_turned 12 = .ok (.istore 5, 2) ∧ decode cX9_turned 14 = .ok (.iload 5, 2) := by decide +kernel
theorem dX9_turned_0 : decode cX9_turned 0 = .ok (.iconst 0, 1) := DX9_turned_c0.1
theorem dX9_turned_1 : decode cX9_turned 1 = .ok (.istore_n 3, 1) := DX9_turned_c0.2.1
theorem dX9_turned_2 : decode cX9_turned 2 = .ok (.iconst 1, 1) := DX9_turned_c0.2.2.1
theorem dX9_turned_3 : decode cX9_turned 3 = .ok (.istore 4, 2) := DX9_turned_c0.2.2.2.1
theorem dX9_turned_5 : decode cX9_turned 5 = .ok (.iload 4, 2) := DX9_turned_c0.2.2.2.2.1
theorem dX9_turned_7 : decode cX9_turned 7 = .ok (.iload_n 1, 1) := DX9_turned_c0.2.2.2.2.2.1
theorem dX9_turned_8 : decode cX9_turned 8 = .ok (.if_icmp .ge 49, 3) := DX9_turned_c0.2.2.2.2.2.2.1
theorem dX9_turned_11 : decode cX9_turned 11 = .ok (.iconst 0, 1) := DX9_turned_c0.2.2.2.2.2.2.2.1
theorem dX9_turned_12 : decode cX9_turned 12 = .ok (.istore 5, 2) := DX9_turned_c0.2.2.2.2.2.2.2.2.1
theorem dX9_turned_14 : decode cX9_turned 14 = .ok (.iload 5, 2) := DX9_turned_c0.2.2.2.2.2.2.2.2.2
set_option maxRecDepth 100000 in
theorem DX9_turned_c1 : decode cX9_turned 16 = .ok (.iload 4, 2) ∧ decode cX9_turned 18 = .ok (.if_icmp .ge 33, 3) ∧ decode cX9_turned 21 = .ok (.iconst 2, 1) ∧ decode cX9_turned 22 = .ok (.iload_n 3, 1) ∧ decode cX9_turned 23 = .ok (.imul, 1) ∧ decode cX9_turned 24 = .ok (.iload_n 1, 1) ∧ decode cX9_turned 25 = .ok (.iload_n 2, 1) ∧ decode cX9_turned 26 = .ok (.aload_n 0, 1) ∧ decode cX9_turned 27 = .ok (.getfield 25, 3) ∧ decode cX9_turned 30 = .ok (.iload 5, 2) := by decide +kernel
theorem dX9_turned_16 : decode cX9_turned 16 = .ok (.iload 4, 2) := DX9_turned_c1.1
theorem dX9_turned_18 : decode cX9_turned 18 = .ok (.if_icmp .ge 33, 3) := DX9_turned_c1.2.1
theorem dX9_turned_21 : decode cX9_turned 21 = .ok (.iconst 2, 1) := DX9_turned_c1.2.2.1
theorem dX9_turned_22 : decode cX9_turned 22 = .ok (.iload_n 3, 1) := DX9_turned_c1.2.2.2.1
theorem dX9_turned_23 : decode cX9_turned 23 = .ok (.imul, 1) := DX9_turned_c1.2.2.2.2.1
theorem dX9_turned_24 : decode cX9_turned 24 = .ok (.iload_n 1, 1) := DX9_turned_c1.2.2.2.2.2.1
theorem dX9_turned_25 : decode cX9_turned 25 = .ok (.iload_n 2, 1) := DX9_turned_c1.2.2.2.2.2.2.1
theorem dX9_turned_26 : decode cX9_turned 26 = .ok (.aload_n 0, 1) := DX9_turned_c1.2.2.2.2.2.2.2.1
theorem dX9_turned_27 : decode cX9_turned 27 = .ok (.getfield 25, 3) := DX9_turned_c1.2.2.2.2.2.2.2.2.1
theorem dX9_turned_30 : decode cX9_turned 30 = .ok (.iload 5, 2) := DX9_turned_c1.2.2.2.2.2.2.2.2.2
set_option maxRecDepth 100000 in
theorem DX9_turned_c2 : decode cX9_turned 32 = .ok (.iaload, 1) ∧ decode cX9_turned 33 = .ok (.aload_n 0, 1) ∧ decode cX9_turned 34 = .ok (.getfield 25, 3) ∧ decode cX9_turned 37 = .ok (.iload 4, 2) ∧ decode cX9_turned 39 = .ok (.iaload, 1) ∧ decode cX9_turned 40 = .ok (.invokestatic 66, 3) ∧ decode cX9_turned 43 = .ok (.iadd, 1) ∧ decode cX9_turned 44 = .ok (.istore_n 3, 1) ∧ decode cX9_turned 45 = .ok (.iinc 5 1, 3) ∧ decode cX9_turned 48 = .ok (.goto (-34), 3) := by decide +kernel
theorem dX9_turned_32 : decode cX9_turned 32 = .ok (.iaload, 1) := DX9_turned_c2.1
theorem dX9_turned_33 : decode cX9_turned 33 = .ok (.aload_n 0, 1) := DX9_turned_c2.2.1
theorem dX9_turned_34 : decode cX9_turned 34 = .ok (.getfield 25, 3) := DX9_turned_c2.2.2.1
theorem dX9_turned_37 : decode cX9_turned 37 = .ok (.iload 4, 2) := DX9_turned_c2.2.2.2.1
theorem dX9_turned_39 : decode cX9_turned 39 = .ok (.iaload, 1) := DX9_turned_c2.2.2.2.2.1
theorem dX9_turned_40 : decode cX9_turned 40 = .ok (.invokestatic 66, 3) := DX9_turned_c2.2.2.2.2.2.1
theorem dX9_turned_43 : decode cX9_turned 43 = .ok (.iadd, 1) := DX9_turned_c2.2.2.2.2.2.2.1
theorem dX9_turned_44 : decode cX9_turned 44 = .ok (.istore_n 3, 1) := DX9_turned_c2.2.2.2.2.2.2.2.1
theorem dX9_turned_45 : decode cX9_turned 45 = .ok (.iinc 5 1, 3) := DX9_turned_c2.2.2.2.2.2.2.2.2.1
theorem dX9_turned_48 : decode cX9_turned 48 = .ok (.goto (-34), 3) := DX9_turned_c2.2.2.2.2.2.2.2.2.2
set_option maxRecDepth 100000 in
theorem DX9_turned_c3 : decode cX9_turned 51 = .ok (.iinc 4 1, 3) ∧ decode cX9_turned 54 = .ok (.goto (-49), 3) ∧ decode cX9_turned 57 = .ok (.iload_n 3, 1) ∧ decode cX9_turned 58 = .ok (.ireturn, 1) := by decide +kernel
theorem dX9_turned_51 : decode cX9_turned 51 = .ok (.iinc 4 1, 3) := DX9_turned_c3.1
theorem dX9_turned_54 : decode cX9_turned 54 = .ok (.goto (-49), 3) := DX9_turned_c3.2.1
theorem dX9_turned_57 : decode cX9_turned 57 = .ok (.iload_n 3, 1) := DX9_turned_c3.2.2.1
theorem dX9_turned_58 : decode cX9_turned 58 = .ok (.ireturn, 1) := DX9_turned_c3.2.2.2
set_option maxRecDepth 100000 in
theorem DX9_layDeck_c0 : decode cX9_layDeck 0 = .ok (.iconst 0, 1) ∧ decode cX9_layDeck 1 = .ok (.istore 5, 2) ∧ decode cX9_layDeck 3 = .ok (.iload 5, 2) ∧ decode cX9_layDeck 5 = .ok (.iload_n 1, 1) ∧ decode cX9_layDeck 6 = .ok (.if_icmp .ge 66, 3) ∧ decode cX9_layDeck 9 = .ok (.aload_n 0, 1) ∧ decode cX9_layDeck 10 = .ok (.iload_n 1, 1) ∧ decode cX9_layDeck 11 = .ok (.iload_n 2, 1) ∧ decode cX9_layDeck 12 = .ok (.iload 5, 2) ∧ decode cX9_layDeck 14 = .ok (.invokevirtual 103, 3) := by decide +kernel
theorem dX9_layDeck_0 : decode cX9_layDeck 0 = .ok (.iconst 0, 1) := DX9_layDeck_c0.1
theorem dX9_layDeck_1 : decode cX9_layDeck 1 = .ok (.istore 5, 2) := DX9_layDeck_c0.2.1
theorem dX9_layDeck_3 : decode cX9_layDeck 3 = .ok (.iload 5, 2) := DX9_layDeck_c0.2.2.1
theorem dX9_layDeck_5 : decode cX9_layDeck 5 = .ok (.iload_n 1, 1) := DX9_layDeck_c0.2.2.2.1
theorem dX9_layDeck_6 : decode cX9_layDeck 6 = .ok (.if_icmp .ge 66, 3) := DX9_layDeck_c0.2.2.2.2.1
theorem dX9_layDeck_9 : decode cX9_layDeck 9 = .ok (.aload_n 0, 1) := DX9_layDeck_c0.2.2.2.2.2.1
theorem dX9_layDeck_10 : decode cX9_layDeck 10 = .ok (.iload_n 1, 1) := DX9_layDeck_c0.2.2.2.2.2.2.1
theorem dX9_layDeck_11 : decode cX9_layDeck 11 = .ok (.iload_n 2, 1) := DX9_layDeck_c0.2.2.2.2.2.2.2.1
theorem dX9_layDeck_12 : decode cX9_layDeck 12 = .ok (.iload 5, 2) := DX9_layDeck_c0.2.2.2.2.2.2.2.2.1
theorem dX9_layDeck_14 : decode cX9_layDeck 14 = .ok (.invokevirtual 103, 3) := DX9_layDeck_c0.2.2.2.2.2.2.2.2.2
set_option maxRecDepth 100000 in
theorem DX9_layDeck_c1 : decode cX9_layDeck 17 = .ok (.istore 6, 2) ∧ decode cX9_layDeck 19 = .ok (.iload 4, 2) ∧ decode cX9_layDeck 21 = .ok (.iload 5, 2) ∧ decode cX9_layDeck 23 = .ok (.iadd, 1) ∧ decode cX9_layDeck 24 = .ok (.istore 7, 2) ∧ decode cX9_layDeck 26 = .ok (.iload 7, 2) ∧ decode cX9_layDeck 28 = .ok (.iload 4, 2) ∧ decode cX9_layDeck 30 = .ok (.if_icmp .le 30, 3) ∧ decode cX9_layDeck 33 = .ok (.aload_n 3, 1) ∧ decode cX9_layDeck 34 = .ok (.iload 7, 2) := by decide +kernel
theorem dX9_layDeck_17 : decode cX9_layDeck 17 = .ok (.istore 6, 2) := DX9_layDeck_c1.1
theorem dX9_layDeck_19 : decode cX9_layDeck 19 = .ok (.iload 4, 2) := DX9_layDeck_c1.2.1
theorem dX9_layDeck_21 : decode cX9_layDeck 21 = .ok (.iload 5, 2) := DX9_layDeck_c1.2.2.1
theorem dX9_layDeck_23 : decode cX9_layDeck 23 = .ok (.iadd, 1) := DX9_layDeck_c1.2.2.2.1
theorem dX9_layDeck_24 : decode cX9_layDeck 24 = .ok (.istore 7, 2) := DX9_layDeck_c1.2.2.2.2.1
theorem dX9_layDeck_26 : decode cX9_layDeck 26 = .ok (.iload 7, 2) := DX9_layDeck_c1.2.2.2.2.2.1
theorem dX9_layDeck_28 : decode cX9_layDeck 28 = .ok (.iload 4, 2) := DX9_layDeck_c1.2.2.2.2.2.2.1
theorem dX9_layDeck_30 : decode cX9_layDeck 30 = .ok (.if_icmp .le 30, 3) := DX9_layDeck_c1.2.2.2.2.2.2.2.1
theorem dX9_layDeck_33 : decode cX9_layDeck 33 = .ok (.aload_n 3, 1) := DX9_layDeck_c1.2.2.2.2.2.2.2.2.1
theorem dX9_layDeck_34 : decode cX9_layDeck 34 = .ok (.iload 7, 2) := DX9_layDeck_c1.2.2.2.2.2.2.2.2.2
set_option maxRecDepth 100000 in
theorem DX9_layDeck_c2 : decode cX9_layDeck 36 = .ok (.iconst 1, 1) ∧ decode cX9_layDeck 37 = .ok (.isub, 1) ∧ decode cX9_layDeck 38 = .ok (.iaload, 1) ∧ decode cX9_layDeck 39 = .ok (.iload 6, 2) ∧ decode cX9_layDeck 41 = .ok (.if_icmp .le 19, 3) ∧ decode cX9_layDeck 44 = .ok (.aload_n 3, 1) ∧ decode cX9_layDeck 45 = .ok (.iload 7, 2) ∧ decode cX9_layDeck 47 = .ok (.aload_n 3, 1) ∧ decode cX9_layDeck 48 = .ok (.iload 7, 2) ∧ decode cX9_layDeck 50 = .ok (.iconst 1, 1) := by decide +kernel
theorem dX9_layDeck_36 : decode cX9_layDeck 36 = .ok (.iconst 1, 1) := DX9_layDeck_c2.1
theorem dX9_layDeck_37 : decode cX9_layDeck 37 = .ok (.isub, 1) := DX9_layDeck_c2.2.1
theorem dX9_layDeck_38 : decode cX9_layDeck 38 = .ok (.iaload, 1) := DX9_layDeck_c2.2.2.1
theorem dX9_layDeck_39 : decode cX9_layDeck 39 = .ok (.iload 6, 2) := DX9_layDeck_c2.2.2.2.1
theorem dX9_layDeck_41 : decode cX9_layDeck 41 = .ok (.if_icmp .le 19, 3) := DX9_layDeck_c2.2.2.2.2.1
theorem dX9_layDeck_44 : decode cX9_layDeck 44 = .ok (.aload_n 3, 1) := DX9_layDeck_c2.2.2.2.2.2.1
theorem dX9_layDeck_45 : decode cX9_layDeck 45 = .ok (.iload 7, 2) := DX9_layDeck_c2.2.2.2.2.2.2.1
theorem dX9_layDeck_47 : decode cX9_layDeck 47 = .ok (.aload_n 3, 1) := DX9_layDeck_c2.2.2.2.2.2.2.2.1
theorem dX9_layDeck_48 : decode cX9_layDeck 48 = .ok (.iload 7, 2) := DX9_layDeck_c2.2.2.2.2.2.2.2.2.1
theorem dX9_layDeck_50 : decode cX9_layDeck 50 = .ok (.iconst 1, 1) := DX9_layDeck_c2.2.2.2.2.2.2.2.2.2
set_option maxRecDepth 100000 in
theorem DX9_layDeck_c3 : decode cX9_layDeck 51 = .ok (.isub, 1) ∧ decode cX9_layDeck 52 = .ok (.iaload, 1) ∧ decode cX9_layDeck 53 = .ok (.iastore, 1) ∧ decode cX9_layDeck 54 = .ok (.iinc 7 (-1), 3) ∧ decode cX9_layDeck 57 = .ok (.goto (-31), 3) ∧ decode cX9_layDeck 60 = .ok (.aload_n 3, 1) ∧ decode cX9_layDeck 61 = .ok (.iload 7, 2) ∧ decode cX9_layDeck 63 = .ok (.iload 6, 2) ∧ decode cX9_layDeck 65 = .ok (.iastore, 1) ∧ decode cX9_layDeck 66 = .ok (.iinc 5 1, 3) := by decide +kernel
theorem dX9_layDeck_51 : decode cX9_layDeck 51 = .ok (.isub, 1) := DX9_layDeck_c3.1
theorem dX9_layDeck_52 : decode cX9_layDeck 52 = .ok (.iaload, 1) := DX9_layDeck_c3.2.1
theorem dX9_layDeck_53 : decode cX9_layDeck 53 = .ok (.iastore, 1) := DX9_layDeck_c3.2.2.1
theorem dX9_layDeck_54 : decode cX9_layDeck 54 = .ok (.iinc 7 (-1), 3) := DX9_layDeck_c3.2.2.2.1
theorem dX9_layDeck_57 : decode cX9_layDeck 57 = .ok (.goto (-31), 3) := DX9_layDeck_c3.2.2.2.2.1
theorem dX9_layDeck_60 : decode cX9_layDeck 60 = .ok (.aload_n 3, 1) := DX9_layDeck_c3.2.2.2.2.2.1
theorem dX9_layDeck_61 : decode cX9_layDeck 61 = .ok (.iload 7, 2) := DX9_layDeck_c3.2.2.2.2.2.2.1
theorem dX9_layDeck_63 : decode cX9_layDeck 63 = .ok (.iload 6, 2) := DX9_layDeck_c3.2.2.2.2.2.2.2.1
theorem dX9_layDeck_65 : decode cX9_layDeck 65 = .ok (.iastore, 1) := DX9_layDeck_c3.2.2.2.2.2.2.2.2.1
theorem dX9_layDeck_66 : decode cX9_layDeck 66 = .ok (.iinc 5 1, 3) := DX9_layDeck_c3.2.2.2.2.2.2.2.2.2
set_option maxRecDepth 100000 in
theorem DX9_layDeck_c4 : decode cX9_layDeck 69 = .ok (.goto (-66), 3) ∧ decode cX9_layDeck 72 = .ok (.return_, 1) := by decide +kernel
theorem dX9_layDeck_69 : decode cX9_layDeck 69 = .ok (.goto (-66), 3) := DX9_layDeck_c4.1
theorem dX9_layDeck_72 : decode cX9_layDeck 72 = .ok (.return_, 1) := DX9_layDeck_c4.2
set_option maxRecDepth 100000 in
theorem DX9_layGraphs_c0 : decode cX9_layGraphs 0 = .ok (.aload_n 0, 1) ∧ decode cX9_layGraphs 1 = .ok (.getfield 7, 3) ∧ decode cX9_layGraphs 4 = .ok (.iconst 2, 1) ∧ decode cX9_layGraphs 5 = .ok (.iaload, 1) ∧ decode cX9_layGraphs 6 = .ok (.istore_n 1, 1) ∧ decode cX9_layGraphs 7 = .ok (.aload_n 0, 1) ∧ decode cX9_layGraphs 8 = .ok (.getfield 171, 3) ∧ decode cX9_layGraphs 11 = .ok (.iload_n 1, 1) ∧ decode cX9_layGraphs 12 = .ok (.if_icmp .ne 4, 3) ∧ decode cX9_layGraphs 15 = .ok (.return_, 1) := by decide +kernel
theorem dX9_layGraphs_0 : decode cX9_layGraphs 0 = .ok (.aload_n 0, 1) := DX9_layGraphs_c0.1
theorem dX9_layGraphs_1 : decode cX9_layGraphs 1 = .ok (.getfield 7, 3) := DX9_layGraphs_c0.2.1
theorem dX9_layGraphs_4 : decode cX9_layGraphs 4 = .ok (.iconst 2, 1) := DX9_layGraphs_c0.2.2.1
theorem dX9_layGraphs_5 : decode cX9_layGraphs 5 = .ok (.iaload, 1) := DX9_layGraphs_c0.2.2.2.1
theorem dX9_layGraphs_6 : decode cX9_layGraphs 6 = .ok (.istore_n 1, 1) := DX9_layGraphs_c0.2.2.2.2.1
theorem dX9_layGraphs_7 : decode cX9_layGraphs 7 = .ok (.aload_n 0, 1) := DX9_layGraphs_c0.2.2.2.2.2.1
theorem dX9_layGraphs_8 : decode cX9_layGraphs 8 = .ok (.getfield 171, 3) := DX9_layGraphs_c0.2.2.2.2.2.2.1
theorem dX9_layGraphs_11 : decode cX9_layGraphs 11 = .ok (.iload_n 1, 1) := DX9_layGraphs_c0.2.2.2.2.2.2.2.1
theorem dX9_layGraphs_12 : decode cX9_layGraphs 12 = .ok (.if_icmp .ne 4, 3) := DX9_layGraphs_c0.2.2.2.2.2.2.2.2.1
theorem dX9_layGraphs_15 : decode cX9_layGraphs 15 = .ok (.return_, 1) := DX9_layGraphs_c0.2.2.2.2.2.2.2.2.2
set_option maxRecDepth 100000 in
theorem DX9_layGraphs_c1 : decode cX9_layGraphs 16 = .ok (.aload_n 0, 1) ∧ decode cX9_layGraphs 17 = .ok (.iload_n 1, 1) ∧ decode cX9_layGraphs 18 = .ok (.putfield 171, 3) ∧ decode cX9_layGraphs 21 = .ok (.aload_n 0, 1) ∧ decode cX9_layGraphs 22 = .ok (.iload_n 1, 1) ∧ decode cX9_layGraphs 23 = .ok (.invokevirtual 174, 3) ∧ decode cX9_layGraphs 26 = .ok (.iconst 0, 1) ∧ decode cX9_layGraphs 27 = .ok (.istore_n 2, 1) ∧ decode cX9_layGraphs 28 = .ok (.iload_n 2, 1) ∧ decode cX9_layGraphs 29 = .ok (.aload_n 0, 1) := by decide +kernel
theorem dX9_layGraphs_16 : decode cX9_layGraphs 16 = .ok (.aload_n 0, 1) := DX9_layGraphs_c1.1
theorem dX9_layGraphs_17 : decode cX9_layGraphs 17 = .ok (.iload_n 1, 1) := DX9_layGraphs_c1.2.1
theorem dX9_layGraphs_18 : decode cX9_layGraphs 18 = .ok (.putfield 171, 3) := DX9_layGraphs_c1.2.2.1
theorem dX9_layGraphs_21 : decode cX9_layGraphs 21 = .ok (.aload_n 0, 1) := DX9_layGraphs_c1.2.2.2.1
theorem dX9_layGraphs_22 : decode cX9_layGraphs 22 = .ok (.iload_n 1, 1) := DX9_layGraphs_c1.2.2.2.2.1
theorem dX9_layGraphs_23 : decode cX9_layGraphs 23 = .ok (.invokevirtual 174, 3) := DX9_layGraphs_c1.2.2.2.2.2.1
theorem dX9_layGraphs_26 : decode cX9_layGraphs 26 = .ok (.iconst 0, 1) := DX9_layGraphs_c1.2.2.2.2.2.2.1
theorem dX9_layGraphs_27 : decode cX9_layGraphs 27 = .ok (.istore_n 2, 1) := DX9_layGraphs_c1.2.2.2.2.2.2.2.1
theorem dX9_layGraphs_28 : decode cX9_layGraphs 28 = .ok (.iload_n 2, 1) := DX9_layGraphs_c1.2.2.2.2.2.2.2.2.1
theorem dX9_layGraphs_29 : decode cX9_layGraphs 29 = .ok (.aload_n 0, 1) := DX9_layGraphs_c1.2.2.2.2.2.2.2.2.2
set_option maxRecDepth 100000 in
theorem DX9_layGraphs_c2 : decode cX9_layGraphs 30 = .ok (.getfield 161, 3) ∧ decode cX9_layGraphs 33 = .ok (.if_icmp .ge 28, 3) ∧ decode cX9_layGraphs 36 = .ok (.aload_n 0, 1) ∧ decode cX9_layGraphs 37 = .ok (.iload_n 1, 1) ∧ decode cX9_layGraphs 38 = .ok (.aload_n 0, 1) ∧ decode cX9_layGraphs 39 = .ok (.getfield 38, 3) ∧ decode cX9_layGraphs 42 = .ok (.iload_n 2, 1) ∧ decode cX9_layGraphs 43 = .ok (.iaload, 1) ∧ decode cX9_layGraphs 44 = .ok (.aload_n 0, 1) ∧ decode cX9_layGraphs 45 = .ok (.getfield 41, 3) := by decide +kernel
theorem dX9_layGraphs_30 : decode cX9_layGraphs 30 = .ok (.getfield 161, 3) := DX9_layGraphs_c2.1
theorem dX9_layGraphs_33 : decode cX9_layGraphs 33 = .ok (.if_icmp .ge 28, 3) := DX9_layGraphs_c2.2.1
theorem dX9_layGraphs_36 : decode cX9_layGraphs 36 = .ok (.aload_n 0, 1) := DX9_layGraphs_c2.2.2.1
theorem dX9_layGraphs_37 : decode cX9_layGraphs 37 = .ok (.iload_n 1, 1) := DX9_layGraphs_c2.2.2.2.1
theorem dX9_layGraphs_38 : decode cX9_layGraphs 38 = .ok (.aload_n 0, 1) := DX9_layGraphs_c2.2.2.2.2.1
theorem dX9_layGraphs_39 : decode cX9_layGraphs 39 = .ok (.getfield 38, 3) := DX9_layGraphs_c2.2.2.2.2.2.1
theorem dX9_layGraphs_42 : decode cX9_layGraphs 42 = .ok (.iload_n 2, 1) := DX9_layGraphs_c2.2.2.2.2.2.2.1
theorem dX9_layGraphs_43 : decode cX9_layGraphs 43 = .ok (.iaload, 1) := DX9_layGraphs_c2.2.2.2.2.2.2.2.1
theorem dX9_layGraphs_44 : decode cX9_layGraphs 44 = .ok (.aload_n 0, 1) := DX9_layGraphs_c2.2.2.2.2.2.2.2.2.1
theorem dX9_layGraphs_45 : decode cX9_layGraphs 45 = .ok (.getfield 41, 3) := DX9_layGraphs_c2.2.2.2.2.2.2.2.2.2
set_option maxRecDepth 100000 in
theorem DX9_layGraphs_c3 : decode cX9_layGraphs 48 = .ok (.bipush 6, 2) ∧ decode cX9_layGraphs 50 = .ok (.iload_n 2, 1) ∧ decode cX9_layGraphs 51 = .ok (.imul, 1) ∧ decode cX9_layGraphs 52 = .ok (.invokevirtual 178, 3) ∧ decode cX9_layGraphs 55 = .ok (.iinc 2 1, 3) ∧ decode cX9_layGraphs 58 = .ok (.goto (-30), 3) ∧ decode cX9_layGraphs 61 = .ok (.return_, 1) := by decide +kernel
theorem dX9_layGraphs_48 : decode cX9_layGraphs 48 = .ok (.bipush 6, 2) := DX9_layGraphs_c3.1
theorem dX9_layGraphs_50 : decode cX9_layGraphs 50 = .ok (.iload_n 2, 1) := DX9_layGraphs_c3.2.1
theorem dX9_layGraphs_51 : decode cX9_layGraphs 51 = .ok (.imul, 1) := DX9_layGraphs_c3.2.2.1
theorem dX9_layGraphs_52 : decode cX9_layGraphs 52 = .ok (.invokevirtual 178, 3) := DX9_layGraphs_c3.2.2.2.1
theorem dX9_layGraphs_55 : decode cX9_layGraphs 55 = .ok (.iinc 2 1, 3) := DX9_layGraphs_c3.2.2.2.2.1
theorem dX9_layGraphs_58 : decode cX9_layGraphs 58 = .ok (.goto (-30), 3) := DX9_layGraphs_c3.2.2.2.2.2.1
theorem dX9_layGraphs_61 : decode cX9_layGraphs 61 = .ok (.return_, 1) := DX9_layGraphs_c3.2.2.2.2.2.2
set_option maxRecDepth 100000 in
theorem DX9_hasAll_c0 : decode cX9_hasAll 0 = .ok (.iconst 0, 1) ∧ decode cX9_hasAll 1 = .ok (.istore_n 3, 1) ∧ decode cX9_hasAll 2 = .ok (.iconst 0, 1) ∧ decode cX9_hasAll 3 = .ok (.istore 4, 2) ∧ decode cX9_hasAll 5 = .ok (.iload 4, 2) ∧ decode cX9_hasAll 7 = .ok (.aload_n 0, 1) ∧ decode cX9_hasAll 8 = .ok (.getfield 7, 3) ∧ decode cX9_hasAll 11 = .ok (.iconst 3, 1) ∧ decode cX9_hasAll 12 = .ok (.iaload, 1) ∧ decode cX9_hasAll 13 = .ok (.if_icmp .ge 96, 3) := by decide +kernel
theorem dX9_hasAll_0 : decode cX9_hasAll 0 = .ok (.iconst 0, 1) := DX9_hasAll_c0.1
theorem dX9_hasAll_1 : decode cX9_hasAll 1 = .ok (.istore_n 3, 1) := DX9_hasAll_c0.2.1
theorem dX9_hasAll_2 : decode cX9_hasAll 2 = .ok (.iconst 0, 1) := DX9_hasAll_c0.2.2.1
theorem dX9_hasAll_3 : decode cX9_hasAll 3 = .ok (.istore 4, 2) := DX9_hasAll_c0.2.2.2.1
theorem dX9_hasAll_5 : decode cX9_hasAll 5 = .ok (.iload 4, 2) := DX9_hasAll_c0.2.2.2.2.1
theorem dX9_hasAll_7 : decode cX9_hasAll 7 = .ok (.aload_n 0, 1) := DX9_hasAll_c0.2.2.2.2.2.1
theorem dX9_hasAll_8 : decode cX9_hasAll 8 = .ok (.getfield 7, 3) := DX9_hasAll_c0.2.2.2.2.2.2.1
theorem dX9_hasAll_11 : decode cX9_hasAll 11 = .ok (.iconst 3, 1) := DX9_hasAll_c0.2.2.2.2.2.2.2.1
theorem dX9_hasAll_12 : decode cX9_hasAll 12 = .ok (.iaload, 1) := DX9_hasAll_c0.2.2.2.2.2.2.2.2.1
theorem dX9_hasAll_13 : decode cX9_hasAll 13 = .ok (.if_icmp .ge 96, 3) := DX9_hasAll_c0.2.2.2.2.2.2.2.2.2
set_option maxRecDepth 100000 in
theorem DX9_hasAll_c1 : decode cX9_hasAll 16 = .ok (.iload_n 2, 1) ∧ decode cX9_hasAll 17 = .ok (.iload 4, 2) ∧ decode cX9_hasAll 19 = .ok (.ishr, 1) ∧ decode cX9_hasAll 20 = .ok (.iconst 1, 1) ∧ decode cX9_hasAll 21 = .ok (.iand, 1) ∧ decode cX9_hasAll 22 = .ok (.iconst 1, 1) ∧ decode cX9_hasAll 23 = .ok (.if_icmp .ne 80, 3) ∧ decode cX9_hasAll 26 = .ok (.iload_n 3, 1) ∧ decode cX9_hasAll 27 = .ok (.aload_n 0, 1) ∧ decode cX9_hasAll 28 = .ok (.getfield 7, 3) := by decide +kernel
theorem dX9_hasAll_16 : decode cX9_hasAll 16 = .ok (.iload_n 2, 1) := DX9_hasAll_c1.1
theorem dX9_hasAll_17 : decode cX9_hasAll 17 = .ok (.iload 4, 2) := DX9_hasAll_c1.2.1
theorem dX9_hasAll_19 : decode cX9_hasAll 19 = .ok (.ishr, 1) := DX9_hasAll_c1.2.2.1
theorem dX9_hasAll_20 : decode cX9_hasAll 20 = .ok (.iconst 1, 1) := DX9_hasAll_c1.2.2.2.1
theorem dX9_hasAll_21 : decode cX9_hasAll 21 = .ok (.iand, 1) := DX9_hasAll_c1.2.2.2.2.1
theorem dX9_hasAll_22 : decode cX9_hasAll 22 = .ok (.iconst 1, 1) := DX9_hasAll_c1.2.2.2.2.2.1
theorem dX9_hasAll_23 : decode cX9_hasAll 23 = .ok (.if_icmp .ne 80, 3) := DX9_hasAll_c1.2.2.2.2.2.2.1
theorem dX9_hasAll_26 : decode cX9_hasAll 26 = .ok (.iload_n 3, 1) := DX9_hasAll_c1.2.2.2.2.2.2.2.1
theorem dX9_hasAll_27 : decode cX9_hasAll 27 = .ok (.aload_n 0, 1) := DX9_hasAll_c1.2.2.2.2.2.2.2.2.1
theorem dX9_hasAll_28 : decode cX9_hasAll 28 = .ok (.getfield 7, 3) := DX9_hasAll_c1.2.2.2.2.2.2.2.2.2
set_option maxRecDepth 100000 in
theorem DX9_hasAll_c2 : decode cX9_hasAll 31 = .ok (.iconst 2, 1) ∧ decode cX9_hasAll 32 = .ok (.iaload, 1) ∧ decode cX9_hasAll 33 = .ok (.if_icmp .ge 32, 3) ∧ decode cX9_hasAll 36 = .ok (.aload_n 0, 1) ∧ decode cX9_hasAll 37 = .ok (.getfield 41, 3) ∧ decode cX9_hasAll 40 = .ok (.bipush 6, 2) ∧ decode cX9_hasAll 42 = .ok (.iload_n 1, 1) ∧ decode cX9_hasAll 43 = .ok (.imul, 1) ∧ decode cX9_hasAll 44 = .ok (.iload_n 3, 1) ∧ decode cX9_hasAll 45 = .ok (.iadd, 1) := by decide +kernel
theorem dX9_hasAll_31 : decode cX9_hasAll 31 = .ok (.iconst 2, 1) := DX9_hasAll_c2.1
theorem dX9_hasAll_32 : decode cX9_hasAll 32 = .ok (.iaload, 1) := DX9_hasAll_c2.2.1
theorem dX9_hasAll_33 : decode cX9_hasAll 33 = .ok (.if_icmp .ge 32, 3) := DX9_hasAll_c2.2.2.1
theorem dX9_hasAll_36 : decode cX9_hasAll 36 = .ok (.aload_n 0, 1) := DX9_hasAll_c2.2.2.2.1
theorem dX9_hasAll_37 : decode cX9_hasAll 37 = .ok (.getfield 41, 3) := DX9_hasAll_c2.2.2.2.2.1
theorem dX9_hasAll_40 : decode cX9_hasAll 40 = .ok (.bipush 6, 2) := DX9_hasAll_c2.2.2.2.2.2.1
theorem dX9_hasAll_42 : decode cX9_hasAll 42 = .ok (.iload_n 1, 1) := DX9_hasAll_c2.2.2.2.2.2.2.1
theorem dX9_hasAll_43 : decode cX9_hasAll 43 = .ok (.imul, 1) := DX9_hasAll_c2.2.2.2.2.2.2.2.1
theorem dX9_hasAll_44 : decode cX9_hasAll 44 = .ok (.iload_n 3, 1) := DX9_hasAll_c2.2.2.2.2.2.2.2.2.1
theorem dX9_hasAll_45 : decode cX9_hasAll 45 = .ok (.iadd, 1) := DX9_hasAll_c2.2.2.2.2.2.2.2.2.2
set_option maxRecDepth 100000 in
theorem DX9_hasAll_c3 : decode cX9_hasAll 46 = .ok (.iaload, 1) ∧ decode cX9_hasAll 47 = .ok (.aload_n 0, 1) ∧ decode cX9_hasAll 48 = .ok (.getfield 7, 3) ∧ decode cX9_hasAll 51 = .ok (.iconst 4, 1) ∧ decode cX9_hasAll 52 = .ok (.iload 4, 2) ∧ decode cX9_hasAll 54 = .ok (.iadd, 1) ∧ decode cX9_hasAll 55 = .ok (.iaload, 1) ∧ decode cX9_hasAll 56 = .ok (.if_icmp .ge 9, 3) ∧ decode cX9_hasAll 59 = .ok (.iinc 3 1, 3) ∧ decode cX9_hasAll 62 = .ok (.goto (-36), 3) := by decide +kernel
theorem dX9_hasAll_46 : decode cX9_hasAll 46 = .ok (.iaload, 1) := DX9_hasAll_c3.1
theorem dX9_hasAll_47 : decode cX9_hasAll 47 = .ok (.aload_n 0, 1) := DX9_hasAll_c3.2.1
theorem dX9_hasAll_48 : decode cX9_hasAll 48 = .ok (.getfield 7, 3) := DX9_hasAll_c3.2.2.1
theorem dX9_hasAll_51 : decode cX9_hasAll 51 = .ok (.iconst 4, 1) := DX9_hasAll_c3.2.2.2.1
theorem dX9_hasAll_52 : decode cX9_hasAll 52 = .ok (.iload 4, 2) := DX9_hasAll_c3.2.2.2.2.1
theorem dX9_hasAll_54 : decode cX9_hasAll 54 = .ok (.iadd, 1) := DX9_hasAll_c3.2.2.2.2.2.1
theorem dX9_hasAll_55 : decode cX9_hasAll 55 = .ok (.iaload, 1) := DX9_hasAll_c3.2.2.2.2.2.2.1
theorem dX9_hasAll_56 : decode cX9_hasAll 56 = .ok (.if_icmp .ge 9, 3) := DX9_hasAll_c3.2.2.2.2.2.2.2.1
theorem dX9_hasAll_59 : decode cX9_hasAll 59 = .ok (.iinc 3 1, 3) := DX9_hasAll_c3.2.2.2.2.2.2.2.2.1
theorem dX9_hasAll_62 : decode cX9_hasAll 62 = .ok (.goto (-36), 3) := DX9_hasAll_c3.2.2.2.2.2.2.2.2.2
set_option maxRecDepth 100000 in
theorem DX9_hasAll_c4 : decode cX9_hasAll 65 = .ok (.iload_n 3, 1) ∧ decode cX9_hasAll 66 = .ok (.aload_n 0, 1) ∧ decode cX9_hasAll 67 = .ok (.getfield 7, 3) ∧ decode cX9_hasAll 70 = .ok (.iconst 2, 1) ∧ decode cX9_hasAll 71 = .ok (.iaload, 1) ∧ decode cX9_hasAll 72 = .ok (.if_icmp .eq 26, 3) ∧ decode cX9_hasAll 75 = .ok (.aload_n 0, 1) ∧ decode cX9_hasAll 76 = .ok (.getfield 41, 3) ∧ decode cX9_hasAll 79 = .ok (.bipush 6, 2) ∧ decode cX9_hasAll 81 = .ok (.iload_n 1, 1) := by decide +kernel
theorem dX9_hasAll_65 : decode cX9_hasAll 65 = .ok (.iload_n 3, 1) := DX9_hasAll_c4.1
theorem dX9_hasAll_66 : decode cX9_hasAll 66 = .ok (.aload_n 0, 1) := DX9_hasAll_c4.2.1
theorem dX9_hasAll_67 : decode cX9_hasAll 67 = .ok (.getfield 7, 3) := DX9_hasAll_c4.2.2.1
theorem dX9_hasAll_70 : decode cX9_hasAll 70 = .ok (.iconst 2, 1) := DX9_hasAll_c4.2.2.2.1
theorem dX9_hasAll_71 : decode cX9_hasAll 71 = .ok (.iaload, 1) := DX9_hasAll_c4.2.2.2.2.1
theorem dX9_hasAll_72 : decode cX9_hasAll 72 = .ok (.if_icmp .eq 26, 3) := DX9_hasAll_c4.2.2.2.2.2.1
theorem dX9_hasAll_75 : decode cX9_hasAll 75 = .ok (.aload_n 0, 1) := DX9_hasAll_c4.2.2.2.2.2.2.1
theorem dX9_hasAll_76 : decode cX9_hasAll 76 = .ok (.getfield 41, 3) := DX9_hasAll_c4.2.2.2.2.2.2.2.1
theorem dX9_hasAll_79 : decode cX9_hasAll 79 = .ok (.bipush 6, 2) := DX9_hasAll_c4.2.2.2.2.2.2.2.2.1
theorem dX9_hasAll_81 : decode cX9_hasAll 81 = .ok (.iload_n 1, 1) := DX9_hasAll_c4.2.2.2.2.2.2.2.2.2
set_option maxRecDepth 100000 in
theorem DX9_hasAll_c5 : decode cX9_hasAll 82 = .ok (.imul, 1) ∧ decode cX9_hasAll 83 = .ok (.iload_n 3, 1) ∧ decode cX9_hasAll 84 = .ok (.iadd, 1) ∧ decode cX9_hasAll 85 = .ok (.iaload, 1) ∧ decode cX9_hasAll 86 = .ok (.aload_n 0, 1) ∧ decode cX9_hasAll 87 = .ok (.getfield 7, 3) ∧ decode cX9_hasAll 90 = .ok (.iconst 4, 1) ∧ decode cX9_hasAll 91 = .ok (.iload 4, 2) ∧ decode cX9_hasAll 93 = .ok (.iadd, 1) ∧ decode cX9_hasAll 94 = .ok (.iaload, 1) := by decide +kernel
theorem dX9_hasAll_82 : decode cX9_hasAll 82 = .ok (.imul, 1) := DX9_hasAll_c5.1
theorem dX9_hasAll_83 : decode cX9_hasAll 83 = .ok (.iload_n 3, 1) := DX9_hasAll_c5.2.1
theorem dX9_hasAll_84 : decode cX9_hasAll 84 = .ok (.iadd, 1) := DX9_hasAll_c5.2.2.1
theorem dX9_hasAll_85 : decode cX9_hasAll 85 = .ok (.iaload, 1) := DX9_hasAll_c5.2.2.2.1
theorem dX9_hasAll_86 : decode cX9_hasAll 86 = .ok (.aload_n 0, 1) := DX9_hasAll_c5.2.2.2.2.1
theorem dX9_hasAll_87 : decode cX9_hasAll 87 = .ok (.getfield 7, 3) := DX9_hasAll_c5.2.2.2.2.2.1
theorem dX9_hasAll_90 : decode cX9_hasAll 90 = .ok (.iconst 4, 1) := DX9_hasAll_c5.2.2.2.2.2.2.1
theorem dX9_hasAll_91 : decode cX9_hasAll 91 = .ok (.iload 4, 2) := DX9_hasAll_c5.2.2.2.2.2.2.2.1
theorem dX9_hasAll_93 : decode cX9_hasAll 93 = .ok (.iadd, 1) := DX9_hasAll_c5.2.2.2.2.2.2.2.2.1
theorem dX9_hasAll_94 : decode cX9_hasAll 94 = .ok (.iaload, 1) := DX9_hasAll_c5.2.2.2.2.2.2.2.2.2
set_option maxRecDepth 100000 in
theorem DX9_hasAll_c6 : decode cX9_hasAll 95 = .ok (.if_icmp .eq 5, 3) ∧ decode cX9_hasAll 98 = .ok (.iconst 0, 1) ∧ decode cX9_hasAll 99 = .ok (.ireturn, 1) ∧ decode cX9_hasAll 100 = .ok (.iinc 3 1, 3) ∧ decode cX9_hasAll 103 = .ok (.iinc 4 1, 3) ∧ decode cX9_hasAll 106 = .ok (.goto (-101), 3) ∧ decode cX9_hasAll 109 = .ok (.iconst 1, 1) ∧ decode cX9_hasAll 110 = .ok (.ireturn, 1) := by decide +kernel
theorem dX9_hasAll_95 : decode cX9_hasAll 95 = .ok (.if_icmp .eq 5, 3) := DX9_hasAll_c6.1
theorem dX9_hasAll_98 : decode cX9_hasAll 98 = .ok (.iconst 0, 1) := DX9_hasAll_c6.2.1
theorem dX9_hasAll_99 : decode cX9_hasAll 99 = .ok (.ireturn, 1) := DX9_hasAll_c6.2.2.1
theorem dX9_hasAll_100 : decode cX9_hasAll 100 = .ok (.iinc 3 1, 3) := DX9_hasAll_c6.2.2.2.1
theorem dX9_hasAll_103 : decode cX9_hasAll 103 = .ok (.iinc 4 1, 3) := DX9_hasAll_c6.2.2.2.2.1
theorem dX9_hasAll_106 : decode cX9_hasAll 106 = .ok (.goto (-101), 3) := DX9_hasAll_c6.2.2.2.2.2.1
theorem dX9_hasAll_109 : decode cX9_hasAll 109 = .ok (.iconst 1, 1) := DX9_hasAll_c6.2.2.2.2.2.2.1
theorem dX9_hasAll_110 : decode cX9_hasAll 110 = .ok (.ireturn, 1) := DX9_hasAll_c6.2.2.2.2.2.2.2
set_option maxRecDepth 100000 in
theorem DX9_all_c0 : decode cX9_all 0 = .ok (.iconst 1, 1) ∧ decode cX9_all 1 = .ok (.aload_n 0, 1) ∧ decode cX9_all 2 = .ok (.getfield 7, 3) ∧ decode cX9_all 5 = .ok (.iconst 3, 1) ∧ decode cX9_all 6 = .ok (.iaload, 1) ∧ decode cX9_all 7 = .ok (.ishl, 1) ∧ decode cX9_all 8 = .ok (.iconst 1, 1) ∧ decode cX9_all 9 = .ok (.isub, 1) ∧ decode cX9_all 10 = .ok (.ireturn, 1) := by decide +kernel
theorem dX9_all_0 : decode cX9_all 0 = .ok (.iconst 1, 1) := DX9_all_c0.1
theorem dX9_all_1 : decode cX9_all 1 = .ok (.aload_n 0, 1) := DX9_all_c0.2.1
theorem dX9_all_2 : decode cX9_all 2 = .ok (.getfield 7, 3) := DX9_all_c0.2.2.1
theorem dX9_all_5 : decode cX9_all 5 = .ok (.iconst 3, 1) := DX9_all_c0.2.2.2.1
theorem dX9_all_6 : decode cX9_all 6 = .ok (.iaload, 1) := DX9_all_c0.2.2.2.2.1
theorem dX9_all_7 : decode cX9_all 7 = .ok (.ishl, 1) := DX9_all_c0.2.2.2.2.2.1
theorem dX9_all_8 : decode cX9_all 8 = .ok (.iconst 1, 1) := DX9_all_c0.2.2.2.2.2.2.1
theorem dX9_all_9 : decode cX9_all 9 = .ok (.isub, 1) := DX9_all_c0.2.2.2.2.2.2.2.1
theorem dX9_all_10 : decode cX9_all 10 = .ok (.ireturn, 1) := DX9_all_c0.2.2.2.2.2.2.2.2
set_option maxRecDepth 100000 in
theorem DX9_answers_c0 : decode cX9_answers 0 = .ok (.aload_n 0, 1) ∧ decode cX9_answers 1 = .ok (.invokevirtual 182, 3) ∧ decode cX9_answers 4 = .ok (.iconst 0, 1) ∧ decode cX9_answers 5 = .ok (.istore_n 2, 1) ∧ decode cX9_answers 6 = .ok (.iconst 0, 1) ∧ decode cX9_answers 7 = .ok (.istore_n 3, 1) ∧ decode cX9_answers 8 = .ok (.iload_n 3, 1) ∧ decode cX9_answers 9 = .ok (.aload_n 0, 1) ∧ decode cX9_answers 10 = .ok (.getfield 161, 3) ∧ decode cX9_answers 13 = .ok (.if_icmp .ge 26, 3) := by decide +kernel
theorem dX9_answers_0 : decode cX9_answers 0 = .ok (.aload_n 0, 1) := DX9_answers_c0.1
theorem dX9_answers_1 : decode cX9_answers 1 = .ok (.invokevirtual 182, 3) := DX9_answers_c0.2.1
theorem dX9_answers_4 : decode cX9_answers 4 = .ok (.iconst 0, 1) := DX9_answers_c0.2.2.1
theorem dX9_answers_5 : decode cX9_answers 5 = .ok (.istore_n 2, 1) := DX9_answers_c0.2.2.2.1
theorem dX9_answers_6 : decode cX9_answers 6 = .ok (.iconst 0, 1) := DX9_answers_c0.2.2.2.2.1
theorem dX9_answers_7 : decode cX9_answers 7 = .ok (.istore_n 3, 1) := DX9_answers_c0.2.2.2.2.2.1
theorem dX9_answers_8 : decode cX9_answers 8 = .ok (.iload_n 3, 1) := DX9_answers_c0.2.2.2.2.2.2.1
theorem dX9_answers_9 : decode cX9_answers 9 = .ok (.aload_n 0, 1) := DX9_answers_c0.2.2.2.2.2.2.2.1
theorem dX9_answers_10 : decode cX9_answers 10 = .ok (.getfield 161, 3) := DX9_answers_c0.2.2.2.2.2.2.2.2.1
theorem dX9_answers_13 : decode cX9_answers 13 = .ok (.if_icmp .ge 26, 3) := DX9_answers_c0.2.2.2.2.2.2.2.2.2
set_option maxRecDepth 100000 in
theorem DX9_answers_c1 : decode cX9_answers 16 = .ok (.iload_n 2, 1) ∧ decode cX9_answers 17 = .ok (.aload_n 0, 1) ∧ decode cX9_answers 18 = .ok (.iload_n 3, 1) ∧ decode cX9_answers 19 = .ok (.iload_n 1, 1) ∧ decode cX9_answers 20 = .ok (.invokevirtual 185, 3) ∧ decode cX9_answers 23 = .ok (.ifCond .eq 7, 3) ∧ decode cX9_answers 26 = .ok (.iconst 1, 1) ∧ decode cX9_answers 27 = .ok (.goto 4, 3) ∧ decode cX9_answers 30 = .ok (.iconst 0, 1) ∧ decode cX9_answers 31 = .ok (.iadd, 1) := by decide +kernel
theorem dX9_answers_16 : decode cX9_answers 16 = .ok (.iload_n 2, 1) := DX9_answers_c1.1
theorem dX9_answers_17 : decode cX9_answers 17 = .ok (.aload_n 0, 1) := DX9_answers_c1.2.1
theorem dX9_answers_18 : decode cX9_answers 18 = .ok (.iload_n 3, 1) := DX9_answers_c1.2.2.1
theorem dX9_answers_19 : decode cX9_answers 19 = .ok (.iload_n 1, 1) := DX9_answers_c1.2.2.2.1
theorem dX9_answers_20 : decode cX9_answers 20 = .ok (.invokevirtual 185, 3) := DX9_answers_c1.2.2.2.2.1
theorem dX9_answers_23 : decode cX9_answers 23 = .ok (.ifCond .eq 7, 3) := DX9_answers_c1.2.2.2.2.2.1
theorem dX9_answers_26 : decode cX9_answers 26 = .ok (.iconst 1, 1) := DX9_answers_c1.2.2.2.2.2.2.1
theorem dX9_answers_27 : decode cX9_answers 27 = .ok (.goto 4, 3) := DX9_answers_c1.2.2.2.2.2.2.2.1
theorem dX9_answers_30 : decode cX9_answers 30 = .ok (.iconst 0, 1) := DX9_answers_c1.2.2.2.2.2.2.2.2.1
theorem dX9_answers_31 : decode cX9_answers 31 = .ok (.iadd, 1) := DX9_answers_c1.2.2.2.2.2.2.2.2.2
set_option maxRecDepth 100000 in
theorem DX9_answers_c2 : decode cX9_answers 32 = .ok (.istore_n 2, 1) ∧ decode cX9_answers 33 = .ok (.iinc 3 1, 3) ∧ decode cX9_answers 36 = .ok (.goto (-28), 3) ∧ decode cX9_answers 39 = .ok (.iload_n 2, 1) ∧ decode cX9_answers 40 = .ok (.ireturn, 1) := by decide +kernel
theorem dX9_answers_32 : decode cX9_answers 32 = .ok (.istore_n 2, 1) := DX9_answers_c2.1
theorem dX9_answers_33 : decode cX9_answers 33 = .ok (.iinc 3 1, 3) := DX9_answers_c2.2.1
theorem dX9_answers_36 : decode cX9_answers 36 = .ok (.goto (-28), 3) := DX9_answers_c2.2.2.1
theorem dX9_answers_39 : decode cX9_answers 39 = .ok (.iload_n 2, 1) := DX9_answers_c2.2.2.2.1
theorem dX9_answers_40 : decode cX9_answers 40 = .ok (.ireturn, 1) := DX9_answers_c2.2.2.2.2
set_option maxRecDepth 100000 in
theorem DX9_answerAt_c0 : decode cX9_answerAt 0 = .ok (.aload_n 0, 1) ∧ decode cX9_answerAt 1 = .ok (.invokevirtual 182, 3) ∧ decode cX9_answerAt 4 = .ok (.iload_n 1, 1) ∧ decode cX9_answerAt 5 = .ok (.istore_n 2, 1) ∧ decode cX9_answerAt 6 = .ok (.iconst 0, 1) ∧ decode cX9_answerAt 7 = .ok (.istore_n 3, 1) ∧ decode cX9_answerAt 8 = .ok (.iload_n 3, 1) ∧ decode cX9_answerAt 9 = .ok (.aload_n 0, 1) ∧ decode cX9_answerAt 10 = .ok (.getfield 161, 3) ∧ decode cX9_answerAt 13 = .ok (.if_icmp .ge 30, 3) := by decide +kernel
theorem dX9_answerAt_0 : decode cX9_answerAt 0 = .ok (.aload_n 0, 1) := DX9_answerAt_c0.1
theorem dX9_answerAt_1 : decode cX9_answerAt 1 = .ok (.invokevirtual 182, 3) := DX9_answerAt_c0.2.1
theorem dX9_answerAt_4 : decode cX9_answerAt 4 = .ok (.iload_n 1, 1) := DX9_answerAt_c0.2.2.1
theorem dX9_answerAt_5 : decode cX9_answerAt 5 = .ok (.istore_n 2, 1) := DX9_answerAt_c0.2.2.2.1
theorem dX9_answerAt_6 : decode cX9_answerAt 6 = .ok (.iconst 0, 1) := DX9_answerAt_c0.2.2.2.2.1
theorem dX9_answerAt_7 : decode cX9_answerAt 7 = .ok (.istore_n 3, 1) := DX9_answerAt_c0.2.2.2.2.2.1
theorem dX9_answerAt_8 : decode cX9_answerAt 8 = .ok (.iload_n 3, 1) := DX9_answerAt_c0.2.2.2.2.2.2.1
theorem dX9_answerAt_9 : decode cX9_answerAt 9 = .ok (.aload_n 0, 1) := DX9_answerAt_c0.2.2.2.2.2.2.2.1
theorem dX9_answerAt_10 : decode cX9_answerAt 10 = .ok (.getfield 161, 3) := DX9_answerAt_c0.2.2.2.2.2.2.2.2.1
theorem dX9_answerAt_13 : decode cX9_answerAt 13 = .ok (.if_icmp .ge 30, 3) := DX9_answerAt_c0.2.2.2.2.2.2.2.2.2
set_option maxRecDepth 100000 in
theorem DX9_answerAt_c1 : decode cX9_answerAt 16 = .ok (.aload_n 0, 1) ∧ decode cX9_answerAt 17 = .ok (.iload_n 3, 1) ∧ decode cX9_answerAt 18 = .ok (.aload_n 0, 1) ∧ decode cX9_answerAt 19 = .ok (.invokevirtual 189, 3) ∧ decode cX9_answerAt 22 = .ok (.invokevirtual 185, 3) ∧ decode cX9_answerAt 25 = .ok (.ifCond .eq 12, 3) ∧ decode cX9_answerAt 28 = .ok (.iload_n 2, 1) ∧ decode cX9_answerAt 29 = .ok (.ifCond .ne 5, 3) ∧ decode cX9_answerAt 32 = .ok (.iload_n 3, 1) ∧ decode cX9_answerAt 33 = .ok (.ireturn, 1) := by decide +kernel
theorem dX9_answerAt_16 : decode cX9_answerAt 16 = .ok (.aload_n 0, 1) := DX9_answerAt_c1.1
theorem dX9_answerAt_17 : decode cX9_answerAt 17 = .ok (.iload_n 3, 1) := DX9_answerAt_c1.2.1
theorem dX9_answerAt_18 : decode cX9_answerAt 18 = .ok (.aload_n 0, 1) := DX9_answerAt_c1.2.2.1
theorem dX9_answerAt_19 : decode cX9_answerAt 19 = .ok (.invokevirtual 189, 3) := DX9_answerAt_c1.2.2.2.1
theorem dX9_answerAt_22 : decode cX9_answerAt 22 = .ok (.invokevirtual 185, 3) := DX9_answerAt_c1.2.2.2.2.1
theorem dX9_answerAt_25 : decode cX9_answerAt 25 = .ok (.ifCond .eq 12, 3) := DX9_answerAt_c1.2.2.2.2.2.1
theorem dX9_answerAt_28 : decode cX9_answerAt 28 = .ok (.iload_n 2, 1) := DX9_answerAt_c1.2.2.2.2.2.2.1
theorem dX9_answerAt_29 : decode cX9_answerAt 29 = .ok (.ifCond .ne 5, 3) := DX9_answerAt_c1.2.2.2.2.2.2.2.1
theorem dX9_answerAt_32 : decode cX9_answerAt 32 = .ok (.iload_n 3, 1) := DX9_answerAt_c1.2.2.2.2.2.2.2.2.1
theorem dX9_answerAt_33 : decode cX9_answerAt 33 = .ok (.ireturn, 1) := DX9_answerAt_c1.2.2.2.2.2.2.2.2.2
set_option maxRecDepth 100000 in
theorem DX9_answerAt_c2 : decode cX9_answerAt 34 = .ok (.iinc 2 (-1), 3) ∧ decode cX9_answerAt 37 = .ok (.iinc 3 1, 3) ∧ decode cX9_answerAt 40 = .ok (.goto (-32), 3) ∧ decode cX9_answerAt 43 = .ok (.bipush (-9), 2) ∧ decode cX9_answerAt 45 = .ok (.ireturn, 1) := by decide +kernel
theorem dX9_answerAt_34 : decode cX9_answerAt 34 = .ok (.iinc 2 (-1), 3) := DX9_answerAt_c2.1
theorem dX9_answerAt_37 : decode cX9_answerAt 37 = .ok (.iinc 3 1, 3) := DX9_answerAt_c2.2.1
theorem dX9_answerAt_40 : decode cX9_answerAt 40 = .ok (.goto (-32), 3) := DX9_answerAt_c2.2.2.1
theorem dX9_answerAt_43 : decode cX9_answerAt 43 = .ok (.bipush (-9), 2) := DX9_answerAt_c2.2.2.2.1
theorem dX9_answerAt_45 : decode cX9_answerAt 45 = .ok (.ireturn, 1) := DX9_answerAt_c2.2.2.2.2
set_option maxRecDepth 100000 in
theorem DX9_hold_c0 : decode cX9_hold 0 = .ok (.iload_n 1, 1) ∧ decode cX9_hold 1 = .ok (.iconst 3, 1) ∧ decode cX9_hold 2 = .ok (.bipush 6, 2) ∧ decode cX9_hold 4 = .ok (.invokestatic 50, 3) ∧ decode cX9_hold 7 = .ok (.ifCond .ne 5, 3) ∧ decode cX9_hold 10 = .ok (.iconst (-1), 1) ∧ decode cX9_hold 11 = .ok (.ireturn, 1) ∧ decode cX9_hold 12 = .ok (.aload_n 0, 1) ∧ decode cX9_hold 13 = .ok (.invokevirtual 70, 3) ∧ decode cX9_hold 16 = .ok (.aload_n 0, 1) := by decide +kernel
theorem dX9_hold_0 : decode cX9_hold 0 = .ok (.iload_n 1, 1) := DX9_hold_c0.1
theorem dX9_hold_1 : decode cX9_hold 1 = .ok (.iconst 3, 1) := DX9_hold_c0.2.1
theorem dX9_hold_2 : decode cX9_hold 2 = .ok (.bipush 6, 2) := DX9_hold_c0.2.2.1
theorem dX9_hold_4 : decode cX9_hold 4 = .ok (.invokestatic 50, 3) := DX9_hold_c0.2.2.2.1
theorem dX9_hold_7 : decode cX9_hold 7 = .ok (.ifCond .ne 5, 3) := DX9_hold_c0.2.2.2.2.1
theorem dX9_hold_10 : decode cX9_hold 10 = .ok (.iconst (-1), 1) := DX9_hold_c0.2.2.2.2.2.1
theorem dX9_hold_11 : decode cX9_hold 11 = .ok (.ireturn, 1) := DX9_hold_c0.2.2.2.2.2.2.1
theorem dX9_hold_12 : decode cX9_hold 12 = .ok (.aload_n 0, 1) := DX9_hold_c0.2.2.2.2.2.2.2.1
theorem dX9_hold_13 : decode cX9_hold 13 = .ok (.invokevirtual 70, 3) := DX9_hold_c0.2.2.2.2.2.2.2.2.1
theorem dX9_hold_16 : decode cX9_hold 16 = .ok (.aload_n 0, 1) := DX9_hold_c0.2.2.2.2.2.2.2.2.2
set_option maxRecDepth 100000 in
theorem DX9_hold_c1 : decode cX9_hold 17 = .ok (.getfield 7, 3) ∧ decode cX9_hold 20 = .ok (.iconst 3, 1) ∧ decode cX9_hold 21 = .ok (.iaload, 1) ∧ decode cX9_hold 22 = .ok (.istore_n 2, 1) ∧ decode cX9_hold 23 = .ok (.aload_n 0, 1) ∧ decode cX9_hold 24 = .ok (.getfield 7, 3) ∧ decode cX9_hold 27 = .ok (.iconst 2, 1) ∧ decode cX9_hold 28 = .ok (.iload_n 1, 1) ∧ decode cX9_hold 29 = .ok (.iastore, 1) ∧ decode cX9_hold 30 = .ok (.aload_n 0, 1) := by decide +kernel
theorem dX9_hold_17 : decode cX9_hold 17 = .ok (.getfield 7, 3) := DX9_hold_c1.1
theorem dX9_hold_20 : decode cX9_hold 20 = .ok (.iconst 3, 1) := DX9_hold_c1.2.1
theorem dX9_hold_21 : decode cX9_hold 21 = .ok (.iaload, 1) := DX9_hold_c1.2.2.1
theorem dX9_hold_22 : decode cX9_hold 22 = .ok (.istore_n 2, 1) := DX9_hold_c1.2.2.2.1
theorem dX9_hold_23 : decode cX9_hold 23 = .ok (.aload_n 0, 1) := DX9_hold_c1.2.2.2.2.1
theorem dX9_hold_24 : decode cX9_hold 24 = .ok (.getfield 7, 3) := DX9_hold_c1.2.2.2.2.2.1
theorem dX9_hold_27 : decode cX9_hold 27 = .ok (.iconst 2, 1) := DX9_hold_c1.2.2.2.2.2.2.1
theorem dX9_hold_28 : decode cX9_hold 28 = .ok (.iload_n 1, 1) := DX9_hold_c1.2.2.2.2.2.2.2.1
theorem dX9_hold_29 : decode cX9_hold 29 = .ok (.iastore, 1) := DX9_hold_c1.2.2.2.2.2.2.2.2.1
theorem dX9_hold_30 : decode cX9_hold 30 = .ok (.aload_n 0, 1) := DX9_hold_c1.2.2.2.2.2.2.2.2.2
set_option maxRecDepth 100000 in
theorem DX9_hold_c2 : decode cX9_hold 31 = .ok (.getfield 7, 3) ∧ decode cX9_hold 34 = .ok (.iconst 3, 1) ∧ decode cX9_hold 35 = .ok (.iconst 0, 1) ∧ decode cX9_hold 36 = .ok (.iastore, 1) ∧ decode cX9_hold 37 = .ok (.iload_n 2, 1) ∧ decode cX9_hold 38 = .ok (.ireturn, 1) := by decide +kernel
theorem dX9_hold_31 : decode cX9_hold 31 = .ok (.getfield 7, 3) := DX9_hold_c2.1
theorem dX9_hold_34 : decode cX9_hold 34 = .ok (.iconst 3, 1) := DX9_hold_c2.2.1
theorem dX9_hold_35 : decode cX9_hold 35 = .ok (.iconst 0, 1) := DX9_hold_c2.2.2.1
theorem dX9_hold_36 : decode cX9_hold 36 = .ok (.iastore, 1) := DX9_hold_c2.2.2.2.1
theorem dX9_hold_37 : decode cX9_hold 37 = .ok (.iload_n 2, 1) := DX9_hold_c2.2.2.2.2.1
theorem dX9_hold_38 : decode cX9_hold 38 = .ok (.ireturn, 1) := DX9_hold_c2.2.2.2.2.2
set_option maxRecDepth 100000 in
theorem DX9_keepDeck_c0 : decode cX9_keepDeck 0 = .ok (.aload_n 0, 1) ∧ decode cX9_keepDeck 1 = .ok (.getfield 7, 3) ∧ decode cX9_keepDeck 4 = .ok (.iconst 0, 1) ∧ decode cX9_keepDeck 5 = .ok (.iaload, 1) ∧ decode cX9_keepDeck 6 = .ok (.iconst 3, 1) ∧ decode cX9_keepDeck 7 = .ok (.bipush 6, 2) ∧ decode cX9_keepDeck 9 = .ok (.invokestatic 50, 3) ∧ decode cX9_keepDeck 12 = .ok (.ifCond .ne 6, 3) ∧ decode cX9_keepDeck 15 = .ok (.bipush (-2), 2) ∧ decode cX9_keepDeck 17 = .ok (.ireturn, 1) := by decide +kernel
theorem dX9_keepDeck_0 : decode cX9_keepDeck 0 = .ok (.aload_n 0, 1) := DX9_keepDeck_c0.1
theorem dX9_keepDeck_1 : decode cX9_keepDeck 1 = .ok (.getfield 7, 3) := DX9_keepDeck_c0.2.1
theorem dX9_keepDeck_4 : decode cX9_keepDeck 4 = .ok (.iconst 0, 1) := DX9_keepDeck_c0.2.2.1
theorem dX9_keepDeck_5 : decode cX9_keepDeck 5 = .ok (.iaload, 1) := DX9_keepDeck_c0.2.2.2.1
theorem dX9_keepDeck_6 : decode cX9_keepDeck 6 = .ok (.iconst 3, 1) := DX9_keepDeck_c0.2.2.2.2.1
theorem dX9_keepDeck_7 : decode cX9_keepDeck 7 = .ok (.bipush 6, 2) := DX9_keepDeck_c0.2.2.2.2.2.1
theorem dX9_keepDeck_9 : decode cX9_keepDeck 9 = .ok (.invokestatic 50, 3) := DX9_keepDeck_c0.2.2.2.2.2.2.1
theorem dX9_keepDeck_12 : decode cX9_keepDeck 12 = .ok (.ifCond .ne 6, 3) := DX9_keepDeck_c0.2.2.2.2.2.2.2.1
theorem dX9_keepDeck_15 : decode cX9_keepDeck 15 = .ok (.bipush (-2), 2) := DX9_keepDeck_c0.2.2.2.2.2.2.2.2.1
theorem dX9_keepDeck_17 : decode cX9_keepDeck 17 = .ok (.ireturn, 1) := DX9_keepDeck_c0.2.2.2.2.2.2.2.2.2
set_option maxRecDepth 100000 in
theorem DX9_keepDeck_c1 : decode cX9_keepDeck 18 = .ok (.aload_n 0, 1) ∧ decode cX9_keepDeck 19 = .ok (.invokevirtual 70, 3) ∧ decode cX9_keepDeck 22 = .ok (.aload_n 0, 1) ∧ decode cX9_keepDeck 23 = .ok (.getfield 7, 3) ∧ decode cX9_keepDeck 26 = .ok (.iconst 2, 1) ∧ decode cX9_keepDeck 27 = .ok (.aload_n 0, 1) ∧ decode cX9_keepDeck 28 = .ok (.getfield 7, 3) ∧ decode cX9_keepDeck 31 = .ok (.iconst 0, 1) ∧ decode cX9_keepDeck 32 = .ok (.iaload, 1) ∧ decode cX9_keepDeck 33 = .ok (.iastore, 1) := by decide +kernel
theorem dX9_keepDeck_18 : decode cX9_keepDeck 18 = .ok (.aload_n 0, 1) := DX9_keepDeck_c1.1
theorem dX9_keepDeck_19 : decode cX9_keepDeck 19 = .ok (.invokevirtual 70, 3) := DX9_keepDeck_c1.2.1
theorem dX9_keepDeck_22 : decode cX9_keepDeck 22 = .ok (.aload_n 0, 1) := DX9_keepDeck_c1.2.2.1
theorem dX9_keepDeck_23 : decode cX9_keepDeck 23 = .ok (.getfield 7, 3) := DX9_keepDeck_c1.2.2.2.1
theorem dX9_keepDeck_26 : decode cX9_keepDeck 26 = .ok (.iconst 2, 1) := DX9_keepDeck_c1.2.2.2.2.1
theorem dX9_keepDeck_27 : decode cX9_keepDeck 27 = .ok (.aload_n 0, 1) := DX9_keepDeck_c1.2.2.2.2.2.1
theorem dX9_keepDeck_28 : decode cX9_keepDeck 28 = .ok (.getfield 7, 3) := DX9_keepDeck_c1.2.2.2.2.2.2.1
theorem dX9_keepDeck_31 : decode cX9_keepDeck 31 = .ok (.iconst 0, 1) := DX9_keepDeck_c1.2.2.2.2.2.2.2.1
theorem dX9_keepDeck_32 : decode cX9_keepDeck 32 = .ok (.iaload, 1) := DX9_keepDeck_c1.2.2.2.2.2.2.2.2.1
theorem dX9_keepDeck_33 : decode cX9_keepDeck 33 = .ok (.iastore, 1) := DX9_keepDeck_c1.2.2.2.2.2.2.2.2.2
set_option maxRecDepth 100000 in
theorem DX9_keepDeck_c2 : decode cX9_keepDeck 34 = .ok (.aload_n 0, 1) ∧ decode cX9_keepDeck 35 = .ok (.getfield 7, 3) ∧ decode cX9_keepDeck 38 = .ok (.iconst 3, 1) ∧ decode cX9_keepDeck 39 = .ok (.aload_n 0, 1) ∧ decode cX9_keepDeck 40 = .ok (.getfield 7, 3) ∧ decode cX9_keepDeck 43 = .ok (.iconst 0, 1) ∧ decode cX9_keepDeck 44 = .ok (.iaload, 1) ∧ decode cX9_keepDeck 45 = .ok (.iastore, 1) ∧ decode cX9_keepDeck 46 = .ok (.aload_n 0, 1) ∧ decode cX9_keepDeck 47 = .ok (.aload_n 0, 1) := by decide +kernel
theorem dX9_keepDeck_34 : decode cX9_keepDeck 34 = .ok (.aload_n 0, 1) := DX9_keepDeck_c2.1
theorem dX9_keepDeck_35 : decode cX9_keepDeck 35 = .ok (.getfield 7, 3) := DX9_keepDeck_c2.2.1
theorem dX9_keepDeck_38 : decode cX9_keepDeck 38 = .ok (.iconst 3, 1) := DX9_keepDeck_c2.2.2.1
theorem dX9_keepDeck_39 : decode cX9_keepDeck 39 = .ok (.aload_n 0, 1) := DX9_keepDeck_c2.2.2.2.1
theorem dX9_keepDeck_40 : decode cX9_keepDeck 40 = .ok (.getfield 7, 3) := DX9_keepDeck_c2.2.2.2.2.1
theorem dX9_keepDeck_43 : decode cX9_keepDeck 43 = .ok (.iconst 0, 1) := DX9_keepDeck_c2.2.2.2.2.2.1
theorem dX9_keepDeck_44 : decode cX9_keepDeck 44 = .ok (.iaload, 1) := DX9_keepDeck_c2.2.2.2.2.2.2.1
theorem dX9_keepDeck_45 : decode cX9_keepDeck 45 = .ok (.iastore, 1) := DX9_keepDeck_c2.2.2.2.2.2.2.2.1
theorem dX9_keepDeck_46 : decode cX9_keepDeck 46 = .ok (.aload_n 0, 1) := DX9_keepDeck_c2.2.2.2.2.2.2.2.2.1
theorem dX9_keepDeck_47 : decode cX9_keepDeck 47 = .ok (.aload_n 0, 1) := DX9_keepDeck_c2.2.2.2.2.2.2.2.2.2
set_option maxRecDepth 100000 in
theorem DX9_keepDeck_c3 : decode cX9_keepDeck 48 = .ok (.getfield 7, 3) ∧ decode cX9_keepDeck 51 = .ok (.iconst 0, 1) ∧ decode cX9_keepDeck 52 = .ok (.iaload, 1) ∧ decode cX9_keepDeck 53 = .ok (.aload_n 0, 1) ∧ decode cX9_keepDeck 54 = .ok (.getfield 7, 3) ∧ decode cX9_keepDeck 57 = .ok (.iconst 1, 1) ∧ decode cX9_keepDeck 58 = .ok (.iaload, 1) ∧ decode cX9_keepDeck 59 = .ok (.aload_n 0, 1) ∧ decode cX9_keepDeck 60 = .ok (.getfield 7, 3) ∧ decode cX9_keepDeck 63 = .ok (.iconst 4, 1) := by decide +kernel
theorem dX9_keepDeck_48 : decode cX9_keepDeck 48 = .ok (.getfield 7, 3) := DX9_keepDeck_c3.1
theorem dX9_keepDeck_51 : decode cX9_keepDeck 51 = .ok (.iconst 0, 1) := DX9_keepDeck_c3.2.1
theorem dX9_keepDeck_52 : decode cX9_keepDeck 52 = .ok (.iaload, 1) := DX9_keepDeck_c3.2.2.1
theorem dX9_keepDeck_53 : decode cX9_keepDeck 53 = .ok (.aload_n 0, 1) := DX9_keepDeck_c3.2.2.2.1
theorem dX9_keepDeck_54 : decode cX9_keepDeck 54 = .ok (.getfield 7, 3) := DX9_keepDeck_c3.2.2.2.2.1
theorem dX9_keepDeck_57 : decode cX9_keepDeck 57 = .ok (.iconst 1, 1) := DX9_keepDeck_c3.2.2.2.2.2.1
theorem dX9_keepDeck_58 : decode cX9_keepDeck 58 = .ok (.iaload, 1) := DX9_keepDeck_c3.2.2.2.2.2.2.1
theorem dX9_keepDeck_59 : decode cX9_keepDeck 59 = .ok (.aload_n 0, 1) := DX9_keepDeck_c3.2.2.2.2.2.2.2.1
theorem dX9_keepDeck_60 : decode cX9_keepDeck 60 = .ok (.getfield 7, 3) := DX9_keepDeck_c3.2.2.2.2.2.2.2.2.1
theorem dX9_keepDeck_63 : decode cX9_keepDeck 63 = .ok (.iconst 4, 1) := DX9_keepDeck_c3.2.2.2.2.2.2.2.2.2
set_option maxRecDepth 100000 in
theorem DX9_keepDeck_c4 : decode cX9_keepDeck 64 = .ok (.invokevirtual 178, 3) ∧ decode cX9_keepDeck 67 = .ok (.aload_n 0, 1) ∧ decode cX9_keepDeck 68 = .ok (.getfield 7, 3) ∧ decode cX9_keepDeck 71 = .ok (.iconst 3, 1) ∧ decode cX9_keepDeck 72 = .ok (.iaload, 1) ∧ decode cX9_keepDeck 73 = .ok (.ireturn, 1) := by decide +kernel
theorem dX9_keepDeck_64 : decode cX9_keepDeck 64 = .ok (.invokevirtual 178, 3) := DX9_keepDeck_c4.1
theorem dX9_keepDeck_67 : decode cX9_keepDeck 67 = .ok (.aload_n 0, 1) := DX9_keepDeck_c4.2.1
theorem dX9_keepDeck_68 : decode cX9_keepDeck 68 = .ok (.getfield 7, 3) := DX9_keepDeck_c4.2.2.1
theorem dX9_keepDeck_71 : decode cX9_keepDeck 71 = .ok (.iconst 3, 1) := DX9_keepDeck_c4.2.2.2.1
theorem dX9_keepDeck_72 : decode cX9_keepDeck 72 = .ok (.iaload, 1) := DX9_keepDeck_c4.2.2.2.2.1
theorem dX9_keepDeck_73 : decode cX9_keepDeck 73 = .ok (.ireturn, 1) := DX9_keepDeck_c4.2.2.2.2.2
set_option maxRecDepth 100000 in
theorem DX9_addCard_c0 : decode cX9_addCard 0 = .ok (.iload_n 1, 1) ∧ decode cX9_addCard 1 = .ok (.ifCond .lt 20, 3) ∧ decode cX9_addCard 4 = .ok (.iload_n 1, 1) ∧ decode cX9_addCard 5 = .ok (.iconst 1, 1) ∧ decode cX9_addCard 6 = .ok (.aload_n 0, 1) ∧ decode cX9_addCard 7 = .ok (.getfield 7, 3) ∧ decode cX9_addCard 10 = .ok (.iconst 2, 1) ∧ decode cX9_addCard 11 = .ok (.iaload, 1) ∧ decode cX9_addCard 12 = .ok (.iconst 1, 1) ∧ decode cX9_addCard 13 = .ok (.isub, 1) := by decide +kernel
theorem dX9_addCard_0 : decode cX9_addCard 0 = .ok (.iload_n 1, 1) := DX9_addCard_c0.1
theorem dX9_addCard_1 : decode cX9_addCard 1 = .ok (.ifCond .lt 20, 3) := DX9_addCard_c0.2.1
theorem dX9_addCard_4 : decode cX9_addCard 4 = .ok (.iload_n 1, 1) := DX9_addCard_c0.2.2.1
theorem dX9_addCard_5 : decode cX9_addCard 5 = .ok (.iconst 1, 1) := DX9_addCard_c0.2.2.2.1
theorem dX9_addCard_6 : decode cX9_addCard 6 = .ok (.aload_n 0, 1) := DX9_addCard_c0.2.2.2.2.1
theorem dX9_addCard_7 : decode cX9_addCard 7 = .ok (.getfield 7, 3) := DX9_addCard_c0.2.2.2.2.2.1
theorem dX9_addCard_10 : decode cX9_addCard 10 = .ok (.iconst 2, 1) := DX9_addCard_c0.2.2.2.2.2.2.1
theorem dX9_addCard_11 : decode cX9_addCard 11 = .ok (.iaload, 1) := DX9_addCard_c0.2.2.2.2.2.2.2.1
theorem dX9_addCard_12 : decode cX9_addCard 12 = .ok (.iconst 1, 1) := DX9_addCard_c0.2.2.2.2.2.2.2.2.1
theorem dX9_addCard_13 : decode cX9_addCard 13 = .ok (.isub, 1) := DX9_addCard_c0.2.2.2.2.2.2.2.2.2
set_option maxRecDepth 100000 in
theorem DX9_addCard_c1 : decode cX9_addCard 14 = .ok (.invokestatic 58, 3) ∧ decode cX9_addCard 17 = .ok (.ishl, 1) ∧ decode cX9_addCard 18 = .ok (.if_icmp .lt 5, 3) ∧ decode cX9_addCard 21 = .ok (.iconst (-1), 1) ∧ decode cX9_addCard 22 = .ok (.ireturn, 1) ∧ decode cX9_addCard 23 = .ok (.aload_n 0, 1) ∧ decode cX9_addCard 24 = .ok (.getfield 7, 3) ∧ decode cX9_addCard 27 = .ok (.iconst 3, 1) ∧ decode cX9_addCard 28 = .ok (.iaload, 1) ∧ decode cX9_addCard 29 = .ok (.aload_n 0, 1) := by decide +kernel
theorem dX9_addCard_14 : decode cX9_addCard 14 = .ok (.invokestatic 58, 3) := DX9_addCard_c1.1
theorem dX9_addCard_17 : decode cX9_addCard 17 = .ok (.ishl, 1) := DX9_addCard_c1.2.1
theorem dX9_addCard_18 : decode cX9_addCard 18 = .ok (.if_icmp .lt 5, 3) := DX9_addCard_c1.2.2.1
theorem dX9_addCard_21 : decode cX9_addCard 21 = .ok (.iconst (-1), 1) := DX9_addCard_c1.2.2.2.1
theorem dX9_addCard_22 : decode cX9_addCard 22 = .ok (.ireturn, 1) := DX9_addCard_c1.2.2.2.2.1
theorem dX9_addCard_23 : decode cX9_addCard 23 = .ok (.aload_n 0, 1) := DX9_addCard_c1.2.2.2.2.2.1
theorem dX9_addCard_24 : decode cX9_addCard 24 = .ok (.getfield 7, 3) := DX9_addCard_c1.2.2.2.2.2.2.1
theorem dX9_addCard_27 : decode cX9_addCard 27 = .ok (.iconst 3, 1) := DX9_addCard_c1.2.2.2.2.2.2.2.1
theorem dX9_addCard_28 : decode cX9_addCard 28 = .ok (.iaload, 1) := DX9_addCard_c1.2.2.2.2.2.2.2.2.1
theorem dX9_addCard_29 : decode cX9_addCard 29 = .ok (.aload_n 0, 1) := DX9_addCard_c1.2.2.2.2.2.2.2.2.2
set_option maxRecDepth 100000 in
theorem DX9_addCard_c2 : decode cX9_addCard 30 = .ok (.getfield 7, 3) ∧ decode cX9_addCard 33 = .ok (.iconst 2, 1) ∧ decode cX9_addCard 34 = .ok (.iaload, 1) ∧ decode cX9_addCard 35 = .ok (.if_icmp .ne 6, 3) ∧ decode cX9_addCard 38 = .ok (.bipush (-3), 2) ∧ decode cX9_addCard 40 = .ok (.ireturn, 1) ∧ decode cX9_addCard 41 = .ok (.aload_n 0, 1) ∧ decode cX9_addCard 42 = .ok (.invokevirtual 70, 3) ∧ decode cX9_addCard 45 = .ok (.aload_n 0, 1) ∧ decode cX9_addCard 46 = .ok (.aload_n 0, 1) := by decide +kernel
theorem dX9_addCard_30 : decode cX9_addCard 30 = .ok (.getfield 7, 3) := DX9_addCard_c2.1
theorem dX9_addCard_33 : decode cX9_addCard 33 = .ok (.iconst 2, 1) := DX9_addCard_c2.2.1
theorem dX9_addCard_34 : decode cX9_addCard 34 = .ok (.iaload, 1) := DX9_addCard_c2.2.2.1
theorem dX9_addCard_35 : decode cX9_addCard 35 = .ok (.if_icmp .ne 6, 3) := DX9_addCard_c2.2.2.2.1
theorem dX9_addCard_38 : decode cX9_addCard 38 = .ok (.bipush (-3), 2) := DX9_addCard_c2.2.2.2.2.1
theorem dX9_addCard_40 : decode cX9_addCard 40 = .ok (.ireturn, 1) := DX9_addCard_c2.2.2.2.2.2.1
theorem dX9_addCard_41 : decode cX9_addCard 41 = .ok (.aload_n 0, 1) := DX9_addCard_c2.2.2.2.2.2.2.1
theorem dX9_addCard_42 : decode cX9_addCard 42 = .ok (.invokevirtual 70, 3) := DX9_addCard_c2.2.2.2.2.2.2.2.1
theorem dX9_addCard_45 : decode cX9_addCard 45 = .ok (.aload_n 0, 1) := DX9_addCard_c2.2.2.2.2.2.2.2.2.1
theorem dX9_addCard_46 : decode cX9_addCard 46 = .ok (.aload_n 0, 1) := DX9_addCard_c2.2.2.2.2.2.2.2.2.2
set_option maxRecDepth 100000 in
theorem DX9_addCard_c3 : decode cX9_addCard 47 = .ok (.getfield 7, 3) ∧ decode cX9_addCard 50 = .ok (.iconst 2, 1) ∧ decode cX9_addCard 51 = .ok (.iaload, 1) ∧ decode cX9_addCard 52 = .ok (.iconst 1, 1) ∧ decode cX9_addCard 53 = .ok (.isub, 1) ∧ decode cX9_addCard 54 = .ok (.iload_n 1, 1) ∧ decode cX9_addCard 55 = .ok (.invokevirtual 90, 3) ∧ decode cX9_addCard 58 = .ok (.istore_n 2, 1) ∧ decode cX9_addCard 59 = .ok (.aload_n 0, 1) ∧ decode cX9_addCard 60 = .ok (.getfield 7, 3) := by decide +kernel
theorem dX9_addCard_47 : decode cX9_addCard 47 = .ok (.getfield 7, 3) := DX9_addCard_c3.1
theorem dX9_addCard_50 : decode cX9_addCard 50 = .ok (.iconst 2, 1) := DX9_addCard_c3.2.1
theorem dX9_addCard_51 : decode cX9_addCard 51 = .ok (.iaload, 1) := DX9_addCard_c3.2.2.1
theorem dX9_addCard_52 : decode cX9_addCard 52 = .ok (.iconst 1, 1) := DX9_addCard_c3.2.2.2.1
theorem dX9_addCard_53 : decode cX9_addCard 53 = .ok (.isub, 1) := DX9_addCard_c3.2.2.2.2.1
theorem dX9_addCard_54 : decode cX9_addCard 54 = .ok (.iload_n 1, 1) := DX9_addCard_c3.2.2.2.2.2.1
theorem dX9_addCard_55 : decode cX9_addCard 55 = .ok (.invokevirtual 90, 3) := DX9_addCard_c3.2.2.2.2.2.2.1
theorem dX9_addCard_58 : decode cX9_addCard 58 = .ok (.istore_n 2, 1) := DX9_addCard_c3.2.2.2.2.2.2.2.1
theorem dX9_addCard_59 : decode cX9_addCard 59 = .ok (.aload_n 0, 1) := DX9_addCard_c3.2.2.2.2.2.2.2.2.1
theorem dX9_addCard_60 : decode cX9_addCard 60 = .ok (.getfield 7, 3) := DX9_addCard_c3.2.2.2.2.2.2.2.2.2
set_option maxRecDepth 100000 in
theorem DX9_addCard_c4 : decode cX9_addCard 63 = .ok (.iconst 3, 1) ∧ decode cX9_addCard 64 = .ok (.iaload, 1) ∧ decode cX9_addCard 65 = .ok (.istore_n 3, 1) ∧ decode cX9_addCard 66 = .ok (.iload_n 3, 1) ∧ decode cX9_addCard 67 = .ok (.ifCond .le 41, 3) ∧ decode cX9_addCard 70 = .ok (.aload_n 0, 1) ∧ decode cX9_addCard 71 = .ok (.getfield 7, 3) ∧ decode cX9_addCard 74 = .ok (.iconst 4, 1) ∧ decode cX9_addCard 75 = .ok (.iload_n 3, 1) ∧ decode cX9_addCard 76 = .ok (.iadd, 1) := by decide +kernel
theorem dX9_addCard_63 : decode cX9_addCard 63 = .ok (.iconst 3, 1) := DX9_addCard_c4.1
theorem dX9_addCard_64 : decode cX9_addCard 64 = .ok (.iaload, 1) := DX9_addCard_c4.2.1
theorem dX9_addCard_65 : decode cX9_addCard 65 = .ok (.istore_n 3, 1) := DX9_addCard_c4.2.2.1
theorem dX9_addCard_66 : decode cX9_addCard 66 = .ok (.iload_n 3, 1) := DX9_addCard_c4.2.2.2.1
theorem dX9_addCard_67 : decode cX9_addCard 67 = .ok (.ifCond .le 41, 3) := DX9_addCard_c4.2.2.2.2.1
theorem dX9_addCard_70 : decode cX9_addCard 70 = .ok (.aload_n 0, 1) := DX9_addCard_c4.2.2.2.2.2.1
theorem dX9_addCard_71 : decode cX9_addCard 71 = .ok (.getfield 7, 3) := DX9_addCard_c4.2.2.2.2.2.2.1
theorem dX9_addCard_74 : decode cX9_addCard 74 = .ok (.iconst 4, 1) := DX9_addCard_c4.2.2.2.2.2.2.2.1
theorem dX9_addCard_75 : decode cX9_addCard 75 = .ok (.iload_n 3, 1) := DX9_addCard_c4.2.2.2.2.2.2.2.2.1
theorem dX9_addCard_76 : decode cX9_addCard 76 = .ok (.iadd, 1) := DX9_addCard_c4.2.2.2.2.2.2.2.2.2
set_option maxRecDepth 100000 in
theorem DX9_addCard_c5 : decode cX9_addCard 77 = .ok (.iconst 1, 1) ∧ decode cX9_addCard 78 = .ok (.isub, 1) ∧ decode cX9_addCard 79 = .ok (.iaload, 1) ∧ decode cX9_addCard 80 = .ok (.iload_n 2, 1) ∧ decode cX9_addCard 81 = .ok (.if_icmp .lt 27, 3) ∧ decode cX9_addCard 84 = .ok (.aload_n 0, 1) ∧ decode cX9_addCard 85 = .ok (.getfield 7, 3) ∧ decode cX9_addCard 88 = .ok (.iconst 4, 1) ∧ decode cX9_addCard 89 = .ok (.iload_n 3, 1) ∧ decode cX9_addCard 90 = .ok (.iadd, 1) := by decide +kernel
theorem dX9_addCard_77 : decode cX9_addCard 77 = .ok (.iconst 1, 1) := DX9_addCard_c5.1
theorem dX9_addCard_78 : decode cX9_addCard 78 = .ok (.isub, 1) := DX9_addCard_c5.2.1
theorem dX9_addCard_79 : decode cX9_addCard 79 = .ok (.iaload, 1) := DX9_addCard_c5.2.2.1
theorem dX9_addCard_80 : decode cX9_addCard 80 = .ok (.iload_n 2, 1) := DX9_addCard_c5.2.2.2.1
theorem dX9_addCard_81 : decode cX9_addCard 81 = .ok (.if_icmp .lt 27, 3) := DX9_addCard_c5.2.2.2.2.1
theorem dX9_addCard_84 : decode cX9_addCard 84 = .ok (.aload_n 0, 1) := DX9_addCard_c5.2.2.2.2.2.1
theorem dX9_addCard_85 : decode cX9_addCard 85 = .ok (.getfield 7, 3) := DX9_addCard_c5.2.2.2.2.2.2.1
theorem dX9_addCard_88 : decode cX9_addCard 88 = .ok (.iconst 4, 1) := DX9_addCard_c5.2.2.2.2.2.2.2.1
theorem dX9_addCard_89 : decode cX9_addCard 89 = .ok (.iload_n 3, 1) := DX9_addCard_c5.2.2.2.2.2.2.2.2.1
theorem dX9_addCard_90 : decode cX9_addCard 90 = .ok (.iadd, 1) := DX9_addCard_c5.2.2.2.2.2.2.2.2.2
set_option maxRecDepth 100000 in
theorem DX9_addCard_c6 : decode cX9_addCard 91 = .ok (.aload_n 0, 1) ∧ decode cX9_addCard 92 = .ok (.getfield 7, 3) ∧ decode cX9_addCard 95 = .ok (.iconst 4, 1) ∧ decode cX9_addCard 96 = .ok (.iload_n 3, 1) ∧ decode cX9_addCard 97 = .ok (.iadd, 1) ∧ decode cX9_addCard 98 = .ok (.iconst 1, 1) ∧ decode cX9_addCard 99 = .ok (.isub, 1) ∧ decode cX9_addCard 100 = .ok (.iaload, 1) ∧ decode cX9_addCard 101 = .ok (.iastore, 1) ∧ decode cX9_addCard 102 = .ok (.iinc 3 (-1), 3) := by decide +kernel
theorem dX9_addCard_91 : decode cX9_addCard 91 = .ok (.aload_n 0, 1) := DX9_addCard_c6.1
theorem dX9_addCard_92 : decode cX9_addCard 92 = .ok (.getfield 7, 3) := DX9_addCard_c6.2.1
theorem dX9_addCard_95 : decode cX9_addCard 95 = .ok (.iconst 4, 1) := DX9_addCard_c6.2.2.1
theorem dX9_addCard_96 : decode cX9_addCard 96 = .ok (.iload_n 3, 1) := DX9_addCard_c6.2.2.2.1
theorem dX9_addCard_97 : decode cX9_addCard 97 = .ok (.iadd, 1) := DX9_addCard_c6.2.2.2.2.1
theorem dX9_addCard_98 : decode cX9_addCard 98 = .ok (.iconst 1, 1) := DX9_addCard_c6.2.2.2.2.2.1
theorem dX9_addCard_99 : decode cX9_addCard 99 = .ok (.isub, 1) := DX9_addCard_c6.2.2.2.2.2.2.1
theorem dX9_addCard_100 : decode cX9_addCard 100 = .ok (.iaload, 1) := DX9_addCard_c6.2.2.2.2.2.2.2.1
theorem dX9_addCard_101 : decode cX9_addCard 101 = .ok (.iastore, 1) := DX9_addCard_c6.2.2.2.2.2.2.2.2.1
theorem dX9_addCard_102 : decode cX9_addCard 102 = .ok (.iinc 3 (-1), 3) := DX9_addCard_c6.2.2.2.2.2.2.2.2.2
set_option maxRecDepth 100000 in
theorem DX9_addCard_c7 : decode cX9_addCard 105 = .ok (.goto (-39), 3) ∧ decode cX9_addCard 108 = .ok (.aload_n 0, 1) ∧ decode cX9_addCard 109 = .ok (.getfield 7, 3) ∧ decode cX9_addCard 112 = .ok (.iconst 4, 1) ∧ decode cX9_addCard 113 = .ok (.iload_n 3, 1) ∧ decode cX9_addCard 114 = .ok (.iadd, 1) ∧ decode cX9_addCard 115 = .ok (.iload_n 2, 1) ∧ decode cX9_addCard 116 = .ok (.iastore, 1) ∧ decode cX9_addCard 117 = .ok (.aload_n 0, 1) ∧ decode cX9_addCard 118 = .ok (.getfield 7, 3) := by decide +kernel
theorem dX9_addCard_105 : decode cX9_addCard 105 = .ok (.goto (-39), 3) := DX9_addCard_c7.1
theorem dX9_addCard_108 : decode cX9_addCard 108 = .ok (.aload_n 0, 1) := DX9_addCard_c7.2.1
theorem dX9_addCard_109 : decode cX9_addCard 109 = .ok (.getfield 7, 3) := DX9_addCard_c7.2.2.1
theorem dX9_addCard_112 : decode cX9_addCard 112 = .ok (.iconst 4, 1) := DX9_addCard_c7.2.2.2.1
theorem dX9_addCard_113 : decode cX9_addCard 113 = .ok (.iload_n 3, 1) := DX9_addCard_c7.2.2.2.2.1
theorem dX9_addCard_114 : decode cX9_addCard 114 = .ok (.iadd, 1) := DX9_addCard_c7.2.2.2.2.2.1
theorem dX9_addCard_115 : decode cX9_addCard 115 = .ok (.iload_n 2, 1) := DX9_addCard_c7.2.2.2.2.2.2.1
theorem dX9_addCard_116 : decode cX9_addCard 116 = .ok (.iastore, 1) := DX9_addCard_c7.2.2.2.2.2.2.2.1
theorem dX9_addCard_117 : decode cX9_addCard 117 = .ok (.aload_n 0, 1) := DX9_addCard_c7.2.2.2.2.2.2.2.2.1
theorem dX9_addCard_118 : decode cX9_addCard 118 = .ok (.getfield 7, 3) := DX9_addCard_c7.2.2.2.2.2.2.2.2.2
set_option maxRecDepth 100000 in
theorem DX9_addCard_c8 : decode cX9_addCard 121 = .ok (.iconst 3, 1) ∧ decode cX9_addCard 122 = .ok (.dup2, 1) ∧ decode cX9_addCard 123 = .ok (.iaload, 1) ∧ decode cX9_addCard 124 = .ok (.iconst 1, 1) ∧ decode cX9_addCard 125 = .ok (.iadd, 1) ∧ decode cX9_addCard 126 = .ok (.iastore, 1) ∧ decode cX9_addCard 127 = .ok (.iload_n 3, 1) ∧ decode cX9_addCard 128 = .ok (.ireturn, 1) := by decide +kernel
theorem dX9_addCard_121 : decode cX9_addCard 121 = .ok (.iconst 3, 1) := DX9_addCard_c8.1
theorem dX9_addCard_122 : decode cX9_addCard 122 = .ok (.dup2, 1) := DX9_addCard_c8.2.1
theorem dX9_addCard_123 : decode cX9_addCard 123 = .ok (.iaload, 1) := DX9_addCard_c8.2.2.1
theorem dX9_addCard_124 : decode cX9_addCard 124 = .ok (.iconst 1, 1) := DX9_addCard_c8.2.2.2.1
theorem dX9_addCard_125 : decode cX9_addCard 125 = .ok (.iadd, 1) := DX9_addCard_c8.2.2.2.2.1
theorem dX9_addCard_126 : decode cX9_addCard 126 = .ok (.iastore, 1) := DX9_addCard_c8.2.2.2.2.2.1
theorem dX9_addCard_127 : decode cX9_addCard 127 = .ok (.iload_n 3, 1) := DX9_addCard_c8.2.2.2.2.2.2.1
theorem dX9_addCard_128 : decode cX9_addCard 128 = .ok (.ireturn, 1) := DX9_addCard_c8.2.2.2.2.2.2.2
set_option maxRecDepth 100000 in
theorem DX9_isCard_c0 : decode cX9_isCard 0 = .ok (.iload_n 1, 1) ∧ decode cX9_isCard 1 = .ok (.iconst 0, 1) ∧ decode cX9_isCard 2 = .ok (.aload_n 0, 1) ∧ decode cX9_isCard 3 = .ok (.getfield 7, 3) ∧ decode cX9_isCard 6 = .ok (.iconst 3, 1) ∧ decode cX9_isCard 7 = .ok (.iaload, 1) ∧ decode cX9_isCard 8 = .ok (.iconst 1, 1) ∧ decode cX9_isCard 9 = .ok (.isub, 1) ∧ decode cX9_isCard 10 = .ok (.invokestatic 50, 3) ∧ decode cX9_isCard 13 = .ok (.ireturn, 1) := by decide +kernel
theorem dX9_isCard_0 : decode cX9_isCard 0 = .ok (.iload_n 1, 1) := DX9_isCard_c0.1
theorem dX9_isCard_1 : decode cX9_isCard 1 = .ok (.iconst 0, 1) := DX9_isCard_c0.2.1
theorem dX9_isCard_2 : decode cX9_isCard 2 = .ok (.aload_n 0, 1) := DX9_isCard_c0.2.2.1
theorem dX9_isCard_3 : decode cX9_isCard 3 = .ok (.getfield 7, 3) := DX9_isCard_c0.2.2.2.1
theorem dX9_isCard_6 : decode cX9_isCard 6 = .ok (.iconst 3, 1) := DX9_isCard_c0.2.2.2.2.1
theorem dX9_isCard_7 : decode cX9_isCard 7 = .ok (.iaload, 1) := DX9_isCard_c0.2.2.2.2.2.1
theorem dX9_isCard_8 : decode cX9_isCard 8 = .ok (.iconst 1, 1) := DX9_isCard_c0.2.2.2.2.2.2.1
theorem dX9_isCard_9 : decode cX9_isCard 9 = .ok (.isub, 1) := DX9_isCard_c0.2.2.2.2.2.2.2.1
theorem dX9_isCard_10 : decode cX9_isCard 10 = .ok (.invokestatic 50, 3) := DX9_isCard_c0.2.2.2.2.2.2.2.2.1
theorem dX9_isCard_13 : decode cX9_isCard 13 = .ok (.ireturn, 1) := DX9_isCard_c0.2.2.2.2.2.2.2.2.2
set_option maxRecDepth 100000 in
theorem DX9_dropCard_c0 : decode cX9_dropCard 0 = .ok (.aload_n 0, 1) ∧ decode cX9_dropCard 1 = .ok (.iload_n 1, 1) ∧ decode cX9_dropCard 2 = .ok (.invokevirtual 192, 3) ∧ decode cX9_dropCard 5 = .ok (.ifCond .ne 5, 3) ∧ decode cX9_dropCard 8 = .ok (.iconst (-1), 1) ∧ decode cX9_dropCard 9 = .ok (.ireturn, 1) ∧ decode cX9_dropCard 10 = .ok (.aload_n 0, 1) ∧ decode cX9_dropCard 11 = .ok (.invokevirtual 70, 3) ∧ decode cX9_dropCard 14 = .ok (.iload_n 1, 1) ∧ decode cX9_dropCard 15 = .ok (.istore_n 2, 1) := by decide +kernel
theorem dX9_dropCard_0 : decode cX9_dropCard 0 = .ok (.aload_n 0, 1) := DX9_dropCard_c0.1
theorem dX9_dropCard_1 : decode cX9_dropCard 1 = .ok (.iload_n 1, 1) := DX9_dropCard_c0.2.1
theorem dX9_dropCard_2 : decode cX9_dropCard 2 = .ok (.invokevirtual 192, 3) := DX9_dropCard_c0.2.2.1
theorem dX9_dropCard_5 : decode cX9_dropCard 5 = .ok (.ifCond .ne 5, 3) := DX9_dropCard_c0.2.2.2.1
theorem dX9_dropCard_8 : decode cX9_dropCard 8 = .ok (.iconst (-1), 1) := DX9_dropCard_c0.2.2.2.2.1
theorem dX9_dropCard_9 : decode cX9_dropCard 9 = .ok (.ireturn, 1) := DX9_dropCard_c0.2.2.2.2.2.1
theorem dX9_dropCard_10 : decode cX9_dropCard 10 = .ok (.aload_n 0, 1) := DX9_dropCard_c0.2.2.2.2.2.2.1
theorem dX9_dropCard_11 : decode cX9_dropCard 11 = .ok (.invokevirtual 70, 3) := DX9_dropCard_c0.2.2.2.2.2.2.2.1
theorem dX9_dropCard_14 : decode cX9_dropCard 14 = .ok (.iload_n 1, 1) := DX9_dropCard_c0.2.2.2.2.2.2.2.2.1
theorem dX9_dropCard_15 : decode cX9_dropCard 15 = .ok (.istore_n 2, 1) := DX9_dropCard_c0.2.2.2.2.2.2.2.2.2
set_option maxRecDepth 100000 in
theorem DX9_dropCard_c1 : decode cX9_dropCard 16 = .ok (.iload_n 2, 1) ∧ decode cX9_dropCard 17 = .ok (.aload_n 0, 1) ∧ decode cX9_dropCard 18 = .ok (.getfield 7, 3) ∧ decode cX9_dropCard 21 = .ok (.iconst 3, 1) ∧ decode cX9_dropCard 22 = .ok (.iaload, 1) ∧ decode cX9_dropCard 23 = .ok (.iconst 1, 1) ∧ decode cX9_dropCard 24 = .ok (.isub, 1) ∧ decode cX9_dropCard 25 = .ok (.if_icmp .ge 27, 3) ∧ decode cX9_dropCard 28 = .ok (.aload_n 0, 1) ∧ decode cX9_dropCard 29 = .ok (.getfield 7, 3) := by decide +kernel
theorem dX9_dropCard_16 : decode cX9_dropCard 16 = .ok (.iload_n 2, 1) := DX9_dropCard_c1.1
theorem dX9_dropCard_17 : decode cX9_dropCard 17 = .ok (.aload_n 0, 1) := DX9_dropCard_c1.2.1
theorem dX9_dropCard_18 : decode cX9_dropCard 18 = .ok (.getfield 7, 3) := DX9_dropCard_c1.2.2.1
theorem dX9_dropCard_21 : decode cX9_dropCard 21 = .ok (.iconst 3, 1) := DX9_dropCard_c1.2.2.2.1
theorem dX9_dropCard_22 : decode cX9_dropCard 22 = .ok (.iaload, 1) := DX9_dropCard_c1.2.2.2.2.1
theorem dX9_dropCard_23 : decode cX9_dropCard 23 = .ok (.iconst 1, 1) := DX9_dropCard_c1.2.2.2.2.2.1
theorem dX9_dropCard_24 : decode cX9_dropCard 24 = .ok (.isub, 1) := DX9_dropCard_c1.2.2.2.2.2.2.1
theorem dX9_dropCard_25 : decode cX9_dropCard 25 = .ok (.if_icmp .ge 27, 3) := DX9_dropCard_c1.2.2.2.2.2.2.2.1
theorem dX9_dropCard_28 : decode cX9_dropCard 28 = .ok (.aload_n 0, 1) := DX9_dropCard_c1.2.2.2.2.2.2.2.2.1
theorem dX9_dropCard_29 : decode cX9_dropCard 29 = .ok (.getfield 7, 3) := DX9_dropCard_c1.2.2.2.2.2.2.2.2.2
set_option maxRecDepth 100000 in
theorem DX9_dropCard_c2 : decode cX9_dropCard 32 = .ok (.iconst 4, 1) ∧ decode cX9_dropCard 33 = .ok (.iload_n 2, 1) ∧ decode cX9_dropCard 34 = .ok (.iadd, 1) ∧ decode cX9_dropCard 35 = .ok (.aload_n 0, 1) ∧ decode cX9_dropCard 36 = .ok (.getfield 7, 3) ∧ decode cX9_dropCard 39 = .ok (.iconst 4, 1) ∧ decode cX9_dropCard 40 = .ok (.iload_n 2, 1) ∧ decode cX9_dropCard 41 = .ok (.iadd, 1) ∧ decode cX9_dropCard 42 = .ok (.iconst 1, 1) ∧ decode cX9_dropCard 43 = .ok (.iadd, 1) := by decide +kernel
theorem dX9_dropCard_32 : decode cX9_dropCard 32 = .ok (.iconst 4, 1) := DX9_dropCard_c2.1
theorem dX9_dropCard_33 : decode cX9_dropCard 33 = .ok (.iload_n 2, 1) := DX9_dropCard_c2.2.1
theorem dX9_dropCard_34 : decode cX9_dropCard 34 = .ok (.iadd, 1) := DX9_dropCard_c2.2.2.1
theorem dX9_dropCard_35 : decode cX9_dropCard 35 = .ok (.aload_n 0, 1) := DX9_dropCard_c2.2.2.2.1
theorem dX9_dropCard_36 : decode cX9_dropCard 36 = .ok (.getfield 7, 3) := DX9_dropCard_c2.2.2.2.2.1
theorem dX9_dropCard_39 : decode cX9_dropCard 39 = .ok (.iconst 4, 1) := DX9_dropCard_c2.2.2.2.2.2.1
theorem dX9_dropCard_40 : decode cX9_dropCard 40 = .ok (.iload_n 2, 1) := DX9_dropCard_c2.2.2.2.2.2.2.1
theorem dX9_dropCard_41 : decode cX9_dropCard 41 = .ok (.iadd, 1) := DX9_dropCard_c2.2.2.2.2.2.2.2.1
theorem dX9_dropCard_42 : decode cX9_dropCard 42 = .ok (.iconst 1, 1) := DX9_dropCard_c2.2.2.2.2.2.2.2.2.1
theorem dX9_dropCard_43 : decode cX9_dropCard 43 = .ok (.iadd, 1) := DX9_dropCard_c2.2.2.2.2.2.2.2.2.2
set_option maxRecDepth 100000 in
theorem DX9_dropCard_c3 : decode cX9_dropCard 44 = .ok (.iaload, 1) ∧ decode cX9_dropCard 45 = .ok (.iastore, 1) ∧ decode cX9_dropCard 46 = .ok (.iinc 2 1, 3) ∧ decode cX9_dropCard 49 = .ok (.goto (-33), 3) ∧ decode cX9_dropCard 52 = .ok (.aload_n 0, 1) ∧ decode cX9_dropCard 53 = .ok (.getfield 7, 3) ∧ decode cX9_dropCard 56 = .ok (.iconst 3, 1) ∧ decode cX9_dropCard 57 = .ok (.dup2, 1) ∧ decode cX9_dropCard 58 = .ok (.iaload, 1) ∧ decode cX9_dropCard 59 = .ok (.iconst 1, 1) := by decide +kernel
theorem dX9_dropCard_44 : decode cX9_dropCard 44 = .ok (.iaload, 1) := DX9_dropCard_c3.1
theorem dX9_dropCard_45 : decode cX9_dropCard 45 = .ok (.iastore, 1) := DX9_dropCard_c3.2.1
theorem dX9_dropCard_46 : decode cX9_dropCard 46 = .ok (.iinc 2 1, 3) := DX9_dropCard_c3.2.2.1
theorem dX9_dropCard_49 : decode cX9_dropCard 49 = .ok (.goto (-33), 3) := DX9_dropCard_c3.2.2.2.1
theorem dX9_dropCard_52 : decode cX9_dropCard 52 = .ok (.aload_n 0, 1) := DX9_dropCard_c3.2.2.2.2.1
theorem dX9_dropCard_53 : decode cX9_dropCard 53 = .ok (.getfield 7, 3) := DX9_dropCard_c3.2.2.2.2.2.1
theorem dX9_dropCard_56 : decode cX9_dropCard 56 = .ok (.iconst 3, 1) := DX9_dropCard_c3.2.2.2.2.2.2.1
theorem dX9_dropCard_57 : decode cX9_dropCard 57 = .ok (.dup2, 1) := DX9_dropCard_c3.2.2.2.2.2.2.2.1
theorem dX9_dropCard_58 : decode cX9_dropCard 58 = .ok (.iaload, 1) := DX9_dropCard_c3.2.2.2.2.2.2.2.2.1
theorem dX9_dropCard_59 : decode cX9_dropCard 59 = .ok (.iconst 1, 1) := DX9_dropCard_c3.2.2.2.2.2.2.2.2.2
set_option maxRecDepth 100000 in
theorem DX9_dropCard_c4 : decode cX9_dropCard 60 = .ok (.isub, 1) ∧ decode cX9_dropCard 61 = .ok (.iastore, 1) ∧ decode cX9_dropCard 62 = .ok (.aload_n 0, 1) ∧ decode cX9_dropCard 63 = .ok (.getfield 7, 3) ∧ decode cX9_dropCard 66 = .ok (.iconst 3, 1) ∧ decode cX9_dropCard 67 = .ok (.iaload, 1) ∧ decode cX9_dropCard 68 = .ok (.ireturn, 1) := by decide +kernel
theorem dX9_dropCard_60 : decode cX9_dropCard 60 = .ok (.isub, 1) := DX9_dropCard_c4.1
theorem dX9_dropCard_61 : decode cX9_dropCard 61 = .ok (.iastore, 1) := DX9_dropCard_c4.2.1
theorem dX9_dropCard_62 : decode cX9_dropCard 62 = .ok (.aload_n 0, 1) := DX9_dropCard_c4.2.2.1
theorem dX9_dropCard_63 : decode cX9_dropCard 63 = .ok (.getfield 7, 3) := DX9_dropCard_c4.2.2.2.1
theorem dX9_dropCard_66 : decode cX9_dropCard 66 = .ok (.iconst 3, 1) := DX9_dropCard_c4.2.2.2.2.1
theorem dX9_dropCard_67 : decode cX9_dropCard 67 = .ok (.iaload, 1) := DX9_dropCard_c4.2.2.2.2.2.1
theorem dX9_dropCard_68 : decode cX9_dropCard 68 = .ok (.ireturn, 1) := DX9_dropCard_c4.2.2.2.2.2.2
set_option maxRecDepth 100000 in
theorem DX9_isWhole_c0 : decode cX9_isWhole 0 = .ok (.aload_n 0, 1) ∧ decode cX9_isWhole 1 = .ok (.getfield 7, 3) ∧ decode cX9_isWhole 4 = .ok (.iconst 3, 1) ∧ decode cX9_isWhole 5 = .ok (.iaload, 1) ∧ decode cX9_isWhole 6 = .ok (.aload_n 0, 1) ∧ decode cX9_isWhole 7 = .ok (.getfield 7, 3) ∧ decode cX9_isWhole 10 = .ok (.iconst 2, 1) ∧ decode cX9_isWhole 11 = .ok (.iaload, 1) ∧ decode cX9_isWhole 12 = .ok (.if_icmp .ne 7, 3) ∧ decode cX9_isWhole 15 = .ok (.iconst 1, 1) := by decide +kernel
theorem dX9_isWhole_0 : decode cX9_isWhole 0 = .ok (.aload_n 0, 1) := DX9_isWhole_c0.1
theorem dX9_isWhole_1 : decode cX9_isWhole 1 = .ok (.getfield 7, 3) := DX9_isWhole_c0.2.1
theorem dX9_isWhole_4 : decode cX9_isWhole 4 = .ok (.iconst 3, 1) := DX9_isWhole_c0.2.2.1
theorem dX9_isWhole_5 : decode cX9_isWhole 5 = .ok (.iaload, 1) := DX9_isWhole_c0.2.2.2.1
theorem dX9_isWhole_6 : decode cX9_isWhole 6 = .ok (.aload_n 0, 1) := DX9_isWhole_c0.2.2.2.2.1
theorem dX9_isWhole_7 : decode cX9_isWhole 7 = .ok (.getfield 7, 3) := DX9_isWhole_c0.2.2.2.2.2.1
theorem dX9_isWhole_10 : decode cX9_isWhole 10 = .ok (.iconst 2, 1) := DX9_isWhole_c0.2.2.2.2.2.2.1
theorem dX9_isWhole_11 : decode cX9_isWhole 11 = .ok (.iaload, 1) := DX9_isWhole_c0.2.2.2.2.2.2.2.1
theorem dX9_isWhole_12 : decode cX9_isWhole 12 = .ok (.if_icmp .ne 7, 3) := DX9_isWhole_c0.2.2.2.2.2.2.2.2.1
theorem dX9_isWhole_15 : decode cX9_isWhole 15 = .ok (.iconst 1, 1) := DX9_isWhole_c0.2.2.2.2.2.2.2.2.2
set_option maxRecDepth 100000 in
theorem DX9_isWhole_c1 : decode cX9_isWhole 16 = .ok (.goto 4, 3) ∧ decode cX9_isWhole 19 = .ok (.iconst 0, 1) ∧ decode cX9_isWhole 20 = .ok (.ireturn, 1) := by decide +kernel
theorem dX9_isWhole_16 : decode cX9_isWhole 16 = .ok (.goto 4, 3) := DX9_isWhole_c1.1
theorem dX9_isWhole_19 : decode cX9_isWhole 19 = .ok (.iconst 0, 1) := DX9_isWhole_c1.2.1
theorem dX9_isWhole_20 : decode cX9_isWhole 20 = .ok (.ireturn, 1) := DX9_isWhole_c1.2.2
set_option maxRecDepth 100000 in
theorem DX9_edgesOfAll_c0 : decode cX9_edgesOfAll 0 = .ok (.iconst 0, 1) ∧ decode cX9_edgesOfAll 1 = .ok (.istore_n 1, 1) ∧ decode cX9_edgesOfAll 2 = .ok (.iconst 0, 1) ∧ decode cX9_edgesOfAll 3 = .ok (.istore_n 2, 1) ∧ decode cX9_edgesOfAll 4 = .ok (.iload_n 2, 1) ∧ decode cX9_edgesOfAll 5 = .ok (.aload_n 0, 1) ∧ decode cX9_edgesOfAll 6 = .ok (.getfield 7, 3) ∧ decode cX9_edgesOfAll 9 = .ok (.iconst 3, 1) ∧ decode cX9_edgesOfAll 10 = .ok (.iaload, 1) ∧ decode cX9_edgesOfAll 11 = .ok (.if_icmp .ge 23, 3) := by decide +kernel
theorem dX9_edgesOfAll_0 : decode cX9_edgesOfAll 0 = .ok (.iconst 0, 1) := DX9_edgesOfAll_c0.1
theorem dX9_edgesOfAll_1 : decode cX9_edgesOfAll 1 = .ok (.istore_n 1, 1) := DX9_edgesOfAll_c0.2.1
theorem dX9_edgesOfAll_2 : decode cX9_edgesOfAll 2 = .ok (.iconst 0, 1) := DX9_edgesOfAll_c0.2.2.1
theorem dX9_edgesOfAll_3 : decode cX9_edgesOfAll 3 = .ok (.istore_n 2, 1) := DX9_edgesOfAll_c0.2.2.2.1
theorem dX9_edgesOfAll_4 : decode cX9_edgesOfAll 4 = .ok (.iload_n 2, 1) := DX9_edgesOfAll_c0.2.2.2.2.1
theorem dX9_edgesOfAll_5 : decode cX9_edgesOfAll 5 = .ok (.aload_n 0, 1) := DX9_edgesOfAll_c0.2.2.2.2.2.1
theorem dX9_edgesOfAll_6 : decode cX9_edgesOfAll 6 = .ok (.getfield 7, 3) := DX9_edgesOfAll_c0.2.2.2.2.2.2.1
theorem dX9_edgesOfAll_9 : decode cX9_edgesOfAll 9 = .ok (.iconst 3, 1) := DX9_edgesOfAll_c0.2.2.2.2.2.2.2.1
theorem dX9_edgesOfAll_10 : decode cX9_edgesOfAll 10 = .ok (.iaload, 1) := DX9_edgesOfAll_c0.2.2.2.2.2.2.2.2.1
theorem dX9_edgesOfAll_11 : decode cX9_edgesOfAll 11 = .ok (.if_icmp .ge 23, 3) := DX9_edgesOfAll_c0.2.2.2.2.2.2.2.2.2
set_option maxRecDepth 100000 in
theorem DX9_edgesOfAll_c1 : decode cX9_edgesOfAll 14 = .ok (.iload_n 1, 1) ∧ decode cX9_edgesOfAll 15 = .ok (.aload_n 0, 1) ∧ decode cX9_edgesOfAll 16 = .ok (.getfield 7, 3) ∧ decode cX9_edgesOfAll 19 = .ok (.iconst 4, 1) ∧ decode cX9_edgesOfAll 20 = .ok (.iload_n 2, 1) ∧ decode cX9_edgesOfAll 21 = .ok (.iadd, 1) ∧ decode cX9_edgesOfAll 22 = .ok (.iaload, 1) ∧ decode cX9_edgesOfAll 23 = .ok (.invokestatic 118, 3) ∧ decode cX9_edgesOfAll 26 = .ok (.iadd, 1) ∧ decode cX9_edgesOfAll 27 = .ok (.istore_n 1, 1) := by decide +kernel
theorem dX9_edgesOfAll_14 : decode cX9_edgesOfAll 14 = .ok (.iload_n 1, 1) := DX9_edgesOfAll_c1.1
theorem dX9_edgesOfAll_15 : decode cX9_edgesOfAll 15 = .ok (.aload_n 0, 1) := DX9_edgesOfAll_c1.2.1
theorem dX9_edgesOfAll_16 : decode cX9_edgesOfAll 16 = .ok (.getfield 7, 3) := DX9_edgesOfAll_c1.2.2.1
theorem dX9_edgesOfAll_19 : decode cX9_edgesOfAll 19 = .ok (.iconst 4, 1) := DX9_edgesOfAll_c1.2.2.2.1
theorem dX9_edgesOfAll_20 : decode cX9_edgesOfAll 20 = .ok (.iload_n 2, 1) := DX9_edgesOfAll_c1.2.2.2.2.1
theorem dX9_edgesOfAll_21 : decode cX9_edgesOfAll 21 = .ok (.iadd, 1) := DX9_edgesOfAll_c1.2.2.2.2.2.1
theorem dX9_edgesOfAll_22 : decode cX9_edgesOfAll 22 = .ok (.iaload, 1) := DX9_edgesOfAll_c1.2.2.2.2.2.2.1
theorem dX9_edgesOfAll_23 : decode cX9_edgesOfAll 23 = .ok (.invokestatic 118, 3) := DX9_edgesOfAll_c1.2.2.2.2.2.2.2.1
theorem dX9_edgesOfAll_26 : decode cX9_edgesOfAll 26 = .ok (.iadd, 1) := DX9_edgesOfAll_c1.2.2.2.2.2.2.2.2.1
theorem dX9_edgesOfAll_27 : decode cX9_edgesOfAll 27 = .ok (.istore_n 1, 1) := DX9_edgesOfAll_c1.2.2.2.2.2.2.2.2.2
set_option maxRecDepth 100000 in
theorem DX9_edgesOfAll_c2 : decode cX9_edgesOfAll 28 = .ok (.iinc 2 1, 3) ∧ decode cX9_edgesOfAll 31 = .ok (.goto (-27), 3) ∧ decode cX9_edgesOfAll 34 = .ok (.iload_n 1, 1) ∧ decode cX9_edgesOfAll 35 = .ok (.ireturn, 1) := by decide +kernel
theorem dX9_edgesOfAll_28 : decode cX9_edgesOfAll 28 = .ok (.iinc 2 1, 3) := DX9_edgesOfAll_c2.1
theorem dX9_edgesOfAll_31 : decode cX9_edgesOfAll 31 = .ok (.goto (-27), 3) := DX9_edgesOfAll_c2.2.1
theorem dX9_edgesOfAll_34 : decode cX9_edgesOfAll 34 = .ok (.iload_n 1, 1) := DX9_edgesOfAll_c2.2.2.1
theorem dX9_edgesOfAll_35 : decode cX9_edgesOfAll 35 = .ok (.ireturn, 1) := DX9_edgesOfAll_c2.2.2.2
set_option maxRecDepth 100000 in
theorem DX9_edgesCounted_c0 : decode cX9_edgesCounted 0 = .ok (.aload_n 0, 1) ∧ decode cX9_edgesCounted 1 = .ok (.getfield 7, 3) ∧ decode cX9_edgesCounted 4 = .ok (.iconst 2, 1) ∧ decode cX9_edgesCounted 5 = .ok (.iaload, 1) ∧ decode cX9_edgesCounted 6 = .ok (.iconst 2, 1) ∧ decode cX9_edgesCounted 7 = .ok (.isub, 1) ∧ decode cX9_edgesCounted 8 = .ok (.istore_n 1, 1) ∧ decode cX9_edgesCounted 9 = .ok (.aload_n 0, 1) ∧ decode cX9_edgesCounted 10 = .ok (.invokevirtual 195, 3) ∧ decode cX9_edgesCounted 13 = .ok (.ifCond .eq 21, 3) := by decide +kernel
theorem dX9_edgesCounted_0 : decode cX9_edgesCounted 0 = .ok (.aload_n 0, 1) := DX9_edgesCounted_c0.1
theorem dX9_edgesCounted_1 : decode cX9_edgesCounted 1 = .ok (.getfield 7, 3) := DX9_edgesCounted_c0.2.1
theorem dX9_edgesCounted_4 : decode cX9_edgesCounted 4 = .ok (.iconst 2, 1) := DX9_edgesCounted_c0.2.2.1
theorem dX9_edgesCounted_5 : decode cX9_edgesCounted 5 = .ok (.iaload, 1) := DX9_edgesCounted_c0.2.2.2.1
theorem dX9_edgesCounted_6 : decode cX9_edgesCounted 6 = .ok (.iconst 2, 1) := DX9_edgesCounted_c0.2.2.2.2.1
theorem dX9_edgesCounted_7 : decode cX9_edgesCounted 7 = .ok (.isub, 1) := DX9_edgesCounted_c0.2.2.2.2.2.1
theorem dX9_edgesCounted_8 : decode cX9_edgesCounted 8 = .ok (.istore_n 1, 1) := DX9_edgesCounted_c0.2.2.2.2.2.2.1
theorem dX9_edgesCounted_9 : decode cX9_edgesCounted 9 = .ok (.aload_n 0, 1) := DX9_edgesCounted_c0.2.2.2.2.2.2.2.1
theorem dX9_edgesCounted_10 : decode cX9_edgesCounted 10 = .ok (.invokevirtual 195, 3) := DX9_edgesCounted_c0.2.2.2.2.2.2.2.2.1
theorem dX9_edgesCounted_13 : decode cX9_edgesCounted 13 = .ok (.ifCond .eq 21, 3) := DX9_edgesCounted_c0.2.2.2.2.2.2.2.2.2
set_option maxRecDepth 100000 in
theorem DX9_edgesCounted_c1 : decode cX9_edgesCounted 16 = .ok (.aload_n 0, 1) ∧ decode cX9_edgesCounted 17 = .ok (.invokevirtual 199, 3) ∧ decode cX9_edgesCounted 20 = .ok (.iload_n 1, 1) ∧ decode cX9_edgesCounted 21 = .ok (.irem, 1) ∧ decode cX9_edgesCounted 22 = .ok (.ifCond .ne 12, 3) ∧ decode cX9_edgesCounted 25 = .ok (.aload_n 0, 1) ∧ decode cX9_edgesCounted 26 = .ok (.invokevirtual 199, 3) ∧ decode cX9_edgesCounted 29 = .ok (.iload_n 1, 1) ∧ decode cX9_edgesCounted 30 = .ok (.idiv, 1) ∧ decode cX9_edgesCounted 31 = .ok (.goto 5, 3) := by decide +kernel
theorem dX9_edgesCounted_16 : decode cX9_edgesCounted 16 = .ok (.aload_n 0, 1) := DX9_edgesCounted_c1.1
theorem dX9_edgesCounted_17 : decode cX9_edgesCounted 17 = .ok (.invokevirtual 199, 3) := DX9_edgesCounted_c1.2.1
theorem dX9_edgesCounted_20 : decode cX9_edgesCounted 20 = .ok (.iload_n 1, 1) := DX9_edgesCounted_c1.2.2.1
theorem dX9_edgesCounted_21 : decode cX9_edgesCounted 21 = .ok (.irem, 1) := DX9_edgesCounted_c1.2.2.2.1
theorem dX9_edgesCounted_22 : decode cX9_edgesCounted 22 = .ok (.ifCond .ne 12, 3) := DX9_edgesCounted_c1.2.2.2.2.1
theorem dX9_edgesCounted_25 : decode cX9_edgesCounted 25 = .ok (.aload_n 0, 1) := DX9_edgesCounted_c1.2.2.2.2.2.1
theorem dX9_edgesCounted_26 : decode cX9_edgesCounted 26 = .ok (.invokevirtual 199, 3) := DX9_edgesCounted_c1.2.2.2.2.2.2.1
theorem dX9_edgesCounted_29 : decode cX9_edgesCounted 29 = .ok (.iload_n 1, 1) := DX9_edgesCounted_c1.2.2.2.2.2.2.2.1
theorem dX9_edgesCounted_30 : decode cX9_edgesCounted 30 = .ok (.idiv, 1) := DX9_edgesCounted_c1.2.2.2.2.2.2.2.2.1
theorem dX9_edgesCounted_31 : decode cX9_edgesCounted 31 = .ok (.goto 5, 3) := DX9_edgesCounted_c1.2.2.2.2.2.2.2.2.2
set_option maxRecDepth 100000 in
theorem DX9_edgesCounted_c2 : decode cX9_edgesCounted 34 = .ok (.bipush (-9), 2) ∧ decode cX9_edgesCounted 36 = .ok (.ireturn, 1) := by decide +kernel
theorem dX9_edgesCounted_34 : decode cX9_edgesCounted 34 = .ok (.bipush (-9), 2) := DX9_edgesCounted_c2.1
theorem dX9_edgesCounted_36 : decode cX9_edgesCounted 36 = .ok (.ireturn, 1) := DX9_edgesCounted_c2.2
set_option maxRecDepth 100000 in
theorem DX9_degreeCounted_c0 : decode cX9_degreeCounted 0 = .ok (.aload_n 0, 1) ∧ decode cX9_degreeCounted 1 = .ok (.invokevirtual 202, 3) ∧ decode cX9_degreeCounted 4 = .ok (.istore_n 2, 1) ∧ decode cX9_degreeCounted 5 = .ok (.iload_n 2, 1) ∧ decode cX9_degreeCounted 6 = .ok (.bipush (-9), 2) ∧ decode cX9_degreeCounted 8 = .ok (.if_icmp .ne 8, 3) ∧ decode cX9_degreeCounted 11 = .ok (.bipush (-9), 2) ∧ decode cX9_degreeCounted 13 = .ok (.goto 16, 3) ∧ decode cX9_degreeCounted 16 = .ok (.iload_n 2, 1) ∧ decode cX9_degreeCounted 17 = .ok (.aload_n 0, 1) := by decide +kernel
theorem dX9_degreeCounted_0 : decode cX9_degreeCounted 0 = .ok (.aload_n 0, 1) := DX9_degreeCounted_c0.1
theorem dX9_degreeCounted_1 : decode cX9_degreeCounted 1 = .ok (.invokevirtual 202, 3) := DX9_degreeCounted_c0.2.1
theorem dX9_degreeCounted_4 : decode cX9_degreeCounted 4 = .ok (.istore_n 2, 1) := DX9_degreeCounted_c0.2.2.1
theorem dX9_degreeCounted_5 : decode cX9_degreeCounted 5 = .ok (.iload_n 2, 1) := DX9_degreeCounted_c0.2.2.2.1
theorem dX9_degreeCounted_6 : decode cX9_degreeCounted 6 = .ok (.bipush (-9), 2) := DX9_degreeCounted_c0.2.2.2.2.1
theorem dX9_degreeCounted_8 : decode cX9_degreeCounted 8 = .ok (.if_icmp .ne 8, 3) := DX9_degreeCounted_c0.2.2.2.2.2.1
theorem dX9_degreeCounted_11 : decode cX9_degreeCounted 11 = .ok (.bipush (-9), 2) := DX9_degreeCounted_c0.2.2.2.2.2.2.1
theorem dX9_degreeCounted_13 : decode cX9_degreeCounted 13 = .ok (.goto 16, 3) := DX9_degreeCounted_c0.2.2.2.2.2.2.2.1
theorem dX9_degreeCounted_16 : decode cX9_degreeCounted 16 = .ok (.iload_n 2, 1) := DX9_degreeCounted_c0.2.2.2.2.2.2.2.2.1
theorem dX9_degreeCounted_17 : decode cX9_degreeCounted 17 = .ok (.aload_n 0, 1) := DX9_degreeCounted_c0.2.2.2.2.2.2.2.2.2
set_option maxRecDepth 100000 in
theorem DX9_degreeCounted_c1 : decode cX9_degreeCounted 18 = .ok (.getfield 7, 3) ∧ decode cX9_degreeCounted 21 = .ok (.iconst 4, 1) ∧ decode cX9_degreeCounted 22 = .ok (.iload_n 1, 1) ∧ decode cX9_degreeCounted 23 = .ok (.iadd, 1) ∧ decode cX9_degreeCounted 24 = .ok (.iaload, 1) ∧ decode cX9_degreeCounted 25 = .ok (.invokestatic 118, 3) ∧ decode cX9_degreeCounted 28 = .ok (.isub, 1) ∧ decode cX9_degreeCounted 29 = .ok (.ireturn, 1) := by decide +kernel
theorem dX9_degreeCounted_18 : decode cX9_degreeCounted 18 = .ok (.getfield 7, 3) := DX9_degreeCounted_c1.1
theorem dX9_degreeCounted_21 : decode cX9_degreeCounted 21 = .ok (.iconst 4, 1) := DX9_degreeCounted_c1.2.1
theorem dX9_degreeCounted_22 : decode cX9_degreeCounted 22 = .ok (.iload_n 1, 1) := DX9_degreeCounted_c1.2.2.1
theorem dX9_degreeCounted_23 : decode cX9_degreeCounted 23 = .ok (.iadd, 1) := DX9_degreeCounted_c1.2.2.2.1
theorem dX9_degreeCounted_24 : decode cX9_degreeCounted 24 = .ok (.iaload, 1) := DX9_degreeCounted_c1.2.2.2.2.1
theorem dX9_degreeCounted_25 : decode cX9_degreeCounted 25 = .ok (.invokestatic 118, 3) := DX9_degreeCounted_c1.2.2.2.2.2.1
theorem dX9_degreeCounted_28 : decode cX9_degreeCounted 28 = .ok (.isub, 1) := DX9_degreeCounted_c1.2.2.2.2.2.2.1
theorem dX9_degreeCounted_29 : decode cX9_degreeCounted 29 = .ok (.ireturn, 1) := DX9_degreeCounted_c1.2.2.2.2.2.2.2
set_option maxRecDepth 100000 in
theorem DX9_sameAs_c0 : decode cX9_sameAs 0 = .ok (.iconst 0, 1) ∧ decode cX9_sameAs 1 = .ok (.istore_n 2, 1) ∧ decode cX9_sameAs 2 = .ok (.iconst 0, 1) ∧ decode cX9_sameAs 3 = .ok (.istore_n 3, 1) ∧ decode cX9_sameAs 4 = .ok (.iload_n 3, 1) ∧ decode cX9_sameAs 5 = .ok (.aload_n 0, 1) ∧ decode cX9_sameAs 6 = .ok (.getfield 7, 3) ∧ decode cX9_sameAs 9 = .ok (.iconst 3, 1) ∧ decode cX9_sameAs 10 = .ok (.iaload, 1) ∧ decode cX9_sameAs 11 = .ok (.if_icmp .ge 36, 3) := by decide +kernel
theorem dX9_sameAs_0 : decode cX9_sameAs 0 = .ok (.iconst 0, 1) := DX9_sameAs_c0.1
theorem dX9_sameAs_1 : decode cX9_sameAs 1 = .ok (.istore_n 2, 1) := DX9_sameAs_c0.2.1
theorem dX9_sameAs_2 : decode cX9_sameAs 2 = .ok (.iconst 0, 1) := DX9_sameAs_c0.2.2.1
theorem dX9_sameAs_3 : decode cX9_sameAs 3 = .ok (.istore_n 3, 1) := DX9_sameAs_c0.2.2.2.1
theorem dX9_sameAs_4 : decode cX9_sameAs 4 = .ok (.iload_n 3, 1) := DX9_sameAs_c0.2.2.2.2.1
theorem dX9_sameAs_5 : decode cX9_sameAs 5 = .ok (.aload_n 0, 1) := DX9_sameAs_c0.2.2.2.2.2.1
theorem dX9_sameAs_6 : decode cX9_sameAs 6 = .ok (.getfield 7, 3) := DX9_sameAs_c0.2.2.2.2.2.2.1
theorem dX9_sameAs_9 : decode cX9_sameAs 9 = .ok (.iconst 3, 1) := DX9_sameAs_c0.2.2.2.2.2.2.2.1
theorem dX9_sameAs_10 : decode cX9_sameAs 10 = .ok (.iaload, 1) := DX9_sameAs_c0.2.2.2.2.2.2.2.2.1
theorem dX9_sameAs_11 : decode cX9_sameAs 11 = .ok (.if_icmp .ge 36, 3) := DX9_sameAs_c0.2.2.2.2.2.2.2.2.2
set_option maxRecDepth 100000 in
theorem DX9_sameAs_c1 : decode cX9_sameAs 14 = .ok (.iload_n 2, 1) ∧ decode cX9_sameAs 15 = .ok (.aload_n 0, 1) ∧ decode cX9_sameAs 16 = .ok (.getfield 7, 3) ∧ decode cX9_sameAs 19 = .ok (.iconst 4, 1) ∧ decode cX9_sameAs 20 = .ok (.iload_n 3, 1) ∧ decode cX9_sameAs 21 = .ok (.iadd, 1) ∧ decode cX9_sameAs 22 = .ok (.iaload, 1) ∧ decode cX9_sameAs 23 = .ok (.aload_n 0, 1) ∧ decode cX9_sameAs 24 = .ok (.getfield 7, 3) ∧ decode cX9_sameAs 27 = .ok (.iconst 4, 1) := by decide +kernel
theorem dX9_sameAs_14 : decode cX9_sameAs 14 = .ok (.iload_n 2, 1) := DX9_sameAs_c1.1
theorem dX9_sameAs_15 : decode cX9_sameAs 15 = .ok (.aload_n 0, 1) := DX9_sameAs_c1.2.1
theorem dX9_sameAs_16 : decode cX9_sameAs 16 = .ok (.getfield 7, 3) := DX9_sameAs_c1.2.2.1
theorem dX9_sameAs_19 : decode cX9_sameAs 19 = .ok (.iconst 4, 1) := DX9_sameAs_c1.2.2.2.1
theorem dX9_sameAs_20 : decode cX9_sameAs 20 = .ok (.iload_n 3, 1) := DX9_sameAs_c1.2.2.2.2.1
theorem dX9_sameAs_21 : decode cX9_sameAs 21 = .ok (.iadd, 1) := DX9_sameAs_c1.2.2.2.2.2.1
theorem dX9_sameAs_22 : decode cX9_sameAs 22 = .ok (.iaload, 1) := DX9_sameAs_c1.2.2.2.2.2.2.1
theorem dX9_sameAs_23 : decode cX9_sameAs 23 = .ok (.aload_n 0, 1) := DX9_sameAs_c1.2.2.2.2.2.2.2.1
theorem dX9_sameAs_24 : decode cX9_sameAs 24 = .ok (.getfield 7, 3) := DX9_sameAs_c1.2.2.2.2.2.2.2.2.1
theorem dX9_sameAs_27 : decode cX9_sameAs 27 = .ok (.iconst 4, 1) := DX9_sameAs_c1.2.2.2.2.2.2.2.2.2
set_option maxRecDepth 100000 in
theorem DX9_sameAs_c2 : decode cX9_sameAs 28 = .ok (.iload_n 1, 1) ∧ decode cX9_sameAs 29 = .ok (.iadd, 1) ∧ decode cX9_sameAs 30 = .ok (.iaload, 1) ∧ decode cX9_sameAs 31 = .ok (.if_icmp .ne 7, 3) ∧ decode cX9_sameAs 34 = .ok (.iconst 1, 1) ∧ decode cX9_sameAs 35 = .ok (.goto 4, 3) ∧ decode cX9_sameAs 38 = .ok (.iconst 0, 1) ∧ decode cX9_sameAs 39 = .ok (.iadd, 1) ∧ decode cX9_sameAs 40 = .ok (.istore_n 2, 1) ∧ decode cX9_sameAs 41 = .ok (.iinc 3 1, 3) := by decide +kernel
theorem dX9_sameAs_28 : decode cX9_sameAs 28 = .ok (.iload_n 1, 1) := DX9_sameAs_c2.1
theorem dX9_sameAs_29 : decode cX9_sameAs 29 = .ok (.iadd, 1) := DX9_sameAs_c2.2.1
theorem dX9_sameAs_30 : decode cX9_sameAs 30 = .ok (.iaload, 1) := DX9_sameAs_c2.2.2.1
theorem dX9_sameAs_31 : decode cX9_sameAs 31 = .ok (.if_icmp .ne 7, 3) := DX9_sameAs_c2.2.2.2.1
theorem dX9_sameAs_34 : decode cX9_sameAs 34 = .ok (.iconst 1, 1) := DX9_sameAs_c2.2.2.2.2.1
theorem dX9_sameAs_35 : decode cX9_sameAs 35 = .ok (.goto 4, 3) := DX9_sameAs_c2.2.2.2.2.2.1
theorem dX9_sameAs_38 : decode cX9_sameAs 38 = .ok (.iconst 0, 1) := DX9_sameAs_c2.2.2.2.2.2.2.1
theorem dX9_sameAs_39 : decode cX9_sameAs 39 = .ok (.iadd, 1) := DX9_sameAs_c2.2.2.2.2.2.2.2.1
theorem dX9_sameAs_40 : decode cX9_sameAs 40 = .ok (.istore_n 2, 1) := DX9_sameAs_c2.2.2.2.2.2.2.2.2.1
theorem dX9_sameAs_41 : decode cX9_sameAs 41 = .ok (.iinc 3 1, 3) := DX9_sameAs_c2.2.2.2.2.2.2.2.2.2
set_option maxRecDepth 100000 in
theorem DX9_sameAs_c3 : decode cX9_sameAs 44 = .ok (.goto (-40), 3) ∧ decode cX9_sameAs 47 = .ok (.iload_n 2, 1) ∧ decode cX9_sameAs 48 = .ok (.ireturn, 1) := by decide +kernel
theorem dX9_sameAs_44 : decode cX9_sameAs 44 = .ok (.goto (-40), 3) := DX9_sameAs_c3.1
theorem dX9_sameAs_47 : decode cX9_sameAs 47 = .ok (.iload_n 2, 1) := DX9_sameAs_c3.2.1
theorem dX9_sameAs_48 : decode cX9_sameAs 48 = .ok (.ireturn, 1) := DX9_sameAs_c3.2.2
set_option maxRecDepth 100000 in
theorem DX9_card_c0 : decode cX9_card 0 = .ok (.aload_n 0, 1) ∧ decode cX9_card 1 = .ok (.iload_n 1, 1) ∧ decode cX9_card 2 = .ok (.invokevirtual 192, 3) ∧ decode cX9_card 5 = .ok (.ifCond .eq 12, 3) ∧ decode cX9_card 8 = .ok (.iload_n 2, 1) ∧ decode cX9_card 9 = .ok (.iconst 0, 1) ∧ decode cX9_card 10 = .ok (.iconst 4, 1) ∧ decode cX9_card 11 = .ok (.invokestatic 50, 3) ∧ decode cX9_card 14 = .ok (.ifCond .ne 5, 3) ∧ decode cX9_card 17 = .ok (.iconst (-1), 1) := by decide +kernel
theorem dX9_card_0 : decode cX9_card 0 = .ok (.aload_n 0, 1) := DX9_card_c0.1
theorem dX9_card_1 : decode cX9_card 1 = .ok (.iload_n 1, 1) := DX9_card_c0.2.1
theorem dX9_card_2 : decode cX9_card 2 = .ok (.invokevirtual 192, 3) := DX9_card_c0.2.2.1
theorem dX9_card_5 : decode cX9_card 5 = .ok (.ifCond .eq 12, 3) := DX9_card_c0.2.2.2.1
theorem dX9_card_8 : decode cX9_card 8 = .ok (.iload_n 2, 1) := DX9_card_c0.2.2.2.2.1
theorem dX9_card_9 : decode cX9_card 9 = .ok (.iconst 0, 1) := DX9_card_c0.2.2.2.2.2.1
theorem dX9_card_10 : decode cX9_card 10 = .ok (.iconst 4, 1) := DX9_card_c0.2.2.2.2.2.2.1
theorem dX9_card_11 : decode cX9_card 11 = .ok (.invokestatic 50, 3) := DX9_card_c0.2.2.2.2.2.2.2.1
theorem dX9_card_14 : decode cX9_card 14 = .ok (.ifCond .ne 5, 3) := DX9_card_c0.2.2.2.2.2.2.2.2.1
theorem dX9_card_17 : decode cX9_card 17 = .ok (.iconst (-1), 1) := DX9_card_c0.2.2.2.2.2.2.2.2.2
set_option maxRecDepth 100000 in
theorem DX9_card_c1 : decode cX9_card 18 = .ok (.ireturn, 1) ∧ decode cX9_card 19 = .ok (.iload_n 2, 1) ∧ decode cX9_card 20 = .ok (.tableswitch 65 0 3 #[32, 41, 53, 59], 32) ∧ decode cX9_card 52 = .ok (.aload_n 0, 1) ∧ decode cX9_card 53 = .ok (.getfield 7, 3) ∧ decode cX9_card 56 = .ok (.iconst 4, 1) ∧ decode cX9_card 57 = .ok (.iload_n 1, 1) ∧ decode cX9_card 58 = .ok (.iadd, 1) ∧ decode cX9_card 59 = .ok (.iaload, 1) ∧ decode cX9_card 60 = .ok (.ireturn, 1) := by decide +kernel
theorem dX9_card_18 : decode cX9_card 18 = .ok (.ireturn, 1) := DX9_card_c1.1
theorem dX9_card_19 : decode cX9_card 19 = .ok (.iload_n 2, 1) := DX9_card_c1.2.1
theorem dX9_card_20 : decode cX9_card 20 = .ok (.tableswitch 65 0 3 #[32, 41, 53, 59], 32) := DX9_card_c1.2.2.1
theorem dX9_card_52 : decode cX9_card 52 = .ok (.aload_n 0, 1) := DX9_card_c1.2.2.2.1
theorem dX9_card_53 : decode cX9_card 53 = .ok (.getfield 7, 3) := DX9_card_c1.2.2.2.2.1
theorem dX9_card_56 : decode cX9_card 56 = .ok (.iconst 4, 1) := DX9_card_c1.2.2.2.2.2.1
theorem dX9_card_57 : decode cX9_card 57 = .ok (.iload_n 1, 1) := DX9_card_c1.2.2.2.2.2.2.1
theorem dX9_card_58 : decode cX9_card 58 = .ok (.iadd, 1) := DX9_card_c1.2.2.2.2.2.2.2.1
theorem dX9_card_59 : decode cX9_card 59 = .ok (.iaload, 1) := DX9_card_c1.2.2.2.2.2.2.2.2.1
theorem dX9_card_60 : decode cX9_card 60 = .ok (.ireturn, 1) := DX9_card_c1.2.2.2.2.2.2.2.2.2
set_option maxRecDepth 100000 in
theorem DX9_card_c2 : decode cX9_card 61 = .ok (.aload_n 0, 1) ∧ decode cX9_card 62 = .ok (.getfield 7, 3) ∧ decode cX9_card 65 = .ok (.iconst 4, 1) ∧ decode cX9_card 66 = .ok (.iload_n 1, 1) ∧ decode cX9_card 67 = .ok (.iadd, 1) ∧ decode cX9_card 68 = .ok (.iaload, 1) ∧ decode cX9_card 69 = .ok (.invokestatic 118, 3) ∧ decode cX9_card 72 = .ok (.ireturn, 1) ∧ decode cX9_card 73 = .ok (.aload_n 0, 1) ∧ decode cX9_card 74 = .ok (.iload_n 1, 1) := by decide +kernel
theorem dX9_card_61 : decode cX9_card 61 = .ok (.aload_n 0, 1) := DX9_card_c2.1
theorem dX9_card_62 : decode cX9_card 62 = .ok (.getfield 7, 3) := DX9_card_c2.2.1
theorem dX9_card_65 : decode cX9_card 65 = .ok (.iconst 4, 1) := DX9_card_c2.2.2.1
theorem dX9_card_66 : decode cX9_card 66 = .ok (.iload_n 1, 1) := DX9_card_c2.2.2.2.1
theorem dX9_card_67 : decode cX9_card 67 = .ok (.iadd, 1) := DX9_card_c2.2.2.2.2.1
theorem dX9_card_68 : decode cX9_card 68 = .ok (.iaload, 1) := DX9_card_c2.2.2.2.2.2.1
theorem dX9_card_69 : decode cX9_card 69 = .ok (.invokestatic 118, 3) := DX9_card_c2.2.2.2.2.2.2.1
theorem dX9_card_72 : decode cX9_card 72 = .ok (.ireturn, 1) := DX9_card_c2.2.2.2.2.2.2.2.1
theorem dX9_card_73 : decode cX9_card 73 = .ok (.aload_n 0, 1) := DX9_card_c2.2.2.2.2.2.2.2.2.1
theorem dX9_card_74 : decode cX9_card 74 = .ok (.iload_n 1, 1) := DX9_card_c2.2.2.2.2.2.2.2.2.2
set_option maxRecDepth 100000 in
theorem DX9_card_c3 : decode cX9_card 75 = .ok (.invokevirtual 205, 3) ∧ decode cX9_card 78 = .ok (.ireturn, 1) ∧ decode cX9_card 79 = .ok (.aload_n 0, 1) ∧ decode cX9_card 80 = .ok (.iload_n 1, 1) ∧ decode cX9_card 81 = .ok (.invokevirtual 208, 3) ∧ decode cX9_card 84 = .ok (.ireturn, 1) ∧ decode cX9_card 85 = .ok (.aload_n 0, 1) ∧ decode cX9_card 86 = .ok (.getfield 7, 3) ∧ decode cX9_card 89 = .ok (.iconst 3, 1) ∧ decode cX9_card 90 = .ok (.iaload, 1) := by decide +kernel
theorem dX9_card_75 : decode cX9_card 75 = .ok (.invokevirtual 205, 3) := DX9_card_c3.1
theorem dX9_card_78 : decode cX9_card 78 = .ok (.ireturn, 1) := DX9_card_c3.2.1
theorem dX9_card_79 : decode cX9_card 79 = .ok (.aload_n 0, 1) := DX9_card_c3.2.2.1
theorem dX9_card_80 : decode cX9_card 80 = .ok (.iload_n 1, 1) := DX9_card_c3.2.2.2.1
theorem dX9_card_81 : decode cX9_card 81 = .ok (.invokevirtual 208, 3) := DX9_card_c3.2.2.2.2.1
theorem dX9_card_84 : decode cX9_card 84 = .ok (.ireturn, 1) := DX9_card_c3.2.2.2.2.2.1
theorem dX9_card_85 : decode cX9_card 85 = .ok (.aload_n 0, 1) := DX9_card_c3.2.2.2.2.2.2.1
theorem dX9_card_86 : decode cX9_card 86 = .ok (.getfield 7, 3) := DX9_card_c3.2.2.2.2.2.2.2.1
theorem dX9_card_89 : decode cX9_card 89 = .ok (.iconst 3, 1) := DX9_card_c3.2.2.2.2.2.2.2.2.1
theorem dX9_card_90 : decode cX9_card 90 = .ok (.iaload, 1) := DX9_card_c3.2.2.2.2.2.2.2.2.2
set_option maxRecDepth 100000 in
theorem DX9_card_c4 : decode cX9_card 91 = .ok (.iconst 1, 1) ∧ decode cX9_card 92 = .ok (.if_icmp .ne 8, 3) ∧ decode cX9_card 95 = .ok (.bipush (-9), 2) ∧ decode cX9_card 97 = .ok (.goto 17, 3) ∧ decode cX9_card 100 = .ok (.aload_n 0, 1) ∧ decode cX9_card 101 = .ok (.aload_n 0, 1) ∧ decode cX9_card 102 = .ok (.invokevirtual 189, 3) ∧ decode cX9_card 105 = .ok (.iconst 1, 1) ∧ decode cX9_card 106 = .ok (.iload_n 1, 1) ∧ decode cX9_card 107 = .ok (.ishl, 1) := by decide +kernel
theorem dX9_card_91 : decode cX9_card 91 = .ok (.iconst 1, 1) := DX9_card_c4.1
theorem dX9_card_92 : decode cX9_card 92 = .ok (.if_icmp .ne 8, 3) := DX9_card_c4.2.1
theorem dX9_card_95 : decode cX9_card 95 = .ok (.bipush (-9), 2) := DX9_card_c4.2.2.1
theorem dX9_card_97 : decode cX9_card 97 = .ok (.goto 17, 3) := DX9_card_c4.2.2.2.1
theorem dX9_card_100 : decode cX9_card 100 = .ok (.aload_n 0, 1) := DX9_card_c4.2.2.2.2.1
theorem dX9_card_101 : decode cX9_card 101 = .ok (.aload_n 0, 1) := DX9_card_c4.2.2.2.2.2.1
theorem dX9_card_102 : decode cX9_card 102 = .ok (.invokevirtual 189, 3) := DX9_card_c4.2.2.2.2.2.2.1
theorem dX9_card_105 : decode cX9_card 105 = .ok (.iconst 1, 1) := DX9_card_c4.2.2.2.2.2.2.2.1
theorem dX9_card_106 : decode cX9_card 106 = .ok (.iload_n 1, 1) := DX9_card_c4.2.2.2.2.2.2.2.2.1
theorem dX9_card_107 : decode cX9_card 107 = .ok (.ishl, 1) := DX9_card_c4.2.2.2.2.2.2.2.2.2
set_option maxRecDepth 100000 in
theorem DX9_card_c5 : decode cX9_card 108 = .ok (.iconst (-1), 1) ∧ decode cX9_card 109 = .ok (.ixor, 1) ∧ decode cX9_card 110 = .ok (.iand, 1) ∧ decode cX9_card 111 = .ok (.invokevirtual 211, 3) ∧ decode cX9_card 114 = .ok (.ireturn, 1) := by decide +kernel
theorem dX9_card_108 : decode cX9_card 108 = .ok (.iconst (-1), 1) := DX9_card_c5.1
theorem dX9_card_109 : decode cX9_card 109 = .ok (.ixor, 1) := DX9_card_c5.2.1
theorem dX9_card_110 : decode cX9_card 110 = .ok (.iand, 1) := DX9_card_c5.2.2.1
theorem dX9_card_111 : decode cX9_card 111 = .ok (.invokevirtual 211, 3) := DX9_card_c5.2.2.2.1
theorem dX9_card_114 : decode cX9_card 114 = .ok (.ireturn, 1) := DX9_card_c5.2.2.2.2
set_option maxRecDepth 100000 in
theorem DX9_differentHeld_c0 : decode cX9_differentHeld 0 = .ok (.iconst 0, 1) ∧ decode cX9_differentHeld 1 = .ok (.istore_n 1, 1) ∧ decode cX9_differentHeld 2 = .ok (.iconst 0, 1) ∧ decode cX9_differentHeld 3 = .ok (.istore_n 2, 1) ∧ decode cX9_differentHeld 4 = .ok (.iload_n 2, 1) ∧ decode cX9_differentHeld 5 = .ok (.aload_n 0, 1) ∧ decode cX9_differentHeld 6 = .ok (.getfield 7, 3) ∧ decode cX9_differentHeld 9 = .ok (.iconst 3, 1) ∧ decode cX9_differentHeld 10 = .ok (.iaload, 1) ∧ decode cX9_differentHeld 11 = .ok (.if_icmp .ge 42, 3) := by decide +kernel
theorem dX9_differentHeld_0 : decode cX9_differentHeld 0 = .ok (.iconst 0, 1) := DX9_differentHeld_c0.1
theorem dX9_differentHeld_1 : decode cX9_differentHeld 1 = .ok (.istore_n 1, 1) := DX9_differentHeld_c0.2.1
theorem dX9_differentHeld_2 : decode cX9_differentHeld 2 = .ok (.iconst 0, 1) := DX9_differentHeld_c0.2.2.1
theorem dX9_differentHeld_3 : decode cX9_differentHeld 3 = .ok (.istore_n 2, 1) := DX9_differentHeld_c0.2.2.2.1
theorem dX9_differentHeld_4 : decode cX9_differentHeld 4 = .ok (.iload_n 2, 1) := DX9_differentHeld_c0.2.2.2.2.1
theorem dX9_differentHeld_5 : decode cX9_differentHeld 5 = .ok (.aload_n 0, 1) := DX9_differentHeld_c0.2.2.2.2.2.1
theorem dX9_differentHeld_6 : decode cX9_differentHeld 6 = .ok (.getfield 7, 3) := DX9_differentHeld_c0.2.2.2.2.2.2.1
theorem dX9_differentHeld_9 : decode cX9_differentHeld 9 = .ok (.iconst 3, 1) := DX9_differentHeld_c0.2.2.2.2.2.2.2.1
theorem dX9_differentHeld_10 : decode cX9_differentHeld 10 = .ok (.iaload, 1) := DX9_differentHeld_c0.2.2.2.2.2.2.2.2.1
theorem dX9_differentHeld_11 : decode cX9_differentHeld 11 = .ok (.if_icmp .ge 42, 3) := DX9_differentHeld_c0.2.2.2.2.2.2.2.2.2
set_option maxRecDepth 100000 in
theorem DX9_differentHeld_c1 : decode cX9_differentHeld 14 = .ok (.iload_n 1, 1) ∧ decode cX9_differentHeld 15 = .ok (.iload_n 2, 1) ∧ decode cX9_differentHeld 16 = .ok (.ifCond .eq 24, 3) ∧ decode cX9_differentHeld 19 = .ok (.aload_n 0, 1) ∧ decode cX9_differentHeld 20 = .ok (.getfield 7, 3) ∧ decode cX9_differentHeld 23 = .ok (.iconst 4, 1) ∧ decode cX9_differentHeld 24 = .ok (.iload_n 2, 1) ∧ decode cX9_differentHeld 25 = .ok (.iadd, 1) ∧ decode cX9_differentHeld 26 = .ok (.iaload, 1) ∧ decode cX9_differentHeld 27 = .ok (.aload_n 0, 1) := by decide +kernel
theorem dX9_differentHeld_14 : decode cX9_differentHeld 14 = .ok (.iload_n 1, 1) := DX9_differentHeld_c1.1
theorem dX9_differentHeld_15 : decode cX9_differentHeld 15 = .ok (.iload_n 2, 1) := DX9_differentHeld_c1.2.1
theorem dX9_differentHeld_16 : decode cX9_differentHeld 16 = .ok (.ifCond .eq 24, 3) := DX9_differentHeld_c1.2.2.1
theorem dX9_differentHeld_19 : decode cX9_differentHeld 19 = .ok (.aload_n 0, 1) := DX9_differentHeld_c1.2.2.2.1
theorem dX9_differentHeld_20 : decode cX9_differentHeld 20 = .ok (.getfield 7, 3) := DX9_differentHeld_c1.2.2.2.2.1
theorem dX9_differentHeld_23 : decode cX9_differentHeld 23 = .ok (.iconst 4, 1) := DX9_differentHeld_c1.2.2.2.2.2.1
theorem dX9_differentHeld_24 : decode cX9_differentHeld 24 = .ok (.iload_n 2, 1) := DX9_differentHeld_c1.2.2.2.2.2.2.1
theorem dX9_differentHeld_25 : decode cX9_differentHeld 25 = .ok (.iadd, 1) := DX9_differentHeld_c1.2.2.2.2.2.2.2.1
theorem dX9_differentHeld_26 : decode cX9_differentHeld 26 = .ok (.iaload, 1) := DX9_differentHeld_c1.2.2.2.2.2.2.2.2.1
theorem dX9_differentHeld_27 : decode cX9_differentHeld 27 = .ok (.aload_n 0, 1) := DX9_differentHeld_c1.2.2.2.2.2.2.2.2.2
set_option maxRecDepth 100000 in
theorem DX9_differentHeld_c2 : decode cX9_differentHeld 28 = .ok (.getfield 7, 3) ∧ decode cX9_differentHeld 31 = .ok (.iconst 4, 1) ∧ decode cX9_differentHeld 32 = .ok (.iload_n 2, 1) ∧ decode cX9_differentHeld 33 = .ok (.iadd, 1) ∧ decode cX9_differentHeld 34 = .ok (.iconst 1, 1) ∧ decode cX9_differentHeld 35 = .ok (.isub, 1) ∧ decode cX9_differentHeld 36 = .ok (.iaload, 1) ∧ decode cX9_differentHeld 37 = .ok (.if_icmp .eq 7, 3) ∧ decode cX9_differentHeld 40 = .ok (.iconst 1, 1) ∧ decode cX9_differentHeld 41 = .ok (.goto 4, 3) := by decide +kernel
theorem dX9_differentHeld_28 : decode cX9_differentHeld 28 = .ok (.getfield 7, 3) := DX9_differentHeld_c2.1
theorem dX9_differentHeld_31 : decode cX9_differentHeld 31 = .ok (.iconst 4, 1) := DX9_differentHeld_c2.2.1
theorem dX9_differentHeld_32 : decode cX9_differentHeld 32 = .ok (.iload_n 2, 1) := DX9_differentHeld_c2.2.2.1
theorem dX9_differentHeld_33 : decode cX9_differentHeld 33 = .ok (.iadd, 1) := DX9_differentHeld_c2.2.2.2.1
theorem dX9_differentHeld_34 : decode cX9_differentHeld 34 = .ok (.iconst 1, 1) := DX9_differentHeld_c2.2.2.2.2.1
theorem dX9_differentHeld_35 : decode cX9_differentHeld 35 = .ok (.isub, 1) := DX9_differentHeld_c2.2.2.2.2.2.1
theorem dX9_differentHeld_36 : decode cX9_differentHeld 36 = .ok (.iaload, 1) := DX9_differentHeld_c2.2.2.2.2.2.2.1
theorem dX9_differentHeld_37 : decode cX9_differentHeld 37 = .ok (.if_icmp .eq 7, 3) := DX9_differentHeld_c2.2.2.2.2.2.2.2.1
theorem dX9_differentHeld_40 : decode cX9_differentHeld 40 = .ok (.iconst 1, 1) := DX9_differentHeld_c2.2.2.2.2.2.2.2.2.1
theorem dX9_differentHeld_41 : decode cX9_differentHeld 41 = .ok (.goto 4, 3) := DX9_differentHeld_c2.2.2.2.2.2.2.2.2.2
set_option maxRecDepth 100000 in
theorem DX9_differentHeld_c3 : decode cX9_differentHeld 44 = .ok (.iconst 0, 1) ∧ decode cX9_differentHeld 45 = .ok (.iadd, 1) ∧ decode cX9_differentHeld 46 = .ok (.istore_n 1, 1) ∧ decode cX9_differentHeld 47 = .ok (.iinc 2 1, 3) ∧ decode cX9_differentHeld 50 = .ok (.goto (-46), 3) ∧ decode cX9_differentHeld 53 = .ok (.iload_n 1, 1) ∧ decode cX9_differentHeld 54 = .ok (.ireturn, 1) := by decide +kernel
theorem dX9_differentHeld_44 : decode cX9_differentHeld 44 = .ok (.iconst 0, 1) := DX9_differentHeld_c3.1
theorem dX9_differentHeld_45 : decode cX9_differentHeld 45 = .ok (.iadd, 1) := DX9_differentHeld_c3.2.1
theorem dX9_differentHeld_46 : decode cX9_differentHeld 46 = .ok (.istore_n 1, 1) := DX9_differentHeld_c3.2.2.1
theorem dX9_differentHeld_47 : decode cX9_differentHeld 47 = .ok (.iinc 2 1, 3) := DX9_differentHeld_c3.2.2.2.1
theorem dX9_differentHeld_50 : decode cX9_differentHeld 50 = .ok (.goto (-46), 3) := DX9_differentHeld_c3.2.2.2.2.1
theorem dX9_differentHeld_53 : decode cX9_differentHeld 53 = .ok (.iload_n 1, 1) := DX9_differentHeld_c3.2.2.2.2.2.1
theorem dX9_differentHeld_54 : decode cX9_differentHeld 54 = .ok (.ireturn, 1) := DX9_differentHeld_c3.2.2.2.2.2.2
set_option maxRecDepth 100000 in
theorem DX9_areDegreesIn_c0 : decode cX9_areDegreesIn 0 = .ok (.iconst 0, 1) ∧ decode cX9_areDegreesIn 1 = .ok (.istore_n 1, 1) ∧ decode cX9_areDegreesIn 2 = .ok (.iload_n 1, 1) ∧ decode cX9_areDegreesIn 3 = .ok (.aload_n 0, 1) ∧ decode cX9_areDegreesIn 4 = .ok (.getfield 7, 3) ∧ decode cX9_areDegreesIn 7 = .ok (.iconst 3, 1) ∧ decode cX9_areDegreesIn 8 = .ok (.iaload, 1) ∧ decode cX9_areDegreesIn 9 = .ok (.if_icmp .ge 31, 3) ∧ decode cX9_areDegreesIn 12 = .ok (.aload_n 0, 1) ∧ decode cX9_areDegreesIn 13 = .ok (.iload_n 1, 1) := by decide +kernel
theorem dX9_areDegreesIn_0 : decode cX9_areDegreesIn 0 = .ok (.iconst 0, 1) := DX9_areDegreesIn_c0.1
theorem dX9_areDegreesIn_1 : decode cX9_areDegreesIn 1 = .ok (.istore_n 1, 1) := DX9_areDegreesIn_c0.2.1
theorem dX9_areDegreesIn_2 : decode cX9_areDegreesIn 2 = .ok (.iload_n 1, 1) := DX9_areDegreesIn_c0.2.2.1
theorem dX9_areDegreesIn_3 : decode cX9_areDegreesIn 3 = .ok (.aload_n 0, 1) := DX9_areDegreesIn_c0.2.2.2.1
theorem dX9_areDegreesIn_4 : decode cX9_areDegreesIn 4 = .ok (.getfield 7, 3) := DX9_areDegreesIn_c0.2.2.2.2.1
theorem dX9_areDegreesIn_7 : decode cX9_areDegreesIn 7 = .ok (.iconst 3, 1) := DX9_areDegreesIn_c0.2.2.2.2.2.1
theorem dX9_areDegreesIn_8 : decode cX9_areDegreesIn 8 = .ok (.iaload, 1) := DX9_areDegreesIn_c0.2.2.2.2.2.2.1
theorem dX9_areDegreesIn_9 : decode cX9_areDegreesIn 9 = .ok (.if_icmp .ge 31, 3) := DX9_areDegreesIn_c0.2.2.2.2.2.2.2.1
theorem dX9_areDegreesIn_12 : decode cX9_areDegreesIn 12 = .ok (.aload_n 0, 1) := DX9_areDegreesIn_c0.2.2.2.2.2.2.2.2.1
theorem dX9_areDegreesIn_13 : decode cX9_areDegreesIn 13 = .ok (.iload_n 1, 1) := DX9_areDegreesIn_c0.2.2.2.2.2.2.2.2.2
set_option maxRecDepth 100000 in
theorem DX9_areDegreesIn_c1 : decode cX9_areDegreesIn 14 = .ok (.invokevirtual 208, 3) ∧ decode cX9_areDegreesIn 17 = .ok (.iconst 0, 1) ∧ decode cX9_areDegreesIn 18 = .ok (.aload_n 0, 1) ∧ decode cX9_areDegreesIn 19 = .ok (.getfield 7, 3) ∧ decode cX9_areDegreesIn 22 = .ok (.iconst 2, 1) ∧ decode cX9_areDegreesIn 23 = .ok (.iaload, 1) ∧ decode cX9_areDegreesIn 24 = .ok (.iconst 1, 1) ∧ decode cX9_areDegreesIn 25 = .ok (.isub, 1) ∧ decode cX9_areDegreesIn 26 = .ok (.invokestatic 50, 3) ∧ decode cX9_areDegreesIn 29 = .ok (.ifCond .ne 5, 3) := by decide +kernel
theorem dX9_areDegreesIn_14 : decode cX9_areDegreesIn 14 = .ok (.invokevirtual 208, 3) := DX9_areDegreesIn_c1.1
theorem dX9_areDegreesIn_17 : decode cX9_areDegreesIn 17 = .ok (.iconst 0, 1) := DX9_areDegreesIn_c1.2.1
theorem dX9_areDegreesIn_18 : decode cX9_areDegreesIn 18 = .ok (.aload_n 0, 1) := DX9_areDegreesIn_c1.2.2.1
theorem dX9_areDegreesIn_19 : decode cX9_areDegreesIn 19 = .ok (.getfield 7, 3) := DX9_areDegreesIn_c1.2.2.2.1
theorem dX9_areDegreesIn_22 : decode cX9_areDegreesIn 22 = .ok (.iconst 2, 1) := DX9_areDegreesIn_c1.2.2.2.2.1
theorem dX9_areDegreesIn_23 : decode cX9_areDegreesIn 23 = .ok (.iaload, 1) := DX9_areDegreesIn_c1.2.2.2.2.2.1
theorem dX9_areDegreesIn_24 : decode cX9_areDegreesIn 24 = .ok (.iconst 1, 1) := DX9_areDegreesIn_c1.2.2.2.2.2.2.1
theorem dX9_areDegreesIn_25 : decode cX9_areDegreesIn 25 = .ok (.isub, 1) := DX9_areDegreesIn_c1.2.2.2.2.2.2.2.1
theorem dX9_areDegreesIn_26 : decode cX9_areDegreesIn 26 = .ok (.invokestatic 50, 3) := DX9_areDegreesIn_c1.2.2.2.2.2.2.2.2.1
theorem dX9_areDegreesIn_29 : decode cX9_areDegreesIn 29 = .ok (.ifCond .ne 5, 3) := DX9_areDegreesIn_c1.2.2.2.2.2.2.2.2.2
set_option maxRecDepth 100000 in
theorem DX9_areDegreesIn_c2 : decode cX9_areDegreesIn 32 = .ok (.iconst 0, 1) ∧ decode cX9_areDegreesIn 33 = .ok (.ireturn, 1) ∧ decode cX9_areDegreesIn 34 = .ok (.iinc 1 1, 3) ∧ decode cX9_areDegreesIn 37 = .ok (.goto (-35), 3) ∧ decode cX9_areDegreesIn 40 = .ok (.iconst 1, 1) ∧ decode cX9_areDegreesIn 41 = .ok (.ireturn, 1) := by decide +kernel
theorem dX9_areDegreesIn_32 : decode cX9_areDegreesIn 32 = .ok (.iconst 0, 1) := DX9_areDegreesIn_c2.1
theorem dX9_areDegreesIn_33 : decode cX9_areDegreesIn 33 = .ok (.ireturn, 1) := DX9_areDegreesIn_c2.2.1
theorem dX9_areDegreesIn_34 : decode cX9_areDegreesIn 34 = .ok (.iinc 1 1, 3) := DX9_areDegreesIn_c2.2.2.1
theorem dX9_areDegreesIn_37 : decode cX9_areDegreesIn 37 = .ok (.goto (-35), 3) := DX9_areDegreesIn_c2.2.2.2.1
theorem dX9_areDegreesIn_40 : decode cX9_areDegreesIn 40 = .ok (.iconst 1, 1) := DX9_areDegreesIn_c2.2.2.2.2.1
theorem dX9_areDegreesIn_41 : decode cX9_areDegreesIn 41 = .ok (.ireturn, 1) := DX9_areDegreesIn_c2.2.2.2.2.2
set_option maxRecDepth 100000 in
theorem DX9_isGraphic_c0 : decode cX9_isGraphic 0 = .ok (.iconst 0, 1) ∧ decode cX9_isGraphic 1 = .ok (.istore_n 1, 1) ∧ decode cX9_isGraphic 2 = .ok (.iload_n 1, 1) ∧ decode cX9_isGraphic 3 = .ok (.aload_n 0, 1) ∧ decode cX9_isGraphic 4 = .ok (.getfield 7, 3) ∧ decode cX9_isGraphic 7 = .ok (.iconst 3, 1) ∧ decode cX9_isGraphic 8 = .ok (.iaload, 1) ∧ decode cX9_isGraphic 9 = .ok (.if_icmp .ge 60, 3) ∧ decode cX9_isGraphic 12 = .ok (.aload_n 0, 1) ∧ decode cX9_isGraphic 13 = .ok (.iload_n 1, 1) := by decide +kernel
theorem dX9_isGraphic_0 : decode cX9_isGraphic 0 = .ok (.iconst 0, 1) := DX9_isGraphic_c0.1
theorem dX9_isGraphic_1 : decode cX9_isGraphic 1 = .ok (.istore_n 1, 1) := DX9_isGraphic_c0.2.1
theorem dX9_isGraphic_2 : decode cX9_isGraphic 2 = .ok (.iload_n 1, 1) := DX9_isGraphic_c0.2.2.1
theorem dX9_isGraphic_3 : decode cX9_isGraphic 3 = .ok (.aload_n 0, 1) := DX9_isGraphic_c0.2.2.2.1
theorem dX9_isGraphic_4 : decode cX9_isGraphic 4 = .ok (.getfield 7, 3) := DX9_isGraphic_c0.2.2.2.2.1
theorem dX9_isGraphic_7 : decode cX9_isGraphic 7 = .ok (.iconst 3, 1) := DX9_isGraphic_c0.2.2.2.2.2.1
theorem dX9_isGraphic_8 : decode cX9_isGraphic 8 = .ok (.iaload, 1) := DX9_isGraphic_c0.2.2.2.2.2.2.1
theorem dX9_isGraphic_9 : decode cX9_isGraphic 9 = .ok (.if_icmp .ge 60, 3) := DX9_isGraphic_c0.2.2.2.2.2.2.2.1
theorem dX9_isGraphic_12 : decode cX9_isGraphic 12 = .ok (.aload_n 0, 1) := DX9_isGraphic_c0.2.2.2.2.2.2.2.2.1
theorem dX9_isGraphic_13 : decode cX9_isGraphic 13 = .ok (.iload_n 1, 1) := DX9_isGraphic_c0.2.2.2.2.2.2.2.2.2
set_option maxRecDepth 100000 in
theorem DX9_isGraphic_c1 : decode cX9_isGraphic 14 = .ok (.invokevirtual 208, 3) ∧ decode cX9_isGraphic 17 = .ok (.istore_n 2, 1) ∧ decode cX9_isGraphic 18 = .ok (.iload_n 1, 1) ∧ decode cX9_isGraphic 19 = .ok (.istore_n 3, 1) ∧ decode cX9_isGraphic 20 = .ok (.iload_n 3, 1) ∧ decode cX9_isGraphic 21 = .ok (.ifCond .le 35, 3) ∧ decode cX9_isGraphic 24 = .ok (.aload_n 0, 1) ∧ decode cX9_isGraphic 25 = .ok (.getfield 44, 3) ∧ decode cX9_isGraphic 28 = .ok (.iload_n 3, 1) ∧ decode cX9_isGraphic 29 = .ok (.iconst 1, 1) := by decide +kernel
theorem dX9_isGraphic_14 : decode cX9_isGraphic 14 = .ok (.invokevirtual 208, 3) := DX9_isGraphic_c1.1
theorem dX9_isGraphic_17 : decode cX9_isGraphic 17 = .ok (.istore_n 2, 1) := DX9_isGraphic_c1.2.1
theorem dX9_isGraphic_18 : decode cX9_isGraphic 18 = .ok (.iload_n 1, 1) := DX9_isGraphic_c1.2.2.1
theorem dX9_isGraphic_19 : decode cX9_isGraphic 19 = .ok (.istore_n 3, 1) := DX9_isGraphic_c1.2.2.2.1
theorem dX9_isGraphic_20 : decode cX9_isGraphic 20 = .ok (.iload_n 3, 1) := DX9_isGraphic_c1.2.2.2.2.1
theorem dX9_isGraphic_21 : decode cX9_isGraphic 21 = .ok (.ifCond .le 35, 3) := DX9_isGraphic_c1.2.2.2.2.2.1
theorem dX9_isGraphic_24 : decode cX9_isGraphic 24 = .ok (.aload_n 0, 1) := DX9_isGraphic_c1.2.2.2.2.2.2.1
theorem dX9_isGraphic_25 : decode cX9_isGraphic 25 = .ok (.getfield 44, 3) := DX9_isGraphic_c1.2.2.2.2.2.2.2.1
theorem dX9_isGraphic_28 : decode cX9_isGraphic 28 = .ok (.iload_n 3, 1) := DX9_isGraphic_c1.2.2.2.2.2.2.2.2.1
theorem dX9_isGraphic_29 : decode cX9_isGraphic 29 = .ok (.iconst 1, 1) := DX9_isGraphic_c1.2.2.2.2.2.2.2.2.2
set_option maxRecDepth 100000 in
theorem DX9_isGraphic_c2 : decode cX9_isGraphic 30 = .ok (.isub, 1) ∧ decode cX9_isGraphic 31 = .ok (.iaload, 1) ∧ decode cX9_isGraphic 32 = .ok (.iload_n 2, 1) ∧ decode cX9_isGraphic 33 = .ok (.if_icmp .ge 23, 3) ∧ decode cX9_isGraphic 36 = .ok (.aload_n 0, 1) ∧ decode cX9_isGraphic 37 = .ok (.getfield 44, 3) ∧ decode cX9_isGraphic 40 = .ok (.iload_n 3, 1) ∧ decode cX9_isGraphic 41 = .ok (.aload_n 0, 1) ∧ decode cX9_isGraphic 42 = .ok (.getfield 44, 3) ∧ decode cX9_isGraphic 45 = .ok (.iload_n 3, 1) := by decide +kernel
theorem dX9_isGraphic_30 : decode cX9_isGraphic 30 = .ok (.isub, 1) := DX9_isGraphic_c2.1
theorem dX9_isGraphic_31 : decode cX9_isGraphic 31 = .ok (.iaload, 1) := DX9_isGraphic_c2.2.1
theorem dX9_isGraphic_32 : decode cX9_isGraphic 32 = .ok (.iload_n 2, 1) := DX9_isGraphic_c2.2.2.1
theorem dX9_isGraphic_33 : decode cX9_isGraphic 33 = .ok (.if_icmp .ge 23, 3) := DX9_isGraphic_c2.2.2.2.1
theorem dX9_isGraphic_36 : decode cX9_isGraphic 36 = .ok (.aload_n 0, 1) := DX9_isGraphic_c2.2.2.2.2.1
theorem dX9_isGraphic_37 : decode cX9_isGraphic 37 = .ok (.getfield 44, 3) := DX9_isGraphic_c2.2.2.2.2.2.1
theorem dX9_isGraphic_40 : decode cX9_isGraphic 40 = .ok (.iload_n 3, 1) := DX9_isGraphic_c2.2.2.2.2.2.2.1
theorem dX9_isGraphic_41 : decode cX9_isGraphic 41 = .ok (.aload_n 0, 1) := DX9_isGraphic_c2.2.2.2.2.2.2.2.1
theorem dX9_isGraphic_42 : decode cX9_isGraphic 42 = .ok (.getfield 44, 3) := DX9_isGraphic_c2.2.2.2.2.2.2.2.2.1
theorem dX9_isGraphic_45 : decode cX9_isGraphic 45 = .ok (.iload_n 3, 1) := DX9_isGraphic_c2.2.2.2.2.2.2.2.2.2
set_option maxRecDepth 100000 in
theorem DX9_isGraphic_c3 : decode cX9_isGraphic 46 = .ok (.iconst 1, 1) ∧ decode cX9_isGraphic 47 = .ok (.isub, 1) ∧ decode cX9_isGraphic 48 = .ok (.iaload, 1) ∧ decode cX9_isGraphic 49 = .ok (.iastore, 1) ∧ decode cX9_isGraphic 50 = .ok (.iinc 3 (-1), 3) ∧ decode cX9_isGraphic 53 = .ok (.goto (-33), 3) ∧ decode cX9_isGraphic 56 = .ok (.aload_n 0, 1) ∧ decode cX9_isGraphic 57 = .ok (.getfield 44, 3) ∧ decode cX9_isGraphic 60 = .ok (.iload_n 3, 1) ∧ decode cX9_isGraphic 61 = .ok (.iload_n 2, 1) := by decide +kernel
theorem dX9_isGraphic_46 : decode cX9_isGraphic 46 = .ok (.iconst 1, 1) := DX9_isGraphic_c3.1
theorem dX9_isGraphic_47 : decode cX9_isGraphic 47 = .ok (.isub, 1) := DX9_isGraphic_c3.2.1
theorem dX9_isGraphic_48 : decode cX9_isGraphic 48 = .ok (.iaload, 1) := DX9_isGraphic_c3.2.2.1
theorem dX9_isGraphic_49 : decode cX9_isGraphic 49 = .ok (.iastore, 1) := DX9_isGraphic_c3.2.2.2.1
theorem dX9_isGraphic_50 : decode cX9_isGraphic 50 = .ok (.iinc 3 (-1), 3) := DX9_isGraphic_c3.2.2.2.2.1
theorem dX9_isGraphic_53 : decode cX9_isGraphic 53 = .ok (.goto (-33), 3) := DX9_isGraphic_c3.2.2.2.2.2.1
theorem dX9_isGraphic_56 : decode cX9_isGraphic 56 = .ok (.aload_n 0, 1) := DX9_isGraphic_c3.2.2.2.2.2.2.1
theorem dX9_isGraphic_57 : decode cX9_isGraphic 57 = .ok (.getfield 44, 3) := DX9_isGraphic_c3.2.2.2.2.2.2.2.1
theorem dX9_isGraphic_60 : decode cX9_isGraphic 60 = .ok (.iload_n 3, 1) := DX9_isGraphic_c3.2.2.2.2.2.2.2.2.1
theorem dX9_isGraphic_61 : decode cX9_isGraphic 61 = .ok (.iload_n 2, 1) := DX9_isGraphic_c3.2.2.2.2.2.2.2.2.2
set_option maxRecDepth 100000 in
theorem DX9_isGraphic_c4 : decode cX9_isGraphic 62 = .ok (.iastore, 1) ∧ decode cX9_isGraphic 63 = .ok (.iinc 1 1, 3) ∧ decode cX9_isGraphic 66 = .ok (.goto (-64), 3) ∧ decode cX9_isGraphic 69 = .ok (.iconst 0, 1) ∧ decode cX9_isGraphic 70 = .ok (.istore_n 1, 1) ∧ decode cX9_isGraphic 71 = .ok (.iconst 1, 1) ∧ decode cX9_isGraphic 72 = .ok (.istore_n 2, 1) ∧ decode cX9_isGraphic 73 = .ok (.iload_n 2, 1) ∧ decode cX9_isGraphic 74 = .ok (.aload_n 0, 1) ∧ decode cX9_isGraphic 75 = .ok (.getfield 7, 3) := by decide +kernel
theorem dX9_isGraphic_62 : decode cX9_isGraphic 62 = .ok (.iastore, 1) := DX9_isGraphic_c4.1
theorem dX9_isGraphic_63 : decode cX9_isGraphic 63 = .ok (.iinc 1 1, 3) := DX9_isGraphic_c4.2.1
theorem dX9_isGraphic_66 : decode cX9_isGraphic 66 = .ok (.goto (-64), 3) := DX9_isGraphic_c4.2.2.1
theorem dX9_isGraphic_69 : decode cX9_isGraphic 69 = .ok (.iconst 0, 1) := DX9_isGraphic_c4.2.2.2.1
theorem dX9_isGraphic_70 : decode cX9_isGraphic 70 = .ok (.istore_n 1, 1) := DX9_isGraphic_c4.2.2.2.2.1
theorem dX9_isGraphic_71 : decode cX9_isGraphic 71 = .ok (.iconst 1, 1) := DX9_isGraphic_c4.2.2.2.2.2.1
theorem dX9_isGraphic_72 : decode cX9_isGraphic 72 = .ok (.istore_n 2, 1) := DX9_isGraphic_c4.2.2.2.2.2.2.1
theorem dX9_isGraphic_73 : decode cX9_isGraphic 73 = .ok (.iload_n 2, 1) := DX9_isGraphic_c4.2.2.2.2.2.2.2.1
theorem dX9_isGraphic_74 : decode cX9_isGraphic 74 = .ok (.aload_n 0, 1) := DX9_isGraphic_c4.2.2.2.2.2.2.2.2.1
theorem dX9_isGraphic_75 : decode cX9_isGraphic 75 = .ok (.getfield 7, 3) := DX9_isGraphic_c4.2.2.2.2.2.2.2.2.2
set_option maxRecDepth 100000 in
theorem DX9_isGraphic_c5 : decode cX9_isGraphic 78 = .ok (.iconst 2, 1) ∧ decode cX9_isGraphic 79 = .ok (.iaload, 1) ∧ decode cX9_isGraphic 80 = .ok (.if_icmp .gt 78, 3) ∧ decode cX9_isGraphic 83 = .ok (.iload_n 1, 1) ∧ decode cX9_isGraphic 84 = .ok (.aload_n 0, 1) ∧ decode cX9_isGraphic 85 = .ok (.getfield 44, 3) ∧ decode cX9_isGraphic 88 = .ok (.iload_n 2, 1) ∧ decode cX9_isGraphic 89 = .ok (.iconst 1, 1) ∧ decode cX9_isGraphic 90 = .ok (.isub, 1) ∧ decode cX9_isGraphic 91 = .ok (.iaload, 1) := by decide +kernel
theorem dX9_isGraphic_78 : decode cX9_isGraphic 78 = .ok (.iconst 2, 1) := DX9_isGraphic_c5.1
theorem dX9_isGraphic_79 : decode cX9_isGraphic 79 = .ok (.iaload, 1) := DX9_isGraphic_c5.2.1
theorem dX9_isGraphic_80 : decode cX9_isGraphic 80 = .ok (.if_icmp .gt 78, 3) := DX9_isGraphic_c5.2.2.1
theorem dX9_isGraphic_83 : decode cX9_isGraphic 83 = .ok (.iload_n 1, 1) := DX9_isGraphic_c5.2.2.2.1
theorem dX9_isGraphic_84 : decode cX9_isGraphic 84 = .ok (.aload_n 0, 1) := DX9_isGraphic_c5.2.2.2.2.1
theorem dX9_isGraphic_85 : decode cX9_isGraphic 85 = .ok (.getfield 44, 3) := DX9_isGraphic_c5.2.2.2.2.2.1
theorem dX9_isGraphic_88 : decode cX9_isGraphic 88 = .ok (.iload_n 2, 1) := DX9_isGraphic_c5.2.2.2.2.2.2.1
theorem dX9_isGraphic_89 : decode cX9_isGraphic 89 = .ok (.iconst 1, 1) := DX9_isGraphic_c5.2.2.2.2.2.2.2.1
theorem dX9_isGraphic_90 : decode cX9_isGraphic 90 = .ok (.isub, 1) := DX9_isGraphic_c5.2.2.2.2.2.2.2.2.1
theorem dX9_isGraphic_91 : decode cX9_isGraphic 91 = .ok (.iaload, 1) := DX9_isGraphic_c5.2.2.2.2.2.2.2.2.2
set_option maxRecDepth 100000 in
theorem DX9_isGraphic_c6 : decode cX9_isGraphic 92 = .ok (.iadd, 1) ∧ decode cX9_isGraphic 93 = .ok (.istore_n 1, 1) ∧ decode cX9_isGraphic 94 = .ok (.iload_n 2, 1) ∧ decode cX9_isGraphic 95 = .ok (.iload_n 2, 1) ∧ decode cX9_isGraphic 96 = .ok (.iconst 1, 1) ∧ decode cX9_isGraphic 97 = .ok (.isub, 1) ∧ decode cX9_isGraphic 98 = .ok (.imul, 1) ∧ decode cX9_isGraphic 99 = .ok (.istore_n 3, 1) ∧ decode cX9_isGraphic 100 = .ok (.iload_n 2, 1) ∧ decode cX9_isGraphic 101 = .ok (.istore 4, 2) := by decide +kernel
theorem dX9_isGraphic_92 : decode cX9_isGraphic 92 = .ok (.iadd, 1) := DX9_isGraphic_c6.1
theorem dX9_isGraphic_93 : decode cX9_isGraphic 93 = .ok (.istore_n 1, 1) := DX9_isGraphic_c6.2.1
theorem dX9_isGraphic_94 : decode cX9_isGraphic 94 = .ok (.iload_n 2, 1) := DX9_isGraphic_c6.2.2.1
theorem dX9_isGraphic_95 : decode cX9_isGraphic 95 = .ok (.iload_n 2, 1) := DX9_isGraphic_c6.2.2.2.1
theorem dX9_isGraphic_96 : decode cX9_isGraphic 96 = .ok (.iconst 1, 1) := DX9_isGraphic_c6.2.2.2.2.1
theorem dX9_isGraphic_97 : decode cX9_isGraphic 97 = .ok (.isub, 1) := DX9_isGraphic_c6.2.2.2.2.2.1
theorem dX9_isGraphic_98 : decode cX9_isGraphic 98 = .ok (.imul, 1) := DX9_isGraphic_c6.2.2.2.2.2.2.1
theorem dX9_isGraphic_99 : decode cX9_isGraphic 99 = .ok (.istore_n 3, 1) := DX9_isGraphic_c6.2.2.2.2.2.2.2.1
theorem dX9_isGraphic_100 : decode cX9_isGraphic 100 = .ok (.iload_n 2, 1) := DX9_isGraphic_c6.2.2.2.2.2.2.2.2.1
theorem dX9_isGraphic_101 : decode cX9_isGraphic 101 = .ok (.istore 4, 2) := DX9_isGraphic_c6.2.2.2.2.2.2.2.2.2
set_option maxRecDepth 100000 in
theorem DX9_isGraphic_c7 : decode cX9_isGraphic 103 = .ok (.iload 4, 2) ∧ decode cX9_isGraphic 105 = .ok (.aload_n 0, 1) ∧ decode cX9_isGraphic 106 = .ok (.getfield 7, 3) ∧ decode cX9_isGraphic 109 = .ok (.iconst 2, 1) ∧ decode cX9_isGraphic 110 = .ok (.iaload, 1) ∧ decode cX9_isGraphic 111 = .ok (.if_icmp .ge 34, 3) ∧ decode cX9_isGraphic 114 = .ok (.iload_n 3, 1) ∧ decode cX9_isGraphic 115 = .ok (.aload_n 0, 1) ∧ decode cX9_isGraphic 116 = .ok (.getfield 44, 3) ∧ decode cX9_isGraphic 119 = .ok (.iload 4, 2) := by decide +kernel
theorem dX9_isGraphic_103 : decode cX9_isGraphic 103 = .ok (.iload 4, 2) := DX9_isGraphic_c7.1
theorem dX9_isGraphic_105 : decode cX9_isGraphic 105 = .ok (.aload_n 0, 1) := DX9_isGraphic_c7.2.1
theorem dX9_isGraphic_106 : decode cX9_isGraphic 106 = .ok (.getfield 7, 3) := DX9_isGraphic_c7.2.2.1
theorem dX9_isGraphic_109 : decode cX9_isGraphic 109 = .ok (.iconst 2, 1) := DX9_isGraphic_c7.2.2.2.1
theorem dX9_isGraphic_110 : decode cX9_isGraphic 110 = .ok (.iaload, 1) := DX9_isGraphic_c7.2.2.2.2.1
theorem dX9_isGraphic_111 : decode cX9_isGraphic 111 = .ok (.if_icmp .ge 34, 3) := DX9_isGraphic_c7.2.2.2.2.2.1
theorem dX9_isGraphic_114 : decode cX9_isGraphic 114 = .ok (.iload_n 3, 1) := DX9_isGraphic_c7.2.2.2.2.2.2.1
theorem dX9_isGraphic_115 : decode cX9_isGraphic 115 = .ok (.aload_n 0, 1) := DX9_isGraphic_c7.2.2.2.2.2.2.2.1
theorem dX9_isGraphic_116 : decode cX9_isGraphic 116 = .ok (.getfield 44, 3) := DX9_isGraphic_c7.2.2.2.2.2.2.2.2.1
theorem dX9_isGraphic_119 : decode cX9_isGraphic 119 = .ok (.iload 4, 2) := DX9_isGraphic_c7.2.2.2.2.2.2.2.2.2
set_option maxRecDepth 100000 in
theorem DX9_isGraphic_c8 : decode cX9_isGraphic 121 = .ok (.iaload, 1) ∧ decode cX9_isGraphic 122 = .ok (.iload_n 2, 1) ∧ decode cX9_isGraphic 123 = .ok (.if_icmp .ge 13, 3) ∧ decode cX9_isGraphic 126 = .ok (.aload_n 0, 1) ∧ decode cX9_isGraphic 127 = .ok (.getfield 44, 3) ∧ decode cX9_isGraphic 130 = .ok (.iload 4, 2) ∧ decode cX9_isGraphic 132 = .ok (.iaload, 1) ∧ decode cX9_isGraphic 133 = .ok (.goto 4, 3) ∧ decode cX9_isGraphic 136 = .ok (.iload_n 2, 1) ∧ decode cX9_isGraphic 137 = .ok (.iadd, 1) := by decide +kernel
theorem dX9_isGraphic_121 : decode cX9_isGraphic 121 = .ok (.iaload, 1) := DX9_isGraphic_c8.1
theorem dX9_isGraphic_122 : decode cX9_isGraphic 122 = .ok (.iload_n 2, 1) := DX9_isGraphic_c8.2.1
theorem dX9_isGraphic_123 : decode cX9_isGraphic 123 = .ok (.if_icmp .ge 13, 3) := DX9_isGraphic_c8.2.2.1
theorem dX9_isGraphic_126 : decode cX9_isGraphic 126 = .ok (.aload_n 0, 1) := DX9_isGraphic_c8.2.2.2.1
theorem dX9_isGraphic_127 : decode cX9_isGraphic 127 = .ok (.getfield 44, 3) := DX9_isGraphic_c8.2.2.2.2.1
theorem dX9_isGraphic_130 : decode cX9_isGraphic 130 = .ok (.iload 4, 2) := DX9_isGraphic_c8.2.2.2.2.2.1
theorem dX9_isGraphic_132 : decode cX9_isGraphic 132 = .ok (.iaload, 1) := DX9_isGraphic_c8.2.2.2.2.2.2.1
theorem dX9_isGraphic_133 : decode cX9_isGraphic 133 = .ok (.goto 4, 3) := DX9_isGraphic_c8.2.2.2.2.2.2.2.1
theorem dX9_isGraphic_136 : decode cX9_isGraphic 136 = .ok (.iload_n 2, 1) := DX9_isGraphic_c8.2.2.2.2.2.2.2.2.1
theorem dX9_isGraphic_137 : decode cX9_isGraphic 137 = .ok (.iadd, 1) := DX9_isGraphic_c8.2.2.2.2.2.2.2.2.2
set_option maxRecDepth 100000 in
theorem DX9_isGraphic_c9 : decode cX9_isGraphic 138 = .ok (.istore_n 3, 1) ∧ decode cX9_isGraphic 139 = .ok (.iinc 4 1, 3) ∧ decode cX9_isGraphic 142 = .ok (.goto (-39), 3) ∧ decode cX9_isGraphic 145 = .ok (.iload_n 1, 1) ∧ decode cX9_isGraphic 146 = .ok (.iload_n 3, 1) ∧ decode cX9_isGraphic 147 = .ok (.if_icmp .le 5, 3) ∧ decode cX9_isGraphic 150 = .ok (.iconst 0, 1) ∧ decode cX9_isGraphic 151 = .ok (.ireturn, 1) ∧ decode cX9_isGraphic 152 = .ok (.iinc 2 1, 3) ∧ decode cX9_isGraphic 155 = .ok (.goto (-82), 3) := by decide +kernel
theorem dX9_isGraphic_138 : decode cX9_isGraphic 138 = .ok (.istore_n 3, 1) := DX9_isGraphic_c9.1
theorem dX9_isGraphic_139 : decode cX9_isGraphic 139 = .ok (.iinc 4 1, 3) := DX9_isGraphic_c9.2.1
theorem dX9_isGraphic_142 : decode cX9_isGraphic 142 = .ok (.goto (-39), 3) := DX9_isGraphic_c9.2.2.1
theorem dX9_isGraphic_145 : decode cX9_isGraphic 145 = .ok (.iload_n 1, 1) := DX9_isGraphic_c9.2.2.2.1
theorem dX9_isGraphic_146 : decode cX9_isGraphic 146 = .ok (.iload_n 3, 1) := DX9_isGraphic_c9.2.2.2.2.1
theorem dX9_isGraphic_147 : decode cX9_isGraphic 147 = .ok (.if_icmp .le 5, 3) := DX9_isGraphic_c9.2.2.2.2.2.1
theorem dX9_isGraphic_150 : decode cX9_isGraphic 150 = .ok (.iconst 0, 1) := DX9_isGraphic_c9.2.2.2.2.2.2.1
theorem dX9_isGraphic_151 : decode cX9_isGraphic 151 = .ok (.ireturn, 1) := DX9_isGraphic_c9.2.2.2.2.2.2.2.1
theorem dX9_isGraphic_152 : decode cX9_isGraphic 152 = .ok (.iinc 2 1, 3) := DX9_isGraphic_c9.2.2.2.2.2.2.2.2.1
theorem dX9_isGraphic_155 : decode cX9_isGraphic 155 = .ok (.goto (-82), 3) := DX9_isGraphic_c9.2.2.2.2.2.2.2.2.2
set_option maxRecDepth 100000 in
theorem DX9_isGraphic_c10 : decode cX9_isGraphic 158 = .ok (.iconst 1, 1) ∧ decode cX9_isGraphic 159 = .ok (.ireturn, 1) := by decide +kernel
theorem dX9_isGraphic_158 : decode cX9_isGraphic 158 = .ok (.iconst 1, 1) := DX9_isGraphic_c10.1
theorem dX9_isGraphic_159 : decode cX9_isGraphic 159 = .ok (.ireturn, 1) := DX9_isGraphic_c10.2
set_option maxRecDepth 100000 in
theorem DX9_firstTest_c0 : decode cX9_firstTest 0 = .ok (.aload_n 0, 1) ∧ decode cX9_firstTest 1 = .ok (.invokevirtual 195, 3) ∧ decode cX9_firstTest 4 = .ok (.ifCond .ne 6, 3) ∧ decode cX9_firstTest 7 = .ok (.bipush (-9), 2) ∧ decode cX9_firstTest 9 = .ok (.ireturn, 1) ∧ decode cX9_firstTest 10 = .ok (.aload_n 0, 1) ∧ decode cX9_firstTest 11 = .ok (.invokevirtual 202, 3) ∧ decode cX9_firstTest 14 = .ok (.bipush (-9), 2) ∧ decode cX9_firstTest 16 = .ok (.if_icmp .ne 5, 3) ∧ decode cX9_firstTest 19 = .ok (.iconst 1, 1) := by decide +kernel
theorem dX9_firstTest_0 : decode cX9_firstTest 0 = .ok (.aload_n 0, 1) := DX9_firstTest_c0.1
theorem dX9_firstTest_1 : decode cX9_firstTest 1 = .ok (.invokevirtual 195, 3) := DX9_firstTest_c0.2.1
theorem dX9_firstTest_4 : decode cX9_firstTest 4 = .ok (.ifCond .ne 6, 3) := DX9_firstTest_c0.2.2.1
theorem dX9_firstTest_7 : decode cX9_firstTest 7 = .ok (.bipush (-9), 2) := DX9_firstTest_c0.2.2.2.1
theorem dX9_firstTest_9 : decode cX9_firstTest 9 = .ok (.ireturn, 1) := DX9_firstTest_c0.2.2.2.2.1
theorem dX9_firstTest_10 : decode cX9_firstTest 10 = .ok (.aload_n 0, 1) := DX9_firstTest_c0.2.2.2.2.2.1
theorem dX9_firstTest_11 : decode cX9_firstTest 11 = .ok (.invokevirtual 202, 3) := DX9_firstTest_c0.2.2.2.2.2.2.1
theorem dX9_firstTest_14 : decode cX9_firstTest 14 = .ok (.bipush (-9), 2) := DX9_firstTest_c0.2.2.2.2.2.2.2.1
theorem dX9_firstTest_16 : decode cX9_firstTest 16 = .ok (.if_icmp .ne 5, 3) := DX9_firstTest_c0.2.2.2.2.2.2.2.2.1
theorem dX9_firstTest_19 : decode cX9_firstTest 19 = .ok (.iconst 1, 1) := DX9_firstTest_c0.2.2.2.2.2.2.2.2.2
set_option maxRecDepth 100000 in
theorem DX9_firstTest_c1 : decode cX9_firstTest 20 = .ok (.ireturn, 1) ∧ decode cX9_firstTest 21 = .ok (.aload_n 0, 1) ∧ decode cX9_firstTest 22 = .ok (.invokevirtual 214, 3) ∧ decode cX9_firstTest 25 = .ok (.ifCond .ne 7, 3) ∧ decode cX9_firstTest 28 = .ok (.iconst 2, 1) ∧ decode cX9_firstTest 29 = .ok (.goto 15, 3) ∧ decode cX9_firstTest 32 = .ok (.aload_n 0, 1) ∧ decode cX9_firstTest 33 = .ok (.invokevirtual 217, 3) ∧ decode cX9_firstTest 36 = .ok (.ifCond .eq 7, 3) ∧ decode cX9_firstTest 39 = .ok (.iconst 0, 1) := by decide +kernel
theorem dX9_firstTest_20 : decode cX9_firstTest 20 = .ok (.ireturn, 1) := DX9_firstTest_c1.1
theorem dX9_firstTest_21 : decode cX9_firstTest 21 = .ok (.aload_n 0, 1) := DX9_firstTest_c1.2.1
theorem dX9_firstTest_22 : decode cX9_firstTest 22 = .ok (.invokevirtual 214, 3) := DX9_firstTest_c1.2.2.1
theorem dX9_firstTest_25 : decode cX9_firstTest 25 = .ok (.ifCond .ne 7, 3) := DX9_firstTest_c1.2.2.2.1
theorem dX9_firstTest_28 : decode cX9_firstTest 28 = .ok (.iconst 2, 1) := DX9_firstTest_c1.2.2.2.2.1
theorem dX9_firstTest_29 : decode cX9_firstTest 29 = .ok (.goto 15, 3) := DX9_firstTest_c1.2.2.2.2.2.1
theorem dX9_firstTest_32 : decode cX9_firstTest 32 = .ok (.aload_n 0, 1) := DX9_firstTest_c1.2.2.2.2.2.2.1
theorem dX9_firstTest_33 : decode cX9_firstTest 33 = .ok (.invokevirtual 217, 3) := DX9_firstTest_c1.2.2.2.2.2.2.2.1
theorem dX9_firstTest_36 : decode cX9_firstTest 36 = .ok (.ifCond .eq 7, 3) := DX9_firstTest_c1.2.2.2.2.2.2.2.2.1
theorem dX9_firstTest_39 : decode cX9_firstTest 39 = .ok (.iconst 0, 1) := DX9_firstTest_c1.2.2.2.2.2.2.2.2.2
set_option maxRecDepth 100000 in
theorem DX9_firstTest_c2 : decode cX9_firstTest 40 = .ok (.goto 4, 3) ∧ decode cX9_firstTest 43 = .ok (.iconst 3, 1) ∧ decode cX9_firstTest 44 = .ok (.ireturn, 1) := by decide +kernel
theorem dX9_firstTest_40 : decode cX9_firstTest 40 = .ok (.goto 4, 3) := DX9_firstTest_c2.1
theorem dX9_firstTest_43 : decode cX9_firstTest 43 = .ok (.iconst 3, 1) := DX9_firstTest_c2.2.1
theorem dX9_firstTest_44 : decode cX9_firstTest 44 = .ok (.ireturn, 1) := DX9_firstTest_c2.2.2
set_option maxRecDepth 100000 in
theorem DX9_enough_c0 : decode cX9_enough 0 = .ok (.aload_n 0, 1) ∧ decode cX9_enough 1 = .ok (.getfield 7, 3) ∧ decode cX9_enough 4 = .ok (.iconst 2, 1) ∧ decode cX9_enough 5 = .ok (.iaload, 1) ∧ decode cX9_enough 6 = .ok (.bipush 6, 2) ∧ decode cX9_enough 8 = .ok (.if_icmp .eq 15, 3) ∧ decode cX9_enough 11 = .ok (.aload_n 0, 1) ∧ decode cX9_enough 12 = .ok (.aload_n 0, 1) ∧ decode cX9_enough 13 = .ok (.invokevirtual 189, 3) ∧ decode cX9_enough 16 = .ok (.invokevirtual 211, 3) := by decide +kernel
theorem dX9_enough_0 : decode cX9_enough 0 = .ok (.aload_n 0, 1) := DX9_enough_c0.1
theorem dX9_enough_1 : decode cX9_enough 1 = .ok (.getfield 7, 3) := DX9_enough_c0.2.1
theorem dX9_enough_4 : decode cX9_enough 4 = .ok (.iconst 2, 1) := DX9_enough_c0.2.2.1
theorem dX9_enough_5 : decode cX9_enough 5 = .ok (.iaload, 1) := DX9_enough_c0.2.2.2.1
theorem dX9_enough_6 : decode cX9_enough 6 = .ok (.bipush 6, 2) := DX9_enough_c0.2.2.2.2.1
theorem dX9_enough_8 : decode cX9_enough 8 = .ok (.if_icmp .eq 15, 3) := DX9_enough_c0.2.2.2.2.2.1
theorem dX9_enough_11 : decode cX9_enough 11 = .ok (.aload_n 0, 1) := DX9_enough_c0.2.2.2.2.2.2.1
theorem dX9_enough_12 : decode cX9_enough 12 = .ok (.aload_n 0, 1) := DX9_enough_c0.2.2.2.2.2.2.2.1
theorem dX9_enough_13 : decode cX9_enough 13 = .ok (.invokevirtual 189, 3) := DX9_enough_c0.2.2.2.2.2.2.2.2.1
theorem dX9_enough_16 : decode cX9_enough 16 = .ok (.invokevirtual 211, 3) := DX9_enough_c0.2.2.2.2.2.2.2.2.2
set_option maxRecDepth 100000 in
theorem DX9_enough_c1 : decode cX9_enough 19 = .ok (.iconst 1, 1) ∧ decode cX9_enough 20 = .ok (.if_icmp .eq 6, 3) ∧ decode cX9_enough 23 = .ok (.bipush (-9), 2) ∧ decode cX9_enough 25 = .ok (.ireturn, 1) ∧ decode cX9_enough 26 = .ok (.aload_n 0, 1) ∧ decode cX9_enough 27 = .ok (.getfield 7, 3) ∧ decode cX9_enough 30 = .ok (.iconst 3, 1) ∧ decode cX9_enough 31 = .ok (.iaload, 1) ∧ decode cX9_enough 32 = .ok (.istore_n 1, 1) ∧ decode cX9_enough 33 = .ok (.iconst 1, 1) := by decide +kernel
theorem dX9_enough_19 : decode cX9_enough 19 = .ok (.iconst 1, 1) := DX9_enough_c1.1
theorem dX9_enough_20 : decode cX9_enough 20 = .ok (.if_icmp .eq 6, 3) := DX9_enough_c1.2.1
theorem dX9_enough_23 : decode cX9_enough 23 = .ok (.bipush (-9), 2) := DX9_enough_c1.2.2.1
theorem dX9_enough_25 : decode cX9_enough 25 = .ok (.ireturn, 1) := DX9_enough_c1.2.2.2.1
theorem dX9_enough_26 : decode cX9_enough 26 = .ok (.aload_n 0, 1) := DX9_enough_c1.2.2.2.2.1
theorem dX9_enough_27 : decode cX9_enough 27 = .ok (.getfield 7, 3) := DX9_enough_c1.2.2.2.2.2.1
theorem dX9_enough_30 : decode cX9_enough 30 = .ok (.iconst 3, 1) := DX9_enough_c1.2.2.2.2.2.2.1
theorem dX9_enough_31 : decode cX9_enough 31 = .ok (.iaload, 1) := DX9_enough_c1.2.2.2.2.2.2.2.1
theorem dX9_enough_32 : decode cX9_enough 32 = .ok (.istore_n 1, 1) := DX9_enough_c1.2.2.2.2.2.2.2.2.1
theorem dX9_enough_33 : decode cX9_enough 33 = .ok (.iconst 1, 1) := DX9_enough_c1.2.2.2.2.2.2.2.2.2
set_option maxRecDepth 100000 in
theorem DX9_enough_c2 : decode cX9_enough 34 = .ok (.istore_n 2, 1) ∧ decode cX9_enough 35 = .ok (.iload_n 2, 1) ∧ decode cX9_enough 36 = .ok (.aload_n 0, 1) ∧ decode cX9_enough 37 = .ok (.invokevirtual 189, 3) ∧ decode cX9_enough 40 = .ok (.if_icmp .gt 35, 3) ∧ decode cX9_enough 43 = .ok (.iload_n 2, 1) ∧ decode cX9_enough 44 = .ok (.invokestatic 118, 3) ∧ decode cX9_enough 47 = .ok (.iload_n 1, 1) ∧ decode cX9_enough 48 = .ok (.if_icmp .ge 19, 3) ∧ decode cX9_enough 51 = .ok (.aload_n 0, 1) := by decide +kernel
theorem dX9_enough_34 : decode cX9_enough 34 = .ok (.istore_n 2, 1) := DX9_enough_c2.1
theorem dX9_enough_35 : decode cX9_enough 35 = .ok (.iload_n 2, 1) := DX9_enough_c2.2.1
theorem dX9_enough_36 : decode cX9_enough 36 = .ok (.aload_n 0, 1) := DX9_enough_c2.2.2.1
theorem dX9_enough_37 : decode cX9_enough 37 = .ok (.invokevirtual 189, 3) := DX9_enough_c2.2.2.2.1
theorem dX9_enough_40 : decode cX9_enough 40 = .ok (.if_icmp .gt 35, 3) := DX9_enough_c2.2.2.2.2.1
theorem dX9_enough_43 : decode cX9_enough 43 = .ok (.iload_n 2, 1) := DX9_enough_c2.2.2.2.2.2.1
theorem dX9_enough_44 : decode cX9_enough 44 = .ok (.invokestatic 118, 3) := DX9_enough_c2.2.2.2.2.2.2.1
theorem dX9_enough_47 : decode cX9_enough 47 = .ok (.iload_n 1, 1) := DX9_enough_c2.2.2.2.2.2.2.2.1
theorem dX9_enough_48 : decode cX9_enough 48 = .ok (.if_icmp .ge 19, 3) := DX9_enough_c2.2.2.2.2.2.2.2.2.1
theorem dX9_enough_51 : decode cX9_enough 51 = .ok (.aload_n 0, 1) := DX9_enough_c2.2.2.2.2.2.2.2.2.2
set_option maxRecDepth 100000 in
theorem DX9_enough_c3 : decode cX9_enough 52 = .ok (.iload_n 2, 1) ∧ decode cX9_enough 53 = .ok (.invokevirtual 211, 3) ∧ decode cX9_enough 56 = .ok (.iconst 1, 1) ∧ decode cX9_enough 57 = .ok (.if_icmp .ne 10, 3) ∧ decode cX9_enough 60 = .ok (.iload_n 2, 1) ∧ decode cX9_enough 61 = .ok (.invokestatic 118, 3) ∧ decode cX9_enough 64 = .ok (.goto 4, 3) ∧ decode cX9_enough 67 = .ok (.iload_n 1, 1) ∧ decode cX9_enough 68 = .ok (.istore_n 1, 1) ∧ decode cX9_enough 69 = .ok (.iinc 2 1, 3) := by decide +kernel
theorem dX9_enough_52 : decode cX9_enough 52 = .ok (.iload_n 2, 1) := DX9_enough_c3.1
theorem dX9_enough_53 : decode cX9_enough 53 = .ok (.invokevirtual 211, 3) := DX9_enough_c3.2.1
theorem dX9_enough_56 : decode cX9_enough 56 = .ok (.iconst 1, 1) := DX9_enough_c3.2.2.1
theorem dX9_enough_57 : decode cX9_enough 57 = .ok (.if_icmp .ne 10, 3) := DX9_enough_c3.2.2.2.1
theorem dX9_enough_60 : decode cX9_enough 60 = .ok (.iload_n 2, 1) := DX9_enough_c3.2.2.2.2.1
theorem dX9_enough_61 : decode cX9_enough 61 = .ok (.invokestatic 118, 3) := DX9_enough_c3.2.2.2.2.2.1
theorem dX9_enough_64 : decode cX9_enough 64 = .ok (.goto 4, 3) := DX9_enough_c3.2.2.2.2.2.2.1
theorem dX9_enough_67 : decode cX9_enough 67 = .ok (.iload_n 1, 1) := DX9_enough_c3.2.2.2.2.2.2.2.1
theorem dX9_enough_68 : decode cX9_enough 68 = .ok (.istore_n 1, 1) := DX9_enough_c3.2.2.2.2.2.2.2.2.1
theorem dX9_enough_69 : decode cX9_enough 69 = .ok (.iinc 2 1, 3) := DX9_enough_c3.2.2.2.2.2.2.2.2.2
set_option maxRecDepth 100000 in
theorem DX9_enough_c4 : decode cX9_enough 72 = .ok (.goto (-37), 3) ∧ decode cX9_enough 75 = .ok (.iload_n 1, 1) ∧ decode cX9_enough 76 = .ok (.ireturn, 1) := by decide +kernel
theorem dX9_enough_72 : decode cX9_enough 72 = .ok (.goto (-37), 3) := DX9_enough_c4.1
theorem dX9_enough_75 : decode cX9_enough 75 = .ok (.iload_n 1, 1) := DX9_enough_c4.2.1
theorem dX9_enough_76 : decode cX9_enough 76 = .ok (.ireturn, 1) := DX9_enough_c4.2.2
set_option maxRecDepth 100000 in
theorem DX9_isDeckOfGraph_c0 : decode cX9_isDeckOfGraph 0 = .ok (.aload_n 0, 1) ∧ decode cX9_isDeckOfGraph 1 = .ok (.invokevirtual 195, 3) ∧ decode cX9_isDeckOfGraph 4 = .ok (.ifCond .eq 18, 3) ∧ decode cX9_isDeckOfGraph 7 = .ok (.aload_n 0, 1) ∧ decode cX9_isDeckOfGraph 8 = .ok (.getfield 7, 3) ∧ decode cX9_isDeckOfGraph 11 = .ok (.iconst 0, 1) ∧ decode cX9_isDeckOfGraph 12 = .ok (.iaload, 1) ∧ decode cX9_isDeckOfGraph 13 = .ok (.aload_n 0, 1) ∧ decode cX9_isDeckOfGraph 14 = .ok (.getfield 7, 3) ∧ decode cX9_isDeckOfGraph 17 = .ok (.iconst 2, 1) := by decide +kernel
theorem dX9_isDeckOfGraph_0 : decode cX9_isDeckOfGraph 0 = .ok (.aload_n 0, 1) := DX9_isDeckOfGraph_c0.1
theorem dX9_isDeckOfGraph_1 : decode cX9_isDeckOfGraph 1 = .ok (.invokevirtual 195, 3) := DX9_isDeckOfGraph_c0.2.1
theorem dX9_isDeckOfGraph_4 : decode cX9_isDeckOfGraph 4 = .ok (.ifCond .eq 18, 3) := DX9_isDeckOfGraph_c0.2.2.1
theorem dX9_isDeckOfGraph_7 : decode cX9_isDeckOfGraph 7 = .ok (.aload_n 0, 1) := DX9_isDeckOfGraph_c0.2.2.2.1
theorem dX9_isDeckOfGraph_8 : decode cX9_isDeckOfGraph 8 = .ok (.getfield 7, 3) := DX9_isDeckOfGraph_c0.2.2.2.2.1
theorem dX9_isDeckOfGraph_11 : decode cX9_isDeckOfGraph 11 = .ok (.iconst 0, 1) := DX9_isDeckOfGraph_c0.2.2.2.2.2.1
theorem dX9_isDeckOfGraph_12 : decode cX9_isDeckOfGraph 12 = .ok (.iaload, 1) := DX9_isDeckOfGraph_c0.2.2.2.2.2.2.1
theorem dX9_isDeckOfGraph_13 : decode cX9_isDeckOfGraph 13 = .ok (.aload_n 0, 1) := DX9_isDeckOfGraph_c0.2.2.2.2.2.2.2.1
theorem dX9_isDeckOfGraph_14 : decode cX9_isDeckOfGraph 14 = .ok (.getfield 7, 3) := DX9_isDeckOfGraph_c0.2.2.2.2.2.2.2.2.1
theorem dX9_isDeckOfGraph_17 : decode cX9_isDeckOfGraph 17 = .ok (.iconst 2, 1) := DX9_isDeckOfGraph_c0.2.2.2.2.2.2.2.2.2
set_option maxRecDepth 100000 in
theorem DX9_isDeckOfGraph_c1 : decode cX9_isDeckOfGraph 18 = .ok (.iaload, 1) ∧ decode cX9_isDeckOfGraph 19 = .ok (.if_icmp .eq 5, 3) ∧ decode cX9_isDeckOfGraph 22 = .ok (.iconst 0, 1) ∧ decode cX9_isDeckOfGraph 23 = .ok (.ireturn, 1) ∧ decode cX9_isDeckOfGraph 24 = .ok (.aload_n 0, 1) ∧ decode cX9_isDeckOfGraph 25 = .ok (.aload_n 0, 1) ∧ decode cX9_isDeckOfGraph 26 = .ok (.getfield 7, 3) ∧ decode cX9_isDeckOfGraph 29 = .ok (.iconst 0, 1) ∧ decode cX9_isDeckOfGraph 30 = .ok (.iaload, 1) ∧ decode cX9_isDeckOfGraph 31 = .ok (.aload_n 0, 1) := by decide +kernel
theorem dX9_isDeckOfGraph_18 : decode cX9_isDeckOfGraph 18 = .ok (.iaload, 1) := DX9_isDeckOfGraph_c1.1
theorem dX9_isDeckOfGraph_19 : decode cX9_isDeckOfGraph 19 = .ok (.if_icmp .eq 5, 3) := DX9_isDeckOfGraph_c1.2.1
theorem dX9_isDeckOfGraph_22 : decode cX9_isDeckOfGraph 22 = .ok (.iconst 0, 1) := DX9_isDeckOfGraph_c1.2.2.1
theorem dX9_isDeckOfGraph_23 : decode cX9_isDeckOfGraph 23 = .ok (.ireturn, 1) := DX9_isDeckOfGraph_c1.2.2.2.1
theorem dX9_isDeckOfGraph_24 : decode cX9_isDeckOfGraph 24 = .ok (.aload_n 0, 1) := DX9_isDeckOfGraph_c1.2.2.2.2.1
theorem dX9_isDeckOfGraph_25 : decode cX9_isDeckOfGraph 25 = .ok (.aload_n 0, 1) := DX9_isDeckOfGraph_c1.2.2.2.2.2.1
theorem dX9_isDeckOfGraph_26 : decode cX9_isDeckOfGraph 26 = .ok (.getfield 7, 3) := DX9_isDeckOfGraph_c1.2.2.2.2.2.2.1
theorem dX9_isDeckOfGraph_29 : decode cX9_isDeckOfGraph 29 = .ok (.iconst 0, 1) := DX9_isDeckOfGraph_c1.2.2.2.2.2.2.2.1
theorem dX9_isDeckOfGraph_30 : decode cX9_isDeckOfGraph 30 = .ok (.iaload, 1) := DX9_isDeckOfGraph_c1.2.2.2.2.2.2.2.2.1
theorem dX9_isDeckOfGraph_31 : decode cX9_isDeckOfGraph 31 = .ok (.aload_n 0, 1) := DX9_isDeckOfGraph_c1.2.2.2.2.2.2.2.2.2
set_option maxRecDepth 100000 in
theorem DX9_isDeckOfGraph_c2 : decode cX9_isDeckOfGraph 32 = .ok (.getfield 7, 3) ∧ decode cX9_isDeckOfGraph 35 = .ok (.iconst 1, 1) ∧ decode cX9_isDeckOfGraph 36 = .ok (.iaload, 1) ∧ decode cX9_isDeckOfGraph 37 = .ok (.aload_n 0, 1) ∧ decode cX9_isDeckOfGraph 38 = .ok (.getfield 47, 3) ∧ decode cX9_isDeckOfGraph 41 = .ok (.iconst 0, 1) ∧ decode cX9_isDeckOfGraph 42 = .ok (.invokevirtual 178, 3) ∧ decode cX9_isDeckOfGraph 45 = .ok (.iconst 0, 1) ∧ decode cX9_isDeckOfGraph 46 = .ok (.istore_n 1, 1) ∧ decode cX9_isDeckOfGraph 47 = .ok (.iload_n 1, 1) := by decide +kernel
theorem dX9_isDeckOfGraph_32 : decode cX9_isDeckOfGraph 32 = .ok (.getfield 7, 3) := DX9_isDeckOfGraph_c2.1
theorem dX9_isDeckOfGraph_35 : decode cX9_isDeckOfGraph 35 = .ok (.iconst 1, 1) := DX9_isDeckOfGraph_c2.2.1
theorem dX9_isDeckOfGraph_36 : decode cX9_isDeckOfGraph 36 = .ok (.iaload, 1) := DX9_isDeckOfGraph_c2.2.2.1
theorem dX9_isDeckOfGraph_37 : decode cX9_isDeckOfGraph 37 = .ok (.aload_n 0, 1) := DX9_isDeckOfGraph_c2.2.2.2.1
theorem dX9_isDeckOfGraph_38 : decode cX9_isDeckOfGraph 38 = .ok (.getfield 47, 3) := DX9_isDeckOfGraph_c2.2.2.2.2.1
theorem dX9_isDeckOfGraph_41 : decode cX9_isDeckOfGraph 41 = .ok (.iconst 0, 1) := DX9_isDeckOfGraph_c2.2.2.2.2.2.1
theorem dX9_isDeckOfGraph_42 : decode cX9_isDeckOfGraph 42 = .ok (.invokevirtual 178, 3) := DX9_isDeckOfGraph_c2.2.2.2.2.2.2.1
theorem dX9_isDeckOfGraph_45 : decode cX9_isDeckOfGraph 45 = .ok (.iconst 0, 1) := DX9_isDeckOfGraph_c2.2.2.2.2.2.2.2.1
theorem dX9_isDeckOfGraph_46 : decode cX9_isDeckOfGraph 46 = .ok (.istore_n 1, 1) := DX9_isDeckOfGraph_c2.2.2.2.2.2.2.2.2.1
theorem dX9_isDeckOfGraph_47 : decode cX9_isDeckOfGraph 47 = .ok (.iload_n 1, 1) := DX9_isDeckOfGraph_c2.2.2.2.2.2.2.2.2.2
set_option maxRecDepth 100000 in
theorem DX9_isDeckOfGraph_c3 : decode cX9_isDeckOfGraph 48 = .ok (.aload_n 0, 1) ∧ decode cX9_isDeckOfGraph 49 = .ok (.getfield 7, 3) ∧ decode cX9_isDeckOfGraph 52 = .ok (.iconst 3, 1) ∧ decode cX9_isDeckOfGraph 53 = .ok (.iaload, 1) ∧ decode cX9_isDeckOfGraph 54 = .ok (.if_icmp .ge 28, 3) ∧ decode cX9_isDeckOfGraph 57 = .ok (.aload_n 0, 1) ∧ decode cX9_isDeckOfGraph 58 = .ok (.getfield 47, 3) ∧ decode cX9_isDeckOfGraph 61 = .ok (.iload_n 1, 1) ∧ decode cX9_isDeckOfGraph 62 = .ok (.iaload, 1) ∧ decode cX9_isDeckOfGraph 63 = .ok (.aload_n 0, 1) := by decide +kernel
theorem dX9_isDeckOfGraph_48 : decode cX9_isDeckOfGraph 48 = .ok (.aload_n 0, 1) := DX9_isDeckOfGraph_c3.1
theorem dX9_isDeckOfGraph_49 : decode cX9_isDeckOfGraph 49 = .ok (.getfield 7, 3) := DX9_isDeckOfGraph_c3.2.1
theorem dX9_isDeckOfGraph_52 : decode cX9_isDeckOfGraph 52 = .ok (.iconst 3, 1) := DX9_isDeckOfGraph_c3.2.2.1
theorem dX9_isDeckOfGraph_53 : decode cX9_isDeckOfGraph 53 = .ok (.iaload, 1) := DX9_isDeckOfGraph_c3.2.2.2.1
theorem dX9_isDeckOfGraph_54 : decode cX9_isDeckOfGraph 54 = .ok (.if_icmp .ge 28, 3) := DX9_isDeckOfGraph_c3.2.2.2.2.1
theorem dX9_isDeckOfGraph_57 : decode cX9_isDeckOfGraph 57 = .ok (.aload_n 0, 1) := DX9_isDeckOfGraph_c3.2.2.2.2.2.1
theorem dX9_isDeckOfGraph_58 : decode cX9_isDeckOfGraph 58 = .ok (.getfield 47, 3) := DX9_isDeckOfGraph_c3.2.2.2.2.2.2.1
theorem dX9_isDeckOfGraph_61 : decode cX9_isDeckOfGraph 61 = .ok (.iload_n 1, 1) := DX9_isDeckOfGraph_c3.2.2.2.2.2.2.2.1
theorem dX9_isDeckOfGraph_62 : decode cX9_isDeckOfGraph 62 = .ok (.iaload, 1) := DX9_isDeckOfGraph_c3.2.2.2.2.2.2.2.2.1
theorem dX9_isDeckOfGraph_63 : decode cX9_isDeckOfGraph 63 = .ok (.aload_n 0, 1) := DX9_isDeckOfGraph_c3.2.2.2.2.2.2.2.2.2
set_option maxRecDepth 100000 in
theorem DX9_isDeckOfGraph_c4 : decode cX9_isDeckOfGraph 64 = .ok (.getfield 7, 3) ∧ decode cX9_isDeckOfGraph 67 = .ok (.iconst 4, 1) ∧ decode cX9_isDeckOfGraph 68 = .ok (.iload_n 1, 1) ∧ decode cX9_isDeckOfGraph 69 = .ok (.iadd, 1) ∧ decode cX9_isDeckOfGraph 70 = .ok (.iaload, 1) ∧ decode cX9_isDeckOfGraph 71 = .ok (.if_icmp .eq 5, 3) ∧ decode cX9_isDeckOfGraph 74 = .ok (.iconst 0, 1) ∧ decode cX9_isDeckOfGraph 75 = .ok (.ireturn, 1) ∧ decode cX9_isDeckOfGraph 76 = .ok (.iinc 1 1, 3) ∧ decode cX9_isDeckOfGraph 79 = .ok (.goto (-32), 3) := by decide +kernel
theorem dX9_isDeckOfGraph_64 : decode cX9_isDeckOfGraph 64 = .ok (.getfield 7, 3) := DX9_isDeckOfGraph_c4.1
theorem dX9_isDeckOfGraph_67 : decode cX9_isDeckOfGraph 67 = .ok (.iconst 4, 1) := DX9_isDeckOfGraph_c4.2.1
theorem dX9_isDeckOfGraph_68 : decode cX9_isDeckOfGraph 68 = .ok (.iload_n 1, 1) := DX9_isDeckOfGraph_c4.2.2.1
theorem dX9_isDeckOfGraph_69 : decode cX9_isDeckOfGraph 69 = .ok (.iadd, 1) := DX9_isDeckOfGraph_c4.2.2.2.1
theorem dX9_isDeckOfGraph_70 : decode cX9_isDeckOfGraph 70 = .ok (.iaload, 1) := DX9_isDeckOfGraph_c4.2.2.2.2.1
theorem dX9_isDeckOfGraph_71 : decode cX9_isDeckOfGraph 71 = .ok (.if_icmp .eq 5, 3) := DX9_isDeckOfGraph_c4.2.2.2.2.2.1
theorem dX9_isDeckOfGraph_74 : decode cX9_isDeckOfGraph 74 = .ok (.iconst 0, 1) := DX9_isDeckOfGraph_c4.2.2.2.2.2.2.1
theorem dX9_isDeckOfGraph_75 : decode cX9_isDeckOfGraph 75 = .ok (.ireturn, 1) := DX9_isDeckOfGraph_c4.2.2.2.2.2.2.2.1
theorem dX9_isDeckOfGraph_76 : decode cX9_isDeckOfGraph 76 = .ok (.iinc 1 1, 3) := DX9_isDeckOfGraph_c4.2.2.2.2.2.2.2.2.1
theorem dX9_isDeckOfGraph_79 : decode cX9_isDeckOfGraph 79 = .ok (.goto (-32), 3) := DX9_isDeckOfGraph_c4.2.2.2.2.2.2.2.2.2
set_option maxRecDepth 100000 in
theorem DX9_isDeckOfGraph_c5 : decode cX9_isDeckOfGraph 82 = .ok (.iconst 1, 1) ∧ decode cX9_isDeckOfGraph 83 = .ok (.ireturn, 1) := by decide +kernel
theorem dX9_isDeckOfGraph_82 : decode cX9_isDeckOfGraph 82 = .ok (.iconst 1, 1) := DX9_isDeckOfGraph_c5.1
theorem dX9_isDeckOfGraph_83 : decode cX9_isDeckOfGraph 83 = .ok (.ireturn, 1) := DX9_isDeckOfGraph_c5.2
set_option maxRecDepth 100000 in
theorem DX9_deck_c0 : decode cX9_deck 0 = .ok (.iload_n 1, 1) ∧ decode cX9_deck 1 = .ok (.iconst 0, 1) ∧ decode cX9_deck 2 = .ok (.bipush 8, 2) ∧ decode cX9_deck 4 = .ok (.invokestatic 50, 3) ∧ decode cX9_deck 7 = .ok (.ifCond .ne 5, 3) ∧ decode cX9_deck 10 = .ok (.iconst (-1), 1) ∧ decode cX9_deck 11 = .ok (.ireturn, 1) ∧ decode cX9_deck 12 = .ok (.iload_n 1, 1) ∧ decode cX9_deck 13 = .ok (.bipush 6, 2) ∧ decode cX9_deck 15 = .ok (.bipush 7, 2) := by decide +kernel
theorem dX9_deck_0 : decode cX9_deck 0 = .ok (.iload_n 1, 1) := DX9_deck_c0.1
theorem dX9_deck_1 : decode cX9_deck 1 = .ok (.iconst 0, 1) := DX9_deck_c0.2.1
theorem dX9_deck_2 : decode cX9_deck 2 = .ok (.bipush 8, 2) := DX9_deck_c0.2.2.1
theorem dX9_deck_4 : decode cX9_deck 4 = .ok (.invokestatic 50, 3) := DX9_deck_c0.2.2.2.1
theorem dX9_deck_7 : decode cX9_deck 7 = .ok (.ifCond .ne 5, 3) := DX9_deck_c0.2.2.2.2.1
theorem dX9_deck_10 : decode cX9_deck 10 = .ok (.iconst (-1), 1) := DX9_deck_c0.2.2.2.2.2.1
theorem dX9_deck_11 : decode cX9_deck 11 = .ok (.ireturn, 1) := DX9_deck_c0.2.2.2.2.2.2.1
theorem dX9_deck_12 : decode cX9_deck 12 = .ok (.iload_n 1, 1) := DX9_deck_c0.2.2.2.2.2.2.2.1
theorem dX9_deck_13 : decode cX9_deck 13 = .ok (.bipush 6, 2) := DX9_deck_c0.2.2.2.2.2.2.2.2.1
theorem dX9_deck_15 : decode cX9_deck 15 = .ok (.bipush 7, 2) := DX9_deck_c0.2.2.2.2.2.2.2.2.2
set_option maxRecDepth 100000 in
theorem DX9_deck_c1 : decode cX9_deck 17 = .ok (.invokestatic 50, 3) ∧ decode cX9_deck 20 = .ok (.ifCond .eq 15, 3) ∧ decode cX9_deck 23 = .ok (.aload_n 0, 1) ∧ decode cX9_deck 24 = .ok (.getfield 7, 3) ∧ decode cX9_deck 27 = .ok (.iconst 3, 1) ∧ decode cX9_deck 28 = .ok (.iaload, 1) ∧ decode cX9_deck 29 = .ok (.ifCond .ne 6, 3) ∧ decode cX9_deck 32 = .ok (.bipush (-2), 2) ∧ decode cX9_deck 34 = .ok (.ireturn, 1) ∧ decode cX9_deck 35 = .ok (.iload_n 1, 1) := by decide +kernel
theorem dX9_deck_17 : decode cX9_deck 17 = .ok (.invokestatic 50, 3) := DX9_deck_c1.1
theorem dX9_deck_20 : decode cX9_deck 20 = .ok (.ifCond .eq 15, 3) := DX9_deck_c1.2.1
theorem dX9_deck_23 : decode cX9_deck 23 = .ok (.aload_n 0, 1) := DX9_deck_c1.2.2.1
theorem dX9_deck_24 : decode cX9_deck 24 = .ok (.getfield 7, 3) := DX9_deck_c1.2.2.2.1
theorem dX9_deck_27 : decode cX9_deck 27 = .ok (.iconst 3, 1) := DX9_deck_c1.2.2.2.2.1
theorem dX9_deck_28 : decode cX9_deck 28 = .ok (.iaload, 1) := DX9_deck_c1.2.2.2.2.2.1
theorem dX9_deck_29 : decode cX9_deck 29 = .ok (.ifCond .ne 6, 3) := DX9_deck_c1.2.2.2.2.2.2.1
theorem dX9_deck_32 : decode cX9_deck 32 = .ok (.bipush (-2), 2) := DX9_deck_c1.2.2.2.2.2.2.2.1
theorem dX9_deck_34 : decode cX9_deck 34 = .ok (.ireturn, 1) := DX9_deck_c1.2.2.2.2.2.2.2.2.1
theorem dX9_deck_35 : decode cX9_deck 35 = .ok (.iload_n 1, 1) := DX9_deck_c1.2.2.2.2.2.2.2.2.2
set_option maxRecDepth 100000 in
theorem DX9_deck_c2 : decode cX9_deck 36 = .ok (.tableswitch 105 0 7 #[48, 55, 62, 67, 81, 86, 91, 100], 48) ∧ decode cX9_deck 84 = .ok (.aload_n 0, 1) ∧ decode cX9_deck 85 = .ok (.getfield 7, 3) ∧ decode cX9_deck 88 = .ok (.iconst 2, 1) ∧ decode cX9_deck 89 = .ok (.iaload, 1) ∧ decode cX9_deck 90 = .ok (.ireturn, 1) ∧ decode cX9_deck 91 = .ok (.aload_n 0, 1) ∧ decode cX9_deck 92 = .ok (.getfield 7, 3) ∧ decode cX9_deck 95 = .ok (.iconst 3, 1) ∧ decode cX9_deck 96 = .ok (.iaload, 1) := by decide +kernel
theorem dX9_deck_36 : decode cX9_deck 36 = .ok (.tableswitch 105 0 7 #[48, 55, 62, 67, 81, 86, 91, 100], 48) := DX9_deck_c2.1
theorem dX9_deck_84 : decode cX9_deck 84 = .ok (.aload_n 0, 1) := DX9_deck_c2.2.1
theorem dX9_deck_85 : decode cX9_deck 85 = .ok (.getfield 7, 3) := DX9_deck_c2.2.2.1
theorem dX9_deck_88 : decode cX9_deck 88 = .ok (.iconst 2, 1) := DX9_deck_c2.2.2.2.1
theorem dX9_deck_89 : decode cX9_deck 89 = .ok (.iaload, 1) := DX9_deck_c2.2.2.2.2.1
theorem dX9_deck_90 : decode cX9_deck 90 = .ok (.ireturn, 1) := DX9_deck_c2.2.2.2.2.2.1
theorem dX9_deck_91 : decode cX9_deck 91 = .ok (.aload_n 0, 1) := DX9_deck_c2.2.2.2.2.2.2.1
theorem dX9_deck_92 : decode cX9_deck 92 = .ok (.getfield 7, 3) := DX9_deck_c2.2.2.2.2.2.2.2.1
theorem dX9_deck_95 : decode cX9_deck 95 = .ok (.iconst 3, 1) := DX9_deck_c2.2.2.2.2.2.2.2.2.1
theorem dX9_deck_96 : decode cX9_deck 96 = .ok (.iaload, 1) := DX9_deck_c2.2.2.2.2.2.2.2.2.2
set_option maxRecDepth 100000 in
theorem DX9_deck_c3 : decode cX9_deck 97 = .ok (.ireturn, 1) ∧ decode cX9_deck 98 = .ok (.aload_n 0, 1) ∧ decode cX9_deck 99 = .ok (.invokevirtual 220, 3) ∧ decode cX9_deck 102 = .ok (.ireturn, 1) ∧ decode cX9_deck 103 = .ok (.aload_n 0, 1) ∧ decode cX9_deck 104 = .ok (.getfield 7, 3) ∧ decode cX9_deck 107 = .ok (.iconst 2, 1) ∧ decode cX9_deck 108 = .ok (.iaload, 1) ∧ decode cX9_deck 109 = .ok (.aload_n 0, 1) ∧ decode cX9_deck 110 = .ok (.getfield 7, 3) := by decide +kernel
theorem dX9_deck_97 : decode cX9_deck 97 = .ok (.ireturn, 1) := DX9_deck_c3.1
theorem dX9_deck_98 : decode cX9_deck 98 = .ok (.aload_n 0, 1) := DX9_deck_c3.2.1
theorem dX9_deck_99 : decode cX9_deck 99 = .ok (.invokevirtual 220, 3) := DX9_deck_c3.2.2.1
theorem dX9_deck_102 : decode cX9_deck 102 = .ok (.ireturn, 1) := DX9_deck_c3.2.2.2.1
theorem dX9_deck_103 : decode cX9_deck 103 = .ok (.aload_n 0, 1) := DX9_deck_c3.2.2.2.2.1
theorem dX9_deck_104 : decode cX9_deck 104 = .ok (.getfield 7, 3) := DX9_deck_c3.2.2.2.2.2.1
theorem dX9_deck_107 : decode cX9_deck 107 = .ok (.iconst 2, 1) := DX9_deck_c3.2.2.2.2.2.2.1
theorem dX9_deck_108 : decode cX9_deck 108 = .ok (.iaload, 1) := DX9_deck_c3.2.2.2.2.2.2.2.1
theorem dX9_deck_109 : decode cX9_deck 109 = .ok (.aload_n 0, 1) := DX9_deck_c3.2.2.2.2.2.2.2.2.1
theorem dX9_deck_110 : decode cX9_deck 110 = .ok (.getfield 7, 3) := DX9_deck_c3.2.2.2.2.2.2.2.2.2
set_option maxRecDepth 100000 in
theorem DX9_deck_c4 : decode cX9_deck 113 = .ok (.iconst 3, 1) ∧ decode cX9_deck 114 = .ok (.iaload, 1) ∧ decode cX9_deck 115 = .ok (.isub, 1) ∧ decode cX9_deck 116 = .ok (.ireturn, 1) ∧ decode cX9_deck 117 = .ok (.aload_n 0, 1) ∧ decode cX9_deck 118 = .ok (.invokevirtual 202, 3) ∧ decode cX9_deck 121 = .ok (.ireturn, 1) ∧ decode cX9_deck 122 = .ok (.aload_n 0, 1) ∧ decode cX9_deck 123 = .ok (.invokevirtual 223, 3) ∧ decode cX9_deck 126 = .ok (.ireturn, 1) := by decide +kernel
theorem dX9_deck_113 : decode cX9_deck 113 = .ok (.iconst 3, 1) := DX9_deck_c4.1
theorem dX9_deck_114 : decode cX9_deck 114 = .ok (.iaload, 1) := DX9_deck_c4.2.1
theorem dX9_deck_115 : decode cX9_deck 115 = .ok (.isub, 1) := DX9_deck_c4.2.2.1
theorem dX9_deck_116 : decode cX9_deck 116 = .ok (.ireturn, 1) := DX9_deck_c4.2.2.2.1
theorem dX9_deck_117 : decode cX9_deck 117 = .ok (.aload_n 0, 1) := DX9_deck_c4.2.2.2.2.1
theorem dX9_deck_118 : decode cX9_deck 118 = .ok (.invokevirtual 202, 3) := DX9_deck_c4.2.2.2.2.2.1
theorem dX9_deck_121 : decode cX9_deck 121 = .ok (.ireturn, 1) := DX9_deck_c4.2.2.2.2.2.2.1
theorem dX9_deck_122 : decode cX9_deck 122 = .ok (.aload_n 0, 1) := DX9_deck_c4.2.2.2.2.2.2.2.1
theorem dX9_deck_123 : decode cX9_deck 123 = .ok (.invokevirtual 223, 3) := DX9_deck_c4.2.2.2.2.2.2.2.2.1
theorem dX9_deck_126 : decode cX9_deck 126 = .ok (.ireturn, 1) := DX9_deck_c4.2.2.2.2.2.2.2.2.2
set_option maxRecDepth 100000 in
theorem DX9_deck_c5 : decode cX9_deck 127 = .ok (.aload_n 0, 1) ∧ decode cX9_deck 128 = .ok (.aload_n 0, 1) ∧ decode cX9_deck 129 = .ok (.invokevirtual 189, 3) ∧ decode cX9_deck 132 = .ok (.invokevirtual 211, 3) ∧ decode cX9_deck 135 = .ok (.ireturn, 1) ∧ decode cX9_deck 136 = .ok (.aload_n 0, 1) ∧ decode cX9_deck 137 = .ok (.invokevirtual 226, 3) ∧ decode cX9_deck 140 = .ok (.ireturn, 1) ∧ decode cX9_deck 141 = .ok (.aload_n 0, 1) ∧ decode cX9_deck 142 = .ok (.invokevirtual 229, 3) := by decide +kernel
theorem dX9_deck_127 : decode cX9_deck 127 = .ok (.aload_n 0, 1) := DX9_deck_c5.1
theorem dX9_deck_128 : decode cX9_deck 128 = .ok (.aload_n 0, 1) := DX9_deck_c5.2.1
theorem dX9_deck_129 : decode cX9_deck 129 = .ok (.invokevirtual 189, 3) := DX9_deck_c5.2.2.1
theorem dX9_deck_132 : decode cX9_deck 132 = .ok (.invokevirtual 211, 3) := DX9_deck_c5.2.2.2.1
theorem dX9_deck_135 : decode cX9_deck 135 = .ok (.ireturn, 1) := DX9_deck_c5.2.2.2.2.1
theorem dX9_deck_136 : decode cX9_deck 136 = .ok (.aload_n 0, 1) := DX9_deck_c5.2.2.2.2.2.1
theorem dX9_deck_137 : decode cX9_deck 137 = .ok (.invokevirtual 226, 3) := DX9_deck_c5.2.2.2.2.2.2.1
theorem dX9_deck_140 : decode cX9_deck 140 = .ok (.ireturn, 1) := DX9_deck_c5.2.2.2.2.2.2.2.1
theorem dX9_deck_141 : decode cX9_deck 141 = .ok (.aload_n 0, 1) := DX9_deck_c5.2.2.2.2.2.2.2.2.1
theorem dX9_deck_142 : decode cX9_deck 142 = .ok (.invokevirtual 229, 3) := DX9_deck_c5.2.2.2.2.2.2.2.2.2
set_option maxRecDepth 100000 in
theorem DX9_deck_c6 : decode cX9_deck 145 = .ok (.ireturn, 1) := by decide +kernel
theorem dX9_deck_145 : decode cX9_deck 145 = .ok (.ireturn, 1) := DX9_deck_c6
set_option maxRecDepth 100000 in
theorem DX9_counted_c0 : decode cX9_counted 0 = .ok (.iload_n 1, 1) ∧ decode cX9_counted 1 = .ok (.iconst 0, 1) ∧ decode cX9_counted 2 = .ok (.bipush 8, 2) ∧ decode cX9_counted 4 = .ok (.invokestatic 50, 3) ∧ decode cX9_counted 7 = .ok (.ifCond .ne 5, 3) ∧ decode cX9_counted 10 = .ok (.iconst (-1), 1) ∧ decode cX9_counted 11 = .ok (.ireturn, 1) ∧ decode cX9_counted 12 = .ok (.iload_n 1, 1) ∧ decode cX9_counted 13 = .ok (.ifCond .ne 7, 3) ∧ decode cX9_counted 16 = .ok (.iconst 2, 1) := by decide +kernel
theorem dX9_counted_0 : decode cX9_counted 0 = .ok (.iload_n 1, 1) := DX9_counted_c0.1
theorem dX9_counted_1 : decode cX9_counted 1 = .ok (.iconst 0, 1) := DX9_counted_c0.2.1
theorem dX9_counted_2 : decode cX9_counted 2 = .ok (.bipush 8, 2) := DX9_counted_c0.2.2.1
theorem dX9_counted_4 : decode cX9_counted 4 = .ok (.invokestatic 50, 3) := DX9_counted_c0.2.2.2.1
theorem dX9_counted_7 : decode cX9_counted 7 = .ok (.ifCond .ne 5, 3) := DX9_counted_c0.2.2.2.2.1
theorem dX9_counted_10 : decode cX9_counted 10 = .ok (.iconst (-1), 1) := DX9_counted_c0.2.2.2.2.2.1
theorem dX9_counted_11 : decode cX9_counted 11 = .ok (.ireturn, 1) := DX9_counted_c0.2.2.2.2.2.2.1
theorem dX9_counted_12 : decode cX9_counted 12 = .ok (.iload_n 1, 1) := DX9_counted_c0.2.2.2.2.2.2.2.1
theorem dX9_counted_13 : decode cX9_counted 13 = .ok (.ifCond .ne 7, 3) := DX9_counted_c0.2.2.2.2.2.2.2.2.1
theorem dX9_counted_16 : decode cX9_counted 16 = .ok (.iconst 2, 1) := DX9_counted_c0.2.2.2.2.2.2.2.2.2
set_option maxRecDepth 100000 in
theorem DX9_counted_c1 : decode cX9_counted 17 = .ok (.goto 13, 3) ∧ decode cX9_counted 20 = .ok (.iload_n 1, 1) ∧ decode cX9_counted 21 = .ok (.iconst 3, 1) ∧ decode cX9_counted 22 = .ok (.if_icmp .ge 7, 3) ∧ decode cX9_counted 25 = .ok (.iconst 3, 1) ∧ decode cX9_counted 26 = .ok (.goto 4, 3) ∧ decode cX9_counted 29 = .ok (.iconst 4, 1) ∧ decode cX9_counted 30 = .ok (.istore_n 2, 1) ∧ decode cX9_counted 31 = .ok (.aload_n 0, 1) ∧ decode cX9_counted 32 = .ok (.invokevirtual 195, 3) := by decide +kernel
theorem dX9_counted_17 : decode cX9_counted 17 = .ok (.goto 13, 3) := DX9_counted_c1.1
theorem dX9_counted_20 : decode cX9_counted 20 = .ok (.iload_n 1, 1) := DX9_counted_c1.2.1
theorem dX9_counted_21 : decode cX9_counted 21 = .ok (.iconst 3, 1) := DX9_counted_c1.2.2.1
theorem dX9_counted_22 : decode cX9_counted 22 = .ok (.if_icmp .ge 7, 3) := DX9_counted_c1.2.2.2.1
theorem dX9_counted_25 : decode cX9_counted 25 = .ok (.iconst 3, 1) := DX9_counted_c1.2.2.2.2.1
theorem dX9_counted_26 : decode cX9_counted 26 = .ok (.goto 4, 3) := DX9_counted_c1.2.2.2.2.2.1
theorem dX9_counted_29 : decode cX9_counted 29 = .ok (.iconst 4, 1) := DX9_counted_c1.2.2.2.2.2.2.1
theorem dX9_counted_30 : decode cX9_counted 30 = .ok (.istore_n 2, 1) := DX9_counted_c1.2.2.2.2.2.2.2.1
theorem dX9_counted_31 : decode cX9_counted 31 = .ok (.aload_n 0, 1) := DX9_counted_c1.2.2.2.2.2.2.2.2.1
theorem dX9_counted_32 : decode cX9_counted 32 = .ok (.invokevirtual 195, 3) := DX9_counted_c1.2.2.2.2.2.2.2.2.2
set_option maxRecDepth 100000 in
theorem DX9_counted_c2 : decode cX9_counted 35 = .ok (.ifCond .eq 13, 3) ∧ decode cX9_counted 38 = .ok (.iload_n 2, 1) ∧ decode cX9_counted 39 = .ok (.aload_n 0, 1) ∧ decode cX9_counted 40 = .ok (.getfield 7, 3) ∧ decode cX9_counted 43 = .ok (.iconst 2, 1) ∧ decode cX9_counted 44 = .ok (.iaload, 1) ∧ decode cX9_counted 45 = .ok (.if_icmp .lt 6, 3) ∧ decode cX9_counted 48 = .ok (.bipush (-9), 2) ∧ decode cX9_counted 50 = .ok (.ireturn, 1) ∧ decode cX9_counted 51 = .ok (.iconst 0, 1) := by decide +kernel
theorem dX9_counted_35 : decode cX9_counted 35 = .ok (.ifCond .eq 13, 3) := DX9_counted_c2.1
theorem dX9_counted_38 : decode cX9_counted 38 = .ok (.iload_n 2, 1) := DX9_counted_c2.2.1
theorem dX9_counted_39 : decode cX9_counted 39 = .ok (.aload_n 0, 1) := DX9_counted_c2.2.2.1
theorem dX9_counted_40 : decode cX9_counted 40 = .ok (.getfield 7, 3) := DX9_counted_c2.2.2.2.1
theorem dX9_counted_43 : decode cX9_counted 43 = .ok (.iconst 2, 1) := DX9_counted_c2.2.2.2.2.1
theorem dX9_counted_44 : decode cX9_counted 44 = .ok (.iaload, 1) := DX9_counted_c2.2.2.2.2.2.1
theorem dX9_counted_45 : decode cX9_counted 45 = .ok (.if_icmp .lt 6, 3) := DX9_counted_c2.2.2.2.2.2.2.1
theorem dX9_counted_48 : decode cX9_counted 48 = .ok (.bipush (-9), 2) := DX9_counted_c2.2.2.2.2.2.2.2.1
theorem dX9_counted_50 : decode cX9_counted 50 = .ok (.ireturn, 1) := DX9_counted_c2.2.2.2.2.2.2.2.2.1
theorem dX9_counted_51 : decode cX9_counted 51 = .ok (.iconst 0, 1) := DX9_counted_c2.2.2.2.2.2.2.2.2.2
set_option maxRecDepth 100000 in
theorem DX9_counted_c3 : decode cX9_counted 52 = .ok (.istore_n 3, 1) ∧ decode cX9_counted 53 = .ok (.iconst 0, 1) ∧ decode cX9_counted 54 = .ok (.istore 4, 2) ∧ decode cX9_counted 56 = .ok (.iload 4, 2) ∧ decode cX9_counted 58 = .ok (.aload_n 0, 1) ∧ decode cX9_counted 59 = .ok (.getfield 7, 3) ∧ decode cX9_counted 62 = .ok (.iconst 3, 1) ∧ decode cX9_counted 63 = .ok (.iaload, 1) ∧ decode cX9_counted 64 = .ok (.if_icmp .ge 34, 3) ∧ decode cX9_counted 67 = .ok (.iload_n 3, 1) := by decide +kernel
theorem dX9_counted_52 : decode cX9_counted 52 = .ok (.istore_n 3, 1) := DX9_counted_c3.1
theorem dX9_counted_53 : decode cX9_counted 53 = .ok (.iconst 0, 1) := DX9_counted_c3.2.1
theorem dX9_counted_54 : decode cX9_counted 54 = .ok (.istore 4, 2) := DX9_counted_c3.2.2.1
theorem dX9_counted_56 : decode cX9_counted 56 = .ok (.iload 4, 2) := DX9_counted_c3.2.2.2.1
theorem dX9_counted_58 : decode cX9_counted 58 = .ok (.aload_n 0, 1) := DX9_counted_c3.2.2.2.2.1
theorem dX9_counted_59 : decode cX9_counted 59 = .ok (.getfield 7, 3) := DX9_counted_c3.2.2.2.2.2.1
theorem dX9_counted_62 : decode cX9_counted 62 = .ok (.iconst 3, 1) := DX9_counted_c3.2.2.2.2.2.2.1
theorem dX9_counted_63 : decode cX9_counted 63 = .ok (.iaload, 1) := DX9_counted_c3.2.2.2.2.2.2.2.1
theorem dX9_counted_64 : decode cX9_counted 64 = .ok (.if_icmp .ge 34, 3) := DX9_counted_c3.2.2.2.2.2.2.2.2.1
theorem dX9_counted_67 : decode cX9_counted 67 = .ok (.iload_n 3, 1) := DX9_counted_c3.2.2.2.2.2.2.2.2.2
set_option maxRecDepth 100000 in
theorem DX9_counted_c4 : decode cX9_counted 68 = .ok (.aload_n 0, 1) ∧ decode cX9_counted 69 = .ok (.aload_n 0, 1) ∧ decode cX9_counted 70 = .ok (.getfield 7, 3) ∧ decode cX9_counted 73 = .ok (.iconst 2, 1) ∧ decode cX9_counted 74 = .ok (.iaload, 1) ∧ decode cX9_counted 75 = .ok (.iconst 1, 1) ∧ decode cX9_counted 76 = .ok (.isub, 1) ∧ decode cX9_counted 77 = .ok (.aload_n 0, 1) ∧ decode cX9_counted 78 = .ok (.getfield 7, 3) ∧ decode cX9_counted 81 = .ok (.iconst 4, 1) := by decide +kernel
theorem dX9_counted_68 : decode cX9_counted 68 = .ok (.aload_n 0, 1) := DX9_counted_c4.1
theorem dX9_counted_69 : decode cX9_counted 69 = .ok (.aload_n 0, 1) := DX9_counted_c4.2.1
theorem dX9_counted_70 : decode cX9_counted 70 = .ok (.getfield 7, 3) := DX9_counted_c4.2.2.1
theorem dX9_counted_73 : decode cX9_counted 73 = .ok (.iconst 2, 1) := DX9_counted_c4.2.2.2.1
theorem dX9_counted_74 : decode cX9_counted 74 = .ok (.iaload, 1) := DX9_counted_c4.2.2.2.2.1
theorem dX9_counted_75 : decode cX9_counted 75 = .ok (.iconst 1, 1) := DX9_counted_c4.2.2.2.2.2.1
theorem dX9_counted_76 : decode cX9_counted 76 = .ok (.isub, 1) := DX9_counted_c4.2.2.2.2.2.2.1
theorem dX9_counted_77 : decode cX9_counted 77 = .ok (.aload_n 0, 1) := DX9_counted_c4.2.2.2.2.2.2.2.1
theorem dX9_counted_78 : decode cX9_counted 78 = .ok (.getfield 7, 3) := DX9_counted_c4.2.2.2.2.2.2.2.2.1
theorem dX9_counted_81 : decode cX9_counted 81 = .ok (.iconst 4, 1) := DX9_counted_c4.2.2.2.2.2.2.2.2.2
set_option maxRecDepth 100000 in
theorem DX9_counted_c5 : decode cX9_counted 82 = .ok (.iload 4, 2) ∧ decode cX9_counted 84 = .ok (.iadd, 1) ∧ decode cX9_counted 85 = .ok (.iaload, 1) ∧ decode cX9_counted 86 = .ok (.iload_n 1, 1) ∧ decode cX9_counted 87 = .ok (.invokevirtual 158, 3) ∧ decode cX9_counted 90 = .ok (.iadd, 1) ∧ decode cX9_counted 91 = .ok (.istore_n 3, 1) ∧ decode cX9_counted 92 = .ok (.iinc 4 1, 3) ∧ decode cX9_counted 95 = .ok (.goto (-39), 3) ∧ decode cX9_counted 98 = .ok (.iload_n 3, 1) := by decide +kernel
theorem dX9_counted_82 : decode cX9_counted 82 = .ok (.iload 4, 2) := DX9_counted_c5.1
theorem dX9_counted_84 : decode cX9_counted 84 = .ok (.iadd, 1) := DX9_counted_c5.2.1
theorem dX9_counted_85 : decode cX9_counted 85 = .ok (.iaload, 1) := DX9_counted_c5.2.2.1
theorem dX9_counted_86 : decode cX9_counted 86 = .ok (.iload_n 1, 1) := DX9_counted_c5.2.2.2.1
theorem dX9_counted_87 : decode cX9_counted 87 = .ok (.invokevirtual 158, 3) := DX9_counted_c5.2.2.2.2.1
theorem dX9_counted_90 : decode cX9_counted 90 = .ok (.iadd, 1) := DX9_counted_c5.2.2.2.2.2.1
theorem dX9_counted_91 : decode cX9_counted 91 = .ok (.istore_n 3, 1) := DX9_counted_c5.2.2.2.2.2.2.1
theorem dX9_counted_92 : decode cX9_counted 92 = .ok (.iinc 4 1, 3) := DX9_counted_c5.2.2.2.2.2.2.2.1
theorem dX9_counted_95 : decode cX9_counted 95 = .ok (.goto (-39), 3) := DX9_counted_c5.2.2.2.2.2.2.2.2.1
theorem dX9_counted_98 : decode cX9_counted 98 = .ok (.iload_n 3, 1) := DX9_counted_c5.2.2.2.2.2.2.2.2.2
set_option maxRecDepth 100000 in
theorem DX9_counted_c6 : decode cX9_counted 99 = .ok (.aload_n 0, 1) ∧ decode cX9_counted 100 = .ok (.getfield 7, 3) ∧ decode cX9_counted 103 = .ok (.iconst 2, 1) ∧ decode cX9_counted 104 = .ok (.iaload, 1) ∧ decode cX9_counted 105 = .ok (.iload_n 2, 1) ∧ decode cX9_counted 106 = .ok (.isub, 1) ∧ decode cX9_counted 107 = .ok (.irem, 1) ∧ decode cX9_counted 108 = .ok (.ifCond .ne 16, 3) ∧ decode cX9_counted 111 = .ok (.iload_n 3, 1) ∧ decode cX9_counted 112 = .ok (.aload_n 0, 1) := by decide +kernel
theorem dX9_counted_99 : decode cX9_counted 99 = .ok (.aload_n 0, 1) := DX9_counted_c6.1
theorem dX9_counted_100 : decode cX9_counted 100 = .ok (.getfield 7, 3) := DX9_counted_c6.2.1
theorem dX9_counted_103 : decode cX9_counted 103 = .ok (.iconst 2, 1) := DX9_counted_c6.2.2.1
theorem dX9_counted_104 : decode cX9_counted 104 = .ok (.iaload, 1) := DX9_counted_c6.2.2.2.1
theorem dX9_counted_105 : decode cX9_counted 105 = .ok (.iload_n 2, 1) := DX9_counted_c6.2.2.2.2.1
theorem dX9_counted_106 : decode cX9_counted 106 = .ok (.isub, 1) := DX9_counted_c6.2.2.2.2.2.1
theorem dX9_counted_107 : decode cX9_counted 107 = .ok (.irem, 1) := DX9_counted_c6.2.2.2.2.2.2.1
theorem dX9_counted_108 : decode cX9_counted 108 = .ok (.ifCond .ne 16, 3) := DX9_counted_c6.2.2.2.2.2.2.2.1
theorem dX9_counted_111 : decode cX9_counted 111 = .ok (.iload_n 3, 1) := DX9_counted_c6.2.2.2.2.2.2.2.2.1
theorem dX9_counted_112 : decode cX9_counted 112 = .ok (.aload_n 0, 1) := DX9_counted_c6.2.2.2.2.2.2.2.2.2
set_option maxRecDepth 100000 in
theorem DX9_counted_c7 : decode cX9_counted 113 = .ok (.getfield 7, 3) ∧ decode cX9_counted 116 = .ok (.iconst 2, 1) ∧ decode cX9_counted 117 = .ok (.iaload, 1) ∧ decode cX9_counted 118 = .ok (.iload_n 2, 1) ∧ decode cX9_counted 119 = .ok (.isub, 1) ∧ decode cX9_counted 120 = .ok (.idiv, 1) ∧ decode cX9_counted 121 = .ok (.goto 5, 3) ∧ decode cX9_counted 124 = .ok (.bipush (-9), 2) ∧ decode cX9_counted 126 = .ok (.ireturn, 1) := by decide +kernel
theorem dX9_counted_113 : decode cX9_counted 113 = .ok (.getfield 7, 3) := DX9_counted_c7.1
theorem dX9_counted_116 : decode cX9_counted 116 = .ok (.iconst 2, 1) := DX9_counted_c7.2.1
theorem dX9_counted_117 : decode cX9_counted 117 = .ok (.iaload, 1) := DX9_counted_c7.2.2.1
theorem dX9_counted_118 : decode cX9_counted 118 = .ok (.iload_n 2, 1) := DX9_counted_c7.2.2.2.1
theorem dX9_counted_119 : decode cX9_counted 119 = .ok (.isub, 1) := DX9_counted_c7.2.2.2.2.1
theorem dX9_counted_120 : decode cX9_counted 120 = .ok (.idiv, 1) := DX9_counted_c7.2.2.2.2.2.1
theorem dX9_counted_121 : decode cX9_counted 121 = .ok (.goto 5, 3) := DX9_counted_c7.2.2.2.2.2.2.1
theorem dX9_counted_124 : decode cX9_counted 124 = .ok (.bipush (-9), 2) := DX9_counted_c7.2.2.2.2.2.2.2.1
theorem dX9_counted_126 : decode cX9_counted 126 = .ok (.ireturn, 1) := DX9_counted_c7.2.2.2.2.2.2.2.2
set_option maxRecDepth 100000 in
theorem DX9_answer_c0 : decode cX9_answer 0 = .ok (.iload_n 1, 1) ∧ decode cX9_answer 1 = .ok (.ifCond .ge 5, 3) ∧ decode cX9_answer 4 = .ok (.iconst (-1), 1) ∧ decode cX9_answer 5 = .ok (.ireturn, 1) ∧ decode cX9_answer 6 = .ok (.aload_n 0, 1) ∧ decode cX9_answer 7 = .ok (.getfield 7, 3) ∧ decode cX9_answer 10 = .ok (.iconst 3, 1) ∧ decode cX9_answer 11 = .ok (.iaload, 1) ∧ decode cX9_answer 12 = .ok (.ifCond .ne 6, 3) ∧ decode cX9_answer 15 = .ok (.bipush (-2), 2) := by decide +kernel
theorem dX9_answer_0 : decode cX9_answer 0 = .ok (.iload_n 1, 1) := DX9_answer_c0.1
theorem dX9_answer_1 : decode cX9_answer 1 = .ok (.ifCond .ge 5, 3) := DX9_answer_c0.2.1
theorem dX9_answer_4 : decode cX9_answer 4 = .ok (.iconst (-1), 1) := DX9_answer_c0.2.2.1
theorem dX9_answer_5 : decode cX9_answer 5 = .ok (.ireturn, 1) := DX9_answer_c0.2.2.2.1
theorem dX9_answer_6 : decode cX9_answer 6 = .ok (.aload_n 0, 1) := DX9_answer_c0.2.2.2.2.1
theorem dX9_answer_7 : decode cX9_answer 7 = .ok (.getfield 7, 3) := DX9_answer_c0.2.2.2.2.2.1
theorem dX9_answer_10 : decode cX9_answer 10 = .ok (.iconst 3, 1) := DX9_answer_c0.2.2.2.2.2.2.1
theorem dX9_answer_11 : decode cX9_answer 11 = .ok (.iaload, 1) := DX9_answer_c0.2.2.2.2.2.2.2.1
theorem dX9_answer_12 : decode cX9_answer 12 = .ok (.ifCond .ne 6, 3) := DX9_answer_c0.2.2.2.2.2.2.2.2.1
theorem dX9_answer_15 : decode cX9_answer 15 = .ok (.bipush (-2), 2) := DX9_answer_c0.2.2.2.2.2.2.2.2.2
set_option maxRecDepth 100000 in
theorem DX9_answer_c1 : decode cX9_answer 17 = .ok (.ireturn, 1) ∧ decode cX9_answer 18 = .ok (.aload_n 0, 1) ∧ decode cX9_answer 19 = .ok (.iload_n 1, 1) ∧ decode cX9_answer 20 = .ok (.invokevirtual 232, 3) ∧ decode cX9_answer 23 = .ok (.istore_n 2, 1) ∧ decode cX9_answer 24 = .ok (.iload_n 2, 1) ∧ decode cX9_answer 25 = .ok (.bipush (-9), 2) ∧ decode cX9_answer 27 = .ok (.if_icmp .ne 8, 3) ∧ decode cX9_answer 30 = .ok (.bipush (-9), 2) ∧ decode cX9_answer 32 = .ok (.goto 9, 3) := by decide +kernel
theorem dX9_answer_17 : decode cX9_answer 17 = .ok (.ireturn, 1) := DX9_answer_c1.1
theorem dX9_answer_18 : decode cX9_answer 18 = .ok (.aload_n 0, 1) := DX9_answer_c1.2.1
theorem dX9_answer_19 : decode cX9_answer 19 = .ok (.iload_n 1, 1) := DX9_answer_c1.2.2.1
theorem dX9_answer_20 : decode cX9_answer 20 = .ok (.invokevirtual 232, 3) := DX9_answer_c1.2.2.2.1
theorem dX9_answer_23 : decode cX9_answer 23 = .ok (.istore_n 2, 1) := DX9_answer_c1.2.2.2.2.1
theorem dX9_answer_24 : decode cX9_answer 24 = .ok (.iload_n 2, 1) := DX9_answer_c1.2.2.2.2.2.1
theorem dX9_answer_25 : decode cX9_answer 25 = .ok (.bipush (-9), 2) := DX9_answer_c1.2.2.2.2.2.2.1
theorem dX9_answer_27 : decode cX9_answer 27 = .ok (.if_icmp .ne 8, 3) := DX9_answer_c1.2.2.2.2.2.2.2.1
theorem dX9_answer_30 : decode cX9_answer 30 = .ok (.bipush (-9), 2) := DX9_answer_c1.2.2.2.2.2.2.2.2.1
theorem dX9_answer_32 : decode cX9_answer 32 = .ok (.goto 9, 3) := DX9_answer_c1.2.2.2.2.2.2.2.2.2
set_option maxRecDepth 100000 in
theorem DX9_answer_c2 : decode cX9_answer 35 = .ok (.aload_n 0, 1) ∧ decode cX9_answer 36 = .ok (.getfield 38, 3) ∧ decode cX9_answer 39 = .ok (.iload_n 2, 1) ∧ decode cX9_answer 40 = .ok (.iaload, 1) ∧ decode cX9_answer 41 = .ok (.ireturn, 1) := by decide +kernel
theorem dX9_answer_35 : decode cX9_answer 35 = .ok (.aload_n 0, 1) := DX9_answer_c2.1
theorem dX9_answer_36 : decode cX9_answer 36 = .ok (.getfield 38, 3) := DX9_answer_c2.2.1
theorem dX9_answer_39 : decode cX9_answer 39 = .ok (.iload_n 2, 1) := DX9_answer_c2.2.2.1
theorem dX9_answer_40 : decode cX9_answer 40 = .ok (.iaload, 1) := DX9_answer_c2.2.2.2.1
theorem dX9_answer_41 : decode cX9_answer 41 = .ok (.ireturn, 1) := DX9_answer_c2.2.2.2.2
set_option maxRecDepth 100000 in
theorem DX9_missing_c0 : decode cX9_missing 0 = .ok (.iload_n 1, 1) ∧ decode cX9_missing 1 = .ok (.ifCond .ge 5, 3) ∧ decode cX9_missing 4 = .ok (.iconst (-1), 1) ∧ decode cX9_missing 5 = .ok (.ireturn, 1) ∧ decode cX9_missing 6 = .ok (.aload_n 0, 1) ∧ decode cX9_missing 7 = .ok (.getfield 7, 3) ∧ decode cX9_missing 10 = .ok (.iconst 3, 1) ∧ decode cX9_missing 11 = .ok (.iaload, 1) ∧ decode cX9_missing 12 = .ok (.ifCond .ne 6, 3) ∧ decode cX9_missing 15 = .ok (.bipush (-2), 2) := by decide +kernel
theorem dX9_missing_0 : decode cX9_missing 0 = .ok (.iload_n 1, 1) := DX9_missing_c0.1
theorem dX9_missing_1 : decode cX9_missing 1 = .ok (.ifCond .ge 5, 3) := DX9_missing_c0.2.1
theorem dX9_missing_4 : decode cX9_missing 4 = .ok (.iconst (-1), 1) := DX9_missing_c0.2.2.1
theorem dX9_missing_5 : decode cX9_missing 5 = .ok (.ireturn, 1) := DX9_missing_c0.2.2.2.1
theorem dX9_missing_6 : decode cX9_missing 6 = .ok (.aload_n 0, 1) := DX9_missing_c0.2.2.2.2.1
theorem dX9_missing_7 : decode cX9_missing 7 = .ok (.getfield 7, 3) := DX9_missing_c0.2.2.2.2.2.1
theorem dX9_missing_10 : decode cX9_missing 10 = .ok (.iconst 3, 1) := DX9_missing_c0.2.2.2.2.2.2.1
theorem dX9_missing_11 : decode cX9_missing 11 = .ok (.iaload, 1) := DX9_missing_c0.2.2.2.2.2.2.2.1
theorem dX9_missing_12 : decode cX9_missing 12 = .ok (.ifCond .ne 6, 3) := DX9_missing_c0.2.2.2.2.2.2.2.2.1
theorem dX9_missing_15 : decode cX9_missing 15 = .ok (.bipush (-2), 2) := DX9_missing_c0.2.2.2.2.2.2.2.2.2
set_option maxRecDepth 100000 in
theorem DX9_missing_c1 : decode cX9_missing 17 = .ok (.ireturn, 1) ∧ decode cX9_missing 18 = .ok (.aload_n 0, 1) ∧ decode cX9_missing 19 = .ok (.aload_n 0, 1) ∧ decode cX9_missing 20 = .ok (.invokevirtual 189, 3) ∧ decode cX9_missing 23 = .ok (.invokevirtual 211, 3) ∧ decode cX9_missing 26 = .ok (.iconst 1, 1) ∧ decode cX9_missing 27 = .ok (.if_icmp .eq 6, 3) ∧ decode cX9_missing 30 = .ok (.bipush (-9), 2) ∧ decode cX9_missing 32 = .ok (.ireturn, 1) ∧ decode cX9_missing 33 = .ok (.aload_n 0, 1) := by decide +kernel
theorem dX9_missing_17 : decode cX9_missing 17 = .ok (.ireturn, 1) := DX9_missing_c1.1
theorem dX9_missing_18 : decode cX9_missing 18 = .ok (.aload_n 0, 1) := DX9_missing_c1.2.1
theorem dX9_missing_19 : decode cX9_missing 19 = .ok (.aload_n 0, 1) := DX9_missing_c1.2.2.1
theorem dX9_missing_20 : decode cX9_missing 20 = .ok (.invokevirtual 189, 3) := DX9_missing_c1.2.2.2.1
theorem dX9_missing_23 : decode cX9_missing 23 = .ok (.invokevirtual 211, 3) := DX9_missing_c1.2.2.2.2.1
theorem dX9_missing_26 : decode cX9_missing 26 = .ok (.iconst 1, 1) := DX9_missing_c1.2.2.2.2.2.1
theorem dX9_missing_27 : decode cX9_missing 27 = .ok (.if_icmp .eq 6, 3) := DX9_missing_c1.2.2.2.2.2.2.1
theorem dX9_missing_30 : decode cX9_missing 30 = .ok (.bipush (-9), 2) := DX9_missing_c1.2.2.2.2.2.2.2.1
theorem dX9_missing_32 : decode cX9_missing 32 = .ok (.ireturn, 1) := DX9_missing_c1.2.2.2.2.2.2.2.2.1
theorem dX9_missing_33 : decode cX9_missing 33 = .ok (.aload_n 0, 1) := DX9_missing_c1.2.2.2.2.2.2.2.2.2
set_option maxRecDepth 100000 in
theorem DX9_missing_c2 : decode cX9_missing 34 = .ok (.iconst 0, 1) ∧ decode cX9_missing 35 = .ok (.invokevirtual 232, 3) ∧ decode cX9_missing 38 = .ok (.istore_n 2, 1) ∧ decode cX9_missing 39 = .ok (.iload_n 1, 1) ∧ decode cX9_missing 40 = .ok (.istore_n 3, 1) ∧ decode cX9_missing 41 = .ok (.iconst 0, 1) ∧ decode cX9_missing 42 = .ok (.istore 4, 2) ∧ decode cX9_missing 44 = .ok (.iconst 0, 1) ∧ decode cX9_missing 45 = .ok (.istore 5, 2) ∧ decode cX9_missing 47 = .ok (.iload 5, 2) := by decide +kernel
theorem dX9_missing_34 : decode cX9_missing 34 = .ok (.iconst 0, 1) := DX9_missing_c2.1
theorem dX9_missing_35 : decode cX9_missing 35 = .ok (.invokevirtual 232, 3) := DX9_missing_c2.2.1
theorem dX9_missing_38 : decode cX9_missing 38 = .ok (.istore_n 2, 1) := DX9_missing_c2.2.2.1
theorem dX9_missing_39 : decode cX9_missing 39 = .ok (.iload_n 1, 1) := DX9_missing_c2.2.2.2.1
theorem dX9_missing_40 : decode cX9_missing 40 = .ok (.istore_n 3, 1) := DX9_missing_c2.2.2.2.2.1
theorem dX9_missing_41 : decode cX9_missing 41 = .ok (.iconst 0, 1) := DX9_missing_c2.2.2.2.2.2.1
theorem dX9_missing_42 : decode cX9_missing 42 = .ok (.istore 4, 2) := DX9_missing_c2.2.2.2.2.2.2.1
theorem dX9_missing_44 : decode cX9_missing 44 = .ok (.iconst 0, 1) := DX9_missing_c2.2.2.2.2.2.2.2.1
theorem dX9_missing_45 : decode cX9_missing 45 = .ok (.istore 5, 2) := DX9_missing_c2.2.2.2.2.2.2.2.2.1
theorem dX9_missing_47 : decode cX9_missing 47 = .ok (.iload 5, 2) := DX9_missing_c2.2.2.2.2.2.2.2.2.2
set_option maxRecDepth 100000 in
theorem DX9_missing_c3 : decode cX9_missing 49 = .ok (.aload_n 0, 1) ∧ decode cX9_missing 50 = .ok (.getfield 7, 3) ∧ decode cX9_missing 53 = .ok (.iconst 2, 1) ∧ decode cX9_missing 54 = .ok (.iaload, 1) ∧ decode cX9_missing 55 = .ok (.if_icmp .ge 70, 3) ∧ decode cX9_missing 58 = .ok (.iload 4, 2) ∧ decode cX9_missing 60 = .ok (.aload_n 0, 1) ∧ decode cX9_missing 61 = .ok (.getfield 7, 3) ∧ decode cX9_missing 64 = .ok (.iconst 3, 1) ∧ decode cX9_missing 65 = .ok (.iaload, 1) := by decide +kernel
theorem dX9_missing_49 : decode cX9_missing 49 = .ok (.aload_n 0, 1) := DX9_missing_c3.1
theorem dX9_missing_50 : decode cX9_missing 50 = .ok (.getfield 7, 3) := DX9_missing_c3.2.1
theorem dX9_missing_53 : decode cX9_missing 53 = .ok (.iconst 2, 1) := DX9_missing_c3.2.2.1
theorem dX9_missing_54 : decode cX9_missing 54 = .ok (.iaload, 1) := DX9_missing_c3.2.2.2.1
theorem dX9_missing_55 : decode cX9_missing 55 = .ok (.if_icmp .ge 70, 3) := DX9_missing_c3.2.2.2.2.1
theorem dX9_missing_58 : decode cX9_missing 58 = .ok (.iload 4, 2) := DX9_missing_c3.2.2.2.2.2.1
theorem dX9_missing_60 : decode cX9_missing 60 = .ok (.aload_n 0, 1) := DX9_missing_c3.2.2.2.2.2.2.1
theorem dX9_missing_61 : decode cX9_missing 61 = .ok (.getfield 7, 3) := DX9_missing_c3.2.2.2.2.2.2.2.1
theorem dX9_missing_64 : decode cX9_missing 64 = .ok (.iconst 3, 1) := DX9_missing_c3.2.2.2.2.2.2.2.2.1
theorem dX9_missing_65 : decode cX9_missing 65 = .ok (.iaload, 1) := DX9_missing_c3.2.2.2.2.2.2.2.2.2
set_option maxRecDepth 100000 in
theorem DX9_missing_c4 : decode cX9_missing 66 = .ok (.if_icmp .ge 33, 3) ∧ decode cX9_missing 69 = .ok (.aload_n 0, 1) ∧ decode cX9_missing 70 = .ok (.getfield 7, 3) ∧ decode cX9_missing 73 = .ok (.iconst 4, 1) ∧ decode cX9_missing 74 = .ok (.iload 4, 2) ∧ decode cX9_missing 76 = .ok (.iadd, 1) ∧ decode cX9_missing 77 = .ok (.iaload, 1) ∧ decode cX9_missing 78 = .ok (.aload_n 0, 1) ∧ decode cX9_missing 79 = .ok (.getfield 41, 3) ∧ decode cX9_missing 82 = .ok (.bipush 6, 2) := by decide +kernel
theorem dX9_missing_66 : decode cX9_missing 66 = .ok (.if_icmp .ge 33, 3) := DX9_missing_c4.1
theorem dX9_missing_69 : decode cX9_missing 69 = .ok (.aload_n 0, 1) := DX9_missing_c4.2.1
theorem dX9_missing_70 : decode cX9_missing 70 = .ok (.getfield 7, 3) := DX9_missing_c4.2.2.1
theorem dX9_missing_73 : decode cX9_missing 73 = .ok (.iconst 4, 1) := DX9_missing_c4.2.2.2.1
theorem dX9_missing_74 : decode cX9_missing 74 = .ok (.iload 4, 2) := DX9_missing_c4.2.2.2.2.1
theorem dX9_missing_76 : decode cX9_missing 76 = .ok (.iadd, 1) := DX9_missing_c4.2.2.2.2.2.1
theorem dX9_missing_77 : decode cX9_missing 77 = .ok (.iaload, 1) := DX9_missing_c4.2.2.2.2.2.2.1
theorem dX9_missing_78 : decode cX9_missing 78 = .ok (.aload_n 0, 1) := DX9_missing_c4.2.2.2.2.2.2.2.1
theorem dX9_missing_79 : decode cX9_missing 79 = .ok (.getfield 41, 3) := DX9_missing_c4.2.2.2.2.2.2.2.2.1
theorem dX9_missing_82 : decode cX9_missing 82 = .ok (.bipush 6, 2) := DX9_missing_c4.2.2.2.2.2.2.2.2.2
set_option maxRecDepth 100000 in
theorem DX9_missing_c5 : decode cX9_missing 84 = .ok (.iload_n 2, 1) ∧ decode cX9_missing 85 = .ok (.imul, 1) ∧ decode cX9_missing 86 = .ok (.iload 5, 2) ∧ decode cX9_missing 88 = .ok (.iadd, 1) ∧ decode cX9_missing 89 = .ok (.iaload, 1) ∧ decode cX9_missing 90 = .ok (.if_icmp .ne 9, 3) ∧ decode cX9_missing 93 = .ok (.iinc 4 1, 3) ∧ decode cX9_missing 96 = .ok (.goto 23, 3) ∧ decode cX9_missing 99 = .ok (.iload_n 3, 1) ∧ decode cX9_missing 100 = .ok (.ifCond .ne 16, 3) := by decide +kernel
theorem dX9_missing_84 : decode cX9_missing 84 = .ok (.iload_n 2, 1) := DX9_missing_c5.1
theorem dX9_missing_85 : decode cX9_missing 85 = .ok (.imul, 1) := DX9_missing_c5.2.1
theorem dX9_missing_86 : decode cX9_missing 86 = .ok (.iload 5, 2) := DX9_missing_c5.2.2.1
theorem dX9_missing_88 : decode cX9_missing 88 = .ok (.iadd, 1) := DX9_missing_c5.2.2.2.1
theorem dX9_missing_89 : decode cX9_missing 89 = .ok (.iaload, 1) := DX9_missing_c5.2.2.2.2.1
theorem dX9_missing_90 : decode cX9_missing 90 = .ok (.if_icmp .ne 9, 3) := DX9_missing_c5.2.2.2.2.2.1
theorem dX9_missing_93 : decode cX9_missing 93 = .ok (.iinc 4 1, 3) := DX9_missing_c5.2.2.2.2.2.2.1
theorem dX9_missing_96 : decode cX9_missing 96 = .ok (.goto 23, 3) := DX9_missing_c5.2.2.2.2.2.2.2.1
theorem dX9_missing_99 : decode cX9_missing 99 = .ok (.iload_n 3, 1) := DX9_missing_c5.2.2.2.2.2.2.2.2.1
theorem dX9_missing_100 : decode cX9_missing 100 = .ok (.ifCond .ne 16, 3) := DX9_missing_c5.2.2.2.2.2.2.2.2.2
set_option maxRecDepth 100000 in
theorem DX9_missing_c6 : decode cX9_missing 103 = .ok (.aload_n 0, 1) ∧ decode cX9_missing 104 = .ok (.getfield 41, 3) ∧ decode cX9_missing 107 = .ok (.bipush 6, 2) ∧ decode cX9_missing 109 = .ok (.iload_n 2, 1) ∧ decode cX9_missing 110 = .ok (.imul, 1) ∧ decode cX9_missing 111 = .ok (.iload 5, 2) ∧ decode cX9_missing 113 = .ok (.iadd, 1) ∧ decode cX9_missing 114 = .ok (.iaload, 1) ∧ decode cX9_missing 115 = .ok (.ireturn, 1) ∧ decode cX9_missing 116 = .ok (.iinc 3 (-1), 3) := by decide +kernel
theorem dX9_missing_103 : decode cX9_missing 103 = .ok (.aload_n 0, 1) := DX9_missing_c6.1
theorem dX9_missing_104 : decode cX9_missing 104 = .ok (.getfield 41, 3) := DX9_missing_c6.2.1
theorem dX9_missing_107 : decode cX9_missing 107 = .ok (.bipush 6, 2) := DX9_missing_c6.2.2.1
theorem dX9_missing_109 : decode cX9_missing 109 = .ok (.iload_n 2, 1) := DX9_missing_c6.2.2.2.1
theorem dX9_missing_110 : decode cX9_missing 110 = .ok (.imul, 1) := DX9_missing_c6.2.2.2.2.1
theorem dX9_missing_111 : decode cX9_missing 111 = .ok (.iload 5, 2) := DX9_missing_c6.2.2.2.2.2.1
theorem dX9_missing_113 : decode cX9_missing 113 = .ok (.iadd, 1) := DX9_missing_c6.2.2.2.2.2.2.1
theorem dX9_missing_114 : decode cX9_missing 114 = .ok (.iaload, 1) := DX9_missing_c6.2.2.2.2.2.2.2.1
theorem dX9_missing_115 : decode cX9_missing 115 = .ok (.ireturn, 1) := DX9_missing_c6.2.2.2.2.2.2.2.2.1
theorem dX9_missing_116 : decode cX9_missing 116 = .ok (.iinc 3 (-1), 3) := DX9_missing_c6.2.2.2.2.2.2.2.2.2
set_option maxRecDepth 100000 in
theorem DX9_missing_c7 : decode cX9_missing 119 = .ok (.iinc 5 1, 3) ∧ decode cX9_missing 122 = .ok (.goto (-75), 3) ∧ decode cX9_missing 125 = .ok (.bipush (-9), 2) ∧ decode cX9_missing 127 = .ok (.ireturn, 1) := by decide +kernel
theorem dX9_missing_119 : decode cX9_missing 119 = .ok (.iinc 5 1, 3) := DX9_missing_c7.1
theorem dX9_missing_122 : decode cX9_missing 122 = .ok (.goto (-75), 3) := DX9_missing_c7.2.1
theorem dX9_missing_125 : decode cX9_missing 125 = .ok (.bipush (-9), 2) := DX9_missing_c7.2.2.1
theorem dX9_missing_127 : decode cX9_missing 127 = .ok (.ireturn, 1) := DX9_missing_c7.2.2.2
set_option maxRecDepth 100000 in
theorem DX9_accept_c0 : decode cX9_accept 0 = .ok (.iload_n 1, 1) ∧ decode cX9_accept 1 = .ok (.ifCond .lt 12, 3) ∧ decode cX9_accept 4 = .ok (.aload_n 0, 1) ∧ decode cX9_accept 5 = .ok (.getfield 7, 3) ∧ decode cX9_accept 8 = .ok (.iconst 3, 1) ∧ decode cX9_accept 9 = .ok (.iaload, 1) ∧ decode cX9_accept 10 = .ok (.ifCond .ne 8, 3) ∧ decode cX9_accept 13 = .ok (.bipush (-9), 2) ∧ decode cX9_accept 15 = .ok (.goto 8, 3) ∧ decode cX9_accept 18 = .ok (.aload_n 0, 1) := by decide +kernel
theorem dX9_accept_0 : decode cX9_accept 0 = .ok (.iload_n 1, 1) := DX9_accept_c0.1
theorem dX9_accept_1 : decode cX9_accept 1 = .ok (.ifCond .lt 12, 3) := DX9_accept_c0.2.1
theorem dX9_accept_4 : decode cX9_accept 4 = .ok (.aload_n 0, 1) := DX9_accept_c0.2.2.1
theorem dX9_accept_5 : decode cX9_accept 5 = .ok (.getfield 7, 3) := DX9_accept_c0.2.2.2.1
theorem dX9_accept_8 : decode cX9_accept 8 = .ok (.iconst 3, 1) := DX9_accept_c0.2.2.2.2.1
theorem dX9_accept_9 : decode cX9_accept 9 = .ok (.iaload, 1) := DX9_accept_c0.2.2.2.2.2.1
theorem dX9_accept_10 : decode cX9_accept 10 = .ok (.ifCond .ne 8, 3) := DX9_accept_c0.2.2.2.2.2.2.1
theorem dX9_accept_13 : decode cX9_accept 13 = .ok (.bipush (-9), 2) := DX9_accept_c0.2.2.2.2.2.2.2.1
theorem dX9_accept_15 : decode cX9_accept 15 = .ok (.goto 8, 3) := DX9_accept_c0.2.2.2.2.2.2.2.2.1
theorem dX9_accept_18 : decode cX9_accept 18 = .ok (.aload_n 0, 1) := DX9_accept_c0.2.2.2.2.2.2.2.2.2
set_option maxRecDepth 100000 in
theorem DX9_accept_c1 : decode cX9_accept 19 = .ok (.iload_n 1, 1) ∧ decode cX9_accept 20 = .ok (.invokevirtual 232, 3) ∧ decode cX9_accept 23 = .ok (.istore_n 2, 1) ∧ decode cX9_accept 24 = .ok (.iload_n 2, 1) ∧ decode cX9_accept 25 = .ok (.bipush (-9), 2) ∧ decode cX9_accept 27 = .ok (.if_icmp .ne 5, 3) ∧ decode cX9_accept 30 = .ok (.iconst (-1), 1) ∧ decode cX9_accept 31 = .ok (.ireturn, 1) ∧ decode cX9_accept 32 = .ok (.aload_n 0, 1) ∧ decode cX9_accept 33 = .ok (.invokevirtual 70, 3) := by decide +kernel
theorem dX9_accept_19 : decode cX9_accept 19 = .ok (.iload_n 1, 1) := DX9_accept_c1.1
theorem dX9_accept_20 : decode cX9_accept 20 = .ok (.invokevirtual 232, 3) := DX9_accept_c1.2.1
theorem dX9_accept_23 : decode cX9_accept 23 = .ok (.istore_n 2, 1) := DX9_accept_c1.2.2.1
theorem dX9_accept_24 : decode cX9_accept 24 = .ok (.iload_n 2, 1) := DX9_accept_c1.2.2.2.1
theorem dX9_accept_25 : decode cX9_accept 25 = .ok (.bipush (-9), 2) := DX9_accept_c1.2.2.2.2.1
theorem dX9_accept_27 : decode cX9_accept 27 = .ok (.if_icmp .ne 5, 3) := DX9_accept_c1.2.2.2.2.2.1
theorem dX9_accept_30 : decode cX9_accept 30 = .ok (.iconst (-1), 1) := DX9_accept_c1.2.2.2.2.2.2.1
theorem dX9_accept_31 : decode cX9_accept 31 = .ok (.ireturn, 1) := DX9_accept_c1.2.2.2.2.2.2.2.1
theorem dX9_accept_32 : decode cX9_accept 32 = .ok (.aload_n 0, 1) := DX9_accept_c1.2.2.2.2.2.2.2.2.1
theorem dX9_accept_33 : decode cX9_accept 33 = .ok (.invokevirtual 70, 3) := DX9_accept_c1.2.2.2.2.2.2.2.2.2
set_option maxRecDepth 100000 in
theorem DX9_accept_c2 : decode cX9_accept 36 = .ok (.aload_n 0, 1) ∧ decode cX9_accept 37 = .ok (.getfield 7, 3) ∧ decode cX9_accept 40 = .ok (.iconst 0, 1) ∧ decode cX9_accept 41 = .ok (.aload_n 0, 1) ∧ decode cX9_accept 42 = .ok (.getfield 7, 3) ∧ decode cX9_accept 45 = .ok (.iconst 2, 1) ∧ decode cX9_accept 46 = .ok (.iaload, 1) ∧ decode cX9_accept 47 = .ok (.iastore, 1) ∧ decode cX9_accept 48 = .ok (.aload_n 0, 1) ∧ decode cX9_accept 49 = .ok (.getfield 7, 3) := by decide +kernel
theorem dX9_accept_36 : decode cX9_accept 36 = .ok (.aload_n 0, 1) := DX9_accept_c2.1
theorem dX9_accept_37 : decode cX9_accept 37 = .ok (.getfield 7, 3) := DX9_accept_c2.2.1
theorem dX9_accept_40 : decode cX9_accept 40 = .ok (.iconst 0, 1) := DX9_accept_c2.2.2.1
theorem dX9_accept_41 : decode cX9_accept 41 = .ok (.aload_n 0, 1) := DX9_accept_c2.2.2.2.1
theorem dX9_accept_42 : decode cX9_accept 42 = .ok (.getfield 7, 3) := DX9_accept_c2.2.2.2.2.1
theorem dX9_accept_45 : decode cX9_accept 45 = .ok (.iconst 2, 1) := DX9_accept_c2.2.2.2.2.2.1
theorem dX9_accept_46 : decode cX9_accept 46 = .ok (.iaload, 1) := DX9_accept_c2.2.2.2.2.2.2.1
theorem dX9_accept_47 : decode cX9_accept 47 = .ok (.iastore, 1) := DX9_accept_c2.2.2.2.2.2.2.2.1
theorem dX9_accept_48 : decode cX9_accept 48 = .ok (.aload_n 0, 1) := DX9_accept_c2.2.2.2.2.2.2.2.2.1
theorem dX9_accept_49 : decode cX9_accept 49 = .ok (.getfield 7, 3) := DX9_accept_c2.2.2.2.2.2.2.2.2.2
set_option maxRecDepth 100000 in
theorem DX9_accept_c3 : decode cX9_accept 52 = .ok (.iconst 1, 1) ∧ decode cX9_accept 53 = .ok (.aload_n 0, 1) ∧ decode cX9_accept 54 = .ok (.getfield 38, 3) ∧ decode cX9_accept 57 = .ok (.iload_n 2, 1) ∧ decode cX9_accept 58 = .ok (.iaload, 1) ∧ decode cX9_accept 59 = .ok (.iastore, 1) ∧ decode cX9_accept 60 = .ok (.aload_n 0, 1) ∧ decode cX9_accept 61 = .ok (.getfield 7, 3) ∧ decode cX9_accept 64 = .ok (.iconst 1, 1) ∧ decode cX9_accept 65 = .ok (.iaload, 1) := by decide +kernel
theorem dX9_accept_52 : decode cX9_accept 52 = .ok (.iconst 1, 1) := DX9_accept_c3.1
theorem dX9_accept_53 : decode cX9_accept 53 = .ok (.aload_n 0, 1) := DX9_accept_c3.2.1
theorem dX9_accept_54 : decode cX9_accept 54 = .ok (.getfield 38, 3) := DX9_accept_c3.2.2.1
theorem dX9_accept_57 : decode cX9_accept 57 = .ok (.iload_n 2, 1) := DX9_accept_c3.2.2.2.1
theorem dX9_accept_58 : decode cX9_accept 58 = .ok (.iaload, 1) := DX9_accept_c3.2.2.2.2.1
theorem dX9_accept_59 : decode cX9_accept 59 = .ok (.iastore, 1) := DX9_accept_c3.2.2.2.2.2.1
theorem dX9_accept_60 : decode cX9_accept 60 = .ok (.aload_n 0, 1) := DX9_accept_c3.2.2.2.2.2.2.1
theorem dX9_accept_61 : decode cX9_accept 61 = .ok (.getfield 7, 3) := DX9_accept_c3.2.2.2.2.2.2.2.1
theorem dX9_accept_64 : decode cX9_accept 64 = .ok (.iconst 1, 1) := DX9_accept_c3.2.2.2.2.2.2.2.2.1
theorem dX9_accept_65 : decode cX9_accept 65 = .ok (.iaload, 1) := DX9_accept_c3.2.2.2.2.2.2.2.2.2
set_option maxRecDepth 100000 in
theorem DX9_accept_c4 : decode cX9_accept 66 = .ok (.invokestatic 118, 3) ∧ decode cX9_accept 69 = .ok (.ireturn, 1) := by decide +kernel
theorem dX9_accept_66 : decode cX9_accept 66 = .ok (.invokestatic 118, 3) := DX9_accept_c4.1
theorem dX9_accept_69 : decode cX9_accept 69 = .ok (.ireturn, 1) := DX9_accept_c4.2
set_option maxRecDepth 100000 in
theorem DJ6_bitCount_0f7a4_c0 : decode cJ6_bitCount_0f7a4 0 = .ok (.iload_n 0, 1) ∧ decode cJ6_bitCount_0f7a4 1 = .ok (.iload_n 0, 1) ∧ decode cJ6_bitCount_0f7a4 2 = .ok (.iconst 1, 1) ∧ decode cJ6_bitCount_0f7a4 3 = .ok (.iushr, 1) ∧ decode cJ6_bitCount_0f7a4 4 = .ok (.ldc_w 265, 3) ∧ decode cJ6_bitCount_0f7a4 7 = .ok (.iand, 1) ∧ decode cJ6_bitCount_0f7a4 8 = .ok (.isub, 1) ∧ decode cJ6_bitCount_0f7a4 9 = .ok (.istore_n 0, 1) ∧ decode cJ6_bitCount_0f7a4 10 = .ok (.iload_n 0, 1) ∧ decode cJ6_bitCount_0f7a4 11 = .ok (.ldc_w 266, 3) := by decide +kernel
theorem dJ6_bitCount_0f7a4_0 : decode cJ6_bitCount_0f7a4 0 = .ok (.iload_n 0, 1) := DJ6_bitCount_0f7a4_c0.1
theorem dJ6_bitCount_0f7a4_1 : decode cJ6_bitCount_0f7a4 1 = .ok (.iload_n 0, 1) := DJ6_bitCount_0f7a4_c0.2.1
theorem dJ6_bitCount_0f7a4_2 : decode cJ6_bitCount_0f7a4 2 = .ok (.iconst 1, 1) := DJ6_bitCount_0f7a4_c0.2.2.1
theorem dJ6_bitCount_0f7a4_3 : decode cJ6_bitCount_0f7a4 3 = .ok (.iushr, 1) := DJ6_bitCount_0f7a4_c0.2.2.2.1
theorem dJ6_bitCount_0f7a4_4 : decode cJ6_bitCount_0f7a4 4 = .ok (.ldc_w 265, 3) := DJ6_bitCount_0f7a4_c0.2.2.2.2.1
theorem dJ6_bitCount_0f7a4_7 : decode cJ6_bitCount_0f7a4 7 = .ok (.iand, 1) := DJ6_bitCount_0f7a4_c0.2.2.2.2.2.1
theorem dJ6_bitCount_0f7a4_8 : decode cJ6_bitCount_0f7a4 8 = .ok (.isub, 1) := DJ6_bitCount_0f7a4_c0.2.2.2.2.2.2.1
theorem dJ6_bitCount_0f7a4_9 : decode cJ6_bitCount_0f7a4 9 = .ok (.istore_n 0, 1) := DJ6_bitCount_0f7a4_c0.2.2.2.2.2.2.2.1
theorem dJ6_bitCount_0f7a4_10 : decode cJ6_bitCount_0f7a4 10 = .ok (.iload_n 0, 1) := DJ6_bitCount_0f7a4_c0.2.2.2.2.2.2.2.2.1
theorem dJ6_bitCount_0f7a4_11 : decode cJ6_bitCount_0f7a4 11 = .ok (.ldc_w 266, 3) := DJ6_bitCount_0f7a4_c0.2.2.2.2.2.2.2.2.2
set_option maxRecDepth 100000 in
theorem DJ6_bitCount_0f7a4_c1 : decode cJ6_bitCount_0f7a4 14 = .ok (.iand, 1) ∧ decode cJ6_bitCount_0f7a4 15 = .ok (.iload_n 0, 1) ∧ decode cJ6_bitCount_0f7a4 16 = .ok (.iconst 2, 1) ∧ decode cJ6_bitCount_0f7a4 17 = .ok (.iushr, 1) ∧ decode cJ6_bitCount_0f7a4 18 = .ok (.ldc_w 266, 3) ∧ decode cJ6_bitCount_0f7a4 21 = .ok (.iand, 1) ∧ decode cJ6_bitCount_0f7a4 22 = .ok (.iadd, 1) ∧ decode cJ6_bitCount_0f7a4 23 = .ok (.istore_n 0, 1) ∧ decode cJ6_bitCount_0f7a4 24 = .ok (.iload_n 0, 1) ∧ decode cJ6_bitCount_0f7a4 25 = .ok (.iload_n 0, 1) := by decide +kernel
theorem dJ6_bitCount_0f7a4_14 : decode cJ6_bitCount_0f7a4 14 = .ok (.iand, 1) := DJ6_bitCount_0f7a4_c1.1
theorem dJ6_bitCount_0f7a4_15 : decode cJ6_bitCount_0f7a4 15 = .ok (.iload_n 0, 1) := DJ6_bitCount_0f7a4_c1.2.1
theorem dJ6_bitCount_0f7a4_16 : decode cJ6_bitCount_0f7a4 16 = .ok (.iconst 2, 1) := DJ6_bitCount_0f7a4_c1.2.2.1
theorem dJ6_bitCount_0f7a4_17 : decode cJ6_bitCount_0f7a4 17 = .ok (.iushr, 1) := DJ6_bitCount_0f7a4_c1.2.2.2.1
theorem dJ6_bitCount_0f7a4_18 : decode cJ6_bitCount_0f7a4 18 = .ok (.ldc_w 266, 3) := DJ6_bitCount_0f7a4_c1.2.2.2.2.1
theorem dJ6_bitCount_0f7a4_21 : decode cJ6_bitCount_0f7a4 21 = .ok (.iand, 1) := DJ6_bitCount_0f7a4_c1.2.2.2.2.2.1
theorem dJ6_bitCount_0f7a4_22 : decode cJ6_bitCount_0f7a4 22 = .ok (.iadd, 1) := DJ6_bitCount_0f7a4_c1.2.2.2.2.2.2.1
theorem dJ6_bitCount_0f7a4_23 : decode cJ6_bitCount_0f7a4 23 = .ok (.istore_n 0, 1) := DJ6_bitCount_0f7a4_c1.2.2.2.2.2.2.2.1
theorem dJ6_bitCount_0f7a4_24 : decode cJ6_bitCount_0f7a4 24 = .ok (.iload_n 0, 1) := DJ6_bitCount_0f7a4_c1.2.2.2.2.2.2.2.2.1
theorem dJ6_bitCount_0f7a4_25 : decode cJ6_bitCount_0f7a4 25 = .ok (.iload_n 0, 1) := DJ6_bitCount_0f7a4_c1.2.2.2.2.2.2.2.2.2
set_option maxRecDepth 100000 in
theorem DJ6_bitCount_0f7a4_c2 : decode cJ6_bitCount_0f7a4 26 = .ok (.iconst 4, 1) ∧ decode cJ6_bitCount_0f7a4 27 = .ok (.iushr, 1) ∧ decode cJ6_bitCount_0f7a4 28 = .ok (.iadd, 1) ∧ decode cJ6_bitCount_0f7a4 29 = .ok (.ldc_w 267, 3) ∧ decode cJ6_bitCount_0f7a4 32 = .ok (.iand, 1) ∧ decode cJ6_bitCount_0f7a4 33 = .ok (.istore_n 0, 1) ∧ decode cJ6_bitCount_0f7a4 34 = .ok (.iload_n 0, 1) ∧ decode cJ6_bitCount_0f7a4 35 = .ok (.iload_n 0, 1) ∧ decode cJ6_bitCount_0f7a4 36 = .ok (.bipush 8, 2) ∧ decode cJ6_bitCount_0f7a4 38 = .ok (.iushr, 1) := by decide +kernel
theorem dJ6_bitCount_0f7a4_26 : decode cJ6_bitCount_0f7a4 26 = .ok (.iconst 4, 1) := DJ6_bitCount_0f7a4_c2.1
theorem dJ6_bitCount_0f7a4_27 : decode cJ6_bitCount_0f7a4 27 = .ok (.iushr, 1) := DJ6_bitCount_0f7a4_c2.2.1
theorem dJ6_bitCount_0f7a4_28 : decode cJ6_bitCount_0f7a4 28 = .ok (.iadd, 1) := DJ6_bitCount_0f7a4_c2.2.2.1
theorem dJ6_bitCount_0f7a4_29 : decode cJ6_bitCount_0f7a4 29 = .ok (.ldc_w 267, 3) := DJ6_bitCount_0f7a4_c2.2.2.2.1
theorem dJ6_bitCount_0f7a4_32 : decode cJ6_bitCount_0f7a4 32 = .ok (.iand, 1) := DJ6_bitCount_0f7a4_c2.2.2.2.2.1
theorem dJ6_bitCount_0f7a4_33 : decode cJ6_bitCount_0f7a4 33 = .ok (.istore_n 0, 1) := DJ6_bitCount_0f7a4_c2.2.2.2.2.2.1
theorem dJ6_bitCount_0f7a4_34 : decode cJ6_bitCount_0f7a4 34 = .ok (.iload_n 0, 1) := DJ6_bitCount_0f7a4_c2.2.2.2.2.2.2.1
theorem dJ6_bitCount_0f7a4_35 : decode cJ6_bitCount_0f7a4 35 = .ok (.iload_n 0, 1) := DJ6_bitCount_0f7a4_c2.2.2.2.2.2.2.2.1
theorem dJ6_bitCount_0f7a4_36 : decode cJ6_bitCount_0f7a4 36 = .ok (.bipush 8, 2) := DJ6_bitCount_0f7a4_c2.2.2.2.2.2.2.2.2.1
theorem dJ6_bitCount_0f7a4_38 : decode cJ6_bitCount_0f7a4 38 = .ok (.iushr, 1) := DJ6_bitCount_0f7a4_c2.2.2.2.2.2.2.2.2.2
set_option maxRecDepth 100000 in
theorem DJ6_bitCount_0f7a4_c3 : decode cJ6_bitCount_0f7a4 39 = .ok (.iadd, 1) ∧ decode cJ6_bitCount_0f7a4 40 = .ok (.istore_n 0, 1) ∧ decode cJ6_bitCount_0f7a4 41 = .ok (.iload_n 0, 1) ∧ decode cJ6_bitCount_0f7a4 42 = .ok (.iload_n 0, 1) ∧ decode cJ6_bitCount_0f7a4 43 = .ok (.bipush 16, 2) ∧ decode cJ6_bitCount_0f7a4 45 = .ok (.iushr, 1) ∧ decode cJ6_bitCount_0f7a4 46 = .ok (.iadd, 1) ∧ decode cJ6_bitCount_0f7a4 47 = .ok (.istore_n 0, 1) ∧ decode cJ6_bitCount_0f7a4 48 = .ok (.iload_n 0, 1) ∧ decode cJ6_bitCount_0f7a4 49 = .ok (.bipush 63, 2) := by decide +kernel
theorem dJ6_bitCount_0f7a4_39 : decode cJ6_bitCount_0f7a4 39 = .ok (.iadd, 1) := DJ6_bitCount_0f7a4_c3.1
theorem dJ6_bitCount_0f7a4_40 : decode cJ6_bitCount_0f7a4 40 = .ok (.istore_n 0, 1) := DJ6_bitCount_0f7a4_c3.2.1
theorem dJ6_bitCount_0f7a4_41 : decode cJ6_bitCount_0f7a4 41 = .ok (.iload_n 0, 1) := DJ6_bitCount_0f7a4_c3.2.2.1
theorem dJ6_bitCount_0f7a4_42 : decode cJ6_bitCount_0f7a4 42 = .ok (.iload_n 0, 1) := DJ6_bitCount_0f7a4_c3.2.2.2.1
theorem dJ6_bitCount_0f7a4_43 : decode cJ6_bitCount_0f7a4 43 = .ok (.bipush 16, 2) := DJ6_bitCount_0f7a4_c3.2.2.2.2.1
theorem dJ6_bitCount_0f7a4_45 : decode cJ6_bitCount_0f7a4 45 = .ok (.iushr, 1) := DJ6_bitCount_0f7a4_c3.2.2.2.2.2.1
theorem dJ6_bitCount_0f7a4_46 : decode cJ6_bitCount_0f7a4 46 = .ok (.iadd, 1) := DJ6_bitCount_0f7a4_c3.2.2.2.2.2.2.1
theorem dJ6_bitCount_0f7a4_47 : decode cJ6_bitCount_0f7a4 47 = .ok (.istore_n 0, 1) := DJ6_bitCount_0f7a4_c3.2.2.2.2.2.2.2.1
theorem dJ6_bitCount_0f7a4_48 : decode cJ6_bitCount_0f7a4 48 = .ok (.iload_n 0, 1) := DJ6_bitCount_0f7a4_c3.2.2.2.2.2.2.2.2.1
theorem dJ6_bitCount_0f7a4_49 : decode cJ6_bitCount_0f7a4 49 = .ok (.bipush 63, 2) := DJ6_bitCount_0f7a4_c3.2.2.2.2.2.2.2.2.2
set_option maxRecDepth 100000 in
theorem DJ6_bitCount_0f7a4_c4 : decode cJ6_bitCount_0f7a4 51 = .ok (.iand, 1) ∧ decode cJ6_bitCount_0f7a4 52 = .ok (.ireturn, 1) := by decide +kernel
theorem dJ6_bitCount_0f7a4_51 : decode cJ6_bitCount_0f7a4 51 = .ok (.iand, 1) := DJ6_bitCount_0f7a4_c4.1
theorem dJ6_bitCount_0f7a4_52 : decode cJ6_bitCount_0f7a4 52 = .ok (.ireturn, 1) := DJ6_bitCount_0f7a4_c4.2
set_option maxRecDepth 100000 in
theorem DL_law_c0 : decode cL_law 0 = .ok (.new 7, 3) ∧ decode cL_law 3 = .ok (.dup, 1) ∧ decode cL_law 4 = .ok (.invokespecial 9, 3) ∧ decode cL_law 7 = .ok (.astore_n 1, 1) ∧ decode cL_law 8 = .ok (.new 10, 3) ∧ decode cL_law 11 = .ok (.dup, 1) ∧ decode cL_law 12 = .ok (.invokespecial 12, 3) ∧ decode cL_law 15 = .ok (.astore_n 2, 1) ∧ decode cL_law 16 = .ok (.iconst 0, 1) ∧ decode cL_law 17 = .ok (.istore_n 3, 1) := by decide +kernel
theorem dL_law_0 : decode cL_law 0 = .ok (.new 7, 3) := DL_law_c0.1
theorem dL_law_3 : decode cL_law 3 = .ok (.dup, 1) := DL_law_c0.2.1
theorem dL_law_4 : decode cL_law 4 = .ok (.invokespecial 9, 3) := DL_law_c0.2.2.1
theorem dL_law_7 : decode cL_law 7 = .ok (.astore_n 1, 1) := DL_law_c0.2.2.2.1
theorem dL_law_8 : decode cL_law 8 = .ok (.new 10, 3) := DL_law_c0.2.2.2.2.1
theorem dL_law_11 : decode cL_law 11 = .ok (.dup, 1) := DL_law_c0.2.2.2.2.2.1
theorem dL_law_12 : decode cL_law 12 = .ok (.invokespecial 12, 3) := DL_law_c0.2.2.2.2.2.2.1
theorem dL_law_15 : decode cL_law 15 = .ok (.astore_n 2, 1) := DL_law_c0.2.2.2.2.2.2.2.1
theorem dL_law_16 : decode cL_law 16 = .ok (.iconst 0, 1) := DL_law_c0.2.2.2.2.2.2.2.2.1
theorem dL_law_17 : decode cL_law 17 = .ok (.istore_n 3, 1) := DL_law_c0.2.2.2.2.2.2.2.2.2
set_option maxRecDepth 100000 in
theorem DL_law_c1 : decode cL_law 18 = .ok (.iload_n 3, 1) ∧ decode cL_law 19 = .ok (.aload_n 0, 1) ∧ decode cL_law 20 = .ok (.arraylength, 1) ∧ decode cL_law 21 = .ok (.iconst 4, 1) ∧ decode cL_law 22 = .ok (.isub, 1) ∧ decode cL_law 23 = .ok (.if_icmp .gt 557, 3) ∧ decode cL_law 26 = .ok (.aload_n 0, 1) ∧ decode cL_law 27 = .ok (.iload_n 3, 1) ∧ decode cL_law 28 = .ok (.iaload, 1) ∧ decode cL_law 29 = .ok (.bipush 31, 2) := by decide +kernel
theorem dL_law_18 : decode cL_law 18 = .ok (.iload_n 3, 1) := DL_law_c1.1
theorem dL_law_19 : decode cL_law 19 = .ok (.aload_n 0, 1) := DL_law_c1.2.1
theorem dL_law_20 : decode cL_law 20 = .ok (.arraylength, 1) := DL_law_c1.2.2.1
theorem dL_law_21 : decode cL_law 21 = .ok (.iconst 4, 1) := DL_law_c1.2.2.2.1
theorem dL_law_22 : decode cL_law 22 = .ok (.isub, 1) := DL_law_c1.2.2.2.2.1
theorem dL_law_23 : decode cL_law 23 = .ok (.if_icmp .gt 557, 3) := DL_law_c1.2.2.2.2.2.1
theorem dL_law_26 : decode cL_law 26 = .ok (.aload_n 0, 1) := DL_law_c1.2.2.2.2.2.2.1
theorem dL_law_27 : decode cL_law 27 = .ok (.iload_n 3, 1) := DL_law_c1.2.2.2.2.2.2.2.1
theorem dL_law_28 : decode cL_law 28 = .ok (.iaload, 1) := DL_law_c1.2.2.2.2.2.2.2.2.1
theorem dL_law_29 : decode cL_law 29 = .ok (.bipush 31, 2) := DL_law_c1.2.2.2.2.2.2.2.2.2
set_option maxRecDepth 100000 in
theorem DL_law_c2 : decode cL_law 31 = .ok (.iand, 1) ∧ decode cL_law 32 = .ok (.tableswitch 542 0 17 #[88, 111, 154, 177, 190, 213, 246, 289, 312, 335, 348, 371, 394, 427, 450, 473, 496, 519], 88) ∧ decode cL_law 120 = .ok (.aload_n 1, 1) ∧ decode cL_law 121 = .ok (.aload_n 0, 1) ∧ decode cL_law 122 = .ok (.iload_n 3, 1) ∧ decode cL_law 123 = .ok (.iconst 1, 1) ∧ decode cL_law 124 = .ok (.iadd, 1) ∧ decode cL_law 125 = .ok (.iaload, 1) ∧ decode cL_law 126 = .ok (.invokevirtual 13, 3) ∧ decode cL_law 129 = .ok (.aload_n 2, 1) := by decide +kernel
theorem dL_law_31 : decode cL_law 31 = .ok (.iand, 1) := DL_law_c2.1
theorem dL_law_32 : decode cL_law 32 = .ok (.tableswitch 542 0 17 #[88, 111, 154, 177, 190, 213, 246, 289, 312, 335, 348, 371, 394, 427, 450, 473, 496, 519], 88) := DL_law_c2.2.1
theorem dL_law_120 : decode cL_law 120 = .ok (.aload_n 1, 1) := DL_law_c2.2.2.1
theorem dL_law_121 : decode cL_law 121 = .ok (.aload_n 0, 1) := DL_law_c2.2.2.2.1
theorem dL_law_122 : decode cL_law 122 = .ok (.iload_n 3, 1) := DL_law_c2.2.2.2.2.1
theorem dL_law_123 : decode cL_law 123 = .ok (.iconst 1, 1) := DL_law_c2.2.2.2.2.2.1
theorem dL_law_124 : decode cL_law 124 = .ok (.iadd, 1) := DL_law_c2.2.2.2.2.2.2.1
theorem dL_law_125 : decode cL_law 125 = .ok (.iaload, 1) := DL_law_c2.2.2.2.2.2.2.2.1
theorem dL_law_126 : decode cL_law 126 = .ok (.invokevirtual 13, 3) := DL_law_c2.2.2.2.2.2.2.2.2.1
theorem dL_law_129 : decode cL_law 129 = .ok (.aload_n 2, 1) := DL_law_c2.2.2.2.2.2.2.2.2.2
set_option maxRecDepth 100000 in
theorem DL_law_c3 : decode cL_law 130 = .ok (.aload_n 0, 1) ∧ decode cL_law 131 = .ok (.iload_n 3, 1) ∧ decode cL_law 132 = .ok (.iconst 1, 1) ∧ decode cL_law 133 = .ok (.iadd, 1) ∧ decode cL_law 134 = .ok (.iaload, 1) ∧ decode cL_law 135 = .ok (.invokevirtual 17, 3) ∧ decode cL_law 138 = .ok (.if_icmp .eq 436, 3) ∧ decode cL_law 141 = .ok (.iconst 0, 1) ∧ decode cL_law 142 = .ok (.ireturn, 1) ∧ decode cL_law 143 = .ok (.aload_n 1, 1) := by decide +kernel
theorem dL_law_130 : decode cL_law 130 = .ok (.aload_n 0, 1) := DL_law_c3.1
theorem dL_law_131 : decode cL_law 131 = .ok (.iload_n 3, 1) := DL_law_c3.2.1
theorem dL_law_132 : decode cL_law 132 = .ok (.iconst 1, 1) := DL_law_c3.2.2.1
theorem dL_law_133 : decode cL_law 133 = .ok (.iadd, 1) := DL_law_c3.2.2.2.1
theorem dL_law_134 : decode cL_law 134 = .ok (.iaload, 1) := DL_law_c3.2.2.2.2.1
theorem dL_law_135 : decode cL_law 135 = .ok (.invokevirtual 17, 3) := DL_law_c3.2.2.2.2.2.1
theorem dL_law_138 : decode cL_law 138 = .ok (.if_icmp .eq 436, 3) := DL_law_c3.2.2.2.2.2.2.1
theorem dL_law_141 : decode cL_law 141 = .ok (.iconst 0, 1) := DL_law_c3.2.2.2.2.2.2.2.1
theorem dL_law_142 : decode cL_law 142 = .ok (.ireturn, 1) := DL_law_c3.2.2.2.2.2.2.2.2.1
theorem dL_law_143 : decode cL_law 143 = .ok (.aload_n 1, 1) := DL_law_c3.2.2.2.2.2.2.2.2.2
set_option maxRecDepth 100000 in
theorem DL_law_c4 : decode cL_law 144 = .ok (.aload_n 0, 1) ∧ decode cL_law 145 = .ok (.iload_n 3, 1) ∧ decode cL_law 146 = .ok (.iconst 1, 1) ∧ decode cL_law 147 = .ok (.iadd, 1) ∧ decode cL_law 148 = .ok (.iaload, 1) ∧ decode cL_law 149 = .ok (.aload_n 0, 1) ∧ decode cL_law 150 = .ok (.iload_n 3, 1) ∧ decode cL_law 151 = .ok (.iconst 2, 1) ∧ decode cL_law 152 = .ok (.iadd, 1) ∧ decode cL_law 153 = .ok (.iaload, 1) := by decide +kernel
theorem dL_law_144 : decode cL_law 144 = .ok (.aload_n 0, 1) := DL_law_c4.1
theorem dL_law_145 : decode cL_law 145 = .ok (.iload_n 3, 1) := DL_law_c4.2.1
theorem dL_law_146 : decode cL_law 146 = .ok (.iconst 1, 1) := DL_law_c4.2.2.1
theorem dL_law_147 : decode cL_law 147 = .ok (.iadd, 1) := DL_law_c4.2.2.2.1
theorem dL_law_148 : decode cL_law 148 = .ok (.iaload, 1) := DL_law_c4.2.2.2.2.1
theorem dL_law_149 : decode cL_law 149 = .ok (.aload_n 0, 1) := DL_law_c4.2.2.2.2.2.1
theorem dL_law_150 : decode cL_law 150 = .ok (.iload_n 3, 1) := DL_law_c4.2.2.2.2.2.2.1
theorem dL_law_151 : decode cL_law 151 = .ok (.iconst 2, 1) := DL_law_c4.2.2.2.2.2.2.2.1
theorem dL_law_152 : decode cL_law 152 = .ok (.iadd, 1) := DL_law_c4.2.2.2.2.2.2.2.2.1
theorem dL_law_153 : decode cL_law 153 = .ok (.iaload, 1) := DL_law_c4.2.2.2.2.2.2.2.2.2
set_option maxRecDepth 100000 in
theorem DL_law_c5 : decode cL_law 154 = .ok (.aload_n 0, 1) ∧ decode cL_law 155 = .ok (.iload_n 3, 1) ∧ decode cL_law 156 = .ok (.iconst 3, 1) ∧ decode cL_law 157 = .ok (.iadd, 1) ∧ decode cL_law 158 = .ok (.iaload, 1) ∧ decode cL_law 159 = .ok (.invokevirtual 18, 3) ∧ decode cL_law 162 = .ok (.aload_n 2, 1) ∧ decode cL_law 163 = .ok (.aload_n 0, 1) ∧ decode cL_law 164 = .ok (.iload_n 3, 1) ∧ decode cL_law 165 = .ok (.iconst 1, 1) := by decide +kernel
theorem dL_law_154 : decode cL_law 154 = .ok (.aload_n 0, 1) := DL_law_c5.1
theorem dL_law_155 : decode cL_law 155 = .ok (.iload_n 3, 1) := DL_law_c5.2.1
theorem dL_law_156 : decode cL_law 156 = .ok (.iconst 3, 1) := DL_law_c5.2.2.1
theorem dL_law_157 : decode cL_law 157 = .ok (.iadd, 1) := DL_law_c5.2.2.2.1
theorem dL_law_158 : decode cL_law 158 = .ok (.iaload, 1) := DL_law_c5.2.2.2.2.1
theorem dL_law_159 : decode cL_law 159 = .ok (.invokevirtual 18, 3) := DL_law_c5.2.2.2.2.2.1
theorem dL_law_162 : decode cL_law 162 = .ok (.aload_n 2, 1) := DL_law_c5.2.2.2.2.2.2.1
theorem dL_law_163 : decode cL_law 163 = .ok (.aload_n 0, 1) := DL_law_c5.2.2.2.2.2.2.2.1
theorem dL_law_164 : decode cL_law 164 = .ok (.iload_n 3, 1) := DL_law_c5.2.2.2.2.2.2.2.2.1
theorem dL_law_165 : decode cL_law 165 = .ok (.iconst 1, 1) := DL_law_c5.2.2.2.2.2.2.2.2.2
set_option maxRecDepth 100000 in
theorem DL_law_c6 : decode cL_law 166 = .ok (.iadd, 1) ∧ decode cL_law 167 = .ok (.iaload, 1) ∧ decode cL_law 168 = .ok (.aload_n 0, 1) ∧ decode cL_law 169 = .ok (.iload_n 3, 1) ∧ decode cL_law 170 = .ok (.iconst 2, 1) ∧ decode cL_law 171 = .ok (.iadd, 1) ∧ decode cL_law 172 = .ok (.iaload, 1) ∧ decode cL_law 173 = .ok (.aload_n 0, 1) ∧ decode cL_law 174 = .ok (.iload_n 3, 1) ∧ decode cL_law 175 = .ok (.iconst 3, 1) := by decide +kernel
theorem dL_law_166 : decode cL_law 166 = .ok (.iadd, 1) := DL_law_c6.1
theorem dL_law_167 : decode cL_law 167 = .ok (.iaload, 1) := DL_law_c6.2.1
theorem dL_law_168 : decode cL_law 168 = .ok (.aload_n 0, 1) := DL_law_c6.2.2.1
theorem dL_law_169 : decode cL_law 169 = .ok (.iload_n 3, 1) := DL_law_c6.2.2.2.1
theorem dL_law_170 : decode cL_law 170 = .ok (.iconst 2, 1) := DL_law_c6.2.2.2.2.1
theorem dL_law_171 : decode cL_law 171 = .ok (.iadd, 1) := DL_law_c6.2.2.2.2.2.1
theorem dL_law_172 : decode cL_law 172 = .ok (.iaload, 1) := DL_law_c6.2.2.2.2.2.2.1
theorem dL_law_173 : decode cL_law 173 = .ok (.aload_n 0, 1) := DL_law_c6.2.2.2.2.2.2.2.1
theorem dL_law_174 : decode cL_law 174 = .ok (.iload_n 3, 1) := DL_law_c6.2.2.2.2.2.2.2.2.1
theorem dL_law_175 : decode cL_law 175 = .ok (.iconst 3, 1) := DL_law_c6.2.2.2.2.2.2.2.2.2
set_option maxRecDepth 100000 in
theorem DL_law_c7 : decode cL_law 176 = .ok (.iadd, 1) ∧ decode cL_law 177 = .ok (.iaload, 1) ∧ decode cL_law 178 = .ok (.invokevirtual 22, 3) ∧ decode cL_law 181 = .ok (.if_icmp .eq 393, 3) ∧ decode cL_law 184 = .ok (.iconst 0, 1) ∧ decode cL_law 185 = .ok (.ireturn, 1) ∧ decode cL_law 186 = .ok (.aload_n 1, 1) ∧ decode cL_law 187 = .ok (.aload_n 0, 1) ∧ decode cL_law 188 = .ok (.iload_n 3, 1) ∧ decode cL_law 189 = .ok (.iconst 1, 1) := by decide +kernel
theorem dL_law_176 : decode cL_law 176 = .ok (.iadd, 1) := DL_law_c7.1
theorem dL_law_177 : decode cL_law 177 = .ok (.iaload, 1) := DL_law_c7.2.1
theorem dL_law_178 : decode cL_law 178 = .ok (.invokevirtual 22, 3) := DL_law_c7.2.2.1
theorem dL_law_181 : decode cL_law 181 = .ok (.if_icmp .eq 393, 3) := DL_law_c7.2.2.2.1
theorem dL_law_184 : decode cL_law 184 = .ok (.iconst 0, 1) := DL_law_c7.2.2.2.2.1
theorem dL_law_185 : decode cL_law 185 = .ok (.ireturn, 1) := DL_law_c7.2.2.2.2.2.1
theorem dL_law_186 : decode cL_law 186 = .ok (.aload_n 1, 1) := DL_law_c7.2.2.2.2.2.2.1
theorem dL_law_187 : decode cL_law 187 = .ok (.aload_n 0, 1) := DL_law_c7.2.2.2.2.2.2.2.1
theorem dL_law_188 : decode cL_law 188 = .ok (.iload_n 3, 1) := DL_law_c7.2.2.2.2.2.2.2.2.1
theorem dL_law_189 : decode cL_law 189 = .ok (.iconst 1, 1) := DL_law_c7.2.2.2.2.2.2.2.2.2
set_option maxRecDepth 100000 in
theorem DL_law_c8 : decode cL_law 190 = .ok (.iadd, 1) ∧ decode cL_law 191 = .ok (.iaload, 1) ∧ decode cL_law 192 = .ok (.invokevirtual 23, 3) ∧ decode cL_law 195 = .ok (.aload_n 2, 1) ∧ decode cL_law 196 = .ok (.aload_n 0, 1) ∧ decode cL_law 197 = .ok (.iload_n 3, 1) ∧ decode cL_law 198 = .ok (.iconst 1, 1) ∧ decode cL_law 199 = .ok (.iadd, 1) ∧ decode cL_law 200 = .ok (.iaload, 1) ∧ decode cL_law 201 = .ok (.invokevirtual 26, 3) := by decide +kernel
theorem dL_law_190 : decode cL_law 190 = .ok (.iadd, 1) := DL_law_c8.1
theorem dL_law_191 : decode cL_law 191 = .ok (.iaload, 1) := DL_law_c8.2.1
theorem dL_law_192 : decode cL_law 192 = .ok (.invokevirtual 23, 3) := DL_law_c8.2.2.1
theorem dL_law_195 : decode cL_law 195 = .ok (.aload_n 2, 1) := DL_law_c8.2.2.2.1
theorem dL_law_196 : decode cL_law 196 = .ok (.aload_n 0, 1) := DL_law_c8.2.2.2.2.1
theorem dL_law_197 : decode cL_law 197 = .ok (.iload_n 3, 1) := DL_law_c8.2.2.2.2.2.1
theorem dL_law_198 : decode cL_law 198 = .ok (.iconst 1, 1) := DL_law_c8.2.2.2.2.2.2.1
theorem dL_law_199 : decode cL_law 199 = .ok (.iadd, 1) := DL_law_c8.2.2.2.2.2.2.2.1
theorem dL_law_200 : decode cL_law 200 = .ok (.iaload, 1) := DL_law_c8.2.2.2.2.2.2.2.2.1
theorem dL_law_201 : decode cL_law 201 = .ok (.invokevirtual 26, 3) := DL_law_c8.2.2.2.2.2.2.2.2.2
set_option maxRecDepth 100000 in
theorem DL_law_c9 : decode cL_law 204 = .ok (.if_icmp .eq 370, 3) ∧ decode cL_law 207 = .ok (.iconst 0, 1) ∧ decode cL_law 208 = .ok (.ireturn, 1) ∧ decode cL_law 209 = .ok (.aload_n 1, 1) ∧ decode cL_law 210 = .ok (.invokevirtual 27, 3) ∧ decode cL_law 213 = .ok (.aload_n 2, 1) ∧ decode cL_law 214 = .ok (.invokevirtual 31, 3) ∧ decode cL_law 217 = .ok (.if_icmp .eq 357, 3) ∧ decode cL_law 220 = .ok (.iconst 0, 1) ∧ decode cL_law 221 = .ok (.ireturn, 1) := by decide +kernel
theorem dL_law_204 : decode cL_law 204 = .ok (.if_icmp .eq 370, 3) := DL_law_c9.1
theorem dL_law_207 : decode cL_law 207 = .ok (.iconst 0, 1) := DL_law_c9.2.1
theorem dL_law_208 : decode cL_law 208 = .ok (.ireturn, 1) := DL_law_c9.2.2.1
theorem dL_law_209 : decode cL_law 209 = .ok (.aload_n 1, 1) := DL_law_c9.2.2.2.1
theorem dL_law_210 : decode cL_law 210 = .ok (.invokevirtual 27, 3) := DL_law_c9.2.2.2.2.1
theorem dL_law_213 : decode cL_law 213 = .ok (.aload_n 2, 1) := DL_law_c9.2.2.2.2.2.1
theorem dL_law_214 : decode cL_law 214 = .ok (.invokevirtual 31, 3) := DL_law_c9.2.2.2.2.2.2.1
theorem dL_law_217 : decode cL_law 217 = .ok (.if_icmp .eq 357, 3) := DL_law_c9.2.2.2.2.2.2.2.1
theorem dL_law_220 : decode cL_law 220 = .ok (.iconst 0, 1) := DL_law_c9.2.2.2.2.2.2.2.2.1
theorem dL_law_221 : decode cL_law 221 = .ok (.ireturn, 1) := DL_law_c9.2.2.2.2.2.2.2.2.2
set_option maxRecDepth 100000 in
theorem DL_law_c10 : decode cL_law 222 = .ok (.aload_n 1, 1) ∧ decode cL_law 223 = .ok (.aload_n 0, 1) ∧ decode cL_law 224 = .ok (.iload_n 3, 1) ∧ decode cL_law 225 = .ok (.iconst 1, 1) ∧ decode cL_law 226 = .ok (.iadd, 1) ∧ decode cL_law 227 = .ok (.iaload, 1) ∧ decode cL_law 228 = .ok (.invokevirtual 32, 3) ∧ decode cL_law 231 = .ok (.aload_n 2, 1) ∧ decode cL_law 232 = .ok (.aload_n 0, 1) ∧ decode cL_law 233 = .ok (.iload_n 3, 1) := by decide +kernel
theorem dL_law_222 : decode cL_law 222 = .ok (.aload_n 1, 1) := DL_law_c10.1
theorem dL_law_223 : decode cL_law 223 = .ok (.aload_n 0, 1) := DL_law_c10.2.1
theorem dL_law_224 : decode cL_law 224 = .ok (.iload_n 3, 1) := DL_law_c10.2.2.1
theorem dL_law_225 : decode cL_law 225 = .ok (.iconst 1, 1) := DL_law_c10.2.2.2.1
theorem dL_law_226 : decode cL_law 226 = .ok (.iadd, 1) := DL_law_c10.2.2.2.2.1
theorem dL_law_227 : decode cL_law 227 = .ok (.iaload, 1) := DL_law_c10.2.2.2.2.2.1
theorem dL_law_228 : decode cL_law 228 = .ok (.invokevirtual 32, 3) := DL_law_c10.2.2.2.2.2.2.1
theorem dL_law_231 : decode cL_law 231 = .ok (.aload_n 2, 1) := DL_law_c10.2.2.2.2.2.2.2.1
theorem dL_law_232 : decode cL_law 232 = .ok (.aload_n 0, 1) := DL_law_c10.2.2.2.2.2.2.2.2.1
theorem dL_law_233 : decode cL_law 233 = .ok (.iload_n 3, 1) := DL_law_c10.2.2.2.2.2.2.2.2.2
set_option maxRecDepth 100000 in
theorem DL_law_c11 : decode cL_law 234 = .ok (.iconst 1, 1) ∧ decode cL_law 235 = .ok (.iadd, 1) ∧ decode cL_law 236 = .ok (.iaload, 1) ∧ decode cL_law 237 = .ok (.invokevirtual 35, 3) ∧ decode cL_law 240 = .ok (.if_icmp .eq 334, 3) ∧ decode cL_law 243 = .ok (.iconst 0, 1) ∧ decode cL_law 244 = .ok (.ireturn, 1) ∧ decode cL_law 245 = .ok (.aload_n 1, 1) ∧ decode cL_law 246 = .ok (.aload_n 0, 1) ∧ decode cL_law 247 = .ok (.iload_n 3, 1) := by decide +kernel
theorem dL_law_234 : decode cL_law 234 = .ok (.iconst 1, 1) := DL_law_c11.1
theorem dL_law_235 : decode cL_law 235 = .ok (.iadd, 1) := DL_law_c11.2.1
theorem dL_law_236 : decode cL_law 236 = .ok (.iaload, 1) := DL_law_c11.2.2.1
theorem dL_law_237 : decode cL_law 237 = .ok (.invokevirtual 35, 3) := DL_law_c11.2.2.2.1
theorem dL_law_240 : decode cL_law 240 = .ok (.if_icmp .eq 334, 3) := DL_law_c11.2.2.2.2.1
theorem dL_law_243 : decode cL_law 243 = .ok (.iconst 0, 1) := DL_law_c11.2.2.2.2.2.1
theorem dL_law_244 : decode cL_law 244 = .ok (.ireturn, 1) := DL_law_c11.2.2.2.2.2.2.1
theorem dL_law_245 : decode cL_law 245 = .ok (.aload_n 1, 1) := DL_law_c11.2.2.2.2.2.2.2.1
theorem dL_law_246 : decode cL_law 246 = .ok (.aload_n 0, 1) := DL_law_c11.2.2.2.2.2.2.2.2.1
theorem dL_law_247 : decode cL_law 247 = .ok (.iload_n 3, 1) := DL_law_c11.2.2.2.2.2.2.2.2.2
set_option maxRecDepth 100000 in
theorem DL_law_c12 : decode cL_law 248 = .ok (.iconst 1, 1) ∧ decode cL_law 249 = .ok (.iadd, 1) ∧ decode cL_law 250 = .ok (.iaload, 1) ∧ decode cL_law 251 = .ok (.aload_n 0, 1) ∧ decode cL_law 252 = .ok (.iload_n 3, 1) ∧ decode cL_law 253 = .ok (.iconst 2, 1) ∧ decode cL_law 254 = .ok (.iadd, 1) ∧ decode cL_law 255 = .ok (.iaload, 1) ∧ decode cL_law 256 = .ok (.invokevirtual 36, 3) ∧ decode cL_law 259 = .ok (.aload_n 2, 1) := by decide +kernel
theorem dL_law_248 : decode cL_law 248 = .ok (.iconst 1, 1) := DL_law_c12.1
theorem dL_law_249 : decode cL_law 249 = .ok (.iadd, 1) := DL_law_c12.2.1
theorem dL_law_250 : decode cL_law 250 = .ok (.iaload, 1) := DL_law_c12.2.2.1
theorem dL_law_251 : decode cL_law 251 = .ok (.aload_n 0, 1) := DL_law_c12.2.2.2.1
theorem dL_law_252 : decode cL_law 252 = .ok (.iload_n 3, 1) := DL_law_c12.2.2.2.2.1
theorem dL_law_253 : decode cL_law 253 = .ok (.iconst 2, 1) := DL_law_c12.2.2.2.2.2.1
theorem dL_law_254 : decode cL_law 254 = .ok (.iadd, 1) := DL_law_c12.2.2.2.2.2.2.1
theorem dL_law_255 : decode cL_law 255 = .ok (.iaload, 1) := DL_law_c12.2.2.2.2.2.2.2.1
theorem dL_law_256 : decode cL_law 256 = .ok (.invokevirtual 36, 3) := DL_law_c12.2.2.2.2.2.2.2.2.1
theorem dL_law_259 : decode cL_law 259 = .ok (.aload_n 2, 1) := DL_law_c12.2.2.2.2.2.2.2.2.2
set_option maxRecDepth 100000 in
theorem DL_law_c13 : decode cL_law 260 = .ok (.aload_n 0, 1) ∧ decode cL_law 261 = .ok (.iload_n 3, 1) ∧ decode cL_law 262 = .ok (.iconst 1, 1) ∧ decode cL_law 263 = .ok (.iadd, 1) ∧ decode cL_law 264 = .ok (.iaload, 1) ∧ decode cL_law 265 = .ok (.aload_n 0, 1) ∧ decode cL_law 266 = .ok (.iload_n 3, 1) ∧ decode cL_law 267 = .ok (.iconst 2, 1) ∧ decode cL_law 268 = .ok (.iadd, 1) ∧ decode cL_law 269 = .ok (.iaload, 1) := by decide +kernel
theorem dL_law_260 : decode cL_law 260 = .ok (.aload_n 0, 1) := DL_law_c13.1
theorem dL_law_261 : decode cL_law 261 = .ok (.iload_n 3, 1) := DL_law_c13.2.1
theorem dL_law_262 : decode cL_law 262 = .ok (.iconst 1, 1) := DL_law_c13.2.2.1
theorem dL_law_263 : decode cL_law 263 = .ok (.iadd, 1) := DL_law_c13.2.2.2.1
theorem dL_law_264 : decode cL_law 264 = .ok (.iaload, 1) := DL_law_c13.2.2.2.2.1
theorem dL_law_265 : decode cL_law 265 = .ok (.aload_n 0, 1) := DL_law_c13.2.2.2.2.2.1
theorem dL_law_266 : decode cL_law 266 = .ok (.iload_n 3, 1) := DL_law_c13.2.2.2.2.2.2.1
theorem dL_law_267 : decode cL_law 267 = .ok (.iconst 2, 1) := DL_law_c13.2.2.2.2.2.2.2.1
theorem dL_law_268 : decode cL_law 268 = .ok (.iadd, 1) := DL_law_c13.2.2.2.2.2.2.2.2.1
theorem dL_law_269 : decode cL_law 269 = .ok (.iaload, 1) := DL_law_c13.2.2.2.2.2.2.2.2.2
set_option maxRecDepth 100000 in
theorem DL_law_c14 : decode cL_law 270 = .ok (.invokevirtual 40, 3) ∧ decode cL_law 273 = .ok (.if_icmp .eq 301, 3) ∧ decode cL_law 276 = .ok (.iconst 0, 1) ∧ decode cL_law 277 = .ok (.ireturn, 1) ∧ decode cL_law 278 = .ok (.aload_n 1, 1) ∧ decode cL_law 279 = .ok (.aload_n 0, 1) ∧ decode cL_law 280 = .ok (.iload_n 3, 1) ∧ decode cL_law 281 = .ok (.iconst 1, 1) ∧ decode cL_law 282 = .ok (.iadd, 1) ∧ decode cL_law 283 = .ok (.iaload, 1) := by decide +kernel
theorem dL_law_270 : decode cL_law 270 = .ok (.invokevirtual 40, 3) := DL_law_c14.1
theorem dL_law_273 : decode cL_law 273 = .ok (.if_icmp .eq 301, 3) := DL_law_c14.2.1
theorem dL_law_276 : decode cL_law 276 = .ok (.iconst 0, 1) := DL_law_c14.2.2.1
theorem dL_law_277 : decode cL_law 277 = .ok (.ireturn, 1) := DL_law_c14.2.2.2.1
theorem dL_law_278 : decode cL_law 278 = .ok (.aload_n 1, 1) := DL_law_c14.2.2.2.2.1
theorem dL_law_279 : decode cL_law 279 = .ok (.aload_n 0, 1) := DL_law_c14.2.2.2.2.2.1
theorem dL_law_280 : decode cL_law 280 = .ok (.iload_n 3, 1) := DL_law_c14.2.2.2.2.2.2.1
theorem dL_law_281 : decode cL_law 281 = .ok (.iconst 1, 1) := DL_law_c14.2.2.2.2.2.2.2.1
theorem dL_law_282 : decode cL_law 282 = .ok (.iadd, 1) := DL_law_c14.2.2.2.2.2.2.2.2.1
theorem dL_law_283 : decode cL_law 283 = .ok (.iaload, 1) := DL_law_c14.2.2.2.2.2.2.2.2.2
set_option maxRecDepth 100000 in
theorem DL_law_c15 : decode cL_law 284 = .ok (.aload_n 0, 1) ∧ decode cL_law 285 = .ok (.iload_n 3, 1) ∧ decode cL_law 286 = .ok (.iconst 2, 1) ∧ decode cL_law 287 = .ok (.iadd, 1) ∧ decode cL_law 288 = .ok (.iaload, 1) ∧ decode cL_law 289 = .ok (.aload_n 0, 1) ∧ decode cL_law 290 = .ok (.iload_n 3, 1) ∧ decode cL_law 291 = .ok (.iconst 3, 1) ∧ decode cL_law 292 = .ok (.iadd, 1) ∧ decode cL_law 293 = .ok (.iaload, 1) := by decide +kernel
theorem dL_law_284 : decode cL_law 284 = .ok (.aload_n 0, 1) := DL_law_c15.1
theorem dL_law_285 : decode cL_law 285 = .ok (.iload_n 3, 1) := DL_law_c15.2.1
theorem dL_law_286 : decode cL_law 286 = .ok (.iconst 2, 1) := DL_law_c15.2.2.1
theorem dL_law_287 : decode cL_law 287 = .ok (.iadd, 1) := DL_law_c15.2.2.2.1
theorem dL_law_288 : decode cL_law 288 = .ok (.iaload, 1) := DL_law_c15.2.2.2.2.1
theorem dL_law_289 : decode cL_law 289 = .ok (.aload_n 0, 1) := DL_law_c15.2.2.2.2.2.1
theorem dL_law_290 : decode cL_law 290 = .ok (.iload_n 3, 1) := DL_law_c15.2.2.2.2.2.2.1
theorem dL_law_291 : decode cL_law 291 = .ok (.iconst 3, 1) := DL_law_c15.2.2.2.2.2.2.2.1
theorem dL_law_292 : decode cL_law 292 = .ok (.iadd, 1) := DL_law_c15.2.2.2.2.2.2.2.2.1
theorem dL_law_293 : decode cL_law 293 = .ok (.iaload, 1) := DL_law_c15.2.2.2.2.2.2.2.2.2
set_option maxRecDepth 100000 in
theorem DL_law_c16 : decode cL_law 294 = .ok (.invokevirtual 41, 3) ∧ decode cL_law 297 = .ok (.aload_n 2, 1) ∧ decode cL_law 298 = .ok (.aload_n 0, 1) ∧ decode cL_law 299 = .ok (.iload_n 3, 1) ∧ decode cL_law 300 = .ok (.iconst 1, 1) ∧ decode cL_law 301 = .ok (.iadd, 1) ∧ decode cL_law 302 = .ok (.iaload, 1) ∧ decode cL_law 303 = .ok (.aload_n 0, 1) ∧ decode cL_law 304 = .ok (.iload_n 3, 1) ∧ decode cL_law 305 = .ok (.iconst 2, 1) := by decide +kernel
theorem dL_law_294 : decode cL_law 294 = .ok (.invokevirtual 41, 3) := DL_law_c16.1
theorem dL_law_297 : decode cL_law 297 = .ok (.aload_n 2, 1) := DL_law_c16.2.1
theorem dL_law_298 : decode cL_law 298 = .ok (.aload_n 0, 1) := DL_law_c16.2.2.1
theorem dL_law_299 : decode cL_law 299 = .ok (.iload_n 3, 1) := DL_law_c16.2.2.2.1
theorem dL_law_300 : decode cL_law 300 = .ok (.iconst 1, 1) := DL_law_c16.2.2.2.2.1
theorem dL_law_301 : decode cL_law 301 = .ok (.iadd, 1) := DL_law_c16.2.2.2.2.2.1
theorem dL_law_302 : decode cL_law 302 = .ok (.iaload, 1) := DL_law_c16.2.2.2.2.2.2.1
theorem dL_law_303 : decode cL_law 303 = .ok (.aload_n 0, 1) := DL_law_c16.2.2.2.2.2.2.2.1
theorem dL_law_304 : decode cL_law 304 = .ok (.iload_n 3, 1) := DL_law_c16.2.2.2.2.2.2.2.2.1
theorem dL_law_305 : decode cL_law 305 = .ok (.iconst 2, 1) := DL_law_c16.2.2.2.2.2.2.2.2.2
set_option maxRecDepth 100000 in
theorem DL_law_c17 : decode cL_law 306 = .ok (.iadd, 1) ∧ decode cL_law 307 = .ok (.iaload, 1) ∧ decode cL_law 308 = .ok (.aload_n 0, 1) ∧ decode cL_law 309 = .ok (.iload_n 3, 1) ∧ decode cL_law 310 = .ok (.iconst 3, 1) ∧ decode cL_law 311 = .ok (.iadd, 1) ∧ decode cL_law 312 = .ok (.iaload, 1) ∧ decode cL_law 313 = .ok (.invokevirtual 44, 3) ∧ decode cL_law 316 = .ok (.if_icmp .eq 258, 3) ∧ decode cL_law 319 = .ok (.iconst 0, 1) := by decide +kernel
theorem dL_law_306 : decode cL_law 306 = .ok (.iadd, 1) := DL_law_c17.1
theorem dL_law_307 : decode cL_law 307 = .ok (.iaload, 1) := DL_law_c17.2.1
theorem dL_law_308 : decode cL_law 308 = .ok (.aload_n 0, 1) := DL_law_c17.2.2.1
theorem dL_law_309 : decode cL_law 309 = .ok (.iload_n 3, 1) := DL_law_c17.2.2.2.1
theorem dL_law_310 : decode cL_law 310 = .ok (.iconst 3, 1) := DL_law_c17.2.2.2.2.1
theorem dL_law_311 : decode cL_law 311 = .ok (.iadd, 1) := DL_law_c17.2.2.2.2.2.1
theorem dL_law_312 : decode cL_law 312 = .ok (.iaload, 1) := DL_law_c17.2.2.2.2.2.2.1
theorem dL_law_313 : decode cL_law 313 = .ok (.invokevirtual 44, 3) := DL_law_c17.2.2.2.2.2.2.2.1
theorem dL_law_316 : decode cL_law 316 = .ok (.if_icmp .eq 258, 3) := DL_law_c17.2.2.2.2.2.2.2.2.1
theorem dL_law_319 : decode cL_law 319 = .ok (.iconst 0, 1) := DL_law_c17.2.2.2.2.2.2.2.2.2
set_option maxRecDepth 100000 in
theorem DL_law_c18 : decode cL_law 320 = .ok (.ireturn, 1) ∧ decode cL_law 321 = .ok (.aload_n 1, 1) ∧ decode cL_law 322 = .ok (.aload_n 0, 1) ∧ decode cL_law 323 = .ok (.iload_n 3, 1) ∧ decode cL_law 324 = .ok (.iconst 1, 1) ∧ decode cL_law 325 = .ok (.iadd, 1) ∧ decode cL_law 326 = .ok (.iaload, 1) ∧ decode cL_law 327 = .ok (.invokevirtual 45, 3) ∧ decode cL_law 330 = .ok (.aload_n 2, 1) ∧ decode cL_law 331 = .ok (.aload_n 0, 1) := by decide +kernel
theorem dL_law_320 : decode cL_law 320 = .ok (.ireturn, 1) := DL_law_c18.1
theorem dL_law_321 : decode cL_law 321 = .ok (.aload_n 1, 1) := DL_law_c18.2.1
theorem dL_law_322 : decode cL_law 322 = .ok (.aload_n 0, 1) := DL_law_c18.2.2.1
theorem dL_law_323 : decode cL_law 323 = .ok (.iload_n 3, 1) := DL_law_c18.2.2.2.1
theorem dL_law_324 : decode cL_law 324 = .ok (.iconst 1, 1) := DL_law_c18.2.2.2.2.1
theorem dL_law_325 : decode cL_law 325 = .ok (.iadd, 1) := DL_law_c18.2.2.2.2.2.1
theorem dL_law_326 : decode cL_law 326 = .ok (.iaload, 1) := DL_law_c18.2.2.2.2.2.2.1
theorem dL_law_327 : decode cL_law 327 = .ok (.invokevirtual 45, 3) := DL_law_c18.2.2.2.2.2.2.2.1
theorem dL_law_330 : decode cL_law 330 = .ok (.aload_n 2, 1) := DL_law_c18.2.2.2.2.2.2.2.2.1
theorem dL_law_331 : decode cL_law 331 = .ok (.aload_n 0, 1) := DL_law_c18.2.2.2.2.2.2.2.2.2
set_option maxRecDepth 100000 in
theorem DL_law_c19 : decode cL_law 332 = .ok (.iload_n 3, 1) ∧ decode cL_law 333 = .ok (.iconst 1, 1) ∧ decode cL_law 334 = .ok (.iadd, 1) ∧ decode cL_law 335 = .ok (.iaload, 1) ∧ decode cL_law 336 = .ok (.invokevirtual 48, 3) ∧ decode cL_law 339 = .ok (.if_icmp .eq 235, 3) ∧ decode cL_law 342 = .ok (.iconst 0, 1) ∧ decode cL_law 343 = .ok (.ireturn, 1) ∧ decode cL_law 344 = .ok (.aload_n 1, 1) ∧ decode cL_law 345 = .ok (.aload_n 0, 1) := by decide +kernel
theorem dL_law_332 : decode cL_law 332 = .ok (.iload_n 3, 1) := DL_law_c19.1
theorem dL_law_333 : decode cL_law 333 = .ok (.iconst 1, 1) := DL_law_c19.2.1
theorem dL_law_334 : decode cL_law 334 = .ok (.iadd, 1) := DL_law_c19.2.2.1
theorem dL_law_335 : decode cL_law 335 = .ok (.iaload, 1) := DL_law_c19.2.2.2.1
theorem dL_law_336 : decode cL_law 336 = .ok (.invokevirtual 48, 3) := DL_law_c19.2.2.2.2.1
theorem dL_law_339 : decode cL_law 339 = .ok (.if_icmp .eq 235, 3) := DL_law_c19.2.2.2.2.2.1
theorem dL_law_342 : decode cL_law 342 = .ok (.iconst 0, 1) := DL_law_c19.2.2.2.2.2.2.1
theorem dL_law_343 : decode cL_law 343 = .ok (.ireturn, 1) := DL_law_c19.2.2.2.2.2.2.2.1
theorem dL_law_344 : decode cL_law 344 = .ok (.aload_n 1, 1) := DL_law_c19.2.2.2.2.2.2.2.2.1
theorem dL_law_345 : decode cL_law 345 = .ok (.aload_n 0, 1) := DL_law_c19.2.2.2.2.2.2.2.2.2
set_option maxRecDepth 100000 in
theorem DL_law_c20 : decode cL_law 346 = .ok (.iload_n 3, 1) ∧ decode cL_law 347 = .ok (.iconst 1, 1) ∧ decode cL_law 348 = .ok (.iadd, 1) ∧ decode cL_law 349 = .ok (.iaload, 1) ∧ decode cL_law 350 = .ok (.invokevirtual 49, 3) ∧ decode cL_law 353 = .ok (.aload_n 2, 1) ∧ decode cL_law 354 = .ok (.aload_n 0, 1) ∧ decode cL_law 355 = .ok (.iload_n 3, 1) ∧ decode cL_law 356 = .ok (.iconst 1, 1) ∧ decode cL_law 357 = .ok (.iadd, 1) := by decide +kernel
theorem dL_law_346 : decode cL_law 346 = .ok (.iload_n 3, 1) := DL_law_c20.1
theorem dL_law_347 : decode cL_law 347 = .ok (.iconst 1, 1) := DL_law_c20.2.1
theorem dL_law_348 : decode cL_law 348 = .ok (.iadd, 1) := DL_law_c20.2.2.1
theorem dL_law_349 : decode cL_law 349 = .ok (.iaload, 1) := DL_law_c20.2.2.2.1
theorem dL_law_350 : decode cL_law 350 = .ok (.invokevirtual 49, 3) := DL_law_c20.2.2.2.2.1
theorem dL_law_353 : decode cL_law 353 = .ok (.aload_n 2, 1) := DL_law_c20.2.2.2.2.2.1
theorem dL_law_354 : decode cL_law 354 = .ok (.aload_n 0, 1) := DL_law_c20.2.2.2.2.2.2.1
theorem dL_law_355 : decode cL_law 355 = .ok (.iload_n 3, 1) := DL_law_c20.2.2.2.2.2.2.2.1
theorem dL_law_356 : decode cL_law 356 = .ok (.iconst 1, 1) := DL_law_c20.2.2.2.2.2.2.2.2.1
theorem dL_law_357 : decode cL_law 357 = .ok (.iadd, 1) := DL_law_c20.2.2.2.2.2.2.2.2.2
set_option maxRecDepth 100000 in
theorem DL_law_c21 : decode cL_law 358 = .ok (.iaload, 1) ∧ decode cL_law 359 = .ok (.invokevirtual 52, 3) ∧ decode cL_law 362 = .ok (.if_icmp .eq 212, 3) ∧ decode cL_law 365 = .ok (.iconst 0, 1) ∧ decode cL_law 366 = .ok (.ireturn, 1) ∧ decode cL_law 367 = .ok (.aload_n 1, 1) ∧ decode cL_law 368 = .ok (.invokevirtual 53, 3) ∧ decode cL_law 371 = .ok (.aload_n 2, 1) ∧ decode cL_law 372 = .ok (.invokevirtual 56, 3) ∧ decode cL_law 375 = .ok (.if_icmp .eq 199, 3) := by decide +kernel
theorem dL_law_358 : decode cL_law 358 = .ok (.iaload, 1) := DL_law_c21.1
theorem dL_law_359 : decode cL_law 359 = .ok (.invokevirtual 52, 3) := DL_law_c21.2.1
theorem dL_law_362 : decode cL_law 362 = .ok (.if_icmp .eq 212, 3) := DL_law_c21.2.2.1
theorem dL_law_365 : decode cL_law 365 = .ok (.iconst 0, 1) := DL_law_c21.2.2.2.1
theorem dL_law_366 : decode cL_law 366 = .ok (.ireturn, 1) := DL_law_c21.2.2.2.2.1
theorem dL_law_367 : decode cL_law 367 = .ok (.aload_n 1, 1) := DL_law_c21.2.2.2.2.2.1
theorem dL_law_368 : decode cL_law 368 = .ok (.invokevirtual 53, 3) := DL_law_c21.2.2.2.2.2.2.1
theorem dL_law_371 : decode cL_law 371 = .ok (.aload_n 2, 1) := DL_law_c21.2.2.2.2.2.2.2.1
theorem dL_law_372 : decode cL_law 372 = .ok (.invokevirtual 56, 3) := DL_law_c21.2.2.2.2.2.2.2.2.1
theorem dL_law_375 : decode cL_law 375 = .ok (.if_icmp .eq 199, 3) := DL_law_c21.2.2.2.2.2.2.2.2.2
set_option maxRecDepth 100000 in
theorem DL_law_c22 : decode cL_law 378 = .ok (.iconst 0, 1) ∧ decode cL_law 379 = .ok (.ireturn, 1) ∧ decode cL_law 380 = .ok (.aload_n 1, 1) ∧ decode cL_law 381 = .ok (.aload_n 0, 1) ∧ decode cL_law 382 = .ok (.iload_n 3, 1) ∧ decode cL_law 383 = .ok (.iconst 1, 1) ∧ decode cL_law 384 = .ok (.iadd, 1) ∧ decode cL_law 385 = .ok (.iaload, 1) ∧ decode cL_law 386 = .ok (.invokevirtual 57, 3) ∧ decode cL_law 389 = .ok (.aload_n 2, 1) := by decide +kernel
theorem dL_law_378 : decode cL_law 378 = .ok (.iconst 0, 1) := DL_law_c22.1
theorem dL_law_379 : decode cL_law 379 = .ok (.ireturn, 1) := DL_law_c22.2.1
theorem dL_law_380 : decode cL_law 380 = .ok (.aload_n 1, 1) := DL_law_c22.2.2.1
theorem dL_law_381 : decode cL_law 381 = .ok (.aload_n 0, 1) := DL_law_c22.2.2.2.1
theorem dL_law_382 : decode cL_law 382 = .ok (.iload_n 3, 1) := DL_law_c22.2.2.2.2.1
theorem dL_law_383 : decode cL_law 383 = .ok (.iconst 1, 1) := DL_law_c22.2.2.2.2.2.1
theorem dL_law_384 : decode cL_law 384 = .ok (.iadd, 1) := DL_law_c22.2.2.2.2.2.2.1
theorem dL_law_385 : decode cL_law 385 = .ok (.iaload, 1) := DL_law_c22.2.2.2.2.2.2.2.1
theorem dL_law_386 : decode cL_law 386 = .ok (.invokevirtual 57, 3) := DL_law_c22.2.2.2.2.2.2.2.2.1
theorem dL_law_389 : decode cL_law 389 = .ok (.aload_n 2, 1) := DL_law_c22.2.2.2.2.2.2.2.2.2
set_option maxRecDepth 100000 in
theorem DL_law_c23 : decode cL_law 390 = .ok (.aload_n 0, 1) ∧ decode cL_law 391 = .ok (.iload_n 3, 1) ∧ decode cL_law 392 = .ok (.iconst 1, 1) ∧ decode cL_law 393 = .ok (.iadd, 1) ∧ decode cL_law 394 = .ok (.iaload, 1) ∧ decode cL_law 395 = .ok (.invokevirtual 60, 3) ∧ decode cL_law 398 = .ok (.if_icmp .eq 176, 3) ∧ decode cL_law 401 = .ok (.iconst 0, 1) ∧ decode cL_law 402 = .ok (.ireturn, 1) ∧ decode cL_law 403 = .ok (.aload_n 1, 1) := by decide +kernel
theorem dL_law_390 : decode cL_law 390 = .ok (.aload_n 0, 1) := DL_law_c23.1
theorem dL_law_391 : decode cL_law 391 = .ok (.iload_n 3, 1) := DL_law_c23.2.1
theorem dL_law_392 : decode cL_law 392 = .ok (.iconst 1, 1) := DL_law_c23.2.2.1
theorem dL_law_393 : decode cL_law 393 = .ok (.iadd, 1) := DL_law_c23.2.2.2.1
theorem dL_law_394 : decode cL_law 394 = .ok (.iaload, 1) := DL_law_c23.2.2.2.2.1
theorem dL_law_395 : decode cL_law 395 = .ok (.invokevirtual 60, 3) := DL_law_c23.2.2.2.2.2.1
theorem dL_law_398 : decode cL_law 398 = .ok (.if_icmp .eq 176, 3) := DL_law_c23.2.2.2.2.2.2.1
theorem dL_law_401 : decode cL_law 401 = .ok (.iconst 0, 1) := DL_law_c23.2.2.2.2.2.2.2.1
theorem dL_law_402 : decode cL_law 402 = .ok (.ireturn, 1) := DL_law_c23.2.2.2.2.2.2.2.2.1
theorem dL_law_403 : decode cL_law 403 = .ok (.aload_n 1, 1) := DL_law_c23.2.2.2.2.2.2.2.2.2
set_option maxRecDepth 100000 in
theorem DL_law_c24 : decode cL_law 404 = .ok (.aload_n 0, 1) ∧ decode cL_law 405 = .ok (.iload_n 3, 1) ∧ decode cL_law 406 = .ok (.iconst 1, 1) ∧ decode cL_law 407 = .ok (.iadd, 1) ∧ decode cL_law 408 = .ok (.iaload, 1) ∧ decode cL_law 409 = .ok (.invokevirtual 61, 3) ∧ decode cL_law 412 = .ok (.aload_n 2, 1) ∧ decode cL_law 413 = .ok (.aload_n 0, 1) ∧ decode cL_law 414 = .ok (.iload_n 3, 1) ∧ decode cL_law 415 = .ok (.iconst 1, 1) := by decide +kernel
theorem dL_law_404 : decode cL_law 404 = .ok (.aload_n 0, 1) := DL_law_c24.1
theorem dL_law_405 : decode cL_law 405 = .ok (.iload_n 3, 1) := DL_law_c24.2.1
theorem dL_law_406 : decode cL_law 406 = .ok (.iconst 1, 1) := DL_law_c24.2.2.1
theorem dL_law_407 : decode cL_law 407 = .ok (.iadd, 1) := DL_law_c24.2.2.2.1
theorem dL_law_408 : decode cL_law 408 = .ok (.iaload, 1) := DL_law_c24.2.2.2.2.1
theorem dL_law_409 : decode cL_law 409 = .ok (.invokevirtual 61, 3) := DL_law_c24.2.2.2.2.2.1
theorem dL_law_412 : decode cL_law 412 = .ok (.aload_n 2, 1) := DL_law_c24.2.2.2.2.2.2.1
theorem dL_law_413 : decode cL_law 413 = .ok (.aload_n 0, 1) := DL_law_c24.2.2.2.2.2.2.2.1
theorem dL_law_414 : decode cL_law 414 = .ok (.iload_n 3, 1) := DL_law_c24.2.2.2.2.2.2.2.2.1
theorem dL_law_415 : decode cL_law 415 = .ok (.iconst 1, 1) := DL_law_c24.2.2.2.2.2.2.2.2.2
set_option maxRecDepth 100000 in
theorem DL_law_c25 : decode cL_law 416 = .ok (.iadd, 1) ∧ decode cL_law 417 = .ok (.iaload, 1) ∧ decode cL_law 418 = .ok (.invokevirtual 64, 3) ∧ decode cL_law 421 = .ok (.if_icmp .eq 153, 3) ∧ decode cL_law 424 = .ok (.iconst 0, 1) ∧ decode cL_law 425 = .ok (.ireturn, 1) ∧ decode cL_law 426 = .ok (.aload_n 1, 1) ∧ decode cL_law 427 = .ok (.aload_n 0, 1) ∧ decode cL_law 428 = .ok (.iload_n 3, 1) ∧ decode cL_law 429 = .ok (.iconst 1, 1) := by decide +kernel
theorem dL_law_416 : decode cL_law 416 = .ok (.iadd, 1) := DL_law_c25.1
theorem dL_law_417 : decode cL_law 417 = .ok (.iaload, 1) := DL_law_c25.2.1
theorem dL_law_418 : decode cL_law 418 = .ok (.invokevirtual 64, 3) := DL_law_c25.2.2.1
theorem dL_law_421 : decode cL_law 421 = .ok (.if_icmp .eq 153, 3) := DL_law_c25.2.2.2.1
theorem dL_law_424 : decode cL_law 424 = .ok (.iconst 0, 1) := DL_law_c25.2.2.2.2.1
theorem dL_law_425 : decode cL_law 425 = .ok (.ireturn, 1) := DL_law_c25.2.2.2.2.2.1
theorem dL_law_426 : decode cL_law 426 = .ok (.aload_n 1, 1) := DL_law_c25.2.2.2.2.2.2.1
theorem dL_law_427 : decode cL_law 427 = .ok (.aload_n 0, 1) := DL_law_c25.2.2.2.2.2.2.2.1
theorem dL_law_428 : decode cL_law 428 = .ok (.iload_n 3, 1) := DL_law_c25.2.2.2.2.2.2.2.2.1
theorem dL_law_429 : decode cL_law 429 = .ok (.iconst 1, 1) := DL_law_c25.2.2.2.2.2.2.2.2.2
set_option maxRecDepth 100000 in
theorem DL_law_c26 : decode cL_law 430 = .ok (.iadd, 1) ∧ decode cL_law 431 = .ok (.iaload, 1) ∧ decode cL_law 432 = .ok (.aload_n 0, 1) ∧ decode cL_law 433 = .ok (.iload_n 3, 1) ∧ decode cL_law 434 = .ok (.iconst 2, 1) ∧ decode cL_law 435 = .ok (.iadd, 1) ∧ decode cL_law 436 = .ok (.iaload, 1) ∧ decode cL_law 437 = .ok (.invokevirtual 65, 3) ∧ decode cL_law 440 = .ok (.aload_n 2, 1) ∧ decode cL_law 441 = .ok (.aload_n 0, 1) := by decide +kernel
theorem dL_law_430 : decode cL_law 430 = .ok (.iadd, 1) := DL_law_c26.1
theorem dL_law_431 : decode cL_law 431 = .ok (.iaload, 1) := DL_law_c26.2.1
theorem dL_law_432 : decode cL_law 432 = .ok (.aload_n 0, 1) := DL_law_c26.2.2.1
theorem dL_law_433 : decode cL_law 433 = .ok (.iload_n 3, 1) := DL_law_c26.2.2.2.1
theorem dL_law_434 : decode cL_law 434 = .ok (.iconst 2, 1) := DL_law_c26.2.2.2.2.1
theorem dL_law_435 : decode cL_law 435 = .ok (.iadd, 1) := DL_law_c26.2.2.2.2.2.1
theorem dL_law_436 : decode cL_law 436 = .ok (.iaload, 1) := DL_law_c26.2.2.2.2.2.2.1
theorem dL_law_437 : decode cL_law 437 = .ok (.invokevirtual 65, 3) := DL_law_c26.2.2.2.2.2.2.2.1
theorem dL_law_440 : decode cL_law 440 = .ok (.aload_n 2, 1) := DL_law_c26.2.2.2.2.2.2.2.2.1
theorem dL_law_441 : decode cL_law 441 = .ok (.aload_n 0, 1) := DL_law_c26.2.2.2.2.2.2.2.2.2
set_option maxRecDepth 100000 in
theorem DL_law_c27 : decode cL_law 442 = .ok (.iload_n 3, 1) ∧ decode cL_law 443 = .ok (.iconst 1, 1) ∧ decode cL_law 444 = .ok (.iadd, 1) ∧ decode cL_law 445 = .ok (.iaload, 1) ∧ decode cL_law 446 = .ok (.aload_n 0, 1) ∧ decode cL_law 447 = .ok (.iload_n 3, 1) ∧ decode cL_law 448 = .ok (.iconst 2, 1) ∧ decode cL_law 449 = .ok (.iadd, 1) ∧ decode cL_law 450 = .ok (.iaload, 1) ∧ decode cL_law 451 = .ok (.invokevirtual 68, 3) := by decide +kernel
theorem dL_law_442 : decode cL_law 442 = .ok (.iload_n 3, 1) := DL_law_c27.1
theorem dL_law_443 : decode cL_law 443 = .ok (.iconst 1, 1) := DL_law_c27.2.1
theorem dL_law_444 : decode cL_law 444 = .ok (.iadd, 1) := DL_law_c27.2.2.1
theorem dL_law_445 : decode cL_law 445 = .ok (.iaload, 1) := DL_law_c27.2.2.2.1
theorem dL_law_446 : decode cL_law 446 = .ok (.aload_n 0, 1) := DL_law_c27.2.2.2.2.1
theorem dL_law_447 : decode cL_law 447 = .ok (.iload_n 3, 1) := DL_law_c27.2.2.2.2.2.1
theorem dL_law_448 : decode cL_law 448 = .ok (.iconst 2, 1) := DL_law_c27.2.2.2.2.2.2.1
theorem dL_law_449 : decode cL_law 449 = .ok (.iadd, 1) := DL_law_c27.2.2.2.2.2.2.2.1
theorem dL_law_450 : decode cL_law 450 = .ok (.iaload, 1) := DL_law_c27.2.2.2.2.2.2.2.2.1
theorem dL_law_451 : decode cL_law 451 = .ok (.invokevirtual 68, 3) := DL_law_c27.2.2.2.2.2.2.2.2.2
set_option maxRecDepth 100000 in
theorem DL_law_c28 : decode cL_law 454 = .ok (.if_icmp .eq 120, 3) ∧ decode cL_law 457 = .ok (.iconst 0, 1) ∧ decode cL_law 458 = .ok (.ireturn, 1) ∧ decode cL_law 459 = .ok (.aload_n 1, 1) ∧ decode cL_law 460 = .ok (.aload_n 0, 1) ∧ decode cL_law 461 = .ok (.iload_n 3, 1) ∧ decode cL_law 462 = .ok (.iconst 1, 1) ∧ decode cL_law 463 = .ok (.iadd, 1) ∧ decode cL_law 464 = .ok (.iaload, 1) ∧ decode cL_law 465 = .ok (.invokevirtual 69, 3) := by decide +kernel
theorem dL_law_454 : decode cL_law 454 = .ok (.if_icmp .eq 120, 3) := DL_law_c28.1
theorem dL_law_457 : decode cL_law 457 = .ok (.iconst 0, 1) := DL_law_c28.2.1
theorem dL_law_458 : decode cL_law 458 = .ok (.ireturn, 1) := DL_law_c28.2.2.1
theorem dL_law_459 : decode cL_law 459 = .ok (.aload_n 1, 1) := DL_law_c28.2.2.2.1
theorem dL_law_460 : decode cL_law 460 = .ok (.aload_n 0, 1) := DL_law_c28.2.2.2.2.1
theorem dL_law_461 : decode cL_law 461 = .ok (.iload_n 3, 1) := DL_law_c28.2.2.2.2.2.1
theorem dL_law_462 : decode cL_law 462 = .ok (.iconst 1, 1) := DL_law_c28.2.2.2.2.2.2.1
theorem dL_law_463 : decode cL_law 463 = .ok (.iadd, 1) := DL_law_c28.2.2.2.2.2.2.2.1
theorem dL_law_464 : decode cL_law 464 = .ok (.iaload, 1) := DL_law_c28.2.2.2.2.2.2.2.2.1
theorem dL_law_465 : decode cL_law 465 = .ok (.invokevirtual 69, 3) := DL_law_c28.2.2.2.2.2.2.2.2.2
set_option maxRecDepth 100000 in
theorem DL_law_c29 : decode cL_law 468 = .ok (.aload_n 2, 1) ∧ decode cL_law 469 = .ok (.aload_n 0, 1) ∧ decode cL_law 470 = .ok (.iload_n 3, 1) ∧ decode cL_law 471 = .ok (.iconst 1, 1) ∧ decode cL_law 472 = .ok (.iadd, 1) ∧ decode cL_law 473 = .ok (.iaload, 1) ∧ decode cL_law 474 = .ok (.invokevirtual 72, 3) ∧ decode cL_law 477 = .ok (.if_icmp .eq 97, 3) ∧ decode cL_law 480 = .ok (.iconst 0, 1) ∧ decode cL_law 481 = .ok (.ireturn, 1) := by decide +kernel
theorem dL_law_468 : decode cL_law 468 = .ok (.aload_n 2, 1) := DL_law_c29.1
theorem dL_law_469 : decode cL_law 469 = .ok (.aload_n 0, 1) := DL_law_c29.2.1
theorem dL_law_470 : decode cL_law 470 = .ok (.iload_n 3, 1) := DL_law_c29.2.2.1
theorem dL_law_471 : decode cL_law 471 = .ok (.iconst 1, 1) := DL_law_c29.2.2.2.1
theorem dL_law_472 : decode cL_law 472 = .ok (.iadd, 1) := DL_law_c29.2.2.2.2.1
theorem dL_law_473 : decode cL_law 473 = .ok (.iaload, 1) := DL_law_c29.2.2.2.2.2.1
theorem dL_law_474 : decode cL_law 474 = .ok (.invokevirtual 72, 3) := DL_law_c29.2.2.2.2.2.2.1
theorem dL_law_477 : decode cL_law 477 = .ok (.if_icmp .eq 97, 3) := DL_law_c29.2.2.2.2.2.2.2.1
theorem dL_law_480 : decode cL_law 480 = .ok (.iconst 0, 1) := DL_law_c29.2.2.2.2.2.2.2.2.1
theorem dL_law_481 : decode cL_law 481 = .ok (.ireturn, 1) := DL_law_c29.2.2.2.2.2.2.2.2.2
set_option maxRecDepth 100000 in
theorem DL_law_c30 : decode cL_law 482 = .ok (.aload_n 1, 1) ∧ decode cL_law 483 = .ok (.aload_n 0, 1) ∧ decode cL_law 484 = .ok (.iload_n 3, 1) ∧ decode cL_law 485 = .ok (.iconst 1, 1) ∧ decode cL_law 486 = .ok (.iadd, 1) ∧ decode cL_law 487 = .ok (.iaload, 1) ∧ decode cL_law 488 = .ok (.invokevirtual 73, 3) ∧ decode cL_law 491 = .ok (.aload_n 2, 1) ∧ decode cL_law 492 = .ok (.aload_n 0, 1) ∧ decode cL_law 493 = .ok (.iload_n 3, 1) := by decide +kernel
theorem dL_law_482 : decode cL_law 482 = .ok (.aload_n 1, 1) := DL_law_c30.1
theorem dL_law_483 : decode cL_law 483 = .ok (.aload_n 0, 1) := DL_law_c30.2.1
theorem dL_law_484 : decode cL_law 484 = .ok (.iload_n 3, 1) := DL_law_c30.2.2.1
theorem dL_law_485 : decode cL_law 485 = .ok (.iconst 1, 1) := DL_law_c30.2.2.2.1
theorem dL_law_486 : decode cL_law 486 = .ok (.iadd, 1) := DL_law_c30.2.2.2.2.1
theorem dL_law_487 : decode cL_law 487 = .ok (.iaload, 1) := DL_law_c30.2.2.2.2.2.1
theorem dL_law_488 : decode cL_law 488 = .ok (.invokevirtual 73, 3) := DL_law_c30.2.2.2.2.2.2.1
theorem dL_law_491 : decode cL_law 491 = .ok (.aload_n 2, 1) := DL_law_c30.2.2.2.2.2.2.2.1
theorem dL_law_492 : decode cL_law 492 = .ok (.aload_n 0, 1) := DL_law_c30.2.2.2.2.2.2.2.2.1
theorem dL_law_493 : decode cL_law 493 = .ok (.iload_n 3, 1) := DL_law_c30.2.2.2.2.2.2.2.2.2
set_option maxRecDepth 100000 in
theorem DL_law_c31 : decode cL_law 494 = .ok (.iconst 1, 1) ∧ decode cL_law 495 = .ok (.iadd, 1) ∧ decode cL_law 496 = .ok (.iaload, 1) ∧ decode cL_law 497 = .ok (.invokevirtual 76, 3) ∧ decode cL_law 500 = .ok (.if_icmp .eq 74, 3) ∧ decode cL_law 503 = .ok (.iconst 0, 1) ∧ decode cL_law 504 = .ok (.ireturn, 1) ∧ decode cL_law 505 = .ok (.aload_n 1, 1) ∧ decode cL_law 506 = .ok (.aload_n 0, 1) ∧ decode cL_law 507 = .ok (.iload_n 3, 1) := by decide +kernel
theorem dL_law_494 : decode cL_law 494 = .ok (.iconst 1, 1) := DL_law_c31.1
theorem dL_law_495 : decode cL_law 495 = .ok (.iadd, 1) := DL_law_c31.2.1
theorem dL_law_496 : decode cL_law 496 = .ok (.iaload, 1) := DL_law_c31.2.2.1
theorem dL_law_497 : decode cL_law 497 = .ok (.invokevirtual 76, 3) := DL_law_c31.2.2.2.1
theorem dL_law_500 : decode cL_law 500 = .ok (.if_icmp .eq 74, 3) := DL_law_c31.2.2.2.2.1
theorem dL_law_503 : decode cL_law 503 = .ok (.iconst 0, 1) := DL_law_c31.2.2.2.2.2.1
theorem dL_law_504 : decode cL_law 504 = .ok (.ireturn, 1) := DL_law_c31.2.2.2.2.2.2.1
theorem dL_law_505 : decode cL_law 505 = .ok (.aload_n 1, 1) := DL_law_c31.2.2.2.2.2.2.2.1
theorem dL_law_506 : decode cL_law 506 = .ok (.aload_n 0, 1) := DL_law_c31.2.2.2.2.2.2.2.2.1
theorem dL_law_507 : decode cL_law 507 = .ok (.iload_n 3, 1) := DL_law_c31.2.2.2.2.2.2.2.2.2
set_option maxRecDepth 100000 in
theorem DL_law_c32 : decode cL_law 508 = .ok (.iconst 1, 1) ∧ decode cL_law 509 = .ok (.iadd, 1) ∧ decode cL_law 510 = .ok (.iaload, 1) ∧ decode cL_law 511 = .ok (.invokevirtual 77, 3) ∧ decode cL_law 514 = .ok (.aload_n 2, 1) ∧ decode cL_law 515 = .ok (.aload_n 0, 1) ∧ decode cL_law 516 = .ok (.iload_n 3, 1) ∧ decode cL_law 517 = .ok (.iconst 1, 1) ∧ decode cL_law 518 = .ok (.iadd, 1) ∧ decode cL_law 519 = .ok (.iaload, 1) := by decide +kernel
theorem dL_law_508 : decode cL_law 508 = .ok (.iconst 1, 1) := DL_law_c32.1
theorem dL_law_509 : decode cL_law 509 = .ok (.iadd, 1) := DL_law_c32.2.1
theorem dL_law_510 : decode cL_law 510 = .ok (.iaload, 1) := DL_law_c32.2.2.1
theorem dL_law_511 : decode cL_law 511 = .ok (.invokevirtual 77, 3) := DL_law_c32.2.2.2.1
theorem dL_law_514 : decode cL_law 514 = .ok (.aload_n 2, 1) := DL_law_c32.2.2.2.2.1
theorem dL_law_515 : decode cL_law 515 = .ok (.aload_n 0, 1) := DL_law_c32.2.2.2.2.2.1
theorem dL_law_516 : decode cL_law 516 = .ok (.iload_n 3, 1) := DL_law_c32.2.2.2.2.2.2.1
theorem dL_law_517 : decode cL_law 517 = .ok (.iconst 1, 1) := DL_law_c32.2.2.2.2.2.2.2.1
theorem dL_law_518 : decode cL_law 518 = .ok (.iadd, 1) := DL_law_c32.2.2.2.2.2.2.2.2.1
theorem dL_law_519 : decode cL_law 519 = .ok (.iaload, 1) := DL_law_c32.2.2.2.2.2.2.2.2.2
set_option maxRecDepth 100000 in
theorem DL_law_c33 : decode cL_law 520 = .ok (.invokevirtual 80, 3) ∧ decode cL_law 523 = .ok (.if_icmp .eq 51, 3) ∧ decode cL_law 526 = .ok (.iconst 0, 1) ∧ decode cL_law 527 = .ok (.ireturn, 1) ∧ decode cL_law 528 = .ok (.aload_n 1, 1) ∧ decode cL_law 529 = .ok (.aload_n 0, 1) ∧ decode cL_law 530 = .ok (.iload_n 3, 1) ∧ decode cL_law 531 = .ok (.iconst 1, 1) ∧ decode cL_law 532 = .ok (.iadd, 1) ∧ decode cL_law 533 = .ok (.iaload, 1) := by decide +kernel
theorem dL_law_520 : decode cL_law 520 = .ok (.invokevirtual 80, 3) := DL_law_c33.1
theorem dL_law_523 : decode cL_law 523 = .ok (.if_icmp .eq 51, 3) := DL_law_c33.2.1
theorem dL_law_526 : decode cL_law 526 = .ok (.iconst 0, 1) := DL_law_c33.2.2.1
theorem dL_law_527 : decode cL_law 527 = .ok (.ireturn, 1) := DL_law_c33.2.2.2.1
theorem dL_law_528 : decode cL_law 528 = .ok (.aload_n 1, 1) := DL_law_c33.2.2.2.2.1
theorem dL_law_529 : decode cL_law 529 = .ok (.aload_n 0, 1) := DL_law_c33.2.2.2.2.2.1
theorem dL_law_530 : decode cL_law 530 = .ok (.iload_n 3, 1) := DL_law_c33.2.2.2.2.2.2.1
theorem dL_law_531 : decode cL_law 531 = .ok (.iconst 1, 1) := DL_law_c33.2.2.2.2.2.2.2.1
theorem dL_law_532 : decode cL_law 532 = .ok (.iadd, 1) := DL_law_c33.2.2.2.2.2.2.2.2.1
theorem dL_law_533 : decode cL_law 533 = .ok (.iaload, 1) := DL_law_c33.2.2.2.2.2.2.2.2.2
set_option maxRecDepth 100000 in
theorem DL_law_c34 : decode cL_law 534 = .ok (.invokevirtual 81, 3) ∧ decode cL_law 537 = .ok (.aload_n 2, 1) ∧ decode cL_law 538 = .ok (.aload_n 0, 1) ∧ decode cL_law 539 = .ok (.iload_n 3, 1) ∧ decode cL_law 540 = .ok (.iconst 1, 1) ∧ decode cL_law 541 = .ok (.iadd, 1) ∧ decode cL_law 542 = .ok (.iaload, 1) ∧ decode cL_law 543 = .ok (.invokevirtual 84, 3) ∧ decode cL_law 546 = .ok (.if_icmp .eq 28, 3) ∧ decode cL_law 549 = .ok (.iconst 0, 1) := by decide +kernel
theorem dL_law_534 : decode cL_law 534 = .ok (.invokevirtual 81, 3) := DL_law_c34.1
theorem dL_law_537 : decode cL_law 537 = .ok (.aload_n 2, 1) := DL_law_c34.2.1
theorem dL_law_538 : decode cL_law 538 = .ok (.aload_n 0, 1) := DL_law_c34.2.2.1
theorem dL_law_539 : decode cL_law 539 = .ok (.iload_n 3, 1) := DL_law_c34.2.2.2.1
theorem dL_law_540 : decode cL_law 540 = .ok (.iconst 1, 1) := DL_law_c34.2.2.2.2.1
theorem dL_law_541 : decode cL_law 541 = .ok (.iadd, 1) := DL_law_c34.2.2.2.2.2.1
theorem dL_law_542 : decode cL_law 542 = .ok (.iaload, 1) := DL_law_c34.2.2.2.2.2.2.1
theorem dL_law_543 : decode cL_law 543 = .ok (.invokevirtual 84, 3) := DL_law_c34.2.2.2.2.2.2.2.1
theorem dL_law_546 : decode cL_law 546 = .ok (.if_icmp .eq 28, 3) := DL_law_c34.2.2.2.2.2.2.2.2.1
theorem dL_law_549 : decode cL_law 549 = .ok (.iconst 0, 1) := DL_law_c34.2.2.2.2.2.2.2.2.2
set_option maxRecDepth 100000 in
theorem DL_law_c35 : decode cL_law 550 = .ok (.ireturn, 1) ∧ decode cL_law 551 = .ok (.aload_n 1, 1) ∧ decode cL_law 552 = .ok (.aload_n 0, 1) ∧ decode cL_law 553 = .ok (.iload_n 3, 1) ∧ decode cL_law 554 = .ok (.iconst 1, 1) ∧ decode cL_law 555 = .ok (.iadd, 1) ∧ decode cL_law 556 = .ok (.iaload, 1) ∧ decode cL_law 557 = .ok (.invokevirtual 85, 3) ∧ decode cL_law 560 = .ok (.aload_n 2, 1) ∧ decode cL_law 561 = .ok (.aload_n 0, 1) := by decide +kernel
theorem dL_law_550 : decode cL_law 550 = .ok (.ireturn, 1) := DL_law_c35.1
theorem dL_law_551 : decode cL_law 551 = .ok (.aload_n 1, 1) := DL_law_c35.2.1
theorem dL_law_552 : decode cL_law 552 = .ok (.aload_n 0, 1) := DL_law_c35.2.2.1
theorem dL_law_553 : decode cL_law 553 = .ok (.iload_n 3, 1) := DL_law_c35.2.2.2.1
theorem dL_law_554 : decode cL_law 554 = .ok (.iconst 1, 1) := DL_law_c35.2.2.2.2.1
theorem dL_law_555 : decode cL_law 555 = .ok (.iadd, 1) := DL_law_c35.2.2.2.2.2.1
theorem dL_law_556 : decode cL_law 556 = .ok (.iaload, 1) := DL_law_c35.2.2.2.2.2.2.1
theorem dL_law_557 : decode cL_law 557 = .ok (.invokevirtual 85, 3) := DL_law_c35.2.2.2.2.2.2.2.1
theorem dL_law_560 : decode cL_law 560 = .ok (.aload_n 2, 1) := DL_law_c35.2.2.2.2.2.2.2.2.1
theorem dL_law_561 : decode cL_law 561 = .ok (.aload_n 0, 1) := DL_law_c35.2.2.2.2.2.2.2.2.2
set_option maxRecDepth 100000 in
theorem DL_law_c36 : decode cL_law 562 = .ok (.iload_n 3, 1) ∧ decode cL_law 563 = .ok (.iconst 1, 1) ∧ decode cL_law 564 = .ok (.iadd, 1) ∧ decode cL_law 565 = .ok (.iaload, 1) ∧ decode cL_law 566 = .ok (.invokevirtual 88, 3) ∧ decode cL_law 569 = .ok (.if_icmp .eq 5, 3) ∧ decode cL_law 572 = .ok (.iconst 0, 1) ∧ decode cL_law 573 = .ok (.ireturn, 1) ∧ decode cL_law 574 = .ok (.iinc 3 4, 3) ∧ decode cL_law 577 = .ok (.goto (-559), 3) := by decide +kernel
theorem dL_law_562 : decode cL_law 562 = .ok (.iload_n 3, 1) := DL_law_c36.1
theorem dL_law_563 : decode cL_law 563 = .ok (.iconst 1, 1) := DL_law_c36.2.1
theorem dL_law_564 : decode cL_law 564 = .ok (.iadd, 1) := DL_law_c36.2.2.1
theorem dL_law_565 : decode cL_law 565 = .ok (.iaload, 1) := DL_law_c36.2.2.2.1
theorem dL_law_566 : decode cL_law 566 = .ok (.invokevirtual 88, 3) := DL_law_c36.2.2.2.2.1
theorem dL_law_569 : decode cL_law 569 = .ok (.if_icmp .eq 5, 3) := DL_law_c36.2.2.2.2.2.1
theorem dL_law_572 : decode cL_law 572 = .ok (.iconst 0, 1) := DL_law_c36.2.2.2.2.2.2.1
theorem dL_law_573 : decode cL_law 573 = .ok (.ireturn, 1) := DL_law_c36.2.2.2.2.2.2.2.1
theorem dL_law_574 : decode cL_law 574 = .ok (.iinc 3 4, 3) := DL_law_c36.2.2.2.2.2.2.2.2.1
theorem dL_law_577 : decode cL_law 577 = .ok (.goto (-559), 3) := DL_law_c36.2.2.2.2.2.2.2.2.2
set_option maxRecDepth 100000 in
theorem DL_law_c37 : decode cL_law 580 = .ok (.iconst 1, 1) ∧ decode cL_law 581 = .ok (.ireturn, 1) := by decide +kernel
theorem dL_law_580 : decode cL_law 580 = .ok (.iconst 1, 1) := DL_law_c37.1
theorem dL_law_581 : decode cL_law 581 = .ok (.ireturn, 1) := DL_law_c37.2
