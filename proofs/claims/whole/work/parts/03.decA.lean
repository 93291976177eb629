theorem dX0_init_0 : decode cX0_init 0 = .ok (.aload_n 0, 1) := by decide +kernel
theorem dX0_init_1 : decode cX0_init 1 = .ok (.invokespecial 3, 3) := by decide +kernel
theorem dX0_init_4 : decode cX0_init 4 = .ok (.aload_n 0, 1) := by decide +kernel
theorem dX0_init_5 : decode cX0_init 5 = .ok (.aload_n 1, 1) := by decide +kernel
theorem dX0_init_6 : decode cX0_init 6 = .ok (.putfield 9, 3) := by decide +kernel
theorem dX0_init_9 : decode cX0_init 9 = .ok (.aload_n 0, 1) := by decide +kernel
theorem dX0_init_10 : decode cX0_init 10 = .ok (.bipush 25, 2) := by decide +kernel
theorem dX0_init_12 : decode cX0_init 12 = .ok (.newarray .long, 2) := by decide +kernel
theorem dX0_init_14 : decode cX0_init 14 = .ok (.putfield 17, 3) := by decide +kernel
theorem dX0_init_17 : decode cX0_init 17 = .ok (.aload_n 0, 1) := by decide +kernel
theorem dX0_init_18 : decode cX0_init 18 = .ok (.bipush 32, 2) := by decide +kernel
theorem dX0_init_20 : decode cX0_init 20 = .ok (.newarray .long, 2) := by decide +kernel
theorem dX0_init_22 : decode cX0_init 22 = .ok (.putfield 21, 3) := by decide +kernel
theorem dX0_init_25 : decode cX0_init 25 = .ok (.aload_n 0, 1) := by decide +kernel
theorem dX0_init_26 : decode cX0_init 26 = .ok (.iconst 5, 1) := by decide +kernel
theorem dX0_init_27 : decode cX0_init 27 = .ok (.newarray .int, 2) := by decide +kernel
theorem dX0_init_29 : decode cX0_init 29 = .ok (.putfield 24, 3) := by decide +kernel
theorem dX0_init_32 : decode cX0_init 32 = .ok (.return_, 1) := by decide +kernel
theorem dX0_buildAsTold_0 : decode cX0_buildAsTold 0 = .ok (.aload_n 0, 1) := by decide +kernel
theorem dX0_buildAsTold_1 : decode cX0_buildAsTold 1 = .ok (.iconst 1, 1) := by decide +kernel
theorem dX0_buildAsTold_2 : decode cX0_buildAsTold 2 = .ok (.iconst 1, 1) := by decide +kernel
theorem dX0_buildAsTold_3 : decode cX0_buildAsTold 3 = .ok (.iconst (-1), 1) := by decide +kernel
theorem dX0_buildAsTold_4 : decode cX0_buildAsTold 4 = .ok (.invokevirtual 28, 3) := by decide +kernel
theorem dX0_buildAsTold_7 : decode cX0_buildAsTold 7 = .ok (.return_, 1) := by decide +kernel
theorem dX0_build_0 : decode cX0_build 0 = .ok (.iconst 0, 1) := by decide +kernel
theorem dX0_build_1 : decode cX0_build 1 = .ok (.istore 4, 2) := by decide +kernel
theorem dX0_build_3 : decode cX0_build 3 = .ok (.iload 4, 2) := by decide +kernel
theorem dX0_build_5 : decode cX0_build 5 = .ok (.aload_n 0, 1) := by decide +kernel
theorem dX0_build_6 : decode cX0_build 6 = .ok (.getfield 9, 3) := by decide +kernel
theorem dX0_build_9 : decode cX0_build 9 = .ok (.getfield 32, 3) := by decide +kernel
theorem dX0_build_12 : decode cX0_build 12 = .ok (.if_icmp .ge 119, 3) := by decide +kernel
theorem dX0_build_15 : decode cX0_build 15 = .ok (.aload_n 0, 1) := by decide +kernel
theorem dX0_build_16 : decode cX0_build 16 = .ok (.getfield 9, 3) := by decide +kernel
theorem dX0_build_19 : decode cX0_build 19 = .ok (.getfield 36, 3) := by decide +kernel
theorem dX0_build_22 : decode cX0_build 22 = .ok (.iload 4, 2) := by decide +kernel
theorem dX0_build_24 : decode cX0_build 24 = .ok (.iaload, 1) := by decide +kernel
theorem dX0_build_25 : decode cX0_build 25 = .ok (.istore 5, 2) := by decide +kernel
theorem dX0_build_27 : decode cX0_build 27 = .ok (.iload 4, 2) := by decide +kernel
theorem dX0_build_29 : decode cX0_build 29 = .ok (.iload_n 3, 1) := by decide +kernel
theorem dX0_build_30 : decode cX0_build 30 = .ok (.if_icmp .ne 13, 3) := by decide +kernel
theorem dX0_build_33 : decode cX0_build 33 = .ok (.iload 5, 2) := by decide +kernel
theorem dX0_build_35 : decode cX0_build 35 = .ok (.iconst 1, 1) := by decide +kernel
theorem dX0_build_36 : decode cX0_build 36 = .ok (.isub, 1) := by decide +kernel
theorem dX0_build_37 : decode cX0_build 37 = .ok (.iconst 1, 1) := by decide +kernel
theorem dX0_build_38 : decode cX0_build 38 = .ok (.invokestatic 39, 3) := by decide +kernel
theorem dX0_build_41 : decode cX0_build 41 = .ok (.istore 5, 2) := by decide +kernel
theorem dX0_build_43 : decode cX0_build 43 = .ok (.iconst 0, 1) := by decide +kernel
theorem dX0_build_44 : decode cX0_build 44 = .ok (.istore 6, 2) := by decide +kernel
theorem dX0_build_46 : decode cX0_build 46 = .ok (.iload 6, 2) := by decide +kernel
theorem dX0_build_48 : decode cX0_build 48 = .ok (.aload_n 0, 1) := by decide +kernel
theorem dX0_build_49 : decode cX0_build 49 = .ok (.getfield 9, 3) := by decide +kernel
theorem dX0_build_52 : decode cX0_build 52 = .ok (.getfield 32, 3) := by decide +kernel
theorem dX0_build_55 : decode cX0_build 55 = .ok (.if_icmp .ge 70, 3) := by decide +kernel
theorem dX0_build_58 : decode cX0_build 58 = .ok (.aload_n 0, 1) := by decide +kernel
theorem dX0_build_59 : decode cX0_build 59 = .ok (.getfield 17, 3) := by decide +kernel
theorem dX0_build_62 : decode cX0_build 62 = .ok (.iload 4, 2) := by decide +kernel
theorem dX0_build_64 : decode cX0_build 64 = .ok (.iconst 5, 1) := by decide +kernel
theorem dX0_build_65 : decode cX0_build 65 = .ok (.imul, 1) := by decide +kernel
theorem dX0_build_66 : decode cX0_build 66 = .ok (.iload 6, 2) := by decide +kernel
theorem dX0_build_68 : decode cX0_build 68 = .ok (.iadd, 1) := by decide +kernel
theorem dX0_build_69 : decode cX0_build 69 = .ok (.iload 4, 2) := by decide +kernel
theorem dX0_build_71 : decode cX0_build 71 = .ok (.iload 6, 2) := by decide +kernel
theorem dX0_build_73 : decode cX0_build 73 = .ok (.if_icmp .ne 25, 3) := by decide +kernel
theorem dX0_build_76 : decode cX0_build 76 = .ok (.ldc2_w 45, 3) := by decide +kernel
theorem dX0_build_79 : decode cX0_build 79 = .ok (.aload_n 0, 1) := by decide +kernel
theorem dX0_build_80 : decode cX0_build 80 = .ok (.getfield 9, 3) := by decide +kernel
theorem dX0_build_83 : decode cX0_build 83 = .ok (.iload 4, 2) := by decide +kernel
theorem dX0_build_85 : decode cX0_build 85 = .ok (.iload 4, 2) := by decide +kernel
theorem dX0_build_87 : decode cX0_build 87 = .ok (.invokevirtual 47, 3) := by decide +kernel
theorem dX0_build_90 : decode cX0_build 90 = .ok (.i2l, 1) := by decide +kernel
theorem dX0_build_91 : decode cX0_build 91 = .ok (.lmul, 1) := by decide +kernel
theorem dX0_build_92 : decode cX0_build 92 = .ok (.iload_n 1, 1) := by decide +kernel
theorem dX0_build_93 : decode cX0_build 93 = .ok (.i2l, 1) := by decide +kernel
theorem dX0_build_94 : decode cX0_build 94 = .ok (.lmul, 1) := by decide +kernel
theorem dX0_build_95 : decode cX0_build 95 = .ok (.goto 23, 3) := by decide +kernel
theorem dX0_build_98 : decode cX0_build 98 = .ok (.iload 5, 2) := by decide +kernel
theorem dX0_build_100 : decode cX0_build 100 = .ok (.i2l, 1) := by decide +kernel
theorem dX0_build_101 : decode cX0_build 101 = .ok (.lneg, 1) := by decide +kernel
theorem dX0_build_102 : decode cX0_build 102 = .ok (.iload_n 2, 1) := by decide +kernel
theorem dX0_build_103 : decode cX0_build 103 = .ok (.i2l, 1) := by decide +kernel
theorem dX0_build_104 : decode cX0_build 104 = .ok (.lmul, 1) := by decide +kernel
theorem dX0_build_105 : decode cX0_build 105 = .ok (.aload_n 0, 1) := by decide +kernel
theorem dX0_build_106 : decode cX0_build 106 = .ok (.getfield 9, 3) := by decide +kernel
theorem dX0_build_109 : decode cX0_build 109 = .ok (.iload 4, 2) := by decide +kernel
theorem dX0_build_111 : decode cX0_build 111 = .ok (.iload 6, 2) := by decide +kernel
theorem dX0_build_113 : decode cX0_build 113 = .ok (.invokevirtual 47, 3) := by decide +kernel
theorem dX0_build_116 : decode cX0_build 116 = .ok (.i2l, 1) := by decide +kernel
theorem dX0_build_117 : decode cX0_build 117 = .ok (.lmul, 1) := by decide +kernel
theorem dX0_build_118 : decode cX0_build 118 = .ok (.lastore, 1) := by decide +kernel
theorem dX0_build_119 : decode cX0_build 119 = .ok (.iinc 6 1, 3) := by decide +kernel
theorem dX0_build_122 : decode cX0_build 122 = .ok (.goto (-76), 3) := by decide +kernel
theorem dX0_build_125 : decode cX0_build 125 = .ok (.iinc 4 1, 3) := by decide +kernel
theorem dX0_build_128 : decode cX0_build 128 = .ok (.goto (-125), 3) := by decide +kernel
theorem dX0_build_131 : decode cX0_build 131 = .ok (.return_, 1) := by decide +kernel
theorem dX0_replaceColumnByNoise_0 : decode cX0_replaceColumnByNoise 0 = .ok (.iconst 0, 1) := by decide +kernel
theorem dX0_replaceColumnByNoise_1 : decode cX0_replaceColumnByNoise 1 = .ok (.istore_n 2, 1) := by decide +kernel
theorem dX0_replaceColumnByNoise_2 : decode cX0_replaceColumnByNoise 2 = .ok (.iload_n 2, 1) := by decide +kernel
theorem dX0_replaceColumnByNoise_3 : decode cX0_replaceColumnByNoise 3 = .ok (.aload_n 0, 1) := by decide +kernel
theorem dX0_replaceColumnByNoise_4 : decode cX0_replaceColumnByNoise 4 = .ok (.getfield 9, 3) := by decide +kernel
theorem dX0_replaceColumnByNoise_7 : decode cX0_replaceColumnByNoise 7 = .ok (.getfield 32, 3) := by decide +kernel
theorem dX0_replaceColumnByNoise_10 : decode cX0_replaceColumnByNoise 10 = .ok (.if_icmp .ge 40, 3) := by decide +kernel
theorem dX0_replaceColumnByNoise_13 : decode cX0_replaceColumnByNoise 13 = .ok (.aload_n 0, 1) := by decide +kernel
theorem dX0_replaceColumnByNoise_14 : decode cX0_replaceColumnByNoise 14 = .ok (.getfield 17, 3) := by decide +kernel
theorem dX0_replaceColumnByNoise_17 : decode cX0_replaceColumnByNoise 17 = .ok (.iload_n 2, 1) := by decide +kernel
theorem dX0_replaceColumnByNoise_18 : decode cX0_replaceColumnByNoise 18 = .ok (.iconst 5, 1) := by decide +kernel
theorem dX0_replaceColumnByNoise_19 : decode cX0_replaceColumnByNoise 19 = .ok (.imul, 1) := by decide +kernel
theorem dX0_replaceColumnByNoise_20 : decode cX0_replaceColumnByNoise 20 = .ok (.iload_n 1, 1) := by decide +kernel
theorem dX0_replaceColumnByNoise_21 : decode cX0_replaceColumnByNoise 21 = .ok (.iadd, 1) := by decide +kernel
theorem dX0_replaceColumnByNoise_22 : decode cX0_replaceColumnByNoise 22 = .ok (.aload_n 0, 1) := by decide +kernel
theorem dX0_replaceColumnByNoise_23 : decode cX0_replaceColumnByNoise 23 = .ok (.getfield 9, 3) := by decide +kernel
theorem dX0_replaceColumnByNoise_26 : decode cX0_replaceColumnByNoise 26 = .ok (.getfield 36, 3) := by decide +kernel
theorem dX0_replaceColumnByNoise_29 : decode cX0_replaceColumnByNoise 29 = .ok (.iload_n 2, 1) := by decide +kernel
theorem dX0_replaceColumnByNoise_30 : decode cX0_replaceColumnByNoise 30 = .ok (.iaload, 1) := by decide +kernel
theorem dX0_replaceColumnByNoise_31 : decode cX0_replaceColumnByNoise 31 = .ok (.i2l, 1) := by decide +kernel
theorem dX0_replaceColumnByNoise_32 : decode cX0_replaceColumnByNoise 32 = .ok (.aload_n 0, 1) := by decide +kernel
theorem dX0_replaceColumnByNoise_33 : decode cX0_replaceColumnByNoise 33 = .ok (.getfield 9, 3) := by decide +kernel
theorem dX0_replaceColumnByNoise_36 : decode cX0_replaceColumnByNoise 36 = .ok (.getfield 50, 3) := by decide +kernel
theorem dX0_replaceColumnByNoise_39 : decode cX0_replaceColumnByNoise 39 = .ok (.iload_n 2, 1) := by decide +kernel
theorem dX0_replaceColumnByNoise_40 : decode cX0_replaceColumnByNoise 40 = .ok (.iaload, 1) := by decide +kernel
theorem dX0_replaceColumnByNoise_41 : decode cX0_replaceColumnByNoise 41 = .ok (.i2l, 1) := by decide +kernel
theorem dX0_replaceColumnByNoise_42 : decode cX0_replaceColumnByNoise 42 = .ok (.lmul, 1) := by decide +kernel
theorem dX0_replaceColumnByNoise_43 : decode cX0_replaceColumnByNoise 43 = .ok (.lastore, 1) := by decide +kernel
theorem dX0_replaceColumnByNoise_44 : decode cX0_replaceColumnByNoise 44 = .ok (.iinc 2 1, 3) := by decide +kernel
theorem dX0_replaceColumnByNoise_47 : decode cX0_replaceColumnByNoise 47 = .ok (.goto (-45), 3) := by decide +kernel
theorem dX0_replaceColumnByNoise_50 : decode cX0_replaceColumnByNoise 50 = .ok (.return_, 1) := by decide +kernel
theorem dX0_minorOf_0 : decode cX0_minorOf 0 = .ok (.aload_n 0, 1) := by decide +kernel
theorem dX0_minorOf_1 : decode cX0_minorOf 1 = .ok (.getfield 21, 3) := by decide +kernel
theorem dX0_minorOf_4 : decode cX0_minorOf 4 = .ok (.iconst 1, 1) := by decide +kernel
theorem dX0_minorOf_5 : decode cX0_minorOf 5 = .ok (.aload_n 0, 1) := by decide +kernel
theorem dX0_minorOf_6 : decode cX0_minorOf 6 = .ok (.iload_n 1, 1) := by decide +kernel
theorem dX0_minorOf_7 : decode cX0_minorOf 7 = .ok (.invokevirtual 53, 3) := by decide +kernel
theorem dX0_minorOf_10 : decode cX0_minorOf 10 = .ok (.ishl, 1) := by decide +kernel
theorem dX0_minorOf_11 : decode cX0_minorOf 11 = .ok (.iconst 1, 1) := by decide +kernel
theorem dX0_minorOf_12 : decode cX0_minorOf 12 = .ok (.isub, 1) := by decide +kernel
theorem dX0_minorOf_13 : decode cX0_minorOf 13 = .ok (.laload, 1) := by decide +kernel
theorem dX0_minorOf_14 : decode cX0_minorOf 14 = .ok (.lreturn, 1) := by decide +kernel
theorem dX0_holdFor_0 : decode cX0_holdFor 0 = .ok (.aload_n 0, 1) := by decide +kernel
theorem dX0_holdFor_1 : decode cX0_holdFor 1 = .ok (.iload_n 1, 1) := by decide +kernel
theorem dX0_holdFor_2 : decode cX0_holdFor 2 = .ok (.invokevirtual 53, 3) := by decide +kernel
theorem dX0_holdFor_5 : decode cX0_holdFor 5 = .ok (.istore_n 2, 1) := by decide +kernel
theorem dX0_holdFor_6 : decode cX0_holdFor 6 = .ok (.iconst 1, 1) := by decide +kernel
theorem dX0_holdFor_7 : decode cX0_holdFor 7 = .ok (.istore_n 3, 1) := by decide +kernel
theorem dX0_holdFor_8 : decode cX0_holdFor 8 = .ok (.iload_n 3, 1) := by decide +kernel
theorem dX0_holdFor_9 : decode cX0_holdFor 9 = .ok (.iload_n 2, 1) := by decide +kernel
theorem dX0_holdFor_10 : decode cX0_holdFor 10 = .ok (.if_icmp .gt 26, 3) := by decide +kernel
theorem dX0_holdFor_13 : decode cX0_holdFor 13 = .ok (.aload_n 0, 1) := by decide +kernel
theorem dX0_holdFor_14 : decode cX0_holdFor 14 = .ok (.getfield 21, 3) := by decide +kernel
theorem dX0_holdFor_17 : decode cX0_holdFor 17 = .ok (.iconst 1, 1) := by decide +kernel
theorem dX0_holdFor_18 : decode cX0_holdFor 18 = .ok (.iload_n 3, 1) := by decide +kernel
theorem dX0_holdFor_19 : decode cX0_holdFor 19 = .ok (.ishl, 1) := by decide +kernel
theorem dX0_holdFor_20 : decode cX0_holdFor 20 = .ok (.iconst 1, 1) := by decide +kernel
theorem dX0_holdFor_21 : decode cX0_holdFor 21 = .ok (.isub, 1) := by decide +kernel
theorem dX0_holdFor_22 : decode cX0_holdFor 22 = .ok (.laload, 1) := by decide +kernel
theorem dX0_holdFor_23 : decode cX0_holdFor 23 = .ok (.lconst 0, 1) := by decide +kernel
theorem dX0_holdFor_24 : decode cX0_holdFor 24 = .ok (.lcmp, 1) := by decide +kernel
theorem dX0_holdFor_25 : decode cX0_holdFor 25 = .ok (.ifCond .gt 5, 3) := by decide +kernel
theorem dX0_holdFor_28 : decode cX0_holdFor 28 = .ok (.iconst 0, 1) := by decide +kernel
theorem dX0_holdFor_29 : decode cX0_holdFor 29 = .ok (.ireturn, 1) := by decide +kernel
theorem dX0_holdFor_30 : decode cX0_holdFor 30 = .ok (.iinc 3 1, 3) := by decide +kernel
theorem dX0_holdFor_33 : decode cX0_holdFor 33 = .ok (.goto (-25), 3) := by decide +kernel
theorem dX0_holdFor_36 : decode cX0_holdFor 36 = .ok (.iconst 1, 1) := by decide +kernel
theorem dX0_holdFor_37 : decode cX0_holdFor 37 = .ok (.ireturn, 1) := by decide +kernel
theorem dX0_expand_0 : decode cX0_expand 0 = .ok (.aload_n 0, 1) := by decide +kernel
theorem dX0_expand_1 : decode cX0_expand 1 = .ok (.iload_n 1, 1) := by decide +kernel
theorem dX0_expand_2 : decode cX0_expand 2 = .ok (.invokevirtual 57, 3) := by decide +kernel
theorem dX0_expand_5 : decode cX0_expand 5 = .ok (.istore_n 2, 1) := by decide +kernel
theorem dX0_expand_6 : decode cX0_expand 6 = .ok (.aload_n 0, 1) := by decide +kernel
theorem dX0_expand_7 : decode cX0_expand 7 = .ok (.getfield 21, 3) := by decide +kernel
theorem dX0_expand_10 : decode cX0_expand 10 = .ok (.iconst 0, 1) := by decide +kernel
theorem dX0_expand_11 : decode cX0_expand 11 = .ok (.lconst 1, 1) := by decide +kernel
theorem dX0_expand_12 : decode cX0_expand 12 = .ok (.lastore, 1) := by decide +kernel
theorem dX0_expand_13 : decode cX0_expand 13 = .ok (.iconst 1, 1) := by decide +kernel
theorem dX0_expand_14 : decode cX0_expand 14 = .ok (.istore_n 3, 1) := by decide +kernel
theorem dX0_expand_15 : decode cX0_expand 15 = .ok (.iload_n 3, 1) := by decide +kernel
theorem dX0_expand_16 : decode cX0_expand 16 = .ok (.iconst 1, 1) := by decide +kernel
theorem dX0_expand_17 : decode cX0_expand 17 = .ok (.iload_n 2, 1) := by decide +kernel
theorem dX0_expand_18 : decode cX0_expand 18 = .ok (.ishl, 1) := by decide +kernel
theorem dX0_expand_19 : decode cX0_expand 19 = .ok (.if_icmp .ge 32, 3) := by decide +kernel
theorem dX0_expand_22 : decode cX0_expand 22 = .ok (.aload_n 0, 1) := by decide +kernel
theorem dX0_expand_23 : decode cX0_expand 23 = .ok (.getfield 21, 3) := by decide +kernel
theorem dX0_expand_26 : decode cX0_expand 26 = .ok (.iload_n 3, 1) := by decide +kernel
theorem dX0_expand_27 : decode cX0_expand 27 = .ok (.aload_n 0, 1) := by decide +kernel
theorem dX0_expand_28 : decode cX0_expand 28 = .ok (.aload_n 0, 1) := by decide +kernel
theorem dX0_expand_29 : decode cX0_expand 29 = .ok (.getfield 24, 3) := by decide +kernel
theorem dX0_expand_32 : decode cX0_expand 32 = .ok (.iload_n 3, 1) := by decide +kernel
theorem dX0_expand_33 : decode cX0_expand 33 = .ok (.invokestatic 60, 3) := by decide +kernel
theorem dX0_expand_36 : decode cX0_expand 36 = .ok (.iconst 1, 1) := by decide +kernel
theorem dX0_expand_37 : decode cX0_expand 37 = .ok (.isub, 1) := by decide +kernel
theorem dX0_expand_38 : decode cX0_expand 38 = .ok (.iaload, 1) := by decide +kernel
theorem dX0_expand_39 : decode cX0_expand 39 = .ok (.iload_n 3, 1) := by decide +kernel
theorem dX0_expand_40 : decode cX0_expand 40 = .ok (.iload_n 2, 1) := by decide +kernel
theorem dX0_expand_41 : decode cX0_expand 41 = .ok (.invokevirtual 65, 3) := by decide +kernel
theorem dX0_expand_44 : decode cX0_expand 44 = .ok (.lastore, 1) := by decide +kernel
theorem dX0_expand_45 : decode cX0_expand 45 = .ok (.iinc 3 1, 3) := by decide +kernel
theorem dX0_expand_48 : decode cX0_expand 48 = .ok (.goto (-33), 3) := by decide +kernel
theorem dX0_expand_51 : decode cX0_expand 51 = .ok (.iload_n 2, 1) := by decide +kernel
theorem dX0_expand_52 : decode cX0_expand 52 = .ok (.ireturn, 1) := by decide +kernel
theorem dX0_expandRow_0 : decode cX0_expandRow 0 = .ok (.lconst 0, 1) := by decide +kernel
theorem dX0_expandRow_1 : decode cX0_expandRow 1 = .ok (.lstore 4, 2) := by decide +kernel
theorem dX0_expandRow_3 : decode cX0_expandRow 3 = .ok (.lconst 1, 1) := by decide +kernel
theorem dX0_expandRow_4 : decode cX0_expandRow 4 = .ok (.lstore 6, 2) := by decide +kernel
theorem dX0_expandRow_6 : decode cX0_expandRow 6 = .ok (.iload_n 3, 1) := by decide +kernel
theorem dX0_expandRow_7 : decode cX0_expandRow 7 = .ok (.iconst 1, 1) := by decide +kernel
theorem dX0_expandRow_8 : decode cX0_expandRow 8 = .ok (.isub, 1) := by decide +kernel
theorem dX0_expandRow_9 : decode cX0_expandRow 9 = .ok (.istore 8, 2) := by decide +kernel
theorem dX0_expandRow_11 : decode cX0_expandRow 11 = .ok (.iload 8, 2) := by decide +kernel
theorem dX0_expandRow_13 : decode cX0_expandRow 13 = .ok (.ifCond .lt 60, 3) := by decide +kernel
theorem dX0_expandRow_16 : decode cX0_expandRow 16 = .ok (.iload_n 2, 1) := by decide +kernel
theorem dX0_expandRow_17 : decode cX0_expandRow 17 = .ok (.iload 8, 2) := by decide +kernel
theorem dX0_expandRow_19 : decode cX0_expandRow 19 = .ok (.ishr, 1) := by decide +kernel
theorem dX0_expandRow_20 : decode cX0_expandRow 20 = .ok (.iconst 1, 1) := by decide +kernel
theorem dX0_expandRow_21 : decode cX0_expandRow 21 = .ok (.iand, 1) := by decide +kernel
theorem dX0_expandRow_22 : decode cX0_expandRow 22 = .ok (.iconst 1, 1) := by decide +kernel
theorem dX0_expandRow_23 : decode cX0_expandRow 23 = .ok (.if_icmp .ne 44, 3) := by decide +kernel
theorem dX0_expandRow_26 : decode cX0_expandRow 26 = .ok (.lload 4, 2) := by decide +kernel
theorem dX0_expandRow_28 : decode cX0_expandRow 28 = .ok (.lload 6, 2) := by decide +kernel
theorem dX0_expandRow_30 : decode cX0_expandRow 30 = .ok (.aload_n 0, 1) := by decide +kernel
theorem dX0_expandRow_31 : decode cX0_expandRow 31 = .ok (.getfield 17, 3) := by decide +kernel
theorem dX0_expandRow_34 : decode cX0_expandRow 34 = .ok (.iload_n 1, 1) := by decide +kernel
theorem dX0_expandRow_35 : decode cX0_expandRow 35 = .ok (.iconst 5, 1) := by decide +kernel
theorem dX0_expandRow_36 : decode cX0_expandRow 36 = .ok (.imul, 1) := by decide +kernel
theorem dX0_expandRow_37 : decode cX0_expandRow 37 = .ok (.aload_n 0, 1) := by decide +kernel
theorem dX0_expandRow_38 : decode cX0_expandRow 38 = .ok (.getfield 24, 3) := by decide +kernel
theorem dX0_expandRow_41 : decode cX0_expandRow 41 = .ok (.iload 8, 2) := by decide +kernel
theorem dX0_expandRow_43 : decode cX0_expandRow 43 = .ok (.iaload, 1) := by decide +kernel
theorem dX0_expandRow_44 : decode cX0_expandRow 44 = .ok (.iadd, 1) := by decide +kernel
theorem dX0_expandRow_45 : decode cX0_expandRow 45 = .ok (.laload, 1) := by decide +kernel
theorem dX0_expandRow_46 : decode cX0_expandRow 46 = .ok (.lmul, 1) := by decide +kernel
theorem dX0_expandRow_47 : decode cX0_expandRow 47 = .ok (.aload_n 0, 1) := by decide +kernel
theorem dX0_expandRow_48 : decode cX0_expandRow 48 = .ok (.getfield 21, 3) := by decide +kernel
theorem dX0_expandRow_51 : decode cX0_expandRow 51 = .ok (.iload_n 2, 1) := by decide +kernel
theorem dX0_expandRow_52 : decode cX0_expandRow 52 = .ok (.iconst 1, 1) := by decide +kernel
theorem dX0_expandRow_53 : decode cX0_expandRow 53 = .ok (.iload 8, 2) := by decide +kernel
theorem dX0_expandRow_55 : decode cX0_expandRow 55 = .ok (.ishl, 1) := by decide +kernel
theorem dX0_expandRow_56 : decode cX0_expandRow 56 = .ok (.ixor, 1) := by decide +kernel
theorem dX0_expandRow_57 : decode cX0_expandRow 57 = .ok (.laload, 1) := by decide +kernel
theorem dX0_expandRow_58 : decode cX0_expandRow 58 = .ok (.lmul, 1) := by decide +kernel
theorem dX0_expandRow_59 : decode cX0_expandRow 59 = .ok (.ladd, 1) := by decide +kernel
theorem dX0_expandRow_60 : decode cX0_expandRow 60 = .ok (.lstore 4, 2) := by decide +kernel
theorem dX0_expandRow_62 : decode cX0_expandRow 62 = .ok (.lload 6, 2) := by decide +kernel
theorem dX0_expandRow_64 : decode cX0_expandRow 64 = .ok (.lneg, 1) := by decide +kernel
theorem dX0_expandRow_65 : decode cX0_expandRow 65 = .ok (.lstore 6, 2) := by decide +kernel
theorem dX0_expandRow_67 : decode cX0_expandRow 67 = .ok (.iinc 8 (-1), 3) := by decide +kernel
theorem dX0_expandRow_70 : decode cX0_expandRow 70 = .ok (.goto (-59), 3) := by decide +kernel
theorem dX0_expandRow_73 : decode cX0_expandRow 73 = .ok (.lload 4, 2) := by decide +kernel
theorem dX0_expandRow_75 : decode cX0_expandRow 75 = .ok (.lreturn, 1) := by decide +kernel
theorem dX0_listMembers_0 : decode cX0_listMembers 0 = .ok (.iconst 0, 1) := by decide +kernel
theorem dX0_listMembers_1 : decode cX0_listMembers 1 = .ok (.istore_n 2, 1) := by decide +kernel
theorem dX0_listMembers_2 : decode cX0_listMembers 2 = .ok (.iconst 0, 1) := by decide +kernel
theorem dX0_listMembers_3 : decode cX0_listMembers 3 = .ok (.istore_n 3, 1) := by decide +kernel
theorem dX0_listMembers_4 : decode cX0_listMembers 4 = .ok (.iload_n 3, 1) := by decide +kernel
theorem dX0_listMembers_5 : decode cX0_listMembers 5 = .ok (.aload_n 0, 1) := by decide +kernel
theorem dX0_listMembers_6 : decode cX0_listMembers 6 = .ok (.getfield 9, 3) := by decide +kernel
theorem dX0_listMembers_9 : decode cX0_listMembers 9 = .ok (.getfield 32, 3) := by decide +kernel
theorem dX0_listMembers_12 : decode cX0_listMembers 12 = .ok (.if_icmp .ge 28, 3) := by decide +kernel
theorem dX0_listMembers_15 : decode cX0_listMembers 15 = .ok (.iload_n 1, 1) := by decide +kernel
theorem dX0_listMembers_16 : decode cX0_listMembers 16 = .ok (.iload_n 3, 1) := by decide +kernel
theorem dX0_listMembers_17 : decode cX0_listMembers 17 = .ok (.ishr, 1) := by decide +kernel
theorem dX0_listMembers_18 : decode cX0_listMembers 18 = .ok (.iconst 1, 1) := by decide +kernel
theorem dX0_listMembers_19 : decode cX0_listMembers 19 = .ok (.iand, 1) := by decide +kernel
theorem dX0_listMembers_20 : decode cX0_listMembers 20 = .ok (.iconst 1, 1) := by decide +kernel
theorem dX0_listMembers_21 : decode cX0_listMembers 21 = .ok (.if_icmp .ne 13, 3) := by decide +kernel
theorem dX0_listMembers_24 : decode cX0_listMembers 24 = .ok (.aload_n 0, 1) := by decide +kernel
theorem dX0_listMembers_25 : decode cX0_listMembers 25 = .ok (.getfield 24, 3) := by decide +kernel
theorem dX0_listMembers_28 : decode cX0_listMembers 28 = .ok (.iload_n 2, 1) := by decide +kernel
theorem dX0_listMembers_29 : decode cX0_listMembers 29 = .ok (.iload_n 3, 1) := by decide +kernel
theorem dX0_listMembers_30 : decode cX0_listMembers 30 = .ok (.iastore, 1) := by decide +kernel
theorem dX0_listMembers_31 : decode cX0_listMembers 31 = .ok (.iinc 2 1, 3) := by decide +kernel
theorem dX0_listMembers_34 : decode cX0_listMembers 34 = .ok (.iinc 3 1, 3) := by decide +kernel
theorem dX0_listMembers_37 : decode cX0_listMembers 37 = .ok (.goto (-33), 3) := by decide +kernel
theorem dX0_listMembers_40 : decode cX0_listMembers 40 = .ok (.iload_n 2, 1) := by decide +kernel
theorem dX0_listMembers_41 : decode cX0_listMembers 41 = .ok (.ireturn, 1) := by decide +kernel
theorem dX0_fewestTooMany_0 : decode cX0_fewestTooMany 0 = .ok (.iconst 0, 1) := by decide +kernel
theorem dX0_fewestTooMany_1 : decode cX0_fewestTooMany 1 = .ok (.istore_n 2, 1) := by decide +kernel
theorem dX0_fewestTooMany_2 : decode cX0_fewestTooMany 2 = .ok (.bipush 6, 2) := by decide +kernel
theorem dX0_fewestTooMany_4 : decode cX0_fewestTooMany 4 = .ok (.istore_n 3, 1) := by decide +kernel
theorem dX0_fewestTooMany_5 : decode cX0_fewestTooMany 5 = .ok (.iconst 1, 1) := by decide +kernel
theorem dX0_fewestTooMany_6 : decode cX0_fewestTooMany 6 = .ok (.istore 4, 2) := by decide +kernel
theorem dX0_fewestTooMany_8 : decode cX0_fewestTooMany 8 = .ok (.iload 4, 2) := by decide +kernel
theorem dX0_fewestTooMany_10 : decode cX0_fewestTooMany 10 = .ok (.iload_n 1, 1) := by decide +kernel
theorem dX0_fewestTooMany_11 : decode cX0_fewestTooMany 11 = .ok (.if_icmp .gt 46, 3) := by decide +kernel
theorem dX0_fewestTooMany_14 : decode cX0_fewestTooMany 14 = .ok (.iload 4, 2) := by decide +kernel
theorem dX0_fewestTooMany_16 : decode cX0_fewestTooMany 16 = .ok (.invokestatic 60, 3) := by decide +kernel
theorem dX0_fewestTooMany_19 : decode cX0_fewestTooMany 19 = .ok (.istore 5, 2) := by decide +kernel
theorem dX0_fewestTooMany_21 : decode cX0_fewestTooMany 21 = .ok (.iload 4, 2) := by decide +kernel
theorem dX0_fewestTooMany_23 : decode cX0_fewestTooMany 23 = .ok (.iload_n 1, 1) := by decide +kernel
theorem dX0_fewestTooMany_24 : decode cX0_fewestTooMany 24 = .ok (.iconst (-1), 1) := by decide +kernel
theorem dX0_fewestTooMany_25 : decode cX0_fewestTooMany 25 = .ok (.ixor, 1) := by decide +kernel
theorem dX0_fewestTooMany_26 : decode cX0_fewestTooMany 26 = .ok (.iand, 1) := by decide +kernel
theorem dX0_fewestTooMany_27 : decode cX0_fewestTooMany 27 = .ok (.ifCond .ne 24, 3) := by decide +kernel
theorem dX0_fewestTooMany_30 : decode cX0_fewestTooMany 30 = .ok (.iload 5, 2) := by decide +kernel
theorem dX0_fewestTooMany_32 : decode cX0_fewestTooMany 32 = .ok (.iload_n 3, 1) := by decide +kernel
theorem dX0_fewestTooMany_33 : decode cX0_fewestTooMany 33 = .ok (.if_icmp .ge 18, 3) := by decide +kernel
theorem dX0_fewestTooMany_36 : decode cX0_fewestTooMany 36 = .ok (.aload_n 0, 1) := by decide +kernel
theorem dX0_fewestTooMany_37 : decode cX0_fewestTooMany 37 = .ok (.iload 4, 2) := by decide +kernel
theorem dX0_fewestTooMany_39 : decode cX0_fewestTooMany 39 = .ok (.invokevirtual 69, 3) := by decide +kernel
theorem dX0_fewestTooMany_42 : decode cX0_fewestTooMany 42 = .ok (.ifCond .ne 9, 3) := by decide +kernel
theorem dX0_fewestTooMany_45 : decode cX0_fewestTooMany 45 = .ok (.iload 4, 2) := by decide +kernel
theorem dX0_fewestTooMany_47 : decode cX0_fewestTooMany 47 = .ok (.istore_n 2, 1) := by decide +kernel
theorem dX0_fewestTooMany_48 : decode cX0_fewestTooMany 48 = .ok (.iload 5, 2) := by decide +kernel
theorem dX0_fewestTooMany_50 : decode cX0_fewestTooMany 50 = .ok (.istore_n 3, 1) := by decide +kernel
theorem dX0_fewestTooMany_51 : decode cX0_fewestTooMany 51 = .ok (.iinc 4 1, 3) := by decide +kernel
theorem dX0_fewestTooMany_54 : decode cX0_fewestTooMany 54 = .ok (.goto (-46), 3) := by decide +kernel
theorem dX0_fewestTooMany_57 : decode cX0_fewestTooMany 57 = .ok (.iload_n 2, 1) := by decide +kernel
theorem dX0_fewestTooMany_58 : decode cX0_fewestTooMany 58 = .ok (.ireturn, 1) := by decide +kernel
theorem dX0_fewestToLeave_0 : decode cX0_fewestToLeave 0 = .ok (.iload_n 1, 1) := by decide +kernel
theorem dX0_fewestToLeave_1 : decode cX0_fewestToLeave 1 = .ok (.istore_n 2, 1) := by decide +kernel
theorem dX0_fewestToLeave_2 : decode cX0_fewestToLeave 2 = .ok (.iconst 0, 1) := by decide +kernel
theorem dX0_fewestToLeave_3 : decode cX0_fewestToLeave 3 = .ok (.istore_n 3, 1) := by decide +kernel
theorem dX0_fewestToLeave_4 : decode cX0_fewestToLeave 4 = .ok (.iload_n 3, 1) := by decide +kernel
theorem dX0_fewestToLeave_5 : decode cX0_fewestToLeave 5 = .ok (.iload_n 1, 1) := by decide +kernel
theorem dX0_fewestToLeave_6 : decode cX0_fewestToLeave 6 = .ok (.if_icmp .ge 54, 3) := by decide +kernel
theorem dX0_fewestToLeave_9 : decode cX0_fewestToLeave 9 = .ok (.iload_n 3, 1) := by decide +kernel
theorem dX0_fewestToLeave_10 : decode cX0_fewestToLeave 10 = .ok (.invokestatic 60, 3) := by decide +kernel
theorem dX0_fewestToLeave_13 : decode cX0_fewestToLeave 13 = .ok (.iload_n 2, 1) := by decide +kernel
theorem dX0_fewestToLeave_14 : decode cX0_fewestToLeave 14 = .ok (.invokestatic 60, 3) := by decide +kernel
theorem dX0_fewestToLeave_17 : decode cX0_fewestToLeave 17 = .ok (.if_icmp .ge 7, 3) := by decide +kernel
theorem dX0_fewestToLeave_20 : decode cX0_fewestToLeave 20 = .ok (.iconst 1, 1) := by decide +kernel
theorem dX0_fewestToLeave_21 : decode cX0_fewestToLeave 21 = .ok (.goto 4, 3) := by decide +kernel
theorem dX0_fewestToLeave_24 : decode cX0_fewestToLeave 24 = .ok (.iconst 0, 1) := by decide +kernel
theorem dX0_fewestToLeave_25 : decode cX0_fewestToLeave 25 = .ok (.istore 4, 2) := by decide +kernel
theorem dX0_fewestToLeave_27 : decode cX0_fewestToLeave 27 = .ok (.iload_n 3, 1) := by decide +kernel
theorem dX0_fewestToLeave_28 : decode cX0_fewestToLeave 28 = .ok (.iload_n 1, 1) := by decide +kernel
theorem dX0_fewestToLeave_29 : decode cX0_fewestToLeave 29 = .ok (.iconst (-1), 1) := by decide +kernel
theorem dX0_fewestToLeave_30 : decode cX0_fewestToLeave 30 = .ok (.ixor, 1) := by decide +kernel
theorem dX0_fewestToLeave_31 : decode cX0_fewestToLeave 31 = .ok (.iand, 1) := by decide +kernel
theorem dX0_fewestToLeave_32 : decode cX0_fewestToLeave 32 = .ok (.ifCond .ne 22, 3) := by decide +kernel
theorem dX0_fewestToLeave_35 : decode cX0_fewestToLeave 35 = .ok (.iload 4, 2) := by decide +kernel
theorem dX0_fewestToLeave_37 : decode cX0_fewestToLeave 37 = .ok (.ifCond .eq 17, 3) := by decide +kernel
theorem dX0_fewestToLeave_40 : decode cX0_fewestToLeave 40 = .ok (.aload_n 0, 1) := by decide +kernel
theorem dX0_fewestToLeave_41 : decode cX0_fewestToLeave 41 = .ok (.iload_n 1, 1) := by decide +kernel
theorem dX0_fewestToLeave_42 : decode cX0_fewestToLeave 42 = .ok (.iload_n 3, 1) := by decide +kernel
theorem dX0_fewestToLeave_43 : decode cX0_fewestToLeave 43 = .ok (.iconst (-1), 1) := by decide +kernel
theorem dX0_fewestToLeave_44 : decode cX0_fewestToLeave 44 = .ok (.ixor, 1) := by decide +kernel
theorem dX0_fewestToLeave_45 : decode cX0_fewestToLeave 45 = .ok (.iand, 1) := by decide +kernel
theorem dX0_fewestToLeave_46 : decode cX0_fewestToLeave 46 = .ok (.invokevirtual 69, 3) := by decide +kernel
theorem dX0_fewestToLeave_49 : decode cX0_fewestToLeave 49 = .ok (.ifCond .eq 5, 3) := by decide +kernel
theorem dX0_fewestToLeave_52 : decode cX0_fewestToLeave 52 = .ok (.iload_n 3, 1) := by decide +kernel
theorem dX0_fewestToLeave_53 : decode cX0_fewestToLeave 53 = .ok (.istore_n 2, 1) := by decide +kernel
theorem dX0_fewestToLeave_54 : decode cX0_fewestToLeave 54 = .ok (.iinc 3 1, 3) := by decide +kernel
theorem dX0_fewestToLeave_57 : decode cX0_fewestToLeave 57 = .ok (.goto (-53), 3) := by decide +kernel
theorem dX0_fewestToLeave_60 : decode cX0_fewestToLeave 60 = .ok (.iload_n 2, 1) := by decide +kernel
theorem dX0_fewestToLeave_61 : decode cX0_fewestToLeave 61 = .ok (.ireturn, 1) := by decide +kernel
theorem dX0_comeIn_0 : decode cX0_comeIn 0 = .ok (.iconst 0, 1) := by decide +kernel
theorem dX0_comeIn_1 : decode cX0_comeIn 1 = .ok (.istore_n 2, 1) := by decide +kernel
theorem dX0_comeIn_2 : decode cX0_comeIn 2 = .ok (.iconst 0, 1) := by decide +kernel
theorem dX0_comeIn_3 : decode cX0_comeIn 3 = .ok (.istore_n 3, 1) := by decide +kernel
theorem dX0_comeIn_4 : decode cX0_comeIn 4 = .ok (.iload_n 3, 1) := by decide +kernel
theorem dX0_comeIn_5 : decode cX0_comeIn 5 = .ok (.aload_n 0, 1) := by decide +kernel
theorem dX0_comeIn_6 : decode cX0_comeIn 6 = .ok (.getfield 9, 3) := by decide +kernel
theorem dX0_comeIn_9 : decode cX0_comeIn 9 = .ok (.getfield 32, 3) := by decide +kernel
theorem dX0_comeIn_12 : decode cX0_comeIn 12 = .ok (.if_icmp .ge 37, 3) := by decide +kernel
theorem dX0_comeIn_15 : decode cX0_comeIn 15 = .ok (.iload_n 2, 1) := by decide +kernel
theorem dX0_comeIn_16 : decode cX0_comeIn 16 = .ok (.iconst 1, 1) := by decide +kernel
theorem dX0_comeIn_17 : decode cX0_comeIn 17 = .ok (.iload_n 3, 1) := by decide +kernel
theorem dX0_comeIn_18 : decode cX0_comeIn 18 = .ok (.ishl, 1) := by decide +kernel
theorem dX0_comeIn_19 : decode cX0_comeIn 19 = .ok (.ior, 1) := by decide +kernel
theorem dX0_comeIn_20 : decode cX0_comeIn 20 = .ok (.istore 4, 2) := by decide +kernel
theorem dX0_comeIn_22 : decode cX0_comeIn 22 = .ok (.iload_n 1, 1) := by decide +kernel
theorem dX0_comeIn_23 : decode cX0_comeIn 23 = .ok (.iload_n 3, 1) := by decide +kernel
theorem dX0_comeIn_24 : decode cX0_comeIn 24 = .ok (.ishr, 1) := by decide +kernel
theorem dX0_comeIn_25 : decode cX0_comeIn 25 = .ok (.iconst 1, 1) := by decide +kernel
theorem dX0_comeIn_26 : decode cX0_comeIn 26 = .ok (.iand, 1) := by decide +kernel
theorem dX0_comeIn_27 : decode cX0_comeIn 27 = .ok (.iconst 1, 1) := by decide +kernel
theorem dX0_comeIn_28 : decode cX0_comeIn 28 = .ok (.if_icmp .ne 15, 3) := by decide +kernel
theorem dX0_comeIn_31 : decode cX0_comeIn 31 = .ok (.aload_n 0, 1) := by decide +kernel
theorem dX0_comeIn_32 : decode cX0_comeIn 32 = .ok (.iload 4, 2) := by decide +kernel
theorem dX0_comeIn_34 : decode cX0_comeIn 34 = .ok (.invokevirtual 69, 3) := by decide +kernel
theorem dX0_comeIn_37 : decode cX0_comeIn 37 = .ok (.ifCond .eq 6, 3) := by decide +kernel
theorem dX0_comeIn_40 : decode cX0_comeIn 40 = .ok (.iload 4, 2) := by decide +kernel
theorem dX0_comeIn_42 : decode cX0_comeIn 42 = .ok (.istore_n 2, 1) := by decide +kernel
theorem dX0_comeIn_43 : decode cX0_comeIn 43 = .ok (.iinc 3 1, 3) := by decide +kernel
theorem dX0_comeIn_46 : decode cX0_comeIn 46 = .ok (.goto (-42), 3) := by decide +kernel
theorem dX0_comeIn_49 : decode cX0_comeIn 49 = .ok (.iload_n 2, 1) := by decide +kernel
theorem dX0_comeIn_50 : decode cX0_comeIn 50 = .ok (.ireturn, 1) := by decide +kernel
theorem dX0_whoseWishLess_0 : decode cX0_whoseWishLess 0 = .ok (.aload_n 0, 1) := by decide +kernel
theorem dX0_whoseWishLess_1 : decode cX0_whoseWishLess 1 = .ok (.invokevirtual 73, 3) := by decide +kernel
theorem dX0_whoseWishLess_4 : decode cX0_whoseWishLess 4 = .ok (.aload_n 0, 1) := by decide +kernel
theorem dX0_whoseWishLess_5 : decode cX0_whoseWishLess 5 = .ok (.iload_n 1, 1) := by decide +kernel
theorem dX0_whoseWishLess_6 : decode cX0_whoseWishLess 6 = .ok (.invokevirtual 69, 3) := by decide +kernel
theorem dX0_whoseWishLess_9 : decode cX0_whoseWishLess 9 = .ok (.ifCond .eq 5, 3) := by decide +kernel
theorem dX0_whoseWishLess_12 : decode cX0_whoseWishLess 12 = .ok (.iconst (-1), 1) := by decide +kernel
theorem dX0_whoseWishLess_13 : decode cX0_whoseWishLess 13 = .ok (.ireturn, 1) := by decide +kernel
theorem dX0_whoseWishLess_14 : decode cX0_whoseWishLess 14 = .ok (.iconst 0, 1) := by decide +kernel
theorem dX0_whoseWishLess_15 : decode cX0_whoseWishLess 15 = .ok (.istore_n 2, 1) := by decide +kernel
theorem dX0_whoseWishLess_16 : decode cX0_whoseWishLess 16 = .ok (.iload_n 2, 1) := by decide +kernel
theorem dX0_whoseWishLess_17 : decode cX0_whoseWishLess 17 = .ok (.aload_n 0, 1) := by decide +kernel
theorem dX0_whoseWishLess_18 : decode cX0_whoseWishLess 18 = .ok (.getfield 9, 3) := by decide +kernel
theorem dX0_whoseWishLess_21 : decode cX0_whoseWishLess 21 = .ok (.getfield 32, 3) := by decide +kernel
theorem dX0_whoseWishLess_24 : decode cX0_whoseWishLess 24 = .ok (.if_icmp .ge 35, 3) := by decide +kernel
theorem dX0_whoseWishLess_27 : decode cX0_whoseWishLess 27 = .ok (.aload_n 0, 1) := by decide +kernel
theorem dX0_whoseWishLess_28 : decode cX0_whoseWishLess 28 = .ok (.iconst 1, 1) := by decide +kernel
theorem dX0_whoseWishLess_29 : decode cX0_whoseWishLess 29 = .ok (.iconst 1, 1) := by decide +kernel
theorem dX0_whoseWishLess_30 : decode cX0_whoseWishLess 30 = .ok (.iload_n 2, 1) := by decide +kernel
theorem dX0_whoseWishLess_31 : decode cX0_whoseWishLess 31 = .ok (.invokevirtual 28, 3) := by decide +kernel
theorem dX0_whoseWishLess_34 : decode cX0_whoseWishLess 34 = .ok (.iload_n 1, 1) := by decide +kernel
theorem dX0_whoseWishLess_35 : decode cX0_whoseWishLess 35 = .ok (.iload_n 2, 1) := by decide +kernel
theorem dX0_whoseWishLess_36 : decode cX0_whoseWishLess 36 = .ok (.ishr, 1) := by decide +kernel
theorem dX0_whoseWishLess_37 : decode cX0_whoseWishLess 37 = .ok (.iconst 1, 1) := by decide +kernel
theorem dX0_whoseWishLess_38 : decode cX0_whoseWishLess 38 = .ok (.iand, 1) := by decide +kernel
theorem dX0_whoseWishLess_39 : decode cX0_whoseWishLess 39 = .ok (.iconst 1, 1) := by decide +kernel
theorem dX0_whoseWishLess_40 : decode cX0_whoseWishLess 40 = .ok (.if_icmp .ne 13, 3) := by decide +kernel
theorem dX0_whoseWishLess_43 : decode cX0_whoseWishLess 43 = .ok (.aload_n 0, 1) := by decide +kernel
theorem dX0_whoseWishLess_44 : decode cX0_whoseWishLess 44 = .ok (.iload_n 1, 1) := by decide +kernel
theorem dX0_whoseWishLess_45 : decode cX0_whoseWishLess 45 = .ok (.invokevirtual 69, 3) := by decide +kernel
theorem dX0_whoseWishLess_48 : decode cX0_whoseWishLess 48 = .ok (.ifCond .eq 5, 3) := by decide +kernel
theorem dX0_whoseWishLess_51 : decode cX0_whoseWishLess 51 = .ok (.iload_n 2, 1) := by decide +kernel
theorem dX0_whoseWishLess_52 : decode cX0_whoseWishLess 52 = .ok (.ireturn, 1) := by decide +kernel
theorem dX0_whoseWishLess_53 : decode cX0_whoseWishLess 53 = .ok (.iinc 2 1, 3) := by decide +kernel
theorem dX0_whoseWishLess_56 : decode cX0_whoseWishLess 56 = .ok (.goto (-40), 3) := by decide +kernel
theorem dX0_whoseWishLess_59 : decode cX0_whoseWishLess 59 = .ok (.iconst (-1), 1) := by decide +kernel
theorem dX0_whoseWishLess_60 : decode cX0_whoseWishLess 60 = .ok (.ireturn, 1) := by decide +kernel
theorem dX0_greatestQuarters_0 : decode cX0_greatestQuarters 0 = .ok (.bipush 8, 2) := by decide +kernel
theorem dX0_greatestQuarters_2 : decode cX0_greatestQuarters 2 = .ok (.istore_n 2, 1) := by decide +kernel
theorem dX0_greatestQuarters_3 : decode cX0_greatestQuarters 3 = .ok (.iload_n 2, 1) := by decide +kernel
theorem dX0_greatestQuarters_4 : decode cX0_greatestQuarters 4 = .ok (.ifCond .le 26, 3) := by decide +kernel
theorem dX0_greatestQuarters_7 : decode cX0_greatestQuarters 7 = .ok (.aload_n 0, 1) := by decide +kernel
theorem dX0_greatestQuarters_8 : decode cX0_greatestQuarters 8 = .ok (.iconst 4, 1) := by decide +kernel
theorem dX0_greatestQuarters_9 : decode cX0_greatestQuarters 9 = .ok (.iload_n 2, 1) := by decide +kernel
theorem dX0_greatestQuarters_10 : decode cX0_greatestQuarters 10 = .ok (.iconst (-1), 1) := by decide +kernel
theorem dX0_greatestQuarters_11 : decode cX0_greatestQuarters 11 = .ok (.invokevirtual 28, 3) := by decide +kernel
theorem dX0_greatestQuarters_14 : decode cX0_greatestQuarters 14 = .ok (.aload_n 0, 1) := by decide +kernel
theorem dX0_greatestQuarters_15 : decode cX0_greatestQuarters 15 = .ok (.iload_n 1, 1) := by decide +kernel
theorem dX0_greatestQuarters_16 : decode cX0_greatestQuarters 16 = .ok (.invokevirtual 69, 3) := by decide +kernel
theorem dX0_greatestQuarters_19 : decode cX0_greatestQuarters 19 = .ok (.ifCond .eq 5, 3) := by decide +kernel
theorem dX0_greatestQuarters_22 : decode cX0_greatestQuarters 22 = .ok (.iload_n 2, 1) := by decide +kernel
theorem dX0_greatestQuarters_23 : decode cX0_greatestQuarters 23 = .ok (.ireturn, 1) := by decide +kernel
theorem dX0_greatestQuarters_24 : decode cX0_greatestQuarters 24 = .ok (.iinc 2 (-1), 3) := by decide +kernel
theorem dX0_greatestQuarters_27 : decode cX0_greatestQuarters 27 = .ok (.goto (-24), 3) := by decide +kernel
theorem dX0_greatestQuarters_30 : decode cX0_greatestQuarters 30 = .ok (.iconst 0, 1) := by decide +kernel
theorem dX0_greatestQuarters_31 : decode cX0_greatestQuarters 31 = .ok (.ireturn, 1) := by decide +kernel
theorem dX1_init_0 : decode cX1_init 0 = .ok (.aload_n 0, 1) := by decide +kernel
theorem dX1_init_1 : decode cX1_init 1 = .ok (.invokespecial 1, 3) := by decide +kernel
theorem dX1_init_4 : decode cX1_init 4 = .ok (.aload_n 0, 1) := by decide +kernel
theorem dX1_init_5 : decode cX1_init 5 = .ok (.iconst 3, 1) := by decide +kernel
theorem dX1_init_6 : decode cX1_init 6 = .ok (.putfield 7, 3) := by decide +kernel
theorem dX1_init_9 : decode cX1_init 9 = .ok (.aload_n 0, 1) := by decide +kernel
theorem dX1_init_10 : decode cX1_init 10 = .ok (.bipush 31, 2) := by decide +kernel
theorem dX1_init_12 : decode cX1_init 12 = .ok (.putfield 13, 3) := by decide +kernel
theorem dX1_init_15 : decode cX1_init 15 = .ok (.aload_n 0, 1) := by decide +kernel
theorem dX1_init_16 : decode cX1_init 16 = .ok (.bipush 25, 2) := by decide +kernel
theorem dX1_init_18 : decode cX1_init 18 = .ok (.newarray .int, 2) := by decide +kernel
theorem dX1_init_20 : decode cX1_init 20 = .ok (.putfield 16, 3) := by decide +kernel
theorem dX1_init_23 : decode cX1_init 23 = .ok (.aload_n 0, 1) := by decide +kernel
theorem dX1_init_24 : decode cX1_init 24 = .ok (.iconst 5, 1) := by decide +kernel
theorem dX1_init_25 : decode cX1_init 25 = .ok (.newarray .int, 2) := by decide +kernel
theorem dX1_init_27 : decode cX1_init 27 = .ok (.putfield 20, 3) := by decide +kernel
theorem dX1_init_30 : decode cX1_init 30 = .ok (.aload_n 0, 1) := by decide +kernel
theorem dX1_init_31 : decode cX1_init 31 = .ok (.iconst 5, 1) := by decide +kernel
theorem dX1_init_32 : decode cX1_init 32 = .ok (.newarray .int, 2) := by decide +kernel
theorem dX1_init_34 : decode cX1_init 34 = .ok (.putfield 23, 3) := by decide +kernel
theorem dX1_init_37 : decode cX1_init 37 = .ok (.aload_n 0, 1) := by decide +kernel
theorem dX1_init_38 : decode cX1_init 38 = .ok (.iconst 5, 1) := by decide +kernel
theorem dX1_init_39 : decode cX1_init 39 = .ok (.newarray .int, 2) := by decide +kernel
theorem dX1_init_41 : decode cX1_init 41 = .ok (.putfield 26, 3) := by decide +kernel
theorem dX1_init_44 : decode cX1_init 44 = .ok (.aload_n 0, 1) := by decide +kernel
theorem dX1_init_45 : decode cX1_init 45 = .ok (.iconst 5, 1) := by decide +kernel
theorem dX1_init_46 : decode cX1_init 46 = .ok (.newarray .int, 2) := by decide +kernel
theorem dX1_init_48 : decode cX1_init 48 = .ok (.putfield 29, 3) := by decide +kernel
theorem dX1_init_51 : decode cX1_init 51 = .ok (.iconst 0, 1) := by decide +kernel
theorem dX1_init_52 : decode cX1_init 52 = .ok (.istore_n 1, 1) := by decide +kernel
theorem dX1_init_53 : decode cX1_init 53 = .ok (.iload_n 1, 1) := by decide +kernel
theorem dX1_init_54 : decode cX1_init 54 = .ok (.iconst 5, 1) := by decide +kernel
theorem dX1_init_55 : decode cX1_init 55 = .ok (.if_icmp .ge 65, 3) := by decide +kernel
theorem dX1_init_58 : decode cX1_init 58 = .ok (.iconst 0, 1) := by decide +kernel
theorem dX1_init_59 : decode cX1_init 59 = .ok (.istore_n 2, 1) := by decide +kernel
theorem dX1_init_60 : decode cX1_init 60 = .ok (.iload_n 2, 1) := by decide +kernel
theorem dX1_init_61 : decode cX1_init 61 = .ok (.iconst 5, 1) := by decide +kernel
theorem dX1_init_62 : decode cX1_init 62 = .ok (.if_icmp .ge 30, 3) := by decide +kernel
theorem dX1_init_65 : decode cX1_init 65 = .ok (.aload_n 0, 1) := by decide +kernel
theorem dX1_init_66 : decode cX1_init 66 = .ok (.getfield 16, 3) := by decide +kernel
theorem dX1_init_69 : decode cX1_init 69 = .ok (.iload_n 1, 1) := by decide +kernel
theorem dX1_init_70 : decode cX1_init 70 = .ok (.iconst 5, 1) := by decide +kernel
theorem dX1_init_71 : decode cX1_init 71 = .ok (.imul, 1) := by decide +kernel
theorem dX1_init_72 : decode cX1_init 72 = .ok (.iload_n 2, 1) := by decide +kernel
theorem dX1_init_73 : decode cX1_init 73 = .ok (.iadd, 1) := by decide +kernel
theorem dX1_init_74 : decode cX1_init 74 = .ok (.iload_n 1, 1) := by decide +kernel
theorem dX1_init_75 : decode cX1_init 75 = .ok (.iload_n 2, 1) := by decide +kernel
theorem dX1_init_76 : decode cX1_init 76 = .ok (.if_icmp .ne 8, 3) := by decide +kernel
theorem dX1_init_79 : decode cX1_init 79 = .ok (.bipush 10, 2) := by decide +kernel
theorem dX1_init_81 : decode cX1_init 81 = .ok (.goto 4, 3) := by decide +kernel
theorem dX1_init_84 : decode cX1_init 84 = .ok (.iconst 1, 1) := by decide +kernel
theorem dX1_init_85 : decode cX1_init 85 = .ok (.iastore, 1) := by decide +kernel
theorem dX1_init_86 : decode cX1_init 86 = .ok (.iinc 2 1, 3) := by decide +kernel
theorem dX1_init_89 : decode cX1_init 89 = .ok (.goto (-29), 3) := by decide +kernel
theorem dX1_init_92 : decode cX1_init 92 = .ok (.aload_n 0, 1) := by decide +kernel
theorem dX1_init_93 : decode cX1_init 93 = .ok (.getfield 20, 3) := by decide +kernel
theorem dX1_init_96 : decode cX1_init 96 = .ok (.iload_n 1, 1) := by decide +kernel
theorem dX1_init_97 : decode cX1_init 97 = .ok (.iconst 5, 1) := by decide +kernel
theorem dX1_init_98 : decode cX1_init 98 = .ok (.iastore, 1) := by decide +kernel
theorem dX1_init_99 : decode cX1_init 99 = .ok (.aload_n 0, 1) := by decide +kernel
theorem dX1_init_100 : decode cX1_init 100 = .ok (.getfield 23, 3) := by decide +kernel
theorem dX1_init_103 : decode cX1_init 103 = .ok (.iload_n 1, 1) := by decide +kernel
theorem dX1_init_104 : decode cX1_init 104 = .ok (.iconst 1, 1) := by decide +kernel
theorem dX1_init_105 : decode cX1_init 105 = .ok (.iastore, 1) := by decide +kernel
theorem dX1_init_106 : decode cX1_init 106 = .ok (.aload_n 0, 1) := by decide +kernel
theorem dX1_init_107 : decode cX1_init 107 = .ok (.getfield 26, 3) := by decide +kernel
theorem dX1_init_110 : decode cX1_init 110 = .ok (.iload_n 1, 1) := by decide +kernel
theorem dX1_init_111 : decode cX1_init 111 = .ok (.bipush 100, 2) := by decide +kernel
theorem dX1_init_113 : decode cX1_init 113 = .ok (.iastore, 1) := by decide +kernel
theorem dX1_init_114 : decode cX1_init 114 = .ok (.iinc 1 1, 3) := by decide +kernel
theorem dX1_init_117 : decode cX1_init 117 = .ok (.goto (-64), 3) := by decide +kernel
theorem dX1_init_120 : decode cX1_init 120 = .ok (.return_, 1) := by decide +kernel
theorem dX1_mayBeGain_0 : decode cX1_mayBeGain 0 = .ok (.iload_n 0, 1) := by decide +kernel
theorem dX1_mayBeGain_1 : decode cX1_mayBeGain 1 = .ok (.iload_n 1, 1) := by decide +kernel
theorem dX1_mayBeGain_2 : decode cX1_mayBeGain 2 = .ok (.if_icmp .ne 22, 3) := by decide +kernel
theorem dX1_mayBeGain_5 : decode cX1_mayBeGain 5 = .ok (.iload_n 2, 1) := by decide +kernel
theorem dX1_mayBeGain_6 : decode cX1_mayBeGain 6 = .ok (.iconst 1, 1) := by decide +kernel
theorem dX1_mayBeGain_7 : decode cX1_mayBeGain 7 = .ok (.if_icmp .lt 13, 3) := by decide +kernel
theorem dX1_mayBeGain_10 : decode cX1_mayBeGain 10 = .ok (.iload_n 2, 1) := by decide +kernel
theorem dX1_mayBeGain_11 : decode cX1_mayBeGain 11 = .ok (.bipush 30, 2) := by decide +kernel
theorem dX1_mayBeGain_13 : decode cX1_mayBeGain 13 = .ok (.if_icmp .gt 7, 3) := by decide +kernel
theorem dX1_mayBeGain_16 : decode cX1_mayBeGain 16 = .ok (.iconst 1, 1) := by decide +kernel
theorem dX1_mayBeGain_17 : decode cX1_mayBeGain 17 = .ok (.goto 22, 3) := by decide +kernel
theorem dX1_mayBeGain_20 : decode cX1_mayBeGain 20 = .ok (.iconst 0, 1) := by decide +kernel
theorem dX1_mayBeGain_21 : decode cX1_mayBeGain 21 = .ok (.goto 18, 3) := by decide +kernel
theorem dX1_mayBeGain_24 : decode cX1_mayBeGain 24 = .ok (.iload_n 2, 1) := by decide +kernel
theorem dX1_mayBeGain_25 : decode cX1_mayBeGain 25 = .ok (.ifCond .lt 13, 3) := by decide +kernel
theorem dX1_mayBeGain_28 : decode cX1_mayBeGain 28 = .ok (.iload_n 2, 1) := by decide +kernel
theorem dX1_mayBeGain_29 : decode cX1_mayBeGain 29 = .ok (.bipush 9, 2) := by decide +kernel
theorem dX1_mayBeGain_31 : decode cX1_mayBeGain 31 = .ok (.if_icmp .gt 7, 3) := by decide +kernel
theorem dX1_mayBeGain_34 : decode cX1_mayBeGain 34 = .ok (.iconst 1, 1) := by decide +kernel
theorem dX1_mayBeGain_35 : decode cX1_mayBeGain 35 = .ok (.goto 4, 3) := by decide +kernel
theorem dX1_mayBeGain_38 : decode cX1_mayBeGain 38 = .ok (.iconst 0, 1) := by decide +kernel
theorem dX1_mayBeGain_39 : decode cX1_mayBeGain 39 = .ok (.ireturn, 1) := by decide +kernel
theorem dX1_isThere_0 : decode cX1_isThere 0 = .ok (.iload_n 1, 1) := by decide +kernel
theorem dX1_isThere_1 : decode cX1_isThere 1 = .ok (.ifCond .lt 15, 3) := by decide +kernel
theorem dX1_isThere_4 : decode cX1_isThere 4 = .ok (.iload_n 1, 1) := by decide +kernel
theorem dX1_isThere_5 : decode cX1_isThere 5 = .ok (.aload_n 0, 1) := by decide +kernel
theorem dX1_isThere_6 : decode cX1_isThere 6 = .ok (.getfield 7, 3) := by decide +kernel
theorem dX1_isThere_9 : decode cX1_isThere 9 = .ok (.if_icmp .ge 7, 3) := by decide +kernel
theorem dX1_isThere_12 : decode cX1_isThere 12 = .ok (.iconst 1, 1) := by decide +kernel
theorem dX1_isThere_13 : decode cX1_isThere 13 = .ok (.goto 4, 3) := by decide +kernel
theorem dX1_isThere_16 : decode cX1_isThere 16 = .ok (.iconst 0, 1) := by decide +kernel
theorem dX1_isThere_17 : decode cX1_isThere 17 = .ok (.ireturn, 1) := by decide +kernel
theorem dX1_allBits_0 : decode cX1_allBits 0 = .ok (.iconst 1, 1) := by decide +kernel
theorem dX1_allBits_1 : decode cX1_allBits 1 = .ok (.aload_n 0, 1) := by decide +kernel
theorem dX1_allBits_2 : decode cX1_allBits 2 = .ok (.getfield 7, 3) := by decide +kernel
theorem dX1_allBits_5 : decode cX1_allBits 5 = .ok (.ishl, 1) := by decide +kernel
theorem dX1_allBits_6 : decode cX1_allBits 6 = .ok (.iconst 1, 1) := by decide +kernel
theorem dX1_allBits_7 : decode cX1_allBits 7 = .ok (.isub, 1) := by decide +kernel
theorem dX1_allBits_8 : decode cX1_allBits 8 = .ok (.ireturn, 1) := by decide +kernel
theorem dX1_onSet_0 : decode cX1_onSet 0 = .ok (.aload_n 0, 1) := by decide +kernel
theorem dX1_onSet_1 : decode cX1_onSet 1 = .ok (.getfield 13, 3) := by decide +kernel
theorem dX1_onSet_4 : decode cX1_onSet 4 = .ok (.aload_n 0, 1) := by decide +kernel
theorem dX1_onSet_5 : decode cX1_onSet 5 = .ok (.invokevirtual 32, 3) := by decide +kernel
theorem dX1_onSet_8 : decode cX1_onSet 8 = .ok (.iand, 1) := by decide +kernel
theorem dX1_onSet_9 : decode cX1_onSet 9 = .ok (.ireturn, 1) := by decide +kernel
theorem dX1_isOn_0 : decode cX1_isOn 0 = .ok (.aload_n 0, 1) := by decide +kernel
theorem dX1_isOn_1 : decode cX1_isOn 1 = .ok (.getfield 13, 3) := by decide +kernel
theorem dX1_isOn_4 : decode cX1_isOn 4 = .ok (.iload_n 1, 1) := by decide +kernel
theorem dX1_isOn_5 : decode cX1_isOn 5 = .ok (.ishr, 1) := by decide +kernel
theorem dX1_isOn_6 : decode cX1_isOn 6 = .ok (.iconst 1, 1) := by decide +kernel
theorem dX1_isOn_7 : decode cX1_isOn 7 = .ok (.iand, 1) := by decide +kernel
theorem dX1_isOn_8 : decode cX1_isOn 8 = .ok (.iconst 1, 1) := by decide +kernel
theorem dX1_isOn_9 : decode cX1_isOn 9 = .ok (.if_icmp .ne 7, 3) := by decide +kernel
theorem dX1_isOn_12 : decode cX1_isOn 12 = .ok (.iconst 1, 1) := by decide +kernel
theorem dX1_isOn_13 : decode cX1_isOn 13 = .ok (.goto 4, 3) := by decide +kernel
theorem dX1_isOn_16 : decode cX1_isOn 16 = .ok (.iconst 0, 1) := by decide +kernel
theorem dX1_isOn_17 : decode cX1_isOn 17 = .ok (.ireturn, 1) := by decide +kernel
theorem dX1_gainOf_0 : decode cX1_gainOf 0 = .ok (.aload_n 0, 1) := by decide +kernel
theorem dX1_gainOf_1 : decode cX1_gainOf 1 = .ok (.getfield 16, 3) := by decide +kernel
theorem dX1_gainOf_4 : decode cX1_gainOf 4 = .ok (.iload_n 1, 1) := by decide +kernel
theorem dX1_gainOf_5 : decode cX1_gainOf 5 = .ok (.iconst 5, 1) := by decide +kernel
theorem dX1_gainOf_6 : decode cX1_gainOf 6 = .ok (.imul, 1) := by decide +kernel
theorem dX1_gainOf_7 : decode cX1_gainOf 7 = .ok (.iload_n 2, 1) := by decide +kernel
theorem dX1_gainOf_8 : decode cX1_gainOf 8 = .ok (.iadd, 1) := by decide +kernel
theorem dX1_gainOf_9 : decode cX1_gainOf 9 = .ok (.iaload, 1) := by decide +kernel
theorem dX1_gainOf_10 : decode cX1_gainOf 10 = .ok (.ireturn, 1) := by decide +kernel
theorem dX1_tellGain_0 : decode cX1_tellGain 0 = .ok (.aload_n 0, 1) := by decide +kernel
theorem dX1_tellGain_1 : decode cX1_tellGain 1 = .ok (.getfield 16, 3) := by decide +kernel
theorem dX1_tellGain_4 : decode cX1_tellGain 4 = .ok (.iload_n 1, 1) := by decide +kernel
theorem dX1_tellGain_5 : decode cX1_tellGain 5 = .ok (.iconst 5, 1) := by decide +kernel
theorem dX1_tellGain_6 : decode cX1_tellGain 6 = .ok (.imul, 1) := by decide +kernel
theorem dX1_tellGain_7 : decode cX1_tellGain 7 = .ok (.iload_n 2, 1) := by decide +kernel
theorem dX1_tellGain_8 : decode cX1_tellGain 8 = .ok (.iadd, 1) := by decide +kernel
theorem dX1_tellGain_9 : decode cX1_tellGain 9 = .ok (.iload_n 3, 1) := by decide +kernel
theorem dX1_tellGain_10 : decode cX1_tellGain 10 = .ok (.iastore, 1) := by decide +kernel
theorem dX1_tellGain_11 : decode cX1_tellGain 11 = .ok (.return_, 1) := by decide +kernel
theorem dX1_othersAndNoise_0 : decode cX1_othersAndNoise 0 = .ok (.aload_n 0, 1) := by decide +kernel
theorem dX1_othersAndNoise_1 : decode cX1_othersAndNoise 1 = .ok (.getfield 23, 3) := by decide +kernel
theorem dX1_othersAndNoise_4 : decode cX1_othersAndNoise 4 = .ok (.iload_n 1, 1) := by decide +kernel
theorem dX1_othersAndNoise_5 : decode cX1_othersAndNoise 5 = .ok (.iaload, 1) := by decide +kernel
theorem dX1_othersAndNoise_6 : decode cX1_othersAndNoise 6 = .ok (.istore_n 3, 1) := by decide +kernel
theorem dX1_othersAndNoise_7 : decode cX1_othersAndNoise 7 = .ok (.iconst 0, 1) := by decide +kernel
theorem dX1_othersAndNoise_8 : decode cX1_othersAndNoise 8 = .ok (.istore 4, 2) := by decide +kernel
theorem dX1_othersAndNoise_10 : decode cX1_othersAndNoise 10 = .ok (.iload 4, 2) := by decide +kernel
theorem dX1_othersAndNoise_12 : decode cX1_othersAndNoise 12 = .ok (.aload_n 0, 1) := by decide +kernel
theorem dX1_othersAndNoise_13 : decode cX1_othersAndNoise 13 = .ok (.getfield 7, 3) := by decide +kernel
theorem dX1_othersAndNoise_16 : decode cX1_othersAndNoise 16 = .ok (.if_icmp .ge 47, 3) := by decide +kernel
theorem dX1_othersAndNoise_19 : decode cX1_othersAndNoise 19 = .ok (.iload 4, 2) := by decide +kernel
theorem dX1_othersAndNoise_21 : decode cX1_othersAndNoise 21 = .ok (.iload_n 1, 1) := by decide +kernel
theorem dX1_othersAndNoise_22 : decode cX1_othersAndNoise 22 = .ok (.if_icmp .eq 35, 3) := by decide +kernel
theorem dX1_othersAndNoise_25 : decode cX1_othersAndNoise 25 = .ok (.aload_n 0, 1) := by decide +kernel
theorem dX1_othersAndNoise_26 : decode cX1_othersAndNoise 26 = .ok (.getfield 13, 3) := by decide +kernel
theorem dX1_othersAndNoise_29 : decode cX1_othersAndNoise 29 = .ok (.iload 4, 2) := by decide +kernel
theorem dX1_othersAndNoise_31 : decode cX1_othersAndNoise 31 = .ok (.ishr, 1) := by decide +kernel
theorem dX1_othersAndNoise_32 : decode cX1_othersAndNoise 32 = .ok (.iconst 1, 1) := by decide +kernel
theorem dX1_othersAndNoise_33 : decode cX1_othersAndNoise 33 = .ok (.iand, 1) := by decide +kernel
theorem dX1_othersAndNoise_34 : decode cX1_othersAndNoise 34 = .ok (.iconst 1, 1) := by decide +kernel
theorem dX1_othersAndNoise_35 : decode cX1_othersAndNoise 35 = .ok (.if_icmp .ne 22, 3) := by decide +kernel
theorem dX1_othersAndNoise_38 : decode cX1_othersAndNoise 38 = .ok (.iload_n 3, 1) := by decide +kernel
theorem dX1_othersAndNoise_39 : decode cX1_othersAndNoise 39 = .ok (.aload_n 0, 1) := by decide +kernel
theorem dX1_othersAndNoise_40 : decode cX1_othersAndNoise 40 = .ok (.getfield 16, 3) := by decide +kernel
theorem dX1_othersAndNoise_43 : decode cX1_othersAndNoise 43 = .ok (.iload_n 1, 1) := by decide +kernel
theorem dX1_othersAndNoise_44 : decode cX1_othersAndNoise 44 = .ok (.iconst 5, 1) := by decide +kernel
theorem dX1_othersAndNoise_45 : decode cX1_othersAndNoise 45 = .ok (.imul, 1) := by decide +kernel
theorem dX1_othersAndNoise_46 : decode cX1_othersAndNoise 46 = .ok (.iload 4, 2) := by decide +kernel
theorem dX1_othersAndNoise_48 : decode cX1_othersAndNoise 48 = .ok (.iadd, 1) := by decide +kernel
theorem dX1_othersAndNoise_49 : decode cX1_othersAndNoise 49 = .ok (.iaload, 1) := by decide +kernel
theorem dX1_othersAndNoise_50 : decode cX1_othersAndNoise 50 = .ok (.aload_n 2, 1) := by decide +kernel
theorem dX1_othersAndNoise_51 : decode cX1_othersAndNoise 51 = .ok (.iload 4, 2) := by decide +kernel
theorem dX1_othersAndNoise_53 : decode cX1_othersAndNoise 53 = .ok (.iaload, 1) := by decide +kernel
theorem dX1_othersAndNoise_54 : decode cX1_othersAndNoise 54 = .ok (.imul, 1) := by decide +kernel
theorem dX1_othersAndNoise_55 : decode cX1_othersAndNoise 55 = .ok (.iadd, 1) := by decide +kernel
theorem dX1_othersAndNoise_56 : decode cX1_othersAndNoise 56 = .ok (.istore_n 3, 1) := by decide +kernel
theorem dX1_othersAndNoise_57 : decode cX1_othersAndNoise 57 = .ok (.iinc 4 1, 3) := by decide +kernel
theorem dX1_othersAndNoise_60 : decode cX1_othersAndNoise 60 = .ok (.goto (-50), 3) := by decide +kernel
theorem dX1_othersAndNoise_63 : decode cX1_othersAndNoise 63 = .ok (.iload_n 3, 1) := by decide +kernel
theorem dX1_othersAndNoise_64 : decode cX1_othersAndNoise 64 = .ok (.ireturn, 1) := by decide +kernel
theorem dX1_needOf_0 : decode cX1_needOf 0 = .ok (.bipush 10, 2) := by decide +kernel
theorem dX1_needOf_2 : decode cX1_needOf 2 = .ok (.aload_n 0, 1) := by decide +kernel
theorem dX1_needOf_3 : decode cX1_needOf 3 = .ok (.iload_n 1, 1) := by decide +kernel
theorem dX1_needOf_4 : decode cX1_needOf 4 = .ok (.iload_n 1, 1) := by decide +kernel
theorem dX1_needOf_5 : decode cX1_needOf 5 = .ok (.invokevirtual 36, 3) := by decide +kernel
theorem dX1_needOf_8 : decode cX1_needOf 8 = .ok (.imul, 1) := by decide +kernel
theorem dX1_needOf_9 : decode cX1_needOf 9 = .ok (.istore_n 3, 1) := by decide +kernel
theorem dX1_needOf_10 : decode cX1_needOf 10 = .ok (.iload_n 3, 1) := by decide +kernel
theorem dX1_needOf_11 : decode cX1_needOf 11 = .ok (.ifCond .gt 7, 3) := by decide +kernel
theorem dX1_needOf_14 : decode cX1_needOf 14 = .ok (.iconst 0, 1) := by decide +kernel
theorem dX1_needOf_15 : decode cX1_needOf 15 = .ok (.goto 22, 3) := by decide +kernel
theorem dX1_needOf_18 : decode cX1_needOf 18 = .ok (.aload_n 0, 1) := by decide +kernel
theorem dX1_needOf_19 : decode cX1_needOf 19 = .ok (.getfield 20, 3) := by decide +kernel
theorem dX1_needOf_22 : decode cX1_needOf 22 = .ok (.iload_n 1, 1) := by decide +kernel
theorem dX1_needOf_23 : decode cX1_needOf 23 = .ok (.iaload, 1) := by decide +kernel
theorem dX1_needOf_24 : decode cX1_needOf 24 = .ok (.aload_n 0, 1) := by decide +kernel
theorem dX1_needOf_25 : decode cX1_needOf 25 = .ok (.iload_n 1, 1) := by decide +kernel
theorem dX1_needOf_26 : decode cX1_needOf 26 = .ok (.aload_n 2, 1) := by decide +kernel
theorem dX1_needOf_27 : decode cX1_needOf 27 = .ok (.invokevirtual 40, 3) := by decide +kernel
theorem dX1_needOf_30 : decode cX1_needOf 30 = .ok (.imul, 1) := by decide +kernel
theorem dX1_needOf_31 : decode cX1_needOf 31 = .ok (.iload_n 3, 1) := by decide +kernel
theorem dX1_needOf_32 : decode cX1_needOf 32 = .ok (.iadd, 1) := by decide +kernel
theorem dX1_needOf_33 : decode cX1_needOf 33 = .ok (.iconst 1, 1) := by decide +kernel
theorem dX1_needOf_34 : decode cX1_needOf 34 = .ok (.isub, 1) := by decide +kernel
theorem dX1_needOf_35 : decode cX1_needOf 35 = .ok (.iload_n 3, 1) := by decide +kernel
theorem dX1_needOf_36 : decode cX1_needOf 36 = .ok (.idiv, 1) := by decide +kernel
theorem dX1_needOf_37 : decode cX1_needOf 37 = .ok (.ireturn, 1) := by decide +kernel
theorem dX1_isContent_0 : decode cX1_isContent 0 = .ok (.aload_n 0, 1) := by decide +kernel
theorem dX1_isContent_1 : decode cX1_isContent 1 = .ok (.iload_n 1, 1) := by decide +kernel
theorem dX1_isContent_2 : decode cX1_isContent 2 = .ok (.invokevirtual 44, 3) := by decide +kernel
theorem dX1_isContent_5 : decode cX1_isContent 5 = .ok (.ifCond .eq 42, 3) := by decide +kernel
theorem dX1_isContent_8 : decode cX1_isContent 8 = .ok (.bipush 10, 2) := by decide +kernel
theorem dX1_isContent_10 : decode cX1_isContent 10 = .ok (.aload_n 0, 1) := by decide +kernel
theorem dX1_isContent_11 : decode cX1_isContent 11 = .ok (.iload_n 1, 1) := by decide +kernel
theorem dX1_isContent_12 : decode cX1_isContent 12 = .ok (.iload_n 1, 1) := by decide +kernel
theorem dX1_isContent_13 : decode cX1_isContent 13 = .ok (.invokevirtual 36, 3) := by decide +kernel
theorem dX1_isContent_16 : decode cX1_isContent 16 = .ok (.imul, 1) := by decide +kernel
theorem dX1_isContent_17 : decode cX1_isContent 17 = .ok (.aload_n 0, 1) := by decide +kernel
theorem dX1_isContent_18 : decode cX1_isContent 18 = .ok (.getfield 29, 3) := by decide +kernel
theorem dX1_isContent_21 : decode cX1_isContent 21 = .ok (.iload_n 1, 1) := by decide +kernel
theorem dX1_isContent_22 : decode cX1_isContent 22 = .ok (.iaload, 1) := by decide +kernel
theorem dX1_isContent_23 : decode cX1_isContent 23 = .ok (.imul, 1) := by decide +kernel
theorem dX1_isContent_24 : decode cX1_isContent 24 = .ok (.aload_n 0, 1) := by decide +kernel
theorem dX1_isContent_25 : decode cX1_isContent 25 = .ok (.getfield 20, 3) := by decide +kernel
theorem dX1_isContent_28 : decode cX1_isContent 28 = .ok (.iload_n 1, 1) := by decide +kernel
theorem dX1_isContent_29 : decode cX1_isContent 29 = .ok (.iaload, 1) := by decide +kernel
theorem dX1_isContent_30 : decode cX1_isContent 30 = .ok (.aload_n 0, 1) := by decide +kernel
theorem dX1_isContent_31 : decode cX1_isContent 31 = .ok (.iload_n 1, 1) := by decide +kernel
theorem dX1_isContent_32 : decode cX1_isContent 32 = .ok (.aload_n 0, 1) := by decide +kernel
theorem dX1_isContent_33 : decode cX1_isContent 33 = .ok (.getfield 29, 3) := by decide +kernel
theorem dX1_isContent_36 : decode cX1_isContent 36 = .ok (.invokevirtual 40, 3) := by decide +kernel
theorem dX1_isContent_39 : decode cX1_isContent 39 = .ok (.imul, 1) := by decide +kernel
theorem dX1_isContent_40 : decode cX1_isContent 40 = .ok (.if_icmp .lt 7, 3) := by decide +kernel
theorem dX1_isContent_43 : decode cX1_isContent 43 = .ok (.iconst 1, 1) := by decide +kernel
theorem dX1_isContent_44 : decode cX1_isContent 44 = .ok (.goto 4, 3) := by decide +kernel
theorem dX1_isContent_47 : decode cX1_isContent 47 = .ok (.iconst 0, 1) := by decide +kernel
theorem dX1_isContent_48 : decode cX1_isContent 48 = .ok (.ireturn, 1) := by decide +kernel
theorem dX1_contentSet_0 : decode cX1_contentSet 0 = .ok (.iconst 0, 1) := by decide +kernel
theorem dX1_contentSet_1 : decode cX1_contentSet 1 = .ok (.istore_n 1, 1) := by decide +kernel
theorem dX1_contentSet_2 : decode cX1_contentSet 2 = .ok (.iconst 0, 1) := by decide +kernel
theorem dX1_contentSet_3 : decode cX1_contentSet 3 = .ok (.istore_n 2, 1) := by decide +kernel
theorem dX1_contentSet_4 : decode cX1_contentSet 4 = .ok (.iload_n 2, 1) := by decide +kernel
theorem dX1_contentSet_5 : decode cX1_contentSet 5 = .ok (.aload_n 0, 1) := by decide +kernel
theorem dX1_contentSet_6 : decode cX1_contentSet 6 = .ok (.getfield 7, 3) := by decide +kernel
theorem dX1_contentSet_9 : decode cX1_contentSet 9 = .ok (.if_icmp .ge 23, 3) := by decide +kernel
theorem dX1_contentSet_12 : decode cX1_contentSet 12 = .ok (.aload_n 0, 1) := by decide +kernel
theorem dX1_contentSet_13 : decode cX1_contentSet 13 = .ok (.iload_n 2, 1) := by decide +kernel
theorem dX1_contentSet_14 : decode cX1_contentSet 14 = .ok (.invokevirtual 48, 3) := by decide +kernel
theorem dX1_contentSet_17 : decode cX1_contentSet 17 = .ok (.ifCond .eq 9, 3) := by decide +kernel
theorem dX1_contentSet_20 : decode cX1_contentSet 20 = .ok (.iload_n 1, 1) := by decide +kernel
theorem dX1_contentSet_21 : decode cX1_contentSet 21 = .ok (.iconst 1, 1) := by decide +kernel
theorem dX1_contentSet_22 : decode cX1_contentSet 22 = .ok (.iload_n 2, 1) := by decide +kernel
theorem dX1_contentSet_23 : decode cX1_contentSet 23 = .ok (.ishl, 1) := by decide +kernel
theorem dX1_contentSet_24 : decode cX1_contentSet 24 = .ok (.ior, 1) := by decide +kernel
theorem dX1_contentSet_25 : decode cX1_contentSet 25 = .ok (.istore_n 1, 1) := by decide +kernel
theorem dX1_contentSet_26 : decode cX1_contentSet 26 = .ok (.iinc 2 1, 3) := by decide +kernel
theorem dX1_contentSet_29 : decode cX1_contentSet 29 = .ok (.goto (-25), 3) := by decide +kernel
theorem dX1_contentSet_32 : decode cX1_contentSet 32 = .ok (.iload_n 1, 1) := by decide +kernel
theorem dX1_contentSet_33 : decode cX1_contentSet 33 = .ok (.ireturn, 1) := by decide +kernel
theorem dX1_sumOfPowers_0 : decode cX1_sumOfPowers 0 = .ok (.iconst 0, 1) := by decide +kernel
theorem dX1_sumOfPowers_1 : decode cX1_sumOfPowers 1 = .ok (.istore_n 1, 1) := by decide +kernel
theorem dX1_sumOfPowers_2 : decode cX1_sumOfPowers 2 = .ok (.iconst 0, 1) := by decide +kernel
theorem dX1_sumOfPowers_3 : decode cX1_sumOfPowers 3 = .ok (.istore_n 2, 1) := by decide +kernel
theorem dX1_sumOfPowers_4 : decode cX1_sumOfPowers 4 = .ok (.iload_n 2, 1) := by decide +kernel
theorem dX1_sumOfPowers_5 : decode cX1_sumOfPowers 5 = .ok (.aload_n 0, 1) := by decide +kernel
theorem dX1_sumOfPowers_6 : decode cX1_sumOfPowers 6 = .ok (.getfield 7, 3) := by decide +kernel
theorem dX1_sumOfPowers_9 : decode cX1_sumOfPowers 9 = .ok (.if_icmp .ge 26, 3) := by decide +kernel
theorem dX1_sumOfPowers_12 : decode cX1_sumOfPowers 12 = .ok (.aload_n 0, 1) := by decide +kernel
theorem dX1_sumOfPowers_13 : decode cX1_sumOfPowers 13 = .ok (.iload_n 2, 1) := by decide +kernel
theorem dX1_sumOfPowers_14 : decode cX1_sumOfPowers 14 = .ok (.invokevirtual 44, 3) := by decide +kernel
theorem dX1_sumOfPowers_17 : decode cX1_sumOfPowers 17 = .ok (.ifCond .eq 12, 3) := by decide +kernel
theorem dX1_sumOfPowers_20 : decode cX1_sumOfPowers 20 = .ok (.iload_n 1, 1) := by decide +kernel
theorem dX1_sumOfPowers_21 : decode cX1_sumOfPowers 21 = .ok (.aload_n 0, 1) := by decide +kernel
theorem dX1_sumOfPowers_22 : decode cX1_sumOfPowers 22 = .ok (.getfield 29, 3) := by decide +kernel
theorem dX1_sumOfPowers_25 : decode cX1_sumOfPowers 25 = .ok (.iload_n 2, 1) := by decide +kernel
theorem dX1_sumOfPowers_26 : decode cX1_sumOfPowers 26 = .ok (.iaload, 1) := by decide +kernel
theorem dX1_sumOfPowers_27 : decode cX1_sumOfPowers 27 = .ok (.iadd, 1) := by decide +kernel
theorem dX1_sumOfPowers_28 : decode cX1_sumOfPowers 28 = .ok (.istore_n 1, 1) := by decide +kernel
theorem dX1_sumOfPowers_29 : decode cX1_sumOfPowers 29 = .ok (.iinc 2 1, 3) := by decide +kernel
theorem dX1_sumOfPowers_32 : decode cX1_sumOfPowers 32 = .ok (.goto (-28), 3) := by decide +kernel
theorem dX1_sumOfPowers_35 : decode cX1_sumOfPowers 35 = .ok (.iload_n 1, 1) := by decide +kernel
theorem dX1_sumOfPowers_36 : decode cX1_sumOfPowers 36 = .ok (.ireturn, 1) := by decide +kernel
theorem dX2_init_0 : decode cX2_init 0 = .ok (.aload_n 0, 1) := by decide +kernel
theorem dX2_init_1 : decode cX2_init 1 = .ok (.invokespecial 1, 3) := by decide +kernel
theorem dX2_init_4 : decode cX2_init 4 = .ok (.aload_n 0, 1) := by decide +kernel
theorem dX2_init_5 : decode cX2_init 5 = .ok (.iconst 0, 1) := by decide +kernel
theorem dX2_init_6 : decode cX2_init 6 = .ok (.putfield 7, 3) := by decide +kernel
theorem dX2_init_9 : decode cX2_init 9 = .ok (.aload_n 0, 1) := by decide +kernel
theorem dX2_init_10 : decode cX2_init 10 = .ok (.iconst (-1), 1) := by decide +kernel
theorem dX2_init_11 : decode cX2_init 11 = .ok (.putfield 13, 3) := by decide +kernel
theorem dX2_init_14 : decode cX2_init 14 = .ok (.aload_n 0, 1) := by decide +kernel
theorem dX2_init_15 : decode cX2_init 15 = .ok (.bipush 60, 2) := by decide +kernel
theorem dX2_init_17 : decode cX2_init 17 = .ok (.newarray .int, 2) := by decide +kernel
theorem dX2_init_19 : decode cX2_init 19 = .ok (.putfield 16, 3) := by decide +kernel
theorem dX2_init_22 : decode cX2_init 22 = .ok (.return_, 1) := by decide +kernel
theorem dX2_isLost_0 : decode cX2_isLost 0 = .ok (.aload_n 0, 1) := by decide +kernel
theorem dX2_isLost_1 : decode cX2_isLost 1 = .ok (.getfield 13, 3) := by decide +kernel
theorem dX2_isLost_4 : decode cX2_isLost 4 = .ok (.iconst (-1), 1) := by decide +kernel
theorem dX2_isLost_5 : decode cX2_isLost 5 = .ok (.if_icmp .ne 7, 3) := by decide +kernel
theorem dX2_isLost_8 : decode cX2_isLost 8 = .ok (.iconst 1, 1) := by decide +kernel
theorem dX2_isLost_9 : decode cX2_isLost 9 = .ok (.goto 4, 3) := by decide +kernel
theorem dX2_isLost_12 : decode cX2_isLost 12 = .ok (.iconst 0, 1) := by decide +kernel
theorem dX2_isLost_13 : decode cX2_isLost 13 = .ok (.ireturn, 1) := by decide +kernel
theorem dX2_renew_0 : decode cX2_renew 0 = .ok (.aload_n 0, 1) := by decide +kernel
theorem dX2_renew_1 : decode cX2_renew 1 = .ok (.iload_n 1, 1) := by decide +kernel
theorem dX2_renew_2 : decode cX2_renew 2 = .ok (.putfield 7, 3) := by decide +kernel
theorem dX2_renew_5 : decode cX2_renew 5 = .ok (.aload_n 0, 1) := by decide +kernel
theorem dX2_renew_6 : decode cX2_renew 6 = .ok (.iload_n 2, 1) := by decide +kernel
theorem dX2_renew_7 : decode cX2_renew 7 = .ok (.putfield 13, 3) := by decide +kernel
theorem dX2_renew_10 : decode cX2_renew 10 = .ok (.iconst 0, 1) := by decide +kernel
theorem dX2_renew_11 : decode cX2_renew 11 = .ok (.istore_n 3, 1) := by decide +kernel
theorem dX2_renew_12 : decode cX2_renew 12 = .ok (.iload_n 3, 1) := by decide +kernel
theorem dX2_renew_13 : decode cX2_renew 13 = .ok (.bipush 60, 2) := by decide +kernel
theorem dX2_renew_15 : decode cX2_renew 15 = .ok (.if_icmp .ge 16, 3) := by decide +kernel
theorem dX2_renew_18 : decode cX2_renew 18 = .ok (.aload_n 0, 1) := by decide +kernel
theorem dX2_renew_19 : decode cX2_renew 19 = .ok (.getfield 16, 3) := by decide +kernel
theorem dX2_renew_22 : decode cX2_renew 22 = .ok (.iload_n 3, 1) := by decide +kernel
theorem dX2_renew_23 : decode cX2_renew 23 = .ok (.iconst 0, 1) := by decide +kernel
theorem dX2_renew_24 : decode cX2_renew 24 = .ok (.iastore, 1) := by decide +kernel
theorem dX2_renew_25 : decode cX2_renew 25 = .ok (.iinc 3 1, 3) := by decide +kernel
theorem dX2_renew_28 : decode cX2_renew 28 = .ok (.goto (-16), 3) := by decide +kernel
theorem dX2_renew_31 : decode cX2_renew 31 = .ok (.return_, 1) := by decide +kernel
theorem dX2_hasRange_0 : decode cX2_hasRange 0 = .ok (.iload_n 1, 1) := by decide +kernel
theorem dX2_hasRange_1 : decode cX2_hasRange 1 = .ok (.ifCond .lt 29, 3) := by decide +kernel
theorem dX2_hasRange_4 : decode cX2_hasRange 4 = .ok (.iload_n 2, 1) := by decide +kernel
theorem dX2_hasRange_5 : decode cX2_hasRange 5 = .ok (.ifCond .lt 25, 3) := by decide +kernel
theorem dX2_hasRange_8 : decode cX2_hasRange 8 = .ok (.iload_n 2, 1) := by decide +kernel
theorem dX2_hasRange_9 : decode cX2_hasRange 9 = .ok (.aload_n 0, 1) := by decide +kernel
theorem dX2_hasRange_10 : decode cX2_hasRange 10 = .ok (.getfield 13, 3) := by decide +kernel
theorem dX2_hasRange_13 : decode cX2_hasRange 13 = .ok (.if_icmp .gt 17, 3) := by decide +kernel
theorem dX2_hasRange_16 : decode cX2_hasRange 16 = .ok (.iload_n 1, 1) := by decide +kernel
theorem dX2_hasRange_17 : decode cX2_hasRange 17 = .ok (.aload_n 0, 1) := by decide +kernel
theorem dX2_hasRange_18 : decode cX2_hasRange 18 = .ok (.getfield 13, 3) := by decide +kernel
theorem dX2_hasRange_21 : decode cX2_hasRange 21 = .ok (.iload_n 2, 1) := by decide +kernel
theorem dX2_hasRange_22 : decode cX2_hasRange 22 = .ok (.isub, 1) := by decide +kernel
theorem dX2_hasRange_23 : decode cX2_hasRange 23 = .ok (.if_icmp .gt 7, 3) := by decide +kernel
theorem dX2_hasRange_26 : decode cX2_hasRange 26 = .ok (.iconst 1, 1) := by decide +kernel
theorem dX2_hasRange_27 : decode cX2_hasRange 27 = .ok (.goto 4, 3) := by decide +kernel
theorem dX2_hasRange_30 : decode cX2_hasRange 30 = .ok (.iconst 0, 1) := by decide +kernel
theorem dX2_hasRange_31 : decode cX2_hasRange 31 = .ok (.ireturn, 1) := by decide +kernel
theorem dX2_store_0 : decode cX2_store 0 = .ok (.aload_n 0, 1) := by decide +kernel
theorem dX2_store_1 : decode cX2_store 1 = .ok (.getfield 7, 3) := by decide +kernel
theorem dX2_store_4 : decode cX2_store 4 = .ok (.lookupswitch 50 #[(0, 28), (1, 39)], 28) := by decide +kernel
theorem dX2_store_32 : decode cX2_store 32 = .ok (.aload_n 0, 1) := by decide +kernel
theorem dX2_store_33 : decode cX2_store 33 = .ok (.getfield 16, 3) := by decide +kernel
theorem dX2_store_36 : decode cX2_store 36 = .ok (.iload_n 1, 1) := by decide +kernel
theorem dX2_store_37 : decode cX2_store 37 = .ok (.iload_n 2, 1) := by decide +kernel
theorem dX2_store_38 : decode cX2_store 38 = .ok (.i2b, 1) := by decide +kernel
theorem dX2_store_39 : decode cX2_store 39 = .ok (.iastore, 1) := by decide +kernel
theorem dX2_store_40 : decode cX2_store 40 = .ok (.goto 21, 3) := by decide +kernel
theorem dX2_store_43 : decode cX2_store 43 = .ok (.aload_n 0, 1) := by decide +kernel
theorem dX2_store_44 : decode cX2_store 44 = .ok (.getfield 16, 3) := by decide +kernel
theorem dX2_store_47 : decode cX2_store 47 = .ok (.iload_n 1, 1) := by decide +kernel
theorem dX2_store_48 : decode cX2_store 48 = .ok (.iload_n 2, 1) := by decide +kernel
theorem dX2_store_49 : decode cX2_store 49 = .ok (.i2s, 1) := by decide +kernel
theorem dX2_store_50 : decode cX2_store 50 = .ok (.iastore, 1) := by decide +kernel
theorem dX2_store_51 : decode cX2_store 51 = .ok (.goto 10, 3) := by decide +kernel
theorem dX2_store_54 : decode cX2_store 54 = .ok (.aload_n 0, 1) := by decide +kernel
theorem dX2_store_55 : decode cX2_store 55 = .ok (.getfield 16, 3) := by decide +kernel
theorem dX2_store_58 : decode cX2_store 58 = .ok (.iload_n 1, 1) := by decide +kernel
theorem dX2_store_59 : decode cX2_store 59 = .ok (.iload_n 2, 1) := by decide +kernel
theorem dX2_store_60 : decode cX2_store 60 = .ok (.iastore, 1) := by decide +kernel
theorem dX2_store_61 : decode cX2_store 61 = .ok (.return_, 1) := by decide +kernel
theorem dX3_init_0 : decode cX3_init 0 = .ok (.aload_n 0, 1) := by decide +kernel
theorem dX3_init_1 : decode cX3_init 1 = .ok (.invokespecial 3, 3) := by decide +kernel
theorem dX3_init_4 : decode cX3_init 4 = .ok (.aload_n 0, 1) := by decide +kernel
theorem dX3_init_5 : decode cX3_init 5 = .ok (.iconst 0, 1) := by decide +kernel
theorem dX3_init_6 : decode cX3_init 6 = .ok (.putfield 9, 3) := by decide +kernel
theorem dX3_init_9 : decode cX3_init 9 = .ok (.aload_n 0, 1) := by decide +kernel
theorem dX3_init_10 : decode cX3_init 10 = .ok (.bipush 12, 2) := by decide +kernel
theorem dX3_init_12 : decode cX3_init 12 = .ok (.newarray .int, 2) := by decide +kernel
theorem dX3_init_14 : decode cX3_init 14 = .ok (.putfield 15, 3) := by decide +kernel
theorem dX3_init_17 : decode cX3_init 17 = .ok (.return_, 1) := by decide +kernel
theorem dX3_append_0 : decode cX3_append 0 = .ok (.aload_n 0, 1) := by decide +kernel
theorem dX3_append_1 : decode cX3_append 1 = .ok (.getfield 9, 3) := by decide +kernel
theorem dX3_append_4 : decode cX3_append 4 = .ok (.bipush 12, 2) := by decide +kernel
theorem dX3_append_6 : decode cX3_append 6 = .ok (.if_icmp .lt 5, 3) := by decide +kernel
theorem dX3_append_9 : decode cX3_append 9 = .ok (.iconst 0, 1) := by decide +kernel
theorem dX3_append_10 : decode cX3_append 10 = .ok (.ireturn, 1) := by decide +kernel
theorem dX3_append_11 : decode cX3_append 11 = .ok (.aload_n 0, 1) := by decide +kernel
theorem dX3_append_12 : decode cX3_append 12 = .ok (.getfield 15, 3) := by decide +kernel
theorem dX3_append_15 : decode cX3_append 15 = .ok (.aload_n 0, 1) := by decide +kernel
theorem dX3_append_16 : decode cX3_append 16 = .ok (.getfield 9, 3) := by decide +kernel
theorem dX3_append_19 : decode cX3_append 19 = .ok (.iload_n 1, 1) := by decide +kernel
theorem dX3_append_20 : decode cX3_append 20 = .ok (.iastore, 1) := by decide +kernel
theorem dX3_append_21 : decode cX3_append 21 = .ok (.aload_n 0, 1) := by decide +kernel
theorem dX3_append_22 : decode cX3_append 22 = .ok (.dup, 1) := by decide +kernel
theorem dX3_append_23 : decode cX3_append 23 = .ok (.getfield 9, 3) := by decide +kernel
theorem dX3_append_26 : decode cX3_append 26 = .ok (.iconst 1, 1) := by decide +kernel
theorem dX3_append_27 : decode cX3_append 27 = .ok (.iadd, 1) := by decide +kernel
theorem dX3_append_28 : decode cX3_append 28 = .ok (.putfield 9, 3) := by decide +kernel
theorem dX3_append_31 : decode cX3_append 31 = .ok (.iconst 1, 1) := by decide +kernel
theorem dX3_append_32 : decode cX3_append 32 = .ok (.ireturn, 1) := by decide +kernel
theorem dX3_firstWrong_0 : decode cX3_firstWrong 0 = .ok (.iconst 0, 1) := by decide +kernel
theorem dX3_firstWrong_1 : decode cX3_firstWrong 1 = .ok (.istore_n 2, 1) := by decide +kernel
theorem dX3_firstWrong_2 : decode cX3_firstWrong 2 = .ok (.iload_n 2, 1) := by decide +kernel
theorem dX3_firstWrong_3 : decode cX3_firstWrong 3 = .ok (.aload_n 0, 1) := by decide +kernel
theorem dX3_firstWrong_4 : decode cX3_firstWrong 4 = .ok (.getfield 9, 3) := by decide +kernel
theorem dX3_firstWrong_7 : decode cX3_firstWrong 7 = .ok (.if_icmp .ge 30, 3) := by decide +kernel
theorem dX3_firstWrong_10 : decode cX3_firstWrong 10 = .ok (.aload_n 0, 1) := by decide +kernel
theorem dX3_firstWrong_11 : decode cX3_firstWrong 11 = .ok (.getfield 15, 3) := by decide +kernel
theorem dX3_firstWrong_14 : decode cX3_firstWrong 14 = .ok (.iload_n 2, 1) := by decide +kernel
theorem dX3_firstWrong_15 : decode cX3_firstWrong 15 = .ok (.iaload, 1) := by decide +kernel
theorem dX3_firstWrong_16 : decode cX3_firstWrong 16 = .ok (.bipush 97, 2) := by decide +kernel
theorem dX3_firstWrong_18 : decode cX3_firstWrong 18 = .ok (.isub, 1) := by decide +kernel
theorem dX3_firstWrong_19 : decode cX3_firstWrong 19 = .ok (.istore_n 3, 1) := by decide +kernel
theorem dX3_firstWrong_20 : decode cX3_firstWrong 20 = .ok (.iload_n 3, 1) := by decide +kernel
theorem dX3_firstWrong_21 : decode cX3_firstWrong 21 = .ok (.ifCond .lt 8, 3) := by decide +kernel
theorem dX3_firstWrong_24 : decode cX3_firstWrong 24 = .ok (.iload_n 3, 1) := by decide +kernel
theorem dX3_firstWrong_25 : decode cX3_firstWrong 25 = .ok (.iload_n 1, 1) := by decide +kernel
theorem dX3_firstWrong_26 : decode cX3_firstWrong 26 = .ok (.if_icmp .lt 5, 3) := by decide +kernel
theorem dX3_firstWrong_29 : decode cX3_firstWrong 29 = .ok (.iload_n 2, 1) := by decide +kernel
theorem dX3_firstWrong_30 : decode cX3_firstWrong 30 = .ok (.ireturn, 1) := by decide +kernel
theorem dX3_firstWrong_31 : decode cX3_firstWrong 31 = .ok (.iinc 2 1, 3) := by decide +kernel
theorem dX3_firstWrong_34 : decode cX3_firstWrong 34 = .ok (.goto (-32), 3) := by decide +kernel
theorem dX3_firstWrong_37 : decode cX3_firstWrong 37 = .ok (.iconst (-1), 1) := by decide +kernel
theorem dX3_firstWrong_38 : decode cX3_firstWrong 38 = .ok (.ireturn, 1) := by decide +kernel
theorem dX4_init_0 : decode cX4_init 0 = .ok (.aload_n 0, 1) := by decide +kernel
theorem dX4_init_1 : decode cX4_init 1 = .ok (.invokespecial 3, 3) := by decide +kernel
theorem dX4_init_4 : decode cX4_init 4 = .ok (.aload_n 0, 1) := by decide +kernel
theorem dX4_init_5 : decode cX4_init 5 = .ok (.aload_n 1, 1) := by decide +kernel
theorem dX4_init_6 : decode cX4_init 6 = .ok (.putfield 9, 3) := by decide +kernel
theorem dX4_init_9 : decode cX4_init 9 = .ok (.aload_n 0, 1) := by decide +kernel
theorem dX4_init_10 : decode cX4_init 10 = .ok (.iconst 0, 1) := by decide +kernel
theorem dX4_init_11 : decode cX4_init 11 = .ok (.putfield 15, 3) := by decide +kernel
theorem dX4_init_14 : decode cX4_init 14 = .ok (.aload_n 0, 1) := by decide +kernel
theorem dX4_init_15 : decode cX4_init 15 = .ok (.iconst 5, 1) := by decide +kernel
theorem dX4_init_16 : decode cX4_init 16 = .ok (.newarray .int, 2) := by decide +kernel
theorem dX4_init_18 : decode cX4_init 18 = .ok (.putfield 21, 3) := by decide +kernel
theorem dX4_init_21 : decode cX4_init 21 = .ok (.aload_n 0, 1) := by decide +kernel
theorem dX4_init_22 : decode cX4_init 22 = .ok (.iconst 5, 1) := by decide +kernel
theorem dX4_init_23 : decode cX4_init 23 = .ok (.newarray .int, 2) := by decide +kernel
theorem dX4_init_25 : decode cX4_init 25 = .ok (.putfield 25, 3) := by decide +kernel
theorem dX4_init_28 : decode cX4_init 28 = .ok (.return_, 1) := by decide +kernel
theorem dX4_stepOf_0 : decode cX4_stepOf 0 = .ok (.aload_n 0, 1) := by decide +kernel
theorem dX4_stepOf_1 : decode cX4_stepOf 1 = .ok (.getfield 9, 3) := by decide +kernel
theorem dX4_stepOf_4 : decode cX4_stepOf 4 = .ok (.iload_n 1, 1) := by decide +kernel
theorem dX4_stepOf_5 : decode cX4_stepOf 5 = .ok (.aload_n 2, 1) := by decide +kernel
theorem dX4_stepOf_6 : decode cX4_stepOf 6 = .ok (.invokevirtual 28, 3) := by decide +kernel
theorem dX4_stepOf_9 : decode cX4_stepOf 9 = .ok (.aload_n 0, 1) := by decide +kernel
theorem dX4_stepOf_10 : decode cX4_stepOf 10 = .ok (.getfield 9, 3) := by decide +kernel
theorem dX4_stepOf_13 : decode cX4_stepOf 13 = .ok (.getfield 32, 3) := by decide +kernel
theorem dX4_stepOf_16 : decode cX4_stepOf 16 = .ok (.iload_n 1, 1) := by decide +kernel
theorem dX4_stepOf_17 : decode cX4_stepOf 17 = .ok (.iaload, 1) := by decide +kernel
theorem dX4_stepOf_18 : decode cX4_stepOf 18 = .ok (.invokestatic 35, 3) := by decide +kernel
theorem dX4_stepOf_21 : decode cX4_stepOf 21 = .ok (.ireturn, 1) := by decide +kernel
theorem dX4_takeTurn_0 : decode cX4_takeTurn 0 = .ok (.iconst 0, 1) := by decide +kernel
theorem dX4_takeTurn_1 : decode cX4_takeTurn 1 = .ok (.istore_n 2, 1) := by decide +kernel
theorem dX4_takeTurn_2 : decode cX4_takeTurn 2 = .ok (.iconst 0, 1) := by decide +kernel
theorem dX4_takeTurn_3 : decode cX4_takeTurn 3 = .ok (.istore_n 3, 1) := by decide +kernel
theorem dX4_takeTurn_4 : decode cX4_takeTurn 4 = .ok (.iload_n 3, 1) := by decide +kernel
theorem dX4_takeTurn_5 : decode cX4_takeTurn 5 = .ok (.aload_n 0, 1) := by decide +kernel
theorem dX4_takeTurn_6 : decode cX4_takeTurn 6 = .ok (.getfield 9, 3) := by decide +kernel
theorem dX4_takeTurn_9 : decode cX4_takeTurn 9 = .ok (.getfield 41, 3) := by decide +kernel
theorem dX4_takeTurn_12 : decode cX4_takeTurn 12 = .ok (.if_icmp .ge 53, 3) := by decide +kernel
theorem dX4_takeTurn_15 : decode cX4_takeTurn 15 = .ok (.aload_n 0, 1) := by decide +kernel
theorem dX4_takeTurn_16 : decode cX4_takeTurn 16 = .ok (.getfield 25, 3) := by decide +kernel
theorem dX4_takeTurn_19 : decode cX4_takeTurn 19 = .ok (.iload_n 3, 1) := by decide +kernel
theorem dX4_takeTurn_20 : decode cX4_takeTurn 20 = .ok (.aload_n 0, 1) := by decide +kernel
theorem dX4_takeTurn_21 : decode cX4_takeTurn 21 = .ok (.iload_n 3, 1) := by decide +kernel
theorem dX4_takeTurn_22 : decode cX4_takeTurn 22 = .ok (.aload_n 1, 1) := by decide +kernel
theorem dX4_takeTurn_23 : decode cX4_takeTurn 23 = .ok (.invokevirtual 44, 3) := by decide +kernel
theorem dX4_takeTurn_26 : decode cX4_takeTurn 26 = .ok (.iastore, 1) := by decide +kernel
theorem dX4_takeTurn_27 : decode cX4_takeTurn 27 = .ok (.aload_n 0, 1) := by decide +kernel
theorem dX4_takeTurn_28 : decode cX4_takeTurn 28 = .ok (.getfield 25, 3) := by decide +kernel
theorem dX4_takeTurn_31 : decode cX4_takeTurn 31 = .ok (.iload_n 3, 1) := by decide +kernel
theorem dX4_takeTurn_32 : decode cX4_takeTurn 32 = .ok (.iaload, 1) := by decide +kernel
theorem dX4_takeTurn_33 : decode cX4_takeTurn 33 = .ok (.aload_n 1, 1) := by decide +kernel
theorem dX4_takeTurn_34 : decode cX4_takeTurn 34 = .ok (.iload_n 3, 1) := by decide +kernel
theorem dX4_takeTurn_35 : decode cX4_takeTurn 35 = .ok (.iaload, 1) := by decide +kernel
theorem dX4_takeTurn_36 : decode cX4_takeTurn 36 = .ok (.if_icmp .eq 6, 3) := by decide +kernel
theorem dX4_takeTurn_39 : decode cX4_takeTurn 39 = .ok (.iinc 2 1, 3) := by decide +kernel
theorem dX4_takeTurn_42 : decode cX4_takeTurn 42 = .ok (.aload_n 0, 1) := by decide +kernel
theorem dX4_takeTurn_43 : decode cX4_takeTurn 43 = .ok (.getfield 15, 3) := by decide +kernel
theorem dX4_takeTurn_46 : decode cX4_takeTurn 46 = .ok (.iconst 1, 1) := by decide +kernel
theorem dX4_takeTurn_47 : decode cX4_takeTurn 47 = .ok (.if_icmp .ne 12, 3) := by decide +kernel
theorem dX4_takeTurn_50 : decode cX4_takeTurn 50 = .ok (.aload_n 1, 1) := by decide +kernel
theorem dX4_takeTurn_51 : decode cX4_takeTurn 51 = .ok (.iload_n 3, 1) := by decide +kernel
theorem dX4_takeTurn_52 : decode cX4_takeTurn 52 = .ok (.aload_n 0, 1) := by decide +kernel
theorem dX4_takeTurn_53 : decode cX4_takeTurn 53 = .ok (.getfield 25, 3) := by decide +kernel
theorem dX4_takeTurn_56 : decode cX4_takeTurn 56 = .ok (.iload_n 3, 1) := by decide +kernel
theorem dX4_takeTurn_57 : decode cX4_takeTurn 57 = .ok (.iaload, 1) := by decide +kernel
theorem dX4_takeTurn_58 : decode cX4_takeTurn 58 = .ok (.iastore, 1) := by decide +kernel
theorem dX4_takeTurn_59 : decode cX4_takeTurn 59 = .ok (.iinc 3 1, 3) := by decide +kernel
theorem dX4_takeTurn_62 : decode cX4_takeTurn 62 = .ok (.goto (-58), 3) := by decide +kernel
theorem dX4_takeTurn_65 : decode cX4_takeTurn 65 = .ok (.aload_n 0, 1) := by decide +kernel
theorem dX4_takeTurn_66 : decode cX4_takeTurn 66 = .ok (.getfield 25, 3) := by decide +kernel
theorem dX4_takeTurn_69 : decode cX4_takeTurn 69 = .ok (.iconst 0, 1) := by decide +kernel
theorem dX4_takeTurn_70 : decode cX4_takeTurn 70 = .ok (.aload_n 1, 1) := by decide +kernel
theorem dX4_takeTurn_71 : decode cX4_takeTurn 71 = .ok (.iconst 0, 1) := by decide +kernel
theorem dX4_takeTurn_72 : decode cX4_takeTurn 72 = .ok (.aload_n 0, 1) := by decide +kernel
theorem dX4_takeTurn_73 : decode cX4_takeTurn 73 = .ok (.getfield 9, 3) := by decide +kernel
theorem dX4_takeTurn_76 : decode cX4_takeTurn 76 = .ok (.getfield 41, 3) := by decide +kernel
theorem dX4_takeTurn_79 : decode cX4_takeTurn 79 = .ok (.invokestatic 47, 3) := by decide +kernel
theorem dX4_takeTurn_82 : decode cX4_takeTurn 82 = .ok (.iload_n 2, 1) := by decide +kernel
theorem dX4_takeTurn_83 : decode cX4_takeTurn 83 = .ok (.ireturn, 1) := by decide +kernel
theorem dX4_goalOf_0 : decode cX4_goalOf 0 = .ok (.aload_n 0, 1) := by decide +kernel
theorem dX4_goalOf_1 : decode cX4_goalOf 1 = .ok (.getfield 9, 3) := by decide +kernel
theorem dX4_goalOf_4 : decode cX4_goalOf 4 = .ok (.iload_n 1, 1) := by decide +kernel
theorem dX4_goalOf_5 : decode cX4_goalOf 5 = .ok (.invokevirtual 53, 3) := by decide +kernel
theorem dX4_goalOf_8 : decode cX4_goalOf 8 = .ok (.ifCond .ne 7, 3) := by decide +kernel
theorem dX4_goalOf_11 : decode cX4_goalOf 11 = .ok (.aload_n 2, 1) := by decide +kernel
theorem dX4_goalOf_12 : decode cX4_goalOf 12 = .ok (.iload_n 1, 1) := by decide +kernel
theorem dX4_goalOf_13 : decode cX4_goalOf 13 = .ok (.iaload, 1) := by decide +kernel
theorem dX4_goalOf_14 : decode cX4_goalOf 14 = .ok (.ireturn, 1) := by decide +kernel
theorem dX4_goalOf_15 : decode cX4_goalOf 15 = .ok (.aload_n 0, 1) := by decide +kernel
theorem dX4_goalOf_16 : decode cX4_goalOf 16 = .ok (.iload_n 1, 1) := by decide +kernel
theorem dX4_goalOf_17 : decode cX4_goalOf 17 = .ok (.aload_n 2, 1) := by decide +kernel
theorem dX4_goalOf_18 : decode cX4_goalOf 18 = .ok (.invokevirtual 57, 3) := by decide +kernel
theorem dX4_goalOf_21 : decode cX4_goalOf 21 = .ok (.istore_n 3, 1) := by decide +kernel
theorem dX4_goalOf_22 : decode cX4_goalOf 22 = .ok (.aload_n 0, 1) := by decide +kernel
theorem dX4_goalOf_23 : decode cX4_goalOf 23 = .ok (.getfield 15, 3) := by decide +kernel
theorem dX4_goalOf_26 : decode cX4_goalOf 26 = .ok (.iconst 2, 1) := by decide +kernel
theorem dX4_goalOf_27 : decode cX4_goalOf 27 = .ok (.if_icmp .ne 15, 3) := by decide +kernel
theorem dX4_goalOf_30 : decode cX4_goalOf 30 = .ok (.aload_n 2, 1) := by decide +kernel
theorem dX4_goalOf_31 : decode cX4_goalOf 31 = .ok (.iload_n 1, 1) := by decide +kernel
theorem dX4_goalOf_32 : decode cX4_goalOf 32 = .ok (.iaload, 1) := by decide +kernel
theorem dX4_goalOf_33 : decode cX4_goalOf 33 = .ok (.iload_n 3, 1) := by decide +kernel
theorem dX4_goalOf_34 : decode cX4_goalOf 34 = .ok (.iadd, 1) := by decide +kernel
theorem dX4_goalOf_35 : decode cX4_goalOf 35 = .ok (.iconst 1, 1) := by decide +kernel
theorem dX4_goalOf_36 : decode cX4_goalOf 36 = .ok (.iadd, 1) := by decide +kernel
theorem dX4_goalOf_37 : decode cX4_goalOf 37 = .ok (.iconst 2, 1) := by decide +kernel
theorem dX4_goalOf_38 : decode cX4_goalOf 38 = .ok (.idiv, 1) := by decide +kernel
theorem dX4_goalOf_39 : decode cX4_goalOf 39 = .ok (.goto 4, 3) := by decide +kernel
theorem dX4_goalOf_42 : decode cX4_goalOf 42 = .ok (.iload_n 3, 1) := by decide +kernel
theorem dX4_goalOf_43 : decode cX4_goalOf 43 = .ok (.ireturn, 1) := by decide +kernel
theorem dX4_settle_0 : decode cX4_settle 0 = .ok (.aload_n 0, 1) := by decide +kernel
theorem dX4_settle_1 : decode cX4_settle 1 = .ok (.getfield 9, 3) := by decide +kernel
theorem dX4_settle_4 : decode cX4_settle 4 = .ok (.getfield 60, 3) := by decide +kernel
theorem dX4_settle_7 : decode cX4_settle 7 = .ok (.iconst 0, 1) := by decide +kernel
theorem dX4_settle_8 : decode cX4_settle 8 = .ok (.aload_n 0, 1) := by decide +kernel
theorem dX4_settle_9 : decode cX4_settle 9 = .ok (.getfield 21, 3) := by decide +kernel
theorem dX4_settle_12 : decode cX4_settle 12 = .ok (.iconst 0, 1) := by decide +kernel
theorem dX4_settle_13 : decode cX4_settle 13 = .ok (.iconst 5, 1) := by decide +kernel
theorem dX4_settle_14 : decode cX4_settle 14 = .ok (.invokestatic 47, 3) := by decide +kernel
theorem dX4_settle_17 : decode cX4_settle 17 = .ok (.iconst 0, 1) := by decide +kernel
theorem dX4_settle_18 : decode cX4_settle 18 = .ok (.istore_n 1, 1) := by decide +kernel
theorem dX4_settle_19 : decode cX4_settle 19 = .ok (.iload_n 1, 1) := by decide +kernel
theorem dX4_settle_20 : decode cX4_settle 20 = .ok (.sipush 200, 3) := by decide +kernel
theorem dX4_settle_23 : decode cX4_settle 23 = .ok (.if_icmp .ge 22, 3) := by decide +kernel
theorem dX4_settle_26 : decode cX4_settle 26 = .ok (.aload_n 0, 1) := by decide +kernel
theorem dX4_settle_27 : decode cX4_settle 27 = .ok (.aload_n 0, 1) := by decide +kernel
theorem dX4_settle_28 : decode cX4_settle 28 = .ok (.getfield 21, 3) := by decide +kernel
theorem dX4_settle_31 : decode cX4_settle 31 = .ok (.invokevirtual 63, 3) := by decide +kernel
theorem dX4_settle_34 : decode cX4_settle 34 = .ok (.ifCond .ne 5, 3) := by decide +kernel
theorem dX4_settle_37 : decode cX4_settle 37 = .ok (.iload_n 1, 1) := by decide +kernel
theorem dX4_settle_38 : decode cX4_settle 38 = .ok (.ireturn, 1) := by decide +kernel
theorem dX4_settle_39 : decode cX4_settle 39 = .ok (.iinc 1 1, 3) := by decide +kernel
theorem dX4_settle_42 : decode cX4_settle 42 = .ok (.goto (-23), 3) := by decide +kernel
theorem dX4_settle_45 : decode cX4_settle 45 = .ok (.aload_n 0, 1) := by decide +kernel
theorem dX4_settle_46 : decode cX4_settle 46 = .ok (.aload_n 0, 1) := by decide +kernel
theorem dX4_settle_47 : decode cX4_settle 47 = .ok (.getfield 21, 3) := by decide +kernel
theorem dX4_settle_50 : decode cX4_settle 50 = .ok (.invokevirtual 67, 3) := by decide +kernel
theorem dX4_settle_53 : decode cX4_settle 53 = .ok (.ifCond .eq 7, 3) := by decide +kernel
theorem dX4_settle_56 : decode cX4_settle 56 = .ok (.iconst (-1), 1) := by decide +kernel
theorem dX4_settle_57 : decode cX4_settle 57 = .ok (.goto 6, 3) := by decide +kernel
theorem dX4_settle_60 : decode cX4_settle 60 = .ok (.sipush 200, 3) := by decide +kernel
theorem dX4_settle_63 : decode cX4_settle 63 = .ok (.ireturn, 1) := by decide +kernel
theorem dX4_wouldMove_0 : decode cX4_wouldMove 0 = .ok (.iconst 0, 1) := by decide +kernel
theorem dX4_wouldMove_1 : decode cX4_wouldMove 1 = .ok (.istore_n 2, 1) := by decide +kernel
theorem dX4_wouldMove_2 : decode cX4_wouldMove 2 = .ok (.iload_n 2, 1) := by decide +kernel
theorem dX4_wouldMove_3 : decode cX4_wouldMove 3 = .ok (.aload_n 0, 1) := by decide +kernel
theorem dX4_wouldMove_4 : decode cX4_wouldMove 4 = .ok (.getfield 9, 3) := by decide +kernel
theorem dX4_wouldMove_7 : decode cX4_wouldMove 7 = .ok (.getfield 41, 3) := by decide +kernel
theorem dX4_wouldMove_10 : decode cX4_wouldMove 10 = .ok (.if_icmp .ge 23, 3) := by decide +kernel
theorem dX4_wouldMove_13 : decode cX4_wouldMove 13 = .ok (.aload_n 0, 1) := by decide +kernel
theorem dX4_wouldMove_14 : decode cX4_wouldMove 14 = .ok (.iload_n 2, 1) := by decide +kernel
theorem dX4_wouldMove_15 : decode cX4_wouldMove 15 = .ok (.aload_n 1, 1) := by decide +kernel
theorem dX4_wouldMove_16 : decode cX4_wouldMove 16 = .ok (.invokevirtual 44, 3) := by decide +kernel
theorem dX4_wouldMove_19 : decode cX4_wouldMove 19 = .ok (.aload_n 1, 1) := by decide +kernel
theorem dX4_wouldMove_20 : decode cX4_wouldMove 20 = .ok (.iload_n 2, 1) := by decide +kernel
theorem dX4_wouldMove_21 : decode cX4_wouldMove 21 = .ok (.iaload, 1) := by decide +kernel
theorem dX4_wouldMove_22 : decode cX4_wouldMove 22 = .ok (.if_icmp .eq 5, 3) := by decide +kernel
theorem dX4_wouldMove_25 : decode cX4_wouldMove 25 = .ok (.iconst 1, 1) := by decide +kernel
theorem dX4_wouldMove_26 : decode cX4_wouldMove 26 = .ok (.ireturn, 1) := by decide +kernel
theorem dX4_wouldMove_27 : decode cX4_wouldMove 27 = .ok (.iinc 2 1, 3) := by decide +kernel
theorem dX4_wouldMove_30 : decode cX4_wouldMove 30 = .ok (.goto (-28), 3) := by decide +kernel
theorem dX4_wouldMove_33 : decode cX4_wouldMove 33 = .ok (.iconst 0, 1) := by decide +kernel
theorem dX4_wouldMove_34 : decode cX4_wouldMove 34 = .ok (.ireturn, 1) := by decide +kernel
theorem dJ6_bitCount_0f7a4_0 : decode cJ6_bitCount_0f7a4 0 = .ok (.iload_n 0, 1) := by decide +kernel
theorem dJ6_bitCount_0f7a4_1 : decode cJ6_bitCount_0f7a4 1 = .ok (.iload_n 0, 1) := by decide +kernel
theorem dJ6_bitCount_0f7a4_2 : decode cJ6_bitCount_0f7a4 2 = .ok (.iconst 1, 1) := by decide +kernel
theorem dJ6_bitCount_0f7a4_3 : decode cJ6_bitCount_0f7a4 3 = .ok (.iushr, 1) := by decide +kernel
theorem dJ6_bitCount_0f7a4_4 : decode cJ6_bitCount_0f7a4 4 = .ok (.ldc_w 265, 3) := by decide +kernel
theorem dJ6_bitCount_0f7a4_7 : decode cJ6_bitCount_0f7a4 7 = .ok (.iand, 1) := by decide +kernel
theorem dJ6_bitCount_0f7a4_8 : decode cJ6_bitCount_0f7a4 8 = .ok (.isub, 1) := by decide +kernel
theorem dJ6_bitCount_0f7a4_9 : decode cJ6_bitCount_0f7a4 9 = .ok (.istore_n 0, 1) := by decide +kernel
theorem dJ6_bitCount_0f7a4_10 : decode cJ6_bitCount_0f7a4 10 = .ok (.iload_n 0, 1) := by decide +kernel
theorem dJ6_bitCount_0f7a4_11 : decode cJ6_bitCount_0f7a4 11 = .ok (.ldc_w 266, 3) := by decide +kernel
theorem dJ6_bitCount_0f7a4_14 : decode cJ6_bitCount_0f7a4 14 = .ok (.iand, 1) := by decide +kernel
theorem dJ6_bitCount_0f7a4_15 : decode cJ6_bitCount_0f7a4 15 = .ok (.iload_n 0, 1) := by decide +kernel
theorem dJ6_bitCount_0f7a4_16 : decode cJ6_bitCount_0f7a4 16 = .ok (.iconst 2, 1) := by decide +kernel
theorem dJ6_bitCount_0f7a4_17 : decode cJ6_bitCount_0f7a4 17 = .ok (.iushr, 1) := by decide +kernel
theorem dJ6_bitCount_0f7a4_18 : decode cJ6_bitCount_0f7a4 18 = .ok (.ldc_w 266, 3) := by decide +kernel
theorem dJ6_bitCount_0f7a4_21 : decode cJ6_bitCount_0f7a4 21 = .ok (.iand, 1) := by decide +kernel
theorem dJ6_bitCount_0f7a4_22 : decode cJ6_bitCount_0f7a4 22 = .ok (.iadd, 1) := by decide +kernel
theorem dJ6_bitCount_0f7a4_23 : decode cJ6_bitCount_0f7a4 23 = .ok (.istore_n 0, 1) := by decide +kernel
theorem dJ6_bitCount_0f7a4_24 : decode cJ6_bitCount_0f7a4 24 = .ok (.iload_n 0, 1) := by decide +kernel
theorem dJ6_bitCount_0f7a4_25 : decode cJ6_bitCount_0f7a4 25 = .ok (.iload_n 0, 1) := by decide +kernel
theorem dJ6_bitCount_0f7a4_26 : decode cJ6_bitCount_0f7a4 26 = .ok (.iconst 4, 1) := by decide +kernel
theorem dJ6_bitCount_0f7a4_27 : decode cJ6_bitCount_0f7a4 27 = .ok (.iushr, 1) := by decide +kernel
theorem dJ6_bitCount_0f7a4_28 : decode cJ6_bitCount_0f7a4 28 = .ok (.iadd, 1) := by decide +kernel
theorem dJ6_bitCount_0f7a4_29 : decode cJ6_bitCount_0f7a4 29 = .ok (.ldc_w 267, 3) := by decide +kernel
theorem dJ6_bitCount_0f7a4_32 : decode cJ6_bitCount_0f7a4 32 = .ok (.iand, 1) := by decide +kernel
theorem dJ6_bitCount_0f7a4_33 : decode cJ6_bitCount_0f7a4 33 = .ok (.istore_n 0, 1) := by decide +kernel
theorem dJ6_bitCount_0f7a4_34 : decode cJ6_bitCount_0f7a4 34 = .ok (.iload_n 0, 1) := by decide +kernel
theorem dJ6_bitCount_0f7a4_35 : decode cJ6_bitCount_0f7a4 35 = .ok (.iload_n 0, 1) := by decide +kernel
theorem dJ6_bitCount_0f7a4_36 : decode cJ6_bitCount_0f7a4 36 = .ok (.bipush 8, 2) := by decide +kernel
theorem dJ6_bitCount_0f7a4_38 : decode cJ6_bitCount_0f7a4 38 = .ok (.iushr, 1) := by decide +kernel
theorem dJ6_bitCount_0f7a4_39 : decode cJ6_bitCount_0f7a4 39 = .ok (.iadd, 1) := by decide +kernel
theorem dJ6_bitCount_0f7a4_40 : decode cJ6_bitCount_0f7a4 40 = .ok (.istore_n 0, 1) := by decide +kernel
theorem dJ6_bitCount_0f7a4_41 : decode cJ6_bitCount_0f7a4 41 = .ok (.iload_n 0, 1) := by decide +kernel
theorem dJ6_bitCount_0f7a4_42 : decode cJ6_bitCount_0f7a4 42 = .ok (.iload_n 0, 1) := by decide +kernel
theorem dJ6_bitCount_0f7a4_43 : decode cJ6_bitCount_0f7a4 43 = .ok (.bipush 16, 2) := by decide +kernel
theorem dJ6_bitCount_0f7a4_45 : decode cJ6_bitCount_0f7a4 45 = .ok (.iushr, 1) := by decide +kernel
theorem dJ6_bitCount_0f7a4_46 : decode cJ6_bitCount_0f7a4 46 = .ok (.iadd, 1) := by decide +kernel
theorem dJ6_bitCount_0f7a4_47 : decode cJ6_bitCount_0f7a4 47 = .ok (.istore_n 0, 1) := by decide +kernel
theorem dJ6_bitCount_0f7a4_48 : decode cJ6_bitCount_0f7a4 48 = .ok (.iload_n 0, 1) := by decide +kernel
theorem dJ6_bitCount_0f7a4_49 : decode cJ6_bitCount_0f7a4 49 = .ok (.bipush 63, 2) := by decide +kernel
theorem dJ6_bitCount_0f7a4_51 : decode cJ6_bitCount_0f7a4 51 = .ok (.iand, 1) := by decide +kernel
theorem dJ6_bitCount_0f7a4_52 : decode cJ6_bitCount_0f7a4 52 = .ok (.ireturn, 1) := by decide +kernel
theorem dJ9_max_7cf53_0 : decode cJ9_max_7cf53 0 = .ok (.iload_n 0, 1) := by decide +kernel
theorem dJ9_max_7cf53_1 : decode cJ9_max_7cf53 1 = .ok (.iload_n 1, 1) := by decide +kernel
theorem dJ9_max_7cf53_2 : decode cJ9_max_7cf53 2 = .ok (.if_icmp .lt 7, 3) := by decide +kernel
theorem dJ9_max_7cf53_5 : decode cJ9_max_7cf53 5 = .ok (.iload_n 0, 1) := by decide +kernel
theorem dJ9_max_7cf53_6 : decode cJ9_max_7cf53 6 = .ok (.goto 4, 3) := by decide +kernel
theorem dJ9_max_7cf53_9 : decode cJ9_max_7cf53 9 = .ok (.iload_n 1, 1) := by decide +kernel
theorem dJ9_max_7cf53_10 : decode cJ9_max_7cf53 10 = .ok (.ireturn, 1) := by decide +kernel
theorem dJ9_max_f86c9_0 : decode cJ9_max_f86c9 0 = .ok (.lload_n 0, 1) := by decide +kernel
theorem dJ9_max_f86c9_1 : decode cJ9_max_f86c9 1 = .ok (.lload_n 2, 1) := by decide +kernel
theorem dJ9_max_f86c9_2 : decode cJ9_max_f86c9 2 = .ok (.lcmp, 1) := by decide +kernel
theorem dJ9_max_f86c9_3 : decode cJ9_max_f86c9 3 = .ok (.ifCond .lt 7, 3) := by decide +kernel
theorem dJ9_max_f86c9_6 : decode cJ9_max_f86c9 6 = .ok (.lload_n 0, 1) := by decide +kernel
theorem dJ9_max_f86c9_7 : decode cJ9_max_f86c9 7 = .ok (.goto 4, 3) := by decide +kernel
theorem dJ9_max_f86c9_10 : decode cJ9_max_f86c9 10 = .ok (.lload_n 2, 1) := by decide +kernel
theorem dJ9_max_f86c9_11 : decode cJ9_max_f86c9 11 = .ok (.lreturn, 1) := by decide +kernel
theorem dJ9_min_7cf53_0 : decode cJ9_min_7cf53 0 = .ok (.iload_n 0, 1) := by decide +kernel
theorem dJ9_min_7cf53_1 : decode cJ9_min_7cf53 1 = .ok (.iload_n 1, 1) := by decide +kernel
theorem dJ9_min_7cf53_2 : decode cJ9_min_7cf53 2 = .ok (.if_icmp .gt 7, 3) := by decide +kernel
theorem dJ9_min_7cf53_5 : decode cJ9_min_7cf53 5 = .ok (.iload_n 0, 1) := by decide +kernel
theorem dJ9_min_7cf53_6 : decode cJ9_min_7cf53 6 = .ok (.goto 4, 3) := by decide +kernel
theorem dJ9_min_7cf53_9 : decode cJ9_min_7cf53 9 = .ok (.iload_n 1, 1) := by decide +kernel
theorem dJ9_min_7cf53_10 : decode cJ9_min_7cf53 10 = .ok (.ireturn, 1) := by decide +kernel
