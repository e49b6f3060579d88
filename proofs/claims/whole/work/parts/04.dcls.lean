theorem dX0_init_0 : decode cX0_init 0 = .ok (.aload_n 0, 1) := by decide +kernel
theorem dX0_init_1 : decode cX0_init 1 = .ok (.invokespecial 3, 3) := by decide +kernel
theorem dX0_init_4 : decode cX0_init 4 = .ok (.aload_n 0, 1) := by decide +kernel
theorem dX0_init_5 : decode cX0_init 5 = .ok (.bipush 64, 2) := by decide +kernel
theorem dX0_init_7 : decode cX0_init 7 = .ok (.newarray .long, 2) := by decide +kernel
theorem dX0_init_9 : decode cX0_init 9 = .ok (.putfield 9, 3) := by decide +kernel
theorem dX0_init_12 : decode cX0_init 12 = .ok (.aload_n 0, 1) := by decide +kernel
theorem dX0_init_13 : decode cX0_init 13 = .ok (.bipush 64, 2) := by decide +kernel
theorem dX0_init_15 : decode cX0_init 15 = .ok (.newarray .long, 2) := by decide +kernel
theorem dX0_init_17 : decode cX0_init 17 = .ok (.putfield 15, 3) := by decide +kernel
theorem dX0_init_20 : decode cX0_init 20 = .ok (.aload_n 0, 1) := by decide +kernel
theorem dX0_init_21 : decode cX0_init 21 = .ok (.bipush 85, 2) := by decide +kernel
theorem dX0_init_23 : decode cX0_init 23 = .ok (.newarray .int, 2) := by decide +kernel
theorem dX0_init_25 : decode cX0_init 25 = .ok (.putfield 18, 3) := by decide +kernel
theorem dX0_init_28 : decode cX0_init 28 = .ok (.aload_n 0, 1) := by decide +kernel
theorem dX0_init_29 : decode cX0_init 29 = .ok (.bipush 85, 2) := by decide +kernel
theorem dX0_init_31 : decode cX0_init 31 = .ok (.newarray .int, 2) := by decide +kernel
theorem dX0_init_33 : decode cX0_init 33 = .ok (.putfield 22, 3) := by decide +kernel
theorem dX0_init_36 : decode cX0_init 36 = .ok (.aload_n 0, 1) := by decide +kernel
theorem dX0_init_37 : decode cX0_init 37 = .ok (.sipush 340, 3) := by decide +kernel
theorem dX0_init_40 : decode cX0_init 40 = .ok (.newarray .int, 2) := by decide +kernel
theorem dX0_init_42 : decode cX0_init 42 = .ok (.putfield 25, 3) := by decide +kernel
theorem dX0_init_45 : decode cX0_init 45 = .ok (.aload_n 0, 1) := by decide +kernel
theorem dX0_init_46 : decode cX0_init 46 = .ok (.iconst 0, 1) := by decide +kernel
theorem dX0_init_47 : decode cX0_init 47 = .ok (.putfield 28, 3) := by decide +kernel
theorem dX0_init_50 : decode cX0_init 50 = .ok (.aload_n 0, 1) := by decide +kernel
theorem dX0_init_51 : decode cX0_init 51 = .ok (.iconst 0, 1) := by decide +kernel
theorem dX0_init_52 : decode cX0_init 52 = .ok (.putfield 32, 3) := by decide +kernel
theorem dX0_init_55 : decode cX0_init 55 = .ok (.aload_n 0, 1) := by decide +kernel
theorem dX0_init_56 : decode cX0_init 56 = .ok (.iconst 0, 1) := by decide +kernel
theorem dX0_init_57 : decode cX0_init 57 = .ok (.putfield 35, 3) := by decide +kernel
theorem dX0_init_60 : decode cX0_init 60 = .ok (.aload_n 0, 1) := by decide +kernel
theorem dX0_init_61 : decode cX0_init 61 = .ok (.bipush 64, 2) := by decide +kernel
theorem dX0_init_63 : decode cX0_init 63 = .ok (.newarray .int, 2) := by decide +kernel
theorem dX0_init_65 : decode cX0_init 65 = .ok (.putfield 38, 3) := by decide +kernel
theorem dX0_init_68 : decode cX0_init 68 = .ok (.aload_n 0, 1) := by decide +kernel
theorem dX0_init_69 : decode cX0_init 69 = .ok (.bipush 85, 2) := by decide +kernel
theorem dX0_init_71 : decode cX0_init 71 = .ok (.newarray .int, 2) := by decide +kernel
theorem dX0_init_73 : decode cX0_init 73 = .ok (.putfield 41, 3) := by decide +kernel
theorem dX0_init_76 : decode cX0_init 76 = .ok (.return_, 1) := by decide +kernel
theorem dX0_nodeTotal_0 : decode cX0_nodeTotal 0 = .ok (.aload_n 0, 1) := by decide +kernel
theorem dX0_nodeTotal_1 : decode cX0_nodeTotal 1 = .ok (.getfield 32, 3) := by decide +kernel
theorem dX0_nodeTotal_4 : decode cX0_nodeTotal 4 = .ok (.ireturn, 1) := by decide +kernel
theorem dX0_leafTotal_0 : decode cX0_leafTotal 0 = .ok (.aload_n 0, 1) := by decide +kernel
theorem dX0_leafTotal_1 : decode cX0_leafTotal 1 = .ok (.getfield 28, 3) := by decide +kernel
theorem dX0_leafTotal_4 : decode cX0_leafTotal 4 = .ok (.ireturn, 1) := by decide +kernel
theorem dX0_longestWay_0 : decode cX0_longestWay 0 = .ok (.aload_n 0, 1) := by decide +kernel
theorem dX0_longestWay_1 : decode cX0_longestWay 1 = .ok (.aload_n 0, 1) := by decide +kernel
theorem dX0_longestWay_2 : decode cX0_longestWay 2 = .ok (.getfield 35, 3) := by decide +kernel
theorem dX0_longestWay_5 : decode cX0_longestWay 5 = .ok (.invokevirtual 44, 3) := by decide +kernel
theorem dX0_longestWay_8 : decode cX0_longestWay 8 = .ok (.ireturn, 1) := by decide +kernel
theorem dX0_depthOf_0 : decode cX0_depthOf 0 = .ok (.iload_n 1, 1) := by decide +kernel
theorem dX0_depthOf_1 : decode cX0_depthOf 1 = .ok (.ifCond .lt 18, 3) := by decide +kernel
theorem dX0_depthOf_4 : decode cX0_depthOf 4 = .ok (.iload_n 1, 1) := by decide +kernel
theorem dX0_depthOf_5 : decode cX0_depthOf 5 = .ok (.bipush 85, 2) := by decide +kernel
theorem dX0_depthOf_7 : decode cX0_depthOf 7 = .ok (.if_icmp .ge 12, 3) := by decide +kernel
theorem dX0_depthOf_10 : decode cX0_depthOf 10 = .ok (.aload_n 0, 1) := by decide +kernel
theorem dX0_depthOf_11 : decode cX0_depthOf 11 = .ok (.getfield 22, 3) := by decide +kernel
theorem dX0_depthOf_14 : decode cX0_depthOf 14 = .ok (.iload_n 1, 1) := by decide +kernel
theorem dX0_depthOf_15 : decode cX0_depthOf 15 = .ok (.iaload, 1) := by decide +kernel
theorem dX0_depthOf_16 : decode cX0_depthOf 16 = .ok (.goto 4, 3) := by decide +kernel
theorem dX0_depthOf_19 : decode cX0_depthOf 19 = .ok (.iconst 0, 1) := by decide +kernel
theorem dX0_depthOf_20 : decode cX0_depthOf 20 = .ok (.ireturn, 1) := by decide +kernel
theorem dX0_rootNode_0 : decode cX0_rootNode 0 = .ok (.aload_n 0, 1) := by decide +kernel
theorem dX0_rootNode_1 : decode cX0_rootNode 1 = .ok (.getfield 35, 3) := by decide +kernel
theorem dX0_rootNode_4 : decode cX0_rootNode 4 = .ok (.ireturn, 1) := by decide +kernel
theorem dX0_isLeaf_0 : decode cX0_isLeaf 0 = .ok (.iload_n 1, 1) := by decide +kernel
theorem dX0_isLeaf_1 : decode cX0_isLeaf 1 = .ok (.aload_n 0, 1) := by decide +kernel
theorem dX0_isLeaf_2 : decode cX0_isLeaf 2 = .ok (.getfield 28, 3) := by decide +kernel
theorem dX0_isLeaf_5 : decode cX0_isLeaf 5 = .ok (.if_icmp .ge 7, 3) := by decide +kernel
theorem dX0_isLeaf_8 : decode cX0_isLeaf 8 = .ok (.iconst 1, 1) := by decide +kernel
theorem dX0_isLeaf_9 : decode cX0_isLeaf 9 = .ok (.goto 4, 3) := by decide +kernel
theorem dX0_isLeaf_12 : decode cX0_isLeaf 12 = .ok (.iconst 0, 1) := by decide +kernel
theorem dX0_isLeaf_13 : decode cX0_isLeaf 13 = .ok (.ireturn, 1) := by decide +kernel
theorem dX0_fieldOf_0 : decode cX0_fieldOf 0 = .ok (.iload_n 1, 1) := by decide +kernel
theorem dX0_fieldOf_1 : decode cX0_fieldOf 1 = .ok (.ifCond .lt 18, 3) := by decide +kernel
theorem dX0_fieldOf_4 : decode cX0_fieldOf 4 = .ok (.iload_n 1, 1) := by decide +kernel
theorem dX0_fieldOf_5 : decode cX0_fieldOf 5 = .ok (.bipush 85, 2) := by decide +kernel
theorem dX0_fieldOf_7 : decode cX0_fieldOf 7 = .ok (.if_icmp .ge 12, 3) := by decide +kernel
theorem dX0_fieldOf_10 : decode cX0_fieldOf 10 = .ok (.aload_n 0, 1) := by decide +kernel
theorem dX0_fieldOf_11 : decode cX0_fieldOf 11 = .ok (.getfield 18, 3) := by decide +kernel
theorem dX0_fieldOf_14 : decode cX0_fieldOf 14 = .ok (.iload_n 1, 1) := by decide +kernel
theorem dX0_fieldOf_15 : decode cX0_fieldOf 15 = .ok (.iaload, 1) := by decide +kernel
theorem dX0_fieldOf_16 : decode cX0_fieldOf 16 = .ok (.goto 4, 3) := by decide +kernel
theorem dX0_fieldOf_19 : decode cX0_fieldOf 19 = .ok (.iconst 0, 1) := by decide +kernel
theorem dX0_fieldOf_20 : decode cX0_fieldOf 20 = .ok (.ireturn, 1) := by decide +kernel
theorem dX0_childOf_0 : decode cX0_childOf 0 = .ok (.iload_n 1, 1) := by decide +kernel
theorem dX0_childOf_1 : decode cX0_childOf 1 = .ok (.iconst 4, 1) := by decide +kernel
theorem dX0_childOf_2 : decode cX0_childOf 2 = .ok (.imul, 1) := by decide +kernel
theorem dX0_childOf_3 : decode cX0_childOf 3 = .ok (.iload_n 2, 1) := by decide +kernel
theorem dX0_childOf_4 : decode cX0_childOf 4 = .ok (.iadd, 1) := by decide +kernel
theorem dX0_childOf_5 : decode cX0_childOf 5 = .ok (.istore_n 3, 1) := by decide +kernel
theorem dX0_childOf_6 : decode cX0_childOf 6 = .ok (.iload_n 3, 1) := by decide +kernel
theorem dX0_childOf_7 : decode cX0_childOf 7 = .ok (.ifCond .lt 21, 3) := by decide +kernel
theorem dX0_childOf_10 : decode cX0_childOf 10 = .ok (.iload_n 3, 1) := by decide +kernel
theorem dX0_childOf_11 : decode cX0_childOf 11 = .ok (.aload_n 0, 1) := by decide +kernel
theorem dX0_childOf_12 : decode cX0_childOf 12 = .ok (.getfield 25, 3) := by decide +kernel
theorem dX0_childOf_15 : decode cX0_childOf 15 = .ok (.arraylength, 1) := by decide +kernel
theorem dX0_childOf_16 : decode cX0_childOf 16 = .ok (.if_icmp .ge 12, 3) := by decide +kernel
theorem dX0_childOf_19 : decode cX0_childOf 19 = .ok (.aload_n 0, 1) := by decide +kernel
theorem dX0_childOf_20 : decode cX0_childOf 20 = .ok (.getfield 25, 3) := by decide +kernel
theorem dX0_childOf_23 : decode cX0_childOf 23 = .ok (.iload_n 3, 1) := by decide +kernel
theorem dX0_childOf_24 : decode cX0_childOf 24 = .ok (.iaload, 1) := by decide +kernel
theorem dX0_childOf_25 : decode cX0_childOf 25 = .ok (.goto 4, 3) := by decide +kernel
theorem dX0_childOf_28 : decode cX0_childOf 28 = .ok (.iconst 0, 1) := by decide +kernel
theorem dX0_childOf_29 : decode cX0_childOf 29 = .ok (.ireturn, 1) := by decide +kernel
theorem dX0_build_0 : decode cX0_build 0 = .ok (.aload_n 0, 1) := by decide +kernel
theorem dX0_build_1 : decode cX0_build 1 = .ok (.iconst 0, 1) := by decide +kernel
theorem dX0_build_2 : decode cX0_build 2 = .ok (.putfield 28, 3) := by decide +kernel
theorem dX0_build_5 : decode cX0_build 5 = .ok (.iconst 0, 1) := by decide +kernel
theorem dX0_build_6 : decode cX0_build 6 = .ok (.istore_n 2, 1) := by decide +kernel
theorem dX0_build_7 : decode cX0_build 7 = .ok (.iload_n 2, 1) := by decide +kernel
theorem dX0_build_8 : decode cX0_build 8 = .ok (.bipush 64, 2) := by decide +kernel
theorem dX0_build_10 : decode cX0_build 10 = .ok (.if_icmp .ge 25, 3) := by decide +kernel
theorem dX0_build_13 : decode cX0_build 13 = .ok (.aload_n 0, 1) := by decide +kernel
theorem dX0_build_14 : decode cX0_build 14 = .ok (.getfield 38, 3) := by decide +kernel
theorem dX0_build_17 : decode cX0_build 17 = .ok (.iload_n 2, 1) := by decide +kernel
theorem dX0_build_18 : decode cX0_build 18 = .ok (.aload_n 0, 1) := by decide +kernel
theorem dX0_build_19 : decode cX0_build 19 = .ok (.iload_n 2, 1) := by decide +kernel
theorem dX0_build_20 : decode cX0_build 20 = .ok (.aload_n 1, 1) := by decide +kernel
theorem dX0_build_21 : decode cX0_build 21 = .ok (.iload_n 2, 1) := by decide +kernel
theorem dX0_build_22 : decode cX0_build 22 = .ok (.invokevirtual 48, 3) := by decide +kernel
theorem dX0_build_25 : decode cX0_build 25 = .ok (.invokevirtual 54, 3) := by decide +kernel
theorem dX0_build_28 : decode cX0_build 28 = .ok (.iastore, 1) := by decide +kernel
theorem dX0_build_29 : decode cX0_build 29 = .ok (.iinc 2 1, 3) := by decide +kernel
theorem dX0_build_32 : decode cX0_build 32 = .ok (.goto (-25), 3) := by decide +kernel
theorem dX0_build_35 : decode cX0_build 35 = .ok (.aload_n 0, 1) := by decide +kernel
theorem dX0_build_36 : decode cX0_build 36 = .ok (.aload_n 0, 1) := by decide +kernel
theorem dX0_build_37 : decode cX0_build 37 = .ok (.getfield 28, 3) := by decide +kernel
theorem dX0_build_40 : decode cX0_build 40 = .ok (.putfield 32, 3) := by decide +kernel
theorem dX0_build_43 : decode cX0_build 43 = .ok (.bipush 16, 2) := by decide +kernel
theorem dX0_build_45 : decode cX0_build 45 = .ok (.istore_n 2, 1) := by decide +kernel
theorem dX0_build_46 : decode cX0_build 46 = .ok (.iconst 2, 1) := by decide +kernel
theorem dX0_build_47 : decode cX0_build 47 = .ok (.istore_n 3, 1) := by decide +kernel
theorem dX0_build_48 : decode cX0_build 48 = .ok (.iload_n 3, 1) := by decide +kernel
theorem dX0_build_49 : decode cX0_build 49 = .ok (.ifCond .lt 44, 3) := by decide +kernel
theorem dX0_build_52 : decode cX0_build 52 = .ok (.iconst 0, 1) := by decide +kernel
theorem dX0_build_53 : decode cX0_build 53 = .ok (.istore 4, 2) := by decide +kernel
theorem dX0_build_55 : decode cX0_build 55 = .ok (.iload 4, 2) := by decide +kernel
theorem dX0_build_57 : decode cX0_build 57 = .ok (.iload_n 2, 1) := by decide +kernel
theorem dX0_build_58 : decode cX0_build 58 = .ok (.if_icmp .ge 25, 3) := by decide +kernel
theorem dX0_build_61 : decode cX0_build 61 = .ok (.aload_n 0, 1) := by decide +kernel
theorem dX0_build_62 : decode cX0_build 62 = .ok (.getfield 38, 3) := by decide +kernel
theorem dX0_build_65 : decode cX0_build 65 = .ok (.iload 4, 2) := by decide +kernel
theorem dX0_build_67 : decode cX0_build 67 = .ok (.aload_n 0, 1) := by decide +kernel
theorem dX0_build_68 : decode cX0_build 68 = .ok (.iload_n 3, 1) := by decide +kernel
theorem dX0_build_69 : decode cX0_build 69 = .ok (.iload 4, 2) := by decide +kernel
theorem dX0_build_71 : decode cX0_build 71 = .ok (.iconst 4, 1) := by decide +kernel
theorem dX0_build_72 : decode cX0_build 72 = .ok (.imul, 1) := by decide +kernel
theorem dX0_build_73 : decode cX0_build 73 = .ok (.invokevirtual 58, 3) := by decide +kernel
theorem dX0_build_76 : decode cX0_build 76 = .ok (.iastore, 1) := by decide +kernel
theorem dX0_build_77 : decode cX0_build 77 = .ok (.iinc 4 1, 3) := by decide +kernel
theorem dX0_build_80 : decode cX0_build 80 = .ok (.goto (-25), 3) := by decide +kernel
theorem dX0_build_83 : decode cX0_build 83 = .ok (.iload_n 2, 1) := by decide +kernel
theorem dX0_build_84 : decode cX0_build 84 = .ok (.iconst 4, 1) := by decide +kernel
theorem dX0_build_85 : decode cX0_build 85 = .ok (.idiv, 1) := by decide +kernel
theorem dX0_build_86 : decode cX0_build 86 = .ok (.istore_n 2, 1) := by decide +kernel
theorem dX0_build_87 : decode cX0_build 87 = .ok (.iinc 3 (-1), 3) := by decide +kernel
theorem dX0_build_90 : decode cX0_build 90 = .ok (.goto (-42), 3) := by decide +kernel
theorem dX0_build_93 : decode cX0_build 93 = .ok (.aload_n 0, 1) := by decide +kernel
theorem dX0_build_94 : decode cX0_build 94 = .ok (.aload_n 0, 1) := by decide +kernel
theorem dX0_build_95 : decode cX0_build 95 = .ok (.getfield 38, 3) := by decide +kernel
theorem dX0_build_98 : decode cX0_build 98 = .ok (.iconst 0, 1) := by decide +kernel
theorem dX0_build_99 : decode cX0_build 99 = .ok (.iaload, 1) := by decide +kernel
theorem dX0_build_100 : decode cX0_build 100 = .ok (.putfield 35, 3) := by decide +kernel
theorem dX0_build_103 : decode cX0_build 103 = .ok (.return_, 1) := by decide +kernel
theorem dX0_leafFor_0 : decode cX0_leafFor 0 = .ok (.lconst 0, 1) := by decide +kernel
theorem dX0_leafFor_1 : decode cX0_leafFor 1 = .ok (.lstore 4, 2) := by decide +kernel
theorem dX0_leafFor_3 : decode cX0_leafFor 3 = .ok (.lconst 0, 1) := by decide +kernel
theorem dX0_leafFor_4 : decode cX0_leafFor 4 = .ok (.lstore 6, 2) := by decide +kernel
theorem dX0_leafFor_6 : decode cX0_leafFor 6 = .ok (.lload_n 2, 1) := by decide +kernel
theorem dX0_leafFor_7 : decode cX0_leafFor 7 = .ok (.lstore 8, 2) := by decide +kernel
theorem dX0_leafFor_9 : decode cX0_leafFor 9 = .ok (.lload_n 2, 1) := by decide +kernel
theorem dX0_leafFor_10 : decode cX0_leafFor 10 = .ok (.invokestatic 62, 3) := by decide +kernel
theorem dX0_leafFor_13 : decode cX0_leafFor 13 = .ok (.istore 10, 2) := by decide +kernel
theorem dX0_leafFor_15 : decode cX0_leafFor 15 = .ok (.iconst 0, 1) := by decide +kernel
theorem dX0_leafFor_16 : decode cX0_leafFor 16 = .ok (.istore 11, 2) := by decide +kernel
theorem dX0_leafFor_18 : decode cX0_leafFor 18 = .ok (.iload 11, 2) := by decide +kernel
theorem dX0_leafFor_20 : decode cX0_leafFor 20 = .ok (.iload 10, 2) := by decide +kernel
theorem dX0_leafFor_22 : decode cX0_leafFor 22 = .ok (.if_icmp .ge 60, 3) := by decide +kernel
theorem dX0_leafFor_25 : decode cX0_leafFor 25 = .ok (.iload_n 1, 1) := by decide +kernel
theorem dX0_leafFor_26 : decode cX0_leafFor 26 = .ok (.lload 8, 2) := by decide +kernel
theorem dX0_leafFor_28 : decode cX0_leafFor 28 = .ok (.invokestatic 68, 3) := by decide +kernel
theorem dX0_leafFor_31 : decode cX0_leafFor 31 = .ok (.invokestatic 71, 3) := by decide +kernel
theorem dX0_leafFor_34 : decode cX0_leafFor 34 = .ok (.istore 12, 2) := by decide +kernel
theorem dX0_leafFor_36 : decode cX0_leafFor 36 = .ok (.iload 12, 2) := by decide +kernel
theorem dX0_leafFor_38 : decode cX0_leafFor 38 = .ok (.bipush 64, 2) := by decide +kernel
theorem dX0_leafFor_40 : decode cX0_leafFor 40 = .ok (.if_icmp .ge 15, 3) := by decide +kernel
theorem dX0_leafFor_43 : decode cX0_leafFor 43 = .ok (.lload 4, 2) := by decide +kernel
theorem dX0_leafFor_45 : decode cX0_leafFor 45 = .ok (.lconst 1, 1) := by decide +kernel
theorem dX0_leafFor_46 : decode cX0_leafFor 46 = .ok (.iload 12, 2) := by decide +kernel
theorem dX0_leafFor_48 : decode cX0_leafFor 48 = .ok (.lshl, 1) := by decide +kernel
theorem dX0_leafFor_49 : decode cX0_leafFor 49 = .ok (.lor, 1) := by decide +kernel
theorem dX0_leafFor_50 : decode cX0_leafFor 50 = .ok (.lstore 4, 2) := by decide +kernel
theorem dX0_leafFor_52 : decode cX0_leafFor 52 = .ok (.goto 15, 3) := by decide +kernel
theorem dX0_leafFor_55 : decode cX0_leafFor 55 = .ok (.lload 6, 2) := by decide +kernel
theorem dX0_leafFor_57 : decode cX0_leafFor 57 = .ok (.lconst 1, 1) := by decide +kernel
theorem dX0_leafFor_58 : decode cX0_leafFor 58 = .ok (.iload 12, 2) := by decide +kernel
theorem dX0_leafFor_60 : decode cX0_leafFor 60 = .ok (.bipush 64, 2) := by decide +kernel
theorem dX0_leafFor_62 : decode cX0_leafFor 62 = .ok (.isub, 1) := by decide +kernel
theorem dX0_leafFor_63 : decode cX0_leafFor 63 = .ok (.lshl, 1) := by decide +kernel
theorem dX0_leafFor_64 : decode cX0_leafFor 64 = .ok (.lor, 1) := by decide +kernel
theorem dX0_leafFor_65 : decode cX0_leafFor 65 = .ok (.lstore 6, 2) := by decide +kernel
theorem dX0_leafFor_67 : decode cX0_leafFor 67 = .ok (.lload 8, 2) := by decide +kernel
theorem dX0_leafFor_69 : decode cX0_leafFor 69 = .ok (.lload 8, 2) := by decide +kernel
theorem dX0_leafFor_71 : decode cX0_leafFor 71 = .ok (.lconst 1, 1) := by decide +kernel
theorem dX0_leafFor_72 : decode cX0_leafFor 72 = .ok (.lsub, 1) := by decide +kernel
theorem dX0_leafFor_73 : decode cX0_leafFor 73 = .ok (.land, 1) := by decide +kernel
theorem dX0_leafFor_74 : decode cX0_leafFor 74 = .ok (.lstore 8, 2) := by decide +kernel
theorem dX0_leafFor_76 : decode cX0_leafFor 76 = .ok (.iinc 11 1, 3) := by decide +kernel
theorem dX0_leafFor_79 : decode cX0_leafFor 79 = .ok (.goto (-61), 3) := by decide +kernel
theorem dX0_leafFor_82 : decode cX0_leafFor 82 = .ok (.aload_n 0, 1) := by decide +kernel
theorem dX0_leafFor_83 : decode cX0_leafFor 83 = .ok (.lload 4, 2) := by decide +kernel
theorem dX0_leafFor_85 : decode cX0_leafFor 85 = .ok (.lload 6, 2) := by decide +kernel
theorem dX0_leafFor_87 : decode cX0_leafFor 87 = .ok (.invokevirtual 74, 3) := by decide +kernel
theorem dX0_leafFor_90 : decode cX0_leafFor 90 = .ok (.istore 11, 2) := by decide +kernel
theorem dX0_leafFor_92 : decode cX0_leafFor 92 = .ok (.iload 11, 2) := by decide +kernel
theorem dX0_leafFor_94 : decode cX0_leafFor 94 = .ok (.iconst (-1), 1) := by decide +kernel
theorem dX0_leafFor_95 : decode cX0_leafFor 95 = .ok (.if_icmp .eq 8, 3) := by decide +kernel
theorem dX0_leafFor_98 : decode cX0_leafFor 98 = .ok (.iload 11, 2) := by decide +kernel
theorem dX0_leafFor_100 : decode cX0_leafFor 100 = .ok (.goto 11, 3) := by decide +kernel
theorem dX0_leafFor_103 : decode cX0_leafFor 103 = .ok (.aload_n 0, 1) := by decide +kernel
theorem dX0_leafFor_104 : decode cX0_leafFor 104 = .ok (.lload 4, 2) := by decide +kernel
theorem dX0_leafFor_106 : decode cX0_leafFor 106 = .ok (.lload 6, 2) := by decide +kernel
theorem dX0_leafFor_108 : decode cX0_leafFor 108 = .ok (.invokevirtual 78, 3) := by decide +kernel
theorem dX0_leafFor_111 : decode cX0_leafFor 111 = .ok (.ireturn, 1) := by decide +kernel
theorem dX0_leafWith_0 : decode cX0_leafWith 0 = .ok (.iconst 0, 1) := by decide +kernel
theorem dX0_leafWith_1 : decode cX0_leafWith 1 = .ok (.istore 5, 2) := by decide +kernel
theorem dX0_leafWith_3 : decode cX0_leafWith 3 = .ok (.iload 5, 2) := by decide +kernel
theorem dX0_leafWith_5 : decode cX0_leafWith 5 = .ok (.aload_n 0, 1) := by decide +kernel
theorem dX0_leafWith_6 : decode cX0_leafWith 6 = .ok (.getfield 28, 3) := by decide +kernel
theorem dX0_leafWith_9 : decode cX0_leafWith 9 = .ok (.if_icmp .ge 43, 3) := by decide +kernel
theorem dX0_leafWith_12 : decode cX0_leafWith 12 = .ok (.iload 5, 2) := by decide +kernel
theorem dX0_leafWith_14 : decode cX0_leafWith 14 = .ok (.bipush 64, 2) := by decide +kernel
theorem dX0_leafWith_16 : decode cX0_leafWith 16 = .ok (.if_icmp .ge 36, 3) := by decide +kernel
theorem dX0_leafWith_19 : decode cX0_leafWith 19 = .ok (.aload_n 0, 1) := by decide +kernel
theorem dX0_leafWith_20 : decode cX0_leafWith 20 = .ok (.getfield 9, 3) := by decide +kernel
theorem dX0_leafWith_23 : decode cX0_leafWith 23 = .ok (.iload 5, 2) := by decide +kernel
theorem dX0_leafWith_25 : decode cX0_leafWith 25 = .ok (.laload, 1) := by decide +kernel
theorem dX0_leafWith_26 : decode cX0_leafWith 26 = .ok (.lload_n 1, 1) := by decide +kernel
theorem dX0_leafWith_27 : decode cX0_leafWith 27 = .ok (.lcmp, 1) := by decide +kernel
theorem dX0_leafWith_28 : decode cX0_leafWith 28 = .ok (.ifCond .ne 18, 3) := by decide +kernel
theorem dX0_leafWith_31 : decode cX0_leafWith 31 = .ok (.aload_n 0, 1) := by decide +kernel
theorem dX0_leafWith_32 : decode cX0_leafWith 32 = .ok (.getfield 15, 3) := by decide +kernel
theorem dX0_leafWith_35 : decode cX0_leafWith 35 = .ok (.iload 5, 2) := by decide +kernel
theorem dX0_leafWith_37 : decode cX0_leafWith 37 = .ok (.laload, 1) := by decide +kernel
theorem dX0_leafWith_38 : decode cX0_leafWith 38 = .ok (.lload_n 3, 1) := by decide +kernel
theorem dX0_leafWith_39 : decode cX0_leafWith 39 = .ok (.lcmp, 1) := by decide +kernel
theorem dX0_leafWith_40 : decode cX0_leafWith 40 = .ok (.ifCond .ne 6, 3) := by decide +kernel
theorem dX0_leafWith_43 : decode cX0_leafWith 43 = .ok (.iload 5, 2) := by decide +kernel
theorem dX0_leafWith_45 : decode cX0_leafWith 45 = .ok (.ireturn, 1) := by decide +kernel
theorem dX0_leafWith_46 : decode cX0_leafWith 46 = .ok (.iinc 5 1, 3) := by decide +kernel
theorem dX0_leafWith_49 : decode cX0_leafWith 49 = .ok (.goto (-46), 3) := by decide +kernel
theorem dX0_leafWith_52 : decode cX0_leafWith 52 = .ok (.iconst (-1), 1) := by decide +kernel
theorem dX0_leafWith_53 : decode cX0_leafWith 53 = .ok (.ireturn, 1) := by decide +kernel
theorem dX0_newLeaf_0 : decode cX0_newLeaf 0 = .ok (.aload_n 0, 1) := by decide +kernel
theorem dX0_newLeaf_1 : decode cX0_newLeaf 1 = .ok (.getfield 28, 3) := by decide +kernel
theorem dX0_newLeaf_4 : decode cX0_newLeaf 4 = .ok (.bipush 64, 2) := by decide +kernel
theorem dX0_newLeaf_6 : decode cX0_newLeaf 6 = .ok (.if_icmp .lt 5, 3) := by decide +kernel
theorem dX0_newLeaf_9 : decode cX0_newLeaf 9 = .ok (.iconst 0, 1) := by decide +kernel
theorem dX0_newLeaf_10 : decode cX0_newLeaf 10 = .ok (.ireturn, 1) := by decide +kernel
theorem dX0_newLeaf_11 : decode cX0_newLeaf 11 = .ok (.aload_n 0, 1) := by decide +kernel
theorem dX0_newLeaf_12 : decode cX0_newLeaf 12 = .ok (.getfield 9, 3) := by decide +kernel
theorem dX0_newLeaf_15 : decode cX0_newLeaf 15 = .ok (.aload_n 0, 1) := by decide +kernel
theorem dX0_newLeaf_16 : decode cX0_newLeaf 16 = .ok (.getfield 28, 3) := by decide +kernel
theorem dX0_newLeaf_19 : decode cX0_newLeaf 19 = .ok (.lload_n 1, 1) := by decide +kernel
theorem dX0_newLeaf_20 : decode cX0_newLeaf 20 = .ok (.lastore, 1) := by decide +kernel
theorem dX0_newLeaf_21 : decode cX0_newLeaf 21 = .ok (.aload_n 0, 1) := by decide +kernel
theorem dX0_newLeaf_22 : decode cX0_newLeaf 22 = .ok (.getfield 15, 3) := by decide +kernel
theorem dX0_newLeaf_25 : decode cX0_newLeaf 25 = .ok (.aload_n 0, 1) := by decide +kernel
theorem dX0_newLeaf_26 : decode cX0_newLeaf 26 = .ok (.getfield 28, 3) := by decide +kernel
theorem dX0_newLeaf_29 : decode cX0_newLeaf 29 = .ok (.lload_n 3, 1) := by decide +kernel
theorem dX0_newLeaf_30 : decode cX0_newLeaf 30 = .ok (.lastore, 1) := by decide +kernel
theorem dX0_newLeaf_31 : decode cX0_newLeaf 31 = .ok (.aload_n 0, 1) := by decide +kernel
theorem dX0_newLeaf_32 : decode cX0_newLeaf 32 = .ok (.getfield 22, 3) := by decide +kernel
theorem dX0_newLeaf_35 : decode cX0_newLeaf 35 = .ok (.aload_n 0, 1) := by decide +kernel
theorem dX0_newLeaf_36 : decode cX0_newLeaf 36 = .ok (.getfield 28, 3) := by decide +kernel
theorem dX0_newLeaf_39 : decode cX0_newLeaf 39 = .ok (.iconst 0, 1) := by decide +kernel
theorem dX0_newLeaf_40 : decode cX0_newLeaf 40 = .ok (.iastore, 1) := by decide +kernel
theorem dX0_newLeaf_41 : decode cX0_newLeaf 41 = .ok (.aload_n 0, 1) := by decide +kernel
theorem dX0_newLeaf_42 : decode cX0_newLeaf 42 = .ok (.dup, 1) := by decide +kernel
theorem dX0_newLeaf_43 : decode cX0_newLeaf 43 = .ok (.getfield 28, 3) := by decide +kernel
theorem dX0_newLeaf_46 : decode cX0_newLeaf 46 = .ok (.iconst 1, 1) := by decide +kernel
theorem dX0_newLeaf_47 : decode cX0_newLeaf 47 = .ok (.iadd, 1) := by decide +kernel
theorem dX0_newLeaf_48 : decode cX0_newLeaf 48 = .ok (.putfield 28, 3) := by decide +kernel
theorem dX0_newLeaf_51 : decode cX0_newLeaf 51 = .ok (.aload_n 0, 1) := by decide +kernel
theorem dX0_newLeaf_52 : decode cX0_newLeaf 52 = .ok (.getfield 28, 3) := by decide +kernel
theorem dX0_newLeaf_55 : decode cX0_newLeaf 55 = .ok (.iconst 1, 1) := by decide +kernel
theorem dX0_newLeaf_56 : decode cX0_newLeaf 56 = .ok (.isub, 1) := by decide +kernel
theorem dX0_newLeaf_57 : decode cX0_newLeaf 57 = .ok (.ireturn, 1) := by decide +kernel
theorem dX0_nodeFor_0 : decode cX0_nodeFor 0 = .ok (.iload_n 2, 1) := by decide +kernel
theorem dX0_nodeFor_1 : decode cX0_nodeFor 1 = .ok (.ifCond .lt 11, 3) := by decide +kernel
theorem dX0_nodeFor_4 : decode cX0_nodeFor 4 = .ok (.iload_n 2, 1) := by decide +kernel
theorem dX0_nodeFor_5 : decode cX0_nodeFor 5 = .ok (.iconst 3, 1) := by decide +kernel
theorem dX0_nodeFor_6 : decode cX0_nodeFor 6 = .ok (.iadd, 1) := by decide +kernel
theorem dX0_nodeFor_7 : decode cX0_nodeFor 7 = .ok (.bipush 64, 2) := by decide +kernel
theorem dX0_nodeFor_9 : decode cX0_nodeFor 9 = .ok (.if_icmp .lt 5, 3) := by decide +kernel
theorem dX0_nodeFor_12 : decode cX0_nodeFor 12 = .ok (.iconst 0, 1) := by decide +kernel
theorem dX0_nodeFor_13 : decode cX0_nodeFor 13 = .ok (.ireturn, 1) := by decide +kernel
theorem dX0_nodeFor_14 : decode cX0_nodeFor 14 = .ok (.aload_n 0, 1) := by decide +kernel
theorem dX0_nodeFor_15 : decode cX0_nodeFor 15 = .ok (.getfield 38, 3) := by decide +kernel
theorem dX0_nodeFor_18 : decode cX0_nodeFor 18 = .ok (.iload_n 2, 1) := by decide +kernel
theorem dX0_nodeFor_19 : decode cX0_nodeFor 19 = .ok (.iaload, 1) := by decide +kernel
theorem dX0_nodeFor_20 : decode cX0_nodeFor 20 = .ok (.istore_n 3, 1) := by decide +kernel
theorem dX0_nodeFor_21 : decode cX0_nodeFor 21 = .ok (.aload_n 0, 1) := by decide +kernel
theorem dX0_nodeFor_22 : decode cX0_nodeFor 22 = .ok (.getfield 38, 3) := by decide +kernel
theorem dX0_nodeFor_25 : decode cX0_nodeFor 25 = .ok (.iload_n 2, 1) := by decide +kernel
theorem dX0_nodeFor_26 : decode cX0_nodeFor 26 = .ok (.iconst 1, 1) := by decide +kernel
theorem dX0_nodeFor_27 : decode cX0_nodeFor 27 = .ok (.iadd, 1) := by decide +kernel
theorem dX0_nodeFor_28 : decode cX0_nodeFor 28 = .ok (.iaload, 1) := by decide +kernel
theorem dX0_nodeFor_29 : decode cX0_nodeFor 29 = .ok (.istore 4, 2) := by decide +kernel
theorem dX0_nodeFor_31 : decode cX0_nodeFor 31 = .ok (.aload_n 0, 1) := by decide +kernel
theorem dX0_nodeFor_32 : decode cX0_nodeFor 32 = .ok (.getfield 38, 3) := by decide +kernel
theorem dX0_nodeFor_35 : decode cX0_nodeFor 35 = .ok (.iload_n 2, 1) := by decide +kernel
theorem dX0_nodeFor_36 : decode cX0_nodeFor 36 = .ok (.iconst 2, 1) := by decide +kernel
theorem dX0_nodeFor_37 : decode cX0_nodeFor 37 = .ok (.iadd, 1) := by decide +kernel
theorem dX0_nodeFor_38 : decode cX0_nodeFor 38 = .ok (.iaload, 1) := by decide +kernel
theorem dX0_nodeFor_39 : decode cX0_nodeFor 39 = .ok (.istore 5, 2) := by decide +kernel
theorem dX0_nodeFor_41 : decode cX0_nodeFor 41 = .ok (.aload_n 0, 1) := by decide +kernel
theorem dX0_nodeFor_42 : decode cX0_nodeFor 42 = .ok (.getfield 38, 3) := by decide +kernel
theorem dX0_nodeFor_45 : decode cX0_nodeFor 45 = .ok (.iload_n 2, 1) := by decide +kernel
theorem dX0_nodeFor_46 : decode cX0_nodeFor 46 = .ok (.iconst 3, 1) := by decide +kernel
theorem dX0_nodeFor_47 : decode cX0_nodeFor 47 = .ok (.iadd, 1) := by decide +kernel
theorem dX0_nodeFor_48 : decode cX0_nodeFor 48 = .ok (.iaload, 1) := by decide +kernel
theorem dX0_nodeFor_49 : decode cX0_nodeFor 49 = .ok (.istore 6, 2) := by decide +kernel
theorem dX0_nodeFor_51 : decode cX0_nodeFor 51 = .ok (.iload_n 3, 1) := by decide +kernel
theorem dX0_nodeFor_52 : decode cX0_nodeFor 52 = .ok (.iload 4, 2) := by decide +kernel
theorem dX0_nodeFor_54 : decode cX0_nodeFor 54 = .ok (.if_icmp .ne 17, 3) := by decide +kernel
theorem dX0_nodeFor_57 : decode cX0_nodeFor 57 = .ok (.iload_n 3, 1) := by decide +kernel
theorem dX0_nodeFor_58 : decode cX0_nodeFor 58 = .ok (.iload 5, 2) := by decide +kernel
theorem dX0_nodeFor_60 : decode cX0_nodeFor 60 = .ok (.if_icmp .ne 11, 3) := by decide +kernel
theorem dX0_nodeFor_63 : decode cX0_nodeFor 63 = .ok (.iload_n 3, 1) := by decide +kernel
theorem dX0_nodeFor_64 : decode cX0_nodeFor 64 = .ok (.iload 6, 2) := by decide +kernel
theorem dX0_nodeFor_66 : decode cX0_nodeFor 66 = .ok (.if_icmp .ne 5, 3) := by decide +kernel
theorem dX0_nodeFor_69 : decode cX0_nodeFor 69 = .ok (.iload_n 3, 1) := by decide +kernel
theorem dX0_nodeFor_70 : decode cX0_nodeFor 70 = .ok (.ireturn, 1) := by decide +kernel
theorem dX0_nodeFor_71 : decode cX0_nodeFor 71 = .ok (.aload_n 0, 1) := by decide +kernel
theorem dX0_nodeFor_72 : decode cX0_nodeFor 72 = .ok (.iload_n 1, 1) := by decide +kernel
theorem dX0_nodeFor_73 : decode cX0_nodeFor 73 = .ok (.iload_n 3, 1) := by decide +kernel
theorem dX0_nodeFor_74 : decode cX0_nodeFor 74 = .ok (.iload 4, 2) := by decide +kernel
theorem dX0_nodeFor_76 : decode cX0_nodeFor 76 = .ok (.iload 5, 2) := by decide +kernel
theorem dX0_nodeFor_78 : decode cX0_nodeFor 78 = .ok (.iload 6, 2) := by decide +kernel
theorem dX0_nodeFor_80 : decode cX0_nodeFor 80 = .ok (.invokevirtual 81, 3) := by decide +kernel
theorem dX0_nodeFor_83 : decode cX0_nodeFor 83 = .ok (.istore 7, 2) := by decide +kernel
theorem dX0_nodeFor_85 : decode cX0_nodeFor 85 = .ok (.iload 7, 2) := by decide +kernel
theorem dX0_nodeFor_87 : decode cX0_nodeFor 87 = .ok (.iconst (-1), 1) := by decide +kernel
theorem dX0_nodeFor_88 : decode cX0_nodeFor 88 = .ok (.if_icmp .eq 8, 3) := by decide +kernel
theorem dX0_nodeFor_91 : decode cX0_nodeFor 91 = .ok (.iload 7, 2) := by decide +kernel
theorem dX0_nodeFor_93 : decode cX0_nodeFor 93 = .ok (.goto 9, 3) := by decide +kernel
theorem dX0_nodeFor_96 : decode cX0_nodeFor 96 = .ok (.aload_n 0, 1) := by decide +kernel
theorem dX0_nodeFor_97 : decode cX0_nodeFor 97 = .ok (.iload_n 1, 1) := by decide +kernel
theorem dX0_nodeFor_98 : decode cX0_nodeFor 98 = .ok (.iload_n 2, 1) := by decide +kernel
theorem dX0_nodeFor_99 : decode cX0_nodeFor 99 = .ok (.invokevirtual 85, 3) := by decide +kernel
theorem dX0_nodeFor_102 : decode cX0_nodeFor 102 = .ok (.ireturn, 1) := by decide +kernel
theorem dX0_testWith_0 : decode cX0_testWith 0 = .ok (.aload_n 0, 1) := by decide +kernel
theorem dX0_testWith_1 : decode cX0_testWith 1 = .ok (.getfield 28, 3) := by decide +kernel
theorem dX0_testWith_4 : decode cX0_testWith 4 = .ok (.istore 6, 2) := by decide +kernel
theorem dX0_testWith_6 : decode cX0_testWith 6 = .ok (.iload 6, 2) := by decide +kernel
theorem dX0_testWith_8 : decode cX0_testWith 8 = .ok (.aload_n 0, 1) := by decide +kernel
theorem dX0_testWith_9 : decode cX0_testWith 9 = .ok (.getfield 32, 3) := by decide +kernel
theorem dX0_testWith_12 : decode cX0_testWith 12 = .ok (.if_icmp .ge 76, 3) := by decide +kernel
theorem dX0_testWith_15 : decode cX0_testWith 15 = .ok (.iload 6, 2) := by decide +kernel
theorem dX0_testWith_17 : decode cX0_testWith 17 = .ok (.bipush 85, 2) := by decide +kernel
theorem dX0_testWith_19 : decode cX0_testWith 19 = .ok (.if_icmp .ge 69, 3) := by decide +kernel
theorem dX0_testWith_22 : decode cX0_testWith 22 = .ok (.aload_n 0, 1) := by decide +kernel
theorem dX0_testWith_23 : decode cX0_testWith 23 = .ok (.getfield 18, 3) := by decide +kernel
theorem dX0_testWith_26 : decode cX0_testWith 26 = .ok (.iload 6, 2) := by decide +kernel
theorem dX0_testWith_28 : decode cX0_testWith 28 = .ok (.iaload, 1) := by decide +kernel
theorem dX0_testWith_29 : decode cX0_testWith 29 = .ok (.iload_n 1, 1) := by decide +kernel
theorem dX0_testWith_30 : decode cX0_testWith 30 = .ok (.if_icmp .ne 52, 3) := by decide +kernel
theorem dX0_testWith_33 : decode cX0_testWith 33 = .ok (.aload_n 0, 1) := by decide +kernel
theorem dX0_testWith_34 : decode cX0_testWith 34 = .ok (.iload 6, 2) := by decide +kernel
theorem dX0_testWith_36 : decode cX0_testWith 36 = .ok (.iconst 0, 1) := by decide +kernel
theorem dX0_testWith_37 : decode cX0_testWith 37 = .ok (.invokevirtual 88, 3) := by decide +kernel
theorem dX0_testWith_40 : decode cX0_testWith 40 = .ok (.iload_n 2, 1) := by decide +kernel
theorem dX0_testWith_41 : decode cX0_testWith 41 = .ok (.if_icmp .ne 41, 3) := by decide +kernel
theorem dX0_testWith_44 : decode cX0_testWith 44 = .ok (.aload_n 0, 1) := by decide +kernel
theorem dX0_testWith_45 : decode cX0_testWith 45 = .ok (.iload 6, 2) := by decide +kernel
theorem dX0_testWith_47 : decode cX0_testWith 47 = .ok (.iconst 1, 1) := by decide +kernel
theorem dX0_testWith_48 : decode cX0_testWith 48 = .ok (.invokevirtual 88, 3) := by decide +kernel
theorem dX0_testWith_51 : decode cX0_testWith 51 = .ok (.iload_n 3, 1) := by decide +kernel
theorem dX0_testWith_52 : decode cX0_testWith 52 = .ok (.if_icmp .ne 30, 3) := by decide +kernel
theorem dX0_testWith_55 : decode cX0_testWith 55 = .ok (.aload_n 0, 1) := by decide +kernel
theorem dX0_testWith_56 : decode cX0_testWith 56 = .ok (.iload 6, 2) := by decide +kernel
theorem dX0_testWith_58 : decode cX0_testWith 58 = .ok (.iconst 2, 1) := by decide +kernel
theorem dX0_testWith_59 : decode cX0_testWith 59 = .ok (.invokevirtual 88, 3) := by decide +kernel
theorem dX0_testWith_62 : decode cX0_testWith 62 = .ok (.iload 4, 2) := by decide +kernel
theorem dX0_testWith_64 : decode cX0_testWith 64 = .ok (.if_icmp .ne 18, 3) := by decide +kernel
theorem dX0_testWith_67 : decode cX0_testWith 67 = .ok (.aload_n 0, 1) := by decide +kernel
theorem dX0_testWith_68 : decode cX0_testWith 68 = .ok (.iload 6, 2) := by decide +kernel
theorem dX0_testWith_70 : decode cX0_testWith 70 = .ok (.iconst 3, 1) := by decide +kernel
theorem dX0_testWith_71 : decode cX0_testWith 71 = .ok (.invokevirtual 88, 3) := by decide +kernel
theorem dX0_testWith_74 : decode cX0_testWith 74 = .ok (.iload 5, 2) := by decide +kernel
theorem dX0_testWith_76 : decode cX0_testWith 76 = .ok (.if_icmp .ne 6, 3) := by decide +kernel
theorem dX0_testWith_79 : decode cX0_testWith 79 = .ok (.iload 6, 2) := by decide +kernel
theorem dX0_testWith_81 : decode cX0_testWith 81 = .ok (.ireturn, 1) := by decide +kernel
theorem dX0_testWith_82 : decode cX0_testWith 82 = .ok (.iinc 6 1, 3) := by decide +kernel
theorem dX0_testWith_85 : decode cX0_testWith 85 = .ok (.goto (-79), 3) := by decide +kernel
theorem dX0_testWith_88 : decode cX0_testWith 88 = .ok (.iconst (-1), 1) := by decide +kernel
theorem dX0_testWith_89 : decode cX0_testWith 89 = .ok (.ireturn, 1) := by decide +kernel
theorem dX0_newTest_0 : decode cX0_newTest 0 = .ok (.aload_n 0, 1) := by decide +kernel
theorem dX0_newTest_1 : decode cX0_newTest 1 = .ok (.getfield 32, 3) := by decide +kernel
theorem dX0_newTest_4 : decode cX0_newTest 4 = .ok (.ifCond .lt 12, 3) := by decide +kernel
theorem dX0_newTest_7 : decode cX0_newTest 7 = .ok (.aload_n 0, 1) := by decide +kernel
theorem dX0_newTest_8 : decode cX0_newTest 8 = .ok (.getfield 32, 3) := by decide +kernel
theorem dX0_newTest_11 : decode cX0_newTest 11 = .ok (.bipush 85, 2) := by decide +kernel
theorem dX0_newTest_13 : decode cX0_newTest 13 = .ok (.if_icmp .lt 5, 3) := by decide +kernel
theorem dX0_newTest_16 : decode cX0_newTest 16 = .ok (.iconst 0, 1) := by decide +kernel
theorem dX0_newTest_17 : decode cX0_newTest 17 = .ok (.ireturn, 1) := by decide +kernel
theorem dX0_newTest_18 : decode cX0_newTest 18 = .ok (.iconst 0, 1) := by decide +kernel
theorem dX0_newTest_19 : decode cX0_newTest 19 = .ok (.istore_n 3, 1) := by decide +kernel
theorem dX0_newTest_20 : decode cX0_newTest 20 = .ok (.iconst 0, 1) := by decide +kernel
theorem dX0_newTest_21 : decode cX0_newTest 21 = .ok (.istore 4, 2) := by decide +kernel
theorem dX0_newTest_23 : decode cX0_newTest 23 = .ok (.iload 4, 2) := by decide +kernel
theorem dX0_newTest_25 : decode cX0_newTest 25 = .ok (.iconst 4, 1) := by decide +kernel
theorem dX0_newTest_26 : decode cX0_newTest 26 = .ok (.if_icmp .ge 47, 3) := by decide +kernel
theorem dX0_newTest_29 : decode cX0_newTest 29 = .ok (.aload_n 0, 1) := by decide +kernel
theorem dX0_newTest_30 : decode cX0_newTest 30 = .ok (.getfield 38, 3) := by decide +kernel
theorem dX0_newTest_33 : decode cX0_newTest 33 = .ok (.iload_n 2, 1) := by decide +kernel
theorem dX0_newTest_34 : decode cX0_newTest 34 = .ok (.iload 4, 2) := by decide +kernel
theorem dX0_newTest_36 : decode cX0_newTest 36 = .ok (.iadd, 1) := by decide +kernel
theorem dX0_newTest_37 : decode cX0_newTest 37 = .ok (.iaload, 1) := by decide +kernel
theorem dX0_newTest_38 : decode cX0_newTest 38 = .ok (.istore 5, 2) := by decide +kernel
theorem dX0_newTest_40 : decode cX0_newTest 40 = .ok (.aload_n 0, 1) := by decide +kernel
theorem dX0_newTest_41 : decode cX0_newTest 41 = .ok (.getfield 25, 3) := by decide +kernel
theorem dX0_newTest_44 : decode cX0_newTest 44 = .ok (.aload_n 0, 1) := by decide +kernel
theorem dX0_newTest_45 : decode cX0_newTest 45 = .ok (.getfield 32, 3) := by decide +kernel
theorem dX0_newTest_48 : decode cX0_newTest 48 = .ok (.iconst 4, 1) := by decide +kernel
theorem dX0_newTest_49 : decode cX0_newTest 49 = .ok (.imul, 1) := by decide +kernel
theorem dX0_newTest_50 : decode cX0_newTest 50 = .ok (.iload 4, 2) := by decide +kernel
theorem dX0_newTest_52 : decode cX0_newTest 52 = .ok (.iadd, 1) := by decide +kernel
theorem dX0_newTest_53 : decode cX0_newTest 53 = .ok (.iload 5, 2) := by decide +kernel
theorem dX0_newTest_55 : decode cX0_newTest 55 = .ok (.iastore, 1) := by decide +kernel
theorem dX0_newTest_56 : decode cX0_newTest 56 = .ok (.iload_n 3, 1) := by decide +kernel
theorem dX0_newTest_57 : decode cX0_newTest 57 = .ok (.aload_n 0, 1) := by decide +kernel
theorem dX0_newTest_58 : decode cX0_newTest 58 = .ok (.iload 5, 2) := by decide +kernel
theorem dX0_newTest_60 : decode cX0_newTest 60 = .ok (.invokevirtual 44, 3) := by decide +kernel
theorem dX0_newTest_63 : decode cX0_newTest 63 = .ok (.invokestatic 91, 3) := by decide +kernel
theorem dX0_newTest_66 : decode cX0_newTest 66 = .ok (.istore_n 3, 1) := by decide +kernel
theorem dX0_newTest_67 : decode cX0_newTest 67 = .ok (.iinc 4 1, 3) := by decide +kernel
theorem dX0_newTest_70 : decode cX0_newTest 70 = .ok (.goto (-47), 3) := by decide +kernel
theorem dX0_newTest_73 : decode cX0_newTest 73 = .ok (.aload_n 0, 1) := by decide +kernel
theorem dX0_newTest_74 : decode cX0_newTest 74 = .ok (.getfield 18, 3) := by decide +kernel
theorem dX0_newTest_77 : decode cX0_newTest 77 = .ok (.aload_n 0, 1) := by decide +kernel
theorem dX0_newTest_78 : decode cX0_newTest 78 = .ok (.getfield 32, 3) := by decide +kernel
theorem dX0_newTest_81 : decode cX0_newTest 81 = .ok (.iload_n 1, 1) := by decide +kernel
theorem dX0_newTest_82 : decode cX0_newTest 82 = .ok (.iastore, 1) := by decide +kernel
theorem dX0_newTest_83 : decode cX0_newTest 83 = .ok (.aload_n 0, 1) := by decide +kernel
theorem dX0_newTest_84 : decode cX0_newTest 84 = .ok (.getfield 22, 3) := by decide +kernel
theorem dX0_newTest_87 : decode cX0_newTest 87 = .ok (.aload_n 0, 1) := by decide +kernel
theorem dX0_newTest_88 : decode cX0_newTest 88 = .ok (.getfield 32, 3) := by decide +kernel
theorem dX0_newTest_91 : decode cX0_newTest 91 = .ok (.iload_n 3, 1) := by decide +kernel
theorem dX0_newTest_92 : decode cX0_newTest 92 = .ok (.iconst 1, 1) := by decide +kernel
theorem dX0_newTest_93 : decode cX0_newTest 93 = .ok (.iadd, 1) := by decide +kernel
theorem dX0_newTest_94 : decode cX0_newTest 94 = .ok (.iastore, 1) := by decide +kernel
theorem dX0_newTest_95 : decode cX0_newTest 95 = .ok (.aload_n 0, 1) := by decide +kernel
theorem dX0_newTest_96 : decode cX0_newTest 96 = .ok (.dup, 1) := by decide +kernel
theorem dX0_newTest_97 : decode cX0_newTest 97 = .ok (.getfield 32, 3) := by decide +kernel
theorem dX0_newTest_100 : decode cX0_newTest 100 = .ok (.iconst 1, 1) := by decide +kernel
theorem dX0_newTest_101 : decode cX0_newTest 101 = .ok (.iadd, 1) := by decide +kernel
theorem dX0_newTest_102 : decode cX0_newTest 102 = .ok (.putfield 32, 3) := by decide +kernel
theorem dX0_newTest_105 : decode cX0_newTest 105 = .ok (.aload_n 0, 1) := by decide +kernel
theorem dX0_newTest_106 : decode cX0_newTest 106 = .ok (.getfield 32, 3) := by decide +kernel
theorem dX0_newTest_109 : decode cX0_newTest 109 = .ok (.iconst 1, 1) := by decide +kernel
theorem dX0_newTest_110 : decode cX0_newTest 110 = .ok (.isub, 1) := by decide +kernel
theorem dX0_newTest_111 : decode cX0_newTest 111 = .ok (.ireturn, 1) := by decide +kernel
theorem dX0_mainChildOf_0 : decode cX0_mainChildOf 0 = .ok (.aload_n 0, 1) := by decide +kernel
theorem dX0_mainChildOf_1 : decode cX0_mainChildOf 1 = .ok (.iload_n 1, 1) := by decide +kernel
theorem dX0_mainChildOf_2 : decode cX0_mainChildOf 2 = .ok (.iconst 0, 1) := by decide +kernel
theorem dX0_mainChildOf_3 : decode cX0_mainChildOf 3 = .ok (.invokevirtual 88, 3) := by decide +kernel
theorem dX0_mainChildOf_6 : decode cX0_mainChildOf 6 = .ok (.istore_n 2, 1) := by decide +kernel
theorem dX0_mainChildOf_7 : decode cX0_mainChildOf 7 = .ok (.iconst 0, 1) := by decide +kernel
theorem dX0_mainChildOf_8 : decode cX0_mainChildOf 8 = .ok (.istore_n 3, 1) := by decide +kernel
theorem dX0_mainChildOf_9 : decode cX0_mainChildOf 9 = .ok (.iconst 0, 1) := by decide +kernel
theorem dX0_mainChildOf_10 : decode cX0_mainChildOf 10 = .ok (.istore 4, 2) := by decide +kernel
theorem dX0_mainChildOf_12 : decode cX0_mainChildOf 12 = .ok (.iload 4, 2) := by decide +kernel
theorem dX0_mainChildOf_14 : decode cX0_mainChildOf 14 = .ok (.iconst 4, 1) := by decide +kernel
theorem dX0_mainChildOf_15 : decode cX0_mainChildOf 15 = .ok (.if_icmp .ge 39, 3) := by decide +kernel
theorem dX0_mainChildOf_18 : decode cX0_mainChildOf 18 = .ok (.aload_n 0, 1) := by decide +kernel
theorem dX0_mainChildOf_19 : decode cX0_mainChildOf 19 = .ok (.iload_n 1, 1) := by decide +kernel
theorem dX0_mainChildOf_20 : decode cX0_mainChildOf 20 = .ok (.iload 4, 2) := by decide +kernel
theorem dX0_mainChildOf_22 : decode cX0_mainChildOf 22 = .ok (.invokevirtual 88, 3) := by decide +kernel
theorem dX0_mainChildOf_25 : decode cX0_mainChildOf 25 = .ok (.istore 5, 2) := by decide +kernel
theorem dX0_mainChildOf_27 : decode cX0_mainChildOf 27 = .ok (.aload_n 0, 1) := by decide +kernel
theorem dX0_mainChildOf_28 : decode cX0_mainChildOf 28 = .ok (.iload_n 1, 1) := by decide +kernel
theorem dX0_mainChildOf_29 : decode cX0_mainChildOf 29 = .ok (.iload 5, 2) := by decide +kernel
theorem dX0_mainChildOf_31 : decode cX0_mainChildOf 31 = .ok (.invokevirtual 96, 3) := by decide +kernel
theorem dX0_mainChildOf_34 : decode cX0_mainChildOf 34 = .ok (.istore 6, 2) := by decide +kernel
theorem dX0_mainChildOf_36 : decode cX0_mainChildOf 36 = .ok (.iload 6, 2) := by decide +kernel
theorem dX0_mainChildOf_38 : decode cX0_mainChildOf 38 = .ok (.iload_n 3, 1) := by decide +kernel
theorem dX0_mainChildOf_39 : decode cX0_mainChildOf 39 = .ok (.if_icmp .le 9, 3) := by decide +kernel
theorem dX0_mainChildOf_42 : decode cX0_mainChildOf 42 = .ok (.iload 6, 2) := by decide +kernel
theorem dX0_mainChildOf_44 : decode cX0_mainChildOf 44 = .ok (.istore_n 3, 1) := by decide +kernel
theorem dX0_mainChildOf_45 : decode cX0_mainChildOf 45 = .ok (.iload 5, 2) := by decide +kernel
theorem dX0_mainChildOf_47 : decode cX0_mainChildOf 47 = .ok (.istore_n 2, 1) := by decide +kernel
theorem dX0_mainChildOf_48 : decode cX0_mainChildOf 48 = .ok (.iinc 4 1, 3) := by decide +kernel
theorem dX0_mainChildOf_51 : decode cX0_mainChildOf 51 = .ok (.goto (-39), 3) := by decide +kernel
theorem dX0_mainChildOf_54 : decode cX0_mainChildOf 54 = .ok (.iload_n 2, 1) := by decide +kernel
theorem dX0_mainChildOf_55 : decode cX0_mainChildOf 55 = .ok (.ireturn, 1) := by decide +kernel
theorem dX0_valuesLeadingTo_0 : decode cX0_valuesLeadingTo 0 = .ok (.iconst 0, 1) := by decide +kernel
theorem dX0_valuesLeadingTo_1 : decode cX0_valuesLeadingTo 1 = .ok (.istore_n 3, 1) := by decide +kernel
theorem dX0_valuesLeadingTo_2 : decode cX0_valuesLeadingTo 2 = .ok (.iconst 0, 1) := by decide +kernel
theorem dX0_valuesLeadingTo_3 : decode cX0_valuesLeadingTo 3 = .ok (.istore 4, 2) := by decide +kernel
theorem dX0_valuesLeadingTo_5 : decode cX0_valuesLeadingTo 5 = .ok (.iload 4, 2) := by decide +kernel
theorem dX0_valuesLeadingTo_7 : decode cX0_valuesLeadingTo 7 = .ok (.iconst 4, 1) := by decide +kernel
theorem dX0_valuesLeadingTo_8 : decode cX0_valuesLeadingTo 8 = .ok (.if_icmp .ge 23, 3) := by decide +kernel
theorem dX0_valuesLeadingTo_11 : decode cX0_valuesLeadingTo 11 = .ok (.aload_n 0, 1) := by decide +kernel
theorem dX0_valuesLeadingTo_12 : decode cX0_valuesLeadingTo 12 = .ok (.iload_n 1, 1) := by decide +kernel
theorem dX0_valuesLeadingTo_13 : decode cX0_valuesLeadingTo 13 = .ok (.iload 4, 2) := by decide +kernel
theorem dX0_valuesLeadingTo_15 : decode cX0_valuesLeadingTo 15 = .ok (.invokevirtual 88, 3) := by decide +kernel
theorem dX0_valuesLeadingTo_18 : decode cX0_valuesLeadingTo 18 = .ok (.iload_n 2, 1) := by decide +kernel
theorem dX0_valuesLeadingTo_19 : decode cX0_valuesLeadingTo 19 = .ok (.if_icmp .ne 6, 3) := by decide +kernel
theorem dX0_valuesLeadingTo_22 : decode cX0_valuesLeadingTo 22 = .ok (.iinc 3 1, 3) := by decide +kernel
theorem dX0_valuesLeadingTo_25 : decode cX0_valuesLeadingTo 25 = .ok (.iinc 4 1, 3) := by decide +kernel
theorem dX0_valuesLeadingTo_28 : decode cX0_valuesLeadingTo 28 = .ok (.goto (-23), 3) := by decide +kernel
theorem dX0_valuesLeadingTo_31 : decode cX0_valuesLeadingTo 31 = .ok (.iload_n 3, 1) := by decide +kernel
theorem dX0_valuesLeadingTo_32 : decode cX0_valuesLeadingTo 32 = .ok (.ireturn, 1) := by decide +kernel
theorem dX0_twinsIn_0 : decode cX0_twinsIn 0 = .ok (.iconst 0, 1) := by decide +kernel
theorem dX0_twinsIn_1 : decode cX0_twinsIn 1 = .ok (.istore_n 2, 1) := by decide +kernel
theorem dX0_twinsIn_2 : decode cX0_twinsIn 2 = .ok (.iconst 0, 1) := by decide +kernel
theorem dX0_twinsIn_3 : decode cX0_twinsIn 3 = .ok (.istore_n 3, 1) := by decide +kernel
theorem dX0_twinsIn_4 : decode cX0_twinsIn 4 = .ok (.iload_n 3, 1) := by decide +kernel
theorem dX0_twinsIn_5 : decode cX0_twinsIn 5 = .ok (.aload_n 0, 1) := by decide +kernel
theorem dX0_twinsIn_6 : decode cX0_twinsIn 6 = .ok (.getfield 32, 3) := by decide +kernel
theorem dX0_twinsIn_9 : decode cX0_twinsIn 9 = .ok (.if_icmp .ge 40, 3) := by decide +kernel
theorem dX0_twinsIn_12 : decode cX0_twinsIn 12 = .ok (.iload_n 3, 1) := by decide +kernel
theorem dX0_twinsIn_13 : decode cX0_twinsIn 13 = .ok (.bipush 85, 2) := by decide +kernel
theorem dX0_twinsIn_15 : decode cX0_twinsIn 15 = .ok (.if_icmp .ge 34, 3) := by decide +kernel
theorem dX0_twinsIn_18 : decode cX0_twinsIn 18 = .ok (.aload_n 0, 1) := by decide +kernel
theorem dX0_twinsIn_19 : decode cX0_twinsIn 19 = .ok (.getfield 41, 3) := by decide +kernel
theorem dX0_twinsIn_22 : decode cX0_twinsIn 22 = .ok (.iload_n 3, 1) := by decide +kernel
theorem dX0_twinsIn_23 : decode cX0_twinsIn 23 = .ok (.aload_n 0, 1) := by decide +kernel
theorem dX0_twinsIn_24 : decode cX0_twinsIn 24 = .ok (.iload_n 3, 1) := by decide +kernel
theorem dX0_twinsIn_25 : decode cX0_twinsIn 25 = .ok (.aload_n 1, 1) := by decide +kernel
theorem dX0_twinsIn_26 : decode cX0_twinsIn 26 = .ok (.invokevirtual 99, 3) := by decide +kernel
theorem dX0_twinsIn_29 : decode cX0_twinsIn 29 = .ok (.iastore, 1) := by decide +kernel
theorem dX0_twinsIn_30 : decode cX0_twinsIn 30 = .ok (.aload_n 0, 1) := by decide +kernel
theorem dX0_twinsIn_31 : decode cX0_twinsIn 31 = .ok (.getfield 41, 3) := by decide +kernel
theorem dX0_twinsIn_34 : decode cX0_twinsIn 34 = .ok (.iload_n 3, 1) := by decide +kernel
theorem dX0_twinsIn_35 : decode cX0_twinsIn 35 = .ok (.iaload, 1) := by decide +kernel
theorem dX0_twinsIn_36 : decode cX0_twinsIn 36 = .ok (.iconst (-1), 1) := by decide +kernel
theorem dX0_twinsIn_37 : decode cX0_twinsIn 37 = .ok (.if_icmp .eq 6, 3) := by decide +kernel
theorem dX0_twinsIn_40 : decode cX0_twinsIn 40 = .ok (.iinc 2 1, 3) := by decide +kernel
theorem dX0_twinsIn_43 : decode cX0_twinsIn 43 = .ok (.iinc 3 1, 3) := by decide +kernel
theorem dX0_twinsIn_46 : decode cX0_twinsIn 46 = .ok (.goto (-42), 3) := by decide +kernel
theorem dX0_twinsIn_49 : decode cX0_twinsIn 49 = .ok (.iload_n 2, 1) := by decide +kernel
theorem dX0_twinsIn_50 : decode cX0_twinsIn 50 = .ok (.ireturn, 1) := by decide +kernel
theorem dX0_twinOf_0 : decode cX0_twinOf 0 = .ok (.iload_n 1, 1) := by decide +kernel
theorem dX0_twinOf_1 : decode cX0_twinOf 1 = .ok (.aload_n 0, 1) := by decide +kernel
theorem dX0_twinOf_2 : decode cX0_twinOf 2 = .ok (.getfield 28, 3) := by decide +kernel
theorem dX0_twinOf_5 : decode cX0_twinOf 5 = .ok (.if_icmp .ge 26, 3) := by decide +kernel
theorem dX0_twinOf_8 : decode cX0_twinOf 8 = .ok (.iload_n 1, 1) := by decide +kernel
theorem dX0_twinOf_9 : decode cX0_twinOf 9 = .ok (.bipush 64, 2) := by decide +kernel
theorem dX0_twinOf_11 : decode cX0_twinOf 11 = .ok (.if_icmp .ge 20, 3) := by decide +kernel
theorem dX0_twinOf_14 : decode cX0_twinOf 14 = .ok (.aload_n 2, 1) := by decide +kernel
theorem dX0_twinOf_15 : decode cX0_twinOf 15 = .ok (.aload_n 0, 1) := by decide +kernel
theorem dX0_twinOf_16 : decode cX0_twinOf 16 = .ok (.getfield 9, 3) := by decide +kernel
theorem dX0_twinOf_19 : decode cX0_twinOf 19 = .ok (.iload_n 1, 1) := by decide +kernel
theorem dX0_twinOf_20 : decode cX0_twinOf 20 = .ok (.laload, 1) := by decide +kernel
theorem dX0_twinOf_21 : decode cX0_twinOf 21 = .ok (.aload_n 0, 1) := by decide +kernel
theorem dX0_twinOf_22 : decode cX0_twinOf 22 = .ok (.getfield 15, 3) := by decide +kernel
theorem dX0_twinOf_25 : decode cX0_twinOf 25 = .ok (.iload_n 1, 1) := by decide +kernel
theorem dX0_twinOf_26 : decode cX0_twinOf 26 = .ok (.laload, 1) := by decide +kernel
theorem dX0_twinOf_27 : decode cX0_twinOf 27 = .ok (.invokevirtual 74, 3) := by decide +kernel
theorem dX0_twinOf_30 : decode cX0_twinOf 30 = .ok (.ireturn, 1) := by decide +kernel
theorem dX0_twinOf_31 : decode cX0_twinOf 31 = .ok (.aload_n 2, 1) := by decide +kernel
theorem dX0_twinOf_32 : decode cX0_twinOf 32 = .ok (.aload_n 0, 1) := by decide +kernel
theorem dX0_twinOf_33 : decode cX0_twinOf 33 = .ok (.iload_n 1, 1) := by decide +kernel
theorem dX0_twinOf_34 : decode cX0_twinOf 34 = .ok (.invokevirtual 103, 3) := by decide +kernel
theorem dX0_twinOf_37 : decode cX0_twinOf 37 = .ok (.aload_n 0, 1) := by decide +kernel
theorem dX0_twinOf_38 : decode cX0_twinOf 38 = .ok (.iload_n 1, 1) := by decide +kernel
theorem dX0_twinOf_39 : decode cX0_twinOf 39 = .ok (.iconst 0, 1) := by decide +kernel
theorem dX0_twinOf_40 : decode cX0_twinOf 40 = .ok (.invokevirtual 106, 3) := by decide +kernel
theorem dX0_twinOf_43 : decode cX0_twinOf 43 = .ok (.aload_n 0, 1) := by decide +kernel
theorem dX0_twinOf_44 : decode cX0_twinOf 44 = .ok (.iload_n 1, 1) := by decide +kernel
theorem dX0_twinOf_45 : decode cX0_twinOf 45 = .ok (.iconst 1, 1) := by decide +kernel
theorem dX0_twinOf_46 : decode cX0_twinOf 46 = .ok (.invokevirtual 106, 3) := by decide +kernel
theorem dX0_twinOf_49 : decode cX0_twinOf 49 = .ok (.aload_n 0, 1) := by decide +kernel
theorem dX0_twinOf_50 : decode cX0_twinOf 50 = .ok (.iload_n 1, 1) := by decide +kernel
theorem dX0_twinOf_51 : decode cX0_twinOf 51 = .ok (.iconst 2, 1) := by decide +kernel
theorem dX0_twinOf_52 : decode cX0_twinOf 52 = .ok (.invokevirtual 106, 3) := by decide +kernel
theorem dX0_twinOf_55 : decode cX0_twinOf 55 = .ok (.aload_n 0, 1) := by decide +kernel
theorem dX0_twinOf_56 : decode cX0_twinOf 56 = .ok (.iload_n 1, 1) := by decide +kernel
theorem dX0_twinOf_57 : decode cX0_twinOf 57 = .ok (.iconst 3, 1) := by decide +kernel
theorem dX0_twinOf_58 : decode cX0_twinOf 58 = .ok (.invokevirtual 106, 3) := by decide +kernel
theorem dX0_twinOf_61 : decode cX0_twinOf 61 = .ok (.invokevirtual 81, 3) := by decide +kernel
theorem dX0_twinOf_64 : decode cX0_twinOf 64 = .ok (.ireturn, 1) := by decide +kernel
theorem dX0_twinOfChild_0 : decode cX0_twinOfChild 0 = .ok (.aload_n 0, 1) := by decide +kernel
theorem dX0_twinOfChild_1 : decode cX0_twinOfChild 1 = .ok (.iload_n 1, 1) := by decide +kernel
theorem dX0_twinOfChild_2 : decode cX0_twinOfChild 2 = .ok (.iload_n 2, 1) := by decide +kernel
theorem dX0_twinOfChild_3 : decode cX0_twinOfChild 3 = .ok (.invokevirtual 88, 3) := by decide +kernel
theorem dX0_twinOfChild_6 : decode cX0_twinOfChild 6 = .ok (.istore_n 3, 1) := by decide +kernel
theorem dX0_twinOfChild_7 : decode cX0_twinOfChild 7 = .ok (.iload_n 3, 1) := by decide +kernel
theorem dX0_twinOfChild_8 : decode cX0_twinOfChild 8 = .ok (.ifCond .lt 18, 3) := by decide +kernel
theorem dX0_twinOfChild_11 : decode cX0_twinOfChild 11 = .ok (.iload_n 3, 1) := by decide +kernel
theorem dX0_twinOfChild_12 : decode cX0_twinOfChild 12 = .ok (.bipush 85, 2) := by decide +kernel
theorem dX0_twinOfChild_14 : decode cX0_twinOfChild 14 = .ok (.if_icmp .ge 12, 3) := by decide +kernel
theorem dX0_twinOfChild_17 : decode cX0_twinOfChild 17 = .ok (.aload_n 0, 1) := by decide +kernel
theorem dX0_twinOfChild_18 : decode cX0_twinOfChild 18 = .ok (.getfield 41, 3) := by decide +kernel
theorem dX0_twinOfChild_21 : decode cX0_twinOfChild 21 = .ok (.iload_n 3, 1) := by decide +kernel
theorem dX0_twinOfChild_22 : decode cX0_twinOfChild 22 = .ok (.iaload, 1) := by decide +kernel
theorem dX0_twinOfChild_23 : decode cX0_twinOfChild 23 = .ok (.goto 4, 3) := by decide +kernel
theorem dX0_twinOfChild_26 : decode cX0_twinOfChild 26 = .ok (.iconst (-1), 1) := by decide +kernel
theorem dX0_twinOfChild_27 : decode cX0_twinOfChild 27 = .ok (.ireturn, 1) := by decide +kernel
theorem dX0_hasAction_0 : decode cX0_hasAction 0 = .ok (.iload_n 1, 1) := by decide +kernel
theorem dX0_hasAction_1 : decode cX0_hasAction 1 = .ok (.ifCond .lt 9, 3) := by decide +kernel
theorem dX0_hasAction_4 : decode cX0_hasAction 4 = .ok (.iload_n 1, 1) := by decide +kernel
theorem dX0_hasAction_5 : decode cX0_hasAction 5 = .ok (.bipush 64, 2) := by decide +kernel
theorem dX0_hasAction_7 : decode cX0_hasAction 7 = .ok (.if_icmp .lt 5, 3) := by decide +kernel
theorem dX0_hasAction_10 : decode cX0_hasAction 10 = .ok (.iconst 0, 1) := by decide +kernel
theorem dX0_hasAction_11 : decode cX0_hasAction 11 = .ok (.ireturn, 1) := by decide +kernel
theorem dX0_hasAction_12 : decode cX0_hasAction 12 = .ok (.iload_n 2, 1) := by decide +kernel
theorem dX0_hasAction_13 : decode cX0_hasAction 13 = .ok (.bipush 64, 2) := by decide +kernel
theorem dX0_hasAction_15 : decode cX0_hasAction 15 = .ok (.if_icmp .ge 16, 3) := by decide +kernel
theorem dX0_hasAction_18 : decode cX0_hasAction 18 = .ok (.aload_n 0, 1) := by decide +kernel
theorem dX0_hasAction_19 : decode cX0_hasAction 19 = .ok (.getfield 9, 3) := by decide +kernel
theorem dX0_hasAction_22 : decode cX0_hasAction 22 = .ok (.iload_n 1, 1) := by decide +kernel
theorem dX0_hasAction_23 : decode cX0_hasAction 23 = .ok (.laload, 1) := by decide +kernel
theorem dX0_hasAction_24 : decode cX0_hasAction 24 = .ok (.iload_n 2, 1) := by decide +kernel
theorem dX0_hasAction_25 : decode cX0_hasAction 25 = .ok (.invokestatic 109, 3) := by decide +kernel
theorem dX0_hasAction_28 : decode cX0_hasAction 28 = .ok (.goto 16, 3) := by decide +kernel
theorem dX0_hasAction_31 : decode cX0_hasAction 31 = .ok (.aload_n 0, 1) := by decide +kernel
theorem dX0_hasAction_32 : decode cX0_hasAction 32 = .ok (.getfield 15, 3) := by decide +kernel
theorem dX0_hasAction_35 : decode cX0_hasAction 35 = .ok (.iload_n 1, 1) := by decide +kernel
theorem dX0_hasAction_36 : decode cX0_hasAction 36 = .ok (.laload, 1) := by decide +kernel
theorem dX0_hasAction_37 : decode cX0_hasAction 37 = .ok (.iload_n 2, 1) := by decide +kernel
theorem dX0_hasAction_38 : decode cX0_hasAction 38 = .ok (.bipush 64, 2) := by decide +kernel
theorem dX0_hasAction_40 : decode cX0_hasAction 40 = .ok (.isub, 1) := by decide +kernel
theorem dX0_hasAction_41 : decode cX0_hasAction 41 = .ok (.invokestatic 109, 3) := by decide +kernel
theorem dX0_hasAction_44 : decode cX0_hasAction 44 = .ok (.ireturn, 1) := by decide +kernel
theorem dX0_actionTotal_0 : decode cX0_actionTotal 0 = .ok (.iload_n 1, 1) := by decide +kernel
theorem dX0_actionTotal_1 : decode cX0_actionTotal 1 = .ok (.ifCond .lt 9, 3) := by decide +kernel
theorem dX0_actionTotal_4 : decode cX0_actionTotal 4 = .ok (.iload_n 1, 1) := by decide +kernel
theorem dX0_actionTotal_5 : decode cX0_actionTotal 5 = .ok (.bipush 64, 2) := by decide +kernel
theorem dX0_actionTotal_7 : decode cX0_actionTotal 7 = .ok (.if_icmp .lt 5, 3) := by decide +kernel
theorem dX0_actionTotal_10 : decode cX0_actionTotal 10 = .ok (.iconst 0, 1) := by decide +kernel
theorem dX0_actionTotal_11 : decode cX0_actionTotal 11 = .ok (.ireturn, 1) := by decide +kernel
theorem dX0_actionTotal_12 : decode cX0_actionTotal 12 = .ok (.aload_n 0, 1) := by decide +kernel
theorem dX0_actionTotal_13 : decode cX0_actionTotal 13 = .ok (.getfield 9, 3) := by decide +kernel
theorem dX0_actionTotal_16 : decode cX0_actionTotal 16 = .ok (.iload_n 1, 1) := by decide +kernel
theorem dX0_actionTotal_17 : decode cX0_actionTotal 17 = .ok (.laload, 1) := by decide +kernel
theorem dX0_actionTotal_18 : decode cX0_actionTotal 18 = .ok (.invokestatic 62, 3) := by decide +kernel
theorem dX0_actionTotal_21 : decode cX0_actionTotal 21 = .ok (.aload_n 0, 1) := by decide +kernel
theorem dX0_actionTotal_22 : decode cX0_actionTotal 22 = .ok (.getfield 15, 3) := by decide +kernel
theorem dX0_actionTotal_25 : decode cX0_actionTotal 25 = .ok (.iload_n 1, 1) := by decide +kernel
theorem dX0_actionTotal_26 : decode cX0_actionTotal 26 = .ok (.laload, 1) := by decide +kernel
theorem dX0_actionTotal_27 : decode cX0_actionTotal 27 = .ok (.invokestatic 62, 3) := by decide +kernel
theorem dX0_actionTotal_30 : decode cX0_actionTotal 30 = .ok (.iadd, 1) := by decide +kernel
theorem dX0_actionTotal_31 : decode cX0_actionTotal 31 = .ok (.ireturn, 1) := by decide +kernel
theorem dX0_actionAt_0 : decode cX0_actionAt 0 = .ok (.iconst 0, 1) := by decide +kernel
theorem dX0_actionAt_1 : decode cX0_actionAt 1 = .ok (.istore_n 3, 1) := by decide +kernel
theorem dX0_actionAt_2 : decode cX0_actionAt 2 = .ok (.iconst 0, 1) := by decide +kernel
theorem dX0_actionAt_3 : decode cX0_actionAt 3 = .ok (.istore 4, 2) := by decide +kernel
theorem dX0_actionAt_5 : decode cX0_actionAt 5 = .ok (.iload 4, 2) := by decide +kernel
theorem dX0_actionAt_7 : decode cX0_actionAt 7 = .ok (.bipush 125, 2) := by decide +kernel
theorem dX0_actionAt_9 : decode cX0_actionAt 9 = .ok (.if_icmp .ge 30, 3) := by decide +kernel
theorem dX0_actionAt_12 : decode cX0_actionAt 12 = .ok (.aload_n 0, 1) := by decide +kernel
theorem dX0_actionAt_13 : decode cX0_actionAt 13 = .ok (.iload_n 1, 1) := by decide +kernel
theorem dX0_actionAt_14 : decode cX0_actionAt 14 = .ok (.iload 4, 2) := by decide +kernel
theorem dX0_actionAt_16 : decode cX0_actionAt 16 = .ok (.invokevirtual 113, 3) := by decide +kernel
theorem dX0_actionAt_19 : decode cX0_actionAt 19 = .ok (.ifCond .eq 14, 3) := by decide +kernel
theorem dX0_actionAt_22 : decode cX0_actionAt 22 = .ok (.iload_n 3, 1) := by decide +kernel
theorem dX0_actionAt_23 : decode cX0_actionAt 23 = .ok (.iload_n 2, 1) := by decide +kernel
theorem dX0_actionAt_24 : decode cX0_actionAt 24 = .ok (.if_icmp .ne 6, 3) := by decide +kernel
theorem dX0_actionAt_27 : decode cX0_actionAt 27 = .ok (.iload 4, 2) := by decide +kernel
theorem dX0_actionAt_29 : decode cX0_actionAt 29 = .ok (.ireturn, 1) := by decide +kernel
theorem dX0_actionAt_30 : decode cX0_actionAt 30 = .ok (.iinc 3 1, 3) := by decide +kernel
theorem dX0_actionAt_33 : decode cX0_actionAt 33 = .ok (.iinc 4 1, 3) := by decide +kernel
theorem dX0_actionAt_36 : decode cX0_actionAt 36 = .ok (.goto (-31), 3) := by decide +kernel
theorem dX0_actionAt_39 : decode cX0_actionAt 39 = .ok (.iconst (-1), 1) := by decide +kernel
theorem dX0_actionAt_40 : decode cX0_actionAt 40 = .ok (.ireturn, 1) := by decide +kernel
theorem dX1_init_0 : decode cX1_init 0 = .ok (.aload_n 0, 1) := by decide +kernel
theorem dX1_init_1 : decode cX1_init 1 = .ok (.invokespecial 3, 3) := by decide +kernel
theorem dX1_init_4 : decode cX1_init 4 = .ok (.aload_n 0, 1) := by decide +kernel
theorem dX1_init_5 : decode cX1_init 5 = .ok (.sipush 3840, 3) := by decide +kernel
theorem dX1_init_8 : decode cX1_init 8 = .ok (.newarray .long, 2) := by decide +kernel
theorem dX1_init_10 : decode cX1_init 10 = .ok (.putfield 9, 3) := by decide +kernel
theorem dX1_init_13 : decode cX1_init 13 = .ok (.return_, 1) := by decide +kernel
theorem dX1_evaluate_0 : decode cX1_evaluate 0 = .ok (.aload_n 1, 1) := by decide +kernel
theorem dX1_evaluate_1 : decode cX1_evaluate 1 = .ok (.invokevirtual 15, 3) := by decide +kernel
theorem dX1_evaluate_4 : decode cX1_evaluate 4 = .ok (.istore_n 3, 1) := by decide +kernel
theorem dX1_evaluate_5 : decode cX1_evaluate 5 = .ok (.iconst 0, 1) := by decide +kernel
theorem dX1_evaluate_6 : decode cX1_evaluate 6 = .ok (.istore 4, 2) := by decide +kernel
theorem dX1_evaluate_8 : decode cX1_evaluate 8 = .ok (.iload 4, 2) := by decide +kernel
theorem dX1_evaluate_10 : decode cX1_evaluate 10 = .ok (.iload_n 3, 1) := by decide +kernel
theorem dX1_evaluate_11 : decode cX1_evaluate 11 = .ok (.if_icmp .ge 23, 3) := by decide +kernel
theorem dX1_evaluate_14 : decode cX1_evaluate 14 = .ok (.iload 4, 2) := by decide +kernel
theorem dX1_evaluate_16 : decode cX1_evaluate 16 = .ok (.bipush 60, 2) := by decide +kernel
theorem dX1_evaluate_18 : decode cX1_evaluate 18 = .ok (.if_icmp .ge 16, 3) := by decide +kernel
theorem dX1_evaluate_21 : decode cX1_evaluate 21 = .ok (.aload_n 0, 1) := by decide +kernel
theorem dX1_evaluate_22 : decode cX1_evaluate 22 = .ok (.aload_n 1, 1) := by decide +kernel
theorem dX1_evaluate_23 : decode cX1_evaluate 23 = .ok (.iload 4, 2) := by decide +kernel
theorem dX1_evaluate_25 : decode cX1_evaluate 25 = .ok (.invokevirtual 21, 3) := by decide +kernel
theorem dX1_evaluate_28 : decode cX1_evaluate 28 = .ok (.iinc 4 1, 3) := by decide +kernel
theorem dX1_evaluate_31 : decode cX1_evaluate 31 = .ok (.goto (-23), 3) := by decide +kernel
theorem dX1_evaluate_34 : decode cX1_evaluate 34 = .ok (.iconst 0, 1) := by decide +kernel
theorem dX1_evaluate_35 : decode cX1_evaluate 35 = .ok (.istore 4, 2) := by decide +kernel
theorem dX1_evaluate_37 : decode cX1_evaluate 37 = .ok (.iload 4, 2) := by decide +kernel
theorem dX1_evaluate_39 : decode cX1_evaluate 39 = .ok (.bipush 64, 2) := by decide +kernel
theorem dX1_evaluate_41 : decode cX1_evaluate 41 = .ok (.if_icmp .ge 24, 3) := by decide +kernel
theorem dX1_evaluate_44 : decode cX1_evaluate 44 = .ok (.aload_n 2, 1) := by decide +kernel
theorem dX1_evaluate_45 : decode cX1_evaluate 45 = .ok (.iload 4, 2) := by decide +kernel
theorem dX1_evaluate_47 : decode cX1_evaluate 47 = .ok (.aload_n 0, 1) := by decide +kernel
theorem dX1_evaluate_48 : decode cX1_evaluate 48 = .ok (.iload_n 3, 1) := by decide +kernel
theorem dX1_evaluate_49 : decode cX1_evaluate 49 = .ok (.iconst 1, 1) := by decide +kernel
theorem dX1_evaluate_50 : decode cX1_evaluate 50 = .ok (.isub, 1) := by decide +kernel
theorem dX1_evaluate_51 : decode cX1_evaluate 51 = .ok (.iload 4, 2) := by decide +kernel
theorem dX1_evaluate_53 : decode cX1_evaluate 53 = .ok (.invokevirtual 25, 3) := by decide +kernel
theorem dX1_evaluate_56 : decode cX1_evaluate 56 = .ok (.invokevirtual 29, 3) := by decide +kernel
theorem dX1_evaluate_59 : decode cX1_evaluate 59 = .ok (.iinc 4 1, 3) := by decide +kernel
theorem dX1_evaluate_62 : decode cX1_evaluate 62 = .ok (.goto (-25), 3) := by decide +kernel
theorem dX1_evaluate_65 : decode cX1_evaluate 65 = .ok (.return_, 1) := by decide +kernel
theorem dX1_evaluateNode_0 : decode cX1_evaluateNode 0 = .ok (.aload_n 1, 1) := by decide +kernel
theorem dX1_evaluateNode_1 : decode cX1_evaluateNode 1 = .ok (.iload_n 2, 1) := by decide +kernel
theorem dX1_evaluateNode_2 : decode cX1_evaluateNode 2 = .ok (.iconst 0, 1) := by decide +kernel
theorem dX1_evaluateNode_3 : decode cX1_evaluateNode 3 = .ok (.invokevirtual 35, 3) := by decide +kernel
theorem dX1_evaluateNode_6 : decode cX1_evaluateNode 6 = .ok (.istore_n 3, 1) := by decide +kernel
theorem dX1_evaluateNode_7 : decode cX1_evaluateNode 7 = .ok (.aload_n 1, 1) := by decide +kernel
theorem dX1_evaluateNode_8 : decode cX1_evaluateNode 8 = .ok (.iload_n 2, 1) := by decide +kernel
theorem dX1_evaluateNode_9 : decode cX1_evaluateNode 9 = .ok (.invokevirtual 39, 3) := by decide +kernel
theorem dX1_evaluateNode_12 : decode cX1_evaluateNode 12 = .ok (.tableswitch 105 4 8 #[36, 51, 66, 75, 84], 36) := by decide +kernel
theorem dX1_evaluateNode_48 : decode cX1_evaluateNode 48 = .ok (.aload_n 0, 1) := by decide +kernel
theorem dX1_evaluateNode_49 : decode cX1_evaluateNode 49 = .ok (.iload_n 2, 1) := by decide +kernel
theorem dX1_evaluateNode_50 : decode cX1_evaluateNode 50 = .ok (.aload_n 1, 1) := by decide +kernel
theorem dX1_evaluateNode_51 : decode cX1_evaluateNode 51 = .ok (.iload_n 2, 1) := by decide +kernel
theorem dX1_evaluateNode_52 : decode cX1_evaluateNode 52 = .ok (.iconst 1, 1) := by decide +kernel
theorem dX1_evaluateNode_53 : decode cX1_evaluateNode 53 = .ok (.invokevirtual 35, 3) := by decide +kernel
theorem dX1_evaluateNode_56 : decode cX1_evaluateNode 56 = .ok (.iload_n 3, 1) := by decide +kernel
theorem dX1_evaluateNode_57 : decode cX1_evaluateNode 57 = .ok (.invokevirtual 43, 3) := by decide +kernel
theorem dX1_evaluateNode_60 : decode cX1_evaluateNode 60 = .ok (.goto 63, 3) := by decide +kernel
theorem dX1_evaluateNode_63 : decode cX1_evaluateNode 63 = .ok (.aload_n 0, 1) := by decide +kernel
theorem dX1_evaluateNode_64 : decode cX1_evaluateNode 64 = .ok (.iload_n 2, 1) := by decide +kernel
theorem dX1_evaluateNode_65 : decode cX1_evaluateNode 65 = .ok (.aload_n 1, 1) := by decide +kernel
theorem dX1_evaluateNode_66 : decode cX1_evaluateNode 66 = .ok (.iload_n 2, 1) := by decide +kernel
theorem dX1_evaluateNode_67 : decode cX1_evaluateNode 67 = .ok (.iconst 1, 1) := by decide +kernel
theorem dX1_evaluateNode_68 : decode cX1_evaluateNode 68 = .ok (.invokevirtual 35, 3) := by decide +kernel
theorem dX1_evaluateNode_71 : decode cX1_evaluateNode 71 = .ok (.iload_n 3, 1) := by decide +kernel
theorem dX1_evaluateNode_72 : decode cX1_evaluateNode 72 = .ok (.invokevirtual 47, 3) := by decide +kernel
theorem dX1_evaluateNode_75 : decode cX1_evaluateNode 75 = .ok (.goto 48, 3) := by decide +kernel
theorem dX1_evaluateNode_78 : decode cX1_evaluateNode 78 = .ok (.aload_n 0, 1) := by decide +kernel
theorem dX1_evaluateNode_79 : decode cX1_evaluateNode 79 = .ok (.iload_n 2, 1) := by decide +kernel
theorem dX1_evaluateNode_80 : decode cX1_evaluateNode 80 = .ok (.iload_n 3, 1) := by decide +kernel
theorem dX1_evaluateNode_81 : decode cX1_evaluateNode 81 = .ok (.invokevirtual 50, 3) := by decide +kernel
theorem dX1_evaluateNode_84 : decode cX1_evaluateNode 84 = .ok (.goto 39, 3) := by decide +kernel
theorem dX1_evaluateNode_87 : decode cX1_evaluateNode 87 = .ok (.aload_n 0, 1) := by decide +kernel
theorem dX1_evaluateNode_88 : decode cX1_evaluateNode 88 = .ok (.iload_n 2, 1) := by decide +kernel
theorem dX1_evaluateNode_89 : decode cX1_evaluateNode 89 = .ok (.iload_n 3, 1) := by decide +kernel
theorem dX1_evaluateNode_90 : decode cX1_evaluateNode 90 = .ok (.invokevirtual 54, 3) := by decide +kernel
theorem dX1_evaluateNode_93 : decode cX1_evaluateNode 93 = .ok (.goto 30, 3) := by decide +kernel
theorem dX1_evaluateNode_96 : decode cX1_evaluateNode 96 = .ok (.aload_n 0, 1) := by decide +kernel
theorem dX1_evaluateNode_97 : decode cX1_evaluateNode 97 = .ok (.iload_n 2, 1) := by decide +kernel
theorem dX1_evaluateNode_98 : decode cX1_evaluateNode 98 = .ok (.aload_n 1, 1) := by decide +kernel
theorem dX1_evaluateNode_99 : decode cX1_evaluateNode 99 = .ok (.iload_n 2, 1) := by decide +kernel
theorem dX1_evaluateNode_100 : decode cX1_evaluateNode 100 = .ok (.iconst 2, 1) := by decide +kernel
theorem dX1_evaluateNode_101 : decode cX1_evaluateNode 101 = .ok (.invokevirtual 35, 3) := by decide +kernel
theorem dX1_evaluateNode_104 : decode cX1_evaluateNode 104 = .ok (.aload_n 1, 1) := by decide +kernel
theorem dX1_evaluateNode_105 : decode cX1_evaluateNode 105 = .ok (.iload_n 2, 1) := by decide +kernel
theorem dX1_evaluateNode_106 : decode cX1_evaluateNode 106 = .ok (.iconst 1, 1) := by decide +kernel
theorem dX1_evaluateNode_107 : decode cX1_evaluateNode 107 = .ok (.invokevirtual 35, 3) := by decide +kernel
theorem dX1_evaluateNode_110 : decode cX1_evaluateNode 110 = .ok (.iload_n 3, 1) := by decide +kernel
theorem dX1_evaluateNode_111 : decode cX1_evaluateNode 111 = .ok (.invokevirtual 57, 3) := by decide +kernel
theorem dX1_evaluateNode_114 : decode cX1_evaluateNode 114 = .ok (.goto 9, 3) := by decide +kernel
theorem dX1_evaluateNode_117 : decode cX1_evaluateNode 117 = .ok (.aload_n 0, 1) := by decide +kernel
theorem dX1_evaluateNode_118 : decode cX1_evaluateNode 118 = .ok (.aload_n 1, 1) := by decide +kernel
theorem dX1_evaluateNode_119 : decode cX1_evaluateNode 119 = .ok (.iload_n 2, 1) := by decide +kernel
theorem dX1_evaluateNode_120 : decode cX1_evaluateNode 120 = .ok (.invokevirtual 61, 3) := by decide +kernel
theorem dX1_evaluateNode_123 : decode cX1_evaluateNode 123 = .ok (.return_, 1) := by decide +kernel
theorem dX1_evaluateLeaf_0 : decode cX1_evaluateLeaf 0 = .ok (.aload_n 1, 1) := by decide +kernel
theorem dX1_evaluateLeaf_1 : decode cX1_evaluateLeaf 1 = .ok (.iload_n 2, 1) := by decide +kernel
theorem dX1_evaluateLeaf_2 : decode cX1_evaluateLeaf 2 = .ok (.invokevirtual 39, 3) := by decide +kernel
theorem dX1_evaluateLeaf_5 : decode cX1_evaluateLeaf 5 = .ok (.istore_n 3, 1) := by decide +kernel
theorem dX1_evaluateLeaf_6 : decode cX1_evaluateLeaf 6 = .ok (.aload_n 1, 1) := by decide +kernel
theorem dX1_evaluateLeaf_7 : decode cX1_evaluateLeaf 7 = .ok (.iload_n 2, 1) := by decide +kernel
theorem dX1_evaluateLeaf_8 : decode cX1_evaluateLeaf 8 = .ok (.invokevirtual 64, 3) := by decide +kernel
theorem dX1_evaluateLeaf_11 : decode cX1_evaluateLeaf 11 = .ok (.istore 4, 2) := by decide +kernel
theorem dX1_evaluateLeaf_13 : decode cX1_evaluateLeaf 13 = .ok (.aload_n 1, 1) := by decide +kernel
theorem dX1_evaluateLeaf_14 : decode cX1_evaluateLeaf 14 = .ok (.iload_n 2, 1) := by decide +kernel
theorem dX1_evaluateLeaf_15 : decode cX1_evaluateLeaf 15 = .ok (.invokevirtual 67, 3) := by decide +kernel
theorem dX1_evaluateLeaf_18 : decode cX1_evaluateLeaf 18 = .ok (.istore 5, 2) := by decide +kernel
theorem dX1_evaluateLeaf_20 : decode cX1_evaluateLeaf 20 = .ok (.iconst 0, 1) := by decide +kernel
theorem dX1_evaluateLeaf_21 : decode cX1_evaluateLeaf 21 = .ok (.istore 6, 2) := by decide +kernel
theorem dX1_evaluateLeaf_23 : decode cX1_evaluateLeaf 23 = .ok (.iload 6, 2) := by decide +kernel
theorem dX1_evaluateLeaf_25 : decode cX1_evaluateLeaf 25 = .ok (.bipush 64, 2) := by decide +kernel
theorem dX1_evaluateLeaf_27 : decode cX1_evaluateLeaf 27 = .ok (.if_icmp .ge 85, 3) := by decide +kernel
theorem dX1_evaluateLeaf_30 : decode cX1_evaluateLeaf 30 = .ok (.iload_n 3, 1) := by decide +kernel
theorem dX1_evaluateLeaf_31 : decode cX1_evaluateLeaf 31 = .ok (.iconst 1, 1) := by decide +kernel
theorem dX1_evaluateLeaf_32 : decode cX1_evaluateLeaf 32 = .ok (.if_icmp .eq 20, 3) := by decide +kernel
theorem dX1_evaluateLeaf_35 : decode cX1_evaluateLeaf 35 = .ok (.iload_n 3, 1) := by decide +kernel
theorem dX1_evaluateLeaf_36 : decode cX1_evaluateLeaf 36 = .ok (.iconst 2, 1) := by decide +kernel
theorem dX1_evaluateLeaf_37 : decode cX1_evaluateLeaf 37 = .ok (.if_icmp .ne 19, 3) := by decide +kernel
theorem dX1_evaluateLeaf_40 : decode cX1_evaluateLeaf 40 = .ok (.iload 6, 2) := by decide +kernel
theorem dX1_evaluateLeaf_42 : decode cX1_evaluateLeaf 42 = .ok (.iload 4, 2) := by decide +kernel
theorem dX1_evaluateLeaf_44 : decode cX1_evaluateLeaf 44 = .ok (.invokestatic 70, 3) := by decide +kernel
theorem dX1_evaluateLeaf_47 : decode cX1_evaluateLeaf 47 = .ok (.iload 5, 2) := by decide +kernel
theorem dX1_evaluateLeaf_49 : decode cX1_evaluateLeaf 49 = .ok (.if_icmp .ne 7, 3) := by decide +kernel
theorem dX1_evaluateLeaf_52 : decode cX1_evaluateLeaf 52 = .ok (.iconst 1, 1) := by decide +kernel
theorem dX1_evaluateLeaf_53 : decode cX1_evaluateLeaf 53 = .ok (.goto 4, 3) := by decide +kernel
theorem dX1_evaluateLeaf_56 : decode cX1_evaluateLeaf 56 = .ok (.iconst 0, 1) := by decide +kernel
theorem dX1_evaluateLeaf_57 : decode cX1_evaluateLeaf 57 = .ok (.istore 7, 2) := by decide +kernel
theorem dX1_evaluateLeaf_59 : decode cX1_evaluateLeaf 59 = .ok (.iload_n 3, 1) := by decide +kernel
theorem dX1_evaluateLeaf_60 : decode cX1_evaluateLeaf 60 = .ok (.iconst 3, 1) := by decide +kernel
theorem dX1_evaluateLeaf_61 : decode cX1_evaluateLeaf 61 = .ok (.if_icmp .ne 15, 3) := by decide +kernel
theorem dX1_evaluateLeaf_64 : decode cX1_evaluateLeaf 64 = .ok (.iload 6, 2) := by decide +kernel
theorem dX1_evaluateLeaf_66 : decode cX1_evaluateLeaf 66 = .ok (.iload 4, 2) := by decide +kernel
theorem dX1_evaluateLeaf_68 : decode cX1_evaluateLeaf 68 = .ok (.iload 5, 2) := by decide +kernel
theorem dX1_evaluateLeaf_70 : decode cX1_evaluateLeaf 70 = .ok (.invokestatic 73, 3) := by decide +kernel
theorem dX1_evaluateLeaf_73 : decode cX1_evaluateLeaf 73 = .ok (.goto 5, 3) := by decide +kernel
theorem dX1_evaluateLeaf_76 : decode cX1_evaluateLeaf 76 = .ok (.iload 6, 2) := by decide +kernel
theorem dX1_evaluateLeaf_78 : decode cX1_evaluateLeaf 78 = .ok (.istore 8, 2) := by decide +kernel
theorem dX1_evaluateLeaf_80 : decode cX1_evaluateLeaf 80 = .ok (.aload_n 0, 1) := by decide +kernel
theorem dX1_evaluateLeaf_81 : decode cX1_evaluateLeaf 81 = .ok (.iload_n 2, 1) := by decide +kernel
theorem dX1_evaluateLeaf_82 : decode cX1_evaluateLeaf 82 = .ok (.iload 6, 2) := by decide +kernel
theorem dX1_evaluateLeaf_84 : decode cX1_evaluateLeaf 84 = .ok (.iload 7, 2) := by decide +kernel
theorem dX1_evaluateLeaf_86 : decode cX1_evaluateLeaf 86 = .ok (.ifCond .ne 8, 3) := by decide +kernel
theorem dX1_evaluateLeaf_89 : decode cX1_evaluateLeaf 89 = .ok (.iload_n 3, 1) := by decide +kernel
theorem dX1_evaluateLeaf_90 : decode cX1_evaluateLeaf 90 = .ok (.iconst 3, 1) := by decide +kernel
theorem dX1_evaluateLeaf_91 : decode cX1_evaluateLeaf 91 = .ok (.if_icmp .ne 11, 3) := by decide +kernel
theorem dX1_evaluateLeaf_94 : decode cX1_evaluateLeaf 94 = .ok (.iload 8, 2) := by decide +kernel
theorem dX1_evaluateLeaf_96 : decode cX1_evaluateLeaf 96 = .ok (.invokestatic 77, 3) := by decide +kernel
theorem dX1_evaluateLeaf_99 : decode cX1_evaluateLeaf 99 = .ok (.goto 4, 3) := by decide +kernel
theorem dX1_evaluateLeaf_102 : decode cX1_evaluateLeaf 102 = .ok (.lconst 0, 1) := by decide +kernel
theorem dX1_evaluateLeaf_103 : decode cX1_evaluateLeaf 103 = .ok (.invokevirtual 81, 3) := by decide +kernel
theorem dX1_evaluateLeaf_106 : decode cX1_evaluateLeaf 106 = .ok (.iinc 6 1, 3) := by decide +kernel
theorem dX1_evaluateLeaf_109 : decode cX1_evaluateLeaf 109 = .ok (.goto (-86), 3) := by decide +kernel
theorem dX1_evaluateLeaf_112 : decode cX1_evaluateLeaf 112 = .ok (.return_, 1) := by decide +kernel
theorem dX1_unite_0 : decode cX1_unite 0 = .ok (.iconst 0, 1) := by decide +kernel
theorem dX1_unite_1 : decode cX1_unite 1 = .ok (.istore 4, 2) := by decide +kernel
theorem dX1_unite_3 : decode cX1_unite 3 = .ok (.iload 4, 2) := by decide +kernel
theorem dX1_unite_5 : decode cX1_unite 5 = .ok (.bipush 64, 2) := by decide +kernel
theorem dX1_unite_7 : decode cX1_unite 7 = .ok (.if_icmp .ge 31, 3) := by decide +kernel
theorem dX1_unite_10 : decode cX1_unite 10 = .ok (.aload_n 0, 1) := by decide +kernel
theorem dX1_unite_11 : decode cX1_unite 11 = .ok (.iload_n 1, 1) := by decide +kernel
theorem dX1_unite_12 : decode cX1_unite 12 = .ok (.iload 4, 2) := by decide +kernel
theorem dX1_unite_14 : decode cX1_unite 14 = .ok (.aload_n 0, 1) := by decide +kernel
theorem dX1_unite_15 : decode cX1_unite 15 = .ok (.iload_n 2, 1) := by decide +kernel
theorem dX1_unite_16 : decode cX1_unite 16 = .ok (.iload 4, 2) := by decide +kernel
theorem dX1_unite_18 : decode cX1_unite 18 = .ok (.invokevirtual 25, 3) := by decide +kernel
theorem dX1_unite_21 : decode cX1_unite 21 = .ok (.aload_n 0, 1) := by decide +kernel
theorem dX1_unite_22 : decode cX1_unite 22 = .ok (.iload_n 3, 1) := by decide +kernel
theorem dX1_unite_23 : decode cX1_unite 23 = .ok (.iload 4, 2) := by decide +kernel
theorem dX1_unite_25 : decode cX1_unite 25 = .ok (.invokevirtual 25, 3) := by decide +kernel
theorem dX1_unite_28 : decode cX1_unite 28 = .ok (.lor, 1) := by decide +kernel
theorem dX1_unite_29 : decode cX1_unite 29 = .ok (.invokevirtual 81, 3) := by decide +kernel
theorem dX1_unite_32 : decode cX1_unite 32 = .ok (.iinc 4 1, 3) := by decide +kernel
theorem dX1_unite_35 : decode cX1_unite 35 = .ok (.goto (-32), 3) := by decide +kernel
theorem dX1_unite_38 : decode cX1_unite 38 = .ok (.return_, 1) := by decide +kernel
theorem dX1_chain_0 : decode cX1_chain 0 = .ok (.iconst 0, 1) := by decide +kernel
theorem dX1_chain_1 : decode cX1_chain 1 = .ok (.istore 4, 2) := by decide +kernel
theorem dX1_chain_3 : decode cX1_chain 3 = .ok (.iload 4, 2) := by decide +kernel
theorem dX1_chain_5 : decode cX1_chain 5 = .ok (.bipush 64, 2) := by decide +kernel
theorem dX1_chain_7 : decode cX1_chain 7 = .ok (.if_icmp .ge 34, 3) := by decide +kernel
theorem dX1_chain_10 : decode cX1_chain 10 = .ok (.aload_n 0, 1) := by decide +kernel
theorem dX1_chain_11 : decode cX1_chain 11 = .ok (.iload_n 1, 1) := by decide +kernel
theorem dX1_chain_12 : decode cX1_chain 12 = .ok (.iload 4, 2) := by decide +kernel
theorem dX1_chain_14 : decode cX1_chain 14 = .ok (.aload_n 0, 1) := by decide +kernel
theorem dX1_chain_15 : decode cX1_chain 15 = .ok (.getfield 9, 3) := by decide +kernel
theorem dX1_chain_18 : decode cX1_chain 18 = .ok (.iload_n 3, 1) := by decide +kernel
theorem dX1_chain_19 : decode cX1_chain 19 = .ok (.bipush 64, 2) := by decide +kernel
theorem dX1_chain_21 : decode cX1_chain 21 = .ok (.imul, 1) := by decide +kernel
theorem dX1_chain_22 : decode cX1_chain 22 = .ok (.aload_n 0, 1) := by decide +kernel
theorem dX1_chain_23 : decode cX1_chain 23 = .ok (.iload_n 2, 1) := by decide +kernel
theorem dX1_chain_24 : decode cX1_chain 24 = .ok (.iload 4, 2) := by decide +kernel
theorem dX1_chain_26 : decode cX1_chain 26 = .ok (.invokevirtual 25, 3) := by decide +kernel
theorem dX1_chain_29 : decode cX1_chain 29 = .ok (.invokestatic 84, 3) := by decide +kernel
theorem dX1_chain_32 : decode cX1_chain 32 = .ok (.invokevirtual 81, 3) := by decide +kernel
theorem dX1_chain_35 : decode cX1_chain 35 = .ok (.iinc 4 1, 3) := by decide +kernel
theorem dX1_chain_38 : decode cX1_chain 38 = .ok (.goto (-35), 3) := by decide +kernel
theorem dX1_chain_41 : decode cX1_chain 41 = .ok (.return_, 1) := by decide +kernel
theorem dX1_repeat_0 : decode cX1_repeat 0 = .ok (.iconst 0, 1) := by decide +kernel
theorem dX1_repeat_1 : decode cX1_repeat 1 = .ok (.istore_n 3, 1) := by decide +kernel
theorem dX1_repeat_2 : decode cX1_repeat 2 = .ok (.iload_n 3, 1) := by decide +kernel
theorem dX1_repeat_3 : decode cX1_repeat 3 = .ok (.bipush 64, 2) := by decide +kernel
theorem dX1_repeat_5 : decode cX1_repeat 5 = .ok (.if_icmp .ge 26, 3) := by decide +kernel
theorem dX1_repeat_8 : decode cX1_repeat 8 = .ok (.aload_n 0, 1) := by decide +kernel
theorem dX1_repeat_9 : decode cX1_repeat 9 = .ok (.iload_n 1, 1) := by decide +kernel
theorem dX1_repeat_10 : decode cX1_repeat 10 = .ok (.iload_n 3, 1) := by decide +kernel
theorem dX1_repeat_11 : decode cX1_repeat 11 = .ok (.aload_n 0, 1) := by decide +kernel
theorem dX1_repeat_12 : decode cX1_repeat 12 = .ok (.iload_n 2, 1) := by decide +kernel
theorem dX1_repeat_13 : decode cX1_repeat 13 = .ok (.iload_n 3, 1) := by decide +kernel
theorem dX1_repeat_14 : decode cX1_repeat 14 = .ok (.invokevirtual 25, 3) := by decide +kernel
theorem dX1_repeat_17 : decode cX1_repeat 17 = .ok (.iload_n 3, 1) := by decide +kernel
theorem dX1_repeat_18 : decode cX1_repeat 18 = .ok (.invokestatic 77, 3) := by decide +kernel
theorem dX1_repeat_21 : decode cX1_repeat 21 = .ok (.lor, 1) := by decide +kernel
theorem dX1_repeat_22 : decode cX1_repeat 22 = .ok (.invokevirtual 81, 3) := by decide +kernel
theorem dX1_repeat_25 : decode cX1_repeat 25 = .ok (.iinc 3 1, 3) := by decide +kernel
theorem dX1_repeat_28 : decode cX1_repeat 28 = .ok (.goto (-26), 3) := by decide +kernel
theorem dX1_repeat_31 : decode cX1_repeat 31 = .ok (.iconst 0, 1) := by decide +kernel
theorem dX1_repeat_32 : decode cX1_repeat 32 = .ok (.istore_n 3, 1) := by decide +kernel
theorem dX1_repeat_33 : decode cX1_repeat 33 = .ok (.iload_n 3, 1) := by decide +kernel
theorem dX1_repeat_34 : decode cX1_repeat 34 = .ok (.bipush 64, 2) := by decide +kernel
theorem dX1_repeat_36 : decode cX1_repeat 36 = .ok (.if_icmp .ge 63, 3) := by decide +kernel
theorem dX1_repeat_39 : decode cX1_repeat 39 = .ok (.aload_n 0, 1) := by decide +kernel
theorem dX1_repeat_40 : decode cX1_repeat 40 = .ok (.iload_n 1, 1) := by decide +kernel
theorem dX1_repeat_41 : decode cX1_repeat 41 = .ok (.iload_n 3, 1) := by decide +kernel
theorem dX1_repeat_42 : decode cX1_repeat 42 = .ok (.invokevirtual 25, 3) := by decide +kernel
theorem dX1_repeat_45 : decode cX1_repeat 45 = .ok (.lstore 4, 2) := by decide +kernel
theorem dX1_repeat_47 : decode cX1_repeat 47 = .ok (.iconst 0, 1) := by decide +kernel
theorem dX1_repeat_48 : decode cX1_repeat 48 = .ok (.istore 6, 2) := by decide +kernel
theorem dX1_repeat_50 : decode cX1_repeat 50 = .ok (.iload 6, 2) := by decide +kernel
theorem dX1_repeat_52 : decode cX1_repeat 52 = .ok (.bipush 64, 2) := by decide +kernel
theorem dX1_repeat_54 : decode cX1_repeat 54 = .ok (.if_icmp .ge 39, 3) := by decide +kernel
theorem dX1_repeat_57 : decode cX1_repeat 57 = .ok (.aload_n 0, 1) := by decide +kernel
theorem dX1_repeat_58 : decode cX1_repeat 58 = .ok (.iload_n 1, 1) := by decide +kernel
theorem dX1_repeat_59 : decode cX1_repeat 59 = .ok (.iload 6, 2) := by decide +kernel
theorem dX1_repeat_61 : decode cX1_repeat 61 = .ok (.invokevirtual 25, 3) := by decide +kernel
theorem dX1_repeat_64 : decode cX1_repeat 64 = .ok (.lstore 7, 2) := by decide +kernel
theorem dX1_repeat_66 : decode cX1_repeat 66 = .ok (.lload 7, 2) := by decide +kernel
theorem dX1_repeat_68 : decode cX1_repeat 68 = .ok (.iload_n 3, 1) := by decide +kernel
theorem dX1_repeat_69 : decode cX1_repeat 69 = .ok (.invokestatic 88, 3) := by decide +kernel
theorem dX1_repeat_72 : decode cX1_repeat 72 = .ok (.ifCond .eq 15, 3) := by decide +kernel
theorem dX1_repeat_75 : decode cX1_repeat 75 = .ok (.aload_n 0, 1) := by decide +kernel
theorem dX1_repeat_76 : decode cX1_repeat 76 = .ok (.iload_n 1, 1) := by decide +kernel
theorem dX1_repeat_77 : decode cX1_repeat 77 = .ok (.iload 6, 2) := by decide +kernel
theorem dX1_repeat_79 : decode cX1_repeat 79 = .ok (.lload 7, 2) := by decide +kernel
theorem dX1_repeat_81 : decode cX1_repeat 81 = .ok (.lload 4, 2) := by decide +kernel
theorem dX1_repeat_83 : decode cX1_repeat 83 = .ok (.lor, 1) := by decide +kernel
theorem dX1_repeat_84 : decode cX1_repeat 84 = .ok (.invokevirtual 81, 3) := by decide +kernel
theorem dX1_repeat_87 : decode cX1_repeat 87 = .ok (.iinc 6 1, 3) := by decide +kernel
theorem dX1_repeat_90 : decode cX1_repeat 90 = .ok (.goto (-40), 3) := by decide +kernel
theorem dX1_repeat_93 : decode cX1_repeat 93 = .ok (.iinc 3 1, 3) := by decide +kernel
theorem dX1_repeat_96 : decode cX1_repeat 96 = .ok (.goto (-63), 3) := by decide +kernel
theorem dX1_repeat_99 : decode cX1_repeat 99 = .ok (.return_, 1) := by decide +kernel
theorem dX1_negate_0 : decode cX1_negate 0 = .ok (.iconst 0, 1) := by decide +kernel
theorem dX1_negate_1 : decode cX1_negate 1 = .ok (.istore_n 3, 1) := by decide +kernel
theorem dX1_negate_2 : decode cX1_negate 2 = .ok (.iload_n 3, 1) := by decide +kernel
theorem dX1_negate_3 : decode cX1_negate 3 = .ok (.bipush 64, 2) := by decide +kernel
theorem dX1_negate_5 : decode cX1_negate 5 = .ok (.if_icmp .ge 34, 3) := by decide +kernel
theorem dX1_negate_8 : decode cX1_negate 8 = .ok (.aload_n 0, 1) := by decide +kernel
theorem dX1_negate_9 : decode cX1_negate 9 = .ok (.iload_n 1, 1) := by decide +kernel
theorem dX1_negate_10 : decode cX1_negate 10 = .ok (.iload_n 3, 1) := by decide +kernel
theorem dX1_negate_11 : decode cX1_negate 11 = .ok (.aload_n 0, 1) := by decide +kernel
theorem dX1_negate_12 : decode cX1_negate 12 = .ok (.iload_n 2, 1) := by decide +kernel
theorem dX1_negate_13 : decode cX1_negate 13 = .ok (.iload_n 3, 1) := by decide +kernel
theorem dX1_negate_14 : decode cX1_negate 14 = .ok (.invokevirtual 25, 3) := by decide +kernel
theorem dX1_negate_17 : decode cX1_negate 17 = .ok (.lconst 0, 1) := by decide +kernel
theorem dX1_negate_18 : decode cX1_negate 18 = .ok (.lcmp, 1) := by decide +kernel
theorem dX1_negate_19 : decode cX1_negate 19 = .ok (.ifCond .ne 10, 3) := by decide +kernel
theorem dX1_negate_22 : decode cX1_negate 22 = .ok (.iload_n 3, 1) := by decide +kernel
theorem dX1_negate_23 : decode cX1_negate 23 = .ok (.invokestatic 77, 3) := by decide +kernel
theorem dX1_negate_26 : decode cX1_negate 26 = .ok (.goto 4, 3) := by decide +kernel
theorem dX1_negate_29 : decode cX1_negate 29 = .ok (.lconst 0, 1) := by decide +kernel
theorem dX1_negate_30 : decode cX1_negate 30 = .ok (.invokevirtual 81, 3) := by decide +kernel
theorem dX1_negate_33 : decode cX1_negate 33 = .ok (.iinc 3 1, 3) := by decide +kernel
theorem dX1_negate_36 : decode cX1_negate 36 = .ok (.goto (-34), 3) := by decide +kernel
theorem dX1_negate_39 : decode cX1_negate 39 = .ok (.return_, 1) := by decide +kernel
theorem dX1_choose_0 : decode cX1_choose 0 = .ok (.iconst 0, 1) := by decide +kernel
theorem dX1_choose_1 : decode cX1_choose 1 = .ok (.istore 5, 2) := by decide +kernel
theorem dX1_choose_3 : decode cX1_choose 3 = .ok (.iload 5, 2) := by decide +kernel
theorem dX1_choose_5 : decode cX1_choose 5 = .ok (.bipush 64, 2) := by decide +kernel
theorem dX1_choose_7 : decode cX1_choose 7 = .ok (.if_icmp .ge 40, 3) := by decide +kernel
theorem dX1_choose_10 : decode cX1_choose 10 = .ok (.aload_n 0, 1) := by decide +kernel
theorem dX1_choose_11 : decode cX1_choose 11 = .ok (.iload_n 1, 1) := by decide +kernel
theorem dX1_choose_12 : decode cX1_choose 12 = .ok (.iload 5, 2) := by decide +kernel
theorem dX1_choose_14 : decode cX1_choose 14 = .ok (.aload_n 0, 1) := by decide +kernel
theorem dX1_choose_15 : decode cX1_choose 15 = .ok (.aload_n 0, 1) := by decide +kernel
theorem dX1_choose_16 : decode cX1_choose 16 = .ok (.iload_n 2, 1) := by decide +kernel
theorem dX1_choose_17 : decode cX1_choose 17 = .ok (.iload 5, 2) := by decide +kernel
theorem dX1_choose_19 : decode cX1_choose 19 = .ok (.invokevirtual 25, 3) := by decide +kernel
theorem dX1_choose_22 : decode cX1_choose 22 = .ok (.lconst 0, 1) := by decide +kernel
theorem dX1_choose_23 : decode cX1_choose 23 = .ok (.lcmp, 1) := by decide +kernel
theorem dX1_choose_24 : decode cX1_choose 24 = .ok (.ifCond .eq 7, 3) := by decide +kernel
theorem dX1_choose_27 : decode cX1_choose 27 = .ok (.iload_n 3, 1) := by decide +kernel
theorem dX1_choose_28 : decode cX1_choose 28 = .ok (.goto 5, 3) := by decide +kernel
theorem dX1_choose_31 : decode cX1_choose 31 = .ok (.iload 4, 2) := by decide +kernel
theorem dX1_choose_33 : decode cX1_choose 33 = .ok (.iload 5, 2) := by decide +kernel
theorem dX1_choose_35 : decode cX1_choose 35 = .ok (.invokevirtual 25, 3) := by decide +kernel
theorem dX1_choose_38 : decode cX1_choose 38 = .ok (.invokevirtual 81, 3) := by decide +kernel
theorem dX1_choose_41 : decode cX1_choose 41 = .ok (.iinc 5 1, 3) := by decide +kernel
theorem dX1_choose_44 : decode cX1_choose 44 = .ok (.goto (-41), 3) := by decide +kernel
theorem dX1_choose_47 : decode cX1_choose 47 = .ok (.return_, 1) := by decide +kernel
theorem dX1_imageOf_0 : decode cX1_imageOf 0 = .ok (.iload_n 1, 1) := by decide +kernel
theorem dX1_imageOf_1 : decode cX1_imageOf 1 = .ok (.bipush 64, 2) := by decide +kernel
theorem dX1_imageOf_3 : decode cX1_imageOf 3 = .ok (.imul, 1) := by decide +kernel
theorem dX1_imageOf_4 : decode cX1_imageOf 4 = .ok (.iload_n 2, 1) := by decide +kernel
theorem dX1_imageOf_5 : decode cX1_imageOf 5 = .ok (.iadd, 1) := by decide +kernel
theorem dX1_imageOf_6 : decode cX1_imageOf 6 = .ok (.istore_n 3, 1) := by decide +kernel
theorem dX1_imageOf_7 : decode cX1_imageOf 7 = .ok (.iload_n 3, 1) := by decide +kernel
theorem dX1_imageOf_8 : decode cX1_imageOf 8 = .ok (.ifCond .lt 21, 3) := by decide +kernel
theorem dX1_imageOf_11 : decode cX1_imageOf 11 = .ok (.iload_n 3, 1) := by decide +kernel
theorem dX1_imageOf_12 : decode cX1_imageOf 12 = .ok (.aload_n 0, 1) := by decide +kernel
theorem dX1_imageOf_13 : decode cX1_imageOf 13 = .ok (.getfield 9, 3) := by decide +kernel
theorem dX1_imageOf_16 : decode cX1_imageOf 16 = .ok (.arraylength, 1) := by decide +kernel
theorem dX1_imageOf_17 : decode cX1_imageOf 17 = .ok (.if_icmp .ge 12, 3) := by decide +kernel
theorem dX1_imageOf_20 : decode cX1_imageOf 20 = .ok (.aload_n 0, 1) := by decide +kernel
theorem dX1_imageOf_21 : decode cX1_imageOf 21 = .ok (.getfield 9, 3) := by decide +kernel
theorem dX1_imageOf_24 : decode cX1_imageOf 24 = .ok (.iload_n 3, 1) := by decide +kernel
theorem dX1_imageOf_25 : decode cX1_imageOf 25 = .ok (.laload, 1) := by decide +kernel
theorem dX1_imageOf_26 : decode cX1_imageOf 26 = .ok (.goto 4, 3) := by decide +kernel
theorem dX1_imageOf_29 : decode cX1_imageOf 29 = .ok (.lconst 0, 1) := by decide +kernel
theorem dX1_imageOf_30 : decode cX1_imageOf 30 = .ok (.lreturn, 1) := by decide +kernel
theorem dX1_assign_0 : decode cX1_assign 0 = .ok (.iload_n 1, 1) := by decide +kernel
theorem dX1_assign_1 : decode cX1_assign 1 = .ok (.bipush 64, 2) := by decide +kernel
theorem dX1_assign_3 : decode cX1_assign 3 = .ok (.imul, 1) := by decide +kernel
theorem dX1_assign_4 : decode cX1_assign 4 = .ok (.iload_n 2, 1) := by decide +kernel
theorem dX1_assign_5 : decode cX1_assign 5 = .ok (.iadd, 1) := by decide +kernel
theorem dX1_assign_6 : decode cX1_assign 6 = .ok (.istore 5, 2) := by decide +kernel
theorem dX1_assign_8 : decode cX1_assign 8 = .ok (.iload 5, 2) := by decide +kernel
theorem dX1_assign_10 : decode cX1_assign 10 = .ok (.ifCond .lt 21, 3) := by decide +kernel
theorem dX1_assign_13 : decode cX1_assign 13 = .ok (.iload 5, 2) := by decide +kernel
theorem dX1_assign_15 : decode cX1_assign 15 = .ok (.aload_n 0, 1) := by decide +kernel
theorem dX1_assign_16 : decode cX1_assign 16 = .ok (.getfield 9, 3) := by decide +kernel
theorem dX1_assign_19 : decode cX1_assign 19 = .ok (.arraylength, 1) := by decide +kernel
theorem dX1_assign_20 : decode cX1_assign 20 = .ok (.if_icmp .ge 11, 3) := by decide +kernel
theorem dX1_assign_23 : decode cX1_assign 23 = .ok (.aload_n 0, 1) := by decide +kernel
theorem dX1_assign_24 : decode cX1_assign 24 = .ok (.getfield 9, 3) := by decide +kernel
theorem dX1_assign_27 : decode cX1_assign 27 = .ok (.iload 5, 2) := by decide +kernel
theorem dX1_assign_29 : decode cX1_assign 29 = .ok (.lload_n 3, 1) := by decide +kernel
theorem dX1_assign_30 : decode cX1_assign 30 = .ok (.lastore, 1) := by decide +kernel
theorem dX1_assign_31 : decode cX1_assign 31 = .ok (.return_, 1) := by decide +kernel
theorem dX2_init_0 : decode cX2_init 0 = .ok (.aload_n 0, 1) := by decide +kernel
theorem dX2_init_1 : decode cX2_init 1 = .ok (.invokespecial 3, 3) := by decide +kernel
theorem dX2_init_4 : decode cX2_init 4 = .ok (.aload_n 0, 1) := by decide +kernel
theorem dX2_init_5 : decode cX2_init 5 = .ok (.iconst 5, 1) := by decide +kernel
theorem dX2_init_6 : decode cX2_init 6 = .ok (.newarray .int, 2) := by decide +kernel
theorem dX2_init_8 : decode cX2_init 8 = .ok (.putfield 9, 3) := by decide +kernel
theorem dX2_init_11 : decode cX2_init 11 = .ok (.aload_n 0, 1) := by decide +kernel
theorem dX2_init_12 : decode cX2_init 12 = .ok (.iconst 5, 1) := by decide +kernel
theorem dX2_init_13 : decode cX2_init 13 = .ok (.anewarray 15, 3) := by decide +kernel
theorem dX2_init_16 : decode cX2_init 16 = .ok (.putfield 17, 3) := by decide +kernel
theorem dX2_init_19 : decode cX2_init 19 = .ok (.aload_n 0, 1) := by decide +kernel
theorem dX2_init_20 : decode cX2_init 20 = .ok (.iconst 0, 1) := by decide +kernel
theorem dX2_init_21 : decode cX2_init 21 = .ok (.putfield 21, 3) := by decide +kernel
theorem dX2_init_24 : decode cX2_init 24 = .ok (.iconst 0, 1) := by decide +kernel
theorem dX2_init_25 : decode cX2_init 25 = .ok (.istore_n 1, 1) := by decide +kernel
theorem dX2_init_26 : decode cX2_init 26 = .ok (.iload_n 1, 1) := by decide +kernel
theorem dX2_init_27 : decode cX2_init 27 = .ok (.iconst 5, 1) := by decide +kernel
theorem dX2_init_28 : decode cX2_init 28 = .ok (.if_icmp .ge 22, 3) := by decide +kernel
theorem dX2_init_31 : decode cX2_init 31 = .ok (.aload_n 0, 1) := by decide +kernel
theorem dX2_init_32 : decode cX2_init 32 = .ok (.getfield 17, 3) := by decide +kernel
theorem dX2_init_35 : decode cX2_init 35 = .ok (.iload_n 1, 1) := by decide +kernel
theorem dX2_init_36 : decode cX2_init 36 = .ok (.new 15, 3) := by decide +kernel
theorem dX2_init_39 : decode cX2_init 39 = .ok (.dup, 1) := by decide +kernel
theorem dX2_init_40 : decode cX2_init 40 = .ok (.invokespecial 25, 3) := by decide +kernel
theorem dX2_init_43 : decode cX2_init 43 = .ok (.aastore, 1) := by decide +kernel
theorem dX2_init_44 : decode cX2_init 44 = .ok (.iinc 1 1, 3) := by decide +kernel
theorem dX2_init_47 : decode cX2_init 47 = .ok (.goto (-21), 3) := by decide +kernel
theorem dX2_init_50 : decode cX2_init 50 = .ok (.return_, 1) := by decide +kernel
theorem dX2_savedCount_0 : decode cX2_savedCount 0 = .ok (.aload_n 0, 1) := by decide +kernel
theorem dX2_savedCount_1 : decode cX2_savedCount 1 = .ok (.getfield 21, 3) := by decide +kernel
theorem dX2_savedCount_4 : decode cX2_savedCount 4 = .ok (.ireturn, 1) := by decide +kernel
theorem dX2_save_0 : decode cX2_save 0 = .ok (.aload_n 0, 1) := by decide +kernel
theorem dX2_save_1 : decode cX2_save 1 = .ok (.getfield 21, 3) := by decide +kernel
theorem dX2_save_4 : decode cX2_save 4 = .ok (.iconst 5, 1) := by decide +kernel
theorem dX2_save_5 : decode cX2_save 5 = .ok (.if_icmp .lt 7, 3) := by decide +kernel
theorem dX2_save_8 : decode cX2_save 8 = .ok (.aload_n 0, 1) := by decide +kernel
theorem dX2_save_9 : decode cX2_save 9 = .ok (.invokevirtual 26, 3) := by decide +kernel
theorem dX2_save_12 : decode cX2_save 12 = .ok (.aload_n 0, 1) := by decide +kernel
theorem dX2_save_13 : decode cX2_save 13 = .ok (.getfield 21, 3) := by decide +kernel
theorem dX2_save_16 : decode cX2_save 16 = .ok (.ifCond .lt 72, 3) := by decide +kernel
theorem dX2_save_19 : decode cX2_save 19 = .ok (.aload_n 0, 1) := by decide +kernel
theorem dX2_save_20 : decode cX2_save 20 = .ok (.getfield 21, 3) := by decide +kernel
theorem dX2_save_23 : decode cX2_save 23 = .ok (.iconst 5, 1) := by decide +kernel
theorem dX2_save_24 : decode cX2_save 24 = .ok (.if_icmp .ge 64, 3) := by decide +kernel
theorem dX2_save_27 : decode cX2_save 27 = .ok (.aload_n 0, 1) := by decide +kernel
theorem dX2_save_28 : decode cX2_save 28 = .ok (.getfield 9, 3) := by decide +kernel
theorem dX2_save_31 : decode cX2_save 31 = .ok (.aload_n 0, 1) := by decide +kernel
theorem dX2_save_32 : decode cX2_save 32 = .ok (.getfield 21, 3) := by decide +kernel
theorem dX2_save_35 : decode cX2_save 35 = .ok (.iload_n 1, 1) := by decide +kernel
theorem dX2_save_36 : decode cX2_save 36 = .ok (.iastore, 1) := by decide +kernel
theorem dX2_save_37 : decode cX2_save 37 = .ok (.aload_n 0, 1) := by decide +kernel
theorem dX2_save_38 : decode cX2_save 38 = .ok (.getfield 17, 3) := by decide +kernel
theorem dX2_save_41 : decode cX2_save 41 = .ok (.aload_n 0, 1) := by decide +kernel
theorem dX2_save_42 : decode cX2_save 42 = .ok (.getfield 21, 3) := by decide +kernel
theorem dX2_save_45 : decode cX2_save 45 = .ok (.aaload, 1) := by decide +kernel
theorem dX2_save_46 : decode cX2_save 46 = .ok (.invokevirtual 29, 3) := by decide +kernel
theorem dX2_save_49 : decode cX2_save 49 = .ok (.aload_n 0, 1) := by decide +kernel
theorem dX2_save_50 : decode cX2_save 50 = .ok (.getfield 17, 3) := by decide +kernel
theorem dX2_save_53 : decode cX2_save 53 = .ok (.aload_n 0, 1) := by decide +kernel
theorem dX2_save_54 : decode cX2_save 54 = .ok (.getfield 21, 3) := by decide +kernel
theorem dX2_save_57 : decode cX2_save 57 = .ok (.aaload, 1) := by decide +kernel
theorem dX2_save_58 : decode cX2_save 58 = .ok (.aload_n 2, 1) := by decide +kernel
theorem dX2_save_59 : decode cX2_save 59 = .ok (.invokevirtual 32, 3) := by decide +kernel
theorem dX2_save_62 : decode cX2_save 62 = .ok (.aload_n 0, 1) := by decide +kernel
theorem dX2_save_63 : decode cX2_save 63 = .ok (.getfield 17, 3) := by decide +kernel
theorem dX2_save_66 : decode cX2_save 66 = .ok (.aload_n 0, 1) := by decide +kernel
theorem dX2_save_67 : decode cX2_save 67 = .ok (.getfield 21, 3) := by decide +kernel
theorem dX2_save_70 : decode cX2_save 70 = .ok (.aaload, 1) := by decide +kernel
theorem dX2_save_71 : decode cX2_save 71 = .ok (.aload_n 2, 1) := by decide +kernel
theorem dX2_save_72 : decode cX2_save 72 = .ok (.invokevirtual 36, 3) := by decide +kernel
theorem dX2_save_75 : decode cX2_save 75 = .ok (.invokevirtual 40, 3) := by decide +kernel
theorem dX2_save_78 : decode cX2_save 78 = .ok (.aload_n 0, 1) := by decide +kernel
theorem dX2_save_79 : decode cX2_save 79 = .ok (.dup, 1) := by decide +kernel
theorem dX2_save_80 : decode cX2_save 80 = .ok (.getfield 21, 3) := by decide +kernel
theorem dX2_save_83 : decode cX2_save 83 = .ok (.iconst 1, 1) := by decide +kernel
theorem dX2_save_84 : decode cX2_save 84 = .ok (.iadd, 1) := by decide +kernel
theorem dX2_save_85 : decode cX2_save 85 = .ok (.putfield 21, 3) := by decide +kernel
theorem dX2_save_88 : decode cX2_save 88 = .ok (.return_, 1) := by decide +kernel
theorem dX2_dropOldest_0 : decode cX2_dropOldest 0 = .ok (.aload_n 0, 1) := by decide +kernel
theorem dX2_dropOldest_1 : decode cX2_dropOldest 1 = .ok (.getfield 17, 3) := by decide +kernel
theorem dX2_dropOldest_4 : decode cX2_dropOldest 4 = .ok (.iconst 0, 1) := by decide +kernel
theorem dX2_dropOldest_5 : decode cX2_dropOldest 5 = .ok (.aaload, 1) := by decide +kernel
theorem dX2_dropOldest_6 : decode cX2_dropOldest 6 = .ok (.astore_n 1, 1) := by decide +kernel
theorem dX2_dropOldest_7 : decode cX2_dropOldest 7 = .ok (.iconst 1, 1) := by decide +kernel
theorem dX2_dropOldest_8 : decode cX2_dropOldest 8 = .ok (.istore_n 2, 1) := by decide +kernel
theorem dX2_dropOldest_9 : decode cX2_dropOldest 9 = .ok (.iload_n 2, 1) := by decide +kernel
theorem dX2_dropOldest_10 : decode cX2_dropOldest 10 = .ok (.iconst 5, 1) := by decide +kernel
theorem dX2_dropOldest_11 : decode cX2_dropOldest 11 = .ok (.if_icmp .ge 37, 3) := by decide +kernel
theorem dX2_dropOldest_14 : decode cX2_dropOldest 14 = .ok (.aload_n 0, 1) := by decide +kernel
theorem dX2_dropOldest_15 : decode cX2_dropOldest 15 = .ok (.getfield 9, 3) := by decide +kernel
theorem dX2_dropOldest_18 : decode cX2_dropOldest 18 = .ok (.iload_n 2, 1) := by decide +kernel
theorem dX2_dropOldest_19 : decode cX2_dropOldest 19 = .ok (.iconst 1, 1) := by decide +kernel
theorem dX2_dropOldest_20 : decode cX2_dropOldest 20 = .ok (.isub, 1) := by decide +kernel
theorem dX2_dropOldest_21 : decode cX2_dropOldest 21 = .ok (.aload_n 0, 1) := by decide +kernel
theorem dX2_dropOldest_22 : decode cX2_dropOldest 22 = .ok (.getfield 9, 3) := by decide +kernel
theorem dX2_dropOldest_25 : decode cX2_dropOldest 25 = .ok (.iload_n 2, 1) := by decide +kernel
theorem dX2_dropOldest_26 : decode cX2_dropOldest 26 = .ok (.iaload, 1) := by decide +kernel
theorem dX2_dropOldest_27 : decode cX2_dropOldest 27 = .ok (.iastore, 1) := by decide +kernel
theorem dX2_dropOldest_28 : decode cX2_dropOldest 28 = .ok (.aload_n 0, 1) := by decide +kernel
theorem dX2_dropOldest_29 : decode cX2_dropOldest 29 = .ok (.getfield 17, 3) := by decide +kernel
theorem dX2_dropOldest_32 : decode cX2_dropOldest 32 = .ok (.iload_n 2, 1) := by decide +kernel
theorem dX2_dropOldest_33 : decode cX2_dropOldest 33 = .ok (.iconst 1, 1) := by decide +kernel
theorem dX2_dropOldest_34 : decode cX2_dropOldest 34 = .ok (.isub, 1) := by decide +kernel
theorem dX2_dropOldest_35 : decode cX2_dropOldest 35 = .ok (.aload_n 0, 1) := by decide +kernel
theorem dX2_dropOldest_36 : decode cX2_dropOldest 36 = .ok (.getfield 17, 3) := by decide +kernel
theorem dX2_dropOldest_39 : decode cX2_dropOldest 39 = .ok (.iload_n 2, 1) := by decide +kernel
theorem dX2_dropOldest_40 : decode cX2_dropOldest 40 = .ok (.aaload, 1) := by decide +kernel
theorem dX2_dropOldest_41 : decode cX2_dropOldest 41 = .ok (.aastore, 1) := by decide +kernel
theorem dX2_dropOldest_42 : decode cX2_dropOldest 42 = .ok (.iinc 2 1, 3) := by decide +kernel
theorem dX2_dropOldest_45 : decode cX2_dropOldest 45 = .ok (.goto (-36), 3) := by decide +kernel
theorem dX2_dropOldest_48 : decode cX2_dropOldest 48 = .ok (.aload_n 0, 1) := by decide +kernel
theorem dX2_dropOldest_49 : decode cX2_dropOldest 49 = .ok (.getfield 17, 3) := by decide +kernel
theorem dX2_dropOldest_52 : decode cX2_dropOldest 52 = .ok (.iconst 4, 1) := by decide +kernel
theorem dX2_dropOldest_53 : decode cX2_dropOldest 53 = .ok (.aload_n 1, 1) := by decide +kernel
theorem dX2_dropOldest_54 : decode cX2_dropOldest 54 = .ok (.aastore, 1) := by decide +kernel
theorem dX2_dropOldest_55 : decode cX2_dropOldest 55 = .ok (.aload_n 0, 1) := by decide +kernel
theorem dX2_dropOldest_56 : decode cX2_dropOldest 56 = .ok (.dup, 1) := by decide +kernel
theorem dX2_dropOldest_57 : decode cX2_dropOldest 57 = .ok (.getfield 21, 3) := by decide +kernel
theorem dX2_dropOldest_60 : decode cX2_dropOldest 60 = .ok (.iconst 1, 1) := by decide +kernel
theorem dX2_dropOldest_61 : decode cX2_dropOldest 61 = .ok (.isub, 1) := by decide +kernel
theorem dX2_dropOldest_62 : decode cX2_dropOldest 62 = .ok (.putfield 21, 3) := by decide +kernel
theorem dX2_dropOldest_65 : decode cX2_dropOldest 65 = .ok (.return_, 1) := by decide +kernel
theorem dX2_newestSlot_0 : decode cX2_newestSlot 0 = .ok (.aload_n 0, 1) := by decide +kernel
theorem dX2_newestSlot_1 : decode cX2_newestSlot 1 = .ok (.getfield 21, 3) := by decide +kernel
theorem dX2_newestSlot_4 : decode cX2_newestSlot 4 = .ok (.ifCond .le 25, 3) := by decide +kernel
theorem dX2_newestSlot_7 : decode cX2_newestSlot 7 = .ok (.aload_n 0, 1) := by decide +kernel
theorem dX2_newestSlot_8 : decode cX2_newestSlot 8 = .ok (.getfield 21, 3) := by decide +kernel
theorem dX2_newestSlot_11 : decode cX2_newestSlot 11 = .ok (.iconst 5, 1) := by decide +kernel
theorem dX2_newestSlot_12 : decode cX2_newestSlot 12 = .ok (.if_icmp .gt 17, 3) := by decide +kernel
theorem dX2_newestSlot_15 : decode cX2_newestSlot 15 = .ok (.aload_n 0, 1) := by decide +kernel
theorem dX2_newestSlot_16 : decode cX2_newestSlot 16 = .ok (.getfield 9, 3) := by decide +kernel
theorem dX2_newestSlot_19 : decode cX2_newestSlot 19 = .ok (.aload_n 0, 1) := by decide +kernel
theorem dX2_newestSlot_20 : decode cX2_newestSlot 20 = .ok (.getfield 21, 3) := by decide +kernel
theorem dX2_newestSlot_23 : decode cX2_newestSlot 23 = .ok (.iconst 1, 1) := by decide +kernel
theorem dX2_newestSlot_24 : decode cX2_newestSlot 24 = .ok (.isub, 1) := by decide +kernel
theorem dX2_newestSlot_25 : decode cX2_newestSlot 25 = .ok (.iaload, 1) := by decide +kernel
theorem dX2_newestSlot_26 : decode cX2_newestSlot 26 = .ok (.goto 4, 3) := by decide +kernel
theorem dX2_newestSlot_29 : decode cX2_newestSlot 29 = .ok (.iconst (-1), 1) := by decide +kernel
theorem dX2_newestSlot_30 : decode cX2_newestSlot 30 = .ok (.ireturn, 1) := by decide +kernel
theorem dX2_newestPolicy_0 : decode cX2_newestPolicy 0 = .ok (.aload_n 0, 1) := by decide +kernel
theorem dX2_newestPolicy_1 : decode cX2_newestPolicy 1 = .ok (.getfield 17, 3) := by decide +kernel
theorem dX2_newestPolicy_4 : decode cX2_newestPolicy 4 = .ok (.aload_n 0, 1) := by decide +kernel
theorem dX2_newestPolicy_5 : decode cX2_newestPolicy 5 = .ok (.getfield 21, 3) := by decide +kernel
theorem dX2_newestPolicy_8 : decode cX2_newestPolicy 8 = .ok (.ifCond .le 20, 3) := by decide +kernel
theorem dX2_newestPolicy_11 : decode cX2_newestPolicy 11 = .ok (.aload_n 0, 1) := by decide +kernel
theorem dX2_newestPolicy_12 : decode cX2_newestPolicy 12 = .ok (.getfield 21, 3) := by decide +kernel
theorem dX2_newestPolicy_15 : decode cX2_newestPolicy 15 = .ok (.iconst 5, 1) := by decide +kernel
theorem dX2_newestPolicy_16 : decode cX2_newestPolicy 16 = .ok (.if_icmp .gt 12, 3) := by decide +kernel
theorem dX2_newestPolicy_19 : decode cX2_newestPolicy 19 = .ok (.aload_n 0, 1) := by decide +kernel
theorem dX2_newestPolicy_20 : decode cX2_newestPolicy 20 = .ok (.getfield 21, 3) := by decide +kernel
theorem dX2_newestPolicy_23 : decode cX2_newestPolicy 23 = .ok (.iconst 1, 1) := by decide +kernel
theorem dX2_newestPolicy_24 : decode cX2_newestPolicy 24 = .ok (.isub, 1) := by decide +kernel
theorem dX2_newestPolicy_25 : decode cX2_newestPolicy 25 = .ok (.goto 4, 3) := by decide +kernel
theorem dX2_newestPolicy_28 : decode cX2_newestPolicy 28 = .ok (.iconst 0, 1) := by decide +kernel
theorem dX2_newestPolicy_29 : decode cX2_newestPolicy 29 = .ok (.aaload, 1) := by decide +kernel
theorem dX2_newestPolicy_30 : decode cX2_newestPolicy 30 = .ok (.areturn, 1) := by decide +kernel
theorem dX2_dropNewest_0 : decode cX2_dropNewest 0 = .ok (.aload_n 0, 1) := by decide +kernel
theorem dX2_dropNewest_1 : decode cX2_dropNewest 1 = .ok (.getfield 21, 3) := by decide +kernel
theorem dX2_dropNewest_4 : decode cX2_dropNewest 4 = .ok (.ifCond .le 13, 3) := by decide +kernel
theorem dX2_dropNewest_7 : decode cX2_dropNewest 7 = .ok (.aload_n 0, 1) := by decide +kernel
theorem dX2_dropNewest_8 : decode cX2_dropNewest 8 = .ok (.dup, 1) := by decide +kernel
theorem dX2_dropNewest_9 : decode cX2_dropNewest 9 = .ok (.getfield 21, 3) := by decide +kernel
theorem dX2_dropNewest_12 : decode cX2_dropNewest 12 = .ok (.iconst 1, 1) := by decide +kernel
theorem dX2_dropNewest_13 : decode cX2_dropNewest 13 = .ok (.isub, 1) := by decide +kernel
theorem dX2_dropNewest_14 : decode cX2_dropNewest 14 = .ok (.putfield 21, 3) := by decide +kernel
theorem dX2_dropNewest_17 : decode cX2_dropNewest 17 = .ok (.return_, 1) := by decide +kernel
theorem dX3_init_0 : decode cX3_init 0 = .ok (.aload_n 0, 1) := by decide +kernel
theorem dX3_init_1 : decode cX3_init 1 = .ok (.invokespecial 3, 3) := by decide +kernel
theorem dX3_init_4 : decode cX3_init 4 = .ok (.aload_n 0, 1) := by decide +kernel
theorem dX3_init_5 : decode cX3_init 5 = .ok (.sipush 150, 3) := by decide +kernel
theorem dX3_init_8 : decode cX3_init 8 = .ok (.newarray .int, 2) := by decide +kernel
theorem dX3_init_10 : decode cX3_init 10 = .ok (.putfield 9, 3) := by decide +kernel
theorem dX3_init_13 : decode cX3_init 13 = .ok (.aload_n 0, 1) := by decide +kernel
theorem dX3_init_14 : decode cX3_init 14 = .ok (.sipush 150, 3) := by decide +kernel
theorem dX3_init_17 : decode cX3_init 17 = .ok (.newarray .int, 2) := by decide +kernel
theorem dX3_init_19 : decode cX3_init 19 = .ok (.putfield 15, 3) := by decide +kernel
theorem dX3_init_22 : decode cX3_init 22 = .ok (.aload_n 0, 1) := by decide +kernel
theorem dX3_init_23 : decode cX3_init 23 = .ok (.iconst 0, 1) := by decide +kernel
theorem dX3_init_24 : decode cX3_init 24 = .ok (.putfield 18, 3) := by decide +kernel
theorem dX3_init_27 : decode cX3_init 27 = .ok (.aload_n 0, 1) := by decide +kernel
theorem dX3_init_28 : decode cX3_init 28 = .ok (.sipush 150, 3) := by decide +kernel
theorem dX3_init_31 : decode cX3_init 31 = .ok (.newarray .boolean, 2) := by decide +kernel
theorem dX3_init_33 : decode cX3_init 33 = .ok (.putfield 22, 3) := by decide +kernel
theorem dX3_init_36 : decode cX3_init 36 = .ok (.aload_n 0, 1) := by decide +kernel
theorem dX3_init_37 : decode cX3_init 37 = .ok (.iconst 0, 1) := by decide +kernel
theorem dX3_init_38 : decode cX3_init 38 = .ok (.putfield 26, 3) := by decide +kernel
theorem dX3_init_41 : decode cX3_init 41 = .ok (.aload_n 0, 1) := by decide +kernel
theorem dX3_init_42 : decode cX3_init 42 = .ok (.new 29, 3) := by decide +kernel
theorem dX3_init_45 : decode cX3_init 45 = .ok (.dup, 1) := by decide +kernel
theorem dX3_init_46 : decode cX3_init 46 = .ok (.invokespecial 31, 3) := by decide +kernel
theorem dX3_init_49 : decode cX3_init 49 = .ok (.putfield 32, 3) := by decide +kernel
theorem dX3_init_52 : decode cX3_init 52 = .ok (.aload_n 0, 1) := by decide +kernel
theorem dX3_init_53 : decode cX3_init 53 = .ok (.iconst 0, 1) := by decide +kernel
theorem dX3_init_54 : decode cX3_init 54 = .ok (.putfield 36, 3) := by decide +kernel
theorem dX3_init_57 : decode cX3_init 57 = .ok (.aload_n 0, 1) := by decide +kernel
theorem dX3_init_58 : decode cX3_init 58 = .ok (.iconst 0, 1) := by decide +kernel
theorem dX3_init_59 : decode cX3_init 59 = .ok (.putfield 39, 3) := by decide +kernel
theorem dX3_init_62 : decode cX3_init 62 = .ok (.aload_n 0, 1) := by decide +kernel
theorem dX3_init_63 : decode cX3_init 63 = .ok (.iconst 2, 1) := by decide +kernel
theorem dX3_init_64 : decode cX3_init 64 = .ok (.putfield 42, 3) := by decide +kernel
theorem dX3_init_67 : decode cX3_init 67 = .ok (.aload_n 0, 1) := by decide +kernel
theorem dX3_init_68 : decode cX3_init 68 = .ok (.iconst (-1), 1) := by decide +kernel
theorem dX3_init_69 : decode cX3_init 69 = .ok (.putfield 45, 3) := by decide +kernel
theorem dX3_init_72 : decode cX3_init 72 = .ok (.return_, 1) := by decide +kernel
theorem dX3_result_0 : decode cX3_result 0 = .ok (.aload_n 0, 1) := by decide +kernel
theorem dX3_result_1 : decode cX3_result 1 = .ok (.getfield 32, 3) := by decide +kernel
theorem dX3_result_4 : decode cX3_result 4 = .ok (.areturn, 1) := by decide +kernel
theorem dX3_read_0 : decode cX3_read 0 = .ok (.aload_n 0, 1) := by decide +kernel
theorem dX3_read_1 : decode cX3_read 1 = .ok (.getfield 32, 3) := by decide +kernel
theorem dX3_read_4 : decode cX3_read 4 = .ok (.invokevirtual 48, 3) := by decide +kernel
theorem dX3_read_7 : decode cX3_read 7 = .ok (.aload_n 0, 1) := by decide +kernel
theorem dX3_read_8 : decode cX3_read 8 = .ok (.iconst 0, 1) := by decide +kernel
theorem dX3_read_9 : decode cX3_read 9 = .ok (.putfield 18, 3) := by decide +kernel
theorem dX3_read_12 : decode cX3_read 12 = .ok (.aload_n 0, 1) := by decide +kernel
theorem dX3_read_13 : decode cX3_read 13 = .ok (.iconst 0, 1) := by decide +kernel
theorem dX3_read_14 : decode cX3_read 14 = .ok (.putfield 26, 3) := by decide +kernel
theorem dX3_read_17 : decode cX3_read 17 = .ok (.aload_n 0, 1) := by decide +kernel
theorem dX3_read_18 : decode cX3_read 18 = .ok (.iconst 0, 1) := by decide +kernel
theorem dX3_read_19 : decode cX3_read 19 = .ok (.putfield 36, 3) := by decide +kernel
theorem dX3_read_22 : decode cX3_read 22 = .ok (.aload_n 0, 1) := by decide +kernel
theorem dX3_read_23 : decode cX3_read 23 = .ok (.iconst (-1), 1) := by decide +kernel
theorem dX3_read_24 : decode cX3_read 24 = .ok (.putfield 45, 3) := by decide +kernel
theorem dX3_read_27 : decode cX3_read 27 = .ok (.iconst 0, 1) := by decide +kernel
theorem dX3_read_28 : decode cX3_read 28 = .ok (.istore 4, 2) := by decide +kernel
theorem dX3_read_30 : decode cX3_read 30 = .ok (.iload 4, 2) := by decide +kernel
theorem dX3_read_32 : decode cX3_read 32 = .ok (.iload_n 2, 1) := by decide +kernel
theorem dX3_read_33 : decode cX3_read 33 = .ok (.if_icmp .ge 103, 3) := by decide +kernel
theorem dX3_read_36 : decode cX3_read 36 = .ok (.iload 4, 2) := by decide +kernel
theorem dX3_read_38 : decode cX3_read 38 = .ok (.aload_n 1, 1) := by decide +kernel
theorem dX3_read_39 : decode cX3_read 39 = .ok (.arraylength, 1) := by decide +kernel
theorem dX3_read_40 : decode cX3_read 40 = .ok (.if_icmp .ge 96, 3) := by decide +kernel
theorem dX3_read_43 : decode cX3_read 43 = .ok (.aload_n 0, 1) := by decide +kernel
theorem dX3_read_44 : decode cX3_read 44 = .ok (.getfield 45, 3) := by decide +kernel
theorem dX3_read_47 : decode cX3_read 47 = .ok (.iconst (-1), 1) := by decide +kernel
theorem dX3_read_48 : decode cX3_read 48 = .ok (.if_icmp .ne 88, 3) := by decide +kernel
theorem dX3_read_51 : decode cX3_read 51 = .ok (.aload_n 0, 1) := by decide +kernel
theorem dX3_read_52 : decode cX3_read 52 = .ok (.getfield 36, 3) := by decide +kernel
theorem dX3_read_55 : decode cX3_read 55 = .ok (.tableswitch 65 0 2 #[25, 39, 52], 25) := by decide +kernel
theorem dX3_read_80 : decode cX3_read 80 = .ok (.aload_n 0, 1) := by decide +kernel
theorem dX3_read_81 : decode cX3_read 81 = .ok (.aload_n 1, 1) := by decide +kernel
theorem dX3_read_82 : decode cX3_read 82 = .ok (.iload 4, 2) := by decide +kernel
theorem dX3_read_84 : decode cX3_read 84 = .ok (.iaload, 1) := by decide +kernel
theorem dX3_read_85 : decode cX3_read 85 = .ok (.iload 4, 2) := by decide +kernel
theorem dX3_read_87 : decode cX3_read 87 = .ok (.aload_n 3, 1) := by decide +kernel
theorem dX3_read_88 : decode cX3_read 88 = .ok (.invokevirtual 51, 3) := by decide +kernel
theorem dX3_read_91 : decode cX3_read 91 = .ok (.goto 39, 3) := by decide +kernel
theorem dX3_read_94 : decode cX3_read 94 = .ok (.aload_n 0, 1) := by decide +kernel
theorem dX3_read_95 : decode cX3_read 95 = .ok (.aload_n 1, 1) := by decide +kernel
theorem dX3_read_96 : decode cX3_read 96 = .ok (.iload 4, 2) := by decide +kernel
theorem dX3_read_98 : decode cX3_read 98 = .ok (.iaload, 1) := by decide +kernel
theorem dX3_read_99 : decode cX3_read 99 = .ok (.iload 4, 2) := by decide +kernel
theorem dX3_read_101 : decode cX3_read 101 = .ok (.invokevirtual 55, 3) := by decide +kernel
theorem dX3_read_104 : decode cX3_read 104 = .ok (.goto 26, 3) := by decide +kernel
theorem dX3_read_107 : decode cX3_read 107 = .ok (.aload_n 0, 1) := by decide +kernel
theorem dX3_read_108 : decode cX3_read 108 = .ok (.aload_n 1, 1) := by decide +kernel
theorem dX3_read_109 : decode cX3_read 109 = .ok (.iload 4, 2) := by decide +kernel
theorem dX3_read_111 : decode cX3_read 111 = .ok (.iaload, 1) := by decide +kernel
theorem dX3_read_112 : decode cX3_read 112 = .ok (.iload 4, 2) := by decide +kernel
theorem dX3_read_114 : decode cX3_read 114 = .ok (.invokevirtual 59, 3) := by decide +kernel
theorem dX3_read_117 : decode cX3_read 117 = .ok (.goto 13, 3) := by decide +kernel
theorem dX3_read_120 : decode cX3_read 120 = .ok (.aload_n 0, 1) := by decide +kernel
theorem dX3_read_121 : decode cX3_read 121 = .ok (.aload_n 1, 1) := by decide +kernel
theorem dX3_read_122 : decode cX3_read 122 = .ok (.iload 4, 2) := by decide +kernel
theorem dX3_read_124 : decode cX3_read 124 = .ok (.iaload, 1) := by decide +kernel
theorem dX3_read_125 : decode cX3_read 125 = .ok (.iload 4, 2) := by decide +kernel
theorem dX3_read_127 : decode cX3_read 127 = .ok (.invokevirtual 62, 3) := by decide +kernel
theorem dX3_read_130 : decode cX3_read 130 = .ok (.iinc 4 1, 3) := by decide +kernel
theorem dX3_read_133 : decode cX3_read 133 = .ok (.goto (-103), 3) := by decide +kernel
theorem dX3_read_136 : decode cX3_read 136 = .ok (.aload_n 0, 1) := by decide +kernel
theorem dX3_read_137 : decode cX3_read 137 = .ok (.getfield 45, 3) := by decide +kernel
theorem dX3_read_140 : decode cX3_read 140 = .ok (.iconst (-1), 1) := by decide +kernel
theorem dX3_read_141 : decode cX3_read 141 = .ok (.if_icmp .ne 8, 3) := by decide +kernel
theorem dX3_read_144 : decode cX3_read 144 = .ok (.aload_n 0, 1) := by decide +kernel
theorem dX3_read_145 : decode cX3_read 145 = .ok (.iload_n 2, 1) := by decide +kernel
theorem dX3_read_146 : decode cX3_read 146 = .ok (.invokevirtual 65, 3) := by decide +kernel
theorem dX3_read_149 : decode cX3_read 149 = .ok (.aload_n 0, 1) := by decide +kernel
theorem dX3_read_150 : decode cX3_read 150 = .ok (.getfield 45, 3) := by decide +kernel
theorem dX3_read_153 : decode cX3_read 153 = .ok (.ireturn, 1) := by decide +kernel
theorem dX3_finish_0 : decode cX3_finish 0 = .ok (.aload_n 0, 1) := by decide +kernel
theorem dX3_finish_1 : decode cX3_finish 1 = .ok (.getfield 36, 3) := by decide +kernel
theorem dX3_finish_4 : decode cX3_finish 4 = .ok (.iconst 3, 1) := by decide +kernel
theorem dX3_finish_5 : decode cX3_finish 5 = .ok (.if_icmp .eq 9, 3) := by decide +kernel
theorem dX3_finish_8 : decode cX3_finish 8 = .ok (.aload_n 0, 1) := by decide +kernel
theorem dX3_finish_9 : decode cX3_finish 9 = .ok (.iload_n 1, 1) := by decide +kernel
theorem dX3_finish_10 : decode cX3_finish 10 = .ok (.putfield 45, 3) := by decide +kernel
theorem dX3_finish_13 : decode cX3_finish 13 = .ok (.return_, 1) := by decide +kernel
theorem dX3_finish_14 : decode cX3_finish 14 = .ok (.aload_n 0, 1) := by decide +kernel
theorem dX3_finish_15 : decode cX3_finish 15 = .ok (.invokevirtual 69, 3) := by decide +kernel
theorem dX3_finish_18 : decode cX3_finish 18 = .ok (.aload_n 0, 1) := by decide +kernel
theorem dX3_finish_19 : decode cX3_finish 19 = .ok (.invokevirtual 72, 3) := by decide +kernel
theorem dX3_finish_22 : decode cX3_finish 22 = .ok (.aload_n 0, 1) := by decide +kernel
theorem dX3_finish_23 : decode cX3_finish 23 = .ok (.getfield 45, 3) := by decide +kernel
theorem dX3_finish_26 : decode cX3_finish 26 = .ok (.iconst (-1), 1) := by decide +kernel
theorem dX3_finish_27 : decode cX3_finish 27 = .ok (.if_icmp .ne 15, 3) := by decide +kernel
theorem dX3_finish_30 : decode cX3_finish 30 = .ok (.aload_n 0, 1) := by decide +kernel
theorem dX3_finish_31 : decode cX3_finish 31 = .ok (.getfield 18, 3) := by decide +kernel
theorem dX3_finish_34 : decode cX3_finish 34 = .ok (.ifCond .le 8, 3) := by decide +kernel
theorem dX3_finish_37 : decode cX3_finish 37 = .ok (.aload_n 0, 1) := by decide +kernel
theorem dX3_finish_38 : decode cX3_finish 38 = .ok (.iload_n 1, 1) := by decide +kernel
theorem dX3_finish_39 : decode cX3_finish 39 = .ok (.putfield 45, 3) := by decide +kernel
theorem dX3_finish_42 : decode cX3_finish 42 = .ok (.aload_n 0, 1) := by decide +kernel
theorem dX3_finish_43 : decode cX3_finish 43 = .ok (.getfield 32, 3) := by decide +kernel
theorem dX3_finish_46 : decode cX3_finish 46 = .ok (.aload_n 0, 1) := by decide +kernel
theorem dX3_finish_47 : decode cX3_finish 47 = .ok (.invokevirtual 75, 3) := by decide +kernel
theorem dX3_finish_50 : decode cX3_finish 50 = .ok (.invokevirtual 79, 3) := by decide +kernel
theorem dX3_finish_53 : decode cX3_finish 53 = .ok (.return_, 1) := by decide +kernel
theorem dX3_takeFactor_0 : decode cX3_takeFactor 0 = .ok (.iload_n 1, 1) := by decide +kernel
theorem dX3_takeFactor_1 : decode cX3_takeFactor 1 = .ok (.bipush 33, 2) := by decide +kernel
theorem dX3_takeFactor_3 : decode cX3_takeFactor 3 = .ok (.if_icmp .ne 12, 3) := by decide +kernel
theorem dX3_takeFactor_6 : decode cX3_takeFactor 6 = .ok (.aload_n 0, 1) := by decide +kernel
theorem dX3_takeFactor_7 : decode cX3_takeFactor 7 = .ok (.iconst 3, 1) := by decide +kernel
theorem dX3_takeFactor_8 : decode cX3_takeFactor 8 = .ok (.iload_n 2, 1) := by decide +kernel
theorem dX3_takeFactor_9 : decode cX3_takeFactor 9 = .ok (.invokevirtual 83, 3) := by decide +kernel
theorem dX3_takeFactor_12 : decode cX3_takeFactor 12 = .ok (.goto 156, 3) := by decide +kernel
theorem dX3_takeFactor_15 : decode cX3_takeFactor 15 = .ok (.iload_n 1, 1) := by decide +kernel
theorem dX3_takeFactor_16 : decode cX3_takeFactor 16 = .ok (.bipush 40, 2) := by decide +kernel
theorem dX3_takeFactor_18 : decode cX3_takeFactor 18 = .ok (.if_icmp .ne 12, 3) := by decide +kernel
theorem dX3_takeFactor_21 : decode cX3_takeFactor 21 = .ok (.aload_n 0, 1) := by decide +kernel
theorem dX3_takeFactor_22 : decode cX3_takeFactor 22 = .ok (.iconst 4, 1) := by decide +kernel
theorem dX3_takeFactor_23 : decode cX3_takeFactor 23 = .ok (.iload_n 2, 1) := by decide +kernel
theorem dX3_takeFactor_24 : decode cX3_takeFactor 24 = .ok (.invokevirtual 83, 3) := by decide +kernel
theorem dX3_takeFactor_27 : decode cX3_takeFactor 27 = .ok (.goto 141, 3) := by decide +kernel
theorem dX3_takeFactor_30 : decode cX3_takeFactor 30 = .ok (.iload_n 1, 1) := by decide +kernel
theorem dX3_takeFactor_31 : decode cX3_takeFactor 31 = .ok (.bipush 91, 2) := by decide +kernel
theorem dX3_takeFactor_33 : decode cX3_takeFactor 33 = .ok (.if_icmp .ne 12, 3) := by decide +kernel
theorem dX3_takeFactor_36 : decode cX3_takeFactor 36 = .ok (.aload_n 0, 1) := by decide +kernel
theorem dX3_takeFactor_37 : decode cX3_takeFactor 37 = .ok (.iconst 5, 1) := by decide +kernel
theorem dX3_takeFactor_38 : decode cX3_takeFactor 38 = .ok (.iload_n 2, 1) := by decide +kernel
theorem dX3_takeFactor_39 : decode cX3_takeFactor 39 = .ok (.invokevirtual 83, 3) := by decide +kernel
theorem dX3_takeFactor_42 : decode cX3_takeFactor 42 = .ok (.goto 126, 3) := by decide +kernel
theorem dX3_takeFactor_45 : decode cX3_takeFactor 45 = .ok (.iload_n 1, 1) := by decide +kernel
theorem dX3_takeFactor_46 : decode cX3_takeFactor 46 = .ok (.bipush 48, 2) := by decide +kernel
theorem dX3_takeFactor_48 : decode cX3_takeFactor 48 = .ok (.if_icmp .eq 9, 3) := by decide +kernel
theorem dX3_takeFactor_51 : decode cX3_takeFactor 51 = .ok (.iload_n 1, 1) := by decide +kernel
theorem dX3_takeFactor_52 : decode cX3_takeFactor 52 = .ok (.bipush 49, 2) := by decide +kernel
theorem dX3_takeFactor_54 : decode cX3_takeFactor 54 = .ok (.if_icmp .ne 23, 3) := by decide +kernel
theorem dX3_takeFactor_57 : decode cX3_takeFactor 57 = .ok (.aload_n 0, 1) := by decide +kernel
theorem dX3_takeFactor_58 : decode cX3_takeFactor 58 = .ok (.iload_n 1, 1) := by decide +kernel
theorem dX3_takeFactor_59 : decode cX3_takeFactor 59 = .ok (.bipush 48, 2) := by decide +kernel
theorem dX3_takeFactor_61 : decode cX3_takeFactor 61 = .ok (.if_icmp .ne 7, 3) := by decide +kernel
theorem dX3_takeFactor_64 : decode cX3_takeFactor 64 = .ok (.iconst 0, 1) := by decide +kernel
theorem dX3_takeFactor_65 : decode cX3_takeFactor 65 = .ok (.goto 4, 3) := by decide +kernel
theorem dX3_takeFactor_68 : decode cX3_takeFactor 68 = .ok (.iconst 1, 1) := by decide +kernel
theorem dX3_takeFactor_69 : decode cX3_takeFactor 69 = .ok (.iconst 0, 1) := by decide +kernel
theorem dX3_takeFactor_70 : decode cX3_takeFactor 70 = .ok (.iconst 0, 1) := by decide +kernel
theorem dX3_takeFactor_71 : decode cX3_takeFactor 71 = .ok (.invokevirtual 86, 3) := by decide +kernel
theorem dX3_takeFactor_74 : decode cX3_takeFactor 74 = .ok (.goto 94, 3) := by decide +kernel
theorem dX3_takeFactor_77 : decode cX3_takeFactor 77 = .ok (.iload_n 1, 1) := by decide +kernel
theorem dX3_takeFactor_78 : decode cX3_takeFactor 78 = .ok (.bipush 120, 2) := by decide +kernel
theorem dX3_takeFactor_80 : decode cX3_takeFactor 80 = .ok (.if_icmp .lt 25, 3) := by decide +kernel
theorem dX3_takeFactor_83 : decode cX3_takeFactor 83 = .ok (.iload_n 1, 1) := by decide +kernel
theorem dX3_takeFactor_84 : decode cX3_takeFactor 84 = .ok (.bipush 122, 2) := by decide +kernel
theorem dX3_takeFactor_86 : decode cX3_takeFactor 86 = .ok (.if_icmp .gt 19, 3) := by decide +kernel
theorem dX3_takeFactor_89 : decode cX3_takeFactor 89 = .ok (.aload_n 0, 1) := by decide +kernel
theorem dX3_takeFactor_90 : decode cX3_takeFactor 90 = .ok (.iload_n 1, 1) := by decide +kernel
theorem dX3_takeFactor_91 : decode cX3_takeFactor 91 = .ok (.bipush 120, 2) := by decide +kernel
theorem dX3_takeFactor_93 : decode cX3_takeFactor 93 = .ok (.isub, 1) := by decide +kernel
theorem dX3_takeFactor_94 : decode cX3_takeFactor 94 = .ok (.putfield 39, 3) := by decide +kernel
theorem dX3_takeFactor_97 : decode cX3_takeFactor 97 = .ok (.aload_n 0, 1) := by decide +kernel
theorem dX3_takeFactor_98 : decode cX3_takeFactor 98 = .ok (.iconst 1, 1) := by decide +kernel
theorem dX3_takeFactor_99 : decode cX3_takeFactor 99 = .ok (.putfield 36, 3) := by decide +kernel
theorem dX3_takeFactor_102 : decode cX3_takeFactor 102 = .ok (.goto 66, 3) := by decide +kernel
theorem dX3_takeFactor_105 : decode cX3_takeFactor 105 = .ok (.iload_n 1, 1) := by decide +kernel
theorem dX3_takeFactor_106 : decode cX3_takeFactor 106 = .ok (.bipush 112, 2) := by decide +kernel
theorem dX3_takeFactor_108 : decode cX3_takeFactor 108 = .ok (.if_icmp .lt 55, 3) := by decide +kernel
theorem dX3_takeFactor_111 : decode cX3_takeFactor 111 = .ok (.iload_n 1, 1) := by decide +kernel
theorem dX3_takeFactor_112 : decode cX3_takeFactor 112 = .ok (.bipush 115, 2) := by decide +kernel
theorem dX3_takeFactor_114 : decode cX3_takeFactor 114 = .ok (.if_icmp .gt 49, 3) := by decide +kernel
theorem dX3_takeFactor_117 : decode cX3_takeFactor 117 = .ok (.iload_n 1, 1) := by decide +kernel
theorem dX3_takeFactor_118 : decode cX3_takeFactor 118 = .ok (.bipush 112, 2) := by decide +kernel
theorem dX3_takeFactor_120 : decode cX3_takeFactor 120 = .ok (.isub, 1) := by decide +kernel
theorem dX3_takeFactor_121 : decode cX3_takeFactor 121 = .ok (.aload_n 3, 1) := by decide +kernel
theorem dX3_takeFactor_122 : decode cX3_takeFactor 122 = .ok (.arraylength, 1) := by decide +kernel
theorem dX3_takeFactor_123 : decode cX3_takeFactor 123 = .ok (.if_icmp .ge 40, 3) := by decide +kernel
theorem dX3_takeFactor_126 : decode cX3_takeFactor 126 = .ok (.aload_n 3, 1) := by decide +kernel
theorem dX3_takeFactor_127 : decode cX3_takeFactor 127 = .ok (.iload_n 1, 1) := by decide +kernel
theorem dX3_takeFactor_128 : decode cX3_takeFactor 128 = .ok (.bipush 112, 2) := by decide +kernel
theorem dX3_takeFactor_130 : decode cX3_takeFactor 130 = .ok (.isub, 1) := by decide +kernel
theorem dX3_takeFactor_131 : decode cX3_takeFactor 131 = .ok (.aaload, 1) := by decide +kernel
theorem dX3_takeFactor_132 : decode cX3_takeFactor 132 = .ok (.invokevirtual 90, 3) := by decide +kernel
theorem dX3_takeFactor_135 : decode cX3_takeFactor 135 = .ok (.astore 4, 2) := by decide +kernel
theorem dX3_takeFactor_137 : decode cX3_takeFactor 137 = .ok (.aload_n 0, 1) := by decide +kernel
theorem dX3_takeFactor_138 : decode cX3_takeFactor 138 = .ok (.getfield 32, 3) := by decide +kernel
theorem dX3_takeFactor_141 : decode cX3_takeFactor 141 = .ok (.aload 4, 2) := by decide +kernel
theorem dX3_takeFactor_143 : decode cX3_takeFactor 143 = .ok (.invokevirtual 96, 3) := by decide +kernel
theorem dX3_takeFactor_146 : decode cX3_takeFactor 146 = .ok (.aload_n 0, 1) := by decide +kernel
theorem dX3_takeFactor_147 : decode cX3_takeFactor 147 = .ok (.aload 4, 2) := by decide +kernel
theorem dX3_takeFactor_149 : decode cX3_takeFactor 149 = .ok (.invokevirtual 100, 3) := by decide +kernel
theorem dX3_takeFactor_152 : decode cX3_takeFactor 152 = .ok (.invokevirtual 103, 3) := by decide +kernel
theorem dX3_takeFactor_155 : decode cX3_takeFactor 155 = .ok (.aload_n 0, 1) := by decide +kernel
theorem dX3_takeFactor_156 : decode cX3_takeFactor 156 = .ok (.iconst 3, 1) := by decide +kernel
theorem dX3_takeFactor_157 : decode cX3_takeFactor 157 = .ok (.putfield 36, 3) := by decide +kernel
theorem dX3_takeFactor_160 : decode cX3_takeFactor 160 = .ok (.goto 8, 3) := by decide +kernel
theorem dX3_takeFactor_163 : decode cX3_takeFactor 163 = .ok (.aload_n 0, 1) := by decide +kernel
theorem dX3_takeFactor_164 : decode cX3_takeFactor 164 = .ok (.iload_n 2, 1) := by decide +kernel
theorem dX3_takeFactor_165 : decode cX3_takeFactor 165 = .ok (.putfield 45, 3) := by decide +kernel
theorem dX3_takeFactor_168 : decode cX3_takeFactor 168 = .ok (.return_, 1) := by decide +kernel
theorem dX3_takeSign_0 : decode cX3_takeSign 0 = .ok (.iload_n 1, 1) := by decide +kernel
theorem dX3_takeSign_1 : decode cX3_takeSign 1 = .ok (.bipush 61, 2) := by decide +kernel
theorem dX3_takeSign_3 : decode cX3_takeSign 3 = .ok (.if_icmp .eq 9, 3) := by decide +kernel
theorem dX3_takeSign_6 : decode cX3_takeSign 6 = .ok (.iload_n 1, 1) := by decide +kernel
theorem dX3_takeSign_7 : decode cX3_takeSign 7 = .ok (.bipush 58, 2) := by decide +kernel
theorem dX3_takeSign_9 : decode cX3_takeSign 9 = .ok (.if_icmp .ne 26, 3) := by decide +kernel
theorem dX3_takeSign_12 : decode cX3_takeSign 12 = .ok (.aload_n 0, 1) := by decide +kernel
theorem dX3_takeSign_13 : decode cX3_takeSign 13 = .ok (.iload_n 1, 1) := by decide +kernel
theorem dX3_takeSign_14 : decode cX3_takeSign 14 = .ok (.bipush 61, 2) := by decide +kernel
theorem dX3_takeSign_16 : decode cX3_takeSign 16 = .ok (.if_icmp .ne 7, 3) := by decide +kernel
theorem dX3_takeSign_19 : decode cX3_takeSign 19 = .ok (.iconst 2, 1) := by decide +kernel
theorem dX3_takeSign_20 : decode cX3_takeSign 20 = .ok (.goto 4, 3) := by decide +kernel
theorem dX3_takeSign_23 : decode cX3_takeSign 23 = .ok (.iconst 3, 1) := by decide +kernel
theorem dX3_takeSign_24 : decode cX3_takeSign 24 = .ok (.putfield 42, 3) := by decide +kernel
theorem dX3_takeSign_27 : decode cX3_takeSign 27 = .ok (.aload_n 0, 1) := by decide +kernel
theorem dX3_takeSign_28 : decode cX3_takeSign 28 = .ok (.iconst 2, 1) := by decide +kernel
theorem dX3_takeSign_29 : decode cX3_takeSign 29 = .ok (.putfield 36, 3) := by decide +kernel
theorem dX3_takeSign_32 : decode cX3_takeSign 32 = .ok (.goto 8, 3) := by decide +kernel
theorem dX3_takeSign_35 : decode cX3_takeSign 35 = .ok (.aload_n 0, 1) := by decide +kernel
theorem dX3_takeSign_36 : decode cX3_takeSign 36 = .ok (.iload_n 2, 1) := by decide +kernel
theorem dX3_takeSign_37 : decode cX3_takeSign 37 = .ok (.putfield 45, 3) := by decide +kernel
theorem dX3_takeSign_40 : decode cX3_takeSign 40 = .ok (.return_, 1) := by decide +kernel
theorem dX3_takeDigit_0 : decode cX3_takeDigit 0 = .ok (.iload_n 1, 1) := by decide +kernel
theorem dX3_takeDigit_1 : decode cX3_takeDigit 1 = .ok (.bipush 48, 2) := by decide +kernel
theorem dX3_takeDigit_3 : decode cX3_takeDigit 3 = .ok (.if_icmp .lt 28, 3) := by decide +kernel
theorem dX3_takeDigit_6 : decode cX3_takeDigit 6 = .ok (.iload_n 1, 1) := by decide +kernel
theorem dX3_takeDigit_7 : decode cX3_takeDigit 7 = .ok (.bipush 52, 2) := by decide +kernel
theorem dX3_takeDigit_9 : decode cX3_takeDigit 9 = .ok (.if_icmp .ge 22, 3) := by decide +kernel
theorem dX3_takeDigit_12 : decode cX3_takeDigit 12 = .ok (.aload_n 0, 1) := by decide +kernel
theorem dX3_takeDigit_13 : decode cX3_takeDigit 13 = .ok (.aload_n 0, 1) := by decide +kernel
theorem dX3_takeDigit_14 : decode cX3_takeDigit 14 = .ok (.getfield 42, 3) := by decide +kernel
theorem dX3_takeDigit_17 : decode cX3_takeDigit 17 = .ok (.aload_n 0, 1) := by decide +kernel
theorem dX3_takeDigit_18 : decode cX3_takeDigit 18 = .ok (.getfield 39, 3) := by decide +kernel
theorem dX3_takeDigit_21 : decode cX3_takeDigit 21 = .ok (.iload_n 1, 1) := by decide +kernel
theorem dX3_takeDigit_22 : decode cX3_takeDigit 22 = .ok (.bipush 48, 2) := by decide +kernel
theorem dX3_takeDigit_24 : decode cX3_takeDigit 24 = .ok (.isub, 1) := by decide +kernel
theorem dX3_takeDigit_25 : decode cX3_takeDigit 25 = .ok (.invokevirtual 86, 3) := by decide +kernel
theorem dX3_takeDigit_28 : decode cX3_takeDigit 28 = .ok (.goto 8, 3) := by decide +kernel
theorem dX3_takeDigit_31 : decode cX3_takeDigit 31 = .ok (.aload_n 0, 1) := by decide +kernel
theorem dX3_takeDigit_32 : decode cX3_takeDigit 32 = .ok (.iload_n 2, 1) := by decide +kernel
theorem dX3_takeDigit_33 : decode cX3_takeDigit 33 = .ok (.putfield 45, 3) := by decide +kernel
theorem dX3_takeDigit_36 : decode cX3_takeDigit 36 = .ok (.return_, 1) := by decide +kernel
theorem dX3_endLeaf_0 : decode cX3_endLeaf 0 = .ok (.aload_n 0, 1) := by decide +kernel
theorem dX3_endLeaf_1 : decode cX3_endLeaf 1 = .ok (.getfield 32, 3) := by decide +kernel
theorem dX3_endLeaf_4 : decode cX3_endLeaf 4 = .ok (.iload_n 1, 1) := by decide +kernel
theorem dX3_endLeaf_5 : decode cX3_endLeaf 5 = .ok (.iload_n 2, 1) := by decide +kernel
theorem dX3_endLeaf_6 : decode cX3_endLeaf 6 = .ok (.iload_n 3, 1) := by decide +kernel
theorem dX3_endLeaf_7 : decode cX3_endLeaf 7 = .ok (.invokevirtual 106, 3) := by decide +kernel
theorem dX3_endLeaf_10 : decode cX3_endLeaf 10 = .ok (.aload_n 0, 1) := by decide +kernel
theorem dX3_endLeaf_11 : decode cX3_endLeaf 11 = .ok (.iload_n 1, 1) := by decide +kernel
theorem dX3_endLeaf_12 : decode cX3_endLeaf 12 = .ok (.iconst 3, 1) := by decide +kernel
theorem dX3_endLeaf_13 : decode cX3_endLeaf 13 = .ok (.if_icmp .eq 7, 3) := by decide +kernel
theorem dX3_endLeaf_16 : decode cX3_endLeaf 16 = .ok (.iconst 1, 1) := by decide +kernel
theorem dX3_endLeaf_17 : decode cX3_endLeaf 17 = .ok (.goto 4, 3) := by decide +kernel
theorem dX3_endLeaf_20 : decode cX3_endLeaf 20 = .ok (.iconst 0, 1) := by decide +kernel
theorem dX3_endLeaf_21 : decode cX3_endLeaf 21 = .ok (.invokevirtual 103, 3) := by decide +kernel
theorem dX3_endLeaf_24 : decode cX3_endLeaf 24 = .ok (.aload_n 0, 1) := by decide +kernel
theorem dX3_endLeaf_25 : decode cX3_endLeaf 25 = .ok (.iconst 3, 1) := by decide +kernel
theorem dX3_endLeaf_26 : decode cX3_endLeaf 26 = .ok (.putfield 36, 3) := by decide +kernel
theorem dX3_endLeaf_29 : decode cX3_endLeaf 29 = .ok (.return_, 1) := by decide +kernel
theorem dX3_takeBehindAtom_0 : decode cX3_takeBehindAtom 0 = .ok (.iload_n 1, 1) := by decide +kernel
theorem dX3_takeBehindAtom_1 : decode cX3_takeBehindAtom 1 = .ok (.bipush 42, 2) := by decide +kernel
theorem dX3_takeBehindAtom_3 : decode cX3_takeBehindAtom 3 = .ok (.if_icmp .ne 25, 3) := by decide +kernel
theorem dX3_takeBehindAtom_6 : decode cX3_takeBehindAtom 6 = .ok (.aload_n 0, 1) := by decide +kernel
theorem dX3_takeBehindAtom_7 : decode cX3_takeBehindAtom 7 = .ok (.getfield 32, 3) := by decide +kernel
theorem dX3_takeBehindAtom_10 : decode cX3_takeBehindAtom 10 = .ok (.bipush 6, 2) := by decide +kernel
theorem dX3_takeBehindAtom_12 : decode cX3_takeBehindAtom 12 = .ok (.iconst 0, 1) := by decide +kernel
theorem dX3_takeBehindAtom_13 : decode cX3_takeBehindAtom 13 = .ok (.iconst 0, 1) := by decide +kernel
theorem dX3_takeBehindAtom_14 : decode cX3_takeBehindAtom 14 = .ok (.invokevirtual 106, 3) := by decide +kernel
theorem dX3_takeBehindAtom_17 : decode cX3_takeBehindAtom 17 = .ok (.aload_n 0, 1) := by decide +kernel
theorem dX3_takeBehindAtom_18 : decode cX3_takeBehindAtom 18 = .ok (.invokevirtual 109, 3) := by decide +kernel
theorem dX3_takeBehindAtom_21 : decode cX3_takeBehindAtom 21 = .ok (.pop, 1) := by decide +kernel
theorem dX3_takeBehindAtom_22 : decode cX3_takeBehindAtom 22 = .ok (.aload_n 0, 1) := by decide +kernel
theorem dX3_takeBehindAtom_23 : decode cX3_takeBehindAtom 23 = .ok (.iconst 0, 1) := by decide +kernel
theorem dX3_takeBehindAtom_24 : decode cX3_takeBehindAtom 24 = .ok (.invokevirtual 103, 3) := by decide +kernel
theorem dX3_takeBehindAtom_27 : decode cX3_takeBehindAtom 27 = .ok (.return_, 1) := by decide +kernel
theorem dX3_takeBehindAtom_28 : decode cX3_takeBehindAtom 28 = .ok (.aload_n 0, 1) := by decide +kernel
theorem dX3_takeBehindAtom_29 : decode cX3_takeBehindAtom 29 = .ok (.invokevirtual 69, 3) := by decide +kernel
theorem dX3_takeBehindAtom_32 : decode cX3_takeBehindAtom 32 = .ok (.iload_n 1, 1) := by decide +kernel
theorem dX3_takeBehindAtom_33 : decode cX3_takeBehindAtom 33 = .ok (.bipush 46, 2) := by decide +kernel
theorem dX3_takeBehindAtom_35 : decode cX3_takeBehindAtom 35 = .ok (.if_icmp .ne 18, 3) := by decide +kernel
theorem dX3_takeBehindAtom_38 : decode cX3_takeBehindAtom 38 = .ok (.aload_n 0, 1) := by decide +kernel
theorem dX3_takeBehindAtom_39 : decode cX3_takeBehindAtom 39 = .ok (.getfield 45, 3) := by decide +kernel
theorem dX3_takeBehindAtom_42 : decode cX3_takeBehindAtom 42 = .ok (.iconst (-1), 1) := by decide +kernel
theorem dX3_takeBehindAtom_43 : decode cX3_takeBehindAtom 43 = .ok (.if_icmp .ne 10, 3) := by decide +kernel
theorem dX3_takeBehindAtom_46 : decode cX3_takeBehindAtom 46 = .ok (.aload_n 0, 1) := by decide +kernel
theorem dX3_takeBehindAtom_47 : decode cX3_takeBehindAtom 47 = .ok (.iconst 2, 1) := by decide +kernel
theorem dX3_takeBehindAtom_48 : decode cX3_takeBehindAtom 48 = .ok (.iload_n 2, 1) := by decide +kernel
theorem dX3_takeBehindAtom_49 : decode cX3_takeBehindAtom 49 = .ok (.invokevirtual 83, 3) := by decide +kernel
theorem dX3_takeBehindAtom_52 : decode cX3_takeBehindAtom 52 = .ok (.return_, 1) := by decide +kernel
theorem dX3_takeBehindAtom_53 : decode cX3_takeBehindAtom 53 = .ok (.aload_n 0, 1) := by decide +kernel
theorem dX3_takeBehindAtom_54 : decode cX3_takeBehindAtom 54 = .ok (.iconst 1, 1) := by decide +kernel
theorem dX3_takeBehindAtom_55 : decode cX3_takeBehindAtom 55 = .ok (.iconst 4, 1) := by decide +kernel
theorem dX3_takeBehindAtom_56 : decode cX3_takeBehindAtom 56 = .ok (.invokevirtual 112, 3) := by decide +kernel
theorem dX3_takeBehindAtom_59 : decode cX3_takeBehindAtom 59 = .ok (.iload_n 1, 1) := by decide +kernel
theorem dX3_takeBehindAtom_60 : decode cX3_takeBehindAtom 60 = .ok (.bipush 43, 2) := by decide +kernel
theorem dX3_takeBehindAtom_62 : decode cX3_takeBehindAtom 62 = .ok (.if_icmp .ne 18, 3) := by decide +kernel
theorem dX3_takeBehindAtom_65 : decode cX3_takeBehindAtom 65 = .ok (.aload_n 0, 1) := by decide +kernel
theorem dX3_takeBehindAtom_66 : decode cX3_takeBehindAtom 66 = .ok (.getfield 45, 3) := by decide +kernel
theorem dX3_takeBehindAtom_69 : decode cX3_takeBehindAtom 69 = .ok (.iconst (-1), 1) := by decide +kernel
theorem dX3_takeBehindAtom_70 : decode cX3_takeBehindAtom 70 = .ok (.if_icmp .ne 10, 3) := by decide +kernel
theorem dX3_takeBehindAtom_73 : decode cX3_takeBehindAtom 73 = .ok (.aload_n 0, 1) := by decide +kernel
theorem dX3_takeBehindAtom_74 : decode cX3_takeBehindAtom 74 = .ok (.iconst 1, 1) := by decide +kernel
theorem dX3_takeBehindAtom_75 : decode cX3_takeBehindAtom 75 = .ok (.iload_n 2, 1) := by decide +kernel
theorem dX3_takeBehindAtom_76 : decode cX3_takeBehindAtom 76 = .ok (.invokevirtual 83, 3) := by decide +kernel
theorem dX3_takeBehindAtom_79 : decode cX3_takeBehindAtom 79 = .ok (.return_, 1) := by decide +kernel
theorem dX3_takeBehindAtom_80 : decode cX3_takeBehindAtom 80 = .ok (.aload_n 0, 1) := by decide +kernel
theorem dX3_takeBehindAtom_81 : decode cX3_takeBehindAtom 81 = .ok (.invokevirtual 72, 3) := by decide +kernel
theorem dX3_takeBehindAtom_84 : decode cX3_takeBehindAtom 84 = .ok (.aload_n 0, 1) := by decide +kernel
theorem dX3_takeBehindAtom_85 : decode cX3_takeBehindAtom 85 = .ok (.getfield 45, 3) := by decide +kernel
theorem dX3_takeBehindAtom_88 : decode cX3_takeBehindAtom 88 = .ok (.iconst (-1), 1) := by decide +kernel
theorem dX3_takeBehindAtom_89 : decode cX3_takeBehindAtom 89 = .ok (.if_icmp .ne 9, 3) := by decide +kernel
theorem dX3_takeBehindAtom_92 : decode cX3_takeBehindAtom 92 = .ok (.aload_n 0, 1) := by decide +kernel
theorem dX3_takeBehindAtom_93 : decode cX3_takeBehindAtom 93 = .ok (.iload_n 1, 1) := by decide +kernel
theorem dX3_takeBehindAtom_94 : decode cX3_takeBehindAtom 94 = .ok (.iload_n 2, 1) := by decide +kernel
theorem dX3_takeBehindAtom_95 : decode cX3_takeBehindAtom 95 = .ok (.invokevirtual 115, 3) := by decide +kernel
theorem dX3_takeBehindAtom_98 : decode cX3_takeBehindAtom 98 = .ok (.return_, 1) := by decide +kernel
theorem dX3_endFactor_0 : decode cX3_endFactor 0 = .ok (.aload_n 0, 1) := by decide +kernel
theorem dX3_endFactor_1 : decode cX3_endFactor 1 = .ok (.getfield 18, 3) := by decide +kernel
theorem dX3_endFactor_4 : decode cX3_endFactor 4 = .ok (.istore_n 1, 1) := by decide +kernel
theorem dX3_endFactor_5 : decode cX3_endFactor 5 = .ok (.iload_n 1, 1) := by decide +kernel
theorem dX3_endFactor_6 : decode cX3_endFactor 6 = .ok (.ifCond .le 64, 3) := by decide +kernel
theorem dX3_endFactor_9 : decode cX3_endFactor 9 = .ok (.aload_n 0, 1) := by decide +kernel
theorem dX3_endFactor_10 : decode cX3_endFactor 10 = .ok (.invokevirtual 118, 3) := by decide +kernel
theorem dX3_endFactor_13 : decode cX3_endFactor 13 = .ok (.iconst 3, 1) := by decide +kernel
theorem dX3_endFactor_14 : decode cX3_endFactor 14 = .ok (.if_icmp .ne 56, 3) := by decide +kernel
theorem dX3_endFactor_17 : decode cX3_endFactor 17 = .ok (.aload_n 0, 1) := by decide +kernel
theorem dX3_endFactor_18 : decode cX3_endFactor 18 = .ok (.getfield 45, 3) := by decide +kernel
theorem dX3_endFactor_21 : decode cX3_endFactor 21 = .ok (.iconst (-1), 1) := by decide +kernel
theorem dX3_endFactor_22 : decode cX3_endFactor 22 = .ok (.if_icmp .ne 48, 3) := by decide +kernel
theorem dX3_endFactor_25 : decode cX3_endFactor 25 = .ok (.aload_n 0, 1) := by decide +kernel
theorem dX3_endFactor_26 : decode cX3_endFactor 26 = .ok (.invokevirtual 75, 3) := by decide +kernel
theorem dX3_endFactor_29 : decode cX3_endFactor 29 = .ok (.ifCond .eq 27, 3) := by decide +kernel
theorem dX3_endFactor_32 : decode cX3_endFactor 32 = .ok (.aload_n 0, 1) := by decide +kernel
theorem dX3_endFactor_33 : decode cX3_endFactor 33 = .ok (.getfield 32, 3) := by decide +kernel
theorem dX3_endFactor_36 : decode cX3_endFactor 36 = .ok (.bipush 7, 2) := by decide +kernel
theorem dX3_endFactor_38 : decode cX3_endFactor 38 = .ok (.iconst 0, 1) := by decide +kernel
theorem dX3_endFactor_39 : decode cX3_endFactor 39 = .ok (.iconst 0, 1) := by decide +kernel
theorem dX3_endFactor_40 : decode cX3_endFactor 40 = .ok (.invokevirtual 106, 3) := by decide +kernel
theorem dX3_endFactor_43 : decode cX3_endFactor 43 = .ok (.aload_n 0, 1) := by decide +kernel
theorem dX3_endFactor_44 : decode cX3_endFactor 44 = .ok (.dup, 1) := by decide +kernel
theorem dX3_endFactor_45 : decode cX3_endFactor 45 = .ok (.getfield 18, 3) := by decide +kernel
theorem dX3_endFactor_48 : decode cX3_endFactor 48 = .ok (.iconst 1, 1) := by decide +kernel
theorem dX3_endFactor_49 : decode cX3_endFactor 49 = .ok (.isub, 1) := by decide +kernel
theorem dX3_endFactor_50 : decode cX3_endFactor 50 = .ok (.putfield 18, 3) := by decide +kernel
theorem dX3_endFactor_53 : decode cX3_endFactor 53 = .ok (.goto 11, 3) := by decide +kernel
theorem dX3_endFactor_56 : decode cX3_endFactor 56 = .ok (.aload_n 0, 1) := by decide +kernel
theorem dX3_endFactor_57 : decode cX3_endFactor 57 = .ok (.aload_n 0, 1) := by decide +kernel
theorem dX3_endFactor_58 : decode cX3_endFactor 58 = .ok (.invokevirtual 122, 3) := by decide +kernel
theorem dX3_endFactor_61 : decode cX3_endFactor 61 = .ok (.putfield 45, 3) := by decide +kernel
theorem dX3_endFactor_64 : decode cX3_endFactor 64 = .ok (.iinc 1 (-1), 3) := by decide +kernel
theorem dX3_endFactor_67 : decode cX3_endFactor 67 = .ok (.goto (-62), 3) := by decide +kernel
theorem dX3_endFactor_70 : decode cX3_endFactor 70 = .ok (.aload_n 0, 1) := by decide +kernel
theorem dX3_endFactor_71 : decode cX3_endFactor 71 = .ok (.iconst 2, 1) := by decide +kernel
theorem dX3_endFactor_72 : decode cX3_endFactor 72 = .ok (.iconst 5, 1) := by decide +kernel
theorem dX3_endFactor_73 : decode cX3_endFactor 73 = .ok (.invokevirtual 112, 3) := by decide +kernel
theorem dX3_endFactor_76 : decode cX3_endFactor 76 = .ok (.return_, 1) := by decide +kernel
theorem dX3_endUnion_0 : decode cX3_endUnion 0 = .ok (.aload_n 0, 1) := by decide +kernel
theorem dX3_endUnion_1 : decode cX3_endUnion 1 = .ok (.iconst 1, 1) := by decide +kernel
theorem dX3_endUnion_2 : decode cX3_endUnion 2 = .ok (.iconst 4, 1) := by decide +kernel
theorem dX3_endUnion_3 : decode cX3_endUnion 3 = .ok (.invokevirtual 112, 3) := by decide +kernel
theorem dX3_endUnion_6 : decode cX3_endUnion 6 = .ok (.aload_n 0, 1) := by decide +kernel
theorem dX3_endUnion_7 : decode cX3_endUnion 7 = .ok (.getfield 45, 3) := by decide +kernel
theorem dX3_endUnion_10 : decode cX3_endUnion 10 = .ok (.iconst (-1), 1) := by decide +kernel
theorem dX3_endUnion_11 : decode cX3_endUnion 11 = .ok (.if_icmp .ne 26, 3) := by decide +kernel
theorem dX3_endUnion_14 : decode cX3_endUnion 14 = .ok (.aload_n 0, 1) := by decide +kernel
theorem dX3_endUnion_15 : decode cX3_endUnion 15 = .ok (.invokevirtual 118, 3) := by decide +kernel
theorem dX3_endUnion_18 : decode cX3_endUnion 18 = .ok (.iconst 5, 1) := by decide +kernel
theorem dX3_endUnion_19 : decode cX3_endUnion 19 = .ok (.if_icmp .ne 18, 3) := by decide +kernel
theorem dX3_endUnion_22 : decode cX3_endUnion 22 = .ok (.aload_n 0, 1) := by decide +kernel
theorem dX3_endUnion_23 : decode cX3_endUnion 23 = .ok (.invokevirtual 75, 3) := by decide +kernel
theorem dX3_endUnion_26 : decode cX3_endUnion 26 = .ok (.ifCond .ne 11, 3) := by decide +kernel
theorem dX3_endUnion_29 : decode cX3_endUnion 29 = .ok (.aload_n 0, 1) := by decide +kernel
theorem dX3_endUnion_30 : decode cX3_endUnion 30 = .ok (.aload_n 0, 1) := by decide +kernel
theorem dX3_endUnion_31 : decode cX3_endUnion 31 = .ok (.invokevirtual 122, 3) := by decide +kernel
theorem dX3_endUnion_34 : decode cX3_endUnion 34 = .ok (.putfield 45, 3) := by decide +kernel
theorem dX3_endUnion_37 : decode cX3_endUnion 37 = .ok (.return_, 1) := by decide +kernel
theorem dX3_endPair_0 : decode cX3_endPair 0 = .ok (.aload_n 0, 1) := by decide +kernel
theorem dX3_endPair_1 : decode cX3_endPair 1 = .ok (.getfield 45, 3) := by decide +kernel
theorem dX3_endPair_4 : decode cX3_endPair 4 = .ok (.iconst (-1), 1) := by decide +kernel
theorem dX3_endPair_5 : decode cX3_endPair 5 = .ok (.if_icmp .ne 60, 3) := by decide +kernel
theorem dX3_endPair_8 : decode cX3_endPair 8 = .ok (.aload_n 0, 1) := by decide +kernel
theorem dX3_endPair_9 : decode cX3_endPair 9 = .ok (.invokevirtual 118, 3) := by decide +kernel
theorem dX3_endPair_12 : decode cX3_endPair 12 = .ok (.iload_n 1, 1) := by decide +kernel
theorem dX3_endPair_13 : decode cX3_endPair 13 = .ok (.if_icmp .ne 52, 3) := by decide +kernel
theorem dX3_endPair_16 : decode cX3_endPair 16 = .ok (.aload_n 0, 1) := by decide +kernel
theorem dX3_endPair_17 : decode cX3_endPair 17 = .ok (.getfield 32, 3) := by decide +kernel
theorem dX3_endPair_20 : decode cX3_endPair 20 = .ok (.iload_n 2, 1) := by decide +kernel
theorem dX3_endPair_21 : decode cX3_endPair 21 = .ok (.iconst 0, 1) := by decide +kernel
theorem dX3_endPair_22 : decode cX3_endPair 22 = .ok (.iconst 0, 1) := by decide +kernel
theorem dX3_endPair_23 : decode cX3_endPair 23 = .ok (.invokevirtual 106, 3) := by decide +kernel
theorem dX3_endPair_26 : decode cX3_endPair 26 = .ok (.aload_n 0, 1) := by decide +kernel
theorem dX3_endPair_27 : decode cX3_endPair 27 = .ok (.invokevirtual 109, 3) := by decide +kernel
theorem dX3_endPair_30 : decode cX3_endPair 30 = .ok (.istore_n 3, 1) := by decide +kernel
theorem dX3_endPair_31 : decode cX3_endPair 31 = .ok (.aload_n 0, 1) := by decide +kernel
theorem dX3_endPair_32 : decode cX3_endPair 32 = .ok (.invokevirtual 109, 3) := by decide +kernel
theorem dX3_endPair_35 : decode cX3_endPair 35 = .ok (.istore 4, 2) := by decide +kernel
theorem dX3_endPair_37 : decode cX3_endPair 37 = .ok (.aload_n 0, 1) := by decide +kernel
theorem dX3_endPair_38 : decode cX3_endPair 38 = .ok (.iload 4, 2) := by decide +kernel
theorem dX3_endPair_40 : decode cX3_endPair 40 = .ok (.ifCond .eq 11, 3) := by decide +kernel
theorem dX3_endPair_43 : decode cX3_endPair 43 = .ok (.iload_n 3, 1) := by decide +kernel
theorem dX3_endPair_44 : decode cX3_endPair 44 = .ok (.ifCond .eq 7, 3) := by decide +kernel
theorem dX3_endPair_47 : decode cX3_endPair 47 = .ok (.iconst 1, 1) := by decide +kernel
theorem dX3_endPair_48 : decode cX3_endPair 48 = .ok (.goto 4, 3) := by decide +kernel
theorem dX3_endPair_51 : decode cX3_endPair 51 = .ok (.iconst 0, 1) := by decide +kernel
theorem dX3_endPair_52 : decode cX3_endPair 52 = .ok (.invokevirtual 103, 3) := by decide +kernel
theorem dX3_endPair_55 : decode cX3_endPair 55 = .ok (.aload_n 0, 1) := by decide +kernel
theorem dX3_endPair_56 : decode cX3_endPair 56 = .ok (.dup, 1) := by decide +kernel
theorem dX3_endPair_57 : decode cX3_endPair 57 = .ok (.getfield 18, 3) := by decide +kernel
theorem dX3_endPair_60 : decode cX3_endPair 60 = .ok (.iconst 1, 1) := by decide +kernel
theorem dX3_endPair_61 : decode cX3_endPair 61 = .ok (.isub, 1) := by decide +kernel
theorem dX3_endPair_62 : decode cX3_endPair 62 = .ok (.putfield 18, 3) := by decide +kernel
theorem dX3_endPair_65 : decode cX3_endPair 65 = .ok (.return_, 1) := by decide +kernel
theorem dX3_takeBracket_0 : decode cX3_takeBracket 0 = .ok (.aload_n 0, 1) := by decide +kernel
theorem dX3_takeBracket_1 : decode cX3_takeBracket 1 = .ok (.invokevirtual 118, 3) := by decide +kernel
theorem dX3_takeBracket_4 : decode cX3_takeBracket 4 = .ok (.istore_n 3, 1) := by decide +kernel
theorem dX3_takeBracket_5 : decode cX3_takeBracket 5 = .ok (.iload_n 1, 1) := by decide +kernel
theorem dX3_takeBracket_6 : decode cX3_takeBracket 6 = .ok (.bipush 41, 2) := by decide +kernel
theorem dX3_takeBracket_8 : decode cX3_takeBracket 8 = .ok (.if_icmp .ne 21, 3) := by decide +kernel
theorem dX3_takeBracket_11 : decode cX3_takeBracket 11 = .ok (.iload_n 3, 1) := by decide +kernel
theorem dX3_takeBracket_12 : decode cX3_takeBracket 12 = .ok (.iconst 4, 1) := by decide +kernel
theorem dX3_takeBracket_13 : decode cX3_takeBracket 13 = .ok (.if_icmp .ne 16, 3) := by decide +kernel
theorem dX3_takeBracket_16 : decode cX3_takeBracket 16 = .ok (.aload_n 0, 1) := by decide +kernel
theorem dX3_takeBracket_17 : decode cX3_takeBracket 17 = .ok (.dup, 1) := by decide +kernel
theorem dX3_takeBracket_18 : decode cX3_takeBracket 18 = .ok (.getfield 18, 3) := by decide +kernel
theorem dX3_takeBracket_21 : decode cX3_takeBracket 21 = .ok (.iconst 1, 1) := by decide +kernel
theorem dX3_takeBracket_22 : decode cX3_takeBracket 22 = .ok (.isub, 1) := by decide +kernel
theorem dX3_takeBracket_23 : decode cX3_takeBracket 23 = .ok (.putfield 18, 3) := by decide +kernel
theorem dX3_takeBracket_26 : decode cX3_takeBracket 26 = .ok (.goto 100, 3) := by decide +kernel
theorem dX3_takeBracket_29 : decode cX3_takeBracket 29 = .ok (.iload_n 1, 1) := by decide +kernel
theorem dX3_takeBracket_30 : decode cX3_takeBracket 30 = .ok (.bipush 63, 2) := by decide +kernel
theorem dX3_takeBracket_32 : decode cX3_takeBracket 32 = .ok (.if_icmp .ne 28, 3) := by decide +kernel
theorem dX3_takeBracket_35 : decode cX3_takeBracket 35 = .ok (.iload_n 3, 1) := by decide +kernel
theorem dX3_takeBracket_36 : decode cX3_takeBracket 36 = .ok (.iconst 5, 1) := by decide +kernel
theorem dX3_takeBracket_37 : decode cX3_takeBracket 37 = .ok (.if_icmp .ne 23, 3) := by decide +kernel
theorem dX3_takeBracket_40 : decode cX3_takeBracket 40 = .ok (.aload_n 0, 1) := by decide +kernel
theorem dX3_takeBracket_41 : decode cX3_takeBracket 41 = .ok (.dup, 1) := by decide +kernel
theorem dX3_takeBracket_42 : decode cX3_takeBracket 42 = .ok (.getfield 18, 3) := by decide +kernel
theorem dX3_takeBracket_45 : decode cX3_takeBracket 45 = .ok (.iconst 1, 1) := by decide +kernel
theorem dX3_takeBracket_46 : decode cX3_takeBracket 46 = .ok (.isub, 1) := by decide +kernel
theorem dX3_takeBracket_47 : decode cX3_takeBracket 47 = .ok (.putfield 18, 3) := by decide +kernel
theorem dX3_takeBracket_50 : decode cX3_takeBracket 50 = .ok (.aload_n 0, 1) := by decide +kernel
theorem dX3_takeBracket_51 : decode cX3_takeBracket 51 = .ok (.bipush 6, 2) := by decide +kernel
theorem dX3_takeBracket_53 : decode cX3_takeBracket 53 = .ok (.iload_n 2, 1) := by decide +kernel
theorem dX3_takeBracket_54 : decode cX3_takeBracket 54 = .ok (.invokevirtual 83, 3) := by decide +kernel
theorem dX3_takeBracket_57 : decode cX3_takeBracket 57 = .ok (.goto 69, 3) := by decide +kernel
theorem dX3_takeBracket_60 : decode cX3_takeBracket 60 = .ok (.iload_n 1, 1) := by decide +kernel
theorem dX3_takeBracket_61 : decode cX3_takeBracket 61 = .ok (.bipush 124, 2) := by decide +kernel
theorem dX3_takeBracket_63 : decode cX3_takeBracket 63 = .ok (.if_icmp .ne 29, 3) := by decide +kernel
theorem dX3_takeBracket_66 : decode cX3_takeBracket 66 = .ok (.iload_n 3, 1) := by decide +kernel
theorem dX3_takeBracket_67 : decode cX3_takeBracket 67 = .ok (.bipush 6, 2) := by decide +kernel
theorem dX3_takeBracket_69 : decode cX3_takeBracket 69 = .ok (.if_icmp .ne 23, 3) := by decide +kernel
theorem dX3_takeBracket_72 : decode cX3_takeBracket 72 = .ok (.aload_n 0, 1) := by decide +kernel
theorem dX3_takeBracket_73 : decode cX3_takeBracket 73 = .ok (.dup, 1) := by decide +kernel
theorem dX3_takeBracket_74 : decode cX3_takeBracket 74 = .ok (.getfield 18, 3) := by decide +kernel
theorem dX3_takeBracket_77 : decode cX3_takeBracket 77 = .ok (.iconst 1, 1) := by decide +kernel
theorem dX3_takeBracket_78 : decode cX3_takeBracket 78 = .ok (.isub, 1) := by decide +kernel
theorem dX3_takeBracket_79 : decode cX3_takeBracket 79 = .ok (.putfield 18, 3) := by decide +kernel
theorem dX3_takeBracket_82 : decode cX3_takeBracket 82 = .ok (.aload_n 0, 1) := by decide +kernel
theorem dX3_takeBracket_83 : decode cX3_takeBracket 83 = .ok (.bipush 7, 2) := by decide +kernel
theorem dX3_takeBracket_85 : decode cX3_takeBracket 85 = .ok (.iload_n 2, 1) := by decide +kernel
theorem dX3_takeBracket_86 : decode cX3_takeBracket 86 = .ok (.invokevirtual 83, 3) := by decide +kernel
theorem dX3_takeBracket_89 : decode cX3_takeBracket 89 = .ok (.goto 37, 3) := by decide +kernel
theorem dX3_takeBracket_92 : decode cX3_takeBracket 92 = .ok (.iload_n 1, 1) := by decide +kernel
theorem dX3_takeBracket_93 : decode cX3_takeBracket 93 = .ok (.bipush 93, 2) := by decide +kernel
theorem dX3_takeBracket_95 : decode cX3_takeBracket 95 = .ok (.if_icmp .ne 26, 3) := by decide +kernel
theorem dX3_takeBracket_98 : decode cX3_takeBracket 98 = .ok (.iload_n 3, 1) := by decide +kernel
theorem dX3_takeBracket_99 : decode cX3_takeBracket 99 = .ok (.bipush 7, 2) := by decide +kernel
theorem dX3_takeBracket_101 : decode cX3_takeBracket 101 = .ok (.if_icmp .ne 20, 3) := by decide +kernel
theorem dX3_takeBracket_104 : decode cX3_takeBracket 104 = .ok (.aload_n 0, 1) := by decide +kernel
theorem dX3_takeBracket_105 : decode cX3_takeBracket 105 = .ok (.dup, 1) := by decide +kernel
theorem dX3_takeBracket_106 : decode cX3_takeBracket 106 = .ok (.getfield 18, 3) := by decide +kernel
theorem dX3_takeBracket_109 : decode cX3_takeBracket 109 = .ok (.iconst 1, 1) := by decide +kernel
theorem dX3_takeBracket_110 : decode cX3_takeBracket 110 = .ok (.isub, 1) := by decide +kernel
theorem dX3_takeBracket_111 : decode cX3_takeBracket 111 = .ok (.putfield 18, 3) := by decide +kernel
theorem dX3_takeBracket_114 : decode cX3_takeBracket 114 = .ok (.aload_n 0, 1) := by decide +kernel
theorem dX3_takeBracket_115 : decode cX3_takeBracket 115 = .ok (.invokevirtual 125, 3) := by decide +kernel
theorem dX3_takeBracket_118 : decode cX3_takeBracket 118 = .ok (.goto 8, 3) := by decide +kernel
theorem dX3_takeBracket_121 : decode cX3_takeBracket 121 = .ok (.aload_n 0, 1) := by decide +kernel
theorem dX3_takeBracket_122 : decode cX3_takeBracket 122 = .ok (.iload_n 2, 1) := by decide +kernel
theorem dX3_takeBracket_123 : decode cX3_takeBracket 123 = .ok (.putfield 45, 3) := by decide +kernel
theorem dX3_takeBracket_126 : decode cX3_takeBracket 126 = .ok (.return_, 1) := by decide +kernel
theorem dX3_endChoice_0 : decode cX3_endChoice 0 = .ok (.aload_n 0, 1) := by decide +kernel
theorem dX3_endChoice_1 : decode cX3_endChoice 1 = .ok (.getfield 32, 3) := by decide +kernel
theorem dX3_endChoice_4 : decode cX3_endChoice 4 = .ok (.bipush 8, 2) := by decide +kernel
theorem dX3_endChoice_6 : decode cX3_endChoice 6 = .ok (.iconst 0, 1) := by decide +kernel
theorem dX3_endChoice_7 : decode cX3_endChoice 7 = .ok (.iconst 0, 1) := by decide +kernel
theorem dX3_endChoice_8 : decode cX3_endChoice 8 = .ok (.invokevirtual 106, 3) := by decide +kernel
theorem dX3_endChoice_11 : decode cX3_endChoice 11 = .ok (.aload_n 0, 1) := by decide +kernel
theorem dX3_endChoice_12 : decode cX3_endChoice 12 = .ok (.invokevirtual 109, 3) := by decide +kernel
theorem dX3_endChoice_15 : decode cX3_endChoice 15 = .ok (.istore_n 1, 1) := by decide +kernel
theorem dX3_endChoice_16 : decode cX3_endChoice 16 = .ok (.aload_n 0, 1) := by decide +kernel
theorem dX3_endChoice_17 : decode cX3_endChoice 17 = .ok (.invokevirtual 109, 3) := by decide +kernel
theorem dX3_endChoice_20 : decode cX3_endChoice 20 = .ok (.istore_n 2, 1) := by decide +kernel
theorem dX3_endChoice_21 : decode cX3_endChoice 21 = .ok (.aload_n 0, 1) := by decide +kernel
theorem dX3_endChoice_22 : decode cX3_endChoice 22 = .ok (.invokevirtual 109, 3) := by decide +kernel
theorem dX3_endChoice_25 : decode cX3_endChoice 25 = .ok (.pop, 1) := by decide +kernel
theorem dX3_endChoice_26 : decode cX3_endChoice 26 = .ok (.aload_n 0, 1) := by decide +kernel
theorem dX3_endChoice_27 : decode cX3_endChoice 27 = .ok (.iload_n 2, 1) := by decide +kernel
theorem dX3_endChoice_28 : decode cX3_endChoice 28 = .ok (.ifCond .eq 11, 3) := by decide +kernel
theorem dX3_endChoice_31 : decode cX3_endChoice 31 = .ok (.iload_n 1, 1) := by decide +kernel
theorem dX3_endChoice_32 : decode cX3_endChoice 32 = .ok (.ifCond .eq 7, 3) := by decide +kernel
theorem dX3_endChoice_35 : decode cX3_endChoice 35 = .ok (.iconst 1, 1) := by decide +kernel
theorem dX3_endChoice_36 : decode cX3_endChoice 36 = .ok (.goto 4, 3) := by decide +kernel
theorem dX3_endChoice_39 : decode cX3_endChoice 39 = .ok (.iconst 0, 1) := by decide +kernel
theorem dX3_endChoice_40 : decode cX3_endChoice 40 = .ok (.invokevirtual 103, 3) := by decide +kernel
theorem dX3_endChoice_43 : decode cX3_endChoice 43 = .ok (.return_, 1) := by decide +kernel
theorem dX3_open_0 : decode cX3_open 0 = .ok (.aload_n 0, 1) := by decide +kernel
theorem dX3_open_1 : decode cX3_open 1 = .ok (.getfield 18, 3) := by decide +kernel
theorem dX3_open_4 : decode cX3_open 4 = .ok (.ifCond .lt 43, 3) := by decide +kernel
theorem dX3_open_7 : decode cX3_open 7 = .ok (.aload_n 0, 1) := by decide +kernel
theorem dX3_open_8 : decode cX3_open 8 = .ok (.getfield 18, 3) := by decide +kernel
theorem dX3_open_11 : decode cX3_open 11 = .ok (.sipush 150, 3) := by decide +kernel
theorem dX3_open_14 : decode cX3_open 14 = .ok (.if_icmp .ge 33, 3) := by decide +kernel
theorem dX3_open_17 : decode cX3_open 17 = .ok (.aload_n 0, 1) := by decide +kernel
theorem dX3_open_18 : decode cX3_open 18 = .ok (.getfield 9, 3) := by decide +kernel
theorem dX3_open_21 : decode cX3_open 21 = .ok (.aload_n 0, 1) := by decide +kernel
theorem dX3_open_22 : decode cX3_open 22 = .ok (.getfield 18, 3) := by decide +kernel
theorem dX3_open_25 : decode cX3_open 25 = .ok (.iload_n 1, 1) := by decide +kernel
theorem dX3_open_26 : decode cX3_open 26 = .ok (.iastore, 1) := by decide +kernel
theorem dX3_open_27 : decode cX3_open 27 = .ok (.aload_n 0, 1) := by decide +kernel
theorem dX3_open_28 : decode cX3_open 28 = .ok (.getfield 15, 3) := by decide +kernel
theorem dX3_open_31 : decode cX3_open 31 = .ok (.aload_n 0, 1) := by decide +kernel
theorem dX3_open_32 : decode cX3_open 32 = .ok (.getfield 18, 3) := by decide +kernel
theorem dX3_open_35 : decode cX3_open 35 = .ok (.iload_n 2, 1) := by decide +kernel
theorem dX3_open_36 : decode cX3_open 36 = .ok (.iastore, 1) := by decide +kernel
theorem dX3_open_37 : decode cX3_open 37 = .ok (.aload_n 0, 1) := by decide +kernel
theorem dX3_open_38 : decode cX3_open 38 = .ok (.dup, 1) := by decide +kernel
theorem dX3_open_39 : decode cX3_open 39 = .ok (.getfield 18, 3) := by decide +kernel
theorem dX3_open_42 : decode cX3_open 42 = .ok (.iconst 1, 1) := by decide +kernel
theorem dX3_open_43 : decode cX3_open 43 = .ok (.iadd, 1) := by decide +kernel
theorem dX3_open_44 : decode cX3_open 44 = .ok (.putfield 18, 3) := by decide +kernel
theorem dX3_open_47 : decode cX3_open 47 = .ok (.aload_n 0, 1) := by decide +kernel
theorem dX3_open_48 : decode cX3_open 48 = .ok (.iconst 0, 1) := by decide +kernel
theorem dX3_open_49 : decode cX3_open 49 = .ok (.putfield 36, 3) := by decide +kernel
theorem dX3_open_52 : decode cX3_open 52 = .ok (.return_, 1) := by decide +kernel
theorem dX3_innermost_0 : decode cX3_innermost 0 = .ok (.aload_n 0, 1) := by decide +kernel
theorem dX3_innermost_1 : decode cX3_innermost 1 = .ok (.getfield 18, 3) := by decide +kernel
theorem dX3_innermost_4 : decode cX3_innermost 4 = .ok (.ifCond .le 27, 3) := by decide +kernel
theorem dX3_innermost_7 : decode cX3_innermost 7 = .ok (.aload_n 0, 1) := by decide +kernel
theorem dX3_innermost_8 : decode cX3_innermost 8 = .ok (.getfield 18, 3) := by decide +kernel
theorem dX3_innermost_11 : decode cX3_innermost 11 = .ok (.sipush 150, 3) := by decide +kernel
theorem dX3_innermost_14 : decode cX3_innermost 14 = .ok (.if_icmp .gt 17, 3) := by decide +kernel
theorem dX3_innermost_17 : decode cX3_innermost 17 = .ok (.aload_n 0, 1) := by decide +kernel
theorem dX3_innermost_18 : decode cX3_innermost 18 = .ok (.getfield 9, 3) := by decide +kernel
theorem dX3_innermost_21 : decode cX3_innermost 21 = .ok (.aload_n 0, 1) := by decide +kernel
theorem dX3_innermost_22 : decode cX3_innermost 22 = .ok (.getfield 18, 3) := by decide +kernel
theorem dX3_innermost_25 : decode cX3_innermost 25 = .ok (.iconst 1, 1) := by decide +kernel
theorem dX3_innermost_26 : decode cX3_innermost 26 = .ok (.isub, 1) := by decide +kernel
theorem dX3_innermost_27 : decode cX3_innermost 27 = .ok (.iaload, 1) := by decide +kernel
theorem dX3_innermost_28 : decode cX3_innermost 28 = .ok (.goto 4, 3) := by decide +kernel
theorem dX3_innermost_31 : decode cX3_innermost 31 = .ok (.iconst 0, 1) := by decide +kernel
theorem dX3_innermost_32 : decode cX3_innermost 32 = .ok (.ireturn, 1) := by decide +kernel
theorem dX3_innermostBegin_0 : decode cX3_innermostBegin 0 = .ok (.aload_n 0, 1) := by decide +kernel
theorem dX3_innermostBegin_1 : decode cX3_innermostBegin 1 = .ok (.getfield 18, 3) := by decide +kernel
theorem dX3_innermostBegin_4 : decode cX3_innermostBegin 4 = .ok (.ifCond .le 29, 3) := by decide +kernel
theorem dX3_innermostBegin_7 : decode cX3_innermostBegin 7 = .ok (.aload_n 0, 1) := by decide +kernel
theorem dX3_innermostBegin_8 : decode cX3_innermostBegin 8 = .ok (.getfield 18, 3) := by decide +kernel
theorem dX3_innermostBegin_11 : decode cX3_innermostBegin 11 = .ok (.sipush 150, 3) := by decide +kernel
theorem dX3_innermostBegin_14 : decode cX3_innermostBegin 14 = .ok (.if_icmp .gt 19, 3) := by decide +kernel
theorem dX3_innermostBegin_17 : decode cX3_innermostBegin 17 = .ok (.aload_n 0, 1) := by decide +kernel
theorem dX3_innermostBegin_18 : decode cX3_innermostBegin 18 = .ok (.getfield 15, 3) := by decide +kernel
theorem dX3_innermostBegin_21 : decode cX3_innermostBegin 21 = .ok (.aload_n 0, 1) := by decide +kernel
theorem dX3_innermostBegin_22 : decode cX3_innermostBegin 22 = .ok (.getfield 18, 3) := by decide +kernel
theorem dX3_innermostBegin_25 : decode cX3_innermostBegin 25 = .ok (.iconst 1, 1) := by decide +kernel
theorem dX3_innermostBegin_26 : decode cX3_innermostBegin 26 = .ok (.isub, 1) := by decide +kernel
theorem dX3_innermostBegin_27 : decode cX3_innermostBegin 27 = .ok (.iaload, 1) := by decide +kernel
theorem dX3_innermostBegin_28 : decode cX3_innermostBegin 28 = .ok (.iconst 1, 1) := by decide +kernel
theorem dX3_innermostBegin_29 : decode cX3_innermostBegin 29 = .ok (.iadd, 1) := by decide +kernel
theorem dX3_innermostBegin_30 : decode cX3_innermostBegin 30 = .ok (.goto 4, 3) := by decide +kernel
theorem dX3_innermostBegin_33 : decode cX3_innermostBegin 33 = .ok (.iconst 0, 1) := by decide +kernel
theorem dX3_innermostBegin_34 : decode cX3_innermostBegin 34 = .ok (.ireturn, 1) := by decide +kernel
theorem dX3_pushOperand_0 : decode cX3_pushOperand 0 = .ok (.aload_n 0, 1) := by decide +kernel
theorem dX3_pushOperand_1 : decode cX3_pushOperand 1 = .ok (.getfield 26, 3) := by decide +kernel
theorem dX3_pushOperand_4 : decode cX3_pushOperand 4 = .ok (.ifCond .lt 33, 3) := by decide +kernel
theorem dX3_pushOperand_7 : decode cX3_pushOperand 7 = .ok (.aload_n 0, 1) := by decide +kernel
theorem dX3_pushOperand_8 : decode cX3_pushOperand 8 = .ok (.getfield 26, 3) := by decide +kernel
theorem dX3_pushOperand_11 : decode cX3_pushOperand 11 = .ok (.sipush 150, 3) := by decide +kernel
theorem dX3_pushOperand_14 : decode cX3_pushOperand 14 = .ok (.if_icmp .ge 23, 3) := by decide +kernel
theorem dX3_pushOperand_17 : decode cX3_pushOperand 17 = .ok (.aload_n 0, 1) := by decide +kernel
theorem dX3_pushOperand_18 : decode cX3_pushOperand 18 = .ok (.getfield 22, 3) := by decide +kernel
theorem dX3_pushOperand_21 : decode cX3_pushOperand 21 = .ok (.aload_n 0, 1) := by decide +kernel
theorem dX3_pushOperand_22 : decode cX3_pushOperand 22 = .ok (.getfield 26, 3) := by decide +kernel
theorem dX3_pushOperand_25 : decode cX3_pushOperand 25 = .ok (.iload_n 1, 1) := by decide +kernel
theorem dX3_pushOperand_26 : decode cX3_pushOperand 26 = .ok (.bastore, 1) := by decide +kernel
theorem dX3_pushOperand_27 : decode cX3_pushOperand 27 = .ok (.aload_n 0, 1) := by decide +kernel
theorem dX3_pushOperand_28 : decode cX3_pushOperand 28 = .ok (.dup, 1) := by decide +kernel
theorem dX3_pushOperand_29 : decode cX3_pushOperand 29 = .ok (.getfield 26, 3) := by decide +kernel
theorem dX3_pushOperand_32 : decode cX3_pushOperand 32 = .ok (.iconst 1, 1) := by decide +kernel
theorem dX3_pushOperand_33 : decode cX3_pushOperand 33 = .ok (.iadd, 1) := by decide +kernel
theorem dX3_pushOperand_34 : decode cX3_pushOperand 34 = .ok (.putfield 26, 3) := by decide +kernel
theorem dX3_pushOperand_37 : decode cX3_pushOperand 37 = .ok (.return_, 1) := by decide +kernel
theorem dX3_popOperand_0 : decode cX3_popOperand 0 = .ok (.aload_n 0, 1) := by decide +kernel
theorem dX3_popOperand_1 : decode cX3_popOperand 1 = .ok (.invokevirtual 75, 3) := by decide +kernel
theorem dX3_popOperand_4 : decode cX3_popOperand 4 = .ok (.istore_n 1, 1) := by decide +kernel
theorem dX3_popOperand_5 : decode cX3_popOperand 5 = .ok (.aload_n 0, 1) := by decide +kernel
theorem dX3_popOperand_6 : decode cX3_popOperand 6 = .ok (.getfield 26, 3) := by decide +kernel
theorem dX3_popOperand_9 : decode cX3_popOperand 9 = .ok (.ifCond .le 13, 3) := by decide +kernel
theorem dX3_popOperand_12 : decode cX3_popOperand 12 = .ok (.aload_n 0, 1) := by decide +kernel
theorem dX3_popOperand_13 : decode cX3_popOperand 13 = .ok (.dup, 1) := by decide +kernel
theorem dX3_popOperand_14 : decode cX3_popOperand 14 = .ok (.getfield 26, 3) := by decide +kernel
theorem dX3_popOperand_17 : decode cX3_popOperand 17 = .ok (.iconst 1, 1) := by decide +kernel
theorem dX3_popOperand_18 : decode cX3_popOperand 18 = .ok (.isub, 1) := by decide +kernel
theorem dX3_popOperand_19 : decode cX3_popOperand 19 = .ok (.putfield 26, 3) := by decide +kernel
theorem dX3_popOperand_22 : decode cX3_popOperand 22 = .ok (.iload_n 1, 1) := by decide +kernel
theorem dX3_popOperand_23 : decode cX3_popOperand 23 = .ok (.ireturn, 1) := by decide +kernel
theorem dX3_topIsPredicate_0 : decode cX3_topIsPredicate 0 = .ok (.aload_n 0, 1) := by decide +kernel
theorem dX3_topIsPredicate_1 : decode cX3_topIsPredicate 1 = .ok (.getfield 26, 3) := by decide +kernel
theorem dX3_topIsPredicate_4 : decode cX3_topIsPredicate 4 = .ok (.ifCond .le 31, 3) := by decide +kernel
theorem dX3_topIsPredicate_7 : decode cX3_topIsPredicate 7 = .ok (.aload_n 0, 1) := by decide +kernel
theorem dX3_topIsPredicate_8 : decode cX3_topIsPredicate 8 = .ok (.getfield 26, 3) := by decide +kernel
theorem dX3_topIsPredicate_11 : decode cX3_topIsPredicate 11 = .ok (.sipush 150, 3) := by decide +kernel
theorem dX3_topIsPredicate_14 : decode cX3_topIsPredicate 14 = .ok (.if_icmp .gt 21, 3) := by decide +kernel
theorem dX3_topIsPredicate_17 : decode cX3_topIsPredicate 17 = .ok (.aload_n 0, 1) := by decide +kernel
theorem dX3_topIsPredicate_18 : decode cX3_topIsPredicate 18 = .ok (.getfield 22, 3) := by decide +kernel
theorem dX3_topIsPredicate_21 : decode cX3_topIsPredicate 21 = .ok (.aload_n 0, 1) := by decide +kernel
theorem dX3_topIsPredicate_22 : decode cX3_topIsPredicate 22 = .ok (.getfield 26, 3) := by decide +kernel
theorem dX3_topIsPredicate_25 : decode cX3_topIsPredicate 25 = .ok (.iconst 1, 1) := by decide +kernel
theorem dX3_topIsPredicate_26 : decode cX3_topIsPredicate 26 = .ok (.isub, 1) := by decide +kernel
theorem dX3_topIsPredicate_27 : decode cX3_topIsPredicate 27 = .ok (.baload, 1) := by decide +kernel
theorem dX3_topIsPredicate_28 : decode cX3_topIsPredicate 28 = .ok (.ifCond .eq 7, 3) := by decide +kernel
theorem dX3_topIsPredicate_31 : decode cX3_topIsPredicate 31 = .ok (.iconst 1, 1) := by decide +kernel
theorem dX3_topIsPredicate_32 : decode cX3_topIsPredicate 32 = .ok (.goto 4, 3) := by decide +kernel
theorem dX3_topIsPredicate_35 : decode cX3_topIsPredicate 35 = .ok (.iconst 0, 1) := by decide +kernel
theorem dX3_topIsPredicate_36 : decode cX3_topIsPredicate 36 = .ok (.ireturn, 1) := by decide +kernel
theorem dX4_init_0 : decode cX4_init 0 = .ok (.aload_n 0, 1) := by decide +kernel
theorem dX4_init_1 : decode cX4_init 1 = .ok (.invokespecial 3, 3) := by decide +kernel
theorem dX4_init_4 : decode cX4_init 4 = .ok (.aload_n 0, 1) := by decide +kernel
theorem dX4_init_5 : decode cX4_init 5 = .ok (.bipush 60, 2) := by decide +kernel
theorem dX4_init_7 : decode cX4_init 7 = .ok (.newarray .int, 2) := by decide +kernel
theorem dX4_init_9 : decode cX4_init 9 = .ok (.putfield 9, 3) := by decide +kernel
theorem dX4_init_12 : decode cX4_init 12 = .ok (.aload_n 0, 1) := by decide +kernel
theorem dX4_init_13 : decode cX4_init 13 = .ok (.bipush 60, 2) := by decide +kernel
theorem dX4_init_15 : decode cX4_init 15 = .ok (.newarray .int, 2) := by decide +kernel
theorem dX4_init_17 : decode cX4_init 17 = .ok (.putfield 15, 3) := by decide +kernel
theorem dX4_init_20 : decode cX4_init 20 = .ok (.aload_n 0, 1) := by decide +kernel
theorem dX4_init_21 : decode cX4_init 21 = .ok (.iconst 0, 1) := by decide +kernel
theorem dX4_init_22 : decode cX4_init 22 = .ok (.putfield 18, 3) := by decide +kernel
theorem dX4_init_25 : decode cX4_init 25 = .ok (.aload_n 0, 1) := by decide +kernel
theorem dX4_init_26 : decode cX4_init 26 = .ok (.iconst 0, 1) := by decide +kernel
theorem dX4_init_27 : decode cX4_init 27 = .ok (.putfield 22, 3) := by decide +kernel
theorem dX4_init_30 : decode cX4_init 30 = .ok (.return_, 1) := by decide +kernel
theorem dX4_start_0 : decode cX4_start 0 = .ok (.aload_n 0, 1) := by decide +kernel
theorem dX4_start_1 : decode cX4_start 1 = .ok (.iconst 0, 1) := by decide +kernel
theorem dX4_start_2 : decode cX4_start 2 = .ok (.putfield 18, 3) := by decide +kernel
theorem dX4_start_5 : decode cX4_start 5 = .ok (.aload_n 0, 1) := by decide +kernel
theorem dX4_start_6 : decode cX4_start 6 = .ok (.iconst 0, 1) := by decide +kernel
theorem dX4_start_7 : decode cX4_start 7 = .ok (.putfield 22, 3) := by decide +kernel
theorem dX4_start_10 : decode cX4_start 10 = .ok (.return_, 1) := by decide +kernel
theorem dX4_add_0 : decode cX4_add 0 = .ok (.aload_n 0, 1) := by decide +kernel
theorem dX4_add_1 : decode cX4_add 1 = .ok (.getfield 18, 3) := by decide +kernel
theorem dX4_add_4 : decode cX4_add 4 = .ok (.bipush 60, 2) := by decide +kernel
theorem dX4_add_6 : decode cX4_add 6 = .ok (.if_icmp .ge 83, 3) := by decide +kernel
theorem dX4_add_9 : decode cX4_add 9 = .ok (.iload_n 1, 1) := by decide +kernel
theorem dX4_add_10 : decode cX4_add 10 = .ok (.invokestatic 26, 3) := by decide +kernel
theorem dX4_add_13 : decode cX4_add 13 = .ok (.istore 4, 2) := by decide +kernel
theorem dX4_add_15 : decode cX4_add 15 = .ok (.aload_n 0, 1) := by decide +kernel
theorem dX4_add_16 : decode cX4_add 16 = .ok (.getfield 18, 3) := by decide +kernel
theorem dX4_add_19 : decode cX4_add 19 = .ok (.istore 5, 2) := by decide +kernel
theorem dX4_add_21 : decode cX4_add 21 = .ok (.iconst 0, 1) := by decide +kernel
theorem dX4_add_22 : decode cX4_add 22 = .ok (.istore 6, 2) := by decide +kernel
theorem dX4_add_24 : decode cX4_add 24 = .ok (.iload 6, 2) := by decide +kernel
theorem dX4_add_26 : decode cX4_add 26 = .ok (.iload 4, 2) := by decide +kernel
theorem dX4_add_28 : decode cX4_add 28 = .ok (.if_icmp .ge 32, 3) := by decide +kernel
theorem dX4_add_31 : decode cX4_add 31 = .ok (.iload 5, 2) := by decide +kernel
theorem dX4_add_33 : decode cX4_add 33 = .ok (.ifCond .le 27, 3) := by decide +kernel
theorem dX4_add_36 : decode cX4_add 36 = .ok (.iload 5, 2) := by decide +kernel
theorem dX4_add_38 : decode cX4_add 38 = .ok (.bipush 60, 2) := by decide +kernel
theorem dX4_add_40 : decode cX4_add 40 = .ok (.if_icmp .gt 20, 3) := by decide +kernel
theorem dX4_add_43 : decode cX4_add 43 = .ok (.aload_n 0, 1) := by decide +kernel
theorem dX4_add_44 : decode cX4_add 44 = .ok (.getfield 15, 3) := by decide +kernel
theorem dX4_add_47 : decode cX4_add 47 = .ok (.iload 5, 2) := by decide +kernel
theorem dX4_add_49 : decode cX4_add 49 = .ok (.iconst 1, 1) := by decide +kernel
theorem dX4_add_50 : decode cX4_add 50 = .ok (.isub, 1) := by decide +kernel
theorem dX4_add_51 : decode cX4_add 51 = .ok (.iaload, 1) := by decide +kernel
theorem dX4_add_52 : decode cX4_add 52 = .ok (.istore 5, 2) := by decide +kernel
theorem dX4_add_54 : decode cX4_add 54 = .ok (.iinc 6 1, 3) := by decide +kernel
theorem dX4_add_57 : decode cX4_add 57 = .ok (.goto (-33), 3) := by decide +kernel
theorem dX4_add_60 : decode cX4_add 60 = .ok (.aload_n 0, 1) := by decide +kernel
theorem dX4_add_61 : decode cX4_add 61 = .ok (.getfield 9, 3) := by decide +kernel
theorem dX4_add_64 : decode cX4_add 64 = .ok (.aload_n 0, 1) := by decide +kernel
theorem dX4_add_65 : decode cX4_add 65 = .ok (.getfield 18, 3) := by decide +kernel
theorem dX4_add_68 : decode cX4_add 68 = .ok (.iload_n 1, 1) := by decide +kernel
theorem dX4_add_69 : decode cX4_add 69 = .ok (.iconst 4, 1) := by decide +kernel
theorem dX4_add_70 : decode cX4_add 70 = .ok (.ishl, 1) := by decide +kernel
theorem dX4_add_71 : decode cX4_add 71 = .ok (.iload_n 2, 1) := by decide +kernel
theorem dX4_add_72 : decode cX4_add 72 = .ok (.iconst 2, 1) := by decide +kernel
theorem dX4_add_73 : decode cX4_add 73 = .ok (.ishl, 1) := by decide +kernel
theorem dX4_add_74 : decode cX4_add 74 = .ok (.ior, 1) := by decide +kernel
theorem dX4_add_75 : decode cX4_add 75 = .ok (.iload_n 3, 1) := by decide +kernel
theorem dX4_add_76 : decode cX4_add 76 = .ok (.ior, 1) := by decide +kernel
theorem dX4_add_77 : decode cX4_add 77 = .ok (.iastore, 1) := by decide +kernel
theorem dX4_add_78 : decode cX4_add 78 = .ok (.aload_n 0, 1) := by decide +kernel
theorem dX4_add_79 : decode cX4_add 79 = .ok (.getfield 15, 3) := by decide +kernel
theorem dX4_add_82 : decode cX4_add 82 = .ok (.aload_n 0, 1) := by decide +kernel
theorem dX4_add_83 : decode cX4_add 83 = .ok (.getfield 18, 3) := by decide +kernel
theorem dX4_add_86 : decode cX4_add 86 = .ok (.iload 5, 2) := by decide +kernel
theorem dX4_add_88 : decode cX4_add 88 = .ok (.iastore, 1) := by decide +kernel
theorem dX4_add_89 : decode cX4_add 89 = .ok (.aload_n 0, 1) := by decide +kernel
theorem dX4_add_90 : decode cX4_add 90 = .ok (.dup, 1) := by decide +kernel
theorem dX4_add_91 : decode cX4_add 91 = .ok (.getfield 18, 3) := by decide +kernel
theorem dX4_add_94 : decode cX4_add 94 = .ok (.iconst 1, 1) := by decide +kernel
theorem dX4_add_95 : decode cX4_add 95 = .ok (.iadd, 1) := by decide +kernel
theorem dX4_add_96 : decode cX4_add 96 = .ok (.putfield 18, 3) := by decide +kernel
theorem dX4_add_99 : decode cX4_add 99 = .ok (.return_, 1) := by decide +kernel
theorem dX4_operandsOf_0 : decode cX4_operandsOf 0 = .ok (.iload_n 0, 1) := by decide +kernel
theorem dX4_operandsOf_1 : decode cX4_operandsOf 1 = .ok (.tableswitch 41 4 8 #[35, 35, 37, 37, 39], 35) := by decide +kernel
theorem dX4_operandsOf_36 : decode cX4_operandsOf 36 = .ok (.iconst 2, 1) := by decide +kernel
theorem dX4_operandsOf_37 : decode cX4_operandsOf 37 = .ok (.ireturn, 1) := by decide +kernel
theorem dX4_operandsOf_38 : decode cX4_operandsOf 38 = .ok (.iconst 1, 1) := by decide +kernel
theorem dX4_operandsOf_39 : decode cX4_operandsOf 39 = .ok (.ireturn, 1) := by decide +kernel
theorem dX4_operandsOf_40 : decode cX4_operandsOf 40 = .ok (.iconst 3, 1) := by decide +kernel
theorem dX4_operandsOf_41 : decode cX4_operandsOf 41 = .ok (.ireturn, 1) := by decide +kernel
theorem dX4_operandsOf_42 : decode cX4_operandsOf 42 = .ok (.iconst 0, 1) := by decide +kernel
theorem dX4_operandsOf_43 : decode cX4_operandsOf 43 = .ok (.ireturn, 1) := by decide +kernel
theorem dX4_addAll_0 : decode cX4_addAll 0 = .ok (.aload_n 0, 1) := by decide +kernel
theorem dX4_addAll_1 : decode cX4_addAll 1 = .ok (.getfield 18, 3) := by decide +kernel
theorem dX4_addAll_4 : decode cX4_addAll 4 = .ok (.istore_n 2, 1) := by decide +kernel
theorem dX4_addAll_5 : decode cX4_addAll 5 = .ok (.iconst 0, 1) := by decide +kernel
theorem dX4_addAll_6 : decode cX4_addAll 6 = .ok (.istore_n 3, 1) := by decide +kernel
theorem dX4_addAll_7 : decode cX4_addAll 7 = .ok (.iload_n 3, 1) := by decide +kernel
theorem dX4_addAll_8 : decode cX4_addAll 8 = .ok (.aload_n 1, 1) := by decide +kernel
theorem dX4_addAll_9 : decode cX4_addAll 9 = .ok (.getfield 18, 3) := by decide +kernel
theorem dX4_addAll_12 : decode cX4_addAll 12 = .ok (.if_icmp .ge 66, 3) := by decide +kernel
theorem dX4_addAll_15 : decode cX4_addAll 15 = .ok (.iload_n 3, 1) := by decide +kernel
theorem dX4_addAll_16 : decode cX4_addAll 16 = .ok (.bipush 60, 2) := by decide +kernel
theorem dX4_addAll_18 : decode cX4_addAll 18 = .ok (.if_icmp .ge 60, 3) := by decide +kernel
theorem dX4_addAll_21 : decode cX4_addAll 21 = .ok (.aload_n 0, 1) := by decide +kernel
theorem dX4_addAll_22 : decode cX4_addAll 22 = .ok (.getfield 18, 3) := by decide +kernel
theorem dX4_addAll_25 : decode cX4_addAll 25 = .ok (.bipush 60, 2) := by decide +kernel
theorem dX4_addAll_27 : decode cX4_addAll 27 = .ok (.if_icmp .ge 35, 3) := by decide +kernel
theorem dX4_addAll_30 : decode cX4_addAll 30 = .ok (.aload_n 0, 1) := by decide +kernel
theorem dX4_addAll_31 : decode cX4_addAll 31 = .ok (.getfield 9, 3) := by decide +kernel
theorem dX4_addAll_34 : decode cX4_addAll 34 = .ok (.aload_n 0, 1) := by decide +kernel
theorem dX4_addAll_35 : decode cX4_addAll 35 = .ok (.getfield 18, 3) := by decide +kernel
theorem dX4_addAll_38 : decode cX4_addAll 38 = .ok (.aload_n 1, 1) := by decide +kernel
theorem dX4_addAll_39 : decode cX4_addAll 39 = .ok (.getfield 9, 3) := by decide +kernel
theorem dX4_addAll_42 : decode cX4_addAll 42 = .ok (.iload_n 3, 1) := by decide +kernel
theorem dX4_addAll_43 : decode cX4_addAll 43 = .ok (.iaload, 1) := by decide +kernel
theorem dX4_addAll_44 : decode cX4_addAll 44 = .ok (.iastore, 1) := by decide +kernel
theorem dX4_addAll_45 : decode cX4_addAll 45 = .ok (.aload_n 0, 1) := by decide +kernel
theorem dX4_addAll_46 : decode cX4_addAll 46 = .ok (.getfield 15, 3) := by decide +kernel
theorem dX4_addAll_49 : decode cX4_addAll 49 = .ok (.aload_n 0, 1) := by decide +kernel
theorem dX4_addAll_50 : decode cX4_addAll 50 = .ok (.getfield 18, 3) := by decide +kernel
theorem dX4_addAll_53 : decode cX4_addAll 53 = .ok (.iload_n 2, 1) := by decide +kernel
theorem dX4_addAll_54 : decode cX4_addAll 54 = .ok (.aload_n 1, 1) := by decide +kernel
theorem dX4_addAll_55 : decode cX4_addAll 55 = .ok (.getfield 15, 3) := by decide +kernel
theorem dX4_addAll_58 : decode cX4_addAll 58 = .ok (.iload_n 3, 1) := by decide +kernel
theorem dX4_addAll_59 : decode cX4_addAll 59 = .ok (.iaload, 1) := by decide +kernel
theorem dX4_addAll_60 : decode cX4_addAll 60 = .ok (.iadd, 1) := by decide +kernel
theorem dX4_addAll_61 : decode cX4_addAll 61 = .ok (.iastore, 1) := by decide +kernel
theorem dX4_addAll_62 : decode cX4_addAll 62 = .ok (.aload_n 0, 1) := by decide +kernel
theorem dX4_addAll_63 : decode cX4_addAll 63 = .ok (.dup, 1) := by decide +kernel
theorem dX4_addAll_64 : decode cX4_addAll 64 = .ok (.getfield 18, 3) := by decide +kernel
theorem dX4_addAll_67 : decode cX4_addAll 67 = .ok (.iconst 1, 1) := by decide +kernel
theorem dX4_addAll_68 : decode cX4_addAll 68 = .ok (.iadd, 1) := by decide +kernel
theorem dX4_addAll_69 : decode cX4_addAll 69 = .ok (.putfield 18, 3) := by decide +kernel
theorem dX4_addAll_72 : decode cX4_addAll 72 = .ok (.iinc 3 1, 3) := by decide +kernel
theorem dX4_addAll_75 : decode cX4_addAll 75 = .ok (.goto (-68), 3) := by decide +kernel
theorem dX4_addAll_78 : decode cX4_addAll 78 = .ok (.return_, 1) := by decide +kernel
theorem dX4_markPredicate_0 : decode cX4_markPredicate 0 = .ok (.aload_n 0, 1) := by decide +kernel
theorem dX4_markPredicate_1 : decode cX4_markPredicate 1 = .ok (.iload_n 1, 1) := by decide +kernel
theorem dX4_markPredicate_2 : decode cX4_markPredicate 2 = .ok (.putfield 22, 3) := by decide +kernel
theorem dX4_markPredicate_5 : decode cX4_markPredicate 5 = .ok (.return_, 1) := by decide +kernel
theorem dX4_givesPredicate_0 : decode cX4_givesPredicate 0 = .ok (.aload_n 0, 1) := by decide +kernel
theorem dX4_givesPredicate_1 : decode cX4_givesPredicate 1 = .ok (.getfield 22, 3) := by decide +kernel
theorem dX4_givesPredicate_4 : decode cX4_givesPredicate 4 = .ok (.ireturn, 1) := by decide +kernel
theorem dX4_nodeCount_0 : decode cX4_nodeCount 0 = .ok (.aload_n 0, 1) := by decide +kernel
theorem dX4_nodeCount_1 : decode cX4_nodeCount 1 = .ok (.getfield 18, 3) := by decide +kernel
theorem dX4_nodeCount_4 : decode cX4_nodeCount 4 = .ok (.ireturn, 1) := by decide +kernel
theorem dX4_nodeAt_0 : decode cX4_nodeAt 0 = .ok (.iload_n 1, 1) := by decide +kernel
theorem dX4_nodeAt_1 : decode cX4_nodeAt 1 = .ok (.ifCond .lt 18, 3) := by decide +kernel
theorem dX4_nodeAt_4 : decode cX4_nodeAt 4 = .ok (.iload_n 1, 1) := by decide +kernel
theorem dX4_nodeAt_5 : decode cX4_nodeAt 5 = .ok (.bipush 60, 2) := by decide +kernel
theorem dX4_nodeAt_7 : decode cX4_nodeAt 7 = .ok (.if_icmp .ge 12, 3) := by decide +kernel
theorem dX4_nodeAt_10 : decode cX4_nodeAt 10 = .ok (.aload_n 0, 1) := by decide +kernel
theorem dX4_nodeAt_11 : decode cX4_nodeAt 11 = .ok (.getfield 9, 3) := by decide +kernel
theorem dX4_nodeAt_14 : decode cX4_nodeAt 14 = .ok (.iload_n 1, 1) := by decide +kernel
theorem dX4_nodeAt_15 : decode cX4_nodeAt 15 = .ok (.iaload, 1) := by decide +kernel
theorem dX4_nodeAt_16 : decode cX4_nodeAt 16 = .ok (.goto 4, 3) := by decide +kernel
theorem dX4_nodeAt_19 : decode cX4_nodeAt 19 = .ok (.iconst 0, 1) := by decide +kernel
theorem dX4_nodeAt_20 : decode cX4_nodeAt 20 = .ok (.ireturn, 1) := by decide +kernel
theorem dX4_kindAt_0 : decode cX4_kindAt 0 = .ok (.aload_n 0, 1) := by decide +kernel
theorem dX4_kindAt_1 : decode cX4_kindAt 1 = .ok (.iload_n 1, 1) := by decide +kernel
theorem dX4_kindAt_2 : decode cX4_kindAt 2 = .ok (.invokevirtual 30, 3) := by decide +kernel
theorem dX4_kindAt_5 : decode cX4_kindAt 5 = .ok (.iconst 4, 1) := by decide +kernel
theorem dX4_kindAt_6 : decode cX4_kindAt 6 = .ok (.ishr, 1) := by decide +kernel
theorem dX4_kindAt_7 : decode cX4_kindAt 7 = .ok (.ireturn, 1) := by decide +kernel
theorem dX4_fieldAt_0 : decode cX4_fieldAt 0 = .ok (.aload_n 0, 1) := by decide +kernel
theorem dX4_fieldAt_1 : decode cX4_fieldAt 1 = .ok (.iload_n 1, 1) := by decide +kernel
theorem dX4_fieldAt_2 : decode cX4_fieldAt 2 = .ok (.invokevirtual 30, 3) := by decide +kernel
theorem dX4_fieldAt_5 : decode cX4_fieldAt 5 = .ok (.iconst 2, 1) := by decide +kernel
theorem dX4_fieldAt_6 : decode cX4_fieldAt 6 = .ok (.ishr, 1) := by decide +kernel
theorem dX4_fieldAt_7 : decode cX4_fieldAt 7 = .ok (.iconst 3, 1) := by decide +kernel
theorem dX4_fieldAt_8 : decode cX4_fieldAt 8 = .ok (.iand, 1) := by decide +kernel
theorem dX4_fieldAt_9 : decode cX4_fieldAt 9 = .ok (.ireturn, 1) := by decide +kernel
theorem dX4_valueAt_0 : decode cX4_valueAt 0 = .ok (.aload_n 0, 1) := by decide +kernel
theorem dX4_valueAt_1 : decode cX4_valueAt 1 = .ok (.iload_n 1, 1) := by decide +kernel
theorem dX4_valueAt_2 : decode cX4_valueAt 2 = .ok (.invokevirtual 30, 3) := by decide +kernel
theorem dX4_valueAt_5 : decode cX4_valueAt 5 = .ok (.iconst 3, 1) := by decide +kernel
theorem dX4_valueAt_6 : decode cX4_valueAt 6 = .ok (.iand, 1) := by decide +kernel
theorem dX4_valueAt_7 : decode cX4_valueAt 7 = .ok (.ireturn, 1) := by decide +kernel
theorem dX4_operandAt_0 : decode cX4_operandAt 0 = .ok (.iload_n 1, 1) := by decide +kernel
theorem dX4_operandAt_1 : decode cX4_operandAt 1 = .ok (.iconst 1, 1) := by decide +kernel
theorem dX4_operandAt_2 : decode cX4_operandAt 2 = .ok (.isub, 1) := by decide +kernel
theorem dX4_operandAt_3 : decode cX4_operandAt 3 = .ok (.istore_n 3, 1) := by decide +kernel
theorem dX4_operandAt_4 : decode cX4_operandAt 4 = .ok (.iconst 0, 1) := by decide +kernel
theorem dX4_operandAt_5 : decode cX4_operandAt 5 = .ok (.istore 4, 2) := by decide +kernel
theorem dX4_operandAt_7 : decode cX4_operandAt 7 = .ok (.iload 4, 2) := by decide +kernel
theorem dX4_operandAt_9 : decode cX4_operandAt 9 = .ok (.iload_n 2, 1) := by decide +kernel
theorem dX4_operandAt_10 : decode cX4_operandAt 10 = .ok (.if_icmp .ge 28, 3) := by decide +kernel
theorem dX4_operandAt_13 : decode cX4_operandAt 13 = .ok (.iload_n 3, 1) := by decide +kernel
theorem dX4_operandAt_14 : decode cX4_operandAt 14 = .ok (.ifCond .lt 24, 3) := by decide +kernel
theorem dX4_operandAt_17 : decode cX4_operandAt 17 = .ok (.iload_n 3, 1) := by decide +kernel
theorem dX4_operandAt_18 : decode cX4_operandAt 18 = .ok (.bipush 60, 2) := by decide +kernel
theorem dX4_operandAt_20 : decode cX4_operandAt 20 = .ok (.if_icmp .ge 18, 3) := by decide +kernel
theorem dX4_operandAt_23 : decode cX4_operandAt 23 = .ok (.aload_n 0, 1) := by decide +kernel
theorem dX4_operandAt_24 : decode cX4_operandAt 24 = .ok (.getfield 15, 3) := by decide +kernel
theorem dX4_operandAt_27 : decode cX4_operandAt 27 = .ok (.iload_n 3, 1) := by decide +kernel
theorem dX4_operandAt_28 : decode cX4_operandAt 28 = .ok (.iaload, 1) := by decide +kernel
theorem dX4_operandAt_29 : decode cX4_operandAt 29 = .ok (.iconst 1, 1) := by decide +kernel
theorem dX4_operandAt_30 : decode cX4_operandAt 30 = .ok (.isub, 1) := by decide +kernel
theorem dX4_operandAt_31 : decode cX4_operandAt 31 = .ok (.istore_n 3, 1) := by decide +kernel
theorem dX4_operandAt_32 : decode cX4_operandAt 32 = .ok (.iinc 4 1, 3) := by decide +kernel
theorem dX4_operandAt_35 : decode cX4_operandAt 35 = .ok (.goto (-28), 3) := by decide +kernel
theorem dX4_operandAt_38 : decode cX4_operandAt 38 = .ok (.iload_n 3, 1) := by decide +kernel
theorem dX4_operandAt_39 : decode cX4_operandAt 39 = .ok (.ifCond .lt 13, 3) := by decide +kernel
theorem dX4_operandAt_42 : decode cX4_operandAt 42 = .ok (.iload_n 3, 1) := by decide +kernel
theorem dX4_operandAt_43 : decode cX4_operandAt 43 = .ok (.bipush 60, 2) := by decide +kernel
theorem dX4_operandAt_45 : decode cX4_operandAt 45 = .ok (.if_icmp .ge 7, 3) := by decide +kernel
theorem dX4_operandAt_48 : decode cX4_operandAt 48 = .ok (.iload_n 3, 1) := by decide +kernel
theorem dX4_operandAt_49 : decode cX4_operandAt 49 = .ok (.goto 4, 3) := by decide +kernel
theorem dX4_operandAt_52 : decode cX4_operandAt 52 = .ok (.iconst 0, 1) := by decide +kernel
theorem dX4_operandAt_53 : decode cX4_operandAt 53 = .ok (.ireturn, 1) := by decide +kernel
theorem dX5_init_0 : decode cX5_init 0 = .ok (.aload_n 0, 1) := by decide +kernel
theorem dX5_init_1 : decode cX5_init 1 = .ok (.invokespecial 3, 3) := by decide +kernel
theorem dX5_init_4 : decode cX5_init 4 = .ok (.aload_n 0, 1) := by decide +kernel
theorem dX5_init_5 : decode cX5_init 5 = .ok (.sipush 360, 3) := by decide +kernel
theorem dX5_init_8 : decode cX5_init 8 = .ok (.newarray .int, 2) := by decide +kernel
theorem dX5_init_10 : decode cX5_init 10 = .ok (.putfield 11, 3) := by decide +kernel
theorem dX5_init_13 : decode cX5_init 13 = .ok (.aload_n 0, 1) := by decide +kernel
theorem dX5_init_14 : decode cX5_init 14 = .ok (.bipush 60, 2) := by decide +kernel
theorem dX5_init_16 : decode cX5_init 16 = .ok (.newarray .int, 2) := by decide +kernel
theorem dX5_init_18 : decode cX5_init 18 = .ok (.putfield 15, 3) := by decide +kernel
theorem dX5_init_21 : decode cX5_init 21 = .ok (.aload_n 0, 1) := by decide +kernel
theorem dX5_init_22 : decode cX5_init 22 = .ok (.bipush 60, 2) := by decide +kernel
theorem dX5_init_24 : decode cX5_init 24 = .ok (.newarray .boolean, 2) := by decide +kernel
theorem dX5_init_26 : decode cX5_init 26 = .ok (.putfield 18, 3) := by decide +kernel
theorem dX5_init_29 : decode cX5_init 29 = .ok (.aload_n 0, 1) := by decide +kernel
theorem dX5_init_30 : decode cX5_init 30 = .ok (.bipush 60, 2) := by decide +kernel
theorem dX5_init_32 : decode cX5_init 32 = .ok (.newarray .int, 2) := by decide +kernel
theorem dX5_init_34 : decode cX5_init 34 = .ok (.putfield 22, 3) := by decide +kernel
theorem dX5_init_37 : decode cX5_init 37 = .ok (.aload_n 0, 1) := by decide +kernel
theorem dX5_init_38 : decode cX5_init 38 = .ok (.iconst 0, 1) := by decide +kernel
theorem dX5_init_39 : decode cX5_init 39 = .ok (.putfield 25, 3) := by decide +kernel
theorem dX5_init_42 : decode cX5_init 42 = .ok (.return_, 1) := by decide +kernel
theorem dX5_byteCount_0 : decode cX5_byteCount 0 = .ok (.aload_n 0, 1) := by decide +kernel
theorem dX5_byteCount_1 : decode cX5_byteCount 1 = .ok (.getfield 25, 3) := by decide +kernel
theorem dX5_byteCount_4 : decode cX5_byteCount 4 = .ok (.ireturn, 1) := by decide +kernel
theorem dX5_byteAt_0 : decode cX5_byteAt 0 = .ok (.iload_n 1, 1) := by decide +kernel
theorem dX5_byteAt_1 : decode cX5_byteAt 1 = .ok (.ifCond .lt 27, 3) := by decide +kernel
theorem dX5_byteAt_4 : decode cX5_byteAt 4 = .ok (.iload_n 1, 1) := by decide +kernel
theorem dX5_byteAt_5 : decode cX5_byteAt 5 = .ok (.aload_n 0, 1) := by decide +kernel
theorem dX5_byteAt_6 : decode cX5_byteAt 6 = .ok (.getfield 25, 3) := by decide +kernel
theorem dX5_byteAt_9 : decode cX5_byteAt 9 = .ok (.if_icmp .ge 19, 3) := by decide +kernel
theorem dX5_byteAt_12 : decode cX5_byteAt 12 = .ok (.iload_n 1, 1) := by decide +kernel
theorem dX5_byteAt_13 : decode cX5_byteAt 13 = .ok (.sipush 360, 3) := by decide +kernel
theorem dX5_byteAt_16 : decode cX5_byteAt 16 = .ok (.if_icmp .ge 12, 3) := by decide +kernel
theorem dX5_byteAt_19 : decode cX5_byteAt 19 = .ok (.aload_n 0, 1) := by decide +kernel
theorem dX5_byteAt_20 : decode cX5_byteAt 20 = .ok (.getfield 11, 3) := by decide +kernel
theorem dX5_byteAt_23 : decode cX5_byteAt 23 = .ok (.iload_n 1, 1) := by decide +kernel
theorem dX5_byteAt_24 : decode cX5_byteAt 24 = .ok (.iaload, 1) := by decide +kernel
theorem dX5_byteAt_25 : decode cX5_byteAt 25 = .ok (.goto 4, 3) := by decide +kernel
theorem dX5_byteAt_28 : decode cX5_byteAt 28 = .ok (.iconst (-1), 1) := by decide +kernel
theorem dX5_byteAt_29 : decode cX5_byteAt 29 = .ok (.ireturn, 1) := by decide +kernel
theorem dX5_print_0 : decode cX5_print 0 = .ok (.aload_n 1, 1) := by decide +kernel
theorem dX5_print_1 : decode cX5_print 1 = .ok (.invokevirtual 29, 3) := by decide +kernel
theorem dX5_print_4 : decode cX5_print 4 = .ok (.istore_n 2, 1) := by decide +kernel
theorem dX5_print_5 : decode cX5_print 5 = .ok (.iload_n 2, 1) := by decide +kernel
theorem dX5_print_6 : decode cX5_print 6 = .ok (.iconst 1, 1) := by decide +kernel
theorem dX5_print_7 : decode cX5_print 7 = .ok (.if_icmp .lt 9, 3) := by decide +kernel
theorem dX5_print_10 : decode cX5_print 10 = .ok (.iload_n 2, 1) := by decide +kernel
theorem dX5_print_11 : decode cX5_print 11 = .ok (.bipush 60, 2) := by decide +kernel
theorem dX5_print_13 : decode cX5_print 13 = .ok (.if_icmp .le 9, 3) := by decide +kernel
theorem dX5_print_16 : decode cX5_print 16 = .ok (.aload_n 0, 1) := by decide +kernel
theorem dX5_print_17 : decode cX5_print 17 = .ok (.iconst 0, 1) := by decide +kernel
theorem dX5_print_18 : decode cX5_print 18 = .ok (.putfield 25, 3) := by decide +kernel
theorem dX5_print_21 : decode cX5_print 21 = .ok (.return_, 1) := by decide +kernel
theorem dX5_print_22 : decode cX5_print 22 = .ok (.iconst 0, 1) := by decide +kernel
theorem dX5_print_23 : decode cX5_print 23 = .ok (.istore_n 3, 1) := by decide +kernel
theorem dX5_print_24 : decode cX5_print 24 = .ok (.iload_n 3, 1) := by decide +kernel
theorem dX5_print_25 : decode cX5_print 25 = .ok (.iload_n 2, 1) := by decide +kernel
theorem dX5_print_26 : decode cX5_print 26 = .ok (.if_icmp .ge 28, 3) := by decide +kernel
theorem dX5_print_29 : decode cX5_print 29 = .ok (.aload_n 0, 1) := by decide +kernel
theorem dX5_print_30 : decode cX5_print 30 = .ok (.getfield 18, 3) := by decide +kernel
theorem dX5_print_33 : decode cX5_print 33 = .ok (.iload_n 3, 1) := by decide +kernel
theorem dX5_print_34 : decode cX5_print 34 = .ok (.iconst 0, 1) := by decide +kernel
theorem dX5_print_35 : decode cX5_print 35 = .ok (.bastore, 1) := by decide +kernel
theorem dX5_print_36 : decode cX5_print 36 = .ok (.aload_n 0, 1) := by decide +kernel
theorem dX5_print_37 : decode cX5_print 37 = .ok (.getfield 15, 3) := by decide +kernel
theorem dX5_print_40 : decode cX5_print 40 = .ok (.iload_n 3, 1) := by decide +kernel
theorem dX5_print_41 : decode cX5_print 41 = .ok (.aload_n 0, 1) := by decide +kernel
theorem dX5_print_42 : decode cX5_print 42 = .ok (.aload_n 1, 1) := by decide +kernel
theorem dX5_print_43 : decode cX5_print 43 = .ok (.iload_n 3, 1) := by decide +kernel
theorem dX5_print_44 : decode cX5_print 44 = .ok (.invokevirtual 35, 3) := by decide +kernel
theorem dX5_print_47 : decode cX5_print 47 = .ok (.iastore, 1) := by decide +kernel
theorem dX5_print_48 : decode cX5_print 48 = .ok (.iinc 3 1, 3) := by decide +kernel
theorem dX5_print_51 : decode cX5_print 51 = .ok (.goto (-27), 3) := by decide +kernel
theorem dX5_print_54 : decode cX5_print 54 = .ok (.aload_n 0, 1) := by decide +kernel
theorem dX5_print_55 : decode cX5_print 55 = .ok (.aload_n 0, 1) := by decide +kernel
theorem dX5_print_56 : decode cX5_print 56 = .ok (.getfield 15, 3) := by decide +kernel
theorem dX5_print_59 : decode cX5_print 59 = .ok (.iload_n 2, 1) := by decide +kernel
theorem dX5_print_60 : decode cX5_print 60 = .ok (.iconst 1, 1) := by decide +kernel
theorem dX5_print_61 : decode cX5_print 61 = .ok (.isub, 1) := by decide +kernel
theorem dX5_print_62 : decode cX5_print 62 = .ok (.iaload, 1) := by decide +kernel
theorem dX5_print_63 : decode cX5_print 63 = .ok (.putfield 25, 3) := by decide +kernel
theorem dX5_print_66 : decode cX5_print 66 = .ok (.aload_n 0, 1) := by decide +kernel
theorem dX5_print_67 : decode cX5_print 67 = .ok (.getfield 22, 3) := by decide +kernel
theorem dX5_print_70 : decode cX5_print 70 = .ok (.iload_n 2, 1) := by decide +kernel
theorem dX5_print_71 : decode cX5_print 71 = .ok (.iconst 1, 1) := by decide +kernel
theorem dX5_print_72 : decode cX5_print 72 = .ok (.isub, 1) := by decide +kernel
theorem dX5_print_73 : decode cX5_print 73 = .ok (.iconst 0, 1) := by decide +kernel
theorem dX5_print_74 : decode cX5_print 74 = .ok (.iastore, 1) := by decide +kernel
theorem dX5_print_75 : decode cX5_print 75 = .ok (.iload_n 2, 1) := by decide +kernel
theorem dX5_print_76 : decode cX5_print 76 = .ok (.iconst 1, 1) := by decide +kernel
theorem dX5_print_77 : decode cX5_print 77 = .ok (.isub, 1) := by decide +kernel
theorem dX5_print_78 : decode cX5_print 78 = .ok (.istore_n 3, 1) := by decide +kernel
theorem dX5_print_79 : decode cX5_print 79 = .ok (.iload_n 3, 1) := by decide +kernel
theorem dX5_print_80 : decode cX5_print 80 = .ok (.ifCond .lt 15, 3) := by decide +kernel
theorem dX5_print_83 : decode cX5_print 83 = .ok (.aload_n 0, 1) := by decide +kernel
theorem dX5_print_84 : decode cX5_print 84 = .ok (.aload_n 1, 1) := by decide +kernel
theorem dX5_print_85 : decode cX5_print 85 = .ok (.iload_n 3, 1) := by decide +kernel
theorem dX5_print_86 : decode cX5_print 86 = .ok (.invokevirtual 39, 3) := by decide +kernel
theorem dX5_print_89 : decode cX5_print 89 = .ok (.iinc 3 (-1), 3) := by decide +kernel
theorem dX5_print_92 : decode cX5_print 92 = .ok (.goto (-13), 3) := by decide +kernel
theorem dX5_print_95 : decode cX5_print 95 = .ok (.return_, 1) := by decide +kernel
theorem dX5_measured_0 : decode cX5_measured 0 = .ok (.aload_n 1, 1) := by decide +kernel
theorem dX5_measured_1 : decode cX5_measured 1 = .ok (.iload_n 2, 1) := by decide +kernel
theorem dX5_measured_2 : decode cX5_measured 2 = .ok (.invokevirtual 43, 3) := by decide +kernel
theorem dX5_measured_5 : decode cX5_measured 5 = .ok (.istore_n 3, 1) := by decide +kernel
theorem dX5_measured_6 : decode cX5_measured 6 = .ok (.iload_n 3, 1) := by decide +kernel
theorem dX5_measured_7 : decode cX5_measured 7 = .ok (.invokestatic 47, 3) := by decide +kernel
theorem dX5_measured_10 : decode cX5_measured 10 = .ok (.istore 4, 2) := by decide +kernel
theorem dX5_measured_12 : decode cX5_measured 12 = .ok (.iload_n 3, 1) := by decide +kernel
theorem dX5_measured_13 : decode cX5_measured 13 = .ok (.invokestatic 50, 3) := by decide +kernel
theorem dX5_measured_16 : decode cX5_measured 16 = .ok (.istore 5, 2) := by decide +kernel
theorem dX5_measured_18 : decode cX5_measured 18 = .ok (.iconst 0, 1) := by decide +kernel
theorem dX5_measured_19 : decode cX5_measured 19 = .ok (.istore 6, 2) := by decide +kernel
theorem dX5_measured_21 : decode cX5_measured 21 = .ok (.iload 6, 2) := by decide +kernel
theorem dX5_measured_23 : decode cX5_measured 23 = .ok (.iload 4, 2) := by decide +kernel
theorem dX5_measured_25 : decode cX5_measured 25 = .ok (.if_icmp .ge 84, 3) := by decide +kernel
theorem dX5_measured_28 : decode cX5_measured 28 = .ok (.aload_n 1, 1) := by decide +kernel
theorem dX5_measured_29 : decode cX5_measured 29 = .ok (.iload_n 2, 1) := by decide +kernel
theorem dX5_measured_30 : decode cX5_measured 30 = .ok (.iload 6, 2) := by decide +kernel
theorem dX5_measured_32 : decode cX5_measured 32 = .ok (.invokevirtual 53, 3) := by decide +kernel
theorem dX5_measured_35 : decode cX5_measured 35 = .ok (.istore 7, 2) := by decide +kernel
theorem dX5_measured_37 : decode cX5_measured 37 = .ok (.iload 7, 2) := by decide +kernel
theorem dX5_measured_39 : decode cX5_measured 39 = .ok (.ifCond .lt 64, 3) := by decide +kernel
theorem dX5_measured_42 : decode cX5_measured 42 = .ok (.iload 7, 2) := by decide +kernel
theorem dX5_measured_44 : decode cX5_measured 44 = .ok (.bipush 60, 2) := by decide +kernel
theorem dX5_measured_46 : decode cX5_measured 46 = .ok (.if_icmp .ge 57, 3) := by decide +kernel
theorem dX5_measured_49 : decode cX5_measured 49 = .ok (.iload_n 3, 1) := by decide +kernel
theorem dX5_measured_50 : decode cX5_measured 50 = .ok (.aload_n 1, 1) := by decide +kernel
theorem dX5_measured_51 : decode cX5_measured 51 = .ok (.iload 7, 2) := by decide +kernel
theorem dX5_measured_53 : decode cX5_measured 53 = .ok (.invokevirtual 43, 3) := by decide +kernel
theorem dX5_measured_56 : decode cX5_measured 56 = .ok (.iload 6, 2) := by decide +kernel
theorem dX5_measured_58 : decode cX5_measured 58 = .ok (.ifCond .ne 7, 3) := by decide +kernel
theorem dX5_measured_61 : decode cX5_measured 61 = .ok (.iconst 1, 1) := by decide +kernel
theorem dX5_measured_62 : decode cX5_measured 62 = .ok (.goto 4, 3) := by decide +kernel
theorem dX5_measured_65 : decode cX5_measured 65 = .ok (.iconst 0, 1) := by decide +kernel
theorem dX5_measured_66 : decode cX5_measured 66 = .ok (.invokestatic 57, 3) := by decide +kernel
theorem dX5_measured_69 : decode cX5_measured 69 = .ok (.ifCond .eq 22, 3) := by decide +kernel
theorem dX5_measured_72 : decode cX5_measured 72 = .ok (.aload_n 0, 1) := by decide +kernel
theorem dX5_measured_73 : decode cX5_measured 73 = .ok (.getfield 18, 3) := by decide +kernel
theorem dX5_measured_76 : decode cX5_measured 76 = .ok (.iload 7, 2) := by decide +kernel
theorem dX5_measured_78 : decode cX5_measured 78 = .ok (.iconst 1, 1) := by decide +kernel
theorem dX5_measured_79 : decode cX5_measured 79 = .ok (.bastore, 1) := by decide +kernel
theorem dX5_measured_80 : decode cX5_measured 80 = .ok (.aload_n 0, 1) := by decide +kernel
theorem dX5_measured_81 : decode cX5_measured 81 = .ok (.getfield 15, 3) := by decide +kernel
theorem dX5_measured_84 : decode cX5_measured 84 = .ok (.iload 7, 2) := by decide +kernel
theorem dX5_measured_86 : decode cX5_measured 86 = .ok (.dup2, 1) := by decide +kernel
theorem dX5_measured_87 : decode cX5_measured 87 = .ok (.iaload, 1) := by decide +kernel
theorem dX5_measured_88 : decode cX5_measured 88 = .ok (.iconst 2, 1) := by decide +kernel
theorem dX5_measured_89 : decode cX5_measured 89 = .ok (.iadd, 1) := by decide +kernel
theorem dX5_measured_90 : decode cX5_measured 90 = .ok (.iastore, 1) := by decide +kernel
theorem dX5_measured_91 : decode cX5_measured 91 = .ok (.iload 5, 2) := by decide +kernel
theorem dX5_measured_93 : decode cX5_measured 93 = .ok (.aload_n 0, 1) := by decide +kernel
theorem dX5_measured_94 : decode cX5_measured 94 = .ok (.getfield 15, 3) := by decide +kernel
theorem dX5_measured_97 : decode cX5_measured 97 = .ok (.iload 7, 2) := by decide +kernel
theorem dX5_measured_99 : decode cX5_measured 99 = .ok (.iaload, 1) := by decide +kernel
theorem dX5_measured_100 : decode cX5_measured 100 = .ok (.iadd, 1) := by decide +kernel
theorem dX5_measured_101 : decode cX5_measured 101 = .ok (.istore 5, 2) := by decide +kernel
theorem dX5_measured_103 : decode cX5_measured 103 = .ok (.iinc 6 1, 3) := by decide +kernel
theorem dX5_measured_106 : decode cX5_measured 106 = .ok (.goto (-85), 3) := by decide +kernel
theorem dX5_measured_109 : decode cX5_measured 109 = .ok (.iload 5, 2) := by decide +kernel
theorem dX5_measured_111 : decode cX5_measured 111 = .ok (.ireturn, 1) := by decide +kernel
theorem dX5_ownLength_0 : decode cX5_ownLength 0 = .ok (.iload_n 0, 1) := by decide +kernel
theorem dX5_ownLength_1 : decode cX5_ownLength 1 = .ok (.lookupswitch 39 #[(2, 35), (3, 35), (8, 37)], 35) := by decide +kernel
theorem dX5_ownLength_36 : decode cX5_ownLength 36 = .ok (.iconst 3, 1) := by decide +kernel
theorem dX5_ownLength_37 : decode cX5_ownLength 37 = .ok (.ireturn, 1) := by decide +kernel
theorem dX5_ownLength_38 : decode cX5_ownLength 38 = .ok (.iconst 4, 1) := by decide +kernel
theorem dX5_ownLength_39 : decode cX5_ownLength 39 = .ok (.ireturn, 1) := by decide +kernel
theorem dX5_ownLength_40 : decode cX5_ownLength 40 = .ok (.iconst 1, 1) := by decide +kernel
theorem dX5_ownLength_41 : decode cX5_ownLength 41 = .ok (.ireturn, 1) := by decide +kernel
theorem dX5_needsParentheses_0 : decode cX5_needsParentheses 0 = .ok (.iload_n 0, 1) := by decide +kernel
theorem dX5_needsParentheses_1 : decode cX5_needsParentheses 1 = .ok (.tableswitch 104 4 7 #[31, 46, 66, 88], 31) := by decide +kernel
theorem dX5_needsParentheses_32 : decode cX5_needsParentheses 32 = .ok (.iload_n 2, 1) := by decide +kernel
theorem dX5_needsParentheses_33 : decode cX5_needsParentheses 33 = .ok (.ifCond .eq 12, 3) := by decide +kernel
theorem dX5_needsParentheses_36 : decode cX5_needsParentheses 36 = .ok (.iload_n 1, 1) := by decide +kernel
theorem dX5_needsParentheses_37 : decode cX5_needsParentheses 37 = .ok (.iconst 4, 1) := by decide +kernel
theorem dX5_needsParentheses_38 : decode cX5_needsParentheses 38 = .ok (.if_icmp .ne 7, 3) := by decide +kernel
theorem dX5_needsParentheses_41 : decode cX5_needsParentheses 41 = .ok (.iconst 1, 1) := by decide +kernel
theorem dX5_needsParentheses_42 : decode cX5_needsParentheses 42 = .ok (.goto 4, 3) := by decide +kernel
theorem dX5_needsParentheses_45 : decode cX5_needsParentheses 45 = .ok (.iconst 0, 1) := by decide +kernel
theorem dX5_needsParentheses_46 : decode cX5_needsParentheses 46 = .ok (.ireturn, 1) := by decide +kernel
theorem dX5_needsParentheses_47 : decode cX5_needsParentheses 47 = .ok (.iload_n 1, 1) := by decide +kernel
theorem dX5_needsParentheses_48 : decode cX5_needsParentheses 48 = .ok (.iconst 4, 1) := by decide +kernel
theorem dX5_needsParentheses_49 : decode cX5_needsParentheses 49 = .ok (.if_icmp .eq 12, 3) := by decide +kernel
theorem dX5_needsParentheses_52 : decode cX5_needsParentheses 52 = .ok (.iload_n 2, 1) := by decide +kernel
theorem dX5_needsParentheses_53 : decode cX5_needsParentheses 53 = .ok (.ifCond .eq 12, 3) := by decide +kernel
theorem dX5_needsParentheses_56 : decode cX5_needsParentheses 56 = .ok (.iload_n 1, 1) := by decide +kernel
theorem dX5_needsParentheses_57 : decode cX5_needsParentheses 57 = .ok (.iconst 5, 1) := by decide +kernel
theorem dX5_needsParentheses_58 : decode cX5_needsParentheses 58 = .ok (.if_icmp .ne 7, 3) := by decide +kernel
theorem dX5_needsParentheses_61 : decode cX5_needsParentheses 61 = .ok (.iconst 1, 1) := by decide +kernel
theorem dX5_needsParentheses_62 : decode cX5_needsParentheses 62 = .ok (.goto 4, 3) := by decide +kernel
theorem dX5_needsParentheses_65 : decode cX5_needsParentheses 65 = .ok (.iconst 0, 1) := by decide +kernel
theorem dX5_needsParentheses_66 : decode cX5_needsParentheses 66 = .ok (.ireturn, 1) := by decide +kernel
theorem dX5_needsParentheses_67 : decode cX5_needsParentheses 67 = .ok (.iload_n 1, 1) := by decide +kernel
theorem dX5_needsParentheses_68 : decode cX5_needsParentheses 68 = .ok (.iconst 4, 1) := by decide +kernel
theorem dX5_needsParentheses_69 : decode cX5_needsParentheses 69 = .ok (.if_icmp .eq 14, 3) := by decide +kernel
theorem dX5_needsParentheses_72 : decode cX5_needsParentheses 72 = .ok (.iload_n 1, 1) := by decide +kernel
theorem dX5_needsParentheses_73 : decode cX5_needsParentheses 73 = .ok (.iconst 5, 1) := by decide +kernel
theorem dX5_needsParentheses_74 : decode cX5_needsParentheses 74 = .ok (.if_icmp .eq 9, 3) := by decide +kernel
theorem dX5_needsParentheses_77 : decode cX5_needsParentheses 77 = .ok (.iload_n 1, 1) := by decide +kernel
theorem dX5_needsParentheses_78 : decode cX5_needsParentheses 78 = .ok (.bipush 7, 2) := by decide +kernel
theorem dX5_needsParentheses_80 : decode cX5_needsParentheses 80 = .ok (.if_icmp .ne 7, 3) := by decide +kernel
theorem dX5_needsParentheses_83 : decode cX5_needsParentheses 83 = .ok (.iconst 1, 1) := by decide +kernel
theorem dX5_needsParentheses_84 : decode cX5_needsParentheses 84 = .ok (.goto 4, 3) := by decide +kernel
theorem dX5_needsParentheses_87 : decode cX5_needsParentheses 87 = .ok (.iconst 0, 1) := by decide +kernel
theorem dX5_needsParentheses_88 : decode cX5_needsParentheses 88 = .ok (.ireturn, 1) := by decide +kernel
theorem dX5_needsParentheses_89 : decode cX5_needsParentheses 89 = .ok (.iload_n 1, 1) := by decide +kernel
theorem dX5_needsParentheses_90 : decode cX5_needsParentheses 90 = .ok (.iconst 4, 1) := by decide +kernel
theorem dX5_needsParentheses_91 : decode cX5_needsParentheses 91 = .ok (.if_icmp .eq 8, 3) := by decide +kernel
theorem dX5_needsParentheses_94 : decode cX5_needsParentheses 94 = .ok (.iload_n 1, 1) := by decide +kernel
theorem dX5_needsParentheses_95 : decode cX5_needsParentheses 95 = .ok (.iconst 5, 1) := by decide +kernel
theorem dX5_needsParentheses_96 : decode cX5_needsParentheses 96 = .ok (.if_icmp .ne 7, 3) := by decide +kernel
theorem dX5_needsParentheses_99 : decode cX5_needsParentheses 99 = .ok (.iconst 1, 1) := by decide +kernel
theorem dX5_needsParentheses_100 : decode cX5_needsParentheses 100 = .ok (.goto 4, 3) := by decide +kernel
theorem dX5_needsParentheses_103 : decode cX5_needsParentheses 103 = .ok (.iconst 0, 1) := by decide +kernel
theorem dX5_needsParentheses_104 : decode cX5_needsParentheses 104 = .ok (.ireturn, 1) := by decide +kernel
theorem dX5_needsParentheses_105 : decode cX5_needsParentheses 105 = .ok (.iconst 0, 1) := by decide +kernel
theorem dX5_needsParentheses_106 : decode cX5_needsParentheses 106 = .ok (.ireturn, 1) := by decide +kernel
theorem dX5_printNode_0 : decode cX5_printNode 0 = .ok (.aload_n 0, 1) := by decide +kernel
theorem dX5_printNode_1 : decode cX5_printNode 1 = .ok (.iload_n 2, 1) := by decide +kernel
theorem dX5_printNode_2 : decode cX5_printNode 2 = .ok (.invokevirtual 61, 3) := by decide +kernel
theorem dX5_printNode_5 : decode cX5_printNode 5 = .ok (.istore_n 3, 1) := by decide +kernel
theorem dX5_printNode_6 : decode cX5_printNode 6 = .ok (.aload_n 1, 1) := by decide +kernel
theorem dX5_printNode_7 : decode cX5_printNode 7 = .ok (.iload_n 2, 1) := by decide +kernel
theorem dX5_printNode_8 : decode cX5_printNode 8 = .ok (.invokevirtual 43, 3) := by decide +kernel
theorem dX5_printNode_11 : decode cX5_printNode 11 = .ok (.tableswitch 153 0 7 #[45, 55, 65, 76, 87, 98, 109, 129], 45) := by decide +kernel
theorem dX5_printNode_56 : decode cX5_printNode 56 = .ok (.aload_n 0, 1) := by decide +kernel
theorem dX5_printNode_57 : decode cX5_printNode 57 = .ok (.iload_n 3, 1) := by decide +kernel
theorem dX5_printNode_58 : decode cX5_printNode 58 = .ok (.bipush 48, 2) := by decide +kernel
theorem dX5_printNode_60 : decode cX5_printNode 60 = .ok (.invokevirtual 64, 3) := by decide +kernel
theorem dX5_printNode_63 : decode cX5_printNode 63 = .ok (.goto 107, 3) := by decide +kernel
theorem dX5_printNode_66 : decode cX5_printNode 66 = .ok (.aload_n 0, 1) := by decide +kernel
theorem dX5_printNode_67 : decode cX5_printNode 67 = .ok (.iload_n 3, 1) := by decide +kernel
theorem dX5_printNode_68 : decode cX5_printNode 68 = .ok (.bipush 49, 2) := by decide +kernel
theorem dX5_printNode_70 : decode cX5_printNode 70 = .ok (.invokevirtual 64, 3) := by decide +kernel
theorem dX5_printNode_73 : decode cX5_printNode 73 = .ok (.goto 97, 3) := by decide +kernel
theorem dX5_printNode_76 : decode cX5_printNode 76 = .ok (.aload_n 0, 1) := by decide +kernel
theorem dX5_printNode_77 : decode cX5_printNode 77 = .ok (.aload_n 1, 1) := by decide +kernel
theorem dX5_printNode_78 : decode cX5_printNode 78 = .ok (.iload_n 2, 1) := by decide +kernel
theorem dX5_printNode_79 : decode cX5_printNode 79 = .ok (.bipush 61, 2) := by decide +kernel
theorem dX5_printNode_81 : decode cX5_printNode 81 = .ok (.invokevirtual 68, 3) := by decide +kernel
theorem dX5_printNode_84 : decode cX5_printNode 84 = .ok (.goto 86, 3) := by decide +kernel
theorem dX5_printNode_87 : decode cX5_printNode 87 = .ok (.aload_n 0, 1) := by decide +kernel
theorem dX5_printNode_88 : decode cX5_printNode 88 = .ok (.aload_n 1, 1) := by decide +kernel
theorem dX5_printNode_89 : decode cX5_printNode 89 = .ok (.iload_n 2, 1) := by decide +kernel
theorem dX5_printNode_90 : decode cX5_printNode 90 = .ok (.bipush 58, 2) := by decide +kernel
theorem dX5_printNode_92 : decode cX5_printNode 92 = .ok (.invokevirtual 68, 3) := by decide +kernel
theorem dX5_printNode_95 : decode cX5_printNode 95 = .ok (.goto 75, 3) := by decide +kernel
theorem dX5_printNode_98 : decode cX5_printNode 98 = .ok (.aload_n 0, 1) := by decide +kernel
theorem dX5_printNode_99 : decode cX5_printNode 99 = .ok (.aload_n 1, 1) := by decide +kernel
theorem dX5_printNode_100 : decode cX5_printNode 100 = .ok (.iload_n 2, 1) := by decide +kernel
theorem dX5_printNode_101 : decode cX5_printNode 101 = .ok (.bipush 43, 2) := by decide +kernel
theorem dX5_printNode_103 : decode cX5_printNode 103 = .ok (.invokevirtual 72, 3) := by decide +kernel
theorem dX5_printNode_106 : decode cX5_printNode 106 = .ok (.goto 64, 3) := by decide +kernel
theorem dX5_printNode_109 : decode cX5_printNode 109 = .ok (.aload_n 0, 1) := by decide +kernel
theorem dX5_printNode_110 : decode cX5_printNode 110 = .ok (.aload_n 1, 1) := by decide +kernel
theorem dX5_printNode_111 : decode cX5_printNode 111 = .ok (.iload_n 2, 1) := by decide +kernel
theorem dX5_printNode_112 : decode cX5_printNode 112 = .ok (.bipush 46, 2) := by decide +kernel
theorem dX5_printNode_114 : decode cX5_printNode 114 = .ok (.invokevirtual 72, 3) := by decide +kernel
theorem dX5_printNode_117 : decode cX5_printNode 117 = .ok (.goto 53, 3) := by decide +kernel
theorem dX5_printNode_120 : decode cX5_printNode 120 = .ok (.aload_n 0, 1) := by decide +kernel
theorem dX5_printNode_121 : decode cX5_printNode 121 = .ok (.aload_n 0, 1) := by decide +kernel
theorem dX5_printNode_122 : decode cX5_printNode 122 = .ok (.aload_n 1, 1) := by decide +kernel
theorem dX5_printNode_123 : decode cX5_printNode 123 = .ok (.iload_n 2, 1) := by decide +kernel
theorem dX5_printNode_124 : decode cX5_printNode 124 = .ok (.iconst 0, 1) := by decide +kernel
theorem dX5_printNode_125 : decode cX5_printNode 125 = .ok (.invokevirtual 53, 3) := by decide +kernel
theorem dX5_printNode_128 : decode cX5_printNode 128 = .ok (.iload_n 3, 1) := by decide +kernel
theorem dX5_printNode_129 : decode cX5_printNode 129 = .ok (.invokevirtual 75, 3) := by decide +kernel
theorem dX5_printNode_132 : decode cX5_printNode 132 = .ok (.bipush 42, 2) := by decide +kernel
theorem dX5_printNode_134 : decode cX5_printNode 134 = .ok (.invokevirtual 64, 3) := by decide +kernel
theorem dX5_printNode_137 : decode cX5_printNode 137 = .ok (.goto 33, 3) := by decide +kernel
theorem dX5_printNode_140 : decode cX5_printNode 140 = .ok (.aload_n 0, 1) := by decide +kernel
theorem dX5_printNode_141 : decode cX5_printNode 141 = .ok (.iload_n 3, 1) := by decide +kernel
theorem dX5_printNode_142 : decode cX5_printNode 142 = .ok (.bipush 33, 2) := by decide +kernel
theorem dX5_printNode_144 : decode cX5_printNode 144 = .ok (.invokevirtual 64, 3) := by decide +kernel
theorem dX5_printNode_147 : decode cX5_printNode 147 = .ok (.aload_n 0, 1) := by decide +kernel
theorem dX5_printNode_148 : decode cX5_printNode 148 = .ok (.aload_n 1, 1) := by decide +kernel
theorem dX5_printNode_149 : decode cX5_printNode 149 = .ok (.iload_n 2, 1) := by decide +kernel
theorem dX5_printNode_150 : decode cX5_printNode 150 = .ok (.iconst 0, 1) := by decide +kernel
theorem dX5_printNode_151 : decode cX5_printNode 151 = .ok (.invokevirtual 53, 3) := by decide +kernel
theorem dX5_printNode_154 : decode cX5_printNode 154 = .ok (.iload_n 3, 1) := by decide +kernel
theorem dX5_printNode_155 : decode cX5_printNode 155 = .ok (.iconst 1, 1) := by decide +kernel
theorem dX5_printNode_156 : decode cX5_printNode 156 = .ok (.iadd, 1) := by decide +kernel
theorem dX5_printNode_157 : decode cX5_printNode 157 = .ok (.invokevirtual 75, 3) := by decide +kernel
theorem dX5_printNode_160 : decode cX5_printNode 160 = .ok (.pop, 1) := by decide +kernel
theorem dX5_printNode_161 : decode cX5_printNode 161 = .ok (.goto 9, 3) := by decide +kernel
theorem dX5_printNode_164 : decode cX5_printNode 164 = .ok (.aload_n 0, 1) := by decide +kernel
theorem dX5_printNode_165 : decode cX5_printNode 165 = .ok (.aload_n 1, 1) := by decide +kernel
theorem dX5_printNode_166 : decode cX5_printNode 166 = .ok (.iload_n 2, 1) := by decide +kernel
theorem dX5_printNode_167 : decode cX5_printNode 167 = .ok (.invokevirtual 78, 3) := by decide +kernel
theorem dX5_printNode_170 : decode cX5_printNode 170 = .ok (.return_, 1) := by decide +kernel
theorem dX5_printLeaf_0 : decode cX5_printLeaf 0 = .ok (.aload_n 0, 1) := by decide +kernel
theorem dX5_printLeaf_1 : decode cX5_printLeaf 1 = .ok (.iload_n 2, 1) := by decide +kernel
theorem dX5_printLeaf_2 : decode cX5_printLeaf 2 = .ok (.invokevirtual 61, 3) := by decide +kernel
theorem dX5_printLeaf_5 : decode cX5_printLeaf 5 = .ok (.istore 4, 2) := by decide +kernel
theorem dX5_printLeaf_7 : decode cX5_printLeaf 7 = .ok (.aload_n 0, 1) := by decide +kernel
theorem dX5_printLeaf_8 : decode cX5_printLeaf 8 = .ok (.iload 4, 2) := by decide +kernel
theorem dX5_printLeaf_10 : decode cX5_printLeaf 10 = .ok (.bipush 120, 2) := by decide +kernel
theorem dX5_printLeaf_12 : decode cX5_printLeaf 12 = .ok (.aload_n 1, 1) := by decide +kernel
theorem dX5_printLeaf_13 : decode cX5_printLeaf 13 = .ok (.iload_n 2, 1) := by decide +kernel
theorem dX5_printLeaf_14 : decode cX5_printLeaf 14 = .ok (.invokevirtual 81, 3) := by decide +kernel
theorem dX5_printLeaf_17 : decode cX5_printLeaf 17 = .ok (.iadd, 1) := by decide +kernel
theorem dX5_printLeaf_18 : decode cX5_printLeaf 18 = .ok (.invokevirtual 64, 3) := by decide +kernel
theorem dX5_printLeaf_21 : decode cX5_printLeaf 21 = .ok (.aload_n 0, 1) := by decide +kernel
theorem dX5_printLeaf_22 : decode cX5_printLeaf 22 = .ok (.iload 4, 2) := by decide +kernel
theorem dX5_printLeaf_24 : decode cX5_printLeaf 24 = .ok (.iconst 1, 1) := by decide +kernel
theorem dX5_printLeaf_25 : decode cX5_printLeaf 25 = .ok (.iadd, 1) := by decide +kernel
theorem dX5_printLeaf_26 : decode cX5_printLeaf 26 = .ok (.iload_n 3, 1) := by decide +kernel
theorem dX5_printLeaf_27 : decode cX5_printLeaf 27 = .ok (.invokevirtual 64, 3) := by decide +kernel
theorem dX5_printLeaf_30 : decode cX5_printLeaf 30 = .ok (.aload_n 0, 1) := by decide +kernel
theorem dX5_printLeaf_31 : decode cX5_printLeaf 31 = .ok (.iload 4, 2) := by decide +kernel
theorem dX5_printLeaf_33 : decode cX5_printLeaf 33 = .ok (.iconst 2, 1) := by decide +kernel
theorem dX5_printLeaf_34 : decode cX5_printLeaf 34 = .ok (.iadd, 1) := by decide +kernel
theorem dX5_printLeaf_35 : decode cX5_printLeaf 35 = .ok (.bipush 48, 2) := by decide +kernel
theorem dX5_printLeaf_37 : decode cX5_printLeaf 37 = .ok (.aload_n 1, 1) := by decide +kernel
theorem dX5_printLeaf_38 : decode cX5_printLeaf 38 = .ok (.iload_n 2, 1) := by decide +kernel
theorem dX5_printLeaf_39 : decode cX5_printLeaf 39 = .ok (.invokevirtual 84, 3) := by decide +kernel
theorem dX5_printLeaf_42 : decode cX5_printLeaf 42 = .ok (.iadd, 1) := by decide +kernel
theorem dX5_printLeaf_43 : decode cX5_printLeaf 43 = .ok (.invokevirtual 64, 3) := by decide +kernel
theorem dX5_printLeaf_46 : decode cX5_printLeaf 46 = .ok (.return_, 1) := by decide +kernel
theorem dX5_printPair_0 : decode cX5_printPair 0 = .ok (.aload_n 0, 1) := by decide +kernel
theorem dX5_printPair_1 : decode cX5_printPair 1 = .ok (.aload_n 1, 1) := by decide +kernel
theorem dX5_printPair_2 : decode cX5_printPair 2 = .ok (.iload_n 2, 1) := by decide +kernel
theorem dX5_printPair_3 : decode cX5_printPair 3 = .ok (.iconst 1, 1) := by decide +kernel
theorem dX5_printPair_4 : decode cX5_printPair 4 = .ok (.invokevirtual 53, 3) := by decide +kernel
theorem dX5_printPair_7 : decode cX5_printPair 7 = .ok (.aload_n 0, 1) := by decide +kernel
theorem dX5_printPair_8 : decode cX5_printPair 8 = .ok (.iload_n 2, 1) := by decide +kernel
theorem dX5_printPair_9 : decode cX5_printPair 9 = .ok (.invokevirtual 61, 3) := by decide +kernel
theorem dX5_printPair_12 : decode cX5_printPair 12 = .ok (.invokevirtual 75, 3) := by decide +kernel
theorem dX5_printPair_15 : decode cX5_printPair 15 = .ok (.istore 4, 2) := by decide +kernel
theorem dX5_printPair_17 : decode cX5_printPair 17 = .ok (.aload_n 0, 1) := by decide +kernel
theorem dX5_printPair_18 : decode cX5_printPair 18 = .ok (.iload 4, 2) := by decide +kernel
theorem dX5_printPair_20 : decode cX5_printPair 20 = .ok (.iload_n 3, 1) := by decide +kernel
theorem dX5_printPair_21 : decode cX5_printPair 21 = .ok (.invokevirtual 64, 3) := by decide +kernel
theorem dX5_printPair_24 : decode cX5_printPair 24 = .ok (.aload_n 0, 1) := by decide +kernel
theorem dX5_printPair_25 : decode cX5_printPair 25 = .ok (.aload_n 1, 1) := by decide +kernel
theorem dX5_printPair_26 : decode cX5_printPair 26 = .ok (.iload_n 2, 1) := by decide +kernel
theorem dX5_printPair_27 : decode cX5_printPair 27 = .ok (.iconst 0, 1) := by decide +kernel
theorem dX5_printPair_28 : decode cX5_printPair 28 = .ok (.invokevirtual 53, 3) := by decide +kernel
theorem dX5_printPair_31 : decode cX5_printPair 31 = .ok (.iload 4, 2) := by decide +kernel
theorem dX5_printPair_33 : decode cX5_printPair 33 = .ok (.iconst 1, 1) := by decide +kernel
theorem dX5_printPair_34 : decode cX5_printPair 34 = .ok (.iadd, 1) := by decide +kernel
theorem dX5_printPair_35 : decode cX5_printPair 35 = .ok (.invokevirtual 75, 3) := by decide +kernel
theorem dX5_printPair_38 : decode cX5_printPair 38 = .ok (.pop, 1) := by decide +kernel
theorem dX5_printPair_39 : decode cX5_printPair 39 = .ok (.return_, 1) := by decide +kernel
theorem dX5_printChoice_0 : decode cX5_printChoice 0 = .ok (.aload_n 0, 1) := by decide +kernel
theorem dX5_printChoice_1 : decode cX5_printChoice 1 = .ok (.iload_n 2, 1) := by decide +kernel
theorem dX5_printChoice_2 : decode cX5_printChoice 2 = .ok (.invokevirtual 61, 3) := by decide +kernel
theorem dX5_printChoice_5 : decode cX5_printChoice 5 = .ok (.istore_n 3, 1) := by decide +kernel
theorem dX5_printChoice_6 : decode cX5_printChoice 6 = .ok (.aload_n 0, 1) := by decide +kernel
theorem dX5_printChoice_7 : decode cX5_printChoice 7 = .ok (.iload_n 3, 1) := by decide +kernel
theorem dX5_printChoice_8 : decode cX5_printChoice 8 = .ok (.bipush 91, 2) := by decide +kernel
theorem dX5_printChoice_10 : decode cX5_printChoice 10 = .ok (.invokevirtual 64, 3) := by decide +kernel
theorem dX5_printChoice_13 : decode cX5_printChoice 13 = .ok (.aload_n 0, 1) := by decide +kernel
theorem dX5_printChoice_14 : decode cX5_printChoice 14 = .ok (.aload_n 1, 1) := by decide +kernel
theorem dX5_printChoice_15 : decode cX5_printChoice 15 = .ok (.iload_n 2, 1) := by decide +kernel
theorem dX5_printChoice_16 : decode cX5_printChoice 16 = .ok (.iconst 2, 1) := by decide +kernel
theorem dX5_printChoice_17 : decode cX5_printChoice 17 = .ok (.invokevirtual 53, 3) := by decide +kernel
theorem dX5_printChoice_20 : decode cX5_printChoice 20 = .ok (.iload_n 3, 1) := by decide +kernel
theorem dX5_printChoice_21 : decode cX5_printChoice 21 = .ok (.iconst 1, 1) := by decide +kernel
theorem dX5_printChoice_22 : decode cX5_printChoice 22 = .ok (.iadd, 1) := by decide +kernel
theorem dX5_printChoice_23 : decode cX5_printChoice 23 = .ok (.invokevirtual 75, 3) := by decide +kernel
theorem dX5_printChoice_26 : decode cX5_printChoice 26 = .ok (.istore 4, 2) := by decide +kernel
theorem dX5_printChoice_28 : decode cX5_printChoice 28 = .ok (.aload_n 0, 1) := by decide +kernel
theorem dX5_printChoice_29 : decode cX5_printChoice 29 = .ok (.iload 4, 2) := by decide +kernel
theorem dX5_printChoice_31 : decode cX5_printChoice 31 = .ok (.bipush 63, 2) := by decide +kernel
theorem dX5_printChoice_33 : decode cX5_printChoice 33 = .ok (.invokevirtual 64, 3) := by decide +kernel
theorem dX5_printChoice_36 : decode cX5_printChoice 36 = .ok (.aload_n 0, 1) := by decide +kernel
theorem dX5_printChoice_37 : decode cX5_printChoice 37 = .ok (.aload_n 1, 1) := by decide +kernel
theorem dX5_printChoice_38 : decode cX5_printChoice 38 = .ok (.iload_n 2, 1) := by decide +kernel
theorem dX5_printChoice_39 : decode cX5_printChoice 39 = .ok (.iconst 1, 1) := by decide +kernel
theorem dX5_printChoice_40 : decode cX5_printChoice 40 = .ok (.invokevirtual 53, 3) := by decide +kernel
theorem dX5_printChoice_43 : decode cX5_printChoice 43 = .ok (.iload 4, 2) := by decide +kernel
theorem dX5_printChoice_45 : decode cX5_printChoice 45 = .ok (.iconst 1, 1) := by decide +kernel
theorem dX5_printChoice_46 : decode cX5_printChoice 46 = .ok (.iadd, 1) := by decide +kernel
theorem dX5_printChoice_47 : decode cX5_printChoice 47 = .ok (.invokevirtual 75, 3) := by decide +kernel
theorem dX5_printChoice_50 : decode cX5_printChoice 50 = .ok (.istore 5, 2) := by decide +kernel
theorem dX5_printChoice_52 : decode cX5_printChoice 52 = .ok (.aload_n 0, 1) := by decide +kernel
theorem dX5_printChoice_53 : decode cX5_printChoice 53 = .ok (.iload 5, 2) := by decide +kernel
theorem dX5_printChoice_55 : decode cX5_printChoice 55 = .ok (.bipush 124, 2) := by decide +kernel
theorem dX5_printChoice_57 : decode cX5_printChoice 57 = .ok (.invokevirtual 64, 3) := by decide +kernel
theorem dX5_printChoice_60 : decode cX5_printChoice 60 = .ok (.aload_n 0, 1) := by decide +kernel
theorem dX5_printChoice_61 : decode cX5_printChoice 61 = .ok (.aload_n 0, 1) := by decide +kernel
theorem dX5_printChoice_62 : decode cX5_printChoice 62 = .ok (.aload_n 1, 1) := by decide +kernel
theorem dX5_printChoice_63 : decode cX5_printChoice 63 = .ok (.iload_n 2, 1) := by decide +kernel
theorem dX5_printChoice_64 : decode cX5_printChoice 64 = .ok (.iconst 0, 1) := by decide +kernel
theorem dX5_printChoice_65 : decode cX5_printChoice 65 = .ok (.invokevirtual 53, 3) := by decide +kernel
theorem dX5_printChoice_68 : decode cX5_printChoice 68 = .ok (.iload 5, 2) := by decide +kernel
theorem dX5_printChoice_70 : decode cX5_printChoice 70 = .ok (.iconst 1, 1) := by decide +kernel
theorem dX5_printChoice_71 : decode cX5_printChoice 71 = .ok (.iadd, 1) := by decide +kernel
theorem dX5_printChoice_72 : decode cX5_printChoice 72 = .ok (.invokevirtual 75, 3) := by decide +kernel
theorem dX5_printChoice_75 : decode cX5_printChoice 75 = .ok (.bipush 93, 2) := by decide +kernel
theorem dX5_printChoice_77 : decode cX5_printChoice 77 = .ok (.invokevirtual 64, 3) := by decide +kernel
theorem dX5_printChoice_80 : decode cX5_printChoice 80 = .ok (.return_, 1) := by decide +kernel
theorem dX5_placed_0 : decode cX5_placed 0 = .ok (.iload_n 1, 1) := by decide +kernel
theorem dX5_placed_1 : decode cX5_placed 1 = .ok (.ifCond .lt 9, 3) := by decide +kernel
theorem dX5_placed_4 : decode cX5_placed 4 = .ok (.iload_n 1, 1) := by decide +kernel
theorem dX5_placed_5 : decode cX5_placed 5 = .ok (.bipush 60, 2) := by decide +kernel
theorem dX5_placed_7 : decode cX5_placed 7 = .ok (.if_icmp .lt 5, 3) := by decide +kernel
theorem dX5_placed_10 : decode cX5_placed 10 = .ok (.iload_n 2, 1) := by decide +kernel
theorem dX5_placed_11 : decode cX5_placed 11 = .ok (.ireturn, 1) := by decide +kernel
theorem dX5_placed_12 : decode cX5_placed 12 = .ok (.iload_n 2, 1) := by decide +kernel
theorem dX5_placed_13 : decode cX5_placed 13 = .ok (.aload_n 0, 1) := by decide +kernel
theorem dX5_placed_14 : decode cX5_placed 14 = .ok (.getfield 15, 3) := by decide +kernel
theorem dX5_placed_17 : decode cX5_placed 17 = .ok (.iload_n 1, 1) := by decide +kernel
theorem dX5_placed_18 : decode cX5_placed 18 = .ok (.iaload, 1) := by decide +kernel
theorem dX5_placed_19 : decode cX5_placed 19 = .ok (.iadd, 1) := by decide +kernel
theorem dX5_placed_20 : decode cX5_placed 20 = .ok (.istore_n 3, 1) := by decide +kernel
theorem dX5_placed_21 : decode cX5_placed 21 = .ok (.aload_n 0, 1) := by decide +kernel
theorem dX5_placed_22 : decode cX5_placed 22 = .ok (.getfield 22, 3) := by decide +kernel
theorem dX5_placed_25 : decode cX5_placed 25 = .ok (.iload_n 1, 1) := by decide +kernel
theorem dX5_placed_26 : decode cX5_placed 26 = .ok (.iload_n 2, 1) := by decide +kernel
theorem dX5_placed_27 : decode cX5_placed 27 = .ok (.iastore, 1) := by decide +kernel
theorem dX5_placed_28 : decode cX5_placed 28 = .ok (.aload_n 0, 1) := by decide +kernel
theorem dX5_placed_29 : decode cX5_placed 29 = .ok (.getfield 18, 3) := by decide +kernel
theorem dX5_placed_32 : decode cX5_placed 32 = .ok (.iload_n 1, 1) := by decide +kernel
theorem dX5_placed_33 : decode cX5_placed 33 = .ok (.baload, 1) := by decide +kernel
theorem dX5_placed_34 : decode cX5_placed 34 = .ok (.ifCond .eq 19, 3) := by decide +kernel
theorem dX5_placed_37 : decode cX5_placed 37 = .ok (.aload_n 0, 1) := by decide +kernel
theorem dX5_placed_38 : decode cX5_placed 38 = .ok (.iload_n 2, 1) := by decide +kernel
theorem dX5_placed_39 : decode cX5_placed 39 = .ok (.bipush 40, 2) := by decide +kernel
theorem dX5_placed_41 : decode cX5_placed 41 = .ok (.invokevirtual 64, 3) := by decide +kernel
theorem dX5_placed_44 : decode cX5_placed 44 = .ok (.aload_n 0, 1) := by decide +kernel
theorem dX5_placed_45 : decode cX5_placed 45 = .ok (.iload_n 3, 1) := by decide +kernel
theorem dX5_placed_46 : decode cX5_placed 46 = .ok (.iconst 1, 1) := by decide +kernel
theorem dX5_placed_47 : decode cX5_placed 47 = .ok (.isub, 1) := by decide +kernel
theorem dX5_placed_48 : decode cX5_placed 48 = .ok (.bipush 41, 2) := by decide +kernel
theorem dX5_placed_50 : decode cX5_placed 50 = .ok (.invokevirtual 64, 3) := by decide +kernel
theorem dX5_placed_53 : decode cX5_placed 53 = .ok (.iload_n 3, 1) := by decide +kernel
theorem dX5_placed_54 : decode cX5_placed 54 = .ok (.ireturn, 1) := by decide +kernel
theorem dX5_innerPlace_0 : decode cX5_innerPlace 0 = .ok (.iload_n 1, 1) := by decide +kernel
theorem dX5_innerPlace_1 : decode cX5_innerPlace 1 = .ok (.ifCond .lt 9, 3) := by decide +kernel
theorem dX5_innerPlace_4 : decode cX5_innerPlace 4 = .ok (.iload_n 1, 1) := by decide +kernel
theorem dX5_innerPlace_5 : decode cX5_innerPlace 5 = .ok (.bipush 60, 2) := by decide +kernel
theorem dX5_innerPlace_7 : decode cX5_innerPlace 7 = .ok (.if_icmp .lt 5, 3) := by decide +kernel
theorem dX5_innerPlace_10 : decode cX5_innerPlace 10 = .ok (.iconst 0, 1) := by decide +kernel
theorem dX5_innerPlace_11 : decode cX5_innerPlace 11 = .ok (.ireturn, 1) := by decide +kernel
theorem dX5_innerPlace_12 : decode cX5_innerPlace 12 = .ok (.aload_n 0, 1) := by decide +kernel
theorem dX5_innerPlace_13 : decode cX5_innerPlace 13 = .ok (.getfield 18, 3) := by decide +kernel
theorem dX5_innerPlace_16 : decode cX5_innerPlace 16 = .ok (.iload_n 1, 1) := by decide +kernel
theorem dX5_innerPlace_17 : decode cX5_innerPlace 17 = .ok (.baload, 1) := by decide +kernel
theorem dX5_innerPlace_18 : decode cX5_innerPlace 18 = .ok (.ifCond .eq 14, 3) := by decide +kernel
theorem dX5_innerPlace_21 : decode cX5_innerPlace 21 = .ok (.aload_n 0, 1) := by decide +kernel
theorem dX5_innerPlace_22 : decode cX5_innerPlace 22 = .ok (.getfield 22, 3) := by decide +kernel
theorem dX5_innerPlace_25 : decode cX5_innerPlace 25 = .ok (.iload_n 1, 1) := by decide +kernel
theorem dX5_innerPlace_26 : decode cX5_innerPlace 26 = .ok (.iaload, 1) := by decide +kernel
theorem dX5_innerPlace_27 : decode cX5_innerPlace 27 = .ok (.iconst 1, 1) := by decide +kernel
theorem dX5_innerPlace_28 : decode cX5_innerPlace 28 = .ok (.iadd, 1) := by decide +kernel
theorem dX5_innerPlace_29 : decode cX5_innerPlace 29 = .ok (.goto 9, 3) := by decide +kernel
theorem dX5_innerPlace_32 : decode cX5_innerPlace 32 = .ok (.aload_n 0, 1) := by decide +kernel
theorem dX5_innerPlace_33 : decode cX5_innerPlace 33 = .ok (.getfield 22, 3) := by decide +kernel
theorem dX5_innerPlace_36 : decode cX5_innerPlace 36 = .ok (.iload_n 1, 1) := by decide +kernel
theorem dX5_innerPlace_37 : decode cX5_innerPlace 37 = .ok (.iaload, 1) := by decide +kernel
theorem dX5_innerPlace_38 : decode cX5_innerPlace 38 = .ok (.ireturn, 1) := by decide +kernel
theorem dX5_put_0 : decode cX5_put 0 = .ok (.iload_n 1, 1) := by decide +kernel
theorem dX5_put_1 : decode cX5_put 1 = .ok (.ifCond .lt 17, 3) := by decide +kernel
theorem dX5_put_4 : decode cX5_put 4 = .ok (.iload_n 1, 1) := by decide +kernel
theorem dX5_put_5 : decode cX5_put 5 = .ok (.sipush 360, 3) := by decide +kernel
theorem dX5_put_8 : decode cX5_put 8 = .ok (.if_icmp .ge 10, 3) := by decide +kernel
theorem dX5_put_11 : decode cX5_put 11 = .ok (.aload_n 0, 1) := by decide +kernel
theorem dX5_put_12 : decode cX5_put 12 = .ok (.getfield 11, 3) := by decide +kernel
theorem dX5_put_15 : decode cX5_put 15 = .ok (.iload_n 1, 1) := by decide +kernel
theorem dX5_put_16 : decode cX5_put 16 = .ok (.iload_n 2, 1) := by decide +kernel
theorem dX5_put_17 : decode cX5_put 17 = .ok (.iastore, 1) := by decide +kernel
theorem dX5_put_18 : decode cX5_put 18 = .ok (.return_, 1) := by decide +kernel
theorem dX6_init_0 : decode cX6_init 0 = .ok (.aload_n 0, 1) := by decide +kernel
theorem dX6_init_1 : decode cX6_init 1 = .ok (.invokespecial 3, 3) := by decide +kernel
theorem dX6_init_4 : decode cX6_init 4 = .ok (.aload_n 0, 1) := by decide +kernel
theorem dX6_init_5 : decode cX6_init 5 = .ok (.bipush 64, 2) := by decide +kernel
theorem dX6_init_7 : decode cX6_init 7 = .ok (.newarray .long, 2) := by decide +kernel
theorem dX6_init_9 : decode cX6_init 9 = .ok (.putfield 9, 3) := by decide +kernel
theorem dX6_init_12 : decode cX6_init 12 = .ok (.return_, 1) := by decide +kernel
theorem dX6_assign_0 : decode cX6_assign 0 = .ok (.iload_n 1, 1) := by decide +kernel
theorem dX6_assign_1 : decode cX6_assign 1 = .ok (.invokestatic 15, 3) := by decide +kernel
theorem dX6_assign_4 : decode cX6_assign 4 = .ok (.ifCond .eq 10, 3) := by decide +kernel
theorem dX6_assign_7 : decode cX6_assign 7 = .ok (.aload_n 0, 1) := by decide +kernel
theorem dX6_assign_8 : decode cX6_assign 8 = .ok (.getfield 9, 3) := by decide +kernel
theorem dX6_assign_11 : decode cX6_assign 11 = .ok (.iload_n 1, 1) := by decide +kernel
theorem dX6_assign_12 : decode cX6_assign 12 = .ok (.lload_n 2, 1) := by decide +kernel
theorem dX6_assign_13 : decode cX6_assign 13 = .ok (.lastore, 1) := by decide +kernel
theorem dX6_assign_14 : decode cX6_assign 14 = .ok (.return_, 1) := by decide +kernel
theorem dX6_imageOf_0 : decode cX6_imageOf 0 = .ok (.iload_n 1, 1) := by decide +kernel
theorem dX6_imageOf_1 : decode cX6_imageOf 1 = .ok (.invokestatic 15, 3) := by decide +kernel
theorem dX6_imageOf_4 : decode cX6_imageOf 4 = .ok (.ifCond .eq 12, 3) := by decide +kernel
theorem dX6_imageOf_7 : decode cX6_imageOf 7 = .ok (.aload_n 0, 1) := by decide +kernel
theorem dX6_imageOf_8 : decode cX6_imageOf 8 = .ok (.getfield 9, 3) := by decide +kernel
theorem dX6_imageOf_11 : decode cX6_imageOf 11 = .ok (.iload_n 1, 1) := by decide +kernel
theorem dX6_imageOf_12 : decode cX6_imageOf 12 = .ok (.laload, 1) := by decide +kernel
theorem dX6_imageOf_13 : decode cX6_imageOf 13 = .ok (.goto 4, 3) := by decide +kernel
theorem dX6_imageOf_16 : decode cX6_imageOf 16 = .ok (.lconst 0, 1) := by decide +kernel
theorem dX6_imageOf_17 : decode cX6_imageOf 17 = .ok (.lreturn, 1) := by decide +kernel
theorem dX6_domain_0 : decode cX6_domain 0 = .ok (.lconst 0, 1) := by decide +kernel
theorem dX6_domain_1 : decode cX6_domain 1 = .ok (.lstore_n 1, 1) := by decide +kernel
theorem dX6_domain_2 : decode cX6_domain 2 = .ok (.iconst 0, 1) := by decide +kernel
theorem dX6_domain_3 : decode cX6_domain 3 = .ok (.istore_n 3, 1) := by decide +kernel
theorem dX6_domain_4 : decode cX6_domain 4 = .ok (.iload_n 3, 1) := by decide +kernel
theorem dX6_domain_5 : decode cX6_domain 5 = .ok (.bipush 64, 2) := by decide +kernel
theorem dX6_domain_7 : decode cX6_domain 7 = .ok (.if_icmp .ge 27, 3) := by decide +kernel
theorem dX6_domain_10 : decode cX6_domain 10 = .ok (.aload_n 0, 1) := by decide +kernel
theorem dX6_domain_11 : decode cX6_domain 11 = .ok (.getfield 9, 3) := by decide +kernel
theorem dX6_domain_14 : decode cX6_domain 14 = .ok (.iload_n 3, 1) := by decide +kernel
theorem dX6_domain_15 : decode cX6_domain 15 = .ok (.laload, 1) := by decide +kernel
theorem dX6_domain_16 : decode cX6_domain 16 = .ok (.lconst 0, 1) := by decide +kernel
theorem dX6_domain_17 : decode cX6_domain 17 = .ok (.lcmp, 1) := by decide +kernel
theorem dX6_domain_18 : decode cX6_domain 18 = .ok (.ifCond .eq 10, 3) := by decide +kernel
theorem dX6_domain_21 : decode cX6_domain 21 = .ok (.lload_n 1, 1) := by decide +kernel
theorem dX6_domain_22 : decode cX6_domain 22 = .ok (.iload_n 3, 1) := by decide +kernel
theorem dX6_domain_23 : decode cX6_domain 23 = .ok (.invokestatic 19, 3) := by decide +kernel
theorem dX6_domain_26 : decode cX6_domain 26 = .ok (.lor, 1) := by decide +kernel
theorem dX6_domain_27 : decode cX6_domain 27 = .ok (.lstore_n 1, 1) := by decide +kernel
theorem dX6_domain_28 : decode cX6_domain 28 = .ok (.iinc 3 1, 3) := by decide +kernel
theorem dX6_domain_31 : decode cX6_domain 31 = .ok (.goto (-27), 3) := by decide +kernel
theorem dX6_domain_34 : decode cX6_domain 34 = .ok (.lload_n 1, 1) := by decide +kernel
theorem dX6_domain_35 : decode cX6_domain 35 = .ok (.lreturn, 1) := by decide +kernel
theorem dX6_widest_0 : decode cX6_widest 0 = .ok (.iconst 0, 1) := by decide +kernel
theorem dX6_widest_1 : decode cX6_widest 1 = .ok (.istore_n 1, 1) := by decide +kernel
theorem dX6_widest_2 : decode cX6_widest 2 = .ok (.iconst 0, 1) := by decide +kernel
theorem dX6_widest_3 : decode cX6_widest 3 = .ok (.istore_n 2, 1) := by decide +kernel
theorem dX6_widest_4 : decode cX6_widest 4 = .ok (.iload_n 2, 1) := by decide +kernel
theorem dX6_widest_5 : decode cX6_widest 5 = .ok (.bipush 64, 2) := by decide +kernel
theorem dX6_widest_7 : decode cX6_widest 7 = .ok (.if_icmp .ge 23, 3) := by decide +kernel
theorem dX6_widest_10 : decode cX6_widest 10 = .ok (.iload_n 1, 1) := by decide +kernel
theorem dX6_widest_11 : decode cX6_widest 11 = .ok (.aload_n 0, 1) := by decide +kernel
theorem dX6_widest_12 : decode cX6_widest 12 = .ok (.getfield 9, 3) := by decide +kernel
theorem dX6_widest_15 : decode cX6_widest 15 = .ok (.iload_n 2, 1) := by decide +kernel
theorem dX6_widest_16 : decode cX6_widest 16 = .ok (.laload, 1) := by decide +kernel
theorem dX6_widest_17 : decode cX6_widest 17 = .ok (.invokestatic 23, 3) := by decide +kernel
theorem dX6_widest_20 : decode cX6_widest 20 = .ok (.invokestatic 29, 3) := by decide +kernel
theorem dX6_widest_23 : decode cX6_widest 23 = .ok (.istore_n 1, 1) := by decide +kernel
theorem dX6_widest_24 : decode cX6_widest 24 = .ok (.iinc 2 1, 3) := by decide +kernel
theorem dX6_widest_27 : decode cX6_widest 27 = .ok (.goto (-23), 3) := by decide +kernel
theorem dX6_widest_30 : decode cX6_widest 30 = .ok (.iload_n 1, 1) := by decide +kernel
theorem dX6_widest_31 : decode cX6_widest 31 = .ok (.ireturn, 1) := by decide +kernel
theorem dX6_mostSteps_0 : decode cX6_mostSteps 0 = .ok (.iconst 0, 1) := by decide +kernel
theorem dX6_mostSteps_1 : decode cX6_mostSteps 1 = .ok (.istore_n 1, 1) := by decide +kernel
theorem dX6_mostSteps_2 : decode cX6_mostSteps 2 = .ok (.iconst 0, 1) := by decide +kernel
theorem dX6_mostSteps_3 : decode cX6_mostSteps 3 = .ok (.istore_n 2, 1) := by decide +kernel
theorem dX6_mostSteps_4 : decode cX6_mostSteps 4 = .ok (.iload_n 2, 1) := by decide +kernel
theorem dX6_mostSteps_5 : decode cX6_mostSteps 5 = .ok (.bipush 64, 2) := by decide +kernel
theorem dX6_mostSteps_7 : decode cX6_mostSteps 7 = .ok (.if_icmp .ge 19, 3) := by decide +kernel
theorem dX6_mostSteps_10 : decode cX6_mostSteps 10 = .ok (.iload_n 1, 1) := by decide +kernel
theorem dX6_mostSteps_11 : decode cX6_mostSteps 11 = .ok (.aload_n 0, 1) := by decide +kernel
theorem dX6_mostSteps_12 : decode cX6_mostSteps 12 = .ok (.iload_n 2, 1) := by decide +kernel
theorem dX6_mostSteps_13 : decode cX6_mostSteps 13 = .ok (.invokevirtual 35, 3) := by decide +kernel
theorem dX6_mostSteps_16 : decode cX6_mostSteps 16 = .ok (.invokestatic 29, 3) := by decide +kernel
theorem dX6_mostSteps_19 : decode cX6_mostSteps 19 = .ok (.istore_n 1, 1) := by decide +kernel
theorem dX6_mostSteps_20 : decode cX6_mostSteps 20 = .ok (.iinc 2 1, 3) := by decide +kernel
theorem dX6_mostSteps_23 : decode cX6_mostSteps 23 = .ok (.goto (-19), 3) := by decide +kernel
theorem dX6_mostSteps_26 : decode cX6_mostSteps 26 = .ok (.iload_n 1, 1) := by decide +kernel
theorem dX6_mostSteps_27 : decode cX6_mostSteps 27 = .ok (.ireturn, 1) := by decide +kernel
theorem dX6_stepsFrom_0 : decode cX6_stepsFrom 0 = .ok (.iload_n 1, 1) := by decide +kernel
theorem dX6_stepsFrom_1 : decode cX6_stepsFrom 1 = .ok (.invokestatic 19, 3) := by decide +kernel
theorem dX6_stepsFrom_4 : decode cX6_stepsFrom 4 = .ok (.lstore_n 2, 1) := by decide +kernel
theorem dX6_stepsFrom_5 : decode cX6_stepsFrom 5 = .ok (.lload_n 2, 1) := by decide +kernel
theorem dX6_stepsFrom_6 : decode cX6_stepsFrom 6 = .ok (.lstore 4, 2) := by decide +kernel
theorem dX6_stepsFrom_8 : decode cX6_stepsFrom 8 = .ok (.iconst (-1), 1) := by decide +kernel
theorem dX6_stepsFrom_9 : decode cX6_stepsFrom 9 = .ok (.istore 6, 2) := by decide +kernel
theorem dX6_stepsFrom_11 : decode cX6_stepsFrom 11 = .ok (.iconst 0, 1) := by decide +kernel
theorem dX6_stepsFrom_12 : decode cX6_stepsFrom 12 = .ok (.istore 7, 2) := by decide +kernel
theorem dX6_stepsFrom_14 : decode cX6_stepsFrom 14 = .ok (.iload 7, 2) := by decide +kernel
theorem dX6_stepsFrom_16 : decode cX6_stepsFrom 16 = .ok (.bipush 64, 2) := by decide +kernel
theorem dX6_stepsFrom_18 : decode cX6_stepsFrom 18 = .ok (.if_icmp .gt 42, 3) := by decide +kernel
theorem dX6_stepsFrom_21 : decode cX6_stepsFrom 21 = .ok (.lload 4, 2) := by decide +kernel
theorem dX6_stepsFrom_23 : decode cX6_stepsFrom 23 = .ok (.lconst 0, 1) := by decide +kernel
theorem dX6_stepsFrom_24 : decode cX6_stepsFrom 24 = .ok (.lcmp, 1) := by decide +kernel
theorem dX6_stepsFrom_25 : decode cX6_stepsFrom 25 = .ok (.ifCond .eq 35, 3) := by decide +kernel
theorem dX6_stepsFrom_28 : decode cX6_stepsFrom 28 = .ok (.iinc 6 1, 3) := by decide +kernel
theorem dX6_stepsFrom_31 : decode cX6_stepsFrom 31 = .ok (.aload_n 0, 1) := by decide +kernel
theorem dX6_stepsFrom_32 : decode cX6_stepsFrom 32 = .ok (.getfield 9, 3) := by decide +kernel
theorem dX6_stepsFrom_35 : decode cX6_stepsFrom 35 = .ok (.iconst 0, 1) := by decide +kernel
theorem dX6_stepsFrom_36 : decode cX6_stepsFrom 36 = .ok (.lload 4, 2) := by decide +kernel
theorem dX6_stepsFrom_38 : decode cX6_stepsFrom 38 = .ok (.invokestatic 39, 3) := by decide +kernel
theorem dX6_stepsFrom_41 : decode cX6_stepsFrom 41 = .ok (.lload_n 2, 1) := by decide +kernel
theorem dX6_stepsFrom_42 : decode cX6_stepsFrom 42 = .ok (.ldc2_w 43, 3) := by decide +kernel
theorem dX6_stepsFrom_45 : decode cX6_stepsFrom 45 = .ok (.lxor, 1) := by decide +kernel
theorem dX6_stepsFrom_46 : decode cX6_stepsFrom 46 = .ok (.land, 1) := by decide +kernel
theorem dX6_stepsFrom_47 : decode cX6_stepsFrom 47 = .ok (.lstore 4, 2) := by decide +kernel
theorem dX6_stepsFrom_49 : decode cX6_stepsFrom 49 = .ok (.lload_n 2, 1) := by decide +kernel
theorem dX6_stepsFrom_50 : decode cX6_stepsFrom 50 = .ok (.lload 4, 2) := by decide +kernel
theorem dX6_stepsFrom_52 : decode cX6_stepsFrom 52 = .ok (.lor, 1) := by decide +kernel
theorem dX6_stepsFrom_53 : decode cX6_stepsFrom 53 = .ok (.lstore_n 2, 1) := by decide +kernel
theorem dX6_stepsFrom_54 : decode cX6_stepsFrom 54 = .ok (.iinc 7 1, 3) := by decide +kernel
theorem dX6_stepsFrom_57 : decode cX6_stepsFrom 57 = .ok (.goto (-43), 3) := by decide +kernel
theorem dX6_stepsFrom_60 : decode cX6_stepsFrom 60 = .ok (.iload 6, 2) := by decide +kernel
theorem dX6_stepsFrom_62 : decode cX6_stepsFrom 62 = .ok (.ireturn, 1) := by decide +kernel
theorem dX6_orderTo_0 : decode cX6_orderTo 0 = .ok (.iconst 1, 1) := by decide +kernel
theorem dX6_orderTo_1 : decode cX6_orderTo 1 = .ok (.istore_n 2, 1) := by decide +kernel
theorem dX6_orderTo_2 : decode cX6_orderTo 2 = .ok (.iconst 1, 1) := by decide +kernel
theorem dX6_orderTo_3 : decode cX6_orderTo 3 = .ok (.istore_n 3, 1) := by decide +kernel
theorem dX6_orderTo_4 : decode cX6_orderTo 4 = .ok (.iconst 0, 1) := by decide +kernel
theorem dX6_orderTo_5 : decode cX6_orderTo 5 = .ok (.istore 4, 2) := by decide +kernel
theorem dX6_orderTo_7 : decode cX6_orderTo 7 = .ok (.iload 4, 2) := by decide +kernel
theorem dX6_orderTo_9 : decode cX6_orderTo 9 = .ok (.bipush 64, 2) := by decide +kernel
theorem dX6_orderTo_11 : decode cX6_orderTo 11 = .ok (.if_icmp .ge 77, 3) := by decide +kernel
theorem dX6_orderTo_14 : decode cX6_orderTo 14 = .ok (.iload_n 2, 1) := by decide +kernel
theorem dX6_orderTo_15 : decode cX6_orderTo 15 = .ok (.ifCond .eq 31, 3) := by decide +kernel
theorem dX6_orderTo_18 : decode cX6_orderTo 18 = .ok (.aload_n 0, 1) := by decide +kernel
theorem dX6_orderTo_19 : decode cX6_orderTo 19 = .ok (.getfield 9, 3) := by decide +kernel
theorem dX6_orderTo_22 : decode cX6_orderTo 22 = .ok (.iload 4, 2) := by decide +kernel
theorem dX6_orderTo_24 : decode cX6_orderTo 24 = .ok (.laload, 1) := by decide +kernel
theorem dX6_orderTo_25 : decode cX6_orderTo 25 = .ok (.aload_n 1, 1) := by decide +kernel
theorem dX6_orderTo_26 : decode cX6_orderTo 26 = .ok (.getfield 9, 3) := by decide +kernel
theorem dX6_orderTo_29 : decode cX6_orderTo 29 = .ok (.iload 4, 2) := by decide +kernel
theorem dX6_orderTo_31 : decode cX6_orderTo 31 = .ok (.laload, 1) := by decide +kernel
theorem dX6_orderTo_32 : decode cX6_orderTo 32 = .ok (.ldc2_w 43, 3) := by decide +kernel
theorem dX6_orderTo_35 : decode cX6_orderTo 35 = .ok (.lxor, 1) := by decide +kernel
theorem dX6_orderTo_36 : decode cX6_orderTo 36 = .ok (.land, 1) := by decide +kernel
theorem dX6_orderTo_37 : decode cX6_orderTo 37 = .ok (.lconst 0, 1) := by decide +kernel
theorem dX6_orderTo_38 : decode cX6_orderTo 38 = .ok (.lcmp, 1) := by decide +kernel
theorem dX6_orderTo_39 : decode cX6_orderTo 39 = .ok (.ifCond .ne 7, 3) := by decide +kernel
theorem dX6_orderTo_42 : decode cX6_orderTo 42 = .ok (.iconst 1, 1) := by decide +kernel
theorem dX6_orderTo_43 : decode cX6_orderTo 43 = .ok (.goto 4, 3) := by decide +kernel
theorem dX6_orderTo_46 : decode cX6_orderTo 46 = .ok (.iconst 0, 1) := by decide +kernel
theorem dX6_orderTo_47 : decode cX6_orderTo 47 = .ok (.istore_n 2, 1) := by decide +kernel
theorem dX6_orderTo_48 : decode cX6_orderTo 48 = .ok (.iload_n 3, 1) := by decide +kernel
theorem dX6_orderTo_49 : decode cX6_orderTo 49 = .ok (.ifCond .eq 31, 3) := by decide +kernel
theorem dX6_orderTo_52 : decode cX6_orderTo 52 = .ok (.aload_n 1, 1) := by decide +kernel
theorem dX6_orderTo_53 : decode cX6_orderTo 53 = .ok (.getfield 9, 3) := by decide +kernel
theorem dX6_orderTo_56 : decode cX6_orderTo 56 = .ok (.iload 4, 2) := by decide +kernel
theorem dX6_orderTo_58 : decode cX6_orderTo 58 = .ok (.laload, 1) := by decide +kernel
theorem dX6_orderTo_59 : decode cX6_orderTo 59 = .ok (.aload_n 0, 1) := by decide +kernel
theorem dX6_orderTo_60 : decode cX6_orderTo 60 = .ok (.getfield 9, 3) := by decide +kernel
theorem dX6_orderTo_63 : decode cX6_orderTo 63 = .ok (.iload 4, 2) := by decide +kernel
theorem dX6_orderTo_65 : decode cX6_orderTo 65 = .ok (.laload, 1) := by decide +kernel
theorem dX6_orderTo_66 : decode cX6_orderTo 66 = .ok (.ldc2_w 43, 3) := by decide +kernel
theorem dX6_orderTo_69 : decode cX6_orderTo 69 = .ok (.lxor, 1) := by decide +kernel
theorem dX6_orderTo_70 : decode cX6_orderTo 70 = .ok (.land, 1) := by decide +kernel
theorem dX6_orderTo_71 : decode cX6_orderTo 71 = .ok (.lconst 0, 1) := by decide +kernel
theorem dX6_orderTo_72 : decode cX6_orderTo 72 = .ok (.lcmp, 1) := by decide +kernel
theorem dX6_orderTo_73 : decode cX6_orderTo 73 = .ok (.ifCond .ne 7, 3) := by decide +kernel
theorem dX6_orderTo_76 : decode cX6_orderTo 76 = .ok (.iconst 1, 1) := by decide +kernel
theorem dX6_orderTo_77 : decode cX6_orderTo 77 = .ok (.goto 4, 3) := by decide +kernel
theorem dX6_orderTo_80 : decode cX6_orderTo 80 = .ok (.iconst 0, 1) := by decide +kernel
theorem dX6_orderTo_81 : decode cX6_orderTo 81 = .ok (.istore_n 3, 1) := by decide +kernel
theorem dX6_orderTo_82 : decode cX6_orderTo 82 = .ok (.iinc 4 1, 3) := by decide +kernel
theorem dX6_orderTo_85 : decode cX6_orderTo 85 = .ok (.goto (-78), 3) := by decide +kernel
theorem dX6_orderTo_88 : decode cX6_orderTo 88 = .ok (.iload_n 2, 1) := by decide +kernel
theorem dX6_orderTo_89 : decode cX6_orderTo 89 = .ok (.ifCond .eq 13, 3) := by decide +kernel
theorem dX6_orderTo_92 : decode cX6_orderTo 92 = .ok (.iload_n 3, 1) := by decide +kernel
theorem dX6_orderTo_93 : decode cX6_orderTo 93 = .ok (.ifCond .eq 7, 3) := by decide +kernel
theorem dX6_orderTo_96 : decode cX6_orderTo 96 = .ok (.iconst 0, 1) := by decide +kernel
theorem dX6_orderTo_97 : decode cX6_orderTo 97 = .ok (.goto 4, 3) := by decide +kernel
theorem dX6_orderTo_100 : decode cX6_orderTo 100 = .ok (.iconst 1, 1) := by decide +kernel
theorem dX6_orderTo_101 : decode cX6_orderTo 101 = .ok (.ireturn, 1) := by decide +kernel
theorem dX6_orderTo_102 : decode cX6_orderTo 102 = .ok (.iload_n 3, 1) := by decide +kernel
theorem dX6_orderTo_103 : decode cX6_orderTo 103 = .ok (.ifCond .eq 7, 3) := by decide +kernel
theorem dX6_orderTo_106 : decode cX6_orderTo 106 = .ok (.iconst 2, 1) := by decide +kernel
theorem dX6_orderTo_107 : decode cX6_orderTo 107 = .ok (.goto 4, 3) := by decide +kernel
theorem dX6_orderTo_110 : decode cX6_orderTo 110 = .ok (.iconst 3, 1) := by decide +kernel
theorem dX6_orderTo_111 : decode cX6_orderTo 111 = .ok (.ireturn, 1) := by decide +kernel
theorem dX6_firstUnlike_0 : decode cX6_firstUnlike 0 = .ok (.iconst 0, 1) := by decide +kernel
theorem dX6_firstUnlike_1 : decode cX6_firstUnlike 1 = .ok (.istore_n 2, 1) := by decide +kernel
theorem dX6_firstUnlike_2 : decode cX6_firstUnlike 2 = .ok (.iload_n 2, 1) := by decide +kernel
theorem dX6_firstUnlike_3 : decode cX6_firstUnlike 3 = .ok (.bipush 64, 2) := by decide +kernel
theorem dX6_firstUnlike_5 : decode cX6_firstUnlike 5 = .ok (.if_icmp .ge 27, 3) := by decide +kernel
theorem dX6_firstUnlike_8 : decode cX6_firstUnlike 8 = .ok (.aload_n 0, 1) := by decide +kernel
theorem dX6_firstUnlike_9 : decode cX6_firstUnlike 9 = .ok (.getfield 9, 3) := by decide +kernel
theorem dX6_firstUnlike_12 : decode cX6_firstUnlike 12 = .ok (.iload_n 2, 1) := by decide +kernel
theorem dX6_firstUnlike_13 : decode cX6_firstUnlike 13 = .ok (.laload, 1) := by decide +kernel
theorem dX6_firstUnlike_14 : decode cX6_firstUnlike 14 = .ok (.aload_n 1, 1) := by decide +kernel
theorem dX6_firstUnlike_15 : decode cX6_firstUnlike 15 = .ok (.getfield 9, 3) := by decide +kernel
theorem dX6_firstUnlike_18 : decode cX6_firstUnlike 18 = .ok (.iload_n 2, 1) := by decide +kernel
theorem dX6_firstUnlike_19 : decode cX6_firstUnlike 19 = .ok (.laload, 1) := by decide +kernel
theorem dX6_firstUnlike_20 : decode cX6_firstUnlike 20 = .ok (.lcmp, 1) := by decide +kernel
theorem dX6_firstUnlike_21 : decode cX6_firstUnlike 21 = .ok (.ifCond .eq 5, 3) := by decide +kernel
theorem dX6_firstUnlike_24 : decode cX6_firstUnlike 24 = .ok (.iload_n 2, 1) := by decide +kernel
theorem dX6_firstUnlike_25 : decode cX6_firstUnlike 25 = .ok (.ireturn, 1) := by decide +kernel
theorem dX6_firstUnlike_26 : decode cX6_firstUnlike 26 = .ok (.iinc 2 1, 3) := by decide +kernel
theorem dX6_firstUnlike_29 : decode cX6_firstUnlike 29 = .ok (.goto (-27), 3) := by decide +kernel
theorem dX6_firstUnlike_32 : decode cX6_firstUnlike 32 = .ok (.iconst (-1), 1) := by decide +kernel
theorem dX6_firstUnlike_33 : decode cX6_firstUnlike 33 = .ok (.ireturn, 1) := by decide +kernel
theorem dX7_init_0 : decode cX7_init 0 = .ok (.aload_n 0, 1) := by decide +kernel
theorem dX7_init_1 : decode cX7_init 1 = .ok (.invokespecial 3, 3) := by decide +kernel
theorem dX7_init_4 : decode cX7_init 4 = .ok (.aload_n 0, 1) := by decide +kernel
theorem dX7_init_5 : decode cX7_init 5 = .ok (.new 9, 3) := by decide +kernel
theorem dX7_init_8 : decode cX7_init 8 = .ok (.dup, 1) := by decide +kernel
theorem dX7_init_9 : decode cX7_init 9 = .ok (.invokespecial 11, 3) := by decide +kernel
theorem dX7_init_12 : decode cX7_init 12 = .ok (.putfield 12, 3) := by decide +kernel
theorem dX7_init_15 : decode cX7_init 15 = .ok (.aload_n 0, 1) := by decide +kernel
theorem dX7_init_16 : decode cX7_init 16 = .ok (.new 18, 3) := by decide +kernel
theorem dX7_init_19 : decode cX7_init 19 = .ok (.dup, 1) := by decide +kernel
theorem dX7_init_20 : decode cX7_init 20 = .ok (.invokespecial 20, 3) := by decide +kernel
theorem dX7_init_23 : decode cX7_init 23 = .ok (.putfield 21, 3) := by decide +kernel
theorem dX7_init_26 : decode cX7_init 26 = .ok (.aload_n 0, 1) := by decide +kernel
theorem dX7_init_27 : decode cX7_init 27 = .ok (.new 25, 3) := by decide +kernel
theorem dX7_init_30 : decode cX7_init 30 = .ok (.dup, 1) := by decide +kernel
theorem dX7_init_31 : decode cX7_init 31 = .ok (.invokespecial 27, 3) := by decide +kernel
theorem dX7_init_34 : decode cX7_init 34 = .ok (.putfield 28, 3) := by decide +kernel
theorem dX7_init_37 : decode cX7_init 37 = .ok (.aload_n 0, 1) := by decide +kernel
theorem dX7_init_38 : decode cX7_init 38 = .ok (.new 32, 3) := by decide +kernel
theorem dX7_init_41 : decode cX7_init 41 = .ok (.dup, 1) := by decide +kernel
theorem dX7_init_42 : decode cX7_init 42 = .ok (.invokespecial 34, 3) := by decide +kernel
theorem dX7_init_45 : decode cX7_init 45 = .ok (.putfield 35, 3) := by decide +kernel
theorem dX7_init_48 : decode cX7_init 48 = .ok (.aload_n 0, 1) := by decide +kernel
theorem dX7_init_49 : decode cX7_init 49 = .ok (.new 39, 3) := by decide +kernel
theorem dX7_init_52 : decode cX7_init 52 = .ok (.dup, 1) := by decide +kernel
theorem dX7_init_53 : decode cX7_init 53 = .ok (.invokespecial 41, 3) := by decide +kernel
theorem dX7_init_56 : decode cX7_init 56 = .ok (.putfield 42, 3) := by decide +kernel
theorem dX7_init_59 : decode cX7_init 59 = .ok (.aload_n 0, 1) := by decide +kernel
theorem dX7_init_60 : decode cX7_init 60 = .ok (.iconst 0, 1) := by decide +kernel
theorem dX7_init_61 : decode cX7_init 61 = .ok (.putfield 46, 3) := by decide +kernel
theorem dX7_init_64 : decode cX7_init 64 = .ok (.aload_n 0, 1) := by decide +kernel
theorem dX7_init_65 : decode cX7_init 65 = .ok (.getfield 12, 3) := by decide +kernel
theorem dX7_init_68 : decode cX7_init 68 = .ok (.iconst 1, 1) := by decide +kernel
theorem dX7_init_69 : decode cX7_init 69 = .ok (.iconst 0, 1) := by decide +kernel
theorem dX7_init_70 : decode cX7_init 70 = .ok (.iconst 0, 1) := by decide +kernel
theorem dX7_init_71 : decode cX7_init 71 = .ok (.invokevirtual 50, 3) := by decide +kernel
theorem dX7_init_74 : decode cX7_init 74 = .ok (.aload_n 0, 1) := by decide +kernel
theorem dX7_init_75 : decode cX7_init 75 = .ok (.getfield 12, 3) := by decide +kernel
theorem dX7_init_78 : decode cX7_init 78 = .ok (.iconst 1, 1) := by decide +kernel
theorem dX7_init_79 : decode cX7_init 79 = .ok (.invokevirtual 54, 3) := by decide +kernel
theorem dX7_init_82 : decode cX7_init 82 = .ok (.return_, 1) := by decide +kernel
theorem dX7_hold_0 : decode cX7_hold 0 = .ok (.aload_n 0, 1) := by decide +kernel
theorem dX7_hold_1 : decode cX7_hold 1 = .ok (.getfield 12, 3) := by decide +kernel
theorem dX7_hold_4 : decode cX7_hold 4 = .ok (.invokevirtual 58, 3) := by decide +kernel
theorem dX7_hold_7 : decode cX7_hold 7 = .ok (.aload_n 0, 1) := by decide +kernel
theorem dX7_hold_8 : decode cX7_hold 8 = .ok (.getfield 12, 3) := by decide +kernel
theorem dX7_hold_11 : decode cX7_hold 11 = .ok (.aload_n 1, 1) := by decide +kernel
theorem dX7_hold_12 : decode cX7_hold 12 = .ok (.invokevirtual 61, 3) := by decide +kernel
theorem dX7_hold_15 : decode cX7_hold 15 = .ok (.aload_n 0, 1) := by decide +kernel
theorem dX7_hold_16 : decode cX7_hold 16 = .ok (.getfield 12, 3) := by decide +kernel
theorem dX7_hold_19 : decode cX7_hold 19 = .ok (.aload_n 1, 1) := by decide +kernel
theorem dX7_hold_20 : decode cX7_hold 20 = .ok (.invokevirtual 65, 3) := by decide +kernel
theorem dX7_hold_23 : decode cX7_hold 23 = .ok (.invokevirtual 54, 3) := by decide +kernel
theorem dX7_hold_26 : decode cX7_hold 26 = .ok (.aload_n 0, 1) := by decide +kernel
theorem dX7_hold_27 : decode cX7_hold 27 = .ok (.iconst 0, 1) := by decide +kernel
theorem dX7_hold_28 : decode cX7_hold 28 = .ok (.putfield 46, 3) := by decide +kernel
theorem dX7_hold_31 : decode cX7_hold 31 = .ok (.return_, 1) := by decide +kernel
theorem dX7_upToDate_0 : decode cX7_upToDate 0 = .ok (.aload_n 0, 1) := by decide +kernel
theorem dX7_upToDate_1 : decode cX7_upToDate 1 = .ok (.getfield 46, 3) := by decide +kernel
theorem dX7_upToDate_4 : decode cX7_upToDate 4 = .ok (.ifCond .ne 53, 3) := by decide +kernel
theorem dX7_upToDate_7 : decode cX7_upToDate 7 = .ok (.aload_n 0, 1) := by decide +kernel
theorem dX7_upToDate_8 : decode cX7_upToDate 8 = .ok (.getfield 21, 3) := by decide +kernel
theorem dX7_upToDate_11 : decode cX7_upToDate 11 = .ok (.aload_n 0, 1) := by decide +kernel
theorem dX7_upToDate_12 : decode cX7_upToDate 12 = .ok (.getfield 12, 3) := by decide +kernel
theorem dX7_upToDate_15 : decode cX7_upToDate 15 = .ok (.invokevirtual 69, 3) := by decide +kernel
theorem dX7_upToDate_18 : decode cX7_upToDate 18 = .ok (.aload_n 1, 1) := by decide +kernel
theorem dX7_upToDate_19 : decode cX7_upToDate 19 = .ok (.aload_n 0, 1) := by decide +kernel
theorem dX7_upToDate_20 : decode cX7_upToDate 20 = .ok (.getfield 12, 3) := by decide +kernel
theorem dX7_upToDate_23 : decode cX7_upToDate 23 = .ok (.aload_n 0, 1) := by decide +kernel
theorem dX7_upToDate_24 : decode cX7_upToDate 24 = .ok (.getfield 28, 3) := by decide +kernel
theorem dX7_upToDate_27 : decode cX7_upToDate 27 = .ok (.invokevirtual 72, 3) := by decide +kernel
theorem dX7_upToDate_30 : decode cX7_upToDate 30 = .ok (.aload_n 0, 1) := by decide +kernel
theorem dX7_upToDate_31 : decode cX7_upToDate 31 = .ok (.getfield 35, 3) := by decide +kernel
theorem dX7_upToDate_34 : decode cX7_upToDate 34 = .ok (.aload_n 0, 1) := by decide +kernel
theorem dX7_upToDate_35 : decode cX7_upToDate 35 = .ok (.getfield 28, 3) := by decide +kernel
theorem dX7_upToDate_38 : decode cX7_upToDate 38 = .ok (.invokevirtual 78, 3) := by decide +kernel
theorem dX7_upToDate_41 : decode cX7_upToDate 41 = .ok (.aload_n 0, 1) := by decide +kernel
theorem dX7_upToDate_42 : decode cX7_upToDate 42 = .ok (.getfield 42, 3) := by decide +kernel
theorem dX7_upToDate_45 : decode cX7_upToDate 45 = .ok (.aload_n 0, 1) := by decide +kernel
theorem dX7_upToDate_46 : decode cX7_upToDate 46 = .ok (.getfield 35, 3) := by decide +kernel
theorem dX7_upToDate_49 : decode cX7_upToDate 49 = .ok (.invokevirtual 82, 3) := by decide +kernel
theorem dX7_upToDate_52 : decode cX7_upToDate 52 = .ok (.aload_n 0, 1) := by decide +kernel
theorem dX7_upToDate_53 : decode cX7_upToDate 53 = .ok (.iconst 1, 1) := by decide +kernel
theorem dX7_upToDate_54 : decode cX7_upToDate 54 = .ok (.putfield 46, 3) := by decide +kernel
theorem dX7_upToDate_57 : decode cX7_upToDate 57 = .ok (.aload_n 0, 1) := by decide +kernel
theorem dX7_upToDate_58 : decode cX7_upToDate 58 = .ok (.areturn, 1) := by decide +kernel
theorem dX7_policy_0 : decode cX7_policy 0 = .ok (.aload_n 0, 1) := by decide +kernel
theorem dX7_policy_1 : decode cX7_policy 1 = .ok (.getfield 12, 3) := by decide +kernel
theorem dX7_policy_4 : decode cX7_policy 4 = .ok (.areturn, 1) := by decide +kernel
theorem dX7_printout_0 : decode cX7_printout 0 = .ok (.aload_n 0, 1) := by decide +kernel
theorem dX7_printout_1 : decode cX7_printout 1 = .ok (.getfield 21, 3) := by decide +kernel
theorem dX7_printout_4 : decode cX7_printout 4 = .ok (.areturn, 1) := by decide +kernel
theorem dX7_relation_0 : decode cX7_relation 0 = .ok (.aload_n 0, 1) := by decide +kernel
theorem dX7_relation_1 : decode cX7_relation 1 = .ok (.getfield 28, 3) := by decide +kernel
theorem dX7_relation_4 : decode cX7_relation 4 = .ok (.areturn, 1) := by decide +kernel
theorem dX7_diagram_0 : decode cX7_diagram 0 = .ok (.aload_n 0, 1) := by decide +kernel
theorem dX7_diagram_1 : decode cX7_diagram 1 = .ok (.getfield 35, 3) := by decide +kernel
theorem dX7_diagram_4 : decode cX7_diagram 4 = .ok (.areturn, 1) := by decide +kernel
theorem dX7_table_0 : decode cX7_table 0 = .ok (.aload_n 0, 1) := by decide +kernel
theorem dX7_table_1 : decode cX7_table 1 = .ok (.getfield 42, 3) := by decide +kernel
theorem dX7_table_4 : decode cX7_table 4 = .ok (.areturn, 1) := by decide +kernel
theorem dX8_init_0 : decode cX8_init 0 = .ok (.aload_n 0, 1) := by decide +kernel
theorem dX8_init_1 : decode cX8_init 1 = .ok (.invokespecial 3, 3) := by decide +kernel
theorem dX8_init_4 : decode cX8_init 4 = .ok (.aload_n 0, 1) := by decide +kernel
theorem dX8_init_5 : decode cX8_init 5 = .ok (.bipush 64, 2) := by decide +kernel
theorem dX8_init_7 : decode cX8_init 7 = .ok (.newarray .int, 2) := by decide +kernel
theorem dX8_init_9 : decode cX8_init 9 = .ok (.putfield 9, 3) := by decide +kernel
theorem dX8_init_12 : decode cX8_init 12 = .ok (.aload_n 0, 1) := by decide +kernel
theorem dX8_init_13 : decode cX8_init 13 = .ok (.bipush 64, 2) := by decide +kernel
theorem dX8_init_15 : decode cX8_init 15 = .ok (.newarray .int, 2) := by decide +kernel
theorem dX8_init_17 : decode cX8_init 17 = .ok (.putfield 15, 3) := by decide +kernel
theorem dX8_init_20 : decode cX8_init 20 = .ok (.aload_n 0, 1) := by decide +kernel
theorem dX8_init_21 : decode cX8_init 21 = .ok (.iconst 0, 1) := by decide +kernel
theorem dX8_init_22 : decode cX8_init 22 = .ok (.putfield 18, 3) := by decide +kernel
theorem dX8_init_25 : decode cX8_init 25 = .ok (.return_, 1) := by decide +kernel
theorem dX8_rowTotal_0 : decode cX8_rowTotal 0 = .ok (.aload_n 0, 1) := by decide +kernel
theorem dX8_rowTotal_1 : decode cX8_rowTotal 1 = .ok (.getfield 18, 3) := by decide +kernel
theorem dX8_rowTotal_4 : decode cX8_rowTotal 4 = .ok (.ireturn, 1) := by decide +kernel
theorem dX8_hasRow_0 : decode cX8_hasRow 0 = .ok (.iload_n 1, 1) := by decide +kernel
theorem dX8_hasRow_1 : decode cX8_hasRow 1 = .ok (.ifCond .lt 15, 3) := by decide +kernel
theorem dX8_hasRow_4 : decode cX8_hasRow 4 = .ok (.iload_n 1, 1) := by decide +kernel
theorem dX8_hasRow_5 : decode cX8_hasRow 5 = .ok (.aload_n 0, 1) := by decide +kernel
theorem dX8_hasRow_6 : decode cX8_hasRow 6 = .ok (.getfield 18, 3) := by decide +kernel
theorem dX8_hasRow_9 : decode cX8_hasRow 9 = .ok (.if_icmp .ge 7, 3) := by decide +kernel
theorem dX8_hasRow_12 : decode cX8_hasRow 12 = .ok (.iconst 1, 1) := by decide +kernel
theorem dX8_hasRow_13 : decode cX8_hasRow 13 = .ok (.goto 4, 3) := by decide +kernel
theorem dX8_hasRow_16 : decode cX8_hasRow 16 = .ok (.iconst 0, 1) := by decide +kernel
theorem dX8_hasRow_17 : decode cX8_hasRow 17 = .ok (.ireturn, 1) := by decide +kernel
theorem dX8_demandsOf_0 : decode cX8_demandsOf 0 = .ok (.iload_n 1, 1) := by decide +kernel
theorem dX8_demandsOf_1 : decode cX8_demandsOf 1 = .ok (.ifCond .lt 18, 3) := by decide +kernel
theorem dX8_demandsOf_4 : decode cX8_demandsOf 4 = .ok (.iload_n 1, 1) := by decide +kernel
theorem dX8_demandsOf_5 : decode cX8_demandsOf 5 = .ok (.bipush 64, 2) := by decide +kernel
theorem dX8_demandsOf_7 : decode cX8_demandsOf 7 = .ok (.if_icmp .ge 12, 3) := by decide +kernel
theorem dX8_demandsOf_10 : decode cX8_demandsOf 10 = .ok (.aload_n 0, 1) := by decide +kernel
theorem dX8_demandsOf_11 : decode cX8_demandsOf 11 = .ok (.getfield 9, 3) := by decide +kernel
theorem dX8_demandsOf_14 : decode cX8_demandsOf 14 = .ok (.iload_n 1, 1) := by decide +kernel
theorem dX8_demandsOf_15 : decode cX8_demandsOf 15 = .ok (.iaload, 1) := by decide +kernel
theorem dX8_demandsOf_16 : decode cX8_demandsOf 16 = .ok (.goto 5, 3) := by decide +kernel
theorem dX8_demandsOf_19 : decode cX8_demandsOf 19 = .ok (.bipush 124, 2) := by decide +kernel
theorem dX8_demandsOf_21 : decode cX8_demandsOf 21 = .ok (.ireturn, 1) := by decide +kernel
theorem dX8_leafOf_0 : decode cX8_leafOf 0 = .ok (.iload_n 1, 1) := by decide +kernel
theorem dX8_leafOf_1 : decode cX8_leafOf 1 = .ok (.ifCond .lt 18, 3) := by decide +kernel
theorem dX8_leafOf_4 : decode cX8_leafOf 4 = .ok (.iload_n 1, 1) := by decide +kernel
theorem dX8_leafOf_5 : decode cX8_leafOf 5 = .ok (.bipush 64, 2) := by decide +kernel
theorem dX8_leafOf_7 : decode cX8_leafOf 7 = .ok (.if_icmp .ge 12, 3) := by decide +kernel
theorem dX8_leafOf_10 : decode cX8_leafOf 10 = .ok (.aload_n 0, 1) := by decide +kernel
theorem dX8_leafOf_11 : decode cX8_leafOf 11 = .ok (.getfield 15, 3) := by decide +kernel
theorem dX8_leafOf_14 : decode cX8_leafOf 14 = .ok (.iload_n 1, 1) := by decide +kernel
theorem dX8_leafOf_15 : decode cX8_leafOf 15 = .ok (.iaload, 1) := by decide +kernel
theorem dX8_leafOf_16 : decode cX8_leafOf 16 = .ok (.goto 4, 3) := by decide +kernel
theorem dX8_leafOf_19 : decode cX8_leafOf 19 = .ok (.iconst 0, 1) := by decide +kernel
theorem dX8_leafOf_20 : decode cX8_leafOf 20 = .ok (.ireturn, 1) := by decide +kernel
theorem dX8_build_0 : decode cX8_build 0 = .ok (.aload_n 0, 1) := by decide +kernel
theorem dX8_build_1 : decode cX8_build 1 = .ok (.iconst 0, 1) := by decide +kernel
theorem dX8_build_2 : decode cX8_build 2 = .ok (.putfield 18, 3) := by decide +kernel
theorem dX8_build_5 : decode cX8_build 5 = .ok (.aload_n 0, 1) := by decide +kernel
theorem dX8_build_6 : decode cX8_build 6 = .ok (.aload_n 1, 1) := by decide +kernel
theorem dX8_build_7 : decode cX8_build 7 = .ok (.aload_n 1, 1) := by decide +kernel
theorem dX8_build_8 : decode cX8_build 8 = .ok (.invokevirtual 22, 3) := by decide +kernel
theorem dX8_build_11 : decode cX8_build 11 = .ok (.bipush 124, 2) := by decide +kernel
theorem dX8_build_13 : decode cX8_build 13 = .ok (.iconst 0, 1) := by decide +kernel
theorem dX8_build_14 : decode cX8_build 14 = .ok (.invokestatic 28, 3) := by decide +kernel
theorem dX8_build_17 : decode cX8_build 17 = .ok (.iconst 0, 1) := by decide +kernel
theorem dX8_build_18 : decode cX8_build 18 = .ok (.istore_n 2, 1) := by decide +kernel
theorem dX8_build_19 : decode cX8_build 19 = .ok (.iconst 0, 1) := by decide +kernel
theorem dX8_build_20 : decode cX8_build 20 = .ok (.istore_n 3, 1) := by decide +kernel
theorem dX8_build_21 : decode cX8_build 21 = .ok (.iload_n 3, 1) := by decide +kernel
theorem dX8_build_22 : decode cX8_build 22 = .ok (.aload_n 0, 1) := by decide +kernel
theorem dX8_build_23 : decode cX8_build 23 = .ok (.getfield 18, 3) := by decide +kernel
theorem dX8_build_26 : decode cX8_build 26 = .ok (.if_icmp .ge 32, 3) := by decide +kernel
theorem dX8_build_29 : decode cX8_build 29 = .ok (.iload_n 3, 1) := by decide +kernel
theorem dX8_build_30 : decode cX8_build 30 = .ok (.bipush 64, 2) := by decide +kernel
theorem dX8_build_32 : decode cX8_build 32 = .ok (.if_icmp .ge 26, 3) := by decide +kernel
theorem dX8_build_35 : decode cX8_build 35 = .ok (.aload_n 1, 1) := by decide +kernel
theorem dX8_build_36 : decode cX8_build 36 = .ok (.aload_n 0, 1) := by decide +kernel
theorem dX8_build_37 : decode cX8_build 37 = .ok (.getfield 15, 3) := by decide +kernel
theorem dX8_build_40 : decode cX8_build 40 = .ok (.iload_n 3, 1) := by decide +kernel
theorem dX8_build_41 : decode cX8_build 41 = .ok (.iaload, 1) := by decide +kernel
theorem dX8_build_42 : decode cX8_build 42 = .ok (.invokevirtual 32, 3) := by decide +kernel
theorem dX8_build_45 : decode cX8_build 45 = .ok (.ifCond .le 7, 3) := by decide +kernel
theorem dX8_build_48 : decode cX8_build 48 = .ok (.iload_n 3, 1) := by decide +kernel
theorem dX8_build_49 : decode cX8_build 49 = .ok (.iconst 1, 1) := by decide +kernel
theorem dX8_build_50 : decode cX8_build 50 = .ok (.iadd, 1) := by decide +kernel
theorem dX8_build_51 : decode cX8_build 51 = .ok (.istore_n 2, 1) := by decide +kernel
theorem dX8_build_52 : decode cX8_build 52 = .ok (.iinc 3 1, 3) := by decide +kernel
theorem dX8_build_55 : decode cX8_build 55 = .ok (.goto (-34), 3) := by decide +kernel
theorem dX8_build_58 : decode cX8_build 58 = .ok (.aload_n 0, 1) := by decide +kernel
theorem dX8_build_59 : decode cX8_build 59 = .ok (.iload_n 2, 1) := by decide +kernel
theorem dX8_build_60 : decode cX8_build 60 = .ok (.putfield 18, 3) := by decide +kernel
theorem dX8_build_63 : decode cX8_build 63 = .ok (.return_, 1) := by decide +kernel
theorem dX8_visit_0 : decode cX8_visit 0 = .ok (.aload_n 1, 1) := by decide +kernel
theorem dX8_visit_1 : decode cX8_visit 1 = .ok (.iload_n 2, 1) := by decide +kernel
theorem dX8_visit_2 : decode cX8_visit 2 = .ok (.invokevirtual 36, 3) := by decide +kernel
theorem dX8_visit_5 : decode cX8_visit 5 = .ok (.ifCond .eq 10, 3) := by decide +kernel
theorem dX8_visit_8 : decode cX8_visit 8 = .ok (.aload_n 0, 1) := by decide +kernel
theorem dX8_visit_9 : decode cX8_visit 9 = .ok (.iload_n 3, 1) := by decide +kernel
theorem dX8_visit_10 : decode cX8_visit 10 = .ok (.iload_n 2, 1) := by decide +kernel
theorem dX8_visit_11 : decode cX8_visit 11 = .ok (.invokevirtual 40, 3) := by decide +kernel
theorem dX8_visit_14 : decode cX8_visit 14 = .ok (.return_, 1) := by decide +kernel
theorem dX8_visit_15 : decode cX8_visit 15 = .ok (.iload 4, 2) := by decide +kernel
theorem dX8_visit_17 : decode cX8_visit 17 = .ok (.iconst 3, 1) := by decide +kernel
theorem dX8_visit_18 : decode cX8_visit 18 = .ok (.if_icmp .lt 4, 3) := by decide +kernel
theorem dX8_visit_21 : decode cX8_visit 21 = .ok (.return_, 1) := by decide +kernel
theorem dX8_visit_22 : decode cX8_visit 22 = .ok (.aload_n 1, 1) := by decide +kernel
theorem dX8_visit_23 : decode cX8_visit 23 = .ok (.iload_n 2, 1) := by decide +kernel
theorem dX8_visit_24 : decode cX8_visit 24 = .ok (.invokevirtual 44, 3) := by decide +kernel
theorem dX8_visit_27 : decode cX8_visit 27 = .ok (.istore 5, 2) := by decide +kernel
theorem dX8_visit_29 : decode cX8_visit 29 = .ok (.aload_n 1, 1) := by decide +kernel
theorem dX8_visit_30 : decode cX8_visit 30 = .ok (.iload_n 2, 1) := by decide +kernel
theorem dX8_visit_31 : decode cX8_visit 31 = .ok (.invokevirtual 47, 3) := by decide +kernel
theorem dX8_visit_34 : decode cX8_visit 34 = .ok (.istore 6, 2) := by decide +kernel
theorem dX8_visit_36 : decode cX8_visit 36 = .ok (.iconst 0, 1) := by decide +kernel
theorem dX8_visit_37 : decode cX8_visit 37 = .ok (.istore 7, 2) := by decide +kernel
theorem dX8_visit_39 : decode cX8_visit 39 = .ok (.iload 7, 2) := by decide +kernel
theorem dX8_visit_41 : decode cX8_visit 41 = .ok (.iconst 4, 1) := by decide +kernel
theorem dX8_visit_42 : decode cX8_visit 42 = .ok (.if_icmp .ge 48, 3) := by decide +kernel
theorem dX8_visit_45 : decode cX8_visit 45 = .ok (.aload_n 1, 1) := by decide +kernel
theorem dX8_visit_46 : decode cX8_visit 46 = .ok (.iload_n 2, 1) := by decide +kernel
theorem dX8_visit_47 : decode cX8_visit 47 = .ok (.iload 7, 2) := by decide +kernel
theorem dX8_visit_49 : decode cX8_visit 49 = .ok (.invokevirtual 50, 3) := by decide +kernel
theorem dX8_visit_52 : decode cX8_visit 52 = .ok (.istore 8, 2) := by decide +kernel
theorem dX8_visit_54 : decode cX8_visit 54 = .ok (.iload 8, 2) := by decide +kernel
theorem dX8_visit_56 : decode cX8_visit 56 = .ok (.iload 6, 2) := by decide +kernel
theorem dX8_visit_58 : decode cX8_visit 58 = .ok (.if_icmp .eq 26, 3) := by decide +kernel
theorem dX8_visit_61 : decode cX8_visit 61 = .ok (.aload_n 0, 1) := by decide +kernel
theorem dX8_visit_62 : decode cX8_visit 62 = .ok (.aload_n 1, 1) := by decide +kernel
theorem dX8_visit_63 : decode cX8_visit 63 = .ok (.iload 8, 2) := by decide +kernel
theorem dX8_visit_65 : decode cX8_visit 65 = .ok (.iload_n 3, 1) := by decide +kernel
theorem dX8_visit_66 : decode cX8_visit 66 = .ok (.iload 7, 2) := by decide +kernel
theorem dX8_visit_68 : decode cX8_visit 68 = .ok (.iconst 4, 1) := by decide +kernel
theorem dX8_visit_69 : decode cX8_visit 69 = .ok (.isub, 1) := by decide +kernel
theorem dX8_visit_70 : decode cX8_visit 70 = .ok (.iload 5, 2) := by decide +kernel
theorem dX8_visit_72 : decode cX8_visit 72 = .ok (.invokestatic 54, 3) := by decide +kernel
theorem dX8_visit_75 : decode cX8_visit 75 = .ok (.imul, 1) := by decide +kernel
theorem dX8_visit_76 : decode cX8_visit 76 = .ok (.iadd, 1) := by decide +kernel
theorem dX8_visit_77 : decode cX8_visit 77 = .ok (.iload 4, 2) := by decide +kernel
theorem dX8_visit_79 : decode cX8_visit 79 = .ok (.iconst 1, 1) := by decide +kernel
theorem dX8_visit_80 : decode cX8_visit 80 = .ok (.iadd, 1) := by decide +kernel
theorem dX8_visit_81 : decode cX8_visit 81 = .ok (.invokestatic 28, 3) := by decide +kernel
theorem dX8_visit_84 : decode cX8_visit 84 = .ok (.iinc 7 1, 3) := by decide +kernel
theorem dX8_visit_87 : decode cX8_visit 87 = .ok (.goto (-48), 3) := by decide +kernel
theorem dX8_visit_90 : decode cX8_visit 90 = .ok (.aload_n 0, 1) := by decide +kernel
theorem dX8_visit_91 : decode cX8_visit 91 = .ok (.aload_n 1, 1) := by decide +kernel
theorem dX8_visit_92 : decode cX8_visit 92 = .ok (.iload 6, 2) := by decide +kernel
theorem dX8_visit_94 : decode cX8_visit 94 = .ok (.iload_n 3, 1) := by decide +kernel
theorem dX8_visit_95 : decode cX8_visit 95 = .ok (.iload 4, 2) := by decide +kernel
theorem dX8_visit_97 : decode cX8_visit 97 = .ok (.iconst 1, 1) := by decide +kernel
theorem dX8_visit_98 : decode cX8_visit 98 = .ok (.iadd, 1) := by decide +kernel
theorem dX8_visit_99 : decode cX8_visit 99 = .ok (.invokestatic 28, 3) := by decide +kernel
theorem dX8_visit_102 : decode cX8_visit 102 = .ok (.return_, 1) := by decide +kernel
theorem dX8_addRow_0 : decode cX8_addRow 0 = .ok (.aload_n 0, 1) := by decide +kernel
theorem dX8_addRow_1 : decode cX8_addRow 1 = .ok (.getfield 18, 3) := by decide +kernel
theorem dX8_addRow_4 : decode cX8_addRow 4 = .ok (.bipush 64, 2) := by decide +kernel
theorem dX8_addRow_6 : decode cX8_addRow 6 = .ok (.if_icmp .ge 33, 3) := by decide +kernel
theorem dX8_addRow_9 : decode cX8_addRow 9 = .ok (.aload_n 0, 1) := by decide +kernel
theorem dX8_addRow_10 : decode cX8_addRow 10 = .ok (.getfield 9, 3) := by decide +kernel
theorem dX8_addRow_13 : decode cX8_addRow 13 = .ok (.aload_n 0, 1) := by decide +kernel
theorem dX8_addRow_14 : decode cX8_addRow 14 = .ok (.getfield 18, 3) := by decide +kernel
theorem dX8_addRow_17 : decode cX8_addRow 17 = .ok (.iload_n 1, 1) := by decide +kernel
theorem dX8_addRow_18 : decode cX8_addRow 18 = .ok (.iastore, 1) := by decide +kernel
theorem dX8_addRow_19 : decode cX8_addRow 19 = .ok (.aload_n 0, 1) := by decide +kernel
theorem dX8_addRow_20 : decode cX8_addRow 20 = .ok (.getfield 15, 3) := by decide +kernel
theorem dX8_addRow_23 : decode cX8_addRow 23 = .ok (.aload_n 0, 1) := by decide +kernel
theorem dX8_addRow_24 : decode cX8_addRow 24 = .ok (.getfield 18, 3) := by decide +kernel
theorem dX8_addRow_27 : decode cX8_addRow 27 = .ok (.iload_n 2, 1) := by decide +kernel
theorem dX8_addRow_28 : decode cX8_addRow 28 = .ok (.iastore, 1) := by decide +kernel
theorem dX8_addRow_29 : decode cX8_addRow 29 = .ok (.aload_n 0, 1) := by decide +kernel
theorem dX8_addRow_30 : decode cX8_addRow 30 = .ok (.dup, 1) := by decide +kernel
theorem dX8_addRow_31 : decode cX8_addRow 31 = .ok (.getfield 18, 3) := by decide +kernel
theorem dX8_addRow_34 : decode cX8_addRow 34 = .ok (.iconst 1, 1) := by decide +kernel
theorem dX8_addRow_35 : decode cX8_addRow 35 = .ok (.iadd, 1) := by decide +kernel
theorem dX8_addRow_36 : decode cX8_addRow 36 = .ok (.putfield 18, 3) := by decide +kernel
theorem dX8_addRow_39 : decode cX8_addRow 39 = .ok (.return_, 1) := by decide +kernel
theorem dX8_firstRowFor_0 : decode cX8_firstRowFor 0 = .ok (.iconst 0, 1) := by decide +kernel
theorem dX8_firstRowFor_1 : decode cX8_firstRowFor 1 = .ok (.istore_n 2, 1) := by decide +kernel
theorem dX8_firstRowFor_2 : decode cX8_firstRowFor 2 = .ok (.iload_n 2, 1) := by decide +kernel
theorem dX8_firstRowFor_3 : decode cX8_firstRowFor 3 = .ok (.aload_n 0, 1) := by decide +kernel
theorem dX8_firstRowFor_4 : decode cX8_firstRowFor 4 = .ok (.getfield 18, 3) := by decide +kernel
theorem dX8_firstRowFor_7 : decode cX8_firstRowFor 7 = .ok (.if_icmp .ge 30, 3) := by decide +kernel
theorem dX8_firstRowFor_10 : decode cX8_firstRowFor 10 = .ok (.iload_n 2, 1) := by decide +kernel
theorem dX8_firstRowFor_11 : decode cX8_firstRowFor 11 = .ok (.bipush 64, 2) := by decide +kernel
theorem dX8_firstRowFor_13 : decode cX8_firstRowFor 13 = .ok (.if_icmp .ge 24, 3) := by decide +kernel
theorem dX8_firstRowFor_16 : decode cX8_firstRowFor 16 = .ok (.iload_n 1, 1) := by decide +kernel
theorem dX8_firstRowFor_17 : decode cX8_firstRowFor 17 = .ok (.aload_n 0, 1) := by decide +kernel
theorem dX8_firstRowFor_18 : decode cX8_firstRowFor 18 = .ok (.getfield 9, 3) := by decide +kernel
theorem dX8_firstRowFor_21 : decode cX8_firstRowFor 21 = .ok (.iload_n 2, 1) := by decide +kernel
theorem dX8_firstRowFor_22 : decode cX8_firstRowFor 22 = .ok (.iaload, 1) := by decide +kernel
theorem dX8_firstRowFor_23 : decode cX8_firstRowFor 23 = .ok (.invokestatic 57, 3) := by decide +kernel
theorem dX8_firstRowFor_26 : decode cX8_firstRowFor 26 = .ok (.ifCond .eq 5, 3) := by decide +kernel
theorem dX8_firstRowFor_29 : decode cX8_firstRowFor 29 = .ok (.iload_n 2, 1) := by decide +kernel
theorem dX8_firstRowFor_30 : decode cX8_firstRowFor 30 = .ok (.ireturn, 1) := by decide +kernel
theorem dX8_firstRowFor_31 : decode cX8_firstRowFor 31 = .ok (.iinc 2 1, 3) := by decide +kernel
theorem dX8_firstRowFor_34 : decode cX8_firstRowFor 34 = .ok (.goto (-32), 3) := by decide +kernel
theorem dX8_firstRowFor_37 : decode cX8_firstRowFor 37 = .ok (.iconst (-1), 1) := by decide +kernel
theorem dX8_firstRowFor_38 : decode cX8_firstRowFor 38 = .ok (.ireturn, 1) := by decide +kernel
theorem dX8_meets_0 : decode cX8_meets 0 = .ok (.iconst 0, 1) := by decide +kernel
theorem dX8_meets_1 : decode cX8_meets 1 = .ok (.istore_n 2, 1) := by decide +kernel
theorem dX8_meets_2 : decode cX8_meets 2 = .ok (.iload_n 2, 1) := by decide +kernel
theorem dX8_meets_3 : decode cX8_meets 3 = .ok (.iconst 3, 1) := by decide +kernel
theorem dX8_meets_4 : decode cX8_meets 4 = .ok (.if_icmp .ge 31, 3) := by decide +kernel
theorem dX8_meets_7 : decode cX8_meets 7 = .ok (.iload_n 1, 1) := by decide +kernel
theorem dX8_meets_8 : decode cX8_meets 8 = .ok (.iload_n 2, 1) := by decide +kernel
theorem dX8_meets_9 : decode cX8_meets 9 = .ok (.invokestatic 61, 3) := by decide +kernel
theorem dX8_meets_12 : decode cX8_meets 12 = .ok (.istore_n 3, 1) := by decide +kernel
theorem dX8_meets_13 : decode cX8_meets 13 = .ok (.iload_n 3, 1) := by decide +kernel
theorem dX8_meets_14 : decode cX8_meets 14 = .ok (.iconst 4, 1) := by decide +kernel
theorem dX8_meets_15 : decode cX8_meets 15 = .ok (.if_icmp .eq 14, 3) := by decide +kernel
theorem dX8_meets_18 : decode cX8_meets 18 = .ok (.iload_n 3, 1) := by decide +kernel
theorem dX8_meets_19 : decode cX8_meets 19 = .ok (.iload_n 0, 1) := by decide +kernel
theorem dX8_meets_20 : decode cX8_meets 20 = .ok (.iload_n 2, 1) := by decide +kernel
theorem dX8_meets_21 : decode cX8_meets 21 = .ok (.invokestatic 64, 3) := by decide +kernel
theorem dX8_meets_24 : decode cX8_meets 24 = .ok (.if_icmp .eq 5, 3) := by decide +kernel
theorem dX8_meets_27 : decode cX8_meets 27 = .ok (.iconst 0, 1) := by decide +kernel
theorem dX8_meets_28 : decode cX8_meets 28 = .ok (.ireturn, 1) := by decide +kernel
theorem dX8_meets_29 : decode cX8_meets 29 = .ok (.iinc 2 1, 3) := by decide +kernel
theorem dX8_meets_32 : decode cX8_meets 32 = .ok (.goto (-30), 3) := by decide +kernel
theorem dX8_meets_35 : decode cX8_meets 35 = .ok (.iconst 1, 1) := by decide +kernel
theorem dX8_meets_36 : decode cX8_meets 36 = .ok (.ireturn, 1) := by decide +kernel
theorem dX9_init_0 : decode cX9_init 0 = .ok (.aload_n 0, 1) := by decide +kernel
theorem dX9_init_1 : decode cX9_init 1 = .ok (.invokespecial 1, 3) := by decide +kernel
theorem dX9_init_4 : decode cX9_init 4 = .ok (.aload_n 0, 1) := by decide +kernel
theorem dX9_init_5 : decode cX9_init 5 = .ok (.sipush 150, 3) := by decide +kernel
theorem dX9_init_8 : decode cX9_init 8 = .ok (.newarray .int, 2) := by decide +kernel
theorem dX9_init_10 : decode cX9_init 10 = .ok (.putfield 9, 3) := by decide +kernel
theorem dX9_init_13 : decode cX9_init 13 = .ok (.aload_n 0, 1) := by decide +kernel
theorem dX9_init_14 : decode cX9_init 14 = .ok (.iconst 0, 1) := by decide +kernel
theorem dX9_init_15 : decode cX9_init 15 = .ok (.putfield 13, 3) := by decide +kernel
theorem dX9_init_18 : decode cX9_init 18 = .ok (.aload_n 0, 1) := by decide +kernel
theorem dX9_init_19 : decode cX9_init 19 = .ok (.iconst 4, 1) := by decide +kernel
theorem dX9_init_20 : decode cX9_init 20 = .ok (.anewarray 17, 3) := by decide +kernel
theorem dX9_init_23 : decode cX9_init 23 = .ok (.putfield 19, 3) := by decide +kernel
theorem dX9_init_26 : decode cX9_init 26 = .ok (.aload_n 0, 1) := by decide +kernel
theorem dX9_init_27 : decode cX9_init 27 = .ok (.new 23, 3) := by decide +kernel
theorem dX9_init_30 : decode cX9_init 30 = .ok (.dup, 1) := by decide +kernel
theorem dX9_init_31 : decode cX9_init 31 = .ok (.invokespecial 25, 3) := by decide +kernel
theorem dX9_init_34 : decode cX9_init 34 = .ok (.putfield 26, 3) := by decide +kernel
theorem dX9_init_37 : decode cX9_init 37 = .ok (.aload_n 0, 1) := by decide +kernel
theorem dX9_init_38 : decode cX9_init 38 = .ok (.iconst 5, 1) := by decide +kernel
theorem dX9_init_39 : decode cX9_init 39 = .ok (.newarray .int, 2) := by decide +kernel
theorem dX9_init_41 : decode cX9_init 41 = .ok (.putfield 30, 3) := by decide +kernel
theorem dX9_init_44 : decode cX9_init 44 = .ok (.aload_n 0, 1) := by decide +kernel
theorem dX9_init_45 : decode cX9_init 45 = .ok (.new 33, 3) := by decide +kernel
theorem dX9_init_48 : decode cX9_init 48 = .ok (.dup, 1) := by decide +kernel
theorem dX9_init_49 : decode cX9_init 49 = .ok (.invokespecial 35, 3) := by decide +kernel
theorem dX9_init_52 : decode cX9_init 52 = .ok (.putfield 36, 3) := by decide +kernel
theorem dX9_init_55 : decode cX9_init 55 = .ok (.aload_n 0, 1) := by decide +kernel
theorem dX9_init_56 : decode cX9_init 56 = .ok (.new 40, 3) := by decide +kernel
theorem dX9_init_59 : decode cX9_init 59 = .ok (.dup, 1) := by decide +kernel
theorem dX9_init_60 : decode cX9_init 60 = .ok (.invokespecial 42, 3) := by decide +kernel
theorem dX9_init_63 : decode cX9_init 63 = .ok (.putfield 43, 3) := by decide +kernel
theorem dX9_init_66 : decode cX9_init 66 = .ok (.aload_n 0, 1) := by decide +kernel
theorem dX9_init_67 : decode cX9_init 67 = .ok (.new 47, 3) := by decide +kernel
theorem dX9_init_70 : decode cX9_init 70 = .ok (.dup, 1) := by decide +kernel
theorem dX9_init_71 : decode cX9_init 71 = .ok (.invokespecial 49, 3) := by decide +kernel
theorem dX9_init_74 : decode cX9_init 74 = .ok (.putfield 50, 3) := by decide +kernel
theorem dX9_init_77 : decode cX9_init 77 = .ok (.iconst 0, 1) := by decide +kernel
theorem dX9_init_78 : decode cX9_init 78 = .ok (.istore_n 1, 1) := by decide +kernel
theorem dX9_init_79 : decode cX9_init 79 = .ok (.iload_n 1, 1) := by decide +kernel
theorem dX9_init_80 : decode cX9_init 80 = .ok (.iconst 4, 1) := by decide +kernel
theorem dX9_init_81 : decode cX9_init 81 = .ok (.if_icmp .ge 22, 3) := by decide +kernel
theorem dX9_init_84 : decode cX9_init 84 = .ok (.aload_n 0, 1) := by decide +kernel
theorem dX9_init_85 : decode cX9_init 85 = .ok (.getfield 19, 3) := by decide +kernel
theorem dX9_init_88 : decode cX9_init 88 = .ok (.iload_n 1, 1) := by decide +kernel
theorem dX9_init_89 : decode cX9_init 89 = .ok (.new 17, 3) := by decide +kernel
theorem dX9_init_92 : decode cX9_init 92 = .ok (.dup, 1) := by decide +kernel
theorem dX9_init_93 : decode cX9_init 93 = .ok (.invokespecial 54, 3) := by decide +kernel
theorem dX9_init_96 : decode cX9_init 96 = .ok (.aastore, 1) := by decide +kernel
theorem dX9_init_97 : decode cX9_init 97 = .ok (.iinc 1 1, 3) := by decide +kernel
theorem dX9_init_100 : decode cX9_init 100 = .ok (.goto (-21), 3) := by decide +kernel
theorem dX9_init_103 : decode cX9_init 103 = .ok (.return_, 1) := by decide +kernel
theorem dX9_append_0 : decode cX9_append 0 = .ok (.iload_n 1, 1) := by decide +kernel
theorem dX9_append_1 : decode cX9_append 1 = .ok (.ifCond .lt 9, 3) := by decide +kernel
theorem dX9_append_4 : decode cX9_append 4 = .ok (.iload_n 1, 1) := by decide +kernel
theorem dX9_append_5 : decode cX9_append 5 = .ok (.bipush 127, 2) := by decide +kernel
theorem dX9_append_7 : decode cX9_append 7 = .ok (.if_icmp .le 10, 3) := by decide +kernel
theorem dX9_append_10 : decode cX9_append 10 = .ok (.aload_n 0, 1) := by decide +kernel
theorem dX9_append_11 : decode cX9_append 11 = .ok (.bipush (-2), 2) := by decide +kernel
theorem dX9_append_13 : decode cX9_append 13 = .ok (.invokevirtual 55, 3) := by decide +kernel
theorem dX9_append_16 : decode cX9_append 16 = .ok (.ireturn, 1) := by decide +kernel
theorem dX9_append_17 : decode cX9_append 17 = .ok (.aload_n 0, 1) := by decide +kernel
theorem dX9_append_18 : decode cX9_append 18 = .ok (.getfield 13, 3) := by decide +kernel
theorem dX9_append_21 : decode cX9_append 21 = .ok (.sipush 150, 3) := by decide +kernel
theorem dX9_append_24 : decode cX9_append 24 = .ok (.if_icmp .lt 10, 3) := by decide +kernel
theorem dX9_append_27 : decode cX9_append 27 = .ok (.aload_n 0, 1) := by decide +kernel
theorem dX9_append_28 : decode cX9_append 28 = .ok (.bipush (-5), 2) := by decide +kernel
theorem dX9_append_30 : decode cX9_append 30 = .ok (.invokevirtual 55, 3) := by decide +kernel
theorem dX9_append_33 : decode cX9_append 33 = .ok (.ireturn, 1) := by decide +kernel
theorem dX9_append_34 : decode cX9_append 34 = .ok (.aload_n 0, 1) := by decide +kernel
theorem dX9_append_35 : decode cX9_append 35 = .ok (.getfield 9, 3) := by decide +kernel
theorem dX9_append_38 : decode cX9_append 38 = .ok (.aload_n 0, 1) := by decide +kernel
theorem dX9_append_39 : decode cX9_append 39 = .ok (.getfield 13, 3) := by decide +kernel
theorem dX9_append_42 : decode cX9_append 42 = .ok (.iload_n 1, 1) := by decide +kernel
theorem dX9_append_43 : decode cX9_append 43 = .ok (.iastore, 1) := by decide +kernel
theorem dX9_append_44 : decode cX9_append 44 = .ok (.aload_n 0, 1) := by decide +kernel
theorem dX9_append_45 : decode cX9_append 45 = .ok (.dup, 1) := by decide +kernel
theorem dX9_append_46 : decode cX9_append 46 = .ok (.getfield 13, 3) := by decide +kernel
theorem dX9_append_49 : decode cX9_append 49 = .ok (.iconst 1, 1) := by decide +kernel
theorem dX9_append_50 : decode cX9_append 50 = .ok (.iadd, 1) := by decide +kernel
theorem dX9_append_51 : decode cX9_append 51 = .ok (.putfield 13, 3) := by decide +kernel
theorem dX9_append_54 : decode cX9_append 54 = .ok (.aload_n 0, 1) := by decide +kernel
theorem dX9_append_55 : decode cX9_append 55 = .ok (.getfield 13, 3) := by decide +kernel
theorem dX9_append_58 : decode cX9_append 58 = .ok (.ireturn, 1) := by decide +kernel
theorem dX9_clearText_0 : decode cX9_clearText 0 = .ok (.aload_n 0, 1) := by decide +kernel
theorem dX9_clearText_1 : decode cX9_clearText 1 = .ok (.getfield 13, 3) := by decide +kernel
theorem dX9_clearText_4 : decode cX9_clearText 4 = .ok (.istore_n 1, 1) := by decide +kernel
theorem dX9_clearText_5 : decode cX9_clearText 5 = .ok (.aload_n 0, 1) := by decide +kernel
theorem dX9_clearText_6 : decode cX9_clearText 6 = .ok (.iconst 0, 1) := by decide +kernel
theorem dX9_clearText_7 : decode cX9_clearText 7 = .ok (.putfield 13, 3) := by decide +kernel
theorem dX9_clearText_10 : decode cX9_clearText 10 = .ok (.iload_n 1, 1) := by decide +kernel
theorem dX9_clearText_11 : decode cX9_clearText 11 = .ok (.ireturn, 1) := by decide +kernel
theorem dX9_parse_0 : decode cX9_parse 0 = .ok (.iload_n 1, 1) := by decide +kernel
theorem dX9_parse_1 : decode cX9_parse 1 = .ok (.invokestatic 59, 3) := by decide +kernel
theorem dX9_parse_4 : decode cX9_parse 4 = .ok (.ifCond .ne 10, 3) := by decide +kernel
theorem dX9_parse_7 : decode cX9_parse 7 = .ok (.aload_n 0, 1) := by decide +kernel
theorem dX9_parse_8 : decode cX9_parse 8 = .ok (.bipush (-2), 2) := by decide +kernel
theorem dX9_parse_10 : decode cX9_parse 10 = .ok (.invokevirtual 55, 3) := by decide +kernel
theorem dX9_parse_13 : decode cX9_parse 13 = .ok (.ireturn, 1) := by decide +kernel
theorem dX9_parse_14 : decode cX9_parse 14 = .ok (.aload_n 0, 1) := by decide +kernel
theorem dX9_parse_15 : decode cX9_parse 15 = .ok (.getfield 36, 3) := by decide +kernel
theorem dX9_parse_18 : decode cX9_parse 18 = .ok (.aload_n 0, 1) := by decide +kernel
theorem dX9_parse_19 : decode cX9_parse 19 = .ok (.getfield 9, 3) := by decide +kernel
theorem dX9_parse_22 : decode cX9_parse 22 = .ok (.aload_n 0, 1) := by decide +kernel
theorem dX9_parse_23 : decode cX9_parse 23 = .ok (.getfield 13, 3) := by decide +kernel
theorem dX9_parse_26 : decode cX9_parse 26 = .ok (.aload_n 0, 1) := by decide +kernel
theorem dX9_parse_27 : decode cX9_parse 27 = .ok (.getfield 19, 3) := by decide +kernel
theorem dX9_parse_30 : decode cX9_parse 30 = .ok (.invokevirtual 63, 3) := by decide +kernel
theorem dX9_parse_33 : decode cX9_parse 33 = .ok (.istore_n 2, 1) := by decide +kernel
theorem dX9_parse_34 : decode cX9_parse 34 = .ok (.iload_n 2, 1) := by decide +kernel
theorem dX9_parse_35 : decode cX9_parse 35 = .ok (.iconst (-1), 1) := by decide +kernel
theorem dX9_parse_36 : decode cX9_parse 36 = .ok (.if_icmp .eq 8, 3) := by decide +kernel
theorem dX9_parse_39 : decode cX9_parse 39 = .ok (.bipush (-10), 2) := by decide +kernel
theorem dX9_parse_41 : decode cX9_parse 41 = .ok (.iload_n 2, 1) := by decide +kernel
theorem dX9_parse_42 : decode cX9_parse 42 = .ok (.isub, 1) := by decide +kernel
theorem dX9_parse_43 : decode cX9_parse 43 = .ok (.ireturn, 1) := by decide +kernel
theorem dX9_parse_44 : decode cX9_parse 44 = .ok (.aload_n 0, 1) := by decide +kernel
theorem dX9_parse_45 : decode cX9_parse 45 = .ok (.aload_n 0, 1) := by decide +kernel
theorem dX9_parse_46 : decode cX9_parse 46 = .ok (.getfield 36, 3) := by decide +kernel
theorem dX9_parse_49 : decode cX9_parse 49 = .ok (.invokevirtual 67, 3) := by decide +kernel
theorem dX9_parse_52 : decode cX9_parse 52 = .ok (.iload_n 1, 1) := by decide +kernel
theorem dX9_parse_53 : decode cX9_parse 53 = .ok (.invokevirtual 71, 3) := by decide +kernel
theorem dX9_parse_56 : decode cX9_parse 56 = .ok (.ireturn, 1) := by decide +kernel
theorem dX9_combine_0 : decode cX9_combine 0 = .ok (.iload_n 1, 1) := by decide +kernel
theorem dX9_combine_1 : decode cX9_combine 1 = .ok (.invokestatic 75, 3) := by decide +kernel
theorem dX9_combine_4 : decode cX9_combine 4 = .ok (.ifCond .eq 25, 3) := by decide +kernel
theorem dX9_combine_7 : decode cX9_combine 7 = .ok (.iload_n 2, 1) := by decide +kernel
theorem dX9_combine_8 : decode cX9_combine 8 = .ok (.invokestatic 59, 3) := by decide +kernel
theorem dX9_combine_11 : decode cX9_combine 11 = .ok (.ifCond .eq 18, 3) := by decide +kernel
theorem dX9_combine_14 : decode cX9_combine 14 = .ok (.iload_n 3, 1) := by decide +kernel
theorem dX9_combine_15 : decode cX9_combine 15 = .ok (.invokestatic 59, 3) := by decide +kernel
theorem dX9_combine_18 : decode cX9_combine 18 = .ok (.ifCond .eq 11, 3) := by decide +kernel
theorem dX9_combine_21 : decode cX9_combine 21 = .ok (.iload 4, 2) := by decide +kernel
theorem dX9_combine_23 : decode cX9_combine 23 = .ok (.invokestatic 59, 3) := by decide +kernel
theorem dX9_combine_26 : decode cX9_combine 26 = .ok (.ifCond .ne 10, 3) := by decide +kernel
theorem dX9_combine_29 : decode cX9_combine 29 = .ok (.aload_n 0, 1) := by decide +kernel
theorem dX9_combine_30 : decode cX9_combine 30 = .ok (.bipush (-2), 2) := by decide +kernel
theorem dX9_combine_32 : decode cX9_combine 32 = .ok (.invokevirtual 55, 3) := by decide +kernel
theorem dX9_combine_35 : decode cX9_combine 35 = .ok (.ireturn, 1) := by decide +kernel
theorem dX9_combine_36 : decode cX9_combine 36 = .ok (.aload_n 0, 1) := by decide +kernel
theorem dX9_combine_37 : decode cX9_combine 37 = .ok (.getfield 19, 3) := by decide +kernel
theorem dX9_combine_40 : decode cX9_combine 40 = .ok (.iload_n 2, 1) := by decide +kernel
theorem dX9_combine_41 : decode cX9_combine 41 = .ok (.aaload, 1) := by decide +kernel
theorem dX9_combine_42 : decode cX9_combine 42 = .ok (.invokevirtual 78, 3) := by decide +kernel
theorem dX9_combine_45 : decode cX9_combine 45 = .ok (.astore 5, 2) := by decide +kernel
theorem dX9_combine_47 : decode cX9_combine 47 = .ok (.aload_n 0, 1) := by decide +kernel
theorem dX9_combine_48 : decode cX9_combine 48 = .ok (.getfield 19, 3) := by decide +kernel
theorem dX9_combine_51 : decode cX9_combine 51 = .ok (.iload_n 3, 1) := by decide +kernel
theorem dX9_combine_52 : decode cX9_combine 52 = .ok (.aaload, 1) := by decide +kernel
theorem dX9_combine_53 : decode cX9_combine 53 = .ok (.invokevirtual 78, 3) := by decide +kernel
theorem dX9_combine_56 : decode cX9_combine 56 = .ok (.astore 6, 2) := by decide +kernel
theorem dX9_combine_58 : decode cX9_combine 58 = .ok (.aload_n 0, 1) := by decide +kernel
theorem dX9_combine_59 : decode cX9_combine 59 = .ok (.getfield 50, 3) := by decide +kernel
theorem dX9_combine_62 : decode cX9_combine 62 = .ok (.invokevirtual 81, 3) := by decide +kernel
theorem dX9_combine_65 : decode cX9_combine 65 = .ok (.aload_n 0, 1) := by decide +kernel
theorem dX9_combine_66 : decode cX9_combine 66 = .ok (.getfield 50, 3) := by decide +kernel
theorem dX9_combine_69 : decode cX9_combine 69 = .ok (.aload 5, 2) := by decide +kernel
theorem dX9_combine_71 : decode cX9_combine 71 = .ok (.invokevirtual 84, 3) := by decide +kernel
theorem dX9_combine_74 : decode cX9_combine 74 = .ok (.aload_n 0, 1) := by decide +kernel
theorem dX9_combine_75 : decode cX9_combine 75 = .ok (.getfield 50, 3) := by decide +kernel
theorem dX9_combine_78 : decode cX9_combine 78 = .ok (.aload 6, 2) := by decide +kernel
theorem dX9_combine_80 : decode cX9_combine 80 = .ok (.invokevirtual 84, 3) := by decide +kernel
theorem dX9_combine_83 : decode cX9_combine 83 = .ok (.aload_n 0, 1) := by decide +kernel
theorem dX9_combine_84 : decode cX9_combine 84 = .ok (.getfield 50, 3) := by decide +kernel
theorem dX9_combine_87 : decode cX9_combine 87 = .ok (.iload_n 1, 1) := by decide +kernel
theorem dX9_combine_88 : decode cX9_combine 88 = .ok (.ifCond .ne 7, 3) := by decide +kernel
theorem dX9_combine_91 : decode cX9_combine 91 = .ok (.iconst 4, 1) := by decide +kernel
theorem dX9_combine_92 : decode cX9_combine 92 = .ok (.goto 4, 3) := by decide +kernel
theorem dX9_combine_95 : decode cX9_combine 95 = .ok (.iconst 5, 1) := by decide +kernel
theorem dX9_combine_96 : decode cX9_combine 96 = .ok (.iconst 0, 1) := by decide +kernel
theorem dX9_combine_97 : decode cX9_combine 97 = .ok (.iconst 0, 1) := by decide +kernel
theorem dX9_combine_98 : decode cX9_combine 98 = .ok (.invokevirtual 88, 3) := by decide +kernel
theorem dX9_combine_101 : decode cX9_combine 101 = .ok (.aload_n 0, 1) := by decide +kernel
theorem dX9_combine_102 : decode cX9_combine 102 = .ok (.getfield 50, 3) := by decide +kernel
theorem dX9_combine_105 : decode cX9_combine 105 = .ok (.aload 5, 2) := by decide +kernel
theorem dX9_combine_107 : decode cX9_combine 107 = .ok (.invokevirtual 92, 3) := by decide +kernel
theorem dX9_combine_110 : decode cX9_combine 110 = .ok (.ifCond .eq 15, 3) := by decide +kernel
theorem dX9_combine_113 : decode cX9_combine 113 = .ok (.aload 6, 2) := by decide +kernel
theorem dX9_combine_115 : decode cX9_combine 115 = .ok (.invokevirtual 92, 3) := by decide +kernel
theorem dX9_combine_118 : decode cX9_combine 118 = .ok (.ifCond .eq 7, 3) := by decide +kernel
theorem dX9_combine_121 : decode cX9_combine 121 = .ok (.iconst 1, 1) := by decide +kernel
theorem dX9_combine_122 : decode cX9_combine 122 = .ok (.goto 4, 3) := by decide +kernel
theorem dX9_combine_125 : decode cX9_combine 125 = .ok (.iconst 0, 1) := by decide +kernel
theorem dX9_combine_126 : decode cX9_combine 126 = .ok (.invokevirtual 96, 3) := by decide +kernel
theorem dX9_combine_129 : decode cX9_combine 129 = .ok (.aload_n 0, 1) := by decide +kernel
theorem dX9_combine_130 : decode cX9_combine 130 = .ok (.aload_n 0, 1) := by decide +kernel
theorem dX9_combine_131 : decode cX9_combine 131 = .ok (.getfield 50, 3) := by decide +kernel
theorem dX9_combine_134 : decode cX9_combine 134 = .ok (.iload 4, 2) := by decide +kernel
theorem dX9_combine_136 : decode cX9_combine 136 = .ok (.invokevirtual 71, 3) := by decide +kernel
theorem dX9_combine_139 : decode cX9_combine 139 = .ok (.ireturn, 1) := by decide +kernel
theorem dX9_modify_0 : decode cX9_modify 0 = .ok (.iload_n 1, 1) := by decide +kernel
theorem dX9_modify_1 : decode cX9_modify 1 = .ok (.invokestatic 75, 3) := by decide +kernel
theorem dX9_modify_4 : decode cX9_modify 4 = .ok (.ifCond .eq 17, 3) := by decide +kernel
theorem dX9_modify_7 : decode cX9_modify 7 = .ok (.iload_n 2, 1) := by decide +kernel
theorem dX9_modify_8 : decode cX9_modify 8 = .ok (.invokestatic 59, 3) := by decide +kernel
theorem dX9_modify_11 : decode cX9_modify 11 = .ok (.ifCond .eq 10, 3) := by decide +kernel
theorem dX9_modify_14 : decode cX9_modify 14 = .ok (.iload_n 3, 1) := by decide +kernel
theorem dX9_modify_15 : decode cX9_modify 15 = .ok (.invokestatic 59, 3) := by decide +kernel
theorem dX9_modify_18 : decode cX9_modify 18 = .ok (.ifCond .ne 10, 3) := by decide +kernel
theorem dX9_modify_21 : decode cX9_modify 21 = .ok (.aload_n 0, 1) := by decide +kernel
theorem dX9_modify_22 : decode cX9_modify 22 = .ok (.bipush (-2), 2) := by decide +kernel
theorem dX9_modify_24 : decode cX9_modify 24 = .ok (.invokevirtual 55, 3) := by decide +kernel
theorem dX9_modify_27 : decode cX9_modify 27 = .ok (.ireturn, 1) := by decide +kernel
theorem dX9_modify_28 : decode cX9_modify 28 = .ok (.aload_n 0, 1) := by decide +kernel
theorem dX9_modify_29 : decode cX9_modify 29 = .ok (.getfield 19, 3) := by decide +kernel
theorem dX9_modify_32 : decode cX9_modify 32 = .ok (.iload_n 2, 1) := by decide +kernel
theorem dX9_modify_33 : decode cX9_modify 33 = .ok (.aaload, 1) := by decide +kernel
theorem dX9_modify_34 : decode cX9_modify 34 = .ok (.invokevirtual 78, 3) := by decide +kernel
theorem dX9_modify_37 : decode cX9_modify 37 = .ok (.astore 4, 2) := by decide +kernel
theorem dX9_modify_39 : decode cX9_modify 39 = .ok (.iload_n 1, 1) := by decide +kernel
theorem dX9_modify_40 : decode cX9_modify 40 = .ok (.iconst 1, 1) := by decide +kernel
theorem dX9_modify_41 : decode cX9_modify 41 = .ok (.if_icmp .ne 7, 3) := by decide +kernel
theorem dX9_modify_44 : decode cX9_modify 44 = .ok (.iconst 1, 1) := by decide +kernel
theorem dX9_modify_45 : decode cX9_modify 45 = .ok (.goto 4, 3) := by decide +kernel
theorem dX9_modify_48 : decode cX9_modify 48 = .ok (.iconst 0, 1) := by decide +kernel
theorem dX9_modify_49 : decode cX9_modify 49 = .ok (.istore 5, 2) := by decide +kernel
theorem dX9_modify_51 : decode cX9_modify 51 = .ok (.iload 5, 2) := by decide +kernel
theorem dX9_modify_53 : decode cX9_modify 53 = .ok (.ifCond .eq 18, 3) := by decide +kernel
theorem dX9_modify_56 : decode cX9_modify 56 = .ok (.aload 4, 2) := by decide +kernel
theorem dX9_modify_58 : decode cX9_modify 58 = .ok (.invokevirtual 92, 3) := by decide +kernel
theorem dX9_modify_61 : decode cX9_modify 61 = .ok (.ifCond .ne 10, 3) := by decide +kernel
theorem dX9_modify_64 : decode cX9_modify 64 = .ok (.aload_n 0, 1) := by decide +kernel
theorem dX9_modify_65 : decode cX9_modify 65 = .ok (.bipush (-3), 2) := by decide +kernel
theorem dX9_modify_67 : decode cX9_modify 67 = .ok (.invokevirtual 55, 3) := by decide +kernel
theorem dX9_modify_70 : decode cX9_modify 70 = .ok (.ireturn, 1) := by decide +kernel
theorem dX9_modify_71 : decode cX9_modify 71 = .ok (.aload_n 0, 1) := by decide +kernel
theorem dX9_modify_72 : decode cX9_modify 72 = .ok (.getfield 50, 3) := by decide +kernel
theorem dX9_modify_75 : decode cX9_modify 75 = .ok (.invokevirtual 81, 3) := by decide +kernel
theorem dX9_modify_78 : decode cX9_modify 78 = .ok (.aload_n 0, 1) := by decide +kernel
theorem dX9_modify_79 : decode cX9_modify 79 = .ok (.getfield 50, 3) := by decide +kernel
theorem dX9_modify_82 : decode cX9_modify 82 = .ok (.aload 4, 2) := by decide +kernel
theorem dX9_modify_84 : decode cX9_modify 84 = .ok (.invokevirtual 84, 3) := by decide +kernel
theorem dX9_modify_87 : decode cX9_modify 87 = .ok (.aload_n 0, 1) := by decide +kernel
theorem dX9_modify_88 : decode cX9_modify 88 = .ok (.getfield 50, 3) := by decide +kernel
theorem dX9_modify_91 : decode cX9_modify 91 = .ok (.iload 5, 2) := by decide +kernel
theorem dX9_modify_93 : decode cX9_modify 93 = .ok (.ifCond .eq 8, 3) := by decide +kernel
theorem dX9_modify_96 : decode cX9_modify 96 = .ok (.bipush 7, 2) := by decide +kernel
theorem dX9_modify_98 : decode cX9_modify 98 = .ok (.goto 5, 3) := by decide +kernel
theorem dX9_modify_101 : decode cX9_modify 101 = .ok (.bipush 6, 2) := by decide +kernel
theorem dX9_modify_103 : decode cX9_modify 103 = .ok (.iconst 0, 1) := by decide +kernel
theorem dX9_modify_104 : decode cX9_modify 104 = .ok (.iconst 0, 1) := by decide +kernel
theorem dX9_modify_105 : decode cX9_modify 105 = .ok (.invokevirtual 88, 3) := by decide +kernel
theorem dX9_modify_108 : decode cX9_modify 108 = .ok (.aload_n 0, 1) := by decide +kernel
theorem dX9_modify_109 : decode cX9_modify 109 = .ok (.getfield 50, 3) := by decide +kernel
theorem dX9_modify_112 : decode cX9_modify 112 = .ok (.iload 5, 2) := by decide +kernel
theorem dX9_modify_114 : decode cX9_modify 114 = .ok (.invokevirtual 96, 3) := by decide +kernel
theorem dX9_modify_117 : decode cX9_modify 117 = .ok (.aload_n 0, 1) := by decide +kernel
theorem dX9_modify_118 : decode cX9_modify 118 = .ok (.aload_n 0, 1) := by decide +kernel
theorem dX9_modify_119 : decode cX9_modify 119 = .ok (.getfield 50, 3) := by decide +kernel
theorem dX9_modify_122 : decode cX9_modify 122 = .ok (.iload_n 3, 1) := by decide +kernel
theorem dX9_modify_123 : decode cX9_modify 123 = .ok (.invokevirtual 71, 3) := by decide +kernel
theorem dX9_modify_126 : decode cX9_modify 126 = .ok (.ireturn, 1) := by decide +kernel
theorem dX9_size_0 : decode cX9_size 0 = .ok (.iload_n 1, 1) := by decide +kernel
theorem dX9_size_1 : decode cX9_size 1 = .ok (.invokestatic 59, 3) := by decide +kernel
theorem dX9_size_4 : decode cX9_size 4 = .ok (.ifCond .ne 10, 3) := by decide +kernel
theorem dX9_size_7 : decode cX9_size 7 = .ok (.aload_n 0, 1) := by decide +kernel
theorem dX9_size_8 : decode cX9_size 8 = .ok (.bipush (-2), 2) := by decide +kernel
theorem dX9_size_10 : decode cX9_size 10 = .ok (.invokevirtual 55, 3) := by decide +kernel
theorem dX9_size_13 : decode cX9_size 13 = .ok (.ireturn, 1) := by decide +kernel
theorem dX9_size_14 : decode cX9_size 14 = .ok (.aload_n 0, 1) := by decide +kernel
theorem dX9_size_15 : decode cX9_size 15 = .ok (.getfield 19, 3) := by decide +kernel
theorem dX9_size_18 : decode cX9_size 18 = .ok (.iload_n 1, 1) := by decide +kernel
theorem dX9_size_19 : decode cX9_size 19 = .ok (.aaload, 1) := by decide +kernel
theorem dX9_size_20 : decode cX9_size 20 = .ok (.invokevirtual 78, 3) := by decide +kernel
theorem dX9_size_23 : decode cX9_size 23 = .ok (.invokevirtual 100, 3) := by decide +kernel
theorem dX9_size_26 : decode cX9_size 26 = .ok (.ireturn, 1) := by decide +kernel
theorem dX9_isPredicate_0 : decode cX9_isPredicate 0 = .ok (.iload_n 1, 1) := by decide +kernel
theorem dX9_isPredicate_1 : decode cX9_isPredicate 1 = .ok (.invokestatic 59, 3) := by decide +kernel
theorem dX9_isPredicate_4 : decode cX9_isPredicate 4 = .ok (.ifCond .ne 10, 3) := by decide +kernel
theorem dX9_isPredicate_7 : decode cX9_isPredicate 7 = .ok (.aload_n 0, 1) := by decide +kernel
theorem dX9_isPredicate_8 : decode cX9_isPredicate 8 = .ok (.bipush (-2), 2) := by decide +kernel
theorem dX9_isPredicate_10 : decode cX9_isPredicate 10 = .ok (.invokevirtual 55, 3) := by decide +kernel
theorem dX9_isPredicate_13 : decode cX9_isPredicate 13 = .ok (.ireturn, 1) := by decide +kernel
theorem dX9_isPredicate_14 : decode cX9_isPredicate 14 = .ok (.aload_n 0, 1) := by decide +kernel
theorem dX9_isPredicate_15 : decode cX9_isPredicate 15 = .ok (.getfield 19, 3) := by decide +kernel
theorem dX9_isPredicate_18 : decode cX9_isPredicate 18 = .ok (.iload_n 1, 1) := by decide +kernel
theorem dX9_isPredicate_19 : decode cX9_isPredicate 19 = .ok (.aaload, 1) := by decide +kernel
theorem dX9_isPredicate_20 : decode cX9_isPredicate 20 = .ok (.invokevirtual 78, 3) := by decide +kernel
theorem dX9_isPredicate_23 : decode cX9_isPredicate 23 = .ok (.invokevirtual 92, 3) := by decide +kernel
theorem dX9_isPredicate_26 : decode cX9_isPredicate 26 = .ok (.ifCond .eq 7, 3) := by decide +kernel
theorem dX9_isPredicate_29 : decode cX9_isPredicate 29 = .ok (.iconst 1, 1) := by decide +kernel
theorem dX9_isPredicate_30 : decode cX9_isPredicate 30 = .ok (.goto 4, 3) := by decide +kernel
theorem dX9_isPredicate_33 : decode cX9_isPredicate 33 = .ok (.iconst 0, 1) := by decide +kernel
theorem dX9_isPredicate_34 : decode cX9_isPredicate 34 = .ok (.ireturn, 1) := by decide +kernel
theorem dX9_printed_0 : decode cX9_printed 0 = .ok (.iload_n 1, 1) := by decide +kernel
theorem dX9_printed_1 : decode cX9_printed 1 = .ok (.invokestatic 59, 3) := by decide +kernel
theorem dX9_printed_4 : decode cX9_printed 4 = .ok (.ifCond .eq 8, 3) := by decide +kernel
theorem dX9_printed_7 : decode cX9_printed 7 = .ok (.iload_n 2, 1) := by decide +kernel
theorem dX9_printed_8 : decode cX9_printed 8 = .ok (.iconst (-1), 1) := by decide +kernel
theorem dX9_printed_9 : decode cX9_printed 9 = .ok (.if_icmp .ge 10, 3) := by decide +kernel
theorem dX9_printed_12 : decode cX9_printed 12 = .ok (.aload_n 0, 1) := by decide +kernel
theorem dX9_printed_13 : decode cX9_printed 13 = .ok (.bipush (-2), 2) := by decide +kernel
theorem dX9_printed_15 : decode cX9_printed 15 = .ok (.invokevirtual 55, 3) := by decide +kernel
theorem dX9_printed_18 : decode cX9_printed 18 = .ok (.ireturn, 1) := by decide +kernel
theorem dX9_printed_19 : decode cX9_printed 19 = .ok (.aload_n 0, 1) := by decide +kernel
theorem dX9_printed_20 : decode cX9_printed 20 = .ok (.getfield 19, 3) := by decide +kernel
theorem dX9_printed_23 : decode cX9_printed 23 = .ok (.iload_n 1, 1) := by decide +kernel
theorem dX9_printed_24 : decode cX9_printed 24 = .ok (.aaload, 1) := by decide +kernel
theorem dX9_printed_25 : decode cX9_printed 25 = .ok (.aload_n 0, 1) := by decide +kernel
theorem dX9_printed_26 : decode cX9_printed 26 = .ok (.getfield 43, 3) := by decide +kernel
theorem dX9_printed_29 : decode cX9_printed 29 = .ok (.invokevirtual 104, 3) := by decide +kernel
theorem dX9_printed_32 : decode cX9_printed 32 = .ok (.invokevirtual 108, 3) := by decide +kernel
theorem dX9_printed_35 : decode cX9_printed 35 = .ok (.astore_n 3, 1) := by decide +kernel
theorem dX9_printed_36 : decode cX9_printed 36 = .ok (.iload_n 2, 1) := by decide +kernel
theorem dX9_printed_37 : decode cX9_printed 37 = .ok (.iconst (-1), 1) := by decide +kernel
theorem dX9_printed_38 : decode cX9_printed 38 = .ok (.if_icmp .ne 8, 3) := by decide +kernel
theorem dX9_printed_41 : decode cX9_printed 41 = .ok (.aload_n 3, 1) := by decide +kernel
theorem dX9_printed_42 : decode cX9_printed 42 = .ok (.invokevirtual 112, 3) := by decide +kernel
theorem dX9_printed_45 : decode cX9_printed 45 = .ok (.ireturn, 1) := by decide +kernel
theorem dX9_printed_46 : decode cX9_printed 46 = .ok (.iload_n 2, 1) := by decide +kernel
theorem dX9_printed_47 : decode cX9_printed 47 = .ok (.aload_n 3, 1) := by decide +kernel
theorem dX9_printed_48 : decode cX9_printed 48 = .ok (.invokevirtual 112, 3) := by decide +kernel
theorem dX9_printed_51 : decode cX9_printed 51 = .ok (.if_icmp .ge 11, 3) := by decide +kernel
theorem dX9_printed_54 : decode cX9_printed 54 = .ok (.aload_n 3, 1) := by decide +kernel
theorem dX9_printed_55 : decode cX9_printed 55 = .ok (.iload_n 2, 1) := by decide +kernel
theorem dX9_printed_56 : decode cX9_printed 56 = .ok (.invokevirtual 117, 3) := by decide +kernel
theorem dX9_printed_59 : decode cX9_printed 59 = .ok (.goto 4, 3) := by decide +kernel
theorem dX9_printed_62 : decode cX9_printed 62 = .ok (.iconst (-1), 1) := by decide +kernel
theorem dX9_printed_63 : decode cX9_printed 63 = .ok (.ireturn, 1) := by decide +kernel
theorem dX9_outputs_0 : decode cX9_outputs 0 = .ok (.iload_n 1, 1) := by decide +kernel
theorem dX9_outputs_1 : decode cX9_outputs 1 = .ok (.invokestatic 59, 3) := by decide +kernel
theorem dX9_outputs_4 : decode cX9_outputs 4 = .ok (.ifCond .eq 10, 3) := by decide +kernel
theorem dX9_outputs_7 : decode cX9_outputs 7 = .ok (.iload_n 2, 1) := by decide +kernel
theorem dX9_outputs_8 : decode cX9_outputs 8 = .ok (.invokestatic 120, 3) := by decide +kernel
theorem dX9_outputs_11 : decode cX9_outputs 11 = .ok (.ifCond .ne 11, 3) := by decide +kernel
theorem dX9_outputs_14 : decode cX9_outputs 14 = .ok (.aload_n 0, 1) := by decide +kernel
theorem dX9_outputs_15 : decode cX9_outputs 15 = .ok (.bipush (-2), 2) := by decide +kernel
theorem dX9_outputs_17 : decode cX9_outputs 17 = .ok (.invokevirtual 55, 3) := by decide +kernel
theorem dX9_outputs_20 : decode cX9_outputs 20 = .ok (.i2l, 1) := by decide +kernel
theorem dX9_outputs_21 : decode cX9_outputs 21 = .ok (.lreturn, 1) := by decide +kernel
theorem dX9_outputs_22 : decode cX9_outputs 22 = .ok (.aload_n 0, 1) := by decide +kernel
theorem dX9_outputs_23 : decode cX9_outputs 23 = .ok (.getfield 19, 3) := by decide +kernel
theorem dX9_outputs_26 : decode cX9_outputs 26 = .ok (.iload_n 1, 1) := by decide +kernel
theorem dX9_outputs_27 : decode cX9_outputs 27 = .ok (.aaload, 1) := by decide +kernel
theorem dX9_outputs_28 : decode cX9_outputs 28 = .ok (.aload_n 0, 1) := by decide +kernel
theorem dX9_outputs_29 : decode cX9_outputs 29 = .ok (.getfield 43, 3) := by decide +kernel
theorem dX9_outputs_32 : decode cX9_outputs 32 = .ok (.invokevirtual 104, 3) := by decide +kernel
theorem dX9_outputs_35 : decode cX9_outputs 35 = .ok (.invokevirtual 123, 3) := by decide +kernel
theorem dX9_outputs_38 : decode cX9_outputs 38 = .ok (.iload_n 2, 1) := by decide +kernel
theorem dX9_outputs_39 : decode cX9_outputs 39 = .ok (.invokevirtual 127, 3) := by decide +kernel
theorem dX9_outputs_42 : decode cX9_outputs 42 = .ok (.lreturn, 1) := by decide +kernel
theorem dX9_accepted_0 : decode cX9_accepted 0 = .ok (.iload_n 1, 1) := by decide +kernel
theorem dX9_accepted_1 : decode cX9_accepted 1 = .ok (.invokestatic 59, 3) := by decide +kernel
theorem dX9_accepted_4 : decode cX9_accepted 4 = .ok (.ifCond .ne 11, 3) := by decide +kernel
theorem dX9_accepted_7 : decode cX9_accepted 7 = .ok (.aload_n 0, 1) := by decide +kernel
theorem dX9_accepted_8 : decode cX9_accepted 8 = .ok (.bipush (-2), 2) := by decide +kernel
theorem dX9_accepted_10 : decode cX9_accepted 10 = .ok (.invokevirtual 55, 3) := by decide +kernel
theorem dX9_accepted_13 : decode cX9_accepted 13 = .ok (.i2l, 1) := by decide +kernel
theorem dX9_accepted_14 : decode cX9_accepted 14 = .ok (.lreturn, 1) := by decide +kernel
theorem dX9_accepted_15 : decode cX9_accepted 15 = .ok (.aload_n 0, 1) := by decide +kernel
theorem dX9_accepted_16 : decode cX9_accepted 16 = .ok (.getfield 19, 3) := by decide +kernel
theorem dX9_accepted_19 : decode cX9_accepted 19 = .ok (.iload_n 1, 1) := by decide +kernel
theorem dX9_accepted_20 : decode cX9_accepted 20 = .ok (.aaload, 1) := by decide +kernel
theorem dX9_accepted_21 : decode cX9_accepted 21 = .ok (.aload_n 0, 1) := by decide +kernel
theorem dX9_accepted_22 : decode cX9_accepted 22 = .ok (.getfield 43, 3) := by decide +kernel
theorem dX9_accepted_25 : decode cX9_accepted 25 = .ok (.invokevirtual 104, 3) := by decide +kernel
theorem dX9_accepted_28 : decode cX9_accepted 28 = .ok (.invokevirtual 123, 3) := by decide +kernel
theorem dX9_accepted_31 : decode cX9_accepted 31 = .ok (.invokevirtual 133, 3) := by decide +kernel
theorem dX9_accepted_34 : decode cX9_accepted 34 = .ok (.lreturn, 1) := by decide +kernel
theorem dX9_spread_0 : decode cX9_spread 0 = .ok (.iload_n 1, 1) := by decide +kernel
theorem dX9_spread_1 : decode cX9_spread 1 = .ok (.invokestatic 59, 3) := by decide +kernel
theorem dX9_spread_4 : decode cX9_spread 4 = .ok (.ifCond .ne 10, 3) := by decide +kernel
theorem dX9_spread_7 : decode cX9_spread 7 = .ok (.aload_n 0, 1) := by decide +kernel
theorem dX9_spread_8 : decode cX9_spread 8 = .ok (.bipush (-2), 2) := by decide +kernel
theorem dX9_spread_10 : decode cX9_spread 10 = .ok (.invokevirtual 55, 3) := by decide +kernel
theorem dX9_spread_13 : decode cX9_spread 13 = .ok (.ireturn, 1) := by decide +kernel
theorem dX9_spread_14 : decode cX9_spread 14 = .ok (.aload_n 0, 1) := by decide +kernel
theorem dX9_spread_15 : decode cX9_spread 15 = .ok (.getfield 19, 3) := by decide +kernel
theorem dX9_spread_18 : decode cX9_spread 18 = .ok (.iload_n 1, 1) := by decide +kernel
theorem dX9_spread_19 : decode cX9_spread 19 = .ok (.aaload, 1) := by decide +kernel
theorem dX9_spread_20 : decode cX9_spread 20 = .ok (.aload_n 0, 1) := by decide +kernel
theorem dX9_spread_21 : decode cX9_spread 21 = .ok (.getfield 43, 3) := by decide +kernel
theorem dX9_spread_24 : decode cX9_spread 24 = .ok (.invokevirtual 104, 3) := by decide +kernel
theorem dX9_spread_27 : decode cX9_spread 27 = .ok (.invokevirtual 123, 3) := by decide +kernel
theorem dX9_spread_30 : decode cX9_spread 30 = .ok (.invokevirtual 137, 3) := by decide +kernel
theorem dX9_spread_33 : decode cX9_spread 33 = .ok (.ireturn, 1) := by decide +kernel
theorem dX9_rounds_0 : decode cX9_rounds 0 = .ok (.iload_n 1, 1) := by decide +kernel
theorem dX9_rounds_1 : decode cX9_rounds 1 = .ok (.invokestatic 59, 3) := by decide +kernel
theorem dX9_rounds_4 : decode cX9_rounds 4 = .ok (.ifCond .ne 10, 3) := by decide +kernel
theorem dX9_rounds_7 : decode cX9_rounds 7 = .ok (.aload_n 0, 1) := by decide +kernel
theorem dX9_rounds_8 : decode cX9_rounds 8 = .ok (.bipush (-2), 2) := by decide +kernel
theorem dX9_rounds_10 : decode cX9_rounds 10 = .ok (.invokevirtual 55, 3) := by decide +kernel
theorem dX9_rounds_13 : decode cX9_rounds 13 = .ok (.ireturn, 1) := by decide +kernel
theorem dX9_rounds_14 : decode cX9_rounds 14 = .ok (.aload_n 0, 1) := by decide +kernel
theorem dX9_rounds_15 : decode cX9_rounds 15 = .ok (.getfield 19, 3) := by decide +kernel
theorem dX9_rounds_18 : decode cX9_rounds 18 = .ok (.iload_n 1, 1) := by decide +kernel
theorem dX9_rounds_19 : decode cX9_rounds 19 = .ok (.aaload, 1) := by decide +kernel
theorem dX9_rounds_20 : decode cX9_rounds 20 = .ok (.aload_n 0, 1) := by decide +kernel
theorem dX9_rounds_21 : decode cX9_rounds 21 = .ok (.getfield 43, 3) := by decide +kernel
theorem dX9_rounds_24 : decode cX9_rounds 24 = .ok (.invokevirtual 104, 3) := by decide +kernel
theorem dX9_rounds_27 : decode cX9_rounds 27 = .ok (.invokevirtual 123, 3) := by decide +kernel
theorem dX9_rounds_30 : decode cX9_rounds 30 = .ok (.invokevirtual 140, 3) := by decide +kernel
theorem dX9_rounds_33 : decode cX9_rounds 33 = .ok (.ireturn, 1) := by decide +kernel
theorem dX9_compare_0 : decode cX9_compare 0 = .ok (.iload_n 1, 1) := by decide +kernel
theorem dX9_compare_1 : decode cX9_compare 1 = .ok (.invokestatic 59, 3) := by decide +kernel
theorem dX9_compare_4 : decode cX9_compare 4 = .ok (.ifCond .eq 10, 3) := by decide +kernel
theorem dX9_compare_7 : decode cX9_compare 7 = .ok (.iload_n 2, 1) := by decide +kernel
theorem dX9_compare_8 : decode cX9_compare 8 = .ok (.invokestatic 59, 3) := by decide +kernel
theorem dX9_compare_11 : decode cX9_compare 11 = .ok (.ifCond .ne 10, 3) := by decide +kernel
theorem dX9_compare_14 : decode cX9_compare 14 = .ok (.aload_n 0, 1) := by decide +kernel
theorem dX9_compare_15 : decode cX9_compare 15 = .ok (.bipush (-2), 2) := by decide +kernel
theorem dX9_compare_17 : decode cX9_compare 17 = .ok (.invokevirtual 55, 3) := by decide +kernel
theorem dX9_compare_20 : decode cX9_compare 20 = .ok (.ireturn, 1) := by decide +kernel
theorem dX9_compare_21 : decode cX9_compare 21 = .ok (.aload_n 0, 1) := by decide +kernel
theorem dX9_compare_22 : decode cX9_compare 22 = .ok (.getfield 19, 3) := by decide +kernel
theorem dX9_compare_25 : decode cX9_compare 25 = .ok (.iload_n 1, 1) := by decide +kernel
theorem dX9_compare_26 : decode cX9_compare 26 = .ok (.aaload, 1) := by decide +kernel
theorem dX9_compare_27 : decode cX9_compare 27 = .ok (.aload_n 0, 1) := by decide +kernel
theorem dX9_compare_28 : decode cX9_compare 28 = .ok (.getfield 43, 3) := by decide +kernel
theorem dX9_compare_31 : decode cX9_compare 31 = .ok (.invokevirtual 104, 3) := by decide +kernel
theorem dX9_compare_34 : decode cX9_compare 34 = .ok (.invokevirtual 123, 3) := by decide +kernel
theorem dX9_compare_37 : decode cX9_compare 37 = .ok (.aload_n 0, 1) := by decide +kernel
theorem dX9_compare_38 : decode cX9_compare 38 = .ok (.getfield 19, 3) := by decide +kernel
theorem dX9_compare_41 : decode cX9_compare 41 = .ok (.iload_n 2, 1) := by decide +kernel
theorem dX9_compare_42 : decode cX9_compare 42 = .ok (.aaload, 1) := by decide +kernel
theorem dX9_compare_43 : decode cX9_compare 43 = .ok (.aload_n 0, 1) := by decide +kernel
theorem dX9_compare_44 : decode cX9_compare 44 = .ok (.getfield 43, 3) := by decide +kernel
theorem dX9_compare_47 : decode cX9_compare 47 = .ok (.invokevirtual 104, 3) := by decide +kernel
theorem dX9_compare_50 : decode cX9_compare 50 = .ok (.invokevirtual 123, 3) := by decide +kernel
theorem dX9_compare_53 : decode cX9_compare 53 = .ok (.invokevirtual 143, 3) := by decide +kernel
theorem dX9_compare_56 : decode cX9_compare 56 = .ok (.ireturn, 1) := by decide +kernel
theorem dX9_witness_0 : decode cX9_witness 0 = .ok (.iload_n 1, 1) := by decide +kernel
theorem dX9_witness_1 : decode cX9_witness 1 = .ok (.invokestatic 59, 3) := by decide +kernel
theorem dX9_witness_4 : decode cX9_witness 4 = .ok (.ifCond .eq 10, 3) := by decide +kernel
theorem dX9_witness_7 : decode cX9_witness 7 = .ok (.iload_n 2, 1) := by decide +kernel
theorem dX9_witness_8 : decode cX9_witness 8 = .ok (.invokestatic 59, 3) := by decide +kernel
theorem dX9_witness_11 : decode cX9_witness 11 = .ok (.ifCond .ne 10, 3) := by decide +kernel
theorem dX9_witness_14 : decode cX9_witness 14 = .ok (.aload_n 0, 1) := by decide +kernel
theorem dX9_witness_15 : decode cX9_witness 15 = .ok (.bipush (-2), 2) := by decide +kernel
theorem dX9_witness_17 : decode cX9_witness 17 = .ok (.invokevirtual 55, 3) := by decide +kernel
theorem dX9_witness_20 : decode cX9_witness 20 = .ok (.ireturn, 1) := by decide +kernel
theorem dX9_witness_21 : decode cX9_witness 21 = .ok (.aload_n 0, 1) := by decide +kernel
theorem dX9_witness_22 : decode cX9_witness 22 = .ok (.getfield 19, 3) := by decide +kernel
theorem dX9_witness_25 : decode cX9_witness 25 = .ok (.iload_n 1, 1) := by decide +kernel
theorem dX9_witness_26 : decode cX9_witness 26 = .ok (.aaload, 1) := by decide +kernel
theorem dX9_witness_27 : decode cX9_witness 27 = .ok (.aload_n 0, 1) := by decide +kernel
theorem dX9_witness_28 : decode cX9_witness 28 = .ok (.getfield 43, 3) := by decide +kernel
theorem dX9_witness_31 : decode cX9_witness 31 = .ok (.invokevirtual 104, 3) := by decide +kernel
theorem dX9_witness_34 : decode cX9_witness 34 = .ok (.invokevirtual 123, 3) := by decide +kernel
theorem dX9_witness_37 : decode cX9_witness 37 = .ok (.aload_n 0, 1) := by decide +kernel
theorem dX9_witness_38 : decode cX9_witness 38 = .ok (.getfield 19, 3) := by decide +kernel
theorem dX9_witness_41 : decode cX9_witness 41 = .ok (.iload_n 2, 1) := by decide +kernel
theorem dX9_witness_42 : decode cX9_witness 42 = .ok (.aaload, 1) := by decide +kernel
theorem dX9_witness_43 : decode cX9_witness 43 = .ok (.aload_n 0, 1) := by decide +kernel
theorem dX9_witness_44 : decode cX9_witness 44 = .ok (.getfield 43, 3) := by decide +kernel
theorem dX9_witness_47 : decode cX9_witness 47 = .ok (.invokevirtual 104, 3) := by decide +kernel
theorem dX9_witness_50 : decode cX9_witness 50 = .ok (.invokevirtual 123, 3) := by decide +kernel
theorem dX9_witness_53 : decode cX9_witness 53 = .ok (.invokevirtual 147, 3) := by decide +kernel
theorem dX9_witness_56 : decode cX9_witness 56 = .ok (.ireturn, 1) := by decide +kernel
theorem dX9_difference_0 : decode cX9_difference 0 = .ok (.iload_n 1, 1) := by decide +kernel
theorem dX9_difference_1 : decode cX9_difference 1 = .ok (.invokestatic 59, 3) := by decide +kernel
theorem dX9_difference_4 : decode cX9_difference 4 = .ok (.ifCond .eq 10, 3) := by decide +kernel
theorem dX9_difference_7 : decode cX9_difference 7 = .ok (.iload_n 2, 1) := by decide +kernel
theorem dX9_difference_8 : decode cX9_difference 8 = .ok (.invokestatic 59, 3) := by decide +kernel
theorem dX9_difference_11 : decode cX9_difference 11 = .ok (.ifCond .ne 10, 3) := by decide +kernel
theorem dX9_difference_14 : decode cX9_difference 14 = .ok (.aload_n 0, 1) := by decide +kernel
theorem dX9_difference_15 : decode cX9_difference 15 = .ok (.bipush (-2), 2) := by decide +kernel
theorem dX9_difference_17 : decode cX9_difference 17 = .ok (.invokevirtual 55, 3) := by decide +kernel
theorem dX9_difference_20 : decode cX9_difference 20 = .ok (.ireturn, 1) := by decide +kernel
theorem dX9_difference_21 : decode cX9_difference 21 = .ok (.aload_n 0, 1) := by decide +kernel
theorem dX9_difference_22 : decode cX9_difference 22 = .ok (.getfield 19, 3) := by decide +kernel
theorem dX9_difference_25 : decode cX9_difference 25 = .ok (.iload_n 1, 1) := by decide +kernel
theorem dX9_difference_26 : decode cX9_difference 26 = .ok (.aaload, 1) := by decide +kernel
theorem dX9_difference_27 : decode cX9_difference 27 = .ok (.aload_n 0, 1) := by decide +kernel
theorem dX9_difference_28 : decode cX9_difference 28 = .ok (.getfield 43, 3) := by decide +kernel
theorem dX9_difference_31 : decode cX9_difference 31 = .ok (.invokevirtual 104, 3) := by decide +kernel
theorem dX9_difference_34 : decode cX9_difference 34 = .ok (.invokevirtual 123, 3) := by decide +kernel
theorem dX9_difference_37 : decode cX9_difference 37 = .ok (.astore_n 3, 1) := by decide +kernel
theorem dX9_difference_38 : decode cX9_difference 38 = .ok (.aload_n 0, 1) := by decide +kernel
theorem dX9_difference_39 : decode cX9_difference 39 = .ok (.getfield 19, 3) := by decide +kernel
theorem dX9_difference_42 : decode cX9_difference 42 = .ok (.iload_n 2, 1) := by decide +kernel
theorem dX9_difference_43 : decode cX9_difference 43 = .ok (.aaload, 1) := by decide +kernel
theorem dX9_difference_44 : decode cX9_difference 44 = .ok (.aload_n 0, 1) := by decide +kernel
theorem dX9_difference_45 : decode cX9_difference 45 = .ok (.getfield 43, 3) := by decide +kernel
theorem dX9_difference_48 : decode cX9_difference 48 = .ok (.invokevirtual 104, 3) := by decide +kernel
theorem dX9_difference_51 : decode cX9_difference 51 = .ok (.invokevirtual 123, 3) := by decide +kernel
theorem dX9_difference_54 : decode cX9_difference 54 = .ok (.astore 4, 2) := by decide +kernel
theorem dX9_difference_56 : decode cX9_difference 56 = .ok (.aload_n 3, 1) := by decide +kernel
theorem dX9_difference_57 : decode cX9_difference 57 = .ok (.aload 4, 2) := by decide +kernel
theorem dX9_difference_59 : decode cX9_difference 59 = .ok (.invokevirtual 147, 3) := by decide +kernel
theorem dX9_difference_62 : decode cX9_difference 62 = .ok (.istore 5, 2) := by decide +kernel
theorem dX9_difference_64 : decode cX9_difference 64 = .ok (.iload 5, 2) := by decide +kernel
theorem dX9_difference_66 : decode cX9_difference 66 = .ok (.iconst (-1), 1) := by decide +kernel
theorem dX9_difference_67 : decode cX9_difference 67 = .ok (.if_icmp .ne 7, 3) := by decide +kernel
theorem dX9_difference_70 : decode cX9_difference 70 = .ok (.iconst (-1), 1) := by decide +kernel
theorem dX9_difference_71 : decode cX9_difference 71 = .ok (.goto 20, 3) := by decide +kernel
theorem dX9_difference_74 : decode cX9_difference 74 = .ok (.aload_n 3, 1) := by decide +kernel
theorem dX9_difference_75 : decode cX9_difference 75 = .ok (.iload 5, 2) := by decide +kernel
theorem dX9_difference_77 : decode cX9_difference 77 = .ok (.invokevirtual 127, 3) := by decide +kernel
theorem dX9_difference_80 : decode cX9_difference 80 = .ok (.aload 4, 2) := by decide +kernel
theorem dX9_difference_82 : decode cX9_difference 82 = .ok (.iload 5, 2) := by decide +kernel
theorem dX9_difference_84 : decode cX9_difference 84 = .ok (.invokevirtual 127, 3) := by decide +kernel
theorem dX9_difference_87 : decode cX9_difference 87 = .ok (.lxor, 1) := by decide +kernel
theorem dX9_difference_88 : decode cX9_difference 88 = .ok (.invokestatic 150, 3) := by decide +kernel
theorem dX9_difference_91 : decode cX9_difference 91 = .ok (.ireturn, 1) := by decide +kernel
theorem dX9_diagramSize_0 : decode cX9_diagramSize 0 = .ok (.iload_n 1, 1) := by decide +kernel
theorem dX9_diagramSize_1 : decode cX9_diagramSize 1 = .ok (.invokestatic 59, 3) := by decide +kernel
theorem dX9_diagramSize_4 : decode cX9_diagramSize 4 = .ok (.ifCond .ne 10, 3) := by decide +kernel
theorem dX9_diagramSize_7 : decode cX9_diagramSize 7 = .ok (.aload_n 0, 1) := by decide +kernel
theorem dX9_diagramSize_8 : decode cX9_diagramSize 8 = .ok (.bipush (-2), 2) := by decide +kernel
theorem dX9_diagramSize_10 : decode cX9_diagramSize 10 = .ok (.invokevirtual 55, 3) := by decide +kernel
theorem dX9_diagramSize_13 : decode cX9_diagramSize 13 = .ok (.ireturn, 1) := by decide +kernel
theorem dX9_diagramSize_14 : decode cX9_diagramSize 14 = .ok (.aload_n 0, 1) := by decide +kernel
theorem dX9_diagramSize_15 : decode cX9_diagramSize 15 = .ok (.getfield 19, 3) := by decide +kernel
theorem dX9_diagramSize_18 : decode cX9_diagramSize 18 = .ok (.iload_n 1, 1) := by decide +kernel
theorem dX9_diagramSize_19 : decode cX9_diagramSize 19 = .ok (.aaload, 1) := by decide +kernel
theorem dX9_diagramSize_20 : decode cX9_diagramSize 20 = .ok (.aload_n 0, 1) := by decide +kernel
theorem dX9_diagramSize_21 : decode cX9_diagramSize 21 = .ok (.getfield 43, 3) := by decide +kernel
theorem dX9_diagramSize_24 : decode cX9_diagramSize 24 = .ok (.invokevirtual 104, 3) := by decide +kernel
theorem dX9_diagramSize_27 : decode cX9_diagramSize 27 = .ok (.invokevirtual 154, 3) := by decide +kernel
theorem dX9_diagramSize_30 : decode cX9_diagramSize 30 = .ok (.invokevirtual 158, 3) := by decide +kernel
theorem dX9_diagramSize_33 : decode cX9_diagramSize 33 = .ok (.ireturn, 1) := by decide +kernel
theorem dX9_leaves_0 : decode cX9_leaves 0 = .ok (.iload_n 1, 1) := by decide +kernel
theorem dX9_leaves_1 : decode cX9_leaves 1 = .ok (.invokestatic 59, 3) := by decide +kernel
theorem dX9_leaves_4 : decode cX9_leaves 4 = .ok (.ifCond .ne 10, 3) := by decide +kernel
theorem dX9_leaves_7 : decode cX9_leaves 7 = .ok (.aload_n 0, 1) := by decide +kernel
theorem dX9_leaves_8 : decode cX9_leaves 8 = .ok (.bipush (-2), 2) := by decide +kernel
theorem dX9_leaves_10 : decode cX9_leaves 10 = .ok (.invokevirtual 55, 3) := by decide +kernel
theorem dX9_leaves_13 : decode cX9_leaves 13 = .ok (.ireturn, 1) := by decide +kernel
theorem dX9_leaves_14 : decode cX9_leaves 14 = .ok (.aload_n 0, 1) := by decide +kernel
theorem dX9_leaves_15 : decode cX9_leaves 15 = .ok (.getfield 19, 3) := by decide +kernel
theorem dX9_leaves_18 : decode cX9_leaves 18 = .ok (.iload_n 1, 1) := by decide +kernel
theorem dX9_leaves_19 : decode cX9_leaves 19 = .ok (.aaload, 1) := by decide +kernel
theorem dX9_leaves_20 : decode cX9_leaves 20 = .ok (.aload_n 0, 1) := by decide +kernel
theorem dX9_leaves_21 : decode cX9_leaves 21 = .ok (.getfield 43, 3) := by decide +kernel
theorem dX9_leaves_24 : decode cX9_leaves 24 = .ok (.invokevirtual 104, 3) := by decide +kernel
theorem dX9_leaves_27 : decode cX9_leaves 27 = .ok (.invokevirtual 154, 3) := by decide +kernel
theorem dX9_leaves_30 : decode cX9_leaves 30 = .ok (.invokevirtual 163, 3) := by decide +kernel
theorem dX9_leaves_33 : decode cX9_leaves 33 = .ok (.ireturn, 1) := by decide +kernel
theorem dX9_diagramDepth_0 : decode cX9_diagramDepth 0 = .ok (.iload_n 1, 1) := by decide +kernel
theorem dX9_diagramDepth_1 : decode cX9_diagramDepth 1 = .ok (.invokestatic 59, 3) := by decide +kernel
theorem dX9_diagramDepth_4 : decode cX9_diagramDepth 4 = .ok (.ifCond .ne 10, 3) := by decide +kernel
theorem dX9_diagramDepth_7 : decode cX9_diagramDepth 7 = .ok (.aload_n 0, 1) := by decide +kernel
theorem dX9_diagramDepth_8 : decode cX9_diagramDepth 8 = .ok (.bipush (-2), 2) := by decide +kernel
theorem dX9_diagramDepth_10 : decode cX9_diagramDepth 10 = .ok (.invokevirtual 55, 3) := by decide +kernel
theorem dX9_diagramDepth_13 : decode cX9_diagramDepth 13 = .ok (.ireturn, 1) := by decide +kernel
theorem dX9_diagramDepth_14 : decode cX9_diagramDepth 14 = .ok (.aload_n 0, 1) := by decide +kernel
theorem dX9_diagramDepth_15 : decode cX9_diagramDepth 15 = .ok (.getfield 19, 3) := by decide +kernel
theorem dX9_diagramDepth_18 : decode cX9_diagramDepth 18 = .ok (.iload_n 1, 1) := by decide +kernel
theorem dX9_diagramDepth_19 : decode cX9_diagramDepth 19 = .ok (.aaload, 1) := by decide +kernel
theorem dX9_diagramDepth_20 : decode cX9_diagramDepth 20 = .ok (.aload_n 0, 1) := by decide +kernel
theorem dX9_diagramDepth_21 : decode cX9_diagramDepth 21 = .ok (.getfield 43, 3) := by decide +kernel
theorem dX9_diagramDepth_24 : decode cX9_diagramDepth 24 = .ok (.invokevirtual 104, 3) := by decide +kernel
theorem dX9_diagramDepth_27 : decode cX9_diagramDepth 27 = .ok (.invokevirtual 154, 3) := by decide +kernel
theorem dX9_diagramDepth_30 : decode cX9_diagramDepth 30 = .ok (.invokevirtual 166, 3) := by decide +kernel
theorem dX9_diagramDepth_33 : decode cX9_diagramDepth 33 = .ok (.ireturn, 1) := by decide +kernel
theorem dX9_sharedNodes_0 : decode cX9_sharedNodes 0 = .ok (.iload_n 1, 1) := by decide +kernel
theorem dX9_sharedNodes_1 : decode cX9_sharedNodes 1 = .ok (.invokestatic 59, 3) := by decide +kernel
theorem dX9_sharedNodes_4 : decode cX9_sharedNodes 4 = .ok (.ifCond .eq 10, 3) := by decide +kernel
theorem dX9_sharedNodes_7 : decode cX9_sharedNodes 7 = .ok (.iload_n 2, 1) := by decide +kernel
theorem dX9_sharedNodes_8 : decode cX9_sharedNodes 8 = .ok (.invokestatic 59, 3) := by decide +kernel
theorem dX9_sharedNodes_11 : decode cX9_sharedNodes 11 = .ok (.ifCond .ne 10, 3) := by decide +kernel
theorem dX9_sharedNodes_14 : decode cX9_sharedNodes 14 = .ok (.aload_n 0, 1) := by decide +kernel
theorem dX9_sharedNodes_15 : decode cX9_sharedNodes 15 = .ok (.bipush (-2), 2) := by decide +kernel
theorem dX9_sharedNodes_17 : decode cX9_sharedNodes 17 = .ok (.invokevirtual 55, 3) := by decide +kernel
theorem dX9_sharedNodes_20 : decode cX9_sharedNodes 20 = .ok (.ireturn, 1) := by decide +kernel
theorem dX9_sharedNodes_21 : decode cX9_sharedNodes 21 = .ok (.aload_n 0, 1) := by decide +kernel
theorem dX9_sharedNodes_22 : decode cX9_sharedNodes 22 = .ok (.getfield 19, 3) := by decide +kernel
theorem dX9_sharedNodes_25 : decode cX9_sharedNodes 25 = .ok (.iload_n 1, 1) := by decide +kernel
theorem dX9_sharedNodes_26 : decode cX9_sharedNodes 26 = .ok (.aaload, 1) := by decide +kernel
theorem dX9_sharedNodes_27 : decode cX9_sharedNodes 27 = .ok (.aload_n 0, 1) := by decide +kernel
theorem dX9_sharedNodes_28 : decode cX9_sharedNodes 28 = .ok (.getfield 43, 3) := by decide +kernel
theorem dX9_sharedNodes_31 : decode cX9_sharedNodes 31 = .ok (.invokevirtual 104, 3) := by decide +kernel
theorem dX9_sharedNodes_34 : decode cX9_sharedNodes 34 = .ok (.invokevirtual 154, 3) := by decide +kernel
theorem dX9_sharedNodes_37 : decode cX9_sharedNodes 37 = .ok (.aload_n 0, 1) := by decide +kernel
theorem dX9_sharedNodes_38 : decode cX9_sharedNodes 38 = .ok (.getfield 19, 3) := by decide +kernel
theorem dX9_sharedNodes_41 : decode cX9_sharedNodes 41 = .ok (.iload_n 2, 1) := by decide +kernel
theorem dX9_sharedNodes_42 : decode cX9_sharedNodes 42 = .ok (.aaload, 1) := by decide +kernel
theorem dX9_sharedNodes_43 : decode cX9_sharedNodes 43 = .ok (.aload_n 0, 1) := by decide +kernel
theorem dX9_sharedNodes_44 : decode cX9_sharedNodes 44 = .ok (.getfield 43, 3) := by decide +kernel
theorem dX9_sharedNodes_47 : decode cX9_sharedNodes 47 = .ok (.invokevirtual 104, 3) := by decide +kernel
theorem dX9_sharedNodes_50 : decode cX9_sharedNodes 50 = .ok (.invokevirtual 154, 3) := by decide +kernel
theorem dX9_sharedNodes_53 : decode cX9_sharedNodes 53 = .ok (.invokevirtual 169, 3) := by decide +kernel
theorem dX9_sharedNodes_56 : decode cX9_sharedNodes 56 = .ok (.ireturn, 1) := by decide +kernel
theorem dX9_rows_0 : decode cX9_rows 0 = .ok (.iload_n 1, 1) := by decide +kernel
theorem dX9_rows_1 : decode cX9_rows 1 = .ok (.invokestatic 59, 3) := by decide +kernel
theorem dX9_rows_4 : decode cX9_rows 4 = .ok (.ifCond .ne 10, 3) := by decide +kernel
theorem dX9_rows_7 : decode cX9_rows 7 = .ok (.aload_n 0, 1) := by decide +kernel
theorem dX9_rows_8 : decode cX9_rows 8 = .ok (.bipush (-2), 2) := by decide +kernel
theorem dX9_rows_10 : decode cX9_rows 10 = .ok (.invokevirtual 55, 3) := by decide +kernel
theorem dX9_rows_13 : decode cX9_rows 13 = .ok (.ireturn, 1) := by decide +kernel
theorem dX9_rows_14 : decode cX9_rows 14 = .ok (.aload_n 0, 1) := by decide +kernel
theorem dX9_rows_15 : decode cX9_rows 15 = .ok (.getfield 19, 3) := by decide +kernel
theorem dX9_rows_18 : decode cX9_rows 18 = .ok (.iload_n 1, 1) := by decide +kernel
theorem dX9_rows_19 : decode cX9_rows 19 = .ok (.aaload, 1) := by decide +kernel
theorem dX9_rows_20 : decode cX9_rows 20 = .ok (.aload_n 0, 1) := by decide +kernel
theorem dX9_rows_21 : decode cX9_rows 21 = .ok (.getfield 43, 3) := by decide +kernel
theorem dX9_rows_24 : decode cX9_rows 24 = .ok (.invokevirtual 104, 3) := by decide +kernel
theorem dX9_rows_27 : decode cX9_rows 27 = .ok (.invokevirtual 173, 3) := by decide +kernel
theorem dX9_rows_30 : decode cX9_rows 30 = .ok (.invokevirtual 177, 3) := by decide +kernel
theorem dX9_rows_33 : decode cX9_rows 33 = .ok (.ireturn, 1) := by decide +kernel
theorem dX9_match_0 : decode cX9_match 0 = .ok (.iload_n 1, 1) := by decide +kernel
theorem dX9_match_1 : decode cX9_match 1 = .ok (.invokestatic 59, 3) := by decide +kernel
theorem dX9_match_4 : decode cX9_match 4 = .ok (.ifCond .eq 12, 3) := by decide +kernel
theorem dX9_match_7 : decode cX9_match 7 = .ok (.iload_n 3, 1) := by decide +kernel
theorem dX9_match_8 : decode cX9_match 8 = .ok (.ifCond .lt 8, 3) := by decide +kernel
theorem dX9_match_11 : decode cX9_match 11 = .ok (.iload_n 3, 1) := by decide +kernel
theorem dX9_match_12 : decode cX9_match 12 = .ok (.iconst 3, 1) := by decide +kernel
theorem dX9_match_13 : decode cX9_match 13 = .ok (.if_icmp .lt 10, 3) := by decide +kernel
theorem dX9_match_16 : decode cX9_match 16 = .ok (.aload_n 0, 1) := by decide +kernel
theorem dX9_match_17 : decode cX9_match 17 = .ok (.bipush (-2), 2) := by decide +kernel
theorem dX9_match_19 : decode cX9_match 19 = .ok (.invokevirtual 55, 3) := by decide +kernel
theorem dX9_match_22 : decode cX9_match 22 = .ok (.ireturn, 1) := by decide +kernel
theorem dX9_match_23 : decode cX9_match 23 = .ok (.aload_n 0, 1) := by decide +kernel
theorem dX9_match_24 : decode cX9_match 24 = .ok (.getfield 19, 3) := by decide +kernel
theorem dX9_match_27 : decode cX9_match 27 = .ok (.iload_n 1, 1) := by decide +kernel
theorem dX9_match_28 : decode cX9_match 28 = .ok (.aaload, 1) := by decide +kernel
theorem dX9_match_29 : decode cX9_match 29 = .ok (.aload_n 0, 1) := by decide +kernel
theorem dX9_match_30 : decode cX9_match 30 = .ok (.getfield 43, 3) := by decide +kernel
theorem dX9_match_33 : decode cX9_match 33 = .ok (.invokevirtual 104, 3) := by decide +kernel
theorem dX9_match_36 : decode cX9_match 36 = .ok (.invokevirtual 173, 3) := by decide +kernel
theorem dX9_match_39 : decode cX9_match 39 = .ok (.astore 4, 2) := by decide +kernel
theorem dX9_match_41 : decode cX9_match 41 = .ok (.aload 4, 2) := by decide +kernel
theorem dX9_match_43 : decode cX9_match 43 = .ok (.iload_n 2, 1) := by decide +kernel
theorem dX9_match_44 : decode cX9_match 44 = .ok (.invokevirtual 182, 3) := by decide +kernel
theorem dX9_match_47 : decode cX9_match 47 = .ok (.ifCond .ne 10, 3) := by decide +kernel
theorem dX9_match_50 : decode cX9_match 50 = .ok (.aload_n 0, 1) := by decide +kernel
theorem dX9_match_51 : decode cX9_match 51 = .ok (.bipush (-2), 2) := by decide +kernel
theorem dX9_match_53 : decode cX9_match 53 = .ok (.invokevirtual 55, 3) := by decide +kernel
theorem dX9_match_56 : decode cX9_match 56 = .ok (.ireturn, 1) := by decide +kernel
theorem dX9_match_57 : decode cX9_match 57 = .ok (.aload 4, 2) := by decide +kernel
theorem dX9_match_59 : decode cX9_match 59 = .ok (.iload_n 2, 1) := by decide +kernel
theorem dX9_match_60 : decode cX9_match 60 = .ok (.invokevirtual 185, 3) := by decide +kernel
theorem dX9_match_63 : decode cX9_match 63 = .ok (.iload_n 3, 1) := by decide +kernel
theorem dX9_match_64 : decode cX9_match 64 = .ok (.invokestatic 188, 3) := by decide +kernel
theorem dX9_match_67 : decode cX9_match 67 = .ok (.ireturn, 1) := by decide +kernel
theorem dX9_action_0 : decode cX9_action 0 = .ok (.iload_n 1, 1) := by decide +kernel
theorem dX9_action_1 : decode cX9_action 1 = .ok (.invokestatic 59, 3) := by decide +kernel
theorem dX9_action_4 : decode cX9_action 4 = .ok (.ifCond .eq 8, 3) := by decide +kernel
theorem dX9_action_7 : decode cX9_action 7 = .ok (.iload_n 3, 1) := by decide +kernel
theorem dX9_action_8 : decode cX9_action 8 = .ok (.iconst (-1), 1) := by decide +kernel
theorem dX9_action_9 : decode cX9_action 9 = .ok (.if_icmp .ge 10, 3) := by decide +kernel
theorem dX9_action_12 : decode cX9_action 12 = .ok (.aload_n 0, 1) := by decide +kernel
theorem dX9_action_13 : decode cX9_action 13 = .ok (.bipush (-2), 2) := by decide +kernel
theorem dX9_action_15 : decode cX9_action 15 = .ok (.invokevirtual 55, 3) := by decide +kernel
theorem dX9_action_18 : decode cX9_action 18 = .ok (.ireturn, 1) := by decide +kernel
theorem dX9_action_19 : decode cX9_action 19 = .ok (.aload_n 0, 1) := by decide +kernel
theorem dX9_action_20 : decode cX9_action 20 = .ok (.getfield 19, 3) := by decide +kernel
theorem dX9_action_23 : decode cX9_action 23 = .ok (.iload_n 1, 1) := by decide +kernel
theorem dX9_action_24 : decode cX9_action 24 = .ok (.aaload, 1) := by decide +kernel
theorem dX9_action_25 : decode cX9_action 25 = .ok (.aload_n 0, 1) := by decide +kernel
theorem dX9_action_26 : decode cX9_action 26 = .ok (.getfield 43, 3) := by decide +kernel
theorem dX9_action_29 : decode cX9_action 29 = .ok (.invokevirtual 104, 3) := by decide +kernel
theorem dX9_action_32 : decode cX9_action 32 = .ok (.invokevirtual 173, 3) := by decide +kernel
theorem dX9_action_35 : decode cX9_action 35 = .ok (.astore 4, 2) := by decide +kernel
theorem dX9_action_37 : decode cX9_action 37 = .ok (.aload 4, 2) := by decide +kernel
theorem dX9_action_39 : decode cX9_action 39 = .ok (.iload_n 2, 1) := by decide +kernel
theorem dX9_action_40 : decode cX9_action 40 = .ok (.invokevirtual 182, 3) := by decide +kernel
theorem dX9_action_43 : decode cX9_action 43 = .ok (.ifCond .ne 10, 3) := by decide +kernel
theorem dX9_action_46 : decode cX9_action 46 = .ok (.aload_n 0, 1) := by decide +kernel
theorem dX9_action_47 : decode cX9_action 47 = .ok (.bipush (-2), 2) := by decide +kernel
theorem dX9_action_49 : decode cX9_action 49 = .ok (.invokevirtual 55, 3) := by decide +kernel
theorem dX9_action_52 : decode cX9_action 52 = .ok (.ireturn, 1) := by decide +kernel
theorem dX9_action_53 : decode cX9_action 53 = .ok (.aload_n 0, 1) := by decide +kernel
theorem dX9_action_54 : decode cX9_action 54 = .ok (.getfield 19, 3) := by decide +kernel
theorem dX9_action_57 : decode cX9_action 57 = .ok (.iload_n 1, 1) := by decide +kernel
theorem dX9_action_58 : decode cX9_action 58 = .ok (.aaload, 1) := by decide +kernel
theorem dX9_action_59 : decode cX9_action 59 = .ok (.invokevirtual 154, 3) := by decide +kernel
theorem dX9_action_62 : decode cX9_action 62 = .ok (.astore 5, 2) := by decide +kernel
theorem dX9_action_64 : decode cX9_action 64 = .ok (.aload 4, 2) := by decide +kernel
theorem dX9_action_66 : decode cX9_action 66 = .ok (.iload_n 2, 1) := by decide +kernel
theorem dX9_action_67 : decode cX9_action 67 = .ok (.invokevirtual 192, 3) := by decide +kernel
theorem dX9_action_70 : decode cX9_action 70 = .ok (.istore 6, 2) := by decide +kernel
theorem dX9_action_72 : decode cX9_action 72 = .ok (.iload_n 3, 1) := by decide +kernel
theorem dX9_action_73 : decode cX9_action 73 = .ok (.iconst (-1), 1) := by decide +kernel
theorem dX9_action_74 : decode cX9_action 74 = .ok (.if_icmp .ne 13, 3) := by decide +kernel
theorem dX9_action_77 : decode cX9_action 77 = .ok (.aload 5, 2) := by decide +kernel
theorem dX9_action_79 : decode cX9_action 79 = .ok (.iload 6, 2) := by decide +kernel
theorem dX9_action_81 : decode cX9_action 81 = .ok (.invokevirtual 195, 3) := by decide +kernel
theorem dX9_action_84 : decode cX9_action 84 = .ok (.goto 11, 3) := by decide +kernel
theorem dX9_action_87 : decode cX9_action 87 = .ok (.aload 5, 2) := by decide +kernel
theorem dX9_action_89 : decode cX9_action 89 = .ok (.iload 6, 2) := by decide +kernel
theorem dX9_action_91 : decode cX9_action 91 = .ok (.iload_n 3, 1) := by decide +kernel
theorem dX9_action_92 : decode cX9_action 92 = .ok (.invokevirtual 198, 3) := by decide +kernel
theorem dX9_action_95 : decode cX9_action 95 = .ok (.ireturn, 1) := by decide +kernel
theorem dX9_hit_0 : decode cX9_hit 0 = .ok (.iload_n 1, 1) := by decide +kernel
theorem dX9_hit_1 : decode cX9_hit 1 = .ok (.invokestatic 59, 3) := by decide +kernel
theorem dX9_hit_4 : decode cX9_hit 4 = .ok (.ifCond .eq 10, 3) := by decide +kernel
theorem dX9_hit_7 : decode cX9_hit 7 = .ok (.iload_n 2, 1) := by decide +kernel
theorem dX9_hit_8 : decode cX9_hit 8 = .ok (.invokestatic 120, 3) := by decide +kernel
theorem dX9_hit_11 : decode cX9_hit 11 = .ok (.ifCond .ne 10, 3) := by decide +kernel
theorem dX9_hit_14 : decode cX9_hit 14 = .ok (.aload_n 0, 1) := by decide +kernel
theorem dX9_hit_15 : decode cX9_hit 15 = .ok (.bipush (-2), 2) := by decide +kernel
theorem dX9_hit_17 : decode cX9_hit 17 = .ok (.invokevirtual 55, 3) := by decide +kernel
theorem dX9_hit_20 : decode cX9_hit 20 = .ok (.ireturn, 1) := by decide +kernel
theorem dX9_hit_21 : decode cX9_hit 21 = .ok (.aload_n 0, 1) := by decide +kernel
theorem dX9_hit_22 : decode cX9_hit 22 = .ok (.getfield 19, 3) := by decide +kernel
theorem dX9_hit_25 : decode cX9_hit 25 = .ok (.iload_n 1, 1) := by decide +kernel
theorem dX9_hit_26 : decode cX9_hit 26 = .ok (.aaload, 1) := by decide +kernel
theorem dX9_hit_27 : decode cX9_hit 27 = .ok (.aload_n 0, 1) := by decide +kernel
theorem dX9_hit_28 : decode cX9_hit 28 = .ok (.getfield 43, 3) := by decide +kernel
theorem dX9_hit_31 : decode cX9_hit 31 = .ok (.invokevirtual 104, 3) := by decide +kernel
theorem dX9_hit_34 : decode cX9_hit 34 = .ok (.invokevirtual 173, 3) := by decide +kernel
theorem dX9_hit_37 : decode cX9_hit 37 = .ok (.iload_n 2, 1) := by decide +kernel
theorem dX9_hit_38 : decode cX9_hit 38 = .ok (.invokevirtual 201, 3) := by decide +kernel
theorem dX9_hit_41 : decode cX9_hit 41 = .ok (.ireturn, 1) := by decide +kernel
theorem dX9_hits_0 : decode cX9_hits 0 = .ok (.iload_n 1, 1) := by decide +kernel
theorem dX9_hits_1 : decode cX9_hits 1 = .ok (.invokestatic 59, 3) := by decide +kernel
theorem dX9_hits_4 : decode cX9_hits 4 = .ok (.ifCond .ne 10, 3) := by decide +kernel
theorem dX9_hits_7 : decode cX9_hits 7 = .ok (.aload_n 0, 1) := by decide +kernel
theorem dX9_hits_8 : decode cX9_hits 8 = .ok (.bipush (-2), 2) := by decide +kernel
theorem dX9_hits_10 : decode cX9_hits 10 = .ok (.invokevirtual 55, 3) := by decide +kernel
theorem dX9_hits_13 : decode cX9_hits 13 = .ok (.ireturn, 1) := by decide +kernel
theorem dX9_hits_14 : decode cX9_hits 14 = .ok (.aload_n 0, 1) := by decide +kernel
theorem dX9_hits_15 : decode cX9_hits 15 = .ok (.getfield 19, 3) := by decide +kernel
theorem dX9_hits_18 : decode cX9_hits 18 = .ok (.iload_n 1, 1) := by decide +kernel
theorem dX9_hits_19 : decode cX9_hits 19 = .ok (.aaload, 1) := by decide +kernel
theorem dX9_hits_20 : decode cX9_hits 20 = .ok (.aload_n 0, 1) := by decide +kernel
theorem dX9_hits_21 : decode cX9_hits 21 = .ok (.getfield 43, 3) := by decide +kernel
theorem dX9_hits_24 : decode cX9_hits 24 = .ok (.invokevirtual 104, 3) := by decide +kernel
theorem dX9_hits_27 : decode cX9_hits 27 = .ok (.invokevirtual 173, 3) := by decide +kernel
theorem dX9_hits_30 : decode cX9_hits 30 = .ok (.astore_n 3, 1) := by decide +kernel
theorem dX9_hits_31 : decode cX9_hits 31 = .ok (.aload_n 3, 1) := by decide +kernel
theorem dX9_hits_32 : decode cX9_hits 32 = .ok (.iload_n 2, 1) := by decide +kernel
theorem dX9_hits_33 : decode cX9_hits 33 = .ok (.invokevirtual 182, 3) := by decide +kernel
theorem dX9_hits_36 : decode cX9_hits 36 = .ok (.ifCond .ne 10, 3) := by decide +kernel
theorem dX9_hits_39 : decode cX9_hits 39 = .ok (.aload_n 0, 1) := by decide +kernel
theorem dX9_hits_40 : decode cX9_hits 40 = .ok (.bipush (-2), 2) := by decide +kernel
theorem dX9_hits_42 : decode cX9_hits 42 = .ok (.invokevirtual 55, 3) := by decide +kernel
theorem dX9_hits_45 : decode cX9_hits 45 = .ok (.ireturn, 1) := by decide +kernel
theorem dX9_hits_46 : decode cX9_hits 46 = .ok (.iconst 0, 1) := by decide +kernel
theorem dX9_hits_47 : decode cX9_hits 47 = .ok (.istore 4, 2) := by decide +kernel
theorem dX9_hits_49 : decode cX9_hits 49 = .ok (.iconst 0, 1) := by decide +kernel
theorem dX9_hits_50 : decode cX9_hits 50 = .ok (.istore 5, 2) := by decide +kernel
theorem dX9_hits_52 : decode cX9_hits 52 = .ok (.iload 5, 2) := by decide +kernel
theorem dX9_hits_54 : decode cX9_hits 54 = .ok (.bipush 64, 2) := by decide +kernel
theorem dX9_hits_56 : decode cX9_hits 56 = .ok (.if_icmp .ge 22, 3) := by decide +kernel
theorem dX9_hits_59 : decode cX9_hits 59 = .ok (.aload_n 3, 1) := by decide +kernel
theorem dX9_hits_60 : decode cX9_hits 60 = .ok (.iload 5, 2) := by decide +kernel
theorem dX9_hits_62 : decode cX9_hits 62 = .ok (.invokevirtual 201, 3) := by decide +kernel
theorem dX9_hits_65 : decode cX9_hits 65 = .ok (.iload_n 2, 1) := by decide +kernel
theorem dX9_hits_66 : decode cX9_hits 66 = .ok (.if_icmp .ne 6, 3) := by decide +kernel
theorem dX9_hits_69 : decode cX9_hits 69 = .ok (.iinc 4 1, 3) := by decide +kernel
theorem dX9_hits_72 : decode cX9_hits 72 = .ok (.iinc 5 1, 3) := by decide +kernel
theorem dX9_hits_75 : decode cX9_hits 75 = .ok (.goto (-23), 3) := by decide +kernel
theorem dX9_hits_78 : decode cX9_hits 78 = .ok (.iload 4, 2) := by decide +kernel
theorem dX9_hits_80 : decode cX9_hits 80 = .ok (.ireturn, 1) := by decide +kernel
theorem dX9_undo_0 : decode cX9_undo 0 = .ok (.aload_n 0, 1) := by decide +kernel
theorem dX9_undo_1 : decode cX9_undo 1 = .ok (.getfield 26, 3) := by decide +kernel
theorem dX9_undo_4 : decode cX9_undo 4 = .ok (.invokevirtual 204, 3) := by decide +kernel
theorem dX9_undo_7 : decode cX9_undo 7 = .ok (.istore_n 1, 1) := by decide +kernel
theorem dX9_undo_8 : decode cX9_undo 8 = .ok (.iload_n 1, 1) := by decide +kernel
theorem dX9_undo_9 : decode cX9_undo 9 = .ok (.invokestatic 59, 3) := by decide +kernel
theorem dX9_undo_12 : decode cX9_undo 12 = .ok (.ifCond .ne 10, 3) := by decide +kernel
theorem dX9_undo_15 : decode cX9_undo 15 = .ok (.aload_n 0, 1) := by decide +kernel
theorem dX9_undo_16 : decode cX9_undo 16 = .ok (.bipush (-6), 2) := by decide +kernel
theorem dX9_undo_18 : decode cX9_undo 18 = .ok (.invokevirtual 55, 3) := by decide +kernel
theorem dX9_undo_21 : decode cX9_undo 21 = .ok (.ireturn, 1) := by decide +kernel
theorem dX9_undo_22 : decode cX9_undo 22 = .ok (.aload_n 0, 1) := by decide +kernel
theorem dX9_undo_23 : decode cX9_undo 23 = .ok (.getfield 19, 3) := by decide +kernel
theorem dX9_undo_26 : decode cX9_undo 26 = .ok (.iload_n 1, 1) := by decide +kernel
theorem dX9_undo_27 : decode cX9_undo 27 = .ok (.aaload, 1) := by decide +kernel
theorem dX9_undo_28 : decode cX9_undo 28 = .ok (.aload_n 0, 1) := by decide +kernel
theorem dX9_undo_29 : decode cX9_undo 29 = .ok (.getfield 26, 3) := by decide +kernel
theorem dX9_undo_32 : decode cX9_undo 32 = .ok (.invokevirtual 207, 3) := by decide +kernel
theorem dX9_undo_35 : decode cX9_undo 35 = .ok (.invokevirtual 210, 3) := by decide +kernel
theorem dX9_undo_38 : decode cX9_undo 38 = .ok (.aload_n 0, 1) := by decide +kernel
theorem dX9_undo_39 : decode cX9_undo 39 = .ok (.getfield 26, 3) := by decide +kernel
theorem dX9_undo_42 : decode cX9_undo 42 = .ok (.invokevirtual 213, 3) := by decide +kernel
theorem dX9_undo_45 : decode cX9_undo 45 = .ok (.aload_n 0, 1) := by decide +kernel
theorem dX9_undo_46 : decode cX9_undo 46 = .ok (.getfield 26, 3) := by decide +kernel
theorem dX9_undo_49 : decode cX9_undo 49 = .ok (.invokevirtual 216, 3) := by decide +kernel
theorem dX9_undo_52 : decode cX9_undo 52 = .ok (.ireturn, 1) := by decide +kernel
theorem dX9_errorCount_0 : decode cX9_errorCount 0 = .ok (.iload_n 1, 1) := by decide +kernel
theorem dX9_errorCount_1 : decode cX9_errorCount 1 = .ok (.bipush (-6), 2) := by decide +kernel
theorem dX9_errorCount_3 : decode cX9_errorCount 3 = .ok (.if_icmp .lt 9, 3) := by decide +kernel
theorem dX9_errorCount_6 : decode cX9_errorCount 6 = .ok (.iload_n 1, 1) := by decide +kernel
theorem dX9_errorCount_7 : decode cX9_errorCount 7 = .ok (.bipush (-2), 2) := by decide +kernel
theorem dX9_errorCount_9 : decode cX9_errorCount 9 = .ok (.if_icmp .le 10, 3) := by decide +kernel
theorem dX9_errorCount_12 : decode cX9_errorCount 12 = .ok (.aload_n 0, 1) := by decide +kernel
theorem dX9_errorCount_13 : decode cX9_errorCount 13 = .ok (.bipush (-2), 2) := by decide +kernel
theorem dX9_errorCount_15 : decode cX9_errorCount 15 = .ok (.invokevirtual 55, 3) := by decide +kernel
theorem dX9_errorCount_18 : decode cX9_errorCount 18 = .ok (.ireturn, 1) := by decide +kernel
theorem dX9_errorCount_19 : decode cX9_errorCount 19 = .ok (.aload_n 0, 1) := by decide +kernel
theorem dX9_errorCount_20 : decode cX9_errorCount 20 = .ok (.getfield 30, 3) := by decide +kernel
theorem dX9_errorCount_23 : decode cX9_errorCount 23 = .ok (.bipush (-2), 2) := by decide +kernel
theorem dX9_errorCount_25 : decode cX9_errorCount 25 = .ok (.iload_n 1, 1) := by decide +kernel
theorem dX9_errorCount_26 : decode cX9_errorCount 26 = .ok (.isub, 1) := by decide +kernel
theorem dX9_errorCount_27 : decode cX9_errorCount 27 = .ok (.iaload, 1) := by decide +kernel
theorem dX9_errorCount_28 : decode cX9_errorCount 28 = .ok (.ireturn, 1) := by decide +kernel
theorem dX9_digest_0 : decode cX9_digest 0 = .ok (.ldc2_w 219, 3) := by decide +kernel
theorem dX9_digest_3 : decode cX9_digest 3 = .ok (.lstore_n 1, 1) := by decide +kernel
theorem dX9_digest_4 : decode cX9_digest 4 = .ok (.iconst 0, 1) := by decide +kernel
theorem dX9_digest_5 : decode cX9_digest 5 = .ok (.istore_n 3, 1) := by decide +kernel
theorem dX9_digest_6 : decode cX9_digest 6 = .ok (.iload_n 3, 1) := by decide +kernel
theorem dX9_digest_7 : decode cX9_digest 7 = .ok (.iconst 5, 1) := by decide +kernel
theorem dX9_digest_8 : decode cX9_digest 8 = .ok (.if_icmp .ge 21, 3) := by decide +kernel
theorem dX9_digest_11 : decode cX9_digest 11 = .ok (.lload_n 1, 1) := by decide +kernel
theorem dX9_digest_12 : decode cX9_digest 12 = .ok (.aload_n 0, 1) := by decide +kernel
theorem dX9_digest_13 : decode cX9_digest 13 = .ok (.getfield 30, 3) := by decide +kernel
theorem dX9_digest_16 : decode cX9_digest 16 = .ok (.iload_n 3, 1) := by decide +kernel
theorem dX9_digest_17 : decode cX9_digest 17 = .ok (.iaload, 1) := by decide +kernel
theorem dX9_digest_18 : decode cX9_digest 18 = .ok (.i2l, 1) := by decide +kernel
theorem dX9_digest_19 : decode cX9_digest 19 = .ok (.invokestatic 221, 3) := by decide +kernel
theorem dX9_digest_22 : decode cX9_digest 22 = .ok (.lstore_n 1, 1) := by decide +kernel
theorem dX9_digest_23 : decode cX9_digest 23 = .ok (.iinc 3 1, 3) := by decide +kernel
theorem dX9_digest_26 : decode cX9_digest 26 = .ok (.goto (-20), 3) := by decide +kernel
theorem dX9_digest_29 : decode cX9_digest 29 = .ok (.lload_n 1, 1) := by decide +kernel
theorem dX9_digest_30 : decode cX9_digest 30 = .ok (.aload_n 0, 1) := by decide +kernel
theorem dX9_digest_31 : decode cX9_digest 31 = .ok (.getfield 13, 3) := by decide +kernel
theorem dX9_digest_34 : decode cX9_digest 34 = .ok (.i2l, 1) := by decide +kernel
theorem dX9_digest_35 : decode cX9_digest 35 = .ok (.invokestatic 221, 3) := by decide +kernel
theorem dX9_digest_38 : decode cX9_digest 38 = .ok (.lstore_n 1, 1) := by decide +kernel
theorem dX9_digest_39 : decode cX9_digest 39 = .ok (.iconst 0, 1) := by decide +kernel
theorem dX9_digest_40 : decode cX9_digest 40 = .ok (.istore_n 3, 1) := by decide +kernel
theorem dX9_digest_41 : decode cX9_digest 41 = .ok (.iload_n 3, 1) := by decide +kernel
theorem dX9_digest_42 : decode cX9_digest 42 = .ok (.iconst 4, 1) := by decide +kernel
theorem dX9_digest_43 : decode cX9_digest 43 = .ok (.if_icmp .ge 27, 3) := by decide +kernel
theorem dX9_digest_46 : decode cX9_digest 46 = .ok (.lload_n 1, 1) := by decide +kernel
theorem dX9_digest_47 : decode cX9_digest 47 = .ok (.aload_n 0, 1) := by decide +kernel
theorem dX9_digest_48 : decode cX9_digest 48 = .ok (.getfield 19, 3) := by decide +kernel
theorem dX9_digest_51 : decode cX9_digest 51 = .ok (.iload_n 3, 1) := by decide +kernel
theorem dX9_digest_52 : decode cX9_digest 52 = .ok (.aaload, 1) := by decide +kernel
theorem dX9_digest_53 : decode cX9_digest 53 = .ok (.aload_n 0, 1) := by decide +kernel
theorem dX9_digest_54 : decode cX9_digest 54 = .ok (.getfield 43, 3) := by decide +kernel
theorem dX9_digest_57 : decode cX9_digest 57 = .ok (.invokevirtual 104, 3) := by decide +kernel
theorem dX9_digest_60 : decode cX9_digest 60 = .ok (.invokestatic 225, 3) := by decide +kernel
theorem dX9_digest_63 : decode cX9_digest 63 = .ok (.lstore_n 1, 1) := by decide +kernel
theorem dX9_digest_64 : decode cX9_digest 64 = .ok (.iinc 3 1, 3) := by decide +kernel
theorem dX9_digest_67 : decode cX9_digest 67 = .ok (.goto (-26), 3) := by decide +kernel
theorem dX9_digest_70 : decode cX9_digest 70 = .ok (.iconst 0, 1) := by decide +kernel
theorem dX9_digest_71 : decode cX9_digest 71 = .ok (.istore_n 3, 1) := by decide +kernel
theorem dX9_digest_72 : decode cX9_digest 72 = .ok (.iload_n 3, 1) := by decide +kernel
theorem dX9_digest_73 : decode cX9_digest 73 = .ok (.iconst 4, 1) := by decide +kernel
theorem dX9_digest_74 : decode cX9_digest 74 = .ok (.if_icmp .ge 82, 3) := by decide +kernel
theorem dX9_digest_77 : decode cX9_digest 77 = .ok (.iload_n 3, 1) := by decide +kernel
theorem dX9_digest_78 : decode cX9_digest 78 = .ok (.iconst 1, 1) := by decide +kernel
theorem dX9_digest_79 : decode cX9_digest 79 = .ok (.iadd, 1) := by decide +kernel
theorem dX9_digest_80 : decode cX9_digest 80 = .ok (.istore 4, 2) := by decide +kernel
theorem dX9_digest_82 : decode cX9_digest 82 = .ok (.iload 4, 2) := by decide +kernel
theorem dX9_digest_84 : decode cX9_digest 84 = .ok (.iconst 4, 1) := by decide +kernel
theorem dX9_digest_85 : decode cX9_digest 85 = .ok (.if_icmp .ge 65, 3) := by decide +kernel
theorem dX9_digest_88 : decode cX9_digest 88 = .ok (.lload_n 1, 1) := by decide +kernel
theorem dX9_digest_89 : decode cX9_digest 89 = .ok (.aload_n 0, 1) := by decide +kernel
theorem dX9_digest_90 : decode cX9_digest 90 = .ok (.getfield 19, 3) := by decide +kernel
theorem dX9_digest_93 : decode cX9_digest 93 = .ok (.iload_n 3, 1) := by decide +kernel
theorem dX9_digest_94 : decode cX9_digest 94 = .ok (.aaload, 1) := by decide +kernel
theorem dX9_digest_95 : decode cX9_digest 95 = .ok (.invokevirtual 123, 3) := by decide +kernel
theorem dX9_digest_98 : decode cX9_digest 98 = .ok (.aload_n 0, 1) := by decide +kernel
theorem dX9_digest_99 : decode cX9_digest 99 = .ok (.getfield 19, 3) := by decide +kernel
theorem dX9_digest_102 : decode cX9_digest 102 = .ok (.iload 4, 2) := by decide +kernel
theorem dX9_digest_104 : decode cX9_digest 104 = .ok (.aaload, 1) := by decide +kernel
theorem dX9_digest_105 : decode cX9_digest 105 = .ok (.invokevirtual 123, 3) := by decide +kernel
theorem dX9_digest_108 : decode cX9_digest 108 = .ok (.invokevirtual 143, 3) := by decide +kernel
theorem dX9_digest_111 : decode cX9_digest 111 = .ok (.i2l, 1) := by decide +kernel
theorem dX9_digest_112 : decode cX9_digest 112 = .ok (.invokestatic 221, 3) := by decide +kernel
theorem dX9_digest_115 : decode cX9_digest 115 = .ok (.lstore_n 1, 1) := by decide +kernel
theorem dX9_digest_116 : decode cX9_digest 116 = .ok (.lload_n 1, 1) := by decide +kernel
theorem dX9_digest_117 : decode cX9_digest 117 = .ok (.aload_n 0, 1) := by decide +kernel
theorem dX9_digest_118 : decode cX9_digest 118 = .ok (.getfield 19, 3) := by decide +kernel
theorem dX9_digest_121 : decode cX9_digest 121 = .ok (.iload_n 3, 1) := by decide +kernel
theorem dX9_digest_122 : decode cX9_digest 122 = .ok (.aaload, 1) := by decide +kernel
theorem dX9_digest_123 : decode cX9_digest 123 = .ok (.invokevirtual 123, 3) := by decide +kernel
theorem dX9_digest_126 : decode cX9_digest 126 = .ok (.aload_n 0, 1) := by decide +kernel
theorem dX9_digest_127 : decode cX9_digest 127 = .ok (.getfield 19, 3) := by decide +kernel
theorem dX9_digest_130 : decode cX9_digest 130 = .ok (.iload 4, 2) := by decide +kernel
theorem dX9_digest_132 : decode cX9_digest 132 = .ok (.aaload, 1) := by decide +kernel
theorem dX9_digest_133 : decode cX9_digest 133 = .ok (.invokevirtual 123, 3) := by decide +kernel
theorem dX9_digest_136 : decode cX9_digest 136 = .ok (.invokevirtual 147, 3) := by decide +kernel
theorem dX9_digest_139 : decode cX9_digest 139 = .ok (.i2l, 1) := by decide +kernel
theorem dX9_digest_140 : decode cX9_digest 140 = .ok (.invokestatic 221, 3) := by decide +kernel
theorem dX9_digest_143 : decode cX9_digest 143 = .ok (.lstore_n 1, 1) := by decide +kernel
theorem dX9_digest_144 : decode cX9_digest 144 = .ok (.iinc 4 1, 3) := by decide +kernel
theorem dX9_digest_147 : decode cX9_digest 147 = .ok (.goto (-65), 3) := by decide +kernel
theorem dX9_digest_150 : decode cX9_digest 150 = .ok (.iinc 3 1, 3) := by decide +kernel
theorem dX9_digest_153 : decode cX9_digest 153 = .ok (.goto (-81), 3) := by decide +kernel
theorem dX9_digest_156 : decode cX9_digest 156 = .ok (.lload_n 1, 1) := by decide +kernel
theorem dX9_digest_157 : decode cX9_digest 157 = .ok (.aload_n 0, 1) := by decide +kernel
theorem dX9_digest_158 : decode cX9_digest 158 = .ok (.getfield 26, 3) := by decide +kernel
theorem dX9_digest_161 : decode cX9_digest 161 = .ok (.invokevirtual 216, 3) := by decide +kernel
theorem dX9_digest_164 : decode cX9_digest 164 = .ok (.i2l, 1) := by decide +kernel
theorem dX9_digest_165 : decode cX9_digest 165 = .ok (.invokestatic 221, 3) := by decide +kernel
theorem dX9_digest_168 : decode cX9_digest 168 = .ok (.lreturn, 1) := by decide +kernel
theorem dX9_mixed_0 : decode cX9_mixed 0 = .ok (.ldc2_w 229, 3) := by decide +kernel
theorem dX9_mixed_3 : decode cX9_mixed 3 = .ok (.lload_n 0, 1) := by decide +kernel
theorem dX9_mixed_4 : decode cX9_mixed 4 = .ok (.lmul, 1) := by decide +kernel
theorem dX9_mixed_5 : decode cX9_mixed 5 = .ok (.lload_n 2, 1) := by decide +kernel
theorem dX9_mixed_6 : decode cX9_mixed 6 = .ok (.ladd, 1) := by decide +kernel
theorem dX9_mixed_7 : decode cX9_mixed 7 = .ok (.lreturn, 1) := by decide +kernel
theorem dX9_mixedSlot_0 : decode cX9_mixedSlot 0 = .ok (.lload_n 0, 1) := by decide +kernel
theorem dX9_mixedSlot_1 : decode cX9_mixedSlot 1 = .ok (.aload_n 2, 1) := by decide +kernel
theorem dX9_mixedSlot_2 : decode cX9_mixedSlot 2 = .ok (.invokevirtual 78, 3) := by decide +kernel
theorem dX9_mixedSlot_5 : decode cX9_mixedSlot 5 = .ok (.invokevirtual 100, 3) := by decide +kernel
theorem dX9_mixedSlot_8 : decode cX9_mixedSlot 8 = .ok (.i2l, 1) := by decide +kernel
theorem dX9_mixedSlot_9 : decode cX9_mixedSlot 9 = .ok (.invokestatic 221, 3) := by decide +kernel
theorem dX9_mixedSlot_12 : decode cX9_mixedSlot 12 = .ok (.lstore_n 3, 1) := by decide +kernel
theorem dX9_mixedSlot_13 : decode cX9_mixedSlot 13 = .ok (.aload_n 2, 1) := by decide +kernel
theorem dX9_mixedSlot_14 : decode cX9_mixedSlot 14 = .ok (.invokevirtual 108, 3) := by decide +kernel
theorem dX9_mixedSlot_17 : decode cX9_mixedSlot 17 = .ok (.astore 5, 2) := by decide +kernel
theorem dX9_mixedSlot_19 : decode cX9_mixedSlot 19 = .ok (.aload 5, 2) := by decide +kernel
theorem dX9_mixedSlot_21 : decode cX9_mixedSlot 21 = .ok (.invokevirtual 112, 3) := by decide +kernel
theorem dX9_mixedSlot_24 : decode cX9_mixedSlot 24 = .ok (.istore 6, 2) := by decide +kernel
theorem dX9_mixedSlot_26 : decode cX9_mixedSlot 26 = .ok (.iconst 0, 1) := by decide +kernel
theorem dX9_mixedSlot_27 : decode cX9_mixedSlot 27 = .ok (.istore 7, 2) := by decide +kernel
theorem dX9_mixedSlot_29 : decode cX9_mixedSlot 29 = .ok (.iload 7, 2) := by decide +kernel
theorem dX9_mixedSlot_31 : decode cX9_mixedSlot 31 = .ok (.iload 6, 2) := by decide +kernel
theorem dX9_mixedSlot_33 : decode cX9_mixedSlot 33 = .ok (.if_icmp .ge 22, 3) := by decide +kernel
theorem dX9_mixedSlot_36 : decode cX9_mixedSlot 36 = .ok (.lload_n 3, 1) := by decide +kernel
theorem dX9_mixedSlot_37 : decode cX9_mixedSlot 37 = .ok (.aload 5, 2) := by decide +kernel
theorem dX9_mixedSlot_39 : decode cX9_mixedSlot 39 = .ok (.iload 7, 2) := by decide +kernel
theorem dX9_mixedSlot_41 : decode cX9_mixedSlot 41 = .ok (.invokevirtual 117, 3) := by decide +kernel
theorem dX9_mixedSlot_44 : decode cX9_mixedSlot 44 = .ok (.i2l, 1) := by decide +kernel
theorem dX9_mixedSlot_45 : decode cX9_mixedSlot 45 = .ok (.invokestatic 221, 3) := by decide +kernel
theorem dX9_mixedSlot_48 : decode cX9_mixedSlot 48 = .ok (.lstore_n 3, 1) := by decide +kernel
theorem dX9_mixedSlot_49 : decode cX9_mixedSlot 49 = .ok (.iinc 7 1, 3) := by decide +kernel
theorem dX9_mixedSlot_52 : decode cX9_mixedSlot 52 = .ok (.goto (-23), 3) := by decide +kernel
theorem dX9_mixedSlot_55 : decode cX9_mixedSlot 55 = .ok (.aload_n 2, 1) := by decide +kernel
theorem dX9_mixedSlot_56 : decode cX9_mixedSlot 56 = .ok (.invokevirtual 123, 3) := by decide +kernel
theorem dX9_mixedSlot_59 : decode cX9_mixedSlot 59 = .ok (.astore 7, 2) := by decide +kernel
theorem dX9_mixedSlot_61 : decode cX9_mixedSlot 61 = .ok (.lload_n 3, 1) := by decide +kernel
theorem dX9_mixedSlot_62 : decode cX9_mixedSlot 62 = .ok (.aload 7, 2) := by decide +kernel
theorem dX9_mixedSlot_64 : decode cX9_mixedSlot 64 = .ok (.iconst 0, 1) := by decide +kernel
theorem dX9_mixedSlot_65 : decode cX9_mixedSlot 65 = .ok (.invokevirtual 127, 3) := by decide +kernel
theorem dX9_mixedSlot_68 : decode cX9_mixedSlot 68 = .ok (.invokestatic 221, 3) := by decide +kernel
theorem dX9_mixedSlot_71 : decode cX9_mixedSlot 71 = .ok (.lstore_n 3, 1) := by decide +kernel
theorem dX9_mixedSlot_72 : decode cX9_mixedSlot 72 = .ok (.lload_n 3, 1) := by decide +kernel
theorem dX9_mixedSlot_73 : decode cX9_mixedSlot 73 = .ok (.aload 7, 2) := by decide +kernel
theorem dX9_mixedSlot_75 : decode cX9_mixedSlot 75 = .ok (.bipush 27, 2) := by decide +kernel
theorem dX9_mixedSlot_77 : decode cX9_mixedSlot 77 = .ok (.invokevirtual 127, 3) := by decide +kernel
theorem dX9_mixedSlot_80 : decode cX9_mixedSlot 80 = .ok (.invokestatic 221, 3) := by decide +kernel
theorem dX9_mixedSlot_83 : decode cX9_mixedSlot 83 = .ok (.lstore_n 3, 1) := by decide +kernel
theorem dX9_mixedSlot_84 : decode cX9_mixedSlot 84 = .ok (.lload_n 3, 1) := by decide +kernel
theorem dX9_mixedSlot_85 : decode cX9_mixedSlot 85 = .ok (.aload 7, 2) := by decide +kernel
theorem dX9_mixedSlot_87 : decode cX9_mixedSlot 87 = .ok (.bipush 63, 2) := by decide +kernel
theorem dX9_mixedSlot_89 : decode cX9_mixedSlot 89 = .ok (.invokevirtual 127, 3) := by decide +kernel
theorem dX9_mixedSlot_92 : decode cX9_mixedSlot 92 = .ok (.invokestatic 221, 3) := by decide +kernel
theorem dX9_mixedSlot_95 : decode cX9_mixedSlot 95 = .ok (.lstore_n 3, 1) := by decide +kernel
theorem dX9_mixedSlot_96 : decode cX9_mixedSlot 96 = .ok (.lload_n 3, 1) := by decide +kernel
theorem dX9_mixedSlot_97 : decode cX9_mixedSlot 97 = .ok (.aload 7, 2) := by decide +kernel
theorem dX9_mixedSlot_99 : decode cX9_mixedSlot 99 = .ok (.invokevirtual 133, 3) := by decide +kernel
theorem dX9_mixedSlot_102 : decode cX9_mixedSlot 102 = .ok (.invokestatic 221, 3) := by decide +kernel
theorem dX9_mixedSlot_105 : decode cX9_mixedSlot 105 = .ok (.lstore_n 3, 1) := by decide +kernel
theorem dX9_mixedSlot_106 : decode cX9_mixedSlot 106 = .ok (.lload_n 3, 1) := by decide +kernel
theorem dX9_mixedSlot_107 : decode cX9_mixedSlot 107 = .ok (.aload 7, 2) := by decide +kernel
theorem dX9_mixedSlot_109 : decode cX9_mixedSlot 109 = .ok (.invokevirtual 137, 3) := by decide +kernel
theorem dX9_mixedSlot_112 : decode cX9_mixedSlot 112 = .ok (.i2l, 1) := by decide +kernel
theorem dX9_mixedSlot_113 : decode cX9_mixedSlot 113 = .ok (.invokestatic 221, 3) := by decide +kernel
theorem dX9_mixedSlot_116 : decode cX9_mixedSlot 116 = .ok (.lstore_n 3, 1) := by decide +kernel
theorem dX9_mixedSlot_117 : decode cX9_mixedSlot 117 = .ok (.lload_n 3, 1) := by decide +kernel
theorem dX9_mixedSlot_118 : decode cX9_mixedSlot 118 = .ok (.aload 7, 2) := by decide +kernel
theorem dX9_mixedSlot_120 : decode cX9_mixedSlot 120 = .ok (.invokevirtual 140, 3) := by decide +kernel
theorem dX9_mixedSlot_123 : decode cX9_mixedSlot 123 = .ok (.i2l, 1) := by decide +kernel
theorem dX9_mixedSlot_124 : decode cX9_mixedSlot 124 = .ok (.invokestatic 221, 3) := by decide +kernel
theorem dX9_mixedSlot_127 : decode cX9_mixedSlot 127 = .ok (.lstore_n 3, 1) := by decide +kernel
theorem dX9_mixedSlot_128 : decode cX9_mixedSlot 128 = .ok (.aload_n 2, 1) := by decide +kernel
theorem dX9_mixedSlot_129 : decode cX9_mixedSlot 129 = .ok (.invokevirtual 154, 3) := by decide +kernel
theorem dX9_mixedSlot_132 : decode cX9_mixedSlot 132 = .ok (.astore 8, 2) := by decide +kernel
theorem dX9_mixedSlot_134 : decode cX9_mixedSlot 134 = .ok (.lload_n 3, 1) := by decide +kernel
theorem dX9_mixedSlot_135 : decode cX9_mixedSlot 135 = .ok (.aload 8, 2) := by decide +kernel
theorem dX9_mixedSlot_137 : decode cX9_mixedSlot 137 = .ok (.invokevirtual 158, 3) := by decide +kernel
theorem dX9_mixedSlot_140 : decode cX9_mixedSlot 140 = .ok (.i2l, 1) := by decide +kernel
theorem dX9_mixedSlot_141 : decode cX9_mixedSlot 141 = .ok (.invokestatic 221, 3) := by decide +kernel
theorem dX9_mixedSlot_144 : decode cX9_mixedSlot 144 = .ok (.lstore_n 3, 1) := by decide +kernel
theorem dX9_mixedSlot_145 : decode cX9_mixedSlot 145 = .ok (.lload_n 3, 1) := by decide +kernel
theorem dX9_mixedSlot_146 : decode cX9_mixedSlot 146 = .ok (.aload 8, 2) := by decide +kernel
theorem dX9_mixedSlot_148 : decode cX9_mixedSlot 148 = .ok (.invokevirtual 163, 3) := by decide +kernel
theorem dX9_mixedSlot_151 : decode cX9_mixedSlot 151 = .ok (.i2l, 1) := by decide +kernel
theorem dX9_mixedSlot_152 : decode cX9_mixedSlot 152 = .ok (.invokestatic 221, 3) := by decide +kernel
theorem dX9_mixedSlot_155 : decode cX9_mixedSlot 155 = .ok (.lstore_n 3, 1) := by decide +kernel
theorem dX9_mixedSlot_156 : decode cX9_mixedSlot 156 = .ok (.lload_n 3, 1) := by decide +kernel
theorem dX9_mixedSlot_157 : decode cX9_mixedSlot 157 = .ok (.aload 8, 2) := by decide +kernel
theorem dX9_mixedSlot_159 : decode cX9_mixedSlot 159 = .ok (.invokevirtual 166, 3) := by decide +kernel
theorem dX9_mixedSlot_162 : decode cX9_mixedSlot 162 = .ok (.i2l, 1) := by decide +kernel
theorem dX9_mixedSlot_163 : decode cX9_mixedSlot 163 = .ok (.invokestatic 221, 3) := by decide +kernel
theorem dX9_mixedSlot_166 : decode cX9_mixedSlot 166 = .ok (.lstore_n 3, 1) := by decide +kernel
theorem dX9_mixedSlot_167 : decode cX9_mixedSlot 167 = .ok (.lload_n 3, 1) := by decide +kernel
theorem dX9_mixedSlot_168 : decode cX9_mixedSlot 168 = .ok (.aload_n 2, 1) := by decide +kernel
theorem dX9_mixedSlot_169 : decode cX9_mixedSlot 169 = .ok (.invokevirtual 173, 3) := by decide +kernel
theorem dX9_mixedSlot_172 : decode cX9_mixedSlot 172 = .ok (.aload 8, 2) := by decide +kernel
theorem dX9_mixedSlot_174 : decode cX9_mixedSlot 174 = .ok (.invokestatic 231, 3) := by decide +kernel
theorem dX9_mixedSlot_177 : decode cX9_mixedSlot 177 = .ok (.lreturn, 1) := by decide +kernel
theorem dX9_mixedTable_0 : decode cX9_mixedTable 0 = .ok (.aload_n 2, 1) := by decide +kernel
theorem dX9_mixedTable_1 : decode cX9_mixedTable 1 = .ok (.invokevirtual 177, 3) := by decide +kernel
theorem dX9_mixedTable_4 : decode cX9_mixedTable 4 = .ok (.istore 4, 2) := by decide +kernel
theorem dX9_mixedTable_6 : decode cX9_mixedTable 6 = .ok (.lload_n 0, 1) := by decide +kernel
theorem dX9_mixedTable_7 : decode cX9_mixedTable 7 = .ok (.iload 4, 2) := by decide +kernel
theorem dX9_mixedTable_9 : decode cX9_mixedTable 9 = .ok (.i2l, 1) := by decide +kernel
theorem dX9_mixedTable_10 : decode cX9_mixedTable 10 = .ok (.invokestatic 221, 3) := by decide +kernel
theorem dX9_mixedTable_13 : decode cX9_mixedTable 13 = .ok (.lstore 5, 2) := by decide +kernel
theorem dX9_mixedTable_15 : decode cX9_mixedTable 15 = .ok (.iconst 0, 1) := by decide +kernel
theorem dX9_mixedTable_16 : decode cX9_mixedTable 16 = .ok (.istore 7, 2) := by decide +kernel
theorem dX9_mixedTable_18 : decode cX9_mixedTable 18 = .ok (.iload 7, 2) := by decide +kernel
theorem dX9_mixedTable_20 : decode cX9_mixedTable 20 = .ok (.iload 4, 2) := by decide +kernel
theorem dX9_mixedTable_22 : decode cX9_mixedTable 22 = .ok (.if_icmp .ge 88, 3) := by decide +kernel
theorem dX9_mixedTable_25 : decode cX9_mixedTable 25 = .ok (.iconst 0, 1) := by decide +kernel
theorem dX9_mixedTable_26 : decode cX9_mixedTable 26 = .ok (.istore 8, 2) := by decide +kernel
theorem dX9_mixedTable_28 : decode cX9_mixedTable 28 = .ok (.iload 8, 2) := by decide +kernel
theorem dX9_mixedTable_30 : decode cX9_mixedTable 30 = .ok (.iconst 3, 1) := by decide +kernel
theorem dX9_mixedTable_31 : decode cX9_mixedTable 31 = .ok (.if_icmp .ge 28, 3) := by decide +kernel
theorem dX9_mixedTable_34 : decode cX9_mixedTable 34 = .ok (.lload 5, 2) := by decide +kernel
theorem dX9_mixedTable_36 : decode cX9_mixedTable 36 = .ok (.aload_n 2, 1) := by decide +kernel
theorem dX9_mixedTable_37 : decode cX9_mixedTable 37 = .ok (.iload 7, 2) := by decide +kernel
theorem dX9_mixedTable_39 : decode cX9_mixedTable 39 = .ok (.invokevirtual 185, 3) := by decide +kernel
theorem dX9_mixedTable_42 : decode cX9_mixedTable 42 = .ok (.iload 8, 2) := by decide +kernel
theorem dX9_mixedTable_44 : decode cX9_mixedTable 44 = .ok (.invokestatic 188, 3) := by decide +kernel
theorem dX9_mixedTable_47 : decode cX9_mixedTable 47 = .ok (.i2l, 1) := by decide +kernel
theorem dX9_mixedTable_48 : decode cX9_mixedTable 48 = .ok (.invokestatic 221, 3) := by decide +kernel
theorem dX9_mixedTable_51 : decode cX9_mixedTable 51 = .ok (.lstore 5, 2) := by decide +kernel
theorem dX9_mixedTable_53 : decode cX9_mixedTable 53 = .ok (.iinc 8 1, 3) := by decide +kernel
theorem dX9_mixedTable_56 : decode cX9_mixedTable 56 = .ok (.goto (-28), 3) := by decide +kernel
theorem dX9_mixedTable_59 : decode cX9_mixedTable 59 = .ok (.aload_n 2, 1) := by decide +kernel
theorem dX9_mixedTable_60 : decode cX9_mixedTable 60 = .ok (.iload 7, 2) := by decide +kernel
theorem dX9_mixedTable_62 : decode cX9_mixedTable 62 = .ok (.invokevirtual 192, 3) := by decide +kernel
theorem dX9_mixedTable_65 : decode cX9_mixedTable 65 = .ok (.istore 8, 2) := by decide +kernel
theorem dX9_mixedTable_67 : decode cX9_mixedTable 67 = .ok (.iconst 0, 1) := by decide +kernel
theorem dX9_mixedTable_68 : decode cX9_mixedTable 68 = .ok (.istore 9, 2) := by decide +kernel
theorem dX9_mixedTable_70 : decode cX9_mixedTable 70 = .ok (.iload 9, 2) := by decide +kernel
theorem dX9_mixedTable_72 : decode cX9_mixedTable 72 = .ok (.bipush 125, 2) := by decide +kernel
theorem dX9_mixedTable_74 : decode cX9_mixedTable 74 = .ok (.if_icmp .ge 30, 3) := by decide +kernel
theorem dX9_mixedTable_77 : decode cX9_mixedTable 77 = .ok (.aload_n 3, 1) := by decide +kernel
theorem dX9_mixedTable_78 : decode cX9_mixedTable 78 = .ok (.iload 8, 2) := by decide +kernel
theorem dX9_mixedTable_80 : decode cX9_mixedTable 80 = .ok (.iload 9, 2) := by decide +kernel
theorem dX9_mixedTable_82 : decode cX9_mixedTable 82 = .ok (.invokevirtual 235, 3) := by decide +kernel
theorem dX9_mixedTable_85 : decode cX9_mixedTable 85 = .ok (.ifCond .eq 13, 3) := by decide +kernel
theorem dX9_mixedTable_88 : decode cX9_mixedTable 88 = .ok (.lload 5, 2) := by decide +kernel
theorem dX9_mixedTable_90 : decode cX9_mixedTable 90 = .ok (.iload 9, 2) := by decide +kernel
theorem dX9_mixedTable_92 : decode cX9_mixedTable 92 = .ok (.i2l, 1) := by decide +kernel
theorem dX9_mixedTable_93 : decode cX9_mixedTable 93 = .ok (.invokestatic 221, 3) := by decide +kernel
theorem dX9_mixedTable_96 : decode cX9_mixedTable 96 = .ok (.lstore 5, 2) := by decide +kernel
theorem dX9_mixedTable_98 : decode cX9_mixedTable 98 = .ok (.iinc 9 1, 3) := by decide +kernel
theorem dX9_mixedTable_101 : decode cX9_mixedTable 101 = .ok (.goto (-31), 3) := by decide +kernel
theorem dX9_mixedTable_104 : decode cX9_mixedTable 104 = .ok (.iinc 7 1, 3) := by decide +kernel
theorem dX9_mixedTable_107 : decode cX9_mixedTable 107 = .ok (.goto (-89), 3) := by decide +kernel
theorem dX9_mixedTable_110 : decode cX9_mixedTable 110 = .ok (.lload 5, 2) := by decide +kernel
theorem dX9_mixedTable_112 : decode cX9_mixedTable 112 = .ok (.lreturn, 1) := by decide +kernel
theorem dX9_fail_0 : decode cX9_fail 0 = .ok (.bipush (-2), 2) := by decide +kernel
theorem dX9_fail_2 : decode cX9_fail 2 = .ok (.iload_n 1, 1) := by decide +kernel
theorem dX9_fail_3 : decode cX9_fail 3 = .ok (.isub, 1) := by decide +kernel
theorem dX9_fail_4 : decode cX9_fail 4 = .ok (.istore_n 2, 1) := by decide +kernel
theorem dX9_fail_5 : decode cX9_fail 5 = .ok (.iload_n 2, 1) := by decide +kernel
theorem dX9_fail_6 : decode cX9_fail 6 = .ok (.ifCond .lt 18, 3) := by decide +kernel
theorem dX9_fail_9 : decode cX9_fail 9 = .ok (.iload_n 2, 1) := by decide +kernel
theorem dX9_fail_10 : decode cX9_fail 10 = .ok (.iconst 5, 1) := by decide +kernel
theorem dX9_fail_11 : decode cX9_fail 11 = .ok (.if_icmp .ge 13, 3) := by decide +kernel
theorem dX9_fail_14 : decode cX9_fail 14 = .ok (.aload_n 0, 1) := by decide +kernel
theorem dX9_fail_15 : decode cX9_fail 15 = .ok (.getfield 30, 3) := by decide +kernel
theorem dX9_fail_18 : decode cX9_fail 18 = .ok (.iload_n 2, 1) := by decide +kernel
theorem dX9_fail_19 : decode cX9_fail 19 = .ok (.dup2, 1) := by decide +kernel
theorem dX9_fail_20 : decode cX9_fail 20 = .ok (.iaload, 1) := by decide +kernel
theorem dX9_fail_21 : decode cX9_fail 21 = .ok (.iconst 1, 1) := by decide +kernel
theorem dX9_fail_22 : decode cX9_fail 22 = .ok (.iadd, 1) := by decide +kernel
theorem dX9_fail_23 : decode cX9_fail 23 = .ok (.iastore, 1) := by decide +kernel
theorem dX9_fail_24 : decode cX9_fail 24 = .ok (.iload_n 1, 1) := by decide +kernel
theorem dX9_fail_25 : decode cX9_fail 25 = .ok (.ireturn, 1) := by decide +kernel
theorem dX9_store_0 : decode cX9_store 0 = .ok (.aload_n 1, 1) := by decide +kernel
theorem dX9_store_1 : decode cX9_store 1 = .ok (.invokevirtual 100, 3) := by decide +kernel
theorem dX9_store_4 : decode cX9_store 4 = .ok (.bipush 60, 2) := by decide +kernel
theorem dX9_store_6 : decode cX9_store 6 = .ok (.if_icmp .le 10, 3) := by decide +kernel
theorem dX9_store_9 : decode cX9_store 9 = .ok (.aload_n 0, 1) := by decide +kernel
theorem dX9_store_10 : decode cX9_store 10 = .ok (.bipush (-4), 2) := by decide +kernel
theorem dX9_store_12 : decode cX9_store 12 = .ok (.invokevirtual 55, 3) := by decide +kernel
theorem dX9_store_15 : decode cX9_store 15 = .ok (.ireturn, 1) := by decide +kernel
theorem dX9_store_16 : decode cX9_store 16 = .ok (.aload_n 0, 1) := by decide +kernel
theorem dX9_store_17 : decode cX9_store 17 = .ok (.getfield 26, 3) := by decide +kernel
theorem dX9_store_20 : decode cX9_store 20 = .ok (.iload_n 2, 1) := by decide +kernel
theorem dX9_store_21 : decode cX9_store 21 = .ok (.aload_n 0, 1) := by decide +kernel
theorem dX9_store_22 : decode cX9_store 22 = .ok (.getfield 19, 3) := by decide +kernel
theorem dX9_store_25 : decode cX9_store 25 = .ok (.iload_n 2, 1) := by decide +kernel
theorem dX9_store_26 : decode cX9_store 26 = .ok (.aaload, 1) := by decide +kernel
theorem dX9_store_27 : decode cX9_store 27 = .ok (.invokevirtual 78, 3) := by decide +kernel
theorem dX9_store_30 : decode cX9_store 30 = .ok (.invokevirtual 239, 3) := by decide +kernel
theorem dX9_store_33 : decode cX9_store 33 = .ok (.aload_n 0, 1) := by decide +kernel
theorem dX9_store_34 : decode cX9_store 34 = .ok (.getfield 19, 3) := by decide +kernel
theorem dX9_store_37 : decode cX9_store 37 = .ok (.iload_n 2, 1) := by decide +kernel
theorem dX9_store_38 : decode cX9_store 38 = .ok (.aaload, 1) := by decide +kernel
theorem dX9_store_39 : decode cX9_store 39 = .ok (.aload_n 1, 1) := by decide +kernel
theorem dX9_store_40 : decode cX9_store 40 = .ok (.invokevirtual 210, 3) := by decide +kernel
theorem dX9_store_43 : decode cX9_store 43 = .ok (.aload_n 1, 1) := by decide +kernel
theorem dX9_store_44 : decode cX9_store 44 = .ok (.invokevirtual 100, 3) := by decide +kernel
theorem dX9_store_47 : decode cX9_store 47 = .ok (.ireturn, 1) := by decide +kernel
theorem dX9_isBit_0 : decode cX9_isBit 0 = .ok (.iload_n 0, 1) := by decide +kernel
theorem dX9_isBit_1 : decode cX9_isBit 1 = .ok (.ifCond .eq 8, 3) := by decide +kernel
theorem dX9_isBit_4 : decode cX9_isBit 4 = .ok (.iload_n 0, 1) := by decide +kernel
theorem dX9_isBit_5 : decode cX9_isBit 5 = .ok (.iconst 1, 1) := by decide +kernel
theorem dX9_isBit_6 : decode cX9_isBit 6 = .ok (.if_icmp .ne 7, 3) := by decide +kernel
theorem dX9_isBit_9 : decode cX9_isBit 9 = .ok (.iconst 1, 1) := by decide +kernel
theorem dX9_isBit_10 : decode cX9_isBit 10 = .ok (.goto 4, 3) := by decide +kernel
theorem dX9_isBit_13 : decode cX9_isBit 13 = .ok (.iconst 0, 1) := by decide +kernel
theorem dX9_isBit_14 : decode cX9_isBit 14 = .ok (.ireturn, 1) := by decide +kernel
theorem dX9_isSlot_0 : decode cX9_isSlot 0 = .ok (.iload_n 0, 1) := by decide +kernel
theorem dX9_isSlot_1 : decode cX9_isSlot 1 = .ok (.ifCond .lt 12, 3) := by decide +kernel
theorem dX9_isSlot_4 : decode cX9_isSlot 4 = .ok (.iload_n 0, 1) := by decide +kernel
theorem dX9_isSlot_5 : decode cX9_isSlot 5 = .ok (.iconst 4, 1) := by decide +kernel
theorem dX9_isSlot_6 : decode cX9_isSlot 6 = .ok (.if_icmp .ge 7, 3) := by decide +kernel
theorem dX9_isSlot_9 : decode cX9_isSlot 9 = .ok (.iconst 1, 1) := by decide +kernel
theorem dX9_isSlot_10 : decode cX9_isSlot 10 = .ok (.goto 4, 3) := by decide +kernel
theorem dX9_isSlot_13 : decode cX9_isSlot 13 = .ok (.iconst 0, 1) := by decide +kernel
theorem dX9_isSlot_14 : decode cX9_isSlot 14 = .ok (.ireturn, 1) := by decide +kernel
theorem dX9_isPacket_0 : decode cX9_isPacket 0 = .ok (.iload_n 0, 1) := by decide +kernel
theorem dX9_isPacket_1 : decode cX9_isPacket 1 = .ok (.ifCond .lt 13, 3) := by decide +kernel
theorem dX9_isPacket_4 : decode cX9_isPacket 4 = .ok (.iload_n 0, 1) := by decide +kernel
theorem dX9_isPacket_5 : decode cX9_isPacket 5 = .ok (.bipush 64, 2) := by decide +kernel
theorem dX9_isPacket_7 : decode cX9_isPacket 7 = .ok (.if_icmp .ge 7, 3) := by decide +kernel
theorem dX9_isPacket_10 : decode cX9_isPacket 10 = .ok (.iconst 1, 1) := by decide +kernel
theorem dX9_isPacket_11 : decode cX9_isPacket 11 = .ok (.goto 4, 3) := by decide +kernel
theorem dX9_isPacket_14 : decode cX9_isPacket 14 = .ok (.iconst 0, 1) := by decide +kernel
theorem dX9_isPacket_15 : decode cX9_isPacket 15 = .ok (.ireturn, 1) := by decide +kernel
theorem dX9_shiftOf_0 : decode cX9_shiftOf 0 = .ok (.iload_n 0, 1) := by decide +kernel
theorem dX9_shiftOf_1 : decode cX9_shiftOf 1 = .ok (.ifCond .ne 7, 3) := by decide +kernel
theorem dX9_shiftOf_4 : decode cX9_shiftOf 4 = .ok (.iconst 4, 1) := by decide +kernel
theorem dX9_shiftOf_5 : decode cX9_shiftOf 5 = .ok (.goto 13, 3) := by decide +kernel
theorem dX9_shiftOf_8 : decode cX9_shiftOf 8 = .ok (.iload_n 0, 1) := by decide +kernel
theorem dX9_shiftOf_9 : decode cX9_shiftOf 9 = .ok (.iconst 1, 1) := by decide +kernel
theorem dX9_shiftOf_10 : decode cX9_shiftOf 10 = .ok (.if_icmp .ne 7, 3) := by decide +kernel
theorem dX9_shiftOf_13 : decode cX9_shiftOf 13 = .ok (.iconst 2, 1) := by decide +kernel
theorem dX9_shiftOf_14 : decode cX9_shiftOf 14 = .ok (.goto 4, 3) := by decide +kernel
theorem dX9_shiftOf_17 : decode cX9_shiftOf 17 = .ok (.iconst 0, 1) := by decide +kernel
theorem dX9_shiftOf_18 : decode cX9_shiftOf 18 = .ok (.ireturn, 1) := by decide +kernel
theorem dX9_valueOf_0 : decode cX9_valueOf 0 = .ok (.iload_n 0, 1) := by decide +kernel
theorem dX9_valueOf_1 : decode cX9_valueOf 1 = .ok (.iload_n 1, 1) := by decide +kernel
theorem dX9_valueOf_2 : decode cX9_valueOf 2 = .ok (.invokestatic 243, 3) := by decide +kernel
theorem dX9_valueOf_5 : decode cX9_valueOf 5 = .ok (.ishr, 1) := by decide +kernel
theorem dX9_valueOf_6 : decode cX9_valueOf 6 = .ok (.iconst 3, 1) := by decide +kernel
theorem dX9_valueOf_7 : decode cX9_valueOf 7 = .ok (.iand, 1) := by decide +kernel
theorem dX9_valueOf_8 : decode cX9_valueOf 8 = .ok (.ireturn, 1) := by decide +kernel
theorem dX9_withValue_0 : decode cX9_withValue 0 = .ok (.iload_n 1, 1) := by decide +kernel
theorem dX9_withValue_1 : decode cX9_withValue 1 = .ok (.invokestatic 243, 3) := by decide +kernel
theorem dX9_withValue_4 : decode cX9_withValue 4 = .ok (.istore_n 3, 1) := by decide +kernel
theorem dX9_withValue_5 : decode cX9_withValue 5 = .ok (.iload_n 0, 1) := by decide +kernel
theorem dX9_withValue_6 : decode cX9_withValue 6 = .ok (.iconst 3, 1) := by decide +kernel
theorem dX9_withValue_7 : decode cX9_withValue 7 = .ok (.iload_n 3, 1) := by decide +kernel
theorem dX9_withValue_8 : decode cX9_withValue 8 = .ok (.ishl, 1) := by decide +kernel
theorem dX9_withValue_9 : decode cX9_withValue 9 = .ok (.iconst (-1), 1) := by decide +kernel
theorem dX9_withValue_10 : decode cX9_withValue 10 = .ok (.ixor, 1) := by decide +kernel
theorem dX9_withValue_11 : decode cX9_withValue 11 = .ok (.iand, 1) := by decide +kernel
theorem dX9_withValue_12 : decode cX9_withValue 12 = .ok (.iload_n 2, 1) := by decide +kernel
theorem dX9_withValue_13 : decode cX9_withValue 13 = .ok (.iload_n 3, 1) := by decide +kernel
theorem dX9_withValue_14 : decode cX9_withValue 14 = .ok (.ishl, 1) := by decide +kernel
theorem dX9_withValue_15 : decode cX9_withValue 15 = .ok (.ior, 1) := by decide +kernel
theorem dX9_withValue_16 : decode cX9_withValue 16 = .ok (.ireturn, 1) := by decide +kernel
theorem dX9_alone_0 : decode cX9_alone 0 = .ok (.lconst 1, 1) := by decide +kernel
theorem dX9_alone_1 : decode cX9_alone 1 = .ok (.iload_n 0, 1) := by decide +kernel
theorem dX9_alone_2 : decode cX9_alone 2 = .ok (.lshl, 1) := by decide +kernel
theorem dX9_alone_3 : decode cX9_alone 3 = .ok (.lreturn, 1) := by decide +kernel
theorem dX9_holds_0 : decode cX9_holds 0 = .ok (.lload_n 0, 1) := by decide +kernel
theorem dX9_holds_1 : decode cX9_holds 1 = .ok (.iload_n 2, 1) := by decide +kernel
theorem dX9_holds_2 : decode cX9_holds 2 = .ok (.lushr, 1) := by decide +kernel
theorem dX9_holds_3 : decode cX9_holds 3 = .ok (.lconst 1, 1) := by decide +kernel
theorem dX9_holds_4 : decode cX9_holds 4 = .ok (.land, 1) := by decide +kernel
theorem dX9_holds_5 : decode cX9_holds 5 = .ok (.lconst 0, 1) := by decide +kernel
theorem dX9_holds_6 : decode cX9_holds 6 = .ok (.lcmp, 1) := by decide +kernel
theorem dX9_holds_7 : decode cX9_holds 7 = .ok (.ifCond .eq 7, 3) := by decide +kernel
theorem dX9_holds_10 : decode cX9_holds 10 = .ok (.iconst 1, 1) := by decide +kernel
theorem dX9_holds_11 : decode cX9_holds 11 = .ok (.goto 4, 3) := by decide +kernel
theorem dX9_holds_14 : decode cX9_holds 14 = .ok (.iconst 0, 1) := by decide +kernel
theorem dX9_holds_15 : decode cX9_holds 15 = .ok (.ireturn, 1) := by decide +kernel
theorem dX9_lowestOf_0 : decode cX9_lowestOf 0 = .ok (.lload_n 0, 1) := by decide +kernel
theorem dX9_lowestOf_1 : decode cX9_lowestOf 1 = .ok (.lload_n 0, 1) := by decide +kernel
theorem dX9_lowestOf_2 : decode cX9_lowestOf 2 = .ok (.lneg, 1) := by decide +kernel
theorem dX9_lowestOf_3 : decode cX9_lowestOf 3 = .ok (.land, 1) := by decide +kernel
theorem dX9_lowestOf_4 : decode cX9_lowestOf 4 = .ok (.lconst 1, 1) := by decide +kernel
theorem dX9_lowestOf_5 : decode cX9_lowestOf 5 = .ok (.lsub, 1) := by decide +kernel
theorem dX9_lowestOf_6 : decode cX9_lowestOf 6 = .ok (.invokestatic 246, 3) := by decide +kernel
theorem dX9_lowestOf_9 : decode cX9_lowestOf 9 = .ok (.bipush 63, 2) := by decide +kernel
theorem dX9_lowestOf_11 : decode cX9_lowestOf 11 = .ok (.iand, 1) := by decide +kernel
theorem dX9_lowestOf_12 : decode cX9_lowestOf 12 = .ok (.ireturn, 1) := by decide +kernel
theorem dX9_imageOfSet_0 : decode cX9_imageOfSet 0 = .ok (.lconst 0, 1) := by decide +kernel
theorem dX9_imageOfSet_1 : decode cX9_imageOfSet 1 = .ok (.lstore 4, 2) := by decide +kernel
theorem dX9_imageOfSet_3 : decode cX9_imageOfSet 3 = .ok (.lload_n 2, 1) := by decide +kernel
theorem dX9_imageOfSet_4 : decode cX9_imageOfSet 4 = .ok (.lstore 6, 2) := by decide +kernel
theorem dX9_imageOfSet_6 : decode cX9_imageOfSet 6 = .ok (.lload_n 2, 1) := by decide +kernel
theorem dX9_imageOfSet_7 : decode cX9_imageOfSet 7 = .ok (.invokestatic 246, 3) := by decide +kernel
theorem dX9_imageOfSet_10 : decode cX9_imageOfSet 10 = .ok (.istore 8, 2) := by decide +kernel
theorem dX9_imageOfSet_12 : decode cX9_imageOfSet 12 = .ok (.iconst 0, 1) := by decide +kernel
theorem dX9_imageOfSet_13 : decode cX9_imageOfSet 13 = .ok (.istore 9, 2) := by decide +kernel
theorem dX9_imageOfSet_15 : decode cX9_imageOfSet 15 = .ok (.iload 9, 2) := by decide +kernel
theorem dX9_imageOfSet_17 : decode cX9_imageOfSet 17 = .ok (.iload 8, 2) := by decide +kernel
theorem dX9_imageOfSet_19 : decode cX9_imageOfSet 19 = .ok (.if_icmp .ge 48, 3) := by decide +kernel
theorem dX9_imageOfSet_22 : decode cX9_imageOfSet 22 = .ok (.iload_n 1, 1) := by decide +kernel
theorem dX9_imageOfSet_23 : decode cX9_imageOfSet 23 = .ok (.lload 6, 2) := by decide +kernel
theorem dX9_imageOfSet_25 : decode cX9_imageOfSet 25 = .ok (.invokestatic 150, 3) := by decide +kernel
theorem dX9_imageOfSet_28 : decode cX9_imageOfSet 28 = .ok (.iadd, 1) := by decide +kernel
theorem dX9_imageOfSet_29 : decode cX9_imageOfSet 29 = .ok (.istore 10, 2) := by decide +kernel
theorem dX9_imageOfSet_31 : decode cX9_imageOfSet 31 = .ok (.iload 10, 2) := by decide +kernel
theorem dX9_imageOfSet_33 : decode cX9_imageOfSet 33 = .ok (.ifCond .lt 19, 3) := by decide +kernel
theorem dX9_imageOfSet_36 : decode cX9_imageOfSet 36 = .ok (.iload 10, 2) := by decide +kernel
theorem dX9_imageOfSet_38 : decode cX9_imageOfSet 38 = .ok (.aload_n 0, 1) := by decide +kernel
theorem dX9_imageOfSet_39 : decode cX9_imageOfSet 39 = .ok (.arraylength, 1) := by decide +kernel
theorem dX9_imageOfSet_40 : decode cX9_imageOfSet 40 = .ok (.if_icmp .ge 12, 3) := by decide +kernel
theorem dX9_imageOfSet_43 : decode cX9_imageOfSet 43 = .ok (.lload 4, 2) := by decide +kernel
theorem dX9_imageOfSet_45 : decode cX9_imageOfSet 45 = .ok (.aload_n 0, 1) := by decide +kernel
theorem dX9_imageOfSet_46 : decode cX9_imageOfSet 46 = .ok (.iload 10, 2) := by decide +kernel
theorem dX9_imageOfSet_48 : decode cX9_imageOfSet 48 = .ok (.laload, 1) := by decide +kernel
theorem dX9_imageOfSet_49 : decode cX9_imageOfSet 49 = .ok (.lor, 1) := by decide +kernel
theorem dX9_imageOfSet_50 : decode cX9_imageOfSet 50 = .ok (.lstore 4, 2) := by decide +kernel
theorem dX9_imageOfSet_52 : decode cX9_imageOfSet 52 = .ok (.lload 6, 2) := by decide +kernel
theorem dX9_imageOfSet_54 : decode cX9_imageOfSet 54 = .ok (.lload 6, 2) := by decide +kernel
theorem dX9_imageOfSet_56 : decode cX9_imageOfSet 56 = .ok (.lconst 1, 1) := by decide +kernel
theorem dX9_imageOfSet_57 : decode cX9_imageOfSet 57 = .ok (.lsub, 1) := by decide +kernel
theorem dX9_imageOfSet_58 : decode cX9_imageOfSet 58 = .ok (.land, 1) := by decide +kernel
theorem dX9_imageOfSet_59 : decode cX9_imageOfSet 59 = .ok (.lstore 6, 2) := by decide +kernel
theorem dX9_imageOfSet_61 : decode cX9_imageOfSet 61 = .ok (.iinc 9 1, 3) := by decide +kernel
theorem dX9_imageOfSet_64 : decode cX9_imageOfSet 64 = .ok (.goto (-49), 3) := by decide +kernel
theorem dX9_imageOfSet_67 : decode cX9_imageOfSet 67 = .ok (.lload 4, 2) := by decide +kernel
theorem dX9_imageOfSet_69 : decode cX9_imageOfSet 69 = .ok (.lreturn, 1) := by decide +kernel
theorem dX9_weightOf_0 : decode cX9_weightOf 0 = .ok (.iload_n 0, 1) := by decide +kernel
theorem dX9_weightOf_1 : decode cX9_weightOf 1 = .ok (.ifCond .ne 8, 3) := by decide +kernel
theorem dX9_weightOf_4 : decode cX9_weightOf 4 = .ok (.bipush 25, 2) := by decide +kernel
theorem dX9_weightOf_6 : decode cX9_weightOf 6 = .ok (.goto 13, 3) := by decide +kernel
theorem dX9_weightOf_9 : decode cX9_weightOf 9 = .ok (.iload_n 0, 1) := by decide +kernel
theorem dX9_weightOf_10 : decode cX9_weightOf 10 = .ok (.iconst 1, 1) := by decide +kernel
theorem dX9_weightOf_11 : decode cX9_weightOf 11 = .ok (.if_icmp .ne 7, 3) := by decide +kernel
theorem dX9_weightOf_14 : decode cX9_weightOf 14 = .ok (.iconst 5, 1) := by decide +kernel
theorem dX9_weightOf_15 : decode cX9_weightOf 15 = .ok (.goto 4, 3) := by decide +kernel
theorem dX9_weightOf_18 : decode cX9_weightOf 18 = .ok (.iconst 1, 1) := by decide +kernel
theorem dX9_weightOf_19 : decode cX9_weightOf 19 = .ok (.ireturn, 1) := by decide +kernel
theorem dX9_entryOf_0 : decode cX9_entryOf 0 = .ok (.iload_n 1, 1) := by decide +kernel
theorem dX9_entryOf_1 : decode cX9_entryOf 1 = .ok (.ifCond .ne 10, 3) := by decide +kernel
theorem dX9_entryOf_4 : decode cX9_entryOf 4 = .ok (.iload_n 0, 1) := by decide +kernel
theorem dX9_entryOf_5 : decode cX9_entryOf 5 = .ok (.bipush 25, 2) := by decide +kernel
theorem dX9_entryOf_7 : decode cX9_entryOf 7 = .ok (.idiv, 1) := by decide +kernel
theorem dX9_entryOf_8 : decode cX9_entryOf 8 = .ok (.goto 15, 3) := by decide +kernel
theorem dX9_entryOf_11 : decode cX9_entryOf 11 = .ok (.iload_n 1, 1) := by decide +kernel
theorem dX9_entryOf_12 : decode cX9_entryOf 12 = .ok (.iconst 1, 1) := by decide +kernel
theorem dX9_entryOf_13 : decode cX9_entryOf 13 = .ok (.if_icmp .ne 9, 3) := by decide +kernel
theorem dX9_entryOf_16 : decode cX9_entryOf 16 = .ok (.iload_n 0, 1) := by decide +kernel
theorem dX9_entryOf_17 : decode cX9_entryOf 17 = .ok (.iconst 5, 1) := by decide +kernel
theorem dX9_entryOf_18 : decode cX9_entryOf 18 = .ok (.idiv, 1) := by decide +kernel
theorem dX9_entryOf_19 : decode cX9_entryOf 19 = .ok (.goto 4, 3) := by decide +kernel
theorem dX9_entryOf_22 : decode cX9_entryOf 22 = .ok (.iload_n 0, 1) := by decide +kernel
theorem dX9_entryOf_23 : decode cX9_entryOf 23 = .ok (.istore_n 2, 1) := by decide +kernel
theorem dX9_entryOf_24 : decode cX9_entryOf 24 = .ok (.iload_n 2, 1) := by decide +kernel
theorem dX9_entryOf_25 : decode cX9_entryOf 25 = .ok (.iconst 5, 1) := by decide +kernel
theorem dX9_entryOf_26 : decode cX9_entryOf 26 = .ok (.irem, 1) := by decide +kernel
theorem dX9_entryOf_27 : decode cX9_entryOf 27 = .ok (.ireturn, 1) := by decide +kernel
theorem dX9_actionFrom_0 : decode cX9_actionFrom 0 = .ok (.iconst 0, 1) := by decide +kernel
theorem dX9_actionFrom_1 : decode cX9_actionFrom 1 = .ok (.istore_n 2, 1) := by decide +kernel
theorem dX9_actionFrom_2 : decode cX9_actionFrom 2 = .ok (.iconst 0, 1) := by decide +kernel
theorem dX9_actionFrom_3 : decode cX9_actionFrom 3 = .ok (.istore_n 3, 1) := by decide +kernel
theorem dX9_actionFrom_4 : decode cX9_actionFrom 4 = .ok (.iload_n 3, 1) := by decide +kernel
theorem dX9_actionFrom_5 : decode cX9_actionFrom 5 = .ok (.iconst 3, 1) := by decide +kernel
theorem dX9_actionFrom_6 : decode cX9_actionFrom 6 = .ok (.if_icmp .ge 40, 3) := by decide +kernel
theorem dX9_actionFrom_9 : decode cX9_actionFrom 9 = .ok (.iload_n 1, 1) := by decide +kernel
theorem dX9_actionFrom_10 : decode cX9_actionFrom 10 = .ok (.iload_n 3, 1) := by decide +kernel
theorem dX9_actionFrom_11 : decode cX9_actionFrom 11 = .ok (.invokestatic 251, 3) := by decide +kernel
theorem dX9_actionFrom_14 : decode cX9_actionFrom 14 = .ok (.istore 4, 2) := by decide +kernel
theorem dX9_actionFrom_16 : decode cX9_actionFrom 16 = .ok (.iload_n 2, 1) := by decide +kernel
theorem dX9_actionFrom_17 : decode cX9_actionFrom 17 = .ok (.iload_n 3, 1) := by decide +kernel
theorem dX9_actionFrom_18 : decode cX9_actionFrom 18 = .ok (.invokestatic 254, 3) := by decide +kernel
theorem dX9_actionFrom_21 : decode cX9_actionFrom 21 = .ok (.iload 4, 2) := by decide +kernel
theorem dX9_actionFrom_23 : decode cX9_actionFrom 23 = .ok (.iload_n 0, 1) := by decide +kernel
theorem dX9_actionFrom_24 : decode cX9_actionFrom 24 = .ok (.iload_n 3, 1) := by decide +kernel
theorem dX9_actionFrom_25 : decode cX9_actionFrom 25 = .ok (.invokestatic 251, 3) := by decide +kernel
theorem dX9_actionFrom_28 : decode cX9_actionFrom 28 = .ok (.if_icmp .ne 7, 3) := by decide +kernel
theorem dX9_actionFrom_31 : decode cX9_actionFrom 31 = .ok (.iconst 4, 1) := by decide +kernel
theorem dX9_actionFrom_32 : decode cX9_actionFrom 32 = .ok (.goto 5, 3) := by decide +kernel
theorem dX9_actionFrom_35 : decode cX9_actionFrom 35 = .ok (.iload 4, 2) := by decide +kernel
theorem dX9_actionFrom_37 : decode cX9_actionFrom 37 = .ok (.imul, 1) := by decide +kernel
theorem dX9_actionFrom_38 : decode cX9_actionFrom 38 = .ok (.iadd, 1) := by decide +kernel
theorem dX9_actionFrom_39 : decode cX9_actionFrom 39 = .ok (.istore_n 2, 1) := by decide +kernel
theorem dX9_actionFrom_40 : decode cX9_actionFrom 40 = .ok (.iinc 3 1, 3) := by decide +kernel
theorem dX9_actionFrom_43 : decode cX9_actionFrom 43 = .ok (.goto (-39), 3) := by decide +kernel
theorem dX9_actionFrom_46 : decode cX9_actionFrom 46 = .ok (.iload_n 2, 1) := by decide +kernel
theorem dX9_actionFrom_47 : decode cX9_actionFrom 47 = .ok (.ireturn, 1) := by decide +kernel
theorem dJ13_bitCount_95d88_0 : decode cJ13_bitCount_95d88 0 = .ok (.lload_n 0, 1) := by decide +kernel
theorem dJ13_bitCount_95d88_1 : decode cJ13_bitCount_95d88 1 = .ok (.lload_n 0, 1) := by decide +kernel
theorem dJ13_bitCount_95d88_2 : decode cJ13_bitCount_95d88 2 = .ok (.iconst 1, 1) := by decide +kernel
theorem dJ13_bitCount_95d88_3 : decode cJ13_bitCount_95d88 3 = .ok (.lushr, 1) := by decide +kernel
theorem dJ13_bitCount_95d88_4 : decode cJ13_bitCount_95d88 4 = .ok (.ldc2_w 314, 3) := by decide +kernel
theorem dJ13_bitCount_95d88_7 : decode cJ13_bitCount_95d88 7 = .ok (.land, 1) := by decide +kernel
theorem dJ13_bitCount_95d88_8 : decode cJ13_bitCount_95d88 8 = .ok (.lsub, 1) := by decide +kernel
theorem dJ13_bitCount_95d88_9 : decode cJ13_bitCount_95d88 9 = .ok (.lstore_n 0, 1) := by decide +kernel
theorem dJ13_bitCount_95d88_10 : decode cJ13_bitCount_95d88 10 = .ok (.lload_n 0, 1) := by decide +kernel
theorem dJ13_bitCount_95d88_11 : decode cJ13_bitCount_95d88 11 = .ok (.ldc2_w 316, 3) := by decide +kernel
theorem dJ13_bitCount_95d88_14 : decode cJ13_bitCount_95d88 14 = .ok (.land, 1) := by decide +kernel
theorem dJ13_bitCount_95d88_15 : decode cJ13_bitCount_95d88 15 = .ok (.lload_n 0, 1) := by decide +kernel
theorem dJ13_bitCount_95d88_16 : decode cJ13_bitCount_95d88 16 = .ok (.iconst 2, 1) := by decide +kernel
theorem dJ13_bitCount_95d88_17 : decode cJ13_bitCount_95d88 17 = .ok (.lushr, 1) := by decide +kernel
theorem dJ13_bitCount_95d88_18 : decode cJ13_bitCount_95d88 18 = .ok (.ldc2_w 316, 3) := by decide +kernel
theorem dJ13_bitCount_95d88_21 : decode cJ13_bitCount_95d88 21 = .ok (.land, 1) := by decide +kernel
theorem dJ13_bitCount_95d88_22 : decode cJ13_bitCount_95d88 22 = .ok (.ladd, 1) := by decide +kernel
theorem dJ13_bitCount_95d88_23 : decode cJ13_bitCount_95d88 23 = .ok (.lstore_n 0, 1) := by decide +kernel
theorem dJ13_bitCount_95d88_24 : decode cJ13_bitCount_95d88 24 = .ok (.lload_n 0, 1) := by decide +kernel
theorem dJ13_bitCount_95d88_25 : decode cJ13_bitCount_95d88 25 = .ok (.lload_n 0, 1) := by decide +kernel
theorem dJ13_bitCount_95d88_26 : decode cJ13_bitCount_95d88 26 = .ok (.iconst 4, 1) := by decide +kernel
theorem dJ13_bitCount_95d88_27 : decode cJ13_bitCount_95d88 27 = .ok (.lushr, 1) := by decide +kernel
theorem dJ13_bitCount_95d88_28 : decode cJ13_bitCount_95d88 28 = .ok (.ladd, 1) := by decide +kernel
theorem dJ13_bitCount_95d88_29 : decode cJ13_bitCount_95d88 29 = .ok (.ldc2_w 318, 3) := by decide +kernel
theorem dJ13_bitCount_95d88_32 : decode cJ13_bitCount_95d88 32 = .ok (.land, 1) := by decide +kernel
theorem dJ13_bitCount_95d88_33 : decode cJ13_bitCount_95d88 33 = .ok (.lstore_n 0, 1) := by decide +kernel
theorem dJ13_bitCount_95d88_34 : decode cJ13_bitCount_95d88 34 = .ok (.lload_n 0, 1) := by decide +kernel
theorem dJ13_bitCount_95d88_35 : decode cJ13_bitCount_95d88 35 = .ok (.lload_n 0, 1) := by decide +kernel
theorem dJ13_bitCount_95d88_36 : decode cJ13_bitCount_95d88 36 = .ok (.bipush 8, 2) := by decide +kernel
theorem dJ13_bitCount_95d88_38 : decode cJ13_bitCount_95d88 38 = .ok (.lushr, 1) := by decide +kernel
theorem dJ13_bitCount_95d88_39 : decode cJ13_bitCount_95d88 39 = .ok (.ladd, 1) := by decide +kernel
theorem dJ13_bitCount_95d88_40 : decode cJ13_bitCount_95d88 40 = .ok (.lstore_n 0, 1) := by decide +kernel
theorem dJ13_bitCount_95d88_41 : decode cJ13_bitCount_95d88 41 = .ok (.lload_n 0, 1) := by decide +kernel
theorem dJ13_bitCount_95d88_42 : decode cJ13_bitCount_95d88 42 = .ok (.lload_n 0, 1) := by decide +kernel
theorem dJ13_bitCount_95d88_43 : decode cJ13_bitCount_95d88 43 = .ok (.bipush 16, 2) := by decide +kernel
theorem dJ13_bitCount_95d88_45 : decode cJ13_bitCount_95d88 45 = .ok (.lushr, 1) := by decide +kernel
theorem dJ13_bitCount_95d88_46 : decode cJ13_bitCount_95d88 46 = .ok (.ladd, 1) := by decide +kernel
theorem dJ13_bitCount_95d88_47 : decode cJ13_bitCount_95d88 47 = .ok (.lstore_n 0, 1) := by decide +kernel
theorem dJ13_bitCount_95d88_48 : decode cJ13_bitCount_95d88 48 = .ok (.lload_n 0, 1) := by decide +kernel
theorem dJ13_bitCount_95d88_49 : decode cJ13_bitCount_95d88 49 = .ok (.lload_n 0, 1) := by decide +kernel
theorem dJ13_bitCount_95d88_50 : decode cJ13_bitCount_95d88 50 = .ok (.bipush 32, 2) := by decide +kernel
theorem dJ13_bitCount_95d88_52 : decode cJ13_bitCount_95d88 52 = .ok (.lushr, 1) := by decide +kernel
theorem dJ13_bitCount_95d88_53 : decode cJ13_bitCount_95d88 53 = .ok (.ladd, 1) := by decide +kernel
theorem dJ13_bitCount_95d88_54 : decode cJ13_bitCount_95d88 54 = .ok (.lstore_n 0, 1) := by decide +kernel
theorem dJ13_bitCount_95d88_55 : decode cJ13_bitCount_95d88 55 = .ok (.lload_n 0, 1) := by decide +kernel
theorem dJ13_bitCount_95d88_56 : decode cJ13_bitCount_95d88 56 = .ok (.l2i, 1) := by decide +kernel
theorem dJ13_bitCount_95d88_57 : decode cJ13_bitCount_95d88 57 = .ok (.bipush 127, 2) := by decide +kernel
theorem dJ13_bitCount_95d88_59 : decode cJ13_bitCount_95d88 59 = .ok (.iand, 1) := by decide +kernel
theorem dJ13_bitCount_95d88_60 : decode cJ13_bitCount_95d88 60 = .ok (.ireturn, 1) := by decide +kernel
theorem dJ9_max_7cf53_0 : decode cJ9_max_7cf53 0 = .ok (.iload_n 0, 1) := by decide +kernel
theorem dJ9_max_7cf53_1 : decode cJ9_max_7cf53 1 = .ok (.iload_n 1, 1) := by decide +kernel
theorem dJ9_max_7cf53_2 : decode cJ9_max_7cf53 2 = .ok (.if_icmp .lt 7, 3) := by decide +kernel
theorem dJ9_max_7cf53_5 : decode cJ9_max_7cf53 5 = .ok (.iload_n 0, 1) := by decide +kernel
theorem dJ9_max_7cf53_6 : decode cJ9_max_7cf53 6 = .ok (.goto 4, 3) := by decide +kernel
theorem dJ9_max_7cf53_9 : decode cJ9_max_7cf53 9 = .ok (.iload_n 1, 1) := by decide +kernel
theorem dJ9_max_7cf53_10 : decode cJ9_max_7cf53 10 = .ok (.ireturn, 1) := by decide +kernel
