theorem dX5_init_46 : decode cX5_init 46 = .ok (.aload_n 0, 1) := by decide +kernel
theorem dX5_init_47 : decode cX5_init 47 = .ok (.sipush 456, 3) := by decide +kernel
theorem dX5_init_50 : decode cX5_init 50 = .ok (.bipush 8, 2) := by decide +kernel
theorem dX5_init_52 : decode cX5_init 52 = .ok (.multianewarray 26 2, 4) := by decide +kernel
theorem dX5_init_56 : decode cX5_init 56 = .ok (.putfield 31, 3) := by decide +kernel
theorem dX5_init_59 : decode cX5_init 59 = .ok (.aload_n 0, 1) := by decide +kernel
theorem dX5_init_60 : decode cX5_init 60 = .ok (.sipush 456, 3) := by decide +kernel
theorem dX5_init_63 : decode cX5_init 63 = .ok (.newarray .boolean, 2) := by decide +kernel
theorem dX5_init_65 : decode cX5_init 65 = .ok (.putfield 34, 3) := by decide +kernel
theorem dX5_init_68 : decode cX5_init 68 = .ok (.return_, 1) := by decide +kernel
theorem dX5_size_0 : decode cX5_size 0 = .ok (.aload_n 0, 1) := by decide +kernel
theorem dX5_size_1 : decode cX5_size 1 = .ok (.getfield 15, 3) := by decide +kernel
theorem dX5_size_4 : decode cX5_size 4 = .ok (.aload_n 0, 1) := by decide +kernel
theorem dX5_size_5 : decode cX5_size 5 = .ok (.getfield 38, 3) := by decide +kernel
theorem dX5_size_8 : decode cX5_size 8 = .ok (.iaload, 1) := by decide +kernel
theorem dX5_size_9 : decode cX5_size 9 = .ok (.ireturn, 1) := by decide +kernel
theorem dX5_follow_0 : decode cX5_follow 0 = .ok (.aload_n 0, 1) := by decide +kernel
theorem dX5_follow_1 : decode cX5_follow 1 = .ok (.invokevirtual 42, 3) := by decide +kernel
theorem dX5_follow_4 : decode cX5_follow 4 = .ok (.istore_n 2, 1) := by decide +kernel
theorem dX5_follow_5 : decode cX5_follow 5 = .ok (.aload_n 1, 1) := by decide +kernel
theorem dX5_follow_6 : decode cX5_follow 6 = .ok (.getfield 46, 3) := by decide +kernel
theorem dX5_follow_9 : decode cX5_follow 9 = .ok (.aload_n 1, 1) := by decide +kernel
theorem dX5_follow_10 : decode cX5_follow 10 = .ok (.getfield 49, 3) := by decide +kernel
theorem dX5_follow_13 : decode cX5_follow 13 = .ok (.iaload, 1) := by decide +kernel
theorem dX5_follow_14 : decode cX5_follow 14 = .ok (.istore_n 3, 1) := by decide +kernel
theorem dX5_follow_15 : decode cX5_follow 15 = .ok (.aload_n 1, 1) := by decide +kernel
theorem dX5_follow_16 : decode cX5_follow 16 = .ok (.getfield 50, 3) := by decide +kernel
theorem dX5_follow_19 : decode cX5_follow 19 = .ok (.iload_n 2, 1) := by decide +kernel
theorem dX5_follow_20 : decode cX5_follow 20 = .ok (.aload_n 0, 1) := by decide +kernel
theorem dX5_follow_21 : decode cX5_follow 21 = .ok (.getfield 9, 3) := by decide +kernel
theorem dX5_follow_24 : decode cX5_follow 24 = .ok (.iload_n 2, 1) := by decide +kernel
theorem dX5_follow_25 : decode cX5_follow 25 = .ok (.iload_n 3, 1) := by decide +kernel
theorem dX5_follow_26 : decode cX5_follow 26 = .ok (.iload_n 2, 1) := by decide +kernel
theorem dX5_follow_27 : decode cX5_follow 27 = .ok (.isub, 1) := by decide +kernel
theorem dX5_follow_28 : decode cX5_follow 28 = .ok (.invokestatic 53, 3) := by decide +kernel
theorem dX5_follow_31 : decode cX5_follow 31 = .ok (.aload_n 1, 1) := by decide +kernel
theorem dX5_follow_32 : decode cX5_follow 32 = .ok (.getfield 46, 3) := by decide +kernel
theorem dX5_follow_35 : decode cX5_follow 35 = .ok (.iconst 0, 1) := by decide +kernel
theorem dX5_follow_36 : decode cX5_follow 36 = .ok (.aload_n 0, 1) := by decide +kernel
theorem dX5_follow_37 : decode cX5_follow 37 = .ok (.getfield 15, 3) := by decide +kernel
theorem dX5_follow_40 : decode cX5_follow 40 = .ok (.iconst 0, 1) := by decide +kernel
theorem dX5_follow_41 : decode cX5_follow 41 = .ok (.aload_n 1, 1) := by decide +kernel
theorem dX5_follow_42 : decode cX5_follow 42 = .ok (.getfield 49, 3) := by decide +kernel
theorem dX5_follow_45 : decode cX5_follow 45 = .ok (.iconst 1, 1) := by decide +kernel
theorem dX5_follow_46 : decode cX5_follow 46 = .ok (.iadd, 1) := by decide +kernel
theorem dX5_follow_47 : decode cX5_follow 47 = .ok (.invokestatic 53, 3) := by decide +kernel
theorem dX5_follow_50 : decode cX5_follow 50 = .ok (.aload_n 0, 1) := by decide +kernel
theorem dX5_follow_51 : decode cX5_follow 51 = .ok (.aload_n 1, 1) := by decide +kernel
theorem dX5_follow_52 : decode cX5_follow 52 = .ok (.getfield 49, 3) := by decide +kernel
theorem dX5_follow_55 : decode cX5_follow 55 = .ok (.putfield 38, 3) := by decide +kernel
theorem dX5_follow_58 : decode cX5_follow 58 = .ok (.return_, 1) := by decide +kernel
theorem dX5_number_0 : decode cX5_number 0 = .ok (.lconst 0, 1) := by decide +kernel
theorem dX5_number_1 : decode cX5_number 1 = .ok (.lstore_n 3, 1) := by decide +kernel
theorem dX5_number_2 : decode cX5_number 2 = .ok (.iload_n 1, 1) := by decide +kernel
theorem dX5_number_3 : decode cX5_number 3 = .ok (.istore 5, 2) := by decide +kernel
theorem dX5_number_5 : decode cX5_number 5 = .ok (.iload 5, 2) := by decide +kernel
theorem dX5_number_7 : decode cX5_number 7 = .ok (.iload_n 1, 1) := by decide +kernel
theorem dX5_number_8 : decode cX5_number 8 = .ok (.iload_n 2, 1) := by decide +kernel
theorem dX5_number_9 : decode cX5_number 9 = .ok (.iadd, 1) := by decide +kernel
theorem dX5_number_10 : decode cX5_number 10 = .ok (.if_icmp .ge 40, 3) := by decide +kernel
theorem dX5_number_13 : decode cX5_number 13 = .ok (.lload_n 3, 1) := by decide +kernel
theorem dX5_number_14 : decode cX5_number 14 = .ok (.bipush 8, 2) := by decide +kernel
theorem dX5_number_16 : decode cX5_number 16 = .ok (.lshl, 1) := by decide +kernel
theorem dX5_number_17 : decode cX5_number 17 = .ok (.iload 5, 2) := by decide +kernel
theorem dX5_number_19 : decode cX5_number 19 = .ok (.aload_n 0, 1) := by decide +kernel
theorem dX5_number_20 : decode cX5_number 20 = .ok (.invokevirtual 42, 3) := by decide +kernel
theorem dX5_number_23 : decode cX5_number 23 = .ok (.if_icmp .ge 17, 3) := by decide +kernel
theorem dX5_number_26 : decode cX5_number 26 = .ok (.aload_n 0, 1) := by decide +kernel
theorem dX5_number_27 : decode cX5_number 27 = .ok (.getfield 9, 3) := by decide +kernel
theorem dX5_number_30 : decode cX5_number 30 = .ok (.iload 5, 2) := by decide +kernel
theorem dX5_number_32 : decode cX5_number 32 = .ok (.baload, 1) := by decide +kernel
theorem dX5_number_33 : decode cX5_number 33 = .ok (.sipush 255, 3) := by decide +kernel
theorem dX5_number_36 : decode cX5_number 36 = .ok (.iand, 1) := by decide +kernel
theorem dX5_number_37 : decode cX5_number 37 = .ok (.goto 4, 3) := by decide +kernel
theorem dX5_number_40 : decode cX5_number 40 = .ok (.iconst 0, 1) := by decide +kernel
theorem dX5_number_41 : decode cX5_number 41 = .ok (.i2l, 1) := by decide +kernel
theorem dX5_number_42 : decode cX5_number 42 = .ok (.lor, 1) := by decide +kernel
theorem dX5_number_43 : decode cX5_number 43 = .ok (.lstore_n 3, 1) := by decide +kernel
theorem dX5_number_44 : decode cX5_number 44 = .ok (.iinc 5 1, 3) := by decide +kernel
theorem dX5_number_47 : decode cX5_number 47 = .ok (.goto (-42), 3) := by decide +kernel
theorem dX5_number_50 : decode cX5_number 50 = .ok (.lload_n 3, 1) := by decide +kernel
theorem dX5_number_51 : decode cX5_number 51 = .ok (.lreturn, 1) := by decide +kernel
theorem dX5_flip_0 : decode cX5_flip 0 = .ok (.aload_n 0, 1) := by decide +kernel
theorem dX5_flip_1 : decode cX5_flip 1 = .ok (.getfield 9, 3) := by decide +kernel
theorem dX5_flip_4 : decode cX5_flip 4 = .ok (.iload_n 1, 1) := by decide +kernel
theorem dX5_flip_5 : decode cX5_flip 5 = .ok (.aload_n 0, 1) := by decide +kernel
theorem dX5_flip_6 : decode cX5_flip 6 = .ok (.getfield 9, 3) := by decide +kernel
theorem dX5_flip_9 : decode cX5_flip 9 = .ok (.iload_n 1, 1) := by decide +kernel
theorem dX5_flip_10 : decode cX5_flip 10 = .ok (.baload, 1) := by decide +kernel
theorem dX5_flip_11 : decode cX5_flip 11 = .ok (.iload_n 2, 1) := by decide +kernel
theorem dX5_flip_12 : decode cX5_flip 12 = .ok (.ixor, 1) := by decide +kernel
theorem dX5_flip_13 : decode cX5_flip 13 = .ok (.i2b, 1) := by decide +kernel
theorem dX5_flip_14 : decode cX5_flip 14 = .ok (.bastore, 1) := by decide +kernel
theorem dX5_flip_15 : decode cX5_flip 15 = .ok (.aload_n 0, 1) := by decide +kernel
theorem dX5_flip_16 : decode cX5_flip 16 = .ok (.iload_n 1, 1) := by decide +kernel
theorem dX5_flip_17 : decode cX5_flip 17 = .ok (.invokevirtual 59, 3) := by decide +kernel
theorem dX5_flip_20 : decode cX5_flip 20 = .ok (.istore_n 3, 1) := by decide +kernel
theorem dX5_flip_21 : decode cX5_flip 21 = .ok (.aload_n 0, 1) := by decide +kernel
theorem dX5_flip_22 : decode cX5_flip 22 = .ok (.aload_n 0, 1) := by decide +kernel
theorem dX5_flip_23 : decode cX5_flip 23 = .ok (.getfield 63, 3) := by decide +kernel
theorem dX5_flip_26 : decode cX5_flip 26 = .ok (.iload_n 3, 1) := by decide +kernel
theorem dX5_flip_27 : decode cX5_flip 27 = .ok (.invokestatic 66, 3) := by decide +kernel
theorem dX5_flip_30 : decode cX5_flip 30 = .ok (.putfield 63, 3) := by decide +kernel
theorem dX5_flip_33 : decode cX5_flip 33 = .ok (.iconst 0, 1) := by decide +kernel
theorem dX5_flip_34 : decode cX5_flip 34 = .ok (.istore 4, 2) := by decide +kernel
theorem dX5_flip_36 : decode cX5_flip 36 = .ok (.iload 4, 2) := by decide +kernel
theorem dX5_flip_38 : decode cX5_flip 38 = .ok (.bipush 8, 2) := by decide +kernel
theorem dX5_flip_40 : decode cX5_flip 40 = .ok (.if_icmp .gt 23, 3) := by decide +kernel
theorem dX5_flip_43 : decode cX5_flip 43 = .ok (.aload_n 0, 1) := by decide +kernel
theorem dX5_flip_44 : decode cX5_flip 44 = .ok (.getfield 34, 3) := by decide +kernel
theorem dX5_flip_47 : decode cX5_flip 47 = .ok (.sipush 256, 3) := by decide +kernel
theorem dX5_flip_50 : decode cX5_flip 50 = .ok (.iload_n 3, 1) := by decide +kernel
theorem dX5_flip_51 : decode cX5_flip 51 = .ok (.iadd, 1) := by decide +kernel
theorem dX5_flip_52 : decode cX5_flip 52 = .ok (.iload 4, 2) := by decide +kernel
theorem dX5_flip_54 : decode cX5_flip 54 = .ok (.ishr, 1) := by decide +kernel
theorem dX5_flip_55 : decode cX5_flip 55 = .ok (.iconst 0, 1) := by decide +kernel
theorem dX5_flip_56 : decode cX5_flip 56 = .ok (.bastore, 1) := by decide +kernel
theorem dX5_flip_57 : decode cX5_flip 57 = .ok (.iinc 4 1, 3) := by decide +kernel
theorem dX5_flip_60 : decode cX5_flip 60 = .ok (.goto (-24), 3) := by decide +kernel
theorem dX5_flip_63 : decode cX5_flip 63 = .ok (.return_, 1) := by decide +kernel
theorem dX5_entryWith_0 : decode cX5_entryWith 0 = .ok (.iconst 0, 1) := by decide +kernel
theorem dX5_entryWith_1 : decode cX5_entryWith 1 = .ok (.istore_n 2, 1) := by decide +kernel
theorem dX5_entryWith_2 : decode cX5_entryWith 2 = .ok (.iload_n 2, 1) := by decide +kernel
theorem dX5_entryWith_3 : decode cX5_entryWith 3 = .ok (.iconst 1, 1) := by decide +kernel
theorem dX5_entryWith_4 : decode cX5_entryWith 4 = .ok (.iadd, 1) := by decide +kernel
theorem dX5_entryWith_5 : decode cX5_entryWith 5 = .ok (.aload_n 0, 1) := by decide +kernel
theorem dX5_entryWith_6 : decode cX5_entryWith 6 = .ok (.getfield 38, 3) := by decide +kernel
theorem dX5_entryWith_9 : decode cX5_entryWith 9 = .ok (.if_icmp .ge 21, 3) := by decide +kernel
theorem dX5_entryWith_12 : decode cX5_entryWith 12 = .ok (.aload_n 0, 1) := by decide +kernel
theorem dX5_entryWith_13 : decode cX5_entryWith 13 = .ok (.getfield 15, 3) := by decide +kernel
theorem dX5_entryWith_16 : decode cX5_entryWith 16 = .ok (.iload_n 2, 1) := by decide +kernel
theorem dX5_entryWith_17 : decode cX5_entryWith 17 = .ok (.iconst 1, 1) := by decide +kernel
theorem dX5_entryWith_18 : decode cX5_entryWith 18 = .ok (.iadd, 1) := by decide +kernel
theorem dX5_entryWith_19 : decode cX5_entryWith 19 = .ok (.iaload, 1) := by decide +kernel
theorem dX5_entryWith_20 : decode cX5_entryWith 20 = .ok (.iload_n 1, 1) := by decide +kernel
theorem dX5_entryWith_21 : decode cX5_entryWith 21 = .ok (.if_icmp .gt 9, 3) := by decide +kernel
theorem dX5_entryWith_24 : decode cX5_entryWith 24 = .ok (.iinc 2 1, 3) := by decide +kernel
theorem dX5_entryWith_27 : decode cX5_entryWith 27 = .ok (.goto (-25), 3) := by decide +kernel
theorem dX5_entryWith_30 : decode cX5_entryWith 30 = .ok (.iload_n 2, 1) := by decide +kernel
theorem dX5_entryWith_31 : decode cX5_entryWith 31 = .ok (.ireturn, 1) := by decide +kernel
theorem dX5_chainBehind_0 : decode cX5_chainBehind 0 = .ok (.aload_n 0, 1) := by decide +kernel
theorem dX5_chainBehind_1 : decode cX5_chainBehind 1 = .ok (.getfield 63, 3) := by decide +kernel
theorem dX5_chainBehind_4 : decode cX5_chainBehind 4 = .ok (.istore_n 2, 1) := by decide +kernel
theorem dX5_chainBehind_5 : decode cX5_chainBehind 5 = .ok (.iload_n 2, 1) := by decide +kernel
theorem dX5_chainBehind_6 : decode cX5_chainBehind 6 = .ok (.iload_n 1, 1) := by decide +kernel
theorem dX5_chainBehind_7 : decode cX5_chainBehind 7 = .ok (.if_icmp .ge 69, 3) := by decide +kernel
theorem dX5_chainBehind_10 : decode cX5_chainBehind 10 = .ok (.aload_n 0, 1) := by decide +kernel
theorem dX5_chainBehind_11 : decode cX5_chainBehind 11 = .ok (.getfield 22, 3) := by decide +kernel
theorem dX5_chainBehind_14 : decode cX5_chainBehind 14 = .ok (.invokevirtual 72, 3) := by decide +kernel
theorem dX5_chainBehind_17 : decode cX5_chainBehind 17 = .ok (.aload_n 0, 1) := by decide +kernel
theorem dX5_chainBehind_18 : decode cX5_chainBehind 18 = .ok (.getfield 22, 3) := by decide +kernel
theorem dX5_chainBehind_21 : decode cX5_chainBehind 21 = .ok (.aload_n 0, 1) := by decide +kernel
theorem dX5_chainBehind_22 : decode cX5_chainBehind 22 = .ok (.getfield 28, 3) := by decide +kernel
theorem dX5_chainBehind_25 : decode cX5_chainBehind 25 = .ok (.iload_n 2, 1) := by decide +kernel
theorem dX5_chainBehind_26 : decode cX5_chainBehind 26 = .ok (.aaload, 1) := by decide +kernel
theorem dX5_chainBehind_27 : decode cX5_chainBehind 27 = .ok (.invokevirtual 75, 3) := by decide +kernel
theorem dX5_chainBehind_30 : decode cX5_chainBehind 30 = .ok (.aload_n 0, 1) := by decide +kernel
theorem dX5_chainBehind_31 : decode cX5_chainBehind 31 = .ok (.getfield 22, 3) := by decide +kernel
theorem dX5_chainBehind_34 : decode cX5_chainBehind 34 = .ok (.aload_n 0, 1) := by decide +kernel
theorem dX5_chainBehind_35 : decode cX5_chainBehind 35 = .ok (.getfield 9, 3) := by decide +kernel
theorem dX5_chainBehind_38 : decode cX5_chainBehind 38 = .ok (.aload_n 0, 1) := by decide +kernel
theorem dX5_chainBehind_39 : decode cX5_chainBehind 39 = .ok (.getfield 15, 3) := by decide +kernel
theorem dX5_chainBehind_42 : decode cX5_chainBehind 42 = .ok (.iload_n 2, 1) := by decide +kernel
theorem dX5_chainBehind_43 : decode cX5_chainBehind 43 = .ok (.iaload, 1) := by decide +kernel
theorem dX5_chainBehind_44 : decode cX5_chainBehind 44 = .ok (.aload_n 0, 1) := by decide +kernel
theorem dX5_chainBehind_45 : decode cX5_chainBehind 45 = .ok (.getfield 15, 3) := by decide +kernel
theorem dX5_chainBehind_48 : decode cX5_chainBehind 48 = .ok (.iload_n 2, 1) := by decide +kernel
theorem dX5_chainBehind_49 : decode cX5_chainBehind 49 = .ok (.iconst 1, 1) := by decide +kernel
theorem dX5_chainBehind_50 : decode cX5_chainBehind 50 = .ok (.iadd, 1) := by decide +kernel
theorem dX5_chainBehind_51 : decode cX5_chainBehind 51 = .ok (.iaload, 1) := by decide +kernel
theorem dX5_chainBehind_52 : decode cX5_chainBehind 52 = .ok (.invokevirtual 79, 3) := by decide +kernel
theorem dX5_chainBehind_55 : decode cX5_chainBehind 55 = .ok (.aload_n 0, 1) := by decide +kernel
theorem dX5_chainBehind_56 : decode cX5_chainBehind 56 = .ok (.getfield 22, 3) := by decide +kernel
theorem dX5_chainBehind_59 : decode cX5_chainBehind 59 = .ok (.aload_n 0, 1) := by decide +kernel
theorem dX5_chainBehind_60 : decode cX5_chainBehind 60 = .ok (.getfield 28, 3) := by decide +kernel
theorem dX5_chainBehind_63 : decode cX5_chainBehind 63 = .ok (.iload_n 2, 1) := by decide +kernel
theorem dX5_chainBehind_64 : decode cX5_chainBehind 64 = .ok (.iconst 1, 1) := by decide +kernel
theorem dX5_chainBehind_65 : decode cX5_chainBehind 65 = .ok (.iadd, 1) := by decide +kernel
theorem dX5_chainBehind_66 : decode cX5_chainBehind 66 = .ok (.aaload, 1) := by decide +kernel
theorem dX5_chainBehind_67 : decode cX5_chainBehind 67 = .ok (.invokevirtual 83, 3) := by decide +kernel
theorem dX5_chainBehind_70 : decode cX5_chainBehind 70 = .ok (.iinc 2 1, 3) := by decide +kernel
theorem dX5_chainBehind_73 : decode cX5_chainBehind 73 = .ok (.goto (-68), 3) := by decide +kernel
theorem dX5_chainBehind_76 : decode cX5_chainBehind 76 = .ok (.aload_n 0, 1) := by decide +kernel
theorem dX5_chainBehind_77 : decode cX5_chainBehind 77 = .ok (.aload_n 0, 1) := by decide +kernel
theorem dX5_chainBehind_78 : decode cX5_chainBehind 78 = .ok (.getfield 63, 3) := by decide +kernel
theorem dX5_chainBehind_81 : decode cX5_chainBehind 81 = .ok (.iload_n 1, 1) := by decide +kernel
theorem dX5_chainBehind_82 : decode cX5_chainBehind 82 = .ok (.invokestatic 86, 3) := by decide +kernel
theorem dX5_chainBehind_85 : decode cX5_chainBehind 85 = .ok (.putfield 63, 3) := by decide +kernel
theorem dX5_chainBehind_88 : decode cX5_chainBehind 88 = .ok (.aload_n 0, 1) := by decide +kernel
theorem dX5_chainBehind_89 : decode cX5_chainBehind 89 = .ok (.getfield 28, 3) := by decide +kernel
theorem dX5_chainBehind_92 : decode cX5_chainBehind 92 = .ok (.iload_n 1, 1) := by decide +kernel
theorem dX5_chainBehind_93 : decode cX5_chainBehind 93 = .ok (.aaload, 1) := by decide +kernel
theorem dX5_chainBehind_94 : decode cX5_chainBehind 94 = .ok (.areturn, 1) := by decide +kernel
theorem dX5_leafOf_0 : decode cX5_leafOf 0 = .ok (.aload_n 0, 1) := by decide +kernel
theorem dX5_leafOf_1 : decode cX5_leafOf 1 = .ok (.iconst 0, 1) := by decide +kernel
theorem dX5_leafOf_2 : decode cX5_leafOf 2 = .ok (.iload_n 1, 1) := by decide +kernel
theorem dX5_leafOf_3 : decode cX5_leafOf 3 = .ok (.invokevirtual 89, 3) := by decide +kernel
theorem dX5_leafOf_6 : decode cX5_leafOf 6 = .ok (.areturn, 1) := by decide +kernel
theorem dX5_treeOf_0 : decode cX5_treeOf 0 = .ok (.iload_n 2, 1) := by decide +kernel
theorem dX5_treeOf_1 : decode cX5_treeOf 1 = .ok (.ifCond .ne 19, 3) := by decide +kernel
theorem dX5_treeOf_4 : decode cX5_treeOf 4 = .ok (.aload_n 0, 1) := by decide +kernel
theorem dX5_treeOf_5 : decode cX5_treeOf 5 = .ok (.getfield 22, 3) := by decide +kernel
theorem dX5_treeOf_8 : decode cX5_treeOf 8 = .ok (.invokevirtual 72, 3) := by decide +kernel
theorem dX5_treeOf_11 : decode cX5_treeOf 11 = .ok (.aload_n 0, 1) := by decide +kernel
theorem dX5_treeOf_12 : decode cX5_treeOf 12 = .ok (.getfield 22, 3) := by decide +kernel
theorem dX5_treeOf_15 : decode cX5_treeOf 15 = .ok (.aload_n 3, 1) := by decide +kernel
theorem dX5_treeOf_16 : decode cX5_treeOf 16 = .ok (.invokevirtual 83, 3) := by decide +kernel
theorem dX5_treeOf_19 : decode cX5_treeOf 19 = .ok (.return_, 1) := by decide +kernel
theorem dX5_treeOf_20 : decode cX5_treeOf 20 = .ok (.iload_n 1, 1) := by decide +kernel
theorem dX5_treeOf_21 : decode cX5_treeOf 21 = .ok (.iload_n 2, 1) := by decide +kernel
theorem dX5_treeOf_22 : decode cX5_treeOf 22 = .ok (.iadd, 1) := by decide +kernel
theorem dX5_treeOf_23 : decode cX5_treeOf 23 = .ok (.istore 4, 2) := by decide +kernel
theorem dX5_treeOf_25 : decode cX5_treeOf 25 = .ok (.iconst 0, 1) := by decide +kernel
theorem dX5_treeOf_26 : decode cX5_treeOf 26 = .ok (.istore 5, 2) := by decide +kernel
theorem dX5_treeOf_28 : decode cX5_treeOf 28 = .ok (.iload 5, 2) := by decide +kernel
theorem dX5_treeOf_30 : decode cX5_treeOf 30 = .ok (.bipush 8, 2) := by decide +kernel
theorem dX5_treeOf_32 : decode cX5_treeOf 32 = .ok (.if_icmp .ge 74, 3) := by decide +kernel
theorem dX5_treeOf_35 : decode cX5_treeOf 35 = .ok (.iload_n 2, 1) := by decide +kernel
theorem dX5_treeOf_36 : decode cX5_treeOf 36 = .ok (.iload 5, 2) := by decide +kernel
theorem dX5_treeOf_38 : decode cX5_treeOf 38 = .ok (.ishr, 1) := by decide +kernel
theorem dX5_treeOf_39 : decode cX5_treeOf 39 = .ok (.iconst 1, 1) := by decide +kernel
theorem dX5_treeOf_40 : decode cX5_treeOf 40 = .ok (.iand, 1) := by decide +kernel
theorem dX5_treeOf_41 : decode cX5_treeOf 41 = .ok (.iconst 1, 1) := by decide +kernel
theorem dX5_treeOf_42 : decode cX5_treeOf 42 = .ok (.if_icmp .ne 58, 3) := by decide +kernel
theorem dX5_treeOf_45 : decode cX5_treeOf 45 = .ok (.iload 4, 2) := by decide +kernel
theorem dX5_treeOf_47 : decode cX5_treeOf 47 = .ok (.iconst 1, 1) := by decide +kernel
theorem dX5_treeOf_48 : decode cX5_treeOf 48 = .ok (.iload 5, 2) := by decide +kernel
theorem dX5_treeOf_50 : decode cX5_treeOf 50 = .ok (.ishl, 1) := by decide +kernel
theorem dX5_treeOf_51 : decode cX5_treeOf 51 = .ok (.isub, 1) := by decide +kernel
theorem dX5_treeOf_52 : decode cX5_treeOf 52 = .ok (.istore 4, 2) := by decide +kernel
theorem dX5_treeOf_54 : decode cX5_treeOf 54 = .ok (.aload_n 0, 1) := by decide +kernel
theorem dX5_treeOf_55 : decode cX5_treeOf 55 = .ok (.iload 5, 2) := by decide +kernel
theorem dX5_treeOf_57 : decode cX5_treeOf 57 = .ok (.iload 4, 2) := by decide +kernel
theorem dX5_treeOf_59 : decode cX5_treeOf 59 = .ok (.iload 5, 2) := by decide +kernel
theorem dX5_treeOf_61 : decode cX5_treeOf 61 = .ok (.ishr, 1) := by decide +kernel
theorem dX5_treeOf_62 : decode cX5_treeOf 62 = .ok (.invokevirtual 89, 3) := by decide +kernel
theorem dX5_treeOf_65 : decode cX5_treeOf 65 = .ok (.astore 6, 2) := by decide +kernel
theorem dX5_treeOf_67 : decode cX5_treeOf 67 = .ok (.iload 4, 2) := by decide +kernel
theorem dX5_treeOf_69 : decode cX5_treeOf 69 = .ok (.iconst 1, 1) := by decide +kernel
theorem dX5_treeOf_70 : decode cX5_treeOf 70 = .ok (.iload 5, 2) := by decide +kernel
theorem dX5_treeOf_72 : decode cX5_treeOf 72 = .ok (.ishl, 1) := by decide +kernel
theorem dX5_treeOf_73 : decode cX5_treeOf 73 = .ok (.iadd, 1) := by decide +kernel
theorem dX5_treeOf_74 : decode cX5_treeOf 74 = .ok (.iload_n 1, 1) := by decide +kernel
theorem dX5_treeOf_75 : decode cX5_treeOf 75 = .ok (.iload_n 2, 1) := by decide +kernel
theorem dX5_treeOf_76 : decode cX5_treeOf 76 = .ok (.iadd, 1) := by decide +kernel
theorem dX5_treeOf_77 : decode cX5_treeOf 77 = .ok (.if_icmp .ne 12, 3) := by decide +kernel
theorem dX5_treeOf_80 : decode cX5_treeOf 80 = .ok (.aload 6, 2) := by decide +kernel
theorem dX5_treeOf_82 : decode cX5_treeOf 82 = .ok (.aload_n 3, 1) := by decide +kernel
theorem dX5_treeOf_83 : decode cX5_treeOf 83 = .ok (.invokestatic 93, 3) := by decide +kernel
theorem dX5_treeOf_86 : decode cX5_treeOf 86 = .ok (.goto 14, 3) := by decide +kernel
theorem dX5_treeOf_89 : decode cX5_treeOf 89 = .ok (.aload_n 0, 1) := by decide +kernel
theorem dX5_treeOf_90 : decode cX5_treeOf 90 = .ok (.getfield 22, 3) := by decide +kernel
theorem dX5_treeOf_93 : decode cX5_treeOf 93 = .ok (.aload 6, 2) := by decide +kernel
theorem dX5_treeOf_95 : decode cX5_treeOf 95 = .ok (.aload_n 3, 1) := by decide +kernel
theorem dX5_treeOf_96 : decode cX5_treeOf 96 = .ok (.aload_n 3, 1) := by decide +kernel
theorem dX5_treeOf_97 : decode cX5_treeOf 97 = .ok (.invokevirtual 97, 3) := by decide +kernel
theorem dX5_treeOf_100 : decode cX5_treeOf 100 = .ok (.iinc 5 1, 3) := by decide +kernel
theorem dX5_treeOf_103 : decode cX5_treeOf 103 = .ok (.goto (-75), 3) := by decide +kernel
theorem dX5_treeOf_106 : decode cX5_treeOf 106 = .ok (.return_, 1) := by decide +kernel
theorem dX5_nodeOf_0 : decode cX5_nodeOf 0 = .ok (.iconst 0, 1) := by decide +kernel
theorem dX5_nodeOf_1 : decode cX5_nodeOf 1 = .ok (.istore_n 3, 1) := by decide +kernel
theorem dX5_nodeOf_2 : decode cX5_nodeOf 2 = .ok (.iload_n 3, 1) := by decide +kernel
theorem dX5_nodeOf_3 : decode cX5_nodeOf 3 = .ok (.iload_n 1, 1) := by decide +kernel
theorem dX5_nodeOf_4 : decode cX5_nodeOf 4 = .ok (.if_icmp .gt 65, 3) := by decide +kernel
theorem dX5_nodeOf_7 : decode cX5_nodeOf 7 = .ok (.sipush 256, 3) := by decide +kernel
theorem dX5_nodeOf_10 : decode cX5_nodeOf 10 = .ok (.iload_n 3, 1) := by decide +kernel
theorem dX5_nodeOf_11 : decode cX5_nodeOf 11 = .ok (.ishr, 1) := by decide +kernel
theorem dX5_nodeOf_12 : decode cX5_nodeOf 12 = .ok (.iload_n 2, 1) := by decide +kernel
theorem dX5_nodeOf_13 : decode cX5_nodeOf 13 = .ok (.iload_n 1, 1) := by decide +kernel
theorem dX5_nodeOf_14 : decode cX5_nodeOf 14 = .ok (.iload_n 3, 1) := by decide +kernel
theorem dX5_nodeOf_15 : decode cX5_nodeOf 15 = .ok (.isub, 1) := by decide +kernel
theorem dX5_nodeOf_16 : decode cX5_nodeOf 16 = .ok (.ishl, 1) := by decide +kernel
theorem dX5_nodeOf_17 : decode cX5_nodeOf 17 = .ok (.iadd, 1) := by decide +kernel
theorem dX5_nodeOf_18 : decode cX5_nodeOf 18 = .ok (.istore 4, 2) := by decide +kernel
theorem dX5_nodeOf_20 : decode cX5_nodeOf 20 = .ok (.iload 4, 2) := by decide +kernel
theorem dX5_nodeOf_22 : decode cX5_nodeOf 22 = .ok (.iconst 1, 1) := by decide +kernel
theorem dX5_nodeOf_23 : decode cX5_nodeOf 23 = .ok (.iload_n 1, 1) := by decide +kernel
theorem dX5_nodeOf_24 : decode cX5_nodeOf 24 = .ok (.iload_n 3, 1) := by decide +kernel
theorem dX5_nodeOf_25 : decode cX5_nodeOf 25 = .ok (.isub, 1) := by decide +kernel
theorem dX5_nodeOf_26 : decode cX5_nodeOf 26 = .ok (.ishl, 1) := by decide +kernel
theorem dX5_nodeOf_27 : decode cX5_nodeOf 27 = .ok (.iadd, 1) := by decide +kernel
theorem dX5_nodeOf_28 : decode cX5_nodeOf 28 = .ok (.istore 5, 2) := by decide +kernel
theorem dX5_nodeOf_30 : decode cX5_nodeOf 30 = .ok (.iload 4, 2) := by decide +kernel
theorem dX5_nodeOf_32 : decode cX5_nodeOf 32 = .ok (.istore 6, 2) := by decide +kernel
theorem dX5_nodeOf_34 : decode cX5_nodeOf 34 = .ok (.iload 6, 2) := by decide +kernel
theorem dX5_nodeOf_36 : decode cX5_nodeOf 36 = .ok (.iload 5, 2) := by decide +kernel
theorem dX5_nodeOf_38 : decode cX5_nodeOf 38 = .ok (.if_icmp .ge 25, 3) := by decide +kernel
theorem dX5_nodeOf_41 : decode cX5_nodeOf 41 = .ok (.aload_n 0, 1) := by decide +kernel
theorem dX5_nodeOf_42 : decode cX5_nodeOf 42 = .ok (.getfield 34, 3) := by decide +kernel
theorem dX5_nodeOf_45 : decode cX5_nodeOf 45 = .ok (.iload 6, 2) := by decide +kernel
theorem dX5_nodeOf_47 : decode cX5_nodeOf 47 = .ok (.baload, 1) := by decide +kernel
theorem dX5_nodeOf_48 : decode cX5_nodeOf 48 = .ok (.ifCond .ne 9, 3) := by decide +kernel
theorem dX5_nodeOf_51 : decode cX5_nodeOf 51 = .ok (.aload_n 0, 1) := by decide +kernel
theorem dX5_nodeOf_52 : decode cX5_nodeOf 52 = .ok (.iload 6, 2) := by decide +kernel
theorem dX5_nodeOf_54 : decode cX5_nodeOf 54 = .ok (.invokevirtual 101, 3) := by decide +kernel
theorem dX5_nodeOf_57 : decode cX5_nodeOf 57 = .ok (.iinc 6 1, 3) := by decide +kernel
theorem dX5_nodeOf_60 : decode cX5_nodeOf 60 = .ok (.goto (-26), 3) := by decide +kernel
theorem dX5_nodeOf_63 : decode cX5_nodeOf 63 = .ok (.iinc 3 1, 3) := by decide +kernel
theorem dX5_nodeOf_66 : decode cX5_nodeOf 66 = .ok (.goto (-64), 3) := by decide +kernel
theorem dX5_nodeOf_69 : decode cX5_nodeOf 69 = .ok (.aload_n 0, 1) := by decide +kernel
theorem dX5_nodeOf_70 : decode cX5_nodeOf 70 = .ok (.getfield 31, 3) := by decide +kernel
theorem dX5_nodeOf_73 : decode cX5_nodeOf 73 = .ok (.sipush 256, 3) := by decide +kernel
theorem dX5_nodeOf_76 : decode cX5_nodeOf 76 = .ok (.iload_n 1, 1) := by decide +kernel
theorem dX5_nodeOf_77 : decode cX5_nodeOf 77 = .ok (.ishr, 1) := by decide +kernel
theorem dX5_nodeOf_78 : decode cX5_nodeOf 78 = .ok (.iload_n 2, 1) := by decide +kernel
theorem dX5_nodeOf_79 : decode cX5_nodeOf 79 = .ok (.iadd, 1) := by decide +kernel
theorem dX5_nodeOf_80 : decode cX5_nodeOf 80 = .ok (.aaload, 1) := by decide +kernel
theorem dX5_nodeOf_81 : decode cX5_nodeOf 81 = .ok (.areturn, 1) := by decide +kernel
theorem dX5_learn_0 : decode cX5_learn 0 = .ok (.aload_n 0, 1) := by decide +kernel
theorem dX5_learn_1 : decode cX5_learn 1 = .ok (.getfield 34, 3) := by decide +kernel
theorem dX5_learn_4 : decode cX5_learn 4 = .ok (.iload_n 1, 1) := by decide +kernel
theorem dX5_learn_5 : decode cX5_learn 5 = .ok (.iconst 1, 1) := by decide +kernel
theorem dX5_learn_6 : decode cX5_learn 6 = .ok (.bastore, 1) := by decide +kernel
theorem dX5_learn_7 : decode cX5_learn 7 = .ok (.iload_n 1, 1) := by decide +kernel
theorem dX5_learn_8 : decode cX5_learn 8 = .ok (.sipush 256, 3) := by decide +kernel
theorem dX5_learn_11 : decode cX5_learn 11 = .ok (.if_icmp .ge 35, 3) := by decide +kernel
theorem dX5_learn_14 : decode cX5_learn 14 = .ok (.aload_n 0, 1) := by decide +kernel
theorem dX5_learn_15 : decode cX5_learn 15 = .ok (.getfield 22, 3) := by decide +kernel
theorem dX5_learn_18 : decode cX5_learn 18 = .ok (.aload_n 0, 1) := by decide +kernel
theorem dX5_learn_19 : decode cX5_learn 19 = .ok (.getfield 31, 3) := by decide +kernel
theorem dX5_learn_22 : decode cX5_learn 22 = .ok (.iconst 2, 1) := by decide +kernel
theorem dX5_learn_23 : decode cX5_learn 23 = .ok (.iload_n 1, 1) := by decide +kernel
theorem dX5_learn_24 : decode cX5_learn 24 = .ok (.imul, 1) := by decide +kernel
theorem dX5_learn_25 : decode cX5_learn 25 = .ok (.aaload, 1) := by decide +kernel
theorem dX5_learn_26 : decode cX5_learn 26 = .ok (.aload_n 0, 1) := by decide +kernel
theorem dX5_learn_27 : decode cX5_learn 27 = .ok (.getfield 31, 3) := by decide +kernel
theorem dX5_learn_30 : decode cX5_learn 30 = .ok (.iconst 2, 1) := by decide +kernel
theorem dX5_learn_31 : decode cX5_learn 31 = .ok (.iload_n 1, 1) := by decide +kernel
theorem dX5_learn_32 : decode cX5_learn 32 = .ok (.imul, 1) := by decide +kernel
theorem dX5_learn_33 : decode cX5_learn 33 = .ok (.iconst 1, 1) := by decide +kernel
theorem dX5_learn_34 : decode cX5_learn 34 = .ok (.iadd, 1) := by decide +kernel
theorem dX5_learn_35 : decode cX5_learn 35 = .ok (.aaload, 1) := by decide +kernel
theorem dX5_learn_36 : decode cX5_learn 36 = .ok (.aload_n 0, 1) := by decide +kernel
theorem dX5_learn_37 : decode cX5_learn 37 = .ok (.getfield 31, 3) := by decide +kernel
theorem dX5_learn_40 : decode cX5_learn 40 = .ok (.iload_n 1, 1) := by decide +kernel
theorem dX5_learn_41 : decode cX5_learn 41 = .ok (.aaload, 1) := by decide +kernel
theorem dX5_learn_42 : decode cX5_learn 42 = .ok (.invokevirtual 97, 3) := by decide +kernel
theorem dX5_learn_45 : decode cX5_learn 45 = .ok (.return_, 1) := by decide +kernel
theorem dX5_learn_46 : decode cX5_learn 46 = .ok (.aload_n 0, 1) := by decide +kernel
theorem dX5_learn_47 : decode cX5_learn 47 = .ok (.getfield 22, 3) := by decide +kernel
theorem dX5_learn_50 : decode cX5_learn 50 = .ok (.invokevirtual 72, 3) := by decide +kernel
theorem dX5_learn_53 : decode cX5_learn 53 = .ok (.aload_n 0, 1) := by decide +kernel
theorem dX5_learn_54 : decode cX5_learn 54 = .ok (.getfield 22, 3) := by decide +kernel
theorem dX5_learn_57 : decode cX5_learn 57 = .ok (.iconst 0, 1) := by decide +kernel
theorem dX5_learn_58 : decode cX5_learn 58 = .ok (.invokevirtual 105, 3) := by decide +kernel
theorem dX5_learn_61 : decode cX5_learn 61 = .ok (.aload_n 0, 1) := by decide +kernel
theorem dX5_learn_62 : decode cX5_learn 62 = .ok (.getfield 22, 3) := by decide +kernel
theorem dX5_learn_65 : decode cX5_learn 65 = .ok (.aload_n 0, 1) := by decide +kernel
theorem dX5_learn_66 : decode cX5_learn 66 = .ok (.getfield 9, 3) := by decide +kernel
theorem dX5_learn_69 : decode cX5_learn 69 = .ok (.aload_n 0, 1) := by decide +kernel
theorem dX5_learn_70 : decode cX5_learn 70 = .ok (.getfield 15, 3) := by decide +kernel
theorem dX5_learn_73 : decode cX5_learn 73 = .ok (.iload_n 1, 1) := by decide +kernel
theorem dX5_learn_74 : decode cX5_learn 74 = .ok (.sipush 256, 3) := by decide +kernel
theorem dX5_learn_77 : decode cX5_learn 77 = .ok (.isub, 1) := by decide +kernel
theorem dX5_learn_78 : decode cX5_learn 78 = .ok (.iaload, 1) := by decide +kernel
theorem dX5_learn_79 : decode cX5_learn 79 = .ok (.aload_n 0, 1) := by decide +kernel
theorem dX5_learn_80 : decode cX5_learn 80 = .ok (.getfield 15, 3) := by decide +kernel
theorem dX5_learn_83 : decode cX5_learn 83 = .ok (.iload_n 1, 1) := by decide +kernel
theorem dX5_learn_84 : decode cX5_learn 84 = .ok (.sipush 256, 3) := by decide +kernel
theorem dX5_learn_87 : decode cX5_learn 87 = .ok (.isub, 1) := by decide +kernel
theorem dX5_learn_88 : decode cX5_learn 88 = .ok (.iconst 1, 1) := by decide +kernel
theorem dX5_learn_89 : decode cX5_learn 89 = .ok (.iadd, 1) := by decide +kernel
theorem dX5_learn_90 : decode cX5_learn 90 = .ok (.iaload, 1) := by decide +kernel
theorem dX5_learn_91 : decode cX5_learn 91 = .ok (.invokevirtual 79, 3) := by decide +kernel
theorem dX5_learn_94 : decode cX5_learn 94 = .ok (.aload_n 0, 1) := by decide +kernel
theorem dX5_learn_95 : decode cX5_learn 95 = .ok (.getfield 22, 3) := by decide +kernel
theorem dX5_learn_98 : decode cX5_learn 98 = .ok (.aload_n 0, 1) := by decide +kernel
theorem dX5_learn_99 : decode cX5_learn 99 = .ok (.getfield 31, 3) := by decide +kernel
theorem dX5_learn_102 : decode cX5_learn 102 = .ok (.iload_n 1, 1) := by decide +kernel
theorem dX5_learn_103 : decode cX5_learn 103 = .ok (.aaload, 1) := by decide +kernel
theorem dX5_learn_104 : decode cX5_learn 104 = .ok (.invokevirtual 83, 3) := by decide +kernel
theorem dX5_learn_107 : decode cX5_learn 107 = .ok (.return_, 1) := by decide +kernel
theorem dX6_init_0 : decode cX6_init 0 = .ok (.aload_n 0, 1) := by decide +kernel
theorem dX6_init_1 : decode cX6_init 1 = .ok (.invokespecial 3, 3) := by decide +kernel
theorem dX6_init_4 : decode cX6_init 4 = .ok (.aload_n 0, 1) := by decide +kernel
theorem dX6_init_5 : decode cX6_init 5 = .ok (.sipush 128, 3) := by decide +kernel
theorem dX6_init_8 : decode cX6_init 8 = .ok (.newarray .byte, 2) := by decide +kernel
theorem dX6_init_10 : decode cX6_init 10 = .ok (.putfield 11, 3) := by decide +kernel
theorem dX6_init_13 : decode cX6_init 13 = .ok (.aload_n 0, 1) := by decide +kernel
theorem dX6_init_14 : decode cX6_init 14 = .ok (.bipush 64, 2) := by decide +kernel
theorem dX6_init_16 : decode cX6_init 16 = .ok (.newarray .int, 2) := by decide +kernel
theorem dX6_init_18 : decode cX6_init 18 = .ok (.putfield 15, 3) := by decide +kernel
theorem dX6_init_21 : decode cX6_init 21 = .ok (.aload_n 0, 1) := by decide +kernel
theorem dX6_init_22 : decode cX6_init 22 = .ok (.bipush 8, 2) := by decide +kernel
theorem dX6_init_24 : decode cX6_init 24 = .ok (.newarray .int, 2) := by decide +kernel
theorem dX6_init_26 : decode cX6_init 26 = .ok (.putfield 19, 3) := by decide +kernel
theorem dX6_init_29 : decode cX6_init 29 = .ok (.return_, 1) := by decide +kernel
theorem dX6_begin_0 : decode cX6_begin 0 = .ok (.aload_n 0, 1) := by decide +kernel
theorem dX6_begin_1 : decode cX6_begin 1 = .ok (.iconst 0, 1) := by decide +kernel
theorem dX6_begin_2 : decode cX6_begin 2 = .ok (.putfield 22, 3) := by decide +kernel
theorem dX6_begin_5 : decode cX6_begin 5 = .ok (.return_, 1) := by decide +kernel
theorem dX6_add_0 : decode cX6_add 0 = .ok (.aload_n 0, 1) := by decide +kernel
theorem dX6_add_1 : decode cX6_add 1 = .ok (.getfield 22, 3) := by decide +kernel
theorem dX6_add_4 : decode cX6_add 4 = .ok (.bipush 119, 2) := by decide +kernel
theorem dX6_add_6 : decode cX6_add 6 = .ok (.if_icmp .ge 24, 3) := by decide +kernel
theorem dX6_add_9 : decode cX6_add 9 = .ok (.aload_n 0, 1) := by decide +kernel
theorem dX6_add_10 : decode cX6_add 10 = .ok (.getfield 11, 3) := by decide +kernel
theorem dX6_add_13 : decode cX6_add 13 = .ok (.aload_n 0, 1) := by decide +kernel
theorem dX6_add_14 : decode cX6_add 14 = .ok (.getfield 22, 3) := by decide +kernel
theorem dX6_add_17 : decode cX6_add 17 = .ok (.iload_n 1, 1) := by decide +kernel
theorem dX6_add_18 : decode cX6_add 18 = .ok (.i2b, 1) := by decide +kernel
theorem dX6_add_19 : decode cX6_add 19 = .ok (.bastore, 1) := by decide +kernel
theorem dX6_add_20 : decode cX6_add 20 = .ok (.aload_n 0, 1) := by decide +kernel
theorem dX6_add_21 : decode cX6_add 21 = .ok (.dup, 1) := by decide +kernel
theorem dX6_add_22 : decode cX6_add 22 = .ok (.getfield 22, 3) := by decide +kernel
theorem dX6_add_25 : decode cX6_add 25 = .ok (.iconst 1, 1) := by decide +kernel
theorem dX6_add_26 : decode cX6_add 26 = .ok (.iadd, 1) := by decide +kernel
theorem dX6_add_27 : decode cX6_add 27 = .ok (.putfield 22, 3) := by decide +kernel
theorem dX6_add_30 : decode cX6_add 30 = .ok (.return_, 1) := by decide +kernel
theorem dX6_addBytes_0 : decode cX6_addBytes 0 = .ok (.iload_n 2, 1) := by decide +kernel
theorem dX6_addBytes_1 : decode cX6_addBytes 1 = .ok (.istore 4, 2) := by decide +kernel
theorem dX6_addBytes_3 : decode cX6_addBytes 3 = .ok (.iload 4, 2) := by decide +kernel
theorem dX6_addBytes_5 : decode cX6_addBytes 5 = .ok (.iload_n 3, 1) := by decide +kernel
theorem dX6_addBytes_6 : decode cX6_addBytes 6 = .ok (.if_icmp .ge 17, 3) := by decide +kernel
theorem dX6_addBytes_9 : decode cX6_addBytes 9 = .ok (.aload_n 0, 1) := by decide +kernel
theorem dX6_addBytes_10 : decode cX6_addBytes 10 = .ok (.aload_n 1, 1) := by decide +kernel
theorem dX6_addBytes_11 : decode cX6_addBytes 11 = .ok (.iload 4, 2) := by decide +kernel
theorem dX6_addBytes_13 : decode cX6_addBytes 13 = .ok (.baload, 1) := by decide +kernel
theorem dX6_addBytes_14 : decode cX6_addBytes 14 = .ok (.invokevirtual 26, 3) := by decide +kernel
theorem dX6_addBytes_17 : decode cX6_addBytes 17 = .ok (.iinc 4 1, 3) := by decide +kernel
theorem dX6_addBytes_20 : decode cX6_addBytes 20 = .ok (.goto (-17), 3) := by decide +kernel
theorem dX6_addBytes_23 : decode cX6_addBytes 23 = .ok (.return_, 1) := by decide +kernel
theorem dX6_addHash_0 : decode cX6_addHash 0 = .ok (.iconst 0, 1) := by decide +kernel
theorem dX6_addHash_1 : decode cX6_addHash 1 = .ok (.istore_n 2, 1) := by decide +kernel
theorem dX6_addHash_2 : decode cX6_addHash 2 = .ok (.iload_n 2, 1) := by decide +kernel
theorem dX6_addHash_3 : decode cX6_addHash 3 = .ok (.bipush 32, 2) := by decide +kernel
theorem dX6_addHash_5 : decode cX6_addHash 5 = .ok (.if_icmp .ge 18, 3) := by decide +kernel
theorem dX6_addHash_8 : decode cX6_addHash 8 = .ok (.aload_n 0, 1) := by decide +kernel
theorem dX6_addHash_9 : decode cX6_addHash 9 = .ok (.aload_n 1, 1) := by decide +kernel
theorem dX6_addHash_10 : decode cX6_addHash 10 = .ok (.iload_n 2, 1) := by decide +kernel
theorem dX6_addHash_11 : decode cX6_addHash 11 = .ok (.invokestatic 30, 3) := by decide +kernel
theorem dX6_addHash_14 : decode cX6_addHash 14 = .ok (.invokevirtual 26, 3) := by decide +kernel
theorem dX6_addHash_17 : decode cX6_addHash 17 = .ok (.iinc 2 1, 3) := by decide +kernel
theorem dX6_addHash_20 : decode cX6_addHash 20 = .ok (.goto (-18), 3) := by decide +kernel
theorem dX6_addHash_23 : decode cX6_addHash 23 = .ok (.return_, 1) := by decide +kernel
theorem dX6_join_0 : decode cX6_join 0 = .ok (.aload_n 0, 1) := by decide +kernel
theorem dX6_join_1 : decode cX6_join 1 = .ok (.invokevirtual 34, 3) := by decide +kernel
theorem dX6_join_4 : decode cX6_join 4 = .ok (.aload_n 0, 1) := by decide +kernel
theorem dX6_join_5 : decode cX6_join 5 = .ok (.iconst 1, 1) := by decide +kernel
theorem dX6_join_6 : decode cX6_join 6 = .ok (.invokevirtual 26, 3) := by decide +kernel
theorem dX6_join_9 : decode cX6_join 9 = .ok (.aload_n 0, 1) := by decide +kernel
theorem dX6_join_10 : decode cX6_join 10 = .ok (.aload_n 1, 1) := by decide +kernel
theorem dX6_join_11 : decode cX6_join 11 = .ok (.invokevirtual 37, 3) := by decide +kernel
theorem dX6_join_14 : decode cX6_join 14 = .ok (.aload_n 0, 1) := by decide +kernel
theorem dX6_join_15 : decode cX6_join 15 = .ok (.aload_n 2, 1) := by decide +kernel
theorem dX6_join_16 : decode cX6_join 16 = .ok (.invokevirtual 37, 3) := by decide +kernel
theorem dX6_join_19 : decode cX6_join 19 = .ok (.aload_n 0, 1) := by decide +kernel
theorem dX6_join_20 : decode cX6_join 20 = .ok (.aload_n 3, 1) := by decide +kernel
theorem dX6_join_21 : decode cX6_join 21 = .ok (.invokevirtual 41, 3) := by decide +kernel
theorem dX6_join_24 : decode cX6_join 24 = .ok (.return_, 1) := by decide +kernel
theorem dX6_end_0 : decode cX6_end 0 = .ok (.aload_n 0, 1) := by decide +kernel
theorem dX6_end_1 : decode cX6_end 1 = .ok (.getfield 22, 3) := by decide +kernel
theorem dX6_end_4 : decode cX6_end 4 = .ok (.bipush 9, 2) := by decide +kernel
theorem dX6_end_6 : decode cX6_end 6 = .ok (.iadd, 1) := by decide +kernel
theorem dX6_end_7 : decode cX6_end 7 = .ok (.bipush 64, 2) := by decide +kernel
theorem dX6_end_9 : decode cX6_end 9 = .ok (.if_icmp .gt 7, 3) := by decide +kernel
theorem dX6_end_12 : decode cX6_end 12 = .ok (.iconst 1, 1) := by decide +kernel
theorem dX6_end_13 : decode cX6_end 13 = .ok (.goto 4, 3) := by decide +kernel
theorem dX6_end_16 : decode cX6_end 16 = .ok (.iconst 2, 1) := by decide +kernel
theorem dX6_end_17 : decode cX6_end 17 = .ok (.istore_n 2, 1) := by decide +kernel
theorem dX6_end_18 : decode cX6_end 18 = .ok (.iload_n 2, 1) := by decide +kernel
theorem dX6_end_19 : decode cX6_end 19 = .ok (.bipush 64, 2) := by decide +kernel
theorem dX6_end_21 : decode cX6_end 21 = .ok (.imul, 1) := by decide +kernel
theorem dX6_end_22 : decode cX6_end 22 = .ok (.istore_n 3, 1) := by decide +kernel
theorem dX6_end_23 : decode cX6_end 23 = .ok (.aload_n 0, 1) := by decide +kernel
theorem dX6_end_24 : decode cX6_end 24 = .ok (.getfield 11, 3) := by decide +kernel
theorem dX6_end_27 : decode cX6_end 27 = .ok (.aload_n 0, 1) := by decide +kernel
theorem dX6_end_28 : decode cX6_end 28 = .ok (.getfield 22, 3) := by decide +kernel
theorem dX6_end_31 : decode cX6_end 31 = .ok (.bipush (-128), 2) := by decide +kernel
theorem dX6_end_33 : decode cX6_end 33 = .ok (.bastore, 1) := by decide +kernel
theorem dX6_end_34 : decode cX6_end 34 = .ok (.aload_n 0, 1) := by decide +kernel
theorem dX6_end_35 : decode cX6_end 35 = .ok (.getfield 22, 3) := by decide +kernel
theorem dX6_end_38 : decode cX6_end 38 = .ok (.iconst 1, 1) := by decide +kernel
theorem dX6_end_39 : decode cX6_end 39 = .ok (.iadd, 1) := by decide +kernel
theorem dX6_end_40 : decode cX6_end 40 = .ok (.istore 4, 2) := by decide +kernel
theorem dX6_end_42 : decode cX6_end 42 = .ok (.iload 4, 2) := by decide +kernel
theorem dX6_end_44 : decode cX6_end 44 = .ok (.iload_n 3, 1) := by decide +kernel
theorem dX6_end_45 : decode cX6_end 45 = .ok (.iconst 2, 1) := by decide +kernel
theorem dX6_end_46 : decode cX6_end 46 = .ok (.isub, 1) := by decide +kernel
theorem dX6_end_47 : decode cX6_end 47 = .ok (.if_icmp .ge 17, 3) := by decide +kernel
theorem dX6_end_50 : decode cX6_end 50 = .ok (.aload_n 0, 1) := by decide +kernel
theorem dX6_end_51 : decode cX6_end 51 = .ok (.getfield 11, 3) := by decide +kernel
theorem dX6_end_54 : decode cX6_end 54 = .ok (.iload 4, 2) := by decide +kernel
theorem dX6_end_56 : decode cX6_end 56 = .ok (.iconst 0, 1) := by decide +kernel
theorem dX6_end_57 : decode cX6_end 57 = .ok (.bastore, 1) := by decide +kernel
theorem dX6_end_58 : decode cX6_end 58 = .ok (.iinc 4 1, 3) := by decide +kernel
theorem dX6_end_61 : decode cX6_end 61 = .ok (.goto (-19), 3) := by decide +kernel
theorem dX6_end_64 : decode cX6_end 64 = .ok (.aload_n 0, 1) := by decide +kernel
theorem dX6_end_65 : decode cX6_end 65 = .ok (.getfield 11, 3) := by decide +kernel
theorem dX6_end_68 : decode cX6_end 68 = .ok (.iload_n 3, 1) := by decide +kernel
theorem dX6_end_69 : decode cX6_end 69 = .ok (.iconst 2, 1) := by decide +kernel
theorem dX6_end_70 : decode cX6_end 70 = .ok (.isub, 1) := by decide +kernel
theorem dX6_end_71 : decode cX6_end 71 = .ok (.aload_n 0, 1) := by decide +kernel
theorem dX6_end_72 : decode cX6_end 72 = .ok (.getfield 22, 3) := by decide +kernel
theorem dX6_end_75 : decode cX6_end 75 = .ok (.iconst 5, 1) := by decide +kernel
theorem dX6_end_76 : decode cX6_end 76 = .ok (.ishr, 1) := by decide +kernel
theorem dX6_end_77 : decode cX6_end 77 = .ok (.i2b, 1) := by decide +kernel
theorem dX6_end_78 : decode cX6_end 78 = .ok (.bastore, 1) := by decide +kernel
theorem dX6_end_79 : decode cX6_end 79 = .ok (.aload_n 0, 1) := by decide +kernel
theorem dX6_end_80 : decode cX6_end 80 = .ok (.getfield 11, 3) := by decide +kernel
theorem dX6_end_83 : decode cX6_end 83 = .ok (.iload_n 3, 1) := by decide +kernel
theorem dX6_end_84 : decode cX6_end 84 = .ok (.iconst 1, 1) := by decide +kernel
theorem dX6_end_85 : decode cX6_end 85 = .ok (.isub, 1) := by decide +kernel
theorem dX6_end_86 : decode cX6_end 86 = .ok (.aload_n 0, 1) := by decide +kernel
theorem dX6_end_87 : decode cX6_end 87 = .ok (.getfield 22, 3) := by decide +kernel
theorem dX6_end_90 : decode cX6_end 90 = .ok (.iconst 3, 1) := by decide +kernel
theorem dX6_end_91 : decode cX6_end 91 = .ok (.ishl, 1) := by decide +kernel
theorem dX6_end_92 : decode cX6_end 92 = .ok (.i2b, 1) := by decide +kernel
theorem dX6_end_93 : decode cX6_end 93 = .ok (.bastore, 1) := by decide +kernel
theorem dX6_end_94 : decode cX6_end 94 = .ok (.getstatic 44, 3) := by decide +kernel
theorem dX6_end_97 : decode cX6_end 97 = .ok (.aload_n 0, 1) := by decide +kernel
theorem dX6_end_98 : decode cX6_end 98 = .ok (.getfield 19, 3) := by decide +kernel
theorem dX6_end_101 : decode cX6_end 101 = .ok (.invokestatic 47, 3) := by decide +kernel
theorem dX6_end_104 : decode cX6_end 104 = .ok (.iconst 0, 1) := by decide +kernel
theorem dX6_end_105 : decode cX6_end 105 = .ok (.istore 4, 2) := by decide +kernel
theorem dX6_end_107 : decode cX6_end 107 = .ok (.iload 4, 2) := by decide +kernel
theorem dX6_end_109 : decode cX6_end 109 = .ok (.iload_n 2, 1) := by decide +kernel
theorem dX6_end_110 : decode cX6_end 110 = .ok (.if_icmp .ge 22, 3) := by decide +kernel
theorem dX6_end_113 : decode cX6_end 113 = .ok (.aload_n 0, 1) := by decide +kernel
theorem dX6_end_114 : decode cX6_end 114 = .ok (.iload 4, 2) := by decide +kernel
theorem dX6_end_116 : decode cX6_end 116 = .ok (.bipush 64, 2) := by decide +kernel
theorem dX6_end_118 : decode cX6_end 118 = .ok (.imul, 1) := by decide +kernel
theorem dX6_end_119 : decode cX6_end 119 = .ok (.invokevirtual 51, 3) := by decide +kernel
theorem dX6_end_122 : decode cX6_end 122 = .ok (.aload_n 0, 1) := by decide +kernel
theorem dX6_end_123 : decode cX6_end 123 = .ok (.invokevirtual 54, 3) := by decide +kernel
theorem dX6_end_126 : decode cX6_end 126 = .ok (.iinc 4 1, 3) := by decide +kernel
theorem dX6_end_129 : decode cX6_end 129 = .ok (.goto (-22), 3) := by decide +kernel
theorem dX6_end_132 : decode cX6_end 132 = .ok (.aload_n 0, 1) := by decide +kernel
theorem dX6_end_133 : decode cX6_end 133 = .ok (.getfield 19, 3) := by decide +kernel
theorem dX6_end_136 : decode cX6_end 136 = .ok (.aload_n 1, 1) := by decide +kernel
theorem dX6_end_137 : decode cX6_end 137 = .ok (.invokestatic 47, 3) := by decide +kernel
theorem dX6_end_140 : decode cX6_end 140 = .ok (.return_, 1) := by decide +kernel
theorem dX6_readSchedule_0 : decode cX6_readSchedule 0 = .ok (.iconst 0, 1) := by decide +kernel
theorem dX6_readSchedule_1 : decode cX6_readSchedule 1 = .ok (.istore_n 2, 1) := by decide +kernel
theorem dX6_readSchedule_2 : decode cX6_readSchedule 2 = .ok (.iload_n 2, 1) := by decide +kernel
theorem dX6_readSchedule_3 : decode cX6_readSchedule 3 = .ok (.bipush 16, 2) := by decide +kernel
theorem dX6_readSchedule_5 : decode cX6_readSchedule 5 = .ok (.if_icmp .ge 79, 3) := by decide +kernel
theorem dX6_readSchedule_8 : decode cX6_readSchedule 8 = .ok (.iload_n 1, 1) := by decide +kernel
theorem dX6_readSchedule_9 : decode cX6_readSchedule 9 = .ok (.iconst 4, 1) := by decide +kernel
theorem dX6_readSchedule_10 : decode cX6_readSchedule 10 = .ok (.iload_n 2, 1) := by decide +kernel
theorem dX6_readSchedule_11 : decode cX6_readSchedule 11 = .ok (.imul, 1) := by decide +kernel
theorem dX6_readSchedule_12 : decode cX6_readSchedule 12 = .ok (.iadd, 1) := by decide +kernel
theorem dX6_readSchedule_13 : decode cX6_readSchedule 13 = .ok (.istore_n 3, 1) := by decide +kernel
theorem dX6_readSchedule_14 : decode cX6_readSchedule 14 = .ok (.aload_n 0, 1) := by decide +kernel
theorem dX6_readSchedule_15 : decode cX6_readSchedule 15 = .ok (.getfield 15, 3) := by decide +kernel
theorem dX6_readSchedule_18 : decode cX6_readSchedule 18 = .ok (.iload_n 2, 1) := by decide +kernel
theorem dX6_readSchedule_19 : decode cX6_readSchedule 19 = .ok (.aload_n 0, 1) := by decide +kernel
theorem dX6_readSchedule_20 : decode cX6_readSchedule 20 = .ok (.getfield 11, 3) := by decide +kernel
theorem dX6_readSchedule_23 : decode cX6_readSchedule 23 = .ok (.iload_n 3, 1) := by decide +kernel
theorem dX6_readSchedule_24 : decode cX6_readSchedule 24 = .ok (.baload, 1) := by decide +kernel
theorem dX6_readSchedule_25 : decode cX6_readSchedule 25 = .ok (.sipush 255, 3) := by decide +kernel
theorem dX6_readSchedule_28 : decode cX6_readSchedule 28 = .ok (.iand, 1) := by decide +kernel
theorem dX6_readSchedule_29 : decode cX6_readSchedule 29 = .ok (.bipush 24, 2) := by decide +kernel
theorem dX6_readSchedule_31 : decode cX6_readSchedule 31 = .ok (.ishl, 1) := by decide +kernel
theorem dX6_readSchedule_32 : decode cX6_readSchedule 32 = .ok (.aload_n 0, 1) := by decide +kernel
theorem dX6_readSchedule_33 : decode cX6_readSchedule 33 = .ok (.getfield 11, 3) := by decide +kernel
theorem dX6_readSchedule_36 : decode cX6_readSchedule 36 = .ok (.iload_n 3, 1) := by decide +kernel
theorem dX6_readSchedule_37 : decode cX6_readSchedule 37 = .ok (.iconst 1, 1) := by decide +kernel
theorem dX6_readSchedule_38 : decode cX6_readSchedule 38 = .ok (.iadd, 1) := by decide +kernel
theorem dX6_readSchedule_39 : decode cX6_readSchedule 39 = .ok (.baload, 1) := by decide +kernel
theorem dX6_readSchedule_40 : decode cX6_readSchedule 40 = .ok (.sipush 255, 3) := by decide +kernel
theorem dX6_readSchedule_43 : decode cX6_readSchedule 43 = .ok (.iand, 1) := by decide +kernel
theorem dX6_readSchedule_44 : decode cX6_readSchedule 44 = .ok (.bipush 16, 2) := by decide +kernel
theorem dX6_readSchedule_46 : decode cX6_readSchedule 46 = .ok (.ishl, 1) := by decide +kernel
theorem dX6_readSchedule_47 : decode cX6_readSchedule 47 = .ok (.ior, 1) := by decide +kernel
theorem dX6_readSchedule_48 : decode cX6_readSchedule 48 = .ok (.aload_n 0, 1) := by decide +kernel
theorem dX6_readSchedule_49 : decode cX6_readSchedule 49 = .ok (.getfield 11, 3) := by decide +kernel
theorem dX6_readSchedule_52 : decode cX6_readSchedule 52 = .ok (.iload_n 3, 1) := by decide +kernel
theorem dX6_readSchedule_53 : decode cX6_readSchedule 53 = .ok (.iconst 2, 1) := by decide +kernel
theorem dX6_readSchedule_54 : decode cX6_readSchedule 54 = .ok (.iadd, 1) := by decide +kernel
theorem dX6_readSchedule_55 : decode cX6_readSchedule 55 = .ok (.baload, 1) := by decide +kernel
theorem dX6_readSchedule_56 : decode cX6_readSchedule 56 = .ok (.sipush 255, 3) := by decide +kernel
theorem dX6_readSchedule_59 : decode cX6_readSchedule 59 = .ok (.iand, 1) := by decide +kernel
theorem dX6_readSchedule_60 : decode cX6_readSchedule 60 = .ok (.bipush 8, 2) := by decide +kernel
theorem dX6_readSchedule_62 : decode cX6_readSchedule 62 = .ok (.ishl, 1) := by decide +kernel
theorem dX6_readSchedule_63 : decode cX6_readSchedule 63 = .ok (.ior, 1) := by decide +kernel
theorem dX6_readSchedule_64 : decode cX6_readSchedule 64 = .ok (.aload_n 0, 1) := by decide +kernel
theorem dX6_readSchedule_65 : decode cX6_readSchedule 65 = .ok (.getfield 11, 3) := by decide +kernel
theorem dX6_readSchedule_68 : decode cX6_readSchedule 68 = .ok (.iload_n 3, 1) := by decide +kernel
theorem dX6_readSchedule_69 : decode cX6_readSchedule 69 = .ok (.iconst 3, 1) := by decide +kernel
theorem dX6_readSchedule_70 : decode cX6_readSchedule 70 = .ok (.iadd, 1) := by decide +kernel
theorem dX6_readSchedule_71 : decode cX6_readSchedule 71 = .ok (.baload, 1) := by decide +kernel
theorem dX6_readSchedule_72 : decode cX6_readSchedule 72 = .ok (.sipush 255, 3) := by decide +kernel
theorem dX6_readSchedule_75 : decode cX6_readSchedule 75 = .ok (.iand, 1) := by decide +kernel
theorem dX6_readSchedule_76 : decode cX6_readSchedule 76 = .ok (.ior, 1) := by decide +kernel
theorem dX6_readSchedule_77 : decode cX6_readSchedule 77 = .ok (.iastore, 1) := by decide +kernel
theorem dX6_readSchedule_78 : decode cX6_readSchedule 78 = .ok (.iinc 2 1, 3) := by decide +kernel
theorem dX6_readSchedule_81 : decode cX6_readSchedule 81 = .ok (.goto (-79), 3) := by decide +kernel
theorem dX6_readSchedule_84 : decode cX6_readSchedule 84 = .ok (.bipush 16, 2) := by decide +kernel
theorem dX6_readSchedule_86 : decode cX6_readSchedule 86 = .ok (.istore_n 2, 1) := by decide +kernel
theorem dX6_readSchedule_87 : decode cX6_readSchedule 87 = .ok (.iload_n 2, 1) := by decide +kernel
theorem dX6_readSchedule_88 : decode cX6_readSchedule 88 = .ok (.bipush 64, 2) := by decide +kernel
theorem dX6_readSchedule_90 : decode cX6_readSchedule 90 = .ok (.if_icmp .ge 108, 3) := by decide +kernel
theorem dX6_readSchedule_93 : decode cX6_readSchedule 93 = .ok (.aload_n 0, 1) := by decide +kernel
theorem dX6_readSchedule_94 : decode cX6_readSchedule 94 = .ok (.getfield 15, 3) := by decide +kernel
theorem dX6_readSchedule_97 : decode cX6_readSchedule 97 = .ok (.iload_n 2, 1) := by decide +kernel
theorem dX6_readSchedule_98 : decode cX6_readSchedule 98 = .ok (.bipush 15, 2) := by decide +kernel
theorem dX6_readSchedule_100 : decode cX6_readSchedule 100 = .ok (.isub, 1) := by decide +kernel
theorem dX6_readSchedule_101 : decode cX6_readSchedule 101 = .ok (.iaload, 1) := by decide +kernel
theorem dX6_readSchedule_102 : decode cX6_readSchedule 102 = .ok (.istore_n 3, 1) := by decide +kernel
theorem dX6_readSchedule_103 : decode cX6_readSchedule 103 = .ok (.aload_n 0, 1) := by decide +kernel
theorem dX6_readSchedule_104 : decode cX6_readSchedule 104 = .ok (.getfield 15, 3) := by decide +kernel
theorem dX6_readSchedule_107 : decode cX6_readSchedule 107 = .ok (.iload_n 2, 1) := by decide +kernel
theorem dX6_readSchedule_108 : decode cX6_readSchedule 108 = .ok (.iconst 2, 1) := by decide +kernel
theorem dX6_readSchedule_109 : decode cX6_readSchedule 109 = .ok (.isub, 1) := by decide +kernel
theorem dX6_readSchedule_110 : decode cX6_readSchedule 110 = .ok (.iaload, 1) := by decide +kernel
theorem dX6_readSchedule_111 : decode cX6_readSchedule 111 = .ok (.istore 4, 2) := by decide +kernel
theorem dX6_readSchedule_113 : decode cX6_readSchedule 113 = .ok (.aload_n 0, 1) := by decide +kernel
theorem dX6_readSchedule_114 : decode cX6_readSchedule 114 = .ok (.getfield 15, 3) := by decide +kernel
theorem dX6_readSchedule_117 : decode cX6_readSchedule 117 = .ok (.iload_n 2, 1) := by decide +kernel
theorem dX6_readSchedule_118 : decode cX6_readSchedule 118 = .ok (.aload_n 0, 1) := by decide +kernel
theorem dX6_readSchedule_119 : decode cX6_readSchedule 119 = .ok (.getfield 15, 3) := by decide +kernel
theorem dX6_readSchedule_122 : decode cX6_readSchedule 122 = .ok (.iload_n 2, 1) := by decide +kernel
theorem dX6_readSchedule_123 : decode cX6_readSchedule 123 = .ok (.bipush 16, 2) := by decide +kernel
theorem dX6_readSchedule_125 : decode cX6_readSchedule 125 = .ok (.isub, 1) := by decide +kernel
theorem dX6_readSchedule_126 : decode cX6_readSchedule 126 = .ok (.iaload, 1) := by decide +kernel
theorem dX6_readSchedule_127 : decode cX6_readSchedule 127 = .ok (.aload_n 0, 1) := by decide +kernel
theorem dX6_readSchedule_128 : decode cX6_readSchedule 128 = .ok (.getfield 15, 3) := by decide +kernel
theorem dX6_readSchedule_131 : decode cX6_readSchedule 131 = .ok (.iload_n 2, 1) := by decide +kernel
theorem dX6_readSchedule_132 : decode cX6_readSchedule 132 = .ok (.bipush 7, 2) := by decide +kernel
theorem dX6_readSchedule_134 : decode cX6_readSchedule 134 = .ok (.isub, 1) := by decide +kernel
theorem dX6_readSchedule_135 : decode cX6_readSchedule 135 = .ok (.iaload, 1) := by decide +kernel
theorem dX6_readSchedule_136 : decode cX6_readSchedule 136 = .ok (.iadd, 1) := by decide +kernel
theorem dX6_readSchedule_137 : decode cX6_readSchedule 137 = .ok (.iload_n 3, 1) := by decide +kernel
theorem dX6_readSchedule_138 : decode cX6_readSchedule 138 = .ok (.bipush 7, 2) := by decide +kernel
theorem dX6_readSchedule_140 : decode cX6_readSchedule 140 = .ok (.iushr, 1) := by decide +kernel
theorem dX6_readSchedule_141 : decode cX6_readSchedule 141 = .ok (.iload_n 3, 1) := by decide +kernel
theorem dX6_readSchedule_142 : decode cX6_readSchedule 142 = .ok (.bipush 25, 2) := by decide +kernel
theorem dX6_readSchedule_144 : decode cX6_readSchedule 144 = .ok (.ishl, 1) := by decide +kernel
theorem dX6_readSchedule_145 : decode cX6_readSchedule 145 = .ok (.ior, 1) := by decide +kernel
theorem dX6_readSchedule_146 : decode cX6_readSchedule 146 = .ok (.iload_n 3, 1) := by decide +kernel
theorem dX6_readSchedule_147 : decode cX6_readSchedule 147 = .ok (.bipush 18, 2) := by decide +kernel
theorem dX6_readSchedule_149 : decode cX6_readSchedule 149 = .ok (.iushr, 1) := by decide +kernel
theorem dX6_readSchedule_150 : decode cX6_readSchedule 150 = .ok (.iload_n 3, 1) := by decide +kernel
theorem dX6_readSchedule_151 : decode cX6_readSchedule 151 = .ok (.bipush 14, 2) := by decide +kernel
theorem dX6_readSchedule_153 : decode cX6_readSchedule 153 = .ok (.ishl, 1) := by decide +kernel
theorem dX6_readSchedule_154 : decode cX6_readSchedule 154 = .ok (.ior, 1) := by decide +kernel
theorem dX6_readSchedule_155 : decode cX6_readSchedule 155 = .ok (.ixor, 1) := by decide +kernel
theorem dX6_readSchedule_156 : decode cX6_readSchedule 156 = .ok (.iload_n 3, 1) := by decide +kernel
theorem dX6_readSchedule_157 : decode cX6_readSchedule 157 = .ok (.iconst 3, 1) := by decide +kernel
theorem dX6_readSchedule_158 : decode cX6_readSchedule 158 = .ok (.iushr, 1) := by decide +kernel
theorem dX6_readSchedule_159 : decode cX6_readSchedule 159 = .ok (.ixor, 1) := by decide +kernel
theorem dX6_readSchedule_160 : decode cX6_readSchedule 160 = .ok (.iadd, 1) := by decide +kernel
theorem dX6_readSchedule_161 : decode cX6_readSchedule 161 = .ok (.iload 4, 2) := by decide +kernel
theorem dX6_readSchedule_163 : decode cX6_readSchedule 163 = .ok (.bipush 17, 2) := by decide +kernel
theorem dX6_readSchedule_165 : decode cX6_readSchedule 165 = .ok (.iushr, 1) := by decide +kernel
theorem dX6_readSchedule_166 : decode cX6_readSchedule 166 = .ok (.iload 4, 2) := by decide +kernel
theorem dX6_readSchedule_168 : decode cX6_readSchedule 168 = .ok (.bipush 15, 2) := by decide +kernel
theorem dX6_readSchedule_170 : decode cX6_readSchedule 170 = .ok (.ishl, 1) := by decide +kernel
theorem dX6_readSchedule_171 : decode cX6_readSchedule 171 = .ok (.ior, 1) := by decide +kernel
theorem dX6_readSchedule_172 : decode cX6_readSchedule 172 = .ok (.iload 4, 2) := by decide +kernel
theorem dX6_readSchedule_174 : decode cX6_readSchedule 174 = .ok (.bipush 19, 2) := by decide +kernel
theorem dX6_readSchedule_176 : decode cX6_readSchedule 176 = .ok (.iushr, 1) := by decide +kernel
theorem dX6_readSchedule_177 : decode cX6_readSchedule 177 = .ok (.iload 4, 2) := by decide +kernel
theorem dX6_readSchedule_179 : decode cX6_readSchedule 179 = .ok (.bipush 13, 2) := by decide +kernel
theorem dX6_readSchedule_181 : decode cX6_readSchedule 181 = .ok (.ishl, 1) := by decide +kernel
theorem dX6_readSchedule_182 : decode cX6_readSchedule 182 = .ok (.ior, 1) := by decide +kernel
theorem dX6_readSchedule_183 : decode cX6_readSchedule 183 = .ok (.ixor, 1) := by decide +kernel
theorem dX6_readSchedule_184 : decode cX6_readSchedule 184 = .ok (.iload 4, 2) := by decide +kernel
theorem dX6_readSchedule_186 : decode cX6_readSchedule 186 = .ok (.bipush 10, 2) := by decide +kernel
theorem dX6_readSchedule_188 : decode cX6_readSchedule 188 = .ok (.iushr, 1) := by decide +kernel
theorem dX6_readSchedule_189 : decode cX6_readSchedule 189 = .ok (.ixor, 1) := by decide +kernel
theorem dX6_readSchedule_190 : decode cX6_readSchedule 190 = .ok (.iadd, 1) := by decide +kernel
theorem dX6_readSchedule_191 : decode cX6_readSchedule 191 = .ok (.iastore, 1) := by decide +kernel
theorem dX6_readSchedule_192 : decode cX6_readSchedule 192 = .ok (.iinc 2 1, 3) := by decide +kernel
theorem dX6_readSchedule_195 : decode cX6_readSchedule 195 = .ok (.goto (-108), 3) := by decide +kernel
theorem dX6_readSchedule_198 : decode cX6_readSchedule 198 = .ok (.return_, 1) := by decide +kernel
theorem dX6_mix_0 : decode cX6_mix 0 = .ok (.aload_n 0, 1) := by decide +kernel
theorem dX6_mix_1 : decode cX6_mix 1 = .ok (.getfield 19, 3) := by decide +kernel
theorem dX6_mix_4 : decode cX6_mix 4 = .ok (.iconst 0, 1) := by decide +kernel
theorem dX6_mix_5 : decode cX6_mix 5 = .ok (.iaload, 1) := by decide +kernel
theorem dX6_mix_6 : decode cX6_mix 6 = .ok (.istore_n 1, 1) := by decide +kernel
theorem dX6_mix_7 : decode cX6_mix 7 = .ok (.aload_n 0, 1) := by decide +kernel
theorem dX6_mix_8 : decode cX6_mix 8 = .ok (.getfield 19, 3) := by decide +kernel
theorem dX6_mix_11 : decode cX6_mix 11 = .ok (.iconst 1, 1) := by decide +kernel
theorem dX6_mix_12 : decode cX6_mix 12 = .ok (.iaload, 1) := by decide +kernel
theorem dX6_mix_13 : decode cX6_mix 13 = .ok (.istore_n 2, 1) := by decide +kernel
theorem dX6_mix_14 : decode cX6_mix 14 = .ok (.aload_n 0, 1) := by decide +kernel
theorem dX6_mix_15 : decode cX6_mix 15 = .ok (.getfield 19, 3) := by decide +kernel
theorem dX6_mix_18 : decode cX6_mix 18 = .ok (.iconst 2, 1) := by decide +kernel
theorem dX6_mix_19 : decode cX6_mix 19 = .ok (.iaload, 1) := by decide +kernel
theorem dX6_mix_20 : decode cX6_mix 20 = .ok (.istore_n 3, 1) := by decide +kernel
theorem dX6_mix_21 : decode cX6_mix 21 = .ok (.aload_n 0, 1) := by decide +kernel
theorem dX6_mix_22 : decode cX6_mix 22 = .ok (.getfield 19, 3) := by decide +kernel
theorem dX6_mix_25 : decode cX6_mix 25 = .ok (.iconst 3, 1) := by decide +kernel
theorem dX6_mix_26 : decode cX6_mix 26 = .ok (.iaload, 1) := by decide +kernel
theorem dX6_mix_27 : decode cX6_mix 27 = .ok (.istore 4, 2) := by decide +kernel
theorem dX6_mix_29 : decode cX6_mix 29 = .ok (.aload_n 0, 1) := by decide +kernel
theorem dX6_mix_30 : decode cX6_mix 30 = .ok (.getfield 19, 3) := by decide +kernel
theorem dX6_mix_33 : decode cX6_mix 33 = .ok (.iconst 4, 1) := by decide +kernel
theorem dX6_mix_34 : decode cX6_mix 34 = .ok (.iaload, 1) := by decide +kernel
theorem dX6_mix_35 : decode cX6_mix 35 = .ok (.istore 5, 2) := by decide +kernel
theorem dX6_mix_37 : decode cX6_mix 37 = .ok (.aload_n 0, 1) := by decide +kernel
theorem dX6_mix_38 : decode cX6_mix 38 = .ok (.getfield 19, 3) := by decide +kernel
theorem dX6_mix_41 : decode cX6_mix 41 = .ok (.iconst 5, 1) := by decide +kernel
theorem dX6_mix_42 : decode cX6_mix 42 = .ok (.iaload, 1) := by decide +kernel
theorem dX6_mix_43 : decode cX6_mix 43 = .ok (.istore 6, 2) := by decide +kernel
theorem dX6_mix_45 : decode cX6_mix 45 = .ok (.aload_n 0, 1) := by decide +kernel
theorem dX6_mix_46 : decode cX6_mix 46 = .ok (.getfield 19, 3) := by decide +kernel
theorem dX6_mix_49 : decode cX6_mix 49 = .ok (.bipush 6, 2) := by decide +kernel
theorem dX6_mix_51 : decode cX6_mix 51 = .ok (.iaload, 1) := by decide +kernel
theorem dX6_mix_52 : decode cX6_mix 52 = .ok (.istore 7, 2) := by decide +kernel
theorem dX6_mix_54 : decode cX6_mix 54 = .ok (.aload_n 0, 1) := by decide +kernel
theorem dX6_mix_55 : decode cX6_mix 55 = .ok (.getfield 19, 3) := by decide +kernel
theorem dX6_mix_58 : decode cX6_mix 58 = .ok (.bipush 7, 2) := by decide +kernel
theorem dX6_mix_60 : decode cX6_mix 60 = .ok (.iaload, 1) := by decide +kernel
theorem dX6_mix_61 : decode cX6_mix 61 = .ok (.istore 8, 2) := by decide +kernel
theorem dX6_mix_63 : decode cX6_mix 63 = .ok (.iconst 0, 1) := by decide +kernel
theorem dX6_mix_64 : decode cX6_mix 64 = .ok (.istore 9, 2) := by decide +kernel
theorem dX6_mix_66 : decode cX6_mix 66 = .ok (.iload 9, 2) := by decide +kernel
theorem dX6_mix_68 : decode cX6_mix 68 = .ok (.bipush 64, 2) := by decide +kernel
theorem dX6_mix_70 : decode cX6_mix 70 = .ok (.if_icmp .ge 152, 3) := by decide +kernel
theorem dX6_mix_73 : decode cX6_mix 73 = .ok (.iload 8, 2) := by decide +kernel
theorem dX6_mix_75 : decode cX6_mix 75 = .ok (.iload 5, 2) := by decide +kernel
theorem dX6_mix_77 : decode cX6_mix 77 = .ok (.bipush 6, 2) := by decide +kernel
theorem dX6_mix_79 : decode cX6_mix 79 = .ok (.iushr, 1) := by decide +kernel
theorem dX6_mix_80 : decode cX6_mix 80 = .ok (.iload 5, 2) := by decide +kernel
theorem dX6_mix_82 : decode cX6_mix 82 = .ok (.bipush 26, 2) := by decide +kernel
theorem dX6_mix_84 : decode cX6_mix 84 = .ok (.ishl, 1) := by decide +kernel
theorem dX6_mix_85 : decode cX6_mix 85 = .ok (.ior, 1) := by decide +kernel
theorem dX6_mix_86 : decode cX6_mix 86 = .ok (.iload 5, 2) := by decide +kernel
theorem dX6_mix_88 : decode cX6_mix 88 = .ok (.bipush 11, 2) := by decide +kernel
theorem dX6_mix_90 : decode cX6_mix 90 = .ok (.iushr, 1) := by decide +kernel
theorem dX6_mix_91 : decode cX6_mix 91 = .ok (.iload 5, 2) := by decide +kernel
theorem dX6_mix_93 : decode cX6_mix 93 = .ok (.bipush 21, 2) := by decide +kernel
theorem dX6_mix_95 : decode cX6_mix 95 = .ok (.ishl, 1) := by decide +kernel
theorem dX6_mix_96 : decode cX6_mix 96 = .ok (.ior, 1) := by decide +kernel
theorem dX6_mix_97 : decode cX6_mix 97 = .ok (.ixor, 1) := by decide +kernel
theorem dX6_mix_98 : decode cX6_mix 98 = .ok (.iload 5, 2) := by decide +kernel
theorem dX6_mix_100 : decode cX6_mix 100 = .ok (.bipush 25, 2) := by decide +kernel
theorem dX6_mix_102 : decode cX6_mix 102 = .ok (.iushr, 1) := by decide +kernel
theorem dX6_mix_103 : decode cX6_mix 103 = .ok (.iload 5, 2) := by decide +kernel
theorem dX6_mix_105 : decode cX6_mix 105 = .ok (.bipush 7, 2) := by decide +kernel
theorem dX6_mix_107 : decode cX6_mix 107 = .ok (.ishl, 1) := by decide +kernel
theorem dX6_mix_108 : decode cX6_mix 108 = .ok (.ior, 1) := by decide +kernel
theorem dX6_mix_109 : decode cX6_mix 109 = .ok (.ixor, 1) := by decide +kernel
theorem dX6_mix_110 : decode cX6_mix 110 = .ok (.iadd, 1) := by decide +kernel
theorem dX6_mix_111 : decode cX6_mix 111 = .ok (.iload 5, 2) := by decide +kernel
theorem dX6_mix_113 : decode cX6_mix 113 = .ok (.iload 6, 2) := by decide +kernel
theorem dX6_mix_115 : decode cX6_mix 115 = .ok (.iand, 1) := by decide +kernel
theorem dX6_mix_116 : decode cX6_mix 116 = .ok (.iload 5, 2) := by decide +kernel
theorem dX6_mix_118 : decode cX6_mix 118 = .ok (.iconst (-1), 1) := by decide +kernel
theorem dX6_mix_119 : decode cX6_mix 119 = .ok (.ixor, 1) := by decide +kernel
theorem dX6_mix_120 : decode cX6_mix 120 = .ok (.iload 7, 2) := by decide +kernel
theorem dX6_mix_122 : decode cX6_mix 122 = .ok (.iand, 1) := by decide +kernel
theorem dX6_mix_123 : decode cX6_mix 123 = .ok (.ixor, 1) := by decide +kernel
theorem dX6_mix_124 : decode cX6_mix 124 = .ok (.iadd, 1) := by decide +kernel
theorem dX6_mix_125 : decode cX6_mix 125 = .ok (.getstatic 57, 3) := by decide +kernel
theorem dX6_mix_128 : decode cX6_mix 128 = .ok (.iload 9, 2) := by decide +kernel
theorem dX6_mix_130 : decode cX6_mix 130 = .ok (.iaload, 1) := by decide +kernel
theorem dX6_mix_131 : decode cX6_mix 131 = .ok (.iadd, 1) := by decide +kernel
theorem dX6_mix_132 : decode cX6_mix 132 = .ok (.aload_n 0, 1) := by decide +kernel
theorem dX6_mix_133 : decode cX6_mix 133 = .ok (.getfield 15, 3) := by decide +kernel
theorem dX6_mix_136 : decode cX6_mix 136 = .ok (.iload 9, 2) := by decide +kernel
theorem dX6_mix_138 : decode cX6_mix 138 = .ok (.iaload, 1) := by decide +kernel
theorem dX6_mix_139 : decode cX6_mix 139 = .ok (.iadd, 1) := by decide +kernel
theorem dX6_mix_140 : decode cX6_mix 140 = .ok (.istore 10, 2) := by decide +kernel
theorem dX6_mix_142 : decode cX6_mix 142 = .ok (.iload_n 1, 1) := by decide +kernel
theorem dX6_mix_143 : decode cX6_mix 143 = .ok (.iconst 2, 1) := by decide +kernel
theorem dX6_mix_144 : decode cX6_mix 144 = .ok (.iushr, 1) := by decide +kernel
theorem dX6_mix_145 : decode cX6_mix 145 = .ok (.iload_n 1, 1) := by decide +kernel
theorem dX6_mix_146 : decode cX6_mix 146 = .ok (.bipush 30, 2) := by decide +kernel
theorem dX6_mix_148 : decode cX6_mix 148 = .ok (.ishl, 1) := by decide +kernel
theorem dX6_mix_149 : decode cX6_mix 149 = .ok (.ior, 1) := by decide +kernel
theorem dX6_mix_150 : decode cX6_mix 150 = .ok (.iload_n 1, 1) := by decide +kernel
theorem dX6_mix_151 : decode cX6_mix 151 = .ok (.bipush 13, 2) := by decide +kernel
theorem dX6_mix_153 : decode cX6_mix 153 = .ok (.iushr, 1) := by decide +kernel
theorem dX6_mix_154 : decode cX6_mix 154 = .ok (.iload_n 1, 1) := by decide +kernel
theorem dX6_mix_155 : decode cX6_mix 155 = .ok (.bipush 19, 2) := by decide +kernel
theorem dX6_mix_157 : decode cX6_mix 157 = .ok (.ishl, 1) := by decide +kernel
theorem dX6_mix_158 : decode cX6_mix 158 = .ok (.ior, 1) := by decide +kernel
theorem dX6_mix_159 : decode cX6_mix 159 = .ok (.ixor, 1) := by decide +kernel
theorem dX6_mix_160 : decode cX6_mix 160 = .ok (.iload_n 1, 1) := by decide +kernel
theorem dX6_mix_161 : decode cX6_mix 161 = .ok (.bipush 22, 2) := by decide +kernel
theorem dX6_mix_163 : decode cX6_mix 163 = .ok (.iushr, 1) := by decide +kernel
theorem dX6_mix_164 : decode cX6_mix 164 = .ok (.iload_n 1, 1) := by decide +kernel
theorem dX6_mix_165 : decode cX6_mix 165 = .ok (.bipush 10, 2) := by decide +kernel
theorem dX6_mix_167 : decode cX6_mix 167 = .ok (.ishl, 1) := by decide +kernel
theorem dX6_mix_168 : decode cX6_mix 168 = .ok (.ior, 1) := by decide +kernel
theorem dX6_mix_169 : decode cX6_mix 169 = .ok (.ixor, 1) := by decide +kernel
theorem dX6_mix_170 : decode cX6_mix 170 = .ok (.iload_n 1, 1) := by decide +kernel
theorem dX6_mix_171 : decode cX6_mix 171 = .ok (.iload_n 2, 1) := by decide +kernel
theorem dX6_mix_172 : decode cX6_mix 172 = .ok (.iand, 1) := by decide +kernel
theorem dX6_mix_173 : decode cX6_mix 173 = .ok (.iload_n 1, 1) := by decide +kernel
theorem dX6_mix_174 : decode cX6_mix 174 = .ok (.iload_n 3, 1) := by decide +kernel
theorem dX6_mix_175 : decode cX6_mix 175 = .ok (.iand, 1) := by decide +kernel
theorem dX6_mix_176 : decode cX6_mix 176 = .ok (.ixor, 1) := by decide +kernel
theorem dX6_mix_177 : decode cX6_mix 177 = .ok (.iload_n 2, 1) := by decide +kernel
theorem dX6_mix_178 : decode cX6_mix 178 = .ok (.iload_n 3, 1) := by decide +kernel
theorem dX6_mix_179 : decode cX6_mix 179 = .ok (.iand, 1) := by decide +kernel
theorem dX6_mix_180 : decode cX6_mix 180 = .ok (.ixor, 1) := by decide +kernel
theorem dX6_mix_181 : decode cX6_mix 181 = .ok (.iadd, 1) := by decide +kernel
theorem dX6_mix_182 : decode cX6_mix 182 = .ok (.istore 11, 2) := by decide +kernel
theorem dX6_mix_184 : decode cX6_mix 184 = .ok (.iload 7, 2) := by decide +kernel
theorem dX6_mix_186 : decode cX6_mix 186 = .ok (.istore 8, 2) := by decide +kernel
theorem dX6_mix_188 : decode cX6_mix 188 = .ok (.iload 6, 2) := by decide +kernel
theorem dX6_mix_190 : decode cX6_mix 190 = .ok (.istore 7, 2) := by decide +kernel
theorem dX6_mix_192 : decode cX6_mix 192 = .ok (.iload 5, 2) := by decide +kernel
theorem dX6_mix_194 : decode cX6_mix 194 = .ok (.istore 6, 2) := by decide +kernel
theorem dX6_mix_196 : decode cX6_mix 196 = .ok (.iload 4, 2) := by decide +kernel
theorem dX6_mix_198 : decode cX6_mix 198 = .ok (.iload 10, 2) := by decide +kernel
theorem dX6_mix_200 : decode cX6_mix 200 = .ok (.iadd, 1) := by decide +kernel
theorem dX6_mix_201 : decode cX6_mix 201 = .ok (.istore 5, 2) := by decide +kernel
theorem dX6_mix_203 : decode cX6_mix 203 = .ok (.iload_n 3, 1) := by decide +kernel
theorem dX6_mix_204 : decode cX6_mix 204 = .ok (.istore 4, 2) := by decide +kernel
theorem dX6_mix_206 : decode cX6_mix 206 = .ok (.iload_n 2, 1) := by decide +kernel
theorem dX6_mix_207 : decode cX6_mix 207 = .ok (.istore_n 3, 1) := by decide +kernel
theorem dX6_mix_208 : decode cX6_mix 208 = .ok (.iload_n 1, 1) := by decide +kernel
theorem dX6_mix_209 : decode cX6_mix 209 = .ok (.istore_n 2, 1) := by decide +kernel
theorem dX6_mix_210 : decode cX6_mix 210 = .ok (.iload 10, 2) := by decide +kernel
theorem dX6_mix_212 : decode cX6_mix 212 = .ok (.iload 11, 2) := by decide +kernel
theorem dX6_mix_214 : decode cX6_mix 214 = .ok (.iadd, 1) := by decide +kernel
theorem dX6_mix_215 : decode cX6_mix 215 = .ok (.istore_n 1, 1) := by decide +kernel
theorem dX6_mix_216 : decode cX6_mix 216 = .ok (.iinc 9 1, 3) := by decide +kernel
theorem dX6_mix_219 : decode cX6_mix 219 = .ok (.goto (-153), 3) := by decide +kernel
theorem dX6_mix_222 : decode cX6_mix 222 = .ok (.aload_n 0, 1) := by decide +kernel
theorem dX6_mix_223 : decode cX6_mix 223 = .ok (.getfield 19, 3) := by decide +kernel
theorem dX6_mix_226 : decode cX6_mix 226 = .ok (.iconst 0, 1) := by decide +kernel
theorem dX6_mix_227 : decode cX6_mix 227 = .ok (.dup2, 1) := by decide +kernel
theorem dX6_mix_228 : decode cX6_mix 228 = .ok (.iaload, 1) := by decide +kernel
theorem dX6_mix_229 : decode cX6_mix 229 = .ok (.iload_n 1, 1) := by decide +kernel
theorem dX6_mix_230 : decode cX6_mix 230 = .ok (.iadd, 1) := by decide +kernel
theorem dX6_mix_231 : decode cX6_mix 231 = .ok (.iastore, 1) := by decide +kernel
theorem dX6_mix_232 : decode cX6_mix 232 = .ok (.aload_n 0, 1) := by decide +kernel
theorem dX6_mix_233 : decode cX6_mix 233 = .ok (.getfield 19, 3) := by decide +kernel
theorem dX6_mix_236 : decode cX6_mix 236 = .ok (.iconst 1, 1) := by decide +kernel
theorem dX6_mix_237 : decode cX6_mix 237 = .ok (.dup2, 1) := by decide +kernel
theorem dX6_mix_238 : decode cX6_mix 238 = .ok (.iaload, 1) := by decide +kernel
theorem dX6_mix_239 : decode cX6_mix 239 = .ok (.iload_n 2, 1) := by decide +kernel
theorem dX6_mix_240 : decode cX6_mix 240 = .ok (.iadd, 1) := by decide +kernel
theorem dX6_mix_241 : decode cX6_mix 241 = .ok (.iastore, 1) := by decide +kernel
theorem dX6_mix_242 : decode cX6_mix 242 = .ok (.aload_n 0, 1) := by decide +kernel
theorem dX6_mix_243 : decode cX6_mix 243 = .ok (.getfield 19, 3) := by decide +kernel
theorem dX6_mix_246 : decode cX6_mix 246 = .ok (.iconst 2, 1) := by decide +kernel
theorem dX6_mix_247 : decode cX6_mix 247 = .ok (.dup2, 1) := by decide +kernel
theorem dX6_mix_248 : decode cX6_mix 248 = .ok (.iaload, 1) := by decide +kernel
theorem dX6_mix_249 : decode cX6_mix 249 = .ok (.iload_n 3, 1) := by decide +kernel
theorem dX6_mix_250 : decode cX6_mix 250 = .ok (.iadd, 1) := by decide +kernel
theorem dX6_mix_251 : decode cX6_mix 251 = .ok (.iastore, 1) := by decide +kernel
theorem dX6_mix_252 : decode cX6_mix 252 = .ok (.aload_n 0, 1) := by decide +kernel
theorem dX6_mix_253 : decode cX6_mix 253 = .ok (.getfield 19, 3) := by decide +kernel
theorem dX6_mix_256 : decode cX6_mix 256 = .ok (.iconst 3, 1) := by decide +kernel
theorem dX6_mix_257 : decode cX6_mix 257 = .ok (.dup2, 1) := by decide +kernel
theorem dX6_mix_258 : decode cX6_mix 258 = .ok (.iaload, 1) := by decide +kernel
theorem dX6_mix_259 : decode cX6_mix 259 = .ok (.iload 4, 2) := by decide +kernel
theorem dX6_mix_261 : decode cX6_mix 261 = .ok (.iadd, 1) := by decide +kernel
theorem dX6_mix_262 : decode cX6_mix 262 = .ok (.iastore, 1) := by decide +kernel
theorem dX6_mix_263 : decode cX6_mix 263 = .ok (.aload_n 0, 1) := by decide +kernel
theorem dX6_mix_264 : decode cX6_mix 264 = .ok (.getfield 19, 3) := by decide +kernel
theorem dX6_mix_267 : decode cX6_mix 267 = .ok (.iconst 4, 1) := by decide +kernel
theorem dX6_mix_268 : decode cX6_mix 268 = .ok (.dup2, 1) := by decide +kernel
theorem dX6_mix_269 : decode cX6_mix 269 = .ok (.iaload, 1) := by decide +kernel
theorem dX6_mix_270 : decode cX6_mix 270 = .ok (.iload 5, 2) := by decide +kernel
theorem dX6_mix_272 : decode cX6_mix 272 = .ok (.iadd, 1) := by decide +kernel
theorem dX6_mix_273 : decode cX6_mix 273 = .ok (.iastore, 1) := by decide +kernel
theorem dX6_mix_274 : decode cX6_mix 274 = .ok (.aload_n 0, 1) := by decide +kernel
theorem dX6_mix_275 : decode cX6_mix 275 = .ok (.getfield 19, 3) := by decide +kernel
theorem dX6_mix_278 : decode cX6_mix 278 = .ok (.iconst 5, 1) := by decide +kernel
theorem dX6_mix_279 : decode cX6_mix 279 = .ok (.dup2, 1) := by decide +kernel
theorem dX6_mix_280 : decode cX6_mix 280 = .ok (.iaload, 1) := by decide +kernel
theorem dX6_mix_281 : decode cX6_mix 281 = .ok (.iload 6, 2) := by decide +kernel
theorem dX6_mix_283 : decode cX6_mix 283 = .ok (.iadd, 1) := by decide +kernel
theorem dX6_mix_284 : decode cX6_mix 284 = .ok (.iastore, 1) := by decide +kernel
theorem dX6_mix_285 : decode cX6_mix 285 = .ok (.aload_n 0, 1) := by decide +kernel
theorem dX6_mix_286 : decode cX6_mix 286 = .ok (.getfield 19, 3) := by decide +kernel
theorem dX6_mix_289 : decode cX6_mix 289 = .ok (.bipush 6, 2) := by decide +kernel
theorem dX6_mix_291 : decode cX6_mix 291 = .ok (.dup2, 1) := by decide +kernel
theorem dX6_mix_292 : decode cX6_mix 292 = .ok (.iaload, 1) := by decide +kernel
theorem dX6_mix_293 : decode cX6_mix 293 = .ok (.iload 7, 2) := by decide +kernel
theorem dX6_mix_295 : decode cX6_mix 295 = .ok (.iadd, 1) := by decide +kernel
theorem dX6_mix_296 : decode cX6_mix 296 = .ok (.iastore, 1) := by decide +kernel
theorem dX6_mix_297 : decode cX6_mix 297 = .ok (.aload_n 0, 1) := by decide +kernel
theorem dX6_mix_298 : decode cX6_mix 298 = .ok (.getfield 19, 3) := by decide +kernel
theorem dX6_mix_301 : decode cX6_mix 301 = .ok (.bipush 7, 2) := by decide +kernel
theorem dX6_mix_303 : decode cX6_mix 303 = .ok (.dup2, 1) := by decide +kernel
theorem dX6_mix_304 : decode cX6_mix 304 = .ok (.iaload, 1) := by decide +kernel
theorem dX6_mix_305 : decode cX6_mix 305 = .ok (.iload 8, 2) := by decide +kernel
theorem dX6_mix_307 : decode cX6_mix 307 = .ok (.iadd, 1) := by decide +kernel
theorem dX6_mix_308 : decode cX6_mix 308 = .ok (.iastore, 1) := by decide +kernel
theorem dX6_mix_309 : decode cX6_mix 309 = .ok (.return_, 1) := by decide +kernel
theorem dX7_init_0 : decode cX7_init 0 = .ok (.aload_n 0, 1) := by decide +kernel
theorem dX7_init_1 : decode cX7_init 1 = .ok (.invokespecial 3, 3) := by decide +kernel
theorem dX7_init_4 : decode cX7_init 4 = .ok (.aload_n 0, 1) := by decide +kernel
theorem dX7_init_5 : decode cX7_init 5 = .ok (.bipush 9, 2) := by decide +kernel
theorem dX7_init_7 : decode cX7_init 7 = .ok (.bipush 8, 2) := by decide +kernel
theorem dX7_init_9 : decode cX7_init 9 = .ok (.multianewarray 9 2, 4) := by decide +kernel
theorem dX7_init_13 : decode cX7_init 13 = .ok (.putfield 11, 3) := by decide +kernel
theorem dX7_init_16 : decode cX7_init 16 = .ok (.aload_n 0, 1) := by decide +kernel
theorem dX7_init_17 : decode cX7_init 17 = .ok (.bipush 8, 2) := by decide +kernel
theorem dX7_init_19 : decode cX7_init 19 = .ok (.newarray .boolean, 2) := by decide +kernel
theorem dX7_init_21 : decode cX7_init 21 = .ok (.putfield 16, 3) := by decide +kernel
theorem dX7_init_24 : decode cX7_init 24 = .ok (.aload_n 0, 1) := by decide +kernel
theorem dX7_init_25 : decode cX7_init 25 = .ok (.bipush 8, 2) := by decide +kernel
theorem dX7_init_27 : decode cX7_init 27 = .ok (.newarray .int, 2) := by decide +kernel
theorem dX7_init_29 : decode cX7_init 29 = .ok (.putfield 20, 3) := by decide +kernel
theorem dX7_init_32 : decode cX7_init 32 = .ok (.aload_n 0, 1) := by decide +kernel
theorem dX7_init_33 : decode cX7_init 33 = .ok (.bipush 8, 2) := by decide +kernel
theorem dX7_init_35 : decode cX7_init 35 = .ok (.newarray .int, 2) := by decide +kernel
theorem dX7_init_37 : decode cX7_init 37 = .ok (.putfield 24, 3) := by decide +kernel
theorem dX7_init_40 : decode cX7_init 40 = .ok (.aload_n 0, 1) := by decide +kernel
theorem dX7_init_41 : decode cX7_init 41 = .ok (.new 27, 3) := by decide +kernel
theorem dX7_init_44 : decode cX7_init 44 = .ok (.dup, 1) := by decide +kernel
theorem dX7_init_45 : decode cX7_init 45 = .ok (.invokespecial 29, 3) := by decide +kernel
theorem dX7_init_48 : decode cX7_init 48 = .ok (.putfield 30, 3) := by decide +kernel
theorem dX7_init_51 : decode cX7_init 51 = .ok (.aload_n 0, 1) := by decide +kernel
theorem dX7_init_52 : decode cX7_init 52 = .ok (.bipush 8, 2) := by decide +kernel
theorem dX7_init_54 : decode cX7_init 54 = .ok (.newarray .int, 2) := by decide +kernel
theorem dX7_init_56 : decode cX7_init 56 = .ok (.putfield 34, 3) := by decide +kernel
theorem dX7_init_59 : decode cX7_init 59 = .ok (.aload_n 0, 1) := by decide +kernel
theorem dX7_init_60 : decode cX7_init 60 = .ok (.bipush 8, 2) := by decide +kernel
theorem dX7_init_62 : decode cX7_init 62 = .ok (.newarray .int, 2) := by decide +kernel
theorem dX7_init_64 : decode cX7_init 64 = .ok (.putfield 37, 3) := by decide +kernel
theorem dX7_init_67 : decode cX7_init 67 = .ok (.return_, 1) := by decide +kernel
theorem dX7_make_0 : decode cX7_make 0 = .ok (.aload_n 0, 1) := by decide +kernel
theorem dX7_make_1 : decode cX7_make 1 = .ok (.iconst 1, 1) := by decide +kernel
theorem dX7_make_2 : decode cX7_make 2 = .ok (.putfield 40, 3) := by decide +kernel
theorem dX7_make_5 : decode cX7_make 5 = .ok (.aload_n 0, 1) := by decide +kernel
theorem dX7_make_6 : decode cX7_make 6 = .ok (.iload_n 2, 1) := by decide +kernel
theorem dX7_make_7 : decode cX7_make 7 = .ok (.putfield 44, 3) := by decide +kernel
theorem dX7_make_10 : decode cX7_make 10 = .ok (.aload_n 0, 1) := by decide +kernel
theorem dX7_make_11 : decode cX7_make 11 = .ok (.iload_n 3, 1) := by decide +kernel
theorem dX7_make_12 : decode cX7_make 12 = .ok (.putfield 47, 3) := by decide +kernel
theorem dX7_make_15 : decode cX7_make 15 = .ok (.aload_n 0, 1) := by decide +kernel
theorem dX7_make_16 : decode cX7_make 16 = .ok (.iload 4, 2) := by decide +kernel
theorem dX7_make_18 : decode cX7_make 18 = .ok (.putfield 51, 3) := by decide +kernel
theorem dX7_make_21 : decode cX7_make 21 = .ok (.aload_n 0, 1) := by decide +kernel
theorem dX7_make_22 : decode cX7_make 22 = .ok (.iconst 0, 1) := by decide +kernel
theorem dX7_make_23 : decode cX7_make 23 = .ok (.putfield 54, 3) := by decide +kernel
theorem dX7_make_26 : decode cX7_make 26 = .ok (.aload_n 0, 1) := by decide +kernel
theorem dX7_make_27 : decode cX7_make 27 = .ok (.iload_n 2, 1) := by decide +kernel
theorem dX7_make_28 : decode cX7_make 28 = .ok (.ifCond .eq 9, 3) := by decide +kernel
theorem dX7_make_31 : decode cX7_make 31 = .ok (.iload_n 3, 1) := by decide +kernel
theorem dX7_make_32 : decode cX7_make 32 = .ok (.iconst 1, 1) := by decide +kernel
theorem dX7_make_33 : decode cX7_make 33 = .ok (.isub, 1) := by decide +kernel
theorem dX7_make_34 : decode cX7_make 34 = .ok (.goto 4, 3) := by decide +kernel
theorem dX7_make_37 : decode cX7_make 37 = .ok (.iload_n 3, 1) := by decide +kernel
theorem dX7_make_38 : decode cX7_make 38 = .ok (.invokevirtual 57, 3) := by decide +kernel
theorem dX7_make_41 : decode cX7_make 41 = .ok (.aload_n 0, 1) := by decide +kernel
theorem dX7_make_42 : decode cX7_make 42 = .ok (.invokevirtual 61, 3) := by decide +kernel
theorem dX7_make_45 : decode cX7_make 45 = .ok (.ifCond .eq 26, 3) := by decide +kernel
theorem dX7_make_48 : decode cX7_make 48 = .ok (.aload_n 1, 1) := by decide +kernel
theorem dX7_make_49 : decode cX7_make 49 = .ok (.aload_n 0, 1) := by decide +kernel
theorem dX7_make_50 : decode cX7_make 50 = .ok (.getfield 65, 3) := by decide +kernel
theorem dX7_make_53 : decode cX7_make 53 = .ok (.aload_n 0, 1) := by decide +kernel
theorem dX7_make_54 : decode cX7_make 54 = .ok (.getfield 68, 3) := by decide +kernel
theorem dX7_make_57 : decode cX7_make 57 = .ok (.aload_n 0, 1) := by decide +kernel
theorem dX7_make_58 : decode cX7_make 58 = .ok (.getfield 11, 3) := by decide +kernel
theorem dX7_make_61 : decode cX7_make 61 = .ok (.iconst 0, 1) := by decide +kernel
theorem dX7_make_62 : decode cX7_make 62 = .ok (.aaload, 1) := by decide +kernel
theorem dX7_make_63 : decode cX7_make 63 = .ok (.invokevirtual 71, 3) := by decide +kernel
theorem dX7_make_66 : decode cX7_make 66 = .ok (.aload_n 0, 1) := by decide +kernel
theorem dX7_make_67 : decode cX7_make 67 = .ok (.iconst 1, 1) := by decide +kernel
theorem dX7_make_68 : decode cX7_make 68 = .ok (.putfield 54, 3) := by decide +kernel
theorem dX7_make_71 : decode cX7_make 71 = .ok (.aload_n 0, 1) := by decide +kernel
theorem dX7_make_72 : decode cX7_make 72 = .ok (.getfield 77, 3) := by decide +kernel
theorem dX7_make_75 : decode cX7_make 75 = .ok (.iconst 1, 1) := by decide +kernel
theorem dX7_make_76 : decode cX7_make 76 = .ok (.isub, 1) := by decide +kernel
theorem dX7_make_77 : decode cX7_make 77 = .ok (.istore 5, 2) := by decide +kernel
theorem dX7_make_79 : decode cX7_make 79 = .ok (.iload 5, 2) := by decide +kernel
theorem dX7_make_81 : decode cX7_make 81 = .ok (.ifCond .lt 46, 3) := by decide +kernel
theorem dX7_make_84 : decode cX7_make 84 = .ok (.aload_n 1, 1) := by decide +kernel
theorem dX7_make_85 : decode cX7_make 85 = .ok (.aload_n 0, 1) := by decide +kernel
theorem dX7_make_86 : decode cX7_make 86 = .ok (.getfield 20, 3) := by decide +kernel
theorem dX7_make_89 : decode cX7_make 89 = .ok (.iload 5, 2) := by decide +kernel
theorem dX7_make_91 : decode cX7_make 91 = .ok (.iaload, 1) := by decide +kernel
theorem dX7_make_92 : decode cX7_make 92 = .ok (.aload_n 0, 1) := by decide +kernel
theorem dX7_make_93 : decode cX7_make 93 = .ok (.getfield 24, 3) := by decide +kernel
theorem dX7_make_96 : decode cX7_make 96 = .ok (.iload 5, 2) := by decide +kernel
theorem dX7_make_98 : decode cX7_make 98 = .ok (.iaload, 1) := by decide +kernel
theorem dX7_make_99 : decode cX7_make 99 = .ok (.aload_n 0, 1) := by decide +kernel
theorem dX7_make_100 : decode cX7_make 100 = .ok (.getfield 11, 3) := by decide +kernel
theorem dX7_make_103 : decode cX7_make 103 = .ok (.aload_n 0, 1) := by decide +kernel
theorem dX7_make_104 : decode cX7_make 104 = .ok (.getfield 54, 3) := by decide +kernel
theorem dX7_make_107 : decode cX7_make 107 = .ok (.aaload, 1) := by decide +kernel
theorem dX7_make_108 : decode cX7_make 108 = .ok (.invokevirtual 71, 3) := by decide +kernel
theorem dX7_make_111 : decode cX7_make 111 = .ok (.aload_n 0, 1) := by decide +kernel
theorem dX7_make_112 : decode cX7_make 112 = .ok (.dup, 1) := by decide +kernel
theorem dX7_make_113 : decode cX7_make 113 = .ok (.getfield 54, 3) := by decide +kernel
theorem dX7_make_116 : decode cX7_make 116 = .ok (.iconst 1, 1) := by decide +kernel
theorem dX7_make_117 : decode cX7_make 117 = .ok (.iadd, 1) := by decide +kernel
theorem dX7_make_118 : decode cX7_make 118 = .ok (.putfield 54, 3) := by decide +kernel
theorem dX7_make_121 : decode cX7_make 121 = .ok (.iinc 5 (-1), 3) := by decide +kernel
theorem dX7_make_124 : decode cX7_make 124 = .ok (.goto (-45), 3) := by decide +kernel
theorem dX7_make_127 : decode cX7_make 127 = .ok (.return_, 1) := by decide +kernel
theorem dX7_reaches_0 : decode cX7_reaches 0 = .ok (.aload_n 0, 1) := by decide +kernel
theorem dX7_reaches_1 : decode cX7_reaches 1 = .ok (.aload_n 1, 1) := by decide +kernel
theorem dX7_reaches_2 : decode cX7_reaches 2 = .ok (.invokevirtual 80, 3) := by decide +kernel
theorem dX7_reaches_5 : decode cX7_reaches 5 = .ok (.aload_n 0, 1) := by decide +kernel
theorem dX7_reaches_6 : decode cX7_reaches 6 = .ok (.getfield 37, 3) := by decide +kernel
theorem dX7_reaches_9 : decode cX7_reaches 9 = .ok (.aload_n 2, 1) := by decide +kernel
theorem dX7_reaches_10 : decode cX7_reaches 10 = .ok (.getfield 84, 3) := by decide +kernel
theorem dX7_reaches_13 : decode cX7_reaches 13 = .ok (.invokestatic 89, 3) := by decide +kernel
theorem dX7_reaches_16 : decode cX7_reaches 16 = .ok (.ireturn, 1) := by decide +kernel
theorem dX7_joins_0 : decode cX7_joins 0 = .ok (.aload_n 0, 1) := by decide +kernel
theorem dX7_joins_1 : decode cX7_joins 1 = .ok (.aload_n 0, 1) := by decide +kernel
theorem dX7_joins_2 : decode cX7_joins 2 = .ok (.invokevirtual 61, 3) := by decide +kernel
theorem dX7_joins_5 : decode cX7_joins 5 = .ok (.ifCond .eq 12, 3) := by decide +kernel
theorem dX7_joins_8 : decode cX7_joins 8 = .ok (.aload_n 0, 1) := by decide +kernel
theorem dX7_joins_9 : decode cX7_joins 9 = .ok (.getfield 11, 3) := by decide +kernel
theorem dX7_joins_12 : decode cX7_joins 12 = .ok (.iconst 0, 1) := by decide +kernel
theorem dX7_joins_13 : decode cX7_joins 13 = .ok (.aaload, 1) := by decide +kernel
theorem dX7_joins_14 : decode cX7_joins 14 = .ok (.goto 7, 3) := by decide +kernel
theorem dX7_joins_17 : decode cX7_joins 17 = .ok (.aload_n 1, 1) := by decide +kernel
theorem dX7_joins_18 : decode cX7_joins 18 = .ok (.getfield 84, 3) := by decide +kernel
theorem dX7_joins_21 : decode cX7_joins 21 = .ok (.invokevirtual 80, 3) := by decide +kernel
theorem dX7_joins_24 : decode cX7_joins 24 = .ok (.aload_n 0, 1) := by decide +kernel
theorem dX7_joins_25 : decode cX7_joins 25 = .ok (.getfield 34, 3) := by decide +kernel
theorem dX7_joins_28 : decode cX7_joins 28 = .ok (.aload_n 1, 1) := by decide +kernel
theorem dX7_joins_29 : decode cX7_joins 29 = .ok (.getfield 84, 3) := by decide +kernel
theorem dX7_joins_32 : decode cX7_joins 32 = .ok (.invokestatic 89, 3) := by decide +kernel
theorem dX7_joins_35 : decode cX7_joins 35 = .ok (.ifCond .eq 21, 3) := by decide +kernel
theorem dX7_joins_38 : decode cX7_joins 38 = .ok (.aload_n 0, 1) := by decide +kernel
theorem dX7_joins_39 : decode cX7_joins 39 = .ok (.getfield 37, 3) := by decide +kernel
theorem dX7_joins_42 : decode cX7_joins 42 = .ok (.aload_n 2, 1) := by decide +kernel
theorem dX7_joins_43 : decode cX7_joins 43 = .ok (.getfield 84, 3) := by decide +kernel
theorem dX7_joins_46 : decode cX7_joins 46 = .ok (.invokestatic 89, 3) := by decide +kernel
theorem dX7_joins_49 : decode cX7_joins 49 = .ok (.ifCond .eq 7, 3) := by decide +kernel
theorem dX7_joins_52 : decode cX7_joins 52 = .ok (.iconst 1, 1) := by decide +kernel
theorem dX7_joins_53 : decode cX7_joins 53 = .ok (.goto 4, 3) := by decide +kernel
theorem dX7_joins_56 : decode cX7_joins 56 = .ok (.iconst 0, 1) := by decide +kernel
theorem dX7_joins_57 : decode cX7_joins 57 = .ok (.ireturn, 1) := by decide +kernel
theorem dX7_hasOwnBeginning_0 : decode cX7_hasOwnBeginning 0 = .ok (.aload_n 0, 1) := by decide +kernel
theorem dX7_hasOwnBeginning_1 : decode cX7_hasOwnBeginning 1 = .ok (.getfield 44, 3) := by decide +kernel
theorem dX7_hasOwnBeginning_4 : decode cX7_hasOwnBeginning 4 = .ok (.ifCond .eq 14, 3) := by decide +kernel
theorem dX7_hasOwnBeginning_7 : decode cX7_hasOwnBeginning 7 = .ok (.aload_n 0, 1) := by decide +kernel
theorem dX7_hasOwnBeginning_8 : decode cX7_hasOwnBeginning 8 = .ok (.getfield 65, 3) := by decide +kernel
theorem dX7_hasOwnBeginning_11 : decode cX7_hasOwnBeginning 11 = .ok (.ifCond .le 7, 3) := by decide +kernel
theorem dX7_hasOwnBeginning_14 : decode cX7_hasOwnBeginning 14 = .ok (.iconst 1, 1) := by decide +kernel
theorem dX7_hasOwnBeginning_15 : decode cX7_hasOwnBeginning 15 = .ok (.goto 4, 3) := by decide +kernel
theorem dX7_hasOwnBeginning_18 : decode cX7_hasOwnBeginning 18 = .ok (.iconst 0, 1) := by decide +kernel
theorem dX7_hasOwnBeginning_19 : decode cX7_hasOwnBeginning 19 = .ok (.ireturn, 1) := by decide +kernel
theorem dX7_goDown_0 : decode cX7_goDown 0 = .ok (.aload_n 0, 1) := by decide +kernel
theorem dX7_goDown_1 : decode cX7_goDown 1 = .ok (.iconst 0, 1) := by decide +kernel
theorem dX7_goDown_2 : decode cX7_goDown 2 = .ok (.putfield 65, 3) := by decide +kernel
theorem dX7_goDown_5 : decode cX7_goDown 5 = .ok (.aload_n 0, 1) := by decide +kernel
theorem dX7_goDown_6 : decode cX7_goDown 6 = .ok (.aload_n 0, 1) := by decide +kernel
theorem dX7_goDown_7 : decode cX7_goDown 7 = .ok (.getfield 51, 3) := by decide +kernel
theorem dX7_goDown_10 : decode cX7_goDown 10 = .ok (.putfield 68, 3) := by decide +kernel
theorem dX7_goDown_13 : decode cX7_goDown 13 = .ok (.aload_n 0, 1) := by decide +kernel
theorem dX7_goDown_14 : decode cX7_goDown 14 = .ok (.iconst 0, 1) := by decide +kernel
theorem dX7_goDown_15 : decode cX7_goDown 15 = .ok (.putfield 77, 3) := by decide +kernel
theorem dX7_goDown_18 : decode cX7_goDown 18 = .ok (.aload_n 0, 1) := by decide +kernel
theorem dX7_goDown_19 : decode cX7_goDown 19 = .ok (.getfield 77, 3) := by decide +kernel
theorem dX7_goDown_22 : decode cX7_goDown 22 = .ok (.bipush 8, 2) := by decide +kernel
theorem dX7_goDown_24 : decode cX7_goDown 24 = .ok (.if_icmp .ge 146, 3) := by decide +kernel
theorem dX7_goDown_27 : decode cX7_goDown 27 = .ok (.aload_n 0, 1) := by decide +kernel
theorem dX7_goDown_28 : decode cX7_goDown 28 = .ok (.iload_n 1, 1) := by decide +kernel
theorem dX7_goDown_29 : decode cX7_goDown 29 = .ok (.invokevirtual 93, 3) := by decide +kernel
theorem dX7_goDown_32 : decode cX7_goDown 32 = .ok (.ifCond .ne 138, 3) := by decide +kernel
theorem dX7_goDown_35 : decode cX7_goDown 35 = .ok (.aload_n 0, 1) := by decide +kernel
theorem dX7_goDown_36 : decode cX7_goDown 36 = .ok (.getfield 68, 3) := by decide +kernel
theorem dX7_goDown_39 : decode cX7_goDown 39 = .ok (.invokestatic 97, 3) := by decide +kernel
theorem dX7_goDown_42 : decode cX7_goDown 42 = .ok (.istore_n 2, 1) := by decide +kernel
theorem dX7_goDown_43 : decode cX7_goDown 43 = .ok (.iload_n 1, 1) := by decide +kernel
theorem dX7_goDown_44 : decode cX7_goDown 44 = .ok (.aload_n 0, 1) := by decide +kernel
theorem dX7_goDown_45 : decode cX7_goDown 45 = .ok (.getfield 65, 3) := by decide +kernel
theorem dX7_goDown_48 : decode cX7_goDown 48 = .ok (.iload_n 2, 1) := by decide +kernel
theorem dX7_goDown_49 : decode cX7_goDown 49 = .ok (.iadd, 1) := by decide +kernel
theorem dX7_goDown_50 : decode cX7_goDown 50 = .ok (.if_icmp .lt 7, 3) := by decide +kernel
theorem dX7_goDown_53 : decode cX7_goDown 53 = .ok (.iconst 1, 1) := by decide +kernel
theorem dX7_goDown_54 : decode cX7_goDown 54 = .ok (.goto 4, 3) := by decide +kernel
theorem dX7_goDown_57 : decode cX7_goDown 57 = .ok (.iconst 0, 1) := by decide +kernel
theorem dX7_goDown_58 : decode cX7_goDown 58 = .ok (.istore_n 3, 1) := by decide +kernel
theorem dX7_goDown_59 : decode cX7_goDown 59 = .ok (.aload_n 0, 1) := by decide +kernel
theorem dX7_goDown_60 : decode cX7_goDown 60 = .ok (.getfield 16, 3) := by decide +kernel
theorem dX7_goDown_63 : decode cX7_goDown 63 = .ok (.aload_n 0, 1) := by decide +kernel
theorem dX7_goDown_64 : decode cX7_goDown 64 = .ok (.getfield 77, 3) := by decide +kernel
theorem dX7_goDown_67 : decode cX7_goDown 67 = .ok (.iload_n 3, 1) := by decide +kernel
theorem dX7_goDown_68 : decode cX7_goDown 68 = .ok (.bastore, 1) := by decide +kernel
theorem dX7_goDown_69 : decode cX7_goDown 69 = .ok (.aload_n 0, 1) := by decide +kernel
theorem dX7_goDown_70 : decode cX7_goDown 70 = .ok (.getfield 20, 3) := by decide +kernel
theorem dX7_goDown_73 : decode cX7_goDown 73 = .ok (.aload_n 0, 1) := by decide +kernel
theorem dX7_goDown_74 : decode cX7_goDown 74 = .ok (.getfield 77, 3) := by decide +kernel
theorem dX7_goDown_77 : decode cX7_goDown 77 = .ok (.iload_n 3, 1) := by decide +kernel
theorem dX7_goDown_78 : decode cX7_goDown 78 = .ok (.ifCond .eq 10, 3) := by decide +kernel
theorem dX7_goDown_81 : decode cX7_goDown 81 = .ok (.aload_n 0, 1) := by decide +kernel
theorem dX7_goDown_82 : decode cX7_goDown 82 = .ok (.getfield 65, 3) := by decide +kernel
theorem dX7_goDown_85 : decode cX7_goDown 85 = .ok (.goto 9, 3) := by decide +kernel
theorem dX7_goDown_88 : decode cX7_goDown 88 = .ok (.aload_n 0, 1) := by decide +kernel
theorem dX7_goDown_89 : decode cX7_goDown 89 = .ok (.getfield 65, 3) := by decide +kernel
theorem dX7_goDown_92 : decode cX7_goDown 92 = .ok (.iload_n 2, 1) := by decide +kernel
theorem dX7_goDown_93 : decode cX7_goDown 93 = .ok (.iadd, 1) := by decide +kernel
theorem dX7_goDown_94 : decode cX7_goDown 94 = .ok (.iastore, 1) := by decide +kernel
theorem dX7_goDown_95 : decode cX7_goDown 95 = .ok (.aload_n 0, 1) := by decide +kernel
theorem dX7_goDown_96 : decode cX7_goDown 96 = .ok (.getfield 24, 3) := by decide +kernel
theorem dX7_goDown_99 : decode cX7_goDown 99 = .ok (.aload_n 0, 1) := by decide +kernel
theorem dX7_goDown_100 : decode cX7_goDown 100 = .ok (.getfield 77, 3) := by decide +kernel
theorem dX7_goDown_103 : decode cX7_goDown 103 = .ok (.iload_n 3, 1) := by decide +kernel
theorem dX7_goDown_104 : decode cX7_goDown 104 = .ok (.ifCond .eq 7, 3) := by decide +kernel
theorem dX7_goDown_107 : decode cX7_goDown 107 = .ok (.iload_n 2, 1) := by decide +kernel
theorem dX7_goDown_108 : decode cX7_goDown 108 = .ok (.goto 9, 3) := by decide +kernel
theorem dX7_goDown_111 : decode cX7_goDown 111 = .ok (.aload_n 0, 1) := by decide +kernel
theorem dX7_goDown_112 : decode cX7_goDown 112 = .ok (.getfield 68, 3) := by decide +kernel
theorem dX7_goDown_115 : decode cX7_goDown 115 = .ok (.iload_n 2, 1) := by decide +kernel
theorem dX7_goDown_116 : decode cX7_goDown 116 = .ok (.isub, 1) := by decide +kernel
theorem dX7_goDown_117 : decode cX7_goDown 117 = .ok (.iastore, 1) := by decide +kernel
theorem dX7_goDown_118 : decode cX7_goDown 118 = .ok (.aload_n 0, 1) := by decide +kernel
theorem dX7_goDown_119 : decode cX7_goDown 119 = .ok (.iload_n 3, 1) := by decide +kernel
theorem dX7_goDown_120 : decode cX7_goDown 120 = .ok (.ifCond .eq 12, 3) := by decide +kernel
theorem dX7_goDown_123 : decode cX7_goDown 123 = .ok (.aload_n 0, 1) := by decide +kernel
theorem dX7_goDown_124 : decode cX7_goDown 124 = .ok (.getfield 65, 3) := by decide +kernel
theorem dX7_goDown_127 : decode cX7_goDown 127 = .ok (.iload_n 2, 1) := by decide +kernel
theorem dX7_goDown_128 : decode cX7_goDown 128 = .ok (.iadd, 1) := by decide +kernel
theorem dX7_goDown_129 : decode cX7_goDown 129 = .ok (.goto 7, 3) := by decide +kernel
theorem dX7_goDown_132 : decode cX7_goDown 132 = .ok (.aload_n 0, 1) := by decide +kernel
theorem dX7_goDown_133 : decode cX7_goDown 133 = .ok (.getfield 65, 3) := by decide +kernel
theorem dX7_goDown_136 : decode cX7_goDown 136 = .ok (.putfield 65, 3) := by decide +kernel
theorem dX7_goDown_139 : decode cX7_goDown 139 = .ok (.aload_n 0, 1) := by decide +kernel
theorem dX7_goDown_140 : decode cX7_goDown 140 = .ok (.iload_n 3, 1) := by decide +kernel
theorem dX7_goDown_141 : decode cX7_goDown 141 = .ok (.ifCond .eq 12, 3) := by decide +kernel
theorem dX7_goDown_144 : decode cX7_goDown 144 = .ok (.aload_n 0, 1) := by decide +kernel
theorem dX7_goDown_145 : decode cX7_goDown 145 = .ok (.getfield 68, 3) := by decide +kernel
theorem dX7_goDown_148 : decode cX7_goDown 148 = .ok (.iload_n 2, 1) := by decide +kernel
theorem dX7_goDown_149 : decode cX7_goDown 149 = .ok (.isub, 1) := by decide +kernel
theorem dX7_goDown_150 : decode cX7_goDown 150 = .ok (.goto 4, 3) := by decide +kernel
theorem dX7_goDown_153 : decode cX7_goDown 153 = .ok (.iload_n 2, 1) := by decide +kernel
theorem dX7_goDown_154 : decode cX7_goDown 154 = .ok (.putfield 68, 3) := by decide +kernel
theorem dX7_goDown_157 : decode cX7_goDown 157 = .ok (.aload_n 0, 1) := by decide +kernel
theorem dX7_goDown_158 : decode cX7_goDown 158 = .ok (.dup, 1) := by decide +kernel
theorem dX7_goDown_159 : decode cX7_goDown 159 = .ok (.getfield 77, 3) := by decide +kernel
theorem dX7_goDown_162 : decode cX7_goDown 162 = .ok (.iconst 1, 1) := by decide +kernel
theorem dX7_goDown_163 : decode cX7_goDown 163 = .ok (.iadd, 1) := by decide +kernel
theorem dX7_goDown_164 : decode cX7_goDown 164 = .ok (.putfield 77, 3) := by decide +kernel
theorem dX7_goDown_167 : decode cX7_goDown 167 = .ok (.goto (-149), 3) := by decide +kernel
theorem dX7_goDown_170 : decode cX7_goDown 170 = .ok (.return_, 1) := by decide +kernel
theorem dX7_isEnd_0 : decode cX7_isEnd 0 = .ok (.aload_n 0, 1) := by decide +kernel
theorem dX7_isEnd_1 : decode cX7_isEnd 1 = .ok (.getfield 68, 3) := by decide +kernel
theorem dX7_isEnd_4 : decode cX7_isEnd 4 = .ok (.iconst 1, 1) := by decide +kernel
theorem dX7_isEnd_5 : decode cX7_isEnd 5 = .ok (.if_icmp .eq 25, 3) := by decide +kernel
theorem dX7_isEnd_8 : decode cX7_isEnd 8 = .ok (.aload_n 0, 1) := by decide +kernel
theorem dX7_isEnd_9 : decode cX7_isEnd 9 = .ok (.getfield 44, 3) := by decide +kernel
theorem dX7_isEnd_12 : decode cX7_isEnd 12 = .ok (.ifCond .eq 22, 3) := by decide +kernel
theorem dX7_isEnd_15 : decode cX7_isEnd 15 = .ok (.iload_n 1, 1) := by decide +kernel
theorem dX7_isEnd_16 : decode cX7_isEnd 16 = .ok (.aload_n 0, 1) := by decide +kernel
theorem dX7_isEnd_17 : decode cX7_isEnd 17 = .ok (.getfield 65, 3) := by decide +kernel
theorem dX7_isEnd_20 : decode cX7_isEnd 20 = .ok (.aload_n 0, 1) := by decide +kernel
theorem dX7_isEnd_21 : decode cX7_isEnd 21 = .ok (.getfield 68, 3) := by decide +kernel
theorem dX7_isEnd_24 : decode cX7_isEnd 24 = .ok (.iadd, 1) := by decide +kernel
theorem dX7_isEnd_25 : decode cX7_isEnd 25 = .ok (.iconst 1, 1) := by decide +kernel
theorem dX7_isEnd_26 : decode cX7_isEnd 26 = .ok (.isub, 1) := by decide +kernel
theorem dX7_isEnd_27 : decode cX7_isEnd 27 = .ok (.if_icmp .ne 7, 3) := by decide +kernel
theorem dX7_isEnd_30 : decode cX7_isEnd 30 = .ok (.iconst 1, 1) := by decide +kernel
theorem dX7_isEnd_31 : decode cX7_isEnd 31 = .ok (.goto 4, 3) := by decide +kernel
theorem dX7_isEnd_34 : decode cX7_isEnd 34 = .ok (.iconst 0, 1) := by decide +kernel
theorem dX7_isEnd_35 : decode cX7_isEnd 35 = .ok (.ireturn, 1) := by decide +kernel
theorem dX7_powerBelow_0 : decode cX7_powerBelow 0 = .ok (.iconst 1, 1) := by decide +kernel
theorem dX7_powerBelow_1 : decode cX7_powerBelow 1 = .ok (.istore_n 1, 1) := by decide +kernel
theorem dX7_powerBelow_2 : decode cX7_powerBelow 2 = .ok (.iconst 0, 1) := by decide +kernel
theorem dX7_powerBelow_3 : decode cX7_powerBelow 3 = .ok (.istore_n 2, 1) := by decide +kernel
theorem dX7_powerBelow_4 : decode cX7_powerBelow 4 = .ok (.iload_n 2, 1) := by decide +kernel
theorem dX7_powerBelow_5 : decode cX7_powerBelow 5 = .ok (.bipush 8, 2) := by decide +kernel
theorem dX7_powerBelow_7 : decode cX7_powerBelow 7 = .ok (.if_icmp .ge 20, 3) := by decide +kernel
theorem dX7_powerBelow_10 : decode cX7_powerBelow 10 = .ok (.iconst 2, 1) := by decide +kernel
theorem dX7_powerBelow_11 : decode cX7_powerBelow 11 = .ok (.iload_n 1, 1) := by decide +kernel
theorem dX7_powerBelow_12 : decode cX7_powerBelow 12 = .ok (.imul, 1) := by decide +kernel
theorem dX7_powerBelow_13 : decode cX7_powerBelow 13 = .ok (.iload_n 0, 1) := by decide +kernel
theorem dX7_powerBelow_14 : decode cX7_powerBelow 14 = .ok (.if_icmp .ge 13, 3) := by decide +kernel
theorem dX7_powerBelow_17 : decode cX7_powerBelow 17 = .ok (.iload_n 1, 1) := by decide +kernel
theorem dX7_powerBelow_18 : decode cX7_powerBelow 18 = .ok (.iconst 2, 1) := by decide +kernel
theorem dX7_powerBelow_19 : decode cX7_powerBelow 19 = .ok (.imul, 1) := by decide +kernel
theorem dX7_powerBelow_20 : decode cX7_powerBelow 20 = .ok (.istore_n 1, 1) := by decide +kernel
theorem dX7_powerBelow_21 : decode cX7_powerBelow 21 = .ok (.iinc 2 1, 3) := by decide +kernel
theorem dX7_powerBelow_24 : decode cX7_powerBelow 24 = .ok (.goto (-20), 3) := by decide +kernel
theorem dX7_powerBelow_27 : decode cX7_powerBelow 27 = .ok (.iload_n 1, 1) := by decide +kernel
theorem dX7_powerBelow_28 : decode cX7_powerBelow 28 = .ok (.ireturn, 1) := by decide +kernel
theorem dX7_goUp_0 : decode cX7_goUp 0 = .ok (.aload_n 1, 1) := by decide +kernel
theorem dX7_goUp_1 : decode cX7_goUp 1 = .ok (.aload_n 0, 1) := by decide +kernel
theorem dX7_goUp_2 : decode cX7_goUp 2 = .ok (.getfield 34, 3) := by decide +kernel
theorem dX7_goUp_5 : decode cX7_goUp 5 = .ok (.invokestatic 101, 3) := by decide +kernel
theorem dX7_goUp_8 : decode cX7_goUp 8 = .ok (.aload_n 1, 1) := by decide +kernel
theorem dX7_goUp_9 : decode cX7_goUp 9 = .ok (.aload_n 0, 1) := by decide +kernel
theorem dX7_goUp_10 : decode cX7_goUp 10 = .ok (.getfield 37, 3) := by decide +kernel
theorem dX7_goUp_13 : decode cX7_goUp 13 = .ok (.invokestatic 101, 3) := by decide +kernel
theorem dX7_goUp_16 : decode cX7_goUp 16 = .ok (.aload_n 0, 1) := by decide +kernel
theorem dX7_goUp_17 : decode cX7_goUp 17 = .ok (.getfield 54, 3) := by decide +kernel
theorem dX7_goUp_20 : decode cX7_goUp 20 = .ok (.aload_n 0, 1) := by decide +kernel
theorem dX7_goUp_21 : decode cX7_goUp 21 = .ok (.getfield 77, 3) := by decide +kernel
theorem dX7_goUp_24 : decode cX7_goUp 24 = .ok (.isub, 1) := by decide +kernel
theorem dX7_goUp_25 : decode cX7_goUp 25 = .ok (.istore_n 2, 1) := by decide +kernel
theorem dX7_goUp_26 : decode cX7_goUp 26 = .ok (.aload_n 0, 1) := by decide +kernel
theorem dX7_goUp_27 : decode cX7_goUp 27 = .ok (.getfield 77, 3) := by decide +kernel
theorem dX7_goUp_30 : decode cX7_goUp 30 = .ok (.iconst 1, 1) := by decide +kernel
theorem dX7_goUp_31 : decode cX7_goUp 31 = .ok (.isub, 1) := by decide +kernel
theorem dX7_goUp_32 : decode cX7_goUp 32 = .ok (.istore_n 3, 1) := by decide +kernel
theorem dX7_goUp_33 : decode cX7_goUp 33 = .ok (.iload_n 3, 1) := by decide +kernel
theorem dX7_goUp_34 : decode cX7_goUp 34 = .ok (.ifCond .lt 87, 3) := by decide +kernel
theorem dX7_goUp_37 : decode cX7_goUp 37 = .ok (.aload_n 0, 1) := by decide +kernel
theorem dX7_goUp_38 : decode cX7_goUp 38 = .ok (.getfield 16, 3) := by decide +kernel
theorem dX7_goUp_41 : decode cX7_goUp 41 = .ok (.iload_n 3, 1) := by decide +kernel
theorem dX7_goUp_42 : decode cX7_goUp 42 = .ok (.baload, 1) := by decide +kernel
theorem dX7_goUp_43 : decode cX7_goUp 43 = .ok (.ifCond .eq 48, 3) := by decide +kernel
theorem dX7_goUp_46 : decode cX7_goUp 46 = .ok (.aload_n 0, 1) := by decide +kernel
theorem dX7_goUp_47 : decode cX7_goUp 47 = .ok (.getfield 30, 3) := by decide +kernel
theorem dX7_goUp_50 : decode cX7_goUp 50 = .ok (.aload_n 0, 1) := by decide +kernel
theorem dX7_goUp_51 : decode cX7_goUp 51 = .ok (.getfield 11, 3) := by decide +kernel
theorem dX7_goUp_54 : decode cX7_goUp 54 = .ok (.iload_n 2, 1) := by decide +kernel
theorem dX7_goUp_55 : decode cX7_goUp 55 = .ok (.aaload, 1) := by decide +kernel
theorem dX7_goUp_56 : decode cX7_goUp 56 = .ok (.aload_n 0, 1) := by decide +kernel
theorem dX7_goUp_57 : decode cX7_goUp 57 = .ok (.getfield 34, 3) := by decide +kernel
theorem dX7_goUp_60 : decode cX7_goUp 60 = .ok (.aload_n 0, 1) := by decide +kernel
theorem dX7_goUp_61 : decode cX7_goUp 61 = .ok (.getfield 34, 3) := by decide +kernel
theorem dX7_goUp_64 : decode cX7_goUp 64 = .ok (.invokevirtual 105, 3) := by decide +kernel
theorem dX7_goUp_67 : decode cX7_goUp 67 = .ok (.aload_n 0, 1) := by decide +kernel
theorem dX7_goUp_68 : decode cX7_goUp 68 = .ok (.getfield 30, 3) := by decide +kernel
theorem dX7_goUp_71 : decode cX7_goUp 71 = .ok (.aload_n 0, 1) := by decide +kernel
theorem dX7_goUp_72 : decode cX7_goUp 72 = .ok (.getfield 11, 3) := by decide +kernel
theorem dX7_goUp_75 : decode cX7_goUp 75 = .ok (.iload_n 2, 1) := by decide +kernel
theorem dX7_goUp_76 : decode cX7_goUp 76 = .ok (.aaload, 1) := by decide +kernel
theorem dX7_goUp_77 : decode cX7_goUp 77 = .ok (.aload_n 0, 1) := by decide +kernel
theorem dX7_goUp_78 : decode cX7_goUp 78 = .ok (.getfield 37, 3) := by decide +kernel
theorem dX7_goUp_81 : decode cX7_goUp 81 = .ok (.aload_n 0, 1) := by decide +kernel
theorem dX7_goUp_82 : decode cX7_goUp 82 = .ok (.getfield 37, 3) := by decide +kernel
theorem dX7_goUp_85 : decode cX7_goUp 85 = .ok (.invokevirtual 105, 3) := by decide +kernel
theorem dX7_goUp_88 : decode cX7_goUp 88 = .ok (.goto 24, 3) := by decide +kernel
theorem dX7_goUp_91 : decode cX7_goUp 91 = .ok (.aload_n 0, 1) := by decide +kernel
theorem dX7_goUp_92 : decode cX7_goUp 92 = .ok (.getfield 30, 3) := by decide +kernel
theorem dX7_goUp_95 : decode cX7_goUp 95 = .ok (.aload_n 0, 1) := by decide +kernel
theorem dX7_goUp_96 : decode cX7_goUp 96 = .ok (.getfield 37, 3) := by decide +kernel
theorem dX7_goUp_99 : decode cX7_goUp 99 = .ok (.aload_n 0, 1) := by decide +kernel
theorem dX7_goUp_100 : decode cX7_goUp 100 = .ok (.getfield 11, 3) := by decide +kernel
theorem dX7_goUp_103 : decode cX7_goUp 103 = .ok (.iload_n 2, 1) := by decide +kernel
theorem dX7_goUp_104 : decode cX7_goUp 104 = .ok (.aaload, 1) := by decide +kernel
theorem dX7_goUp_105 : decode cX7_goUp 105 = .ok (.aload_n 0, 1) := by decide +kernel
theorem dX7_goUp_106 : decode cX7_goUp 106 = .ok (.getfield 37, 3) := by decide +kernel
theorem dX7_goUp_109 : decode cX7_goUp 109 = .ok (.invokevirtual 105, 3) := by decide +kernel
theorem dX7_goUp_112 : decode cX7_goUp 112 = .ok (.iinc 2 1, 3) := by decide +kernel
theorem dX7_goUp_115 : decode cX7_goUp 115 = .ok (.iinc 3 (-1), 3) := by decide +kernel
theorem dX7_goUp_118 : decode cX7_goUp 118 = .ok (.goto (-85), 3) := by decide +kernel
theorem dX7_goUp_121 : decode cX7_goUp 121 = .ok (.return_, 1) := by decide +kernel
theorem dX8_init_0 : decode cX8_init 0 = .ok (.aload_n 0, 1) := by decide +kernel
theorem dX8_init_1 : decode cX8_init 1 = .ok (.invokespecial 3, 3) := by decide +kernel
theorem dX8_init_4 : decode cX8_init 4 = .ok (.aload_n 0, 1) := by decide +kernel
theorem dX8_init_5 : decode cX8_init 5 = .ok (.new 9, 3) := by decide +kernel
theorem dX8_init_8 : decode cX8_init 8 = .ok (.dup, 1) := by decide +kernel
theorem dX8_init_9 : decode cX8_init 9 = .ok (.invokespecial 11, 3) := by decide +kernel
theorem dX8_init_12 : decode cX8_init 12 = .ok (.putfield 12, 3) := by decide +kernel
theorem dX8_init_15 : decode cX8_init 15 = .ok (.aload_n 0, 1) := by decide +kernel
theorem dX8_init_16 : decode cX8_init 16 = .ok (.new 16, 3) := by decide +kernel
theorem dX8_init_19 : decode cX8_init 19 = .ok (.dup, 1) := by decide +kernel
theorem dX8_init_20 : decode cX8_init 20 = .ok (.invokespecial 18, 3) := by decide +kernel
theorem dX8_init_23 : decode cX8_init 23 = .ok (.putfield 19, 3) := by decide +kernel
theorem dX8_init_26 : decode cX8_init 26 = .ok (.aload_n 0, 1) := by decide +kernel
theorem dX8_init_27 : decode cX8_init 27 = .ok (.sipush 201, 3) := by decide +kernel
theorem dX8_init_30 : decode cX8_init 30 = .ok (.newarray .int, 2) := by decide +kernel
theorem dX8_init_32 : decode cX8_init 32 = .ok (.putfield 23, 3) := by decide +kernel
theorem dX8_init_35 : decode cX8_init 35 = .ok (.iconst 0, 1) := by decide +kernel
theorem dX8_init_36 : decode cX8_init 36 = .ok (.istore_n 1, 1) := by decide +kernel
theorem dX8_init_37 : decode cX8_init 37 = .ok (.iload_n 1, 1) := by decide +kernel
theorem dX8_init_38 : decode cX8_init 38 = .ok (.sipush 200, 3) := by decide +kernel
theorem dX8_init_41 : decode cX8_init 41 = .ok (.if_icmp .gt 16, 3) := by decide +kernel
theorem dX8_init_44 : decode cX8_init 44 = .ok (.aload_n 0, 1) := by decide +kernel
theorem dX8_init_45 : decode cX8_init 45 = .ok (.getfield 23, 3) := by decide +kernel
theorem dX8_init_48 : decode cX8_init 48 = .ok (.iload_n 1, 1) := by decide +kernel
theorem dX8_init_49 : decode cX8_init 49 = .ok (.iconst (-1), 1) := by decide +kernel
theorem dX8_init_50 : decode cX8_init 50 = .ok (.iastore, 1) := by decide +kernel
theorem dX8_init_51 : decode cX8_init 51 = .ok (.iinc 1 1, 3) := by decide +kernel
theorem dX8_init_54 : decode cX8_init 54 = .ok (.goto (-17), 3) := by decide +kernel
theorem dX8_init_57 : decode cX8_init 57 = .ok (.aload_n 0, 1) := by decide +kernel
theorem dX8_init_58 : decode cX8_init 58 = .ok (.new 27, 3) := by decide +kernel
theorem dX8_init_61 : decode cX8_init 61 = .ok (.dup, 1) := by decide +kernel
theorem dX8_init_62 : decode cX8_init 62 = .ok (.invokespecial 29, 3) := by decide +kernel
theorem dX8_init_65 : decode cX8_init 65 = .ok (.putfield 30, 3) := by decide +kernel
theorem dX8_init_68 : decode cX8_init 68 = .ok (.aload_n 0, 1) := by decide +kernel
theorem dX8_init_69 : decode cX8_init 69 = .ok (.bipush 8, 2) := by decide +kernel
theorem dX8_init_71 : decode cX8_init 71 = .ok (.anewarray 34, 3) := by decide +kernel
theorem dX8_init_74 : decode cX8_init 74 = .ok (.putfield 36, 3) := by decide +kernel
theorem dX8_init_77 : decode cX8_init 77 = .ok (.iconst 0, 1) := by decide +kernel
theorem dX8_init_78 : decode cX8_init 78 = .ok (.istore_n 1, 1) := by decide +kernel
theorem dX8_init_79 : decode cX8_init 79 = .ok (.iload_n 1, 1) := by decide +kernel
theorem dX8_init_80 : decode cX8_init 80 = .ok (.bipush 8, 2) := by decide +kernel
theorem dX8_init_82 : decode cX8_init 82 = .ok (.if_icmp .ge 22, 3) := by decide +kernel
theorem dX8_init_85 : decode cX8_init 85 = .ok (.aload_n 0, 1) := by decide +kernel
theorem dX8_init_86 : decode cX8_init 86 = .ok (.getfield 36, 3) := by decide +kernel
theorem dX8_init_89 : decode cX8_init 89 = .ok (.iload_n 1, 1) := by decide +kernel
theorem dX8_init_90 : decode cX8_init 90 = .ok (.new 34, 3) := by decide +kernel
theorem dX8_init_93 : decode cX8_init 93 = .ok (.dup, 1) := by decide +kernel
theorem dX8_init_94 : decode cX8_init 94 = .ok (.invokespecial 40, 3) := by decide +kernel
theorem dX8_init_97 : decode cX8_init 97 = .ok (.aastore, 1) := by decide +kernel
theorem dX8_init_98 : decode cX8_init 98 = .ok (.iinc 1 1, 3) := by decide +kernel
theorem dX8_init_101 : decode cX8_init 101 = .ok (.goto (-22), 3) := by decide +kernel
theorem dX8_init_104 : decode cX8_init 104 = .ok (.aload_n 0, 1) := by decide +kernel
theorem dX8_init_105 : decode cX8_init 105 = .ok (.new 41, 3) := by decide +kernel
theorem dX8_init_108 : decode cX8_init 108 = .ok (.dup, 1) := by decide +kernel
theorem dX8_init_109 : decode cX8_init 109 = .ok (.invokespecial 43, 3) := by decide +kernel
theorem dX8_init_112 : decode cX8_init 112 = .ok (.putfield 44, 3) := by decide +kernel
theorem dX8_init_115 : decode cX8_init 115 = .ok (.aload_n 0, 1) := by decide +kernel
theorem dX8_init_116 : decode cX8_init 116 = .ok (.new 48, 3) := by decide +kernel
theorem dX8_init_119 : decode cX8_init 119 = .ok (.dup, 1) := by decide +kernel
theorem dX8_init_120 : decode cX8_init 120 = .ok (.invokespecial 50, 3) := by decide +kernel
theorem dX8_init_123 : decode cX8_init 123 = .ok (.putfield 51, 3) := by decide +kernel
theorem dX8_init_126 : decode cX8_init 126 = .ok (.aload_n 0, 1) := by decide +kernel
theorem dX8_init_127 : decode cX8_init 127 = .ok (.bipush 8, 2) := by decide +kernel
theorem dX8_init_129 : decode cX8_init 129 = .ok (.newarray .int, 2) := by decide +kernel
theorem dX8_init_131 : decode cX8_init 131 = .ok (.putfield 55, 3) := by decide +kernel
theorem dX8_init_134 : decode cX8_init 134 = .ok (.return_, 1) := by decide +kernel
theorem dX8_open_0 : decode cX8_open 0 = .ok (.aload_n 0, 1) := by decide +kernel
theorem dX8_open_1 : decode cX8_open 1 = .ok (.aload_n 0, 1) := by decide +kernel
theorem dX8_open_2 : decode cX8_open 2 = .ok (.getfield 12, 3) := by decide +kernel
theorem dX8_open_5 : decode cX8_open 5 = .ok (.lload_n 1, 1) := by decide +kernel
theorem dX8_open_6 : decode cX8_open 6 = .ok (.invokevirtual 58, 3) := by decide +kernel
theorem dX8_open_9 : decode cX8_open 9 = .ok (.invokevirtual 62, 3) := by decide +kernel
theorem dX8_open_12 : decode cX8_open 12 = .ok (.ireturn, 1) := by decide +kernel
theorem dX8_leg_0 : decode cX8_leg 0 = .ok (.aload_n 0, 1) := by decide +kernel
theorem dX8_leg_1 : decode cX8_leg 1 = .ok (.getfield 19, 3) := by decide +kernel
theorem dX8_leg_4 : decode cX8_leg 4 = .ok (.iload_n 1, 1) := by decide +kernel
theorem dX8_leg_5 : decode cX8_leg 5 = .ok (.lload_n 2, 1) := by decide +kernel
theorem dX8_leg_6 : decode cX8_leg 6 = .ok (.invokevirtual 66, 3) := by decide +kernel
theorem dX8_leg_9 : decode cX8_leg 9 = .ok (.ifCond .eq 13, 3) := by decide +kernel
theorem dX8_leg_12 : decode cX8_leg 12 = .ok (.aload_n 0, 1) := by decide +kernel
theorem dX8_leg_13 : decode cX8_leg 13 = .ok (.getfield 19, 3) := by decide +kernel
theorem dX8_leg_16 : decode cX8_leg 16 = .ok (.getfield 70, 3) := by decide +kernel
theorem dX8_leg_19 : decode cX8_leg 19 = .ok (.goto 4, 3) := by decide +kernel
theorem dX8_leg_22 : decode cX8_leg 22 = .ok (.iconst (-1), 1) := by decide +kernel
theorem dX8_leg_23 : decode cX8_leg 23 = .ok (.ireturn, 1) := by decide +kernel
theorem dX8_clear_0 : decode cX8_clear 0 = .ok (.aload_n 0, 1) := by decide +kernel
theorem dX8_clear_1 : decode cX8_clear 1 = .ok (.getfield 19, 3) := by decide +kernel
theorem dX8_clear_4 : decode cX8_clear 4 = .ok (.getfield 70, 3) := by decide +kernel
theorem dX8_clear_7 : decode cX8_clear 7 = .ok (.istore_n 1, 1) := by decide +kernel
theorem dX8_clear_8 : decode cX8_clear 8 = .ok (.aload_n 0, 1) := by decide +kernel
theorem dX8_clear_9 : decode cX8_clear 9 = .ok (.getfield 19, 3) := by decide +kernel
theorem dX8_clear_12 : decode cX8_clear 12 = .ok (.iconst 0, 1) := by decide +kernel
theorem dX8_clear_13 : decode cX8_clear 13 = .ok (.putfield 70, 3) := by decide +kernel
theorem dX8_clear_16 : decode cX8_clear 16 = .ok (.iload_n 1, 1) := by decide +kernel
theorem dX8_clear_17 : decode cX8_clear 17 = .ok (.ireturn, 1) := by decide +kernel
theorem dX8_post_0 : decode cX8_post 0 = .ok (.aload_n 0, 1) := by decide +kernel
theorem dX8_post_1 : decode cX8_post 1 = .ok (.getfield 12, 3) := by decide +kernel
theorem dX8_post_4 : decode cX8_post 4 = .ok (.lload_n 1, 1) := by decide +kernel
theorem dX8_post_5 : decode cX8_post 5 = .ok (.aload_n 0, 1) := by decide +kernel
theorem dX8_post_6 : decode cX8_post 6 = .ok (.getfield 19, 3) := by decide +kernel
theorem dX8_post_9 : decode cX8_post 9 = .ok (.invokevirtual 74, 3) := by decide +kernel
theorem dX8_post_12 : decode cX8_post 12 = .ok (.istore_n 3, 1) := by decide +kernel
theorem dX8_post_13 : decode cX8_post 13 = .ok (.iload_n 3, 1) := by decide +kernel
theorem dX8_post_14 : decode cX8_post 14 = .ok (.ifCond .lt 11, 3) := by decide +kernel
theorem dX8_post_17 : decode cX8_post 17 = .ok (.aload_n 0, 1) := by decide +kernel
theorem dX8_post_18 : decode cX8_post 18 = .ok (.getfield 19, 3) := by decide +kernel
theorem dX8_post_21 : decode cX8_post 21 = .ok (.iconst 0, 1) := by decide +kernel
theorem dX8_post_22 : decode cX8_post 22 = .ok (.putfield 70, 3) := by decide +kernel
theorem dX8_post_25 : decode cX8_post 25 = .ok (.aload_n 0, 1) := by decide +kernel
theorem dX8_post_26 : decode cX8_post 26 = .ok (.iload_n 3, 1) := by decide +kernel
theorem dX8_post_27 : decode cX8_post 27 = .ok (.invokevirtual 62, 3) := by decide +kernel
theorem dX8_post_30 : decode cX8_post 30 = .ok (.ireturn, 1) := by decide +kernel
theorem dX8_hold_0 : decode cX8_hold 0 = .ok (.aload_n 0, 1) := by decide +kernel
theorem dX8_hold_1 : decode cX8_hold 1 = .ok (.aload_n 0, 1) := by decide +kernel
theorem dX8_hold_2 : decode cX8_hold 2 = .ok (.getfield 12, 3) := by decide +kernel
theorem dX8_hold_5 : decode cX8_hold 5 = .ok (.lload_n 1, 1) := by decide +kernel
theorem dX8_hold_6 : decode cX8_hold 6 = .ok (.iload_n 3, 1) := by decide +kernel
theorem dX8_hold_7 : decode cX8_hold 7 = .ok (.lload 4, 2) := by decide +kernel
theorem dX8_hold_9 : decode cX8_hold 9 = .ok (.invokevirtual 78, 3) := by decide +kernel
theorem dX8_hold_12 : decode cX8_hold 12 = .ok (.invokevirtual 62, 3) := by decide +kernel
theorem dX8_hold_15 : decode cX8_hold 15 = .ok (.ireturn, 1) := by decide +kernel
theorem dX8_release_0 : decode cX8_release 0 = .ok (.aload_n 0, 1) := by decide +kernel
theorem dX8_release_1 : decode cX8_release 1 = .ok (.aload_n 0, 1) := by decide +kernel
theorem dX8_release_2 : decode cX8_release 2 = .ok (.getfield 12, 3) := by decide +kernel
theorem dX8_release_5 : decode cX8_release 5 = .ok (.iload_n 1, 1) := by decide +kernel
theorem dX8_release_6 : decode cX8_release 6 = .ok (.invokevirtual 82, 3) := by decide +kernel
theorem dX8_release_9 : decode cX8_release 9 = .ok (.invokevirtual 62, 3) := by decide +kernel
theorem dX8_release_12 : decode cX8_release 12 = .ok (.ireturn, 1) := by decide +kernel
theorem dX8_capture_0 : decode cX8_capture 0 = .ok (.aload_n 0, 1) := by decide +kernel
theorem dX8_capture_1 : decode cX8_capture 1 = .ok (.aload_n 0, 1) := by decide +kernel
theorem dX8_capture_2 : decode cX8_capture 2 = .ok (.getfield 12, 3) := by decide +kernel
theorem dX8_capture_5 : decode cX8_capture 5 = .ok (.lload_n 1, 1) := by decide +kernel
theorem dX8_capture_6 : decode cX8_capture 6 = .ok (.iload_n 3, 1) := by decide +kernel
theorem dX8_capture_7 : decode cX8_capture 7 = .ok (.iload 4, 2) := by decide +kernel
theorem dX8_capture_9 : decode cX8_capture 9 = .ok (.lload 5, 2) := by decide +kernel
theorem dX8_capture_11 : decode cX8_capture 11 = .ok (.invokevirtual 85, 3) := by decide +kernel
theorem dX8_capture_14 : decode cX8_capture 14 = .ok (.invokevirtual 62, 3) := by decide +kernel
theorem dX8_capture_17 : decode cX8_capture 17 = .ok (.ireturn, 1) := by decide +kernel
theorem dX8_reverse_0 : decode cX8_reverse 0 = .ok (.aload_n 0, 1) := by decide +kernel
theorem dX8_reverse_1 : decode cX8_reverse 1 = .ok (.aload_n 0, 1) := by decide +kernel
theorem dX8_reverse_2 : decode cX8_reverse 2 = .ok (.getfield 12, 3) := by decide +kernel
theorem dX8_reverse_5 : decode cX8_reverse 5 = .ok (.lload_n 1, 1) := by decide +kernel
theorem dX8_reverse_6 : decode cX8_reverse 6 = .ok (.iload_n 3, 1) := by decide +kernel
theorem dX8_reverse_7 : decode cX8_reverse 7 = .ok (.invokevirtual 89, 3) := by decide +kernel
theorem dX8_reverse_10 : decode cX8_reverse 10 = .ok (.invokevirtual 62, 3) := by decide +kernel
theorem dX8_reverse_13 : decode cX8_reverse 13 = .ok (.ireturn, 1) := by decide +kernel
theorem dX8_every_0 : decode cX8_every 0 = .ok (.iload_n 1, 1) := by decide +kernel
theorem dX8_every_1 : decode cX8_every 1 = .ok (.ifCond .lt 9, 3) := by decide +kernel
theorem dX8_every_4 : decode cX8_every 4 = .ok (.iload_n 1, 1) := by decide +kernel
theorem dX8_every_5 : decode cX8_every 5 = .ok (.bipush 50, 2) := by decide +kernel
theorem dX8_every_7 : decode cX8_every 7 = .ok (.if_icmp .le 5, 3) := by decide +kernel
theorem dX8_every_10 : decode cX8_every 10 = .ok (.iconst (-1), 1) := by decide +kernel
theorem dX8_every_11 : decode cX8_every 11 = .ok (.ireturn, 1) := by decide +kernel
theorem dX8_every_12 : decode cX8_every 12 = .ok (.aload_n 0, 1) := by decide +kernel
theorem dX8_every_13 : decode cX8_every 13 = .ok (.getfield 12, 3) := by decide +kernel
theorem dX8_every_16 : decode cX8_every 16 = .ok (.getfield 93, 3) := by decide +kernel
theorem dX8_every_19 : decode cX8_every 19 = .ok (.istore_n 2, 1) := by decide +kernel
theorem dX8_every_20 : decode cX8_every 20 = .ok (.aload_n 0, 1) := by decide +kernel
theorem dX8_every_21 : decode cX8_every 21 = .ok (.getfield 12, 3) := by decide +kernel
theorem dX8_every_24 : decode cX8_every 24 = .ok (.iload_n 1, 1) := by decide +kernel
theorem dX8_every_25 : decode cX8_every 25 = .ok (.invokevirtual 96, 3) := by decide +kernel
theorem dX8_every_28 : decode cX8_every 28 = .ok (.aload_n 0, 1) := by decide +kernel
theorem dX8_every_29 : decode cX8_every 29 = .ok (.getfield 23, 3) := by decide +kernel
theorem dX8_every_32 : decode cX8_every 32 = .ok (.aload_n 0, 1) := by decide +kernel
theorem dX8_every_33 : decode cX8_every 33 = .ok (.getfield 12, 3) := by decide +kernel
theorem dX8_every_36 : decode cX8_every 36 = .ok (.getfield 100, 3) := by decide +kernel
theorem dX8_every_39 : decode cX8_every 39 = .ok (.iload_n 1, 1) := by decide +kernel
theorem dX8_every_40 : decode cX8_every 40 = .ok (.iastore, 1) := by decide +kernel
theorem dX8_every_41 : decode cX8_every 41 = .ok (.iload_n 2, 1) := by decide +kernel
theorem dX8_every_42 : decode cX8_every 42 = .ok (.ireturn, 1) := by decide +kernel
theorem dX8_account_0 : decode cX8_account 0 = .ok (.iload_n 1, 1) := by decide +kernel
theorem dX8_account_1 : decode cX8_account 1 = .ok (.ifCond .lt 14, 3) := by decide +kernel
theorem dX8_account_4 : decode cX8_account 4 = .ok (.iload_n 1, 1) := by decide +kernel
theorem dX8_account_5 : decode cX8_account 5 = .ok (.aload_n 0, 1) := by decide +kernel
theorem dX8_account_6 : decode cX8_account 6 = .ok (.getfield 12, 3) := by decide +kernel
theorem dX8_account_9 : decode cX8_account 9 = .ok (.getfield 103, 3) := by decide +kernel
theorem dX8_account_12 : decode cX8_account 12 = .ok (.if_icmp .lt 7, 3) := by decide +kernel
theorem dX8_account_15 : decode cX8_account 15 = .ok (.ldc2_w 106, 3) := by decide +kernel
theorem dX8_account_18 : decode cX8_account 18 = .ok (.lreturn, 1) := by decide +kernel
theorem dX8_account_19 : decode cX8_account 19 = .ok (.iload_n 2, 1) := by decide +kernel
theorem dX8_account_20 : decode cX8_account 20 = .ok (.tableswitch 58 0 2 #[28, 38, 48], 28) := by decide +kernel
theorem dX8_account_48 : decode cX8_account 48 = .ok (.aload_n 0, 1) := by decide +kernel
theorem dX8_account_49 : decode cX8_account 49 = .ok (.getfield 12, 3) := by decide +kernel
theorem dX8_account_52 : decode cX8_account 52 = .ok (.getfield 108, 3) := by decide +kernel
theorem dX8_account_55 : decode cX8_account 55 = .ok (.iload_n 1, 1) := by decide +kernel
theorem dX8_account_56 : decode cX8_account 56 = .ok (.laload, 1) := by decide +kernel
theorem dX8_account_57 : decode cX8_account 57 = .ok (.lreturn, 1) := by decide +kernel
theorem dX8_account_58 : decode cX8_account 58 = .ok (.aload_n 0, 1) := by decide +kernel
theorem dX8_account_59 : decode cX8_account 59 = .ok (.getfield 12, 3) := by decide +kernel
theorem dX8_account_62 : decode cX8_account 62 = .ok (.getfield 112, 3) := by decide +kernel
theorem dX8_account_65 : decode cX8_account 65 = .ok (.iload_n 1, 1) := by decide +kernel
theorem dX8_account_66 : decode cX8_account 66 = .ok (.laload, 1) := by decide +kernel
theorem dX8_account_67 : decode cX8_account 67 = .ok (.lreturn, 1) := by decide +kernel
theorem dX8_account_68 : decode cX8_account 68 = .ok (.aload_n 0, 1) := by decide +kernel
theorem dX8_account_69 : decode cX8_account 69 = .ok (.getfield 12, 3) := by decide +kernel
theorem dX8_account_72 : decode cX8_account 72 = .ok (.getfield 115, 3) := by decide +kernel
theorem dX8_account_75 : decode cX8_account 75 = .ok (.iload_n 1, 1) := by decide +kernel
theorem dX8_account_76 : decode cX8_account 76 = .ok (.laload, 1) := by decide +kernel
theorem dX8_account_77 : decode cX8_account 77 = .ok (.lreturn, 1) := by decide +kernel
theorem dX8_account_78 : decode cX8_account 78 = .ok (.ldc2_w 106, 3) := by decide +kernel
theorem dX8_account_81 : decode cX8_account 81 = .ok (.lreturn, 1) := by decide +kernel
theorem dX8_entry_0 : decode cX8_entry 0 = .ok (.iload_n 1, 1) := by decide +kernel
theorem dX8_entry_1 : decode cX8_entry 1 = .ok (.ifCond .lt 14, 3) := by decide +kernel
theorem dX8_entry_4 : decode cX8_entry 4 = .ok (.iload_n 1, 1) := by decide +kernel
theorem dX8_entry_5 : decode cX8_entry 5 = .ok (.aload_n 0, 1) := by decide +kernel
theorem dX8_entry_6 : decode cX8_entry 6 = .ok (.getfield 12, 3) := by decide +kernel
theorem dX8_entry_9 : decode cX8_entry 9 = .ok (.getfield 100, 3) := by decide +kernel
theorem dX8_entry_12 : decode cX8_entry 12 = .ok (.if_icmp .lt 7, 3) := by decide +kernel
theorem dX8_entry_15 : decode cX8_entry 15 = .ok (.ldc2_w 106, 3) := by decide +kernel
theorem dX8_entry_18 : decode cX8_entry 18 = .ok (.lreturn, 1) := by decide +kernel
theorem dX8_entry_19 : decode cX8_entry 19 = .ok (.iload_n 2, 1) := by decide +kernel
theorem dX8_entry_20 : decode cX8_entry 20 = .ok (.tableswitch 116 0 5 #[40, 50, 73, 84, 94, 105], 40) := by decide +kernel
theorem dX8_entry_60 : decode cX8_entry 60 = .ok (.aload_n 0, 1) := by decide +kernel
theorem dX8_entry_61 : decode cX8_entry 61 = .ok (.getfield 12, 3) := by decide +kernel
theorem dX8_entry_64 : decode cX8_entry 64 = .ok (.iload_n 1, 1) := by decide +kernel
theorem dX8_entry_65 : decode cX8_entry 65 = .ok (.invokevirtual 118, 3) := by decide +kernel
theorem dX8_entry_68 : decode cX8_entry 68 = .ok (.i2l, 1) := by decide +kernel
theorem dX8_entry_69 : decode cX8_entry 69 = .ok (.lreturn, 1) := by decide +kernel
theorem dX8_entry_70 : decode cX8_entry 70 = .ok (.aload_n 0, 1) := by decide +kernel
theorem dX8_entry_71 : decode cX8_entry 71 = .ok (.getfield 12, 3) := by decide +kernel
theorem dX8_entry_74 : decode cX8_entry 74 = .ok (.getfield 121, 3) := by decide +kernel
theorem dX8_entry_77 : decode cX8_entry 77 = .ok (.iload_n 1, 1) := by decide +kernel
theorem dX8_entry_78 : decode cX8_entry 78 = .ok (.iconst 1, 1) := by decide +kernel
theorem dX8_entry_79 : decode cX8_entry 79 = .ok (.iadd, 1) := by decide +kernel
theorem dX8_entry_80 : decode cX8_entry 80 = .ok (.iaload, 1) := by decide +kernel
theorem dX8_entry_81 : decode cX8_entry 81 = .ok (.aload_n 0, 1) := by decide +kernel
theorem dX8_entry_82 : decode cX8_entry 82 = .ok (.getfield 12, 3) := by decide +kernel
theorem dX8_entry_85 : decode cX8_entry 85 = .ok (.getfield 121, 3) := by decide +kernel
theorem dX8_entry_88 : decode cX8_entry 88 = .ok (.iload_n 1, 1) := by decide +kernel
theorem dX8_entry_89 : decode cX8_entry 89 = .ok (.iaload, 1) := by decide +kernel
theorem dX8_entry_90 : decode cX8_entry 90 = .ok (.isub, 1) := by decide +kernel
theorem dX8_entry_91 : decode cX8_entry 91 = .ok (.i2l, 1) := by decide +kernel
theorem dX8_entry_92 : decode cX8_entry 92 = .ok (.lreturn, 1) := by decide +kernel
theorem dX8_entry_93 : decode cX8_entry 93 = .ok (.aload_n 0, 1) := by decide +kernel
theorem dX8_entry_94 : decode cX8_entry 94 = .ok (.getfield 12, 3) := by decide +kernel
theorem dX8_entry_97 : decode cX8_entry 97 = .ok (.getfield 121, 3) := by decide +kernel
theorem dX8_entry_100 : decode cX8_entry 100 = .ok (.iload_n 1, 1) := by decide +kernel
theorem dX8_entry_101 : decode cX8_entry 101 = .ok (.iaload, 1) := by decide +kernel
theorem dX8_entry_102 : decode cX8_entry 102 = .ok (.i2l, 1) := by decide +kernel
theorem dX8_entry_103 : decode cX8_entry 103 = .ok (.lreturn, 1) := by decide +kernel
theorem dX8_entry_104 : decode cX8_entry 104 = .ok (.aload_n 0, 1) := by decide +kernel
theorem dX8_entry_105 : decode cX8_entry 105 = .ok (.getfield 12, 3) := by decide +kernel
theorem dX8_entry_108 : decode cX8_entry 108 = .ok (.getfield 124, 3) := by decide +kernel
theorem dX8_entry_111 : decode cX8_entry 111 = .ok (.iload_n 1, 1) := by decide +kernel
theorem dX8_entry_112 : decode cX8_entry 112 = .ok (.laload, 1) := by decide +kernel
theorem dX8_entry_113 : decode cX8_entry 113 = .ok (.lreturn, 1) := by decide +kernel
theorem dX8_entry_114 : decode cX8_entry 114 = .ok (.aload_n 0, 1) := by decide +kernel
theorem dX8_entry_115 : decode cX8_entry 115 = .ok (.getfield 12, 3) := by decide +kernel
theorem dX8_entry_118 : decode cX8_entry 118 = .ok (.getfield 127, 3) := by decide +kernel
theorem dX8_entry_121 : decode cX8_entry 121 = .ok (.iload_n 1, 1) := by decide +kernel
theorem dX8_entry_122 : decode cX8_entry 122 = .ok (.iaload, 1) := by decide +kernel
theorem dX8_entry_123 : decode cX8_entry 123 = .ok (.i2l, 1) := by decide +kernel
theorem dX8_entry_124 : decode cX8_entry 124 = .ok (.lreturn, 1) := by decide +kernel
theorem dX8_entry_125 : decode cX8_entry 125 = .ok (.aload_n 0, 1) := by decide +kernel
theorem dX8_entry_126 : decode cX8_entry 126 = .ok (.getfield 12, 3) := by decide +kernel
theorem dX8_entry_129 : decode cX8_entry 129 = .ok (.getfield 130, 3) := by decide +kernel
theorem dX8_entry_132 : decode cX8_entry 132 = .ok (.iload_n 1, 1) := by decide +kernel
theorem dX8_entry_133 : decode cX8_entry 133 = .ok (.iaload, 1) := by decide +kernel
theorem dX8_entry_134 : decode cX8_entry 134 = .ok (.i2l, 1) := by decide +kernel
theorem dX8_entry_135 : decode cX8_entry 135 = .ok (.lreturn, 1) := by decide +kernel
theorem dX8_entry_136 : decode cX8_entry 136 = .ok (.aload_n 0, 1) := by decide +kernel
theorem dX8_entry_137 : decode cX8_entry 137 = .ok (.iload_n 1, 1) := by decide +kernel
theorem dX8_entry_138 : decode cX8_entry 138 = .ok (.iload_n 2, 1) := by decide +kernel
theorem dX8_entry_139 : decode cX8_entry 139 = .ok (.invokevirtual 133, 3) := by decide +kernel
theorem dX8_entry_142 : decode cX8_entry 142 = .ok (.lreturn, 1) := by decide +kernel
theorem dX8_data_0 : decode cX8_data 0 = .ok (.iload_n 1, 1) := by decide +kernel
theorem dX8_data_1 : decode cX8_data 1 = .ok (.ifCond .lt 30, 3) := by decide +kernel
theorem dX8_data_4 : decode cX8_data 4 = .ok (.iload_n 1, 1) := by decide +kernel
theorem dX8_data_5 : decode cX8_data 5 = .ok (.aload_n 0, 1) := by decide +kernel
theorem dX8_data_6 : decode cX8_data 6 = .ok (.getfield 30, 3) := by decide +kernel
theorem dX8_data_9 : decode cX8_data 9 = .ok (.invokevirtual 137, 3) := by decide +kernel
