theorem dX8_data_12 : decode cX8_data 12 = .ok (.if_icmp .ge 19, 3) := by decide +kernel
theorem dX8_data_15 : decode cX8_data 15 = .ok (.aload_n 0, 1) := by decide +kernel
theorem dX8_data_16 : decode cX8_data 16 = .ok (.getfield 30, 3) := by decide +kernel
theorem dX8_data_19 : decode cX8_data 19 = .ok (.getfield 140, 3) := by decide +kernel
theorem dX8_data_22 : decode cX8_data 22 = .ok (.iload_n 1, 1) := by decide +kernel
theorem dX8_data_23 : decode cX8_data 23 = .ok (.baload, 1) := by decide +kernel
theorem dX8_data_24 : decode cX8_data 24 = .ok (.sipush 255, 3) := by decide +kernel
theorem dX8_data_27 : decode cX8_data 27 = .ok (.iand, 1) := by decide +kernel
theorem dX8_data_28 : decode cX8_data 28 = .ok (.goto 4, 3) := by decide +kernel
theorem dX8_data_31 : decode cX8_data 31 = .ok (.iconst (-1), 1) := by decide +kernel
theorem dX8_data_32 : decode cX8_data 32 = .ok (.ireturn, 1) := by decide +kernel
theorem dX8_alter_0 : decode cX8_alter 0 = .ok (.iload_n 1, 1) := by decide +kernel
theorem dX8_alter_1 : decode cX8_alter 1 = .ok (.ifCond .lt 26, 3) := by decide +kernel
theorem dX8_alter_4 : decode cX8_alter 4 = .ok (.iload_n 1, 1) := by decide +kernel
theorem dX8_alter_5 : decode cX8_alter 5 = .ok (.aload_n 0, 1) := by decide +kernel
theorem dX8_alter_6 : decode cX8_alter 6 = .ok (.getfield 30, 3) := by decide +kernel
theorem dX8_alter_9 : decode cX8_alter 9 = .ok (.invokevirtual 137, 3) := by decide +kernel
theorem dX8_alter_12 : decode cX8_alter 12 = .ok (.if_icmp .ge 15, 3) := by decide +kernel
theorem dX8_alter_15 : decode cX8_alter 15 = .ok (.iload_n 2, 1) := by decide +kernel
theorem dX8_alter_16 : decode cX8_alter 16 = .ok (.iconst 1, 1) := by decide +kernel
theorem dX8_alter_17 : decode cX8_alter 17 = .ok (.if_icmp .lt 10, 3) := by decide +kernel
theorem dX8_alter_20 : decode cX8_alter 20 = .ok (.iload_n 2, 1) := by decide +kernel
theorem dX8_alter_21 : decode cX8_alter 21 = .ok (.sipush 255, 3) := by decide +kernel
theorem dX8_alter_24 : decode cX8_alter 24 = .ok (.if_icmp .le 5, 3) := by decide +kernel
theorem dX8_alter_27 : decode cX8_alter 27 = .ok (.iconst (-1), 1) := by decide +kernel
theorem dX8_alter_28 : decode cX8_alter 28 = .ok (.ireturn, 1) := by decide +kernel
theorem dX8_alter_29 : decode cX8_alter 29 = .ok (.aload_n 0, 1) := by decide +kernel
theorem dX8_alter_30 : decode cX8_alter 30 = .ok (.getfield 30, 3) := by decide +kernel
theorem dX8_alter_33 : decode cX8_alter 33 = .ok (.iload_n 1, 1) := by decide +kernel
theorem dX8_alter_34 : decode cX8_alter 34 = .ok (.iload_n 2, 1) := by decide +kernel
theorem dX8_alter_35 : decode cX8_alter 35 = .ok (.invokevirtual 144, 3) := by decide +kernel
theorem dX8_alter_38 : decode cX8_alter 38 = .ok (.aload_n 0, 1) := by decide +kernel
theorem dX8_alter_39 : decode cX8_alter 39 = .ok (.getfield 30, 3) := by decide +kernel
theorem dX8_alter_42 : decode cX8_alter 42 = .ok (.getfield 140, 3) := by decide +kernel
theorem dX8_alter_45 : decode cX8_alter 45 = .ok (.iload_n 1, 1) := by decide +kernel
theorem dX8_alter_46 : decode cX8_alter 46 = .ok (.baload, 1) := by decide +kernel
theorem dX8_alter_47 : decode cX8_alter 47 = .ok (.sipush 255, 3) := by decide +kernel
theorem dX8_alter_50 : decode cX8_alter 50 = .ok (.iand, 1) := by decide +kernel
theorem dX8_alter_51 : decode cX8_alter 51 = .ok (.ireturn, 1) := by decide +kernel
theorem dX8_hash_0 : decode cX8_hash 0 = .ok (.iload_n 2, 1) := by decide +kernel
theorem dX8_hash_1 : decode cX8_hash 1 = .ok (.ifCond .lt 24, 3) := by decide +kernel
theorem dX8_hash_4 : decode cX8_hash 4 = .ok (.iload_n 2, 1) := by decide +kernel
theorem dX8_hash_5 : decode cX8_hash 5 = .ok (.aload_n 0, 1) := by decide +kernel
theorem dX8_hash_6 : decode cX8_hash 6 = .ok (.getfield 30, 3) := by decide +kernel
theorem dX8_hash_9 : decode cX8_hash 9 = .ok (.getfield 148, 3) := by decide +kernel
theorem dX8_hash_12 : decode cX8_hash 12 = .ok (.if_icmp .gt 13, 3) := by decide +kernel
theorem dX8_hash_15 : decode cX8_hash 15 = .ok (.iload_n 3, 1) := by decide +kernel
theorem dX8_hash_16 : decode cX8_hash 16 = .ok (.ifCond .lt 9, 3) := by decide +kernel
theorem dX8_hash_19 : decode cX8_hash 19 = .ok (.iload_n 3, 1) := by decide +kernel
theorem dX8_hash_20 : decode cX8_hash 20 = .ok (.bipush 32, 2) := by decide +kernel
theorem dX8_hash_22 : decode cX8_hash 22 = .ok (.if_icmp .lt 5, 3) := by decide +kernel
theorem dX8_hash_25 : decode cX8_hash 25 = .ok (.iconst (-1), 1) := by decide +kernel
theorem dX8_hash_26 : decode cX8_hash 26 = .ok (.ireturn, 1) := by decide +kernel
theorem dX8_hash_27 : decode cX8_hash 27 = .ok (.iload_n 1, 1) := by decide +kernel
theorem dX8_hash_28 : decode cX8_hash 28 = .ok (.tableswitch 91 0 2 #[28, 41, 63], 28) := by decide +kernel
theorem dX8_hash_56 : decode cX8_hash 56 = .ok (.aload_n 0, 1) := by decide +kernel
theorem dX8_hash_57 : decode cX8_hash 57 = .ok (.getfield 30, 3) := by decide +kernel
theorem dX8_hash_60 : decode cX8_hash 60 = .ok (.iload_n 2, 1) := by decide +kernel
theorem dX8_hash_61 : decode cX8_hash 61 = .ok (.invokevirtual 149, 3) := by decide +kernel
theorem dX8_hash_64 : decode cX8_hash 64 = .ok (.iload_n 3, 1) := by decide +kernel
theorem dX8_hash_65 : decode cX8_hash 65 = .ok (.invokestatic 153, 3) := by decide +kernel
theorem dX8_hash_68 : decode cX8_hash 68 = .ok (.ireturn, 1) := by decide +kernel
theorem dX8_hash_69 : decode cX8_hash 69 = .ok (.aload_n 0, 1) := by decide +kernel
theorem dX8_hash_70 : decode cX8_hash 70 = .ok (.getfield 30, 3) := by decide +kernel
theorem dX8_hash_73 : decode cX8_hash 73 = .ok (.iconst 0, 1) := by decide +kernel
theorem dX8_hash_74 : decode cX8_hash 74 = .ok (.iload_n 2, 1) := by decide +kernel
theorem dX8_hash_75 : decode cX8_hash 75 = .ok (.aload_n 0, 1) := by decide +kernel
theorem dX8_hash_76 : decode cX8_hash 76 = .ok (.getfield 55, 3) := by decide +kernel
theorem dX8_hash_79 : decode cX8_hash 79 = .ok (.invokevirtual 157, 3) := by decide +kernel
theorem dX8_hash_82 : decode cX8_hash 82 = .ok (.aload_n 0, 1) := by decide +kernel
theorem dX8_hash_83 : decode cX8_hash 83 = .ok (.getfield 55, 3) := by decide +kernel
theorem dX8_hash_86 : decode cX8_hash 86 = .ok (.iload_n 3, 1) := by decide +kernel
theorem dX8_hash_87 : decode cX8_hash 87 = .ok (.invokestatic 153, 3) := by decide +kernel
theorem dX8_hash_90 : decode cX8_hash 90 = .ok (.ireturn, 1) := by decide +kernel
theorem dX8_hash_91 : decode cX8_hash 91 = .ok (.iload_n 2, 1) := by decide +kernel
theorem dX8_hash_92 : decode cX8_hash 92 = .ok (.aload_n 0, 1) := by decide +kernel
theorem dX8_hash_93 : decode cX8_hash 93 = .ok (.getfield 30, 3) := by decide +kernel
theorem dX8_hash_96 : decode cX8_hash 96 = .ok (.getfield 148, 3) := by decide +kernel
theorem dX8_hash_99 : decode cX8_hash 99 = .ok (.if_icmp .ge 18, 3) := by decide +kernel
theorem dX8_hash_102 : decode cX8_hash 102 = .ok (.aload_n 0, 1) := by decide +kernel
theorem dX8_hash_103 : decode cX8_hash 103 = .ok (.getfield 30, 3) := by decide +kernel
theorem dX8_hash_106 : decode cX8_hash 106 = .ok (.iload_n 2, 1) := by decide +kernel
theorem dX8_hash_107 : decode cX8_hash 107 = .ok (.invokevirtual 161, 3) := by decide +kernel
theorem dX8_hash_110 : decode cX8_hash 110 = .ok (.iload_n 3, 1) := by decide +kernel
theorem dX8_hash_111 : decode cX8_hash 111 = .ok (.invokestatic 153, 3) := by decide +kernel
theorem dX8_hash_114 : decode cX8_hash 114 = .ok (.goto 4, 3) := by decide +kernel
theorem dX8_hash_117 : decode cX8_hash 117 = .ok (.iconst (-1), 1) := by decide +kernel
theorem dX8_hash_118 : decode cX8_hash 118 = .ok (.ireturn, 1) := by decide +kernel
theorem dX8_hash_119 : decode cX8_hash 119 = .ok (.iconst (-1), 1) := by decide +kernel
theorem dX8_hash_120 : decode cX8_hash 120 = .ok (.ireturn, 1) := by decide +kernel
theorem dX8_keep_0 : decode cX8_keep 0 = .ok (.iload_n 1, 1) := by decide +kernel
theorem dX8_keep_1 : decode cX8_keep 1 = .ok (.ifCond .lt 9, 3) := by decide +kernel
theorem dX8_keep_4 : decode cX8_keep 4 = .ok (.iload_n 1, 1) := by decide +kernel
theorem dX8_keep_5 : decode cX8_keep 5 = .ok (.bipush 8, 2) := by decide +kernel
theorem dX8_keep_7 : decode cX8_keep 7 = .ok (.if_icmp .lt 5, 3) := by decide +kernel
theorem dX8_keep_10 : decode cX8_keep 10 = .ok (.iconst (-1), 1) := by decide +kernel
theorem dX8_keep_11 : decode cX8_keep 11 = .ok (.ireturn, 1) := by decide +kernel
theorem dX8_keep_12 : decode cX8_keep 12 = .ok (.aload_n 0, 1) := by decide +kernel
theorem dX8_keep_13 : decode cX8_keep 13 = .ok (.getfield 36, 3) := by decide +kernel
theorem dX8_keep_16 : decode cX8_keep 16 = .ok (.iload_n 1, 1) := by decide +kernel
theorem dX8_keep_17 : decode cX8_keep 17 = .ok (.aaload, 1) := by decide +kernel
theorem dX8_keep_18 : decode cX8_keep 18 = .ok (.astore_n 2, 1) := by decide +kernel
theorem dX8_keep_19 : decode cX8_keep 19 = .ok (.aload_n 2, 1) := by decide +kernel
theorem dX8_keep_20 : decode cX8_keep 20 = .ok (.aload_n 0, 1) := by decide +kernel
theorem dX8_keep_21 : decode cX8_keep 21 = .ok (.getfield 30, 3) := by decide +kernel
theorem dX8_keep_24 : decode cX8_keep 24 = .ok (.getfield 148, 3) := by decide +kernel
theorem dX8_keep_27 : decode cX8_keep 27 = .ok (.putfield 164, 3) := by decide +kernel
theorem dX8_keep_30 : decode cX8_keep 30 = .ok (.aload_n 0, 1) := by decide +kernel
theorem dX8_keep_31 : decode cX8_keep 31 = .ok (.getfield 30, 3) := by decide +kernel
theorem dX8_keep_34 : decode cX8_keep 34 = .ok (.aload_n 2, 1) := by decide +kernel
theorem dX8_keep_35 : decode cX8_keep 35 = .ok (.getfield 164, 3) := by decide +kernel
theorem dX8_keep_38 : decode cX8_keep 38 = .ok (.invokevirtual 149, 3) := by decide +kernel
theorem dX8_keep_41 : decode cX8_keep 41 = .ok (.aload_n 2, 1) := by decide +kernel
theorem dX8_keep_42 : decode cX8_keep 42 = .ok (.getfield 165, 3) := by decide +kernel
theorem dX8_keep_45 : decode cX8_keep 45 = .ok (.invokestatic 168, 3) := by decide +kernel
theorem dX8_keep_48 : decode cX8_keep 48 = .ok (.aload_n 0, 1) := by decide +kernel
theorem dX8_keep_49 : decode cX8_keep 49 = .ok (.getfield 30, 3) := by decide +kernel
theorem dX8_keep_52 : decode cX8_keep 52 = .ok (.iconst 0, 1) := by decide +kernel
theorem dX8_keep_53 : decode cX8_keep 53 = .ok (.aload_n 2, 1) := by decide +kernel
theorem dX8_keep_54 : decode cX8_keep 54 = .ok (.getfield 164, 3) := by decide +kernel
theorem dX8_keep_57 : decode cX8_keep 57 = .ok (.aload_n 2, 1) := by decide +kernel
theorem dX8_keep_58 : decode cX8_keep 58 = .ok (.getfield 172, 3) := by decide +kernel
theorem dX8_keep_61 : decode cX8_keep 61 = .ok (.invokevirtual 157, 3) := by decide +kernel
theorem dX8_keep_64 : decode cX8_keep 64 = .ok (.aload_n 2, 1) := by decide +kernel
theorem dX8_keep_65 : decode cX8_keep 65 = .ok (.getfield 164, 3) := by decide +kernel
theorem dX8_keep_68 : decode cX8_keep 68 = .ok (.ireturn, 1) := by decide +kernel
theorem dX8_verify_0 : decode cX8_verify 0 = .ok (.iload_n 1, 1) := by decide +kernel
theorem dX8_verify_1 : decode cX8_verify 1 = .ok (.ifCond .lt 22, 3) := by decide +kernel
theorem dX8_verify_4 : decode cX8_verify 4 = .ok (.iload_n 1, 1) := by decide +kernel
theorem dX8_verify_5 : decode cX8_verify 5 = .ok (.bipush 8, 2) := by decide +kernel
theorem dX8_verify_7 : decode cX8_verify 7 = .ok (.if_icmp .ge 16, 3) := by decide +kernel
theorem dX8_verify_10 : decode cX8_verify 10 = .ok (.aload_n 0, 1) := by decide +kernel
theorem dX8_verify_11 : decode cX8_verify 11 = .ok (.getfield 36, 3) := by decide +kernel
theorem dX8_verify_14 : decode cX8_verify 14 = .ok (.iload_n 1, 1) := by decide +kernel
theorem dX8_verify_15 : decode cX8_verify 15 = .ok (.aaload, 1) := by decide +kernel
theorem dX8_verify_16 : decode cX8_verify 16 = .ok (.getfield 164, 3) := by decide +kernel
theorem dX8_verify_19 : decode cX8_verify 19 = .ok (.iconst (-1), 1) := by decide +kernel
theorem dX8_verify_20 : decode cX8_verify 20 = .ok (.if_icmp .ne 5, 3) := by decide +kernel
theorem dX8_verify_23 : decode cX8_verify 23 = .ok (.iconst (-1), 1) := by decide +kernel
theorem dX8_verify_24 : decode cX8_verify 24 = .ok (.ireturn, 1) := by decide +kernel
theorem dX8_verify_25 : decode cX8_verify 25 = .ok (.aload_n 0, 1) := by decide +kernel
theorem dX8_verify_26 : decode cX8_verify 26 = .ok (.getfield 36, 3) := by decide +kernel
theorem dX8_verify_29 : decode cX8_verify 29 = .ok (.iload_n 1, 1) := by decide +kernel
theorem dX8_verify_30 : decode cX8_verify 30 = .ok (.aaload, 1) := by decide +kernel
theorem dX8_verify_31 : decode cX8_verify 31 = .ok (.astore_n 2, 1) := by decide +kernel
theorem dX8_verify_32 : decode cX8_verify 32 = .ok (.aload_n 0, 1) := by decide +kernel
theorem dX8_verify_33 : decode cX8_verify 33 = .ok (.getfield 30, 3) := by decide +kernel
theorem dX8_verify_36 : decode cX8_verify 36 = .ok (.aload_n 2, 1) := by decide +kernel
theorem dX8_verify_37 : decode cX8_verify 37 = .ok (.getfield 164, 3) := by decide +kernel
theorem dX8_verify_40 : decode cX8_verify 40 = .ok (.invokevirtual 149, 3) := by decide +kernel
theorem dX8_verify_43 : decode cX8_verify 43 = .ok (.aload_n 2, 1) := by decide +kernel
theorem dX8_verify_44 : decode cX8_verify 44 = .ok (.getfield 165, 3) := by decide +kernel
theorem dX8_verify_47 : decode cX8_verify 47 = .ok (.invokestatic 175, 3) := by decide +kernel
theorem dX8_verify_50 : decode cX8_verify 50 = .ok (.ifCond .ne 5, 3) := by decide +kernel
theorem dX8_verify_53 : decode cX8_verify 53 = .ok (.iconst 1, 1) := by decide +kernel
theorem dX8_verify_54 : decode cX8_verify 54 = .ok (.ireturn, 1) := by decide +kernel
theorem dX8_verify_55 : decode cX8_verify 55 = .ok (.aload_n 0, 1) := by decide +kernel
theorem dX8_verify_56 : decode cX8_verify 56 = .ok (.getfield 30, 3) := by decide +kernel
theorem dX8_verify_59 : decode cX8_verify 59 = .ok (.iconst 0, 1) := by decide +kernel
theorem dX8_verify_60 : decode cX8_verify 60 = .ok (.aload_n 2, 1) := by decide +kernel
theorem dX8_verify_61 : decode cX8_verify 61 = .ok (.getfield 164, 3) := by decide +kernel
theorem dX8_verify_64 : decode cX8_verify 64 = .ok (.aload_n 0, 1) := by decide +kernel
theorem dX8_verify_65 : decode cX8_verify 65 = .ok (.getfield 55, 3) := by decide +kernel
theorem dX8_verify_68 : decode cX8_verify 68 = .ok (.invokevirtual 157, 3) := by decide +kernel
theorem dX8_verify_71 : decode cX8_verify 71 = .ok (.aload_n 0, 1) := by decide +kernel
theorem dX8_verify_72 : decode cX8_verify 72 = .ok (.getfield 55, 3) := by decide +kernel
theorem dX8_verify_75 : decode cX8_verify 75 = .ok (.aload_n 2, 1) := by decide +kernel
theorem dX8_verify_76 : decode cX8_verify 76 = .ok (.getfield 172, 3) := by decide +kernel
theorem dX8_verify_79 : decode cX8_verify 79 = .ok (.invokestatic 175, 3) := by decide +kernel
theorem dX8_verify_82 : decode cX8_verify 82 = .ok (.ifCond .eq 7, 3) := by decide +kernel
theorem dX8_verify_85 : decode cX8_verify 85 = .ok (.iconst 0, 1) := by decide +kernel
theorem dX8_verify_86 : decode cX8_verify 86 = .ok (.goto 4, 3) := by decide +kernel
theorem dX8_verify_89 : decode cX8_verify 89 = .ok (.iconst 2, 1) := by decide +kernel
theorem dX8_verify_90 : decode cX8_verify 90 = .ok (.ireturn, 1) := by decide +kernel
theorem dX8_path_0 : decode cX8_path 0 = .ok (.iload_n 1, 1) := by decide +kernel
theorem dX8_path_1 : decode cX8_path 1 = .ok (.ifCond .lt 19, 3) := by decide +kernel
theorem dX8_path_4 : decode cX8_path 4 = .ok (.iload_n 1, 1) := by decide +kernel
theorem dX8_path_5 : decode cX8_path 5 = .ok (.iload_n 2, 1) := by decide +kernel
theorem dX8_path_6 : decode cX8_path 6 = .ok (.if_icmp .ge 14, 3) := by decide +kernel
theorem dX8_path_9 : decode cX8_path 9 = .ok (.iload_n 2, 1) := by decide +kernel
theorem dX8_path_10 : decode cX8_path 10 = .ok (.aload_n 0, 1) := by decide +kernel
theorem dX8_path_11 : decode cX8_path 11 = .ok (.getfield 30, 3) := by decide +kernel
theorem dX8_path_14 : decode cX8_path 14 = .ok (.getfield 148, 3) := by decide +kernel
theorem dX8_path_17 : decode cX8_path 17 = .ok (.if_icmp .le 5, 3) := by decide +kernel
theorem dX8_path_20 : decode cX8_path 20 = .ok (.iconst (-1), 1) := by decide +kernel
theorem dX8_path_21 : decode cX8_path 21 = .ok (.ireturn, 1) := by decide +kernel
theorem dX8_path_22 : decode cX8_path 22 = .ok (.aload_n 0, 1) := by decide +kernel
theorem dX8_path_23 : decode cX8_path 23 = .ok (.getfield 44, 3) := by decide +kernel
theorem dX8_path_26 : decode cX8_path 26 = .ok (.aload_n 0, 1) := by decide +kernel
theorem dX8_path_27 : decode cX8_path 27 = .ok (.getfield 30, 3) := by decide +kernel
theorem dX8_path_30 : decode cX8_path 30 = .ok (.iconst 0, 1) := by decide +kernel
theorem dX8_path_31 : decode cX8_path 31 = .ok (.iload_n 1, 1) := by decide +kernel
theorem dX8_path_32 : decode cX8_path 32 = .ok (.iload_n 2, 1) := by decide +kernel
theorem dX8_path_33 : decode cX8_path 33 = .ok (.invokevirtual 179, 3) := by decide +kernel
theorem dX8_path_36 : decode cX8_path 36 = .ok (.aload_n 0, 1) := by decide +kernel
theorem dX8_path_37 : decode cX8_path 37 = .ok (.getfield 44, 3) := by decide +kernel
theorem dX8_path_40 : decode cX8_path 40 = .ok (.getfield 183, 3) := by decide +kernel
theorem dX8_path_43 : decode cX8_path 43 = .ok (.ireturn, 1) := by decide +kernel
theorem dX8_proof_0 : decode cX8_proof 0 = .ok (.iload_n 1, 1) := by decide +kernel
theorem dX8_proof_1 : decode cX8_proof 1 = .ok (.ifCond .le 19, 3) := by decide +kernel
theorem dX8_proof_4 : decode cX8_proof 4 = .ok (.iload_n 1, 1) := by decide +kernel
theorem dX8_proof_5 : decode cX8_proof 5 = .ok (.iload_n 2, 1) := by decide +kernel
theorem dX8_proof_6 : decode cX8_proof 6 = .ok (.if_icmp .ge 14, 3) := by decide +kernel
theorem dX8_proof_9 : decode cX8_proof 9 = .ok (.iload_n 2, 1) := by decide +kernel
theorem dX8_proof_10 : decode cX8_proof 10 = .ok (.aload_n 0, 1) := by decide +kernel
theorem dX8_proof_11 : decode cX8_proof 11 = .ok (.getfield 30, 3) := by decide +kernel
theorem dX8_proof_14 : decode cX8_proof 14 = .ok (.getfield 148, 3) := by decide +kernel
theorem dX8_proof_17 : decode cX8_proof 17 = .ok (.if_icmp .le 5, 3) := by decide +kernel
theorem dX8_proof_20 : decode cX8_proof 20 = .ok (.iconst (-1), 1) := by decide +kernel
theorem dX8_proof_21 : decode cX8_proof 21 = .ok (.ireturn, 1) := by decide +kernel
theorem dX8_proof_22 : decode cX8_proof 22 = .ok (.aload_n 0, 1) := by decide +kernel
theorem dX8_proof_23 : decode cX8_proof 23 = .ok (.getfield 44, 3) := by decide +kernel
theorem dX8_proof_26 : decode cX8_proof 26 = .ok (.aload_n 0, 1) := by decide +kernel
theorem dX8_proof_27 : decode cX8_proof 27 = .ok (.getfield 30, 3) := by decide +kernel
theorem dX8_proof_30 : decode cX8_proof 30 = .ok (.iconst 1, 1) := by decide +kernel
theorem dX8_proof_31 : decode cX8_proof 31 = .ok (.iload_n 1, 1) := by decide +kernel
theorem dX8_proof_32 : decode cX8_proof 32 = .ok (.iload_n 2, 1) := by decide +kernel
theorem dX8_proof_33 : decode cX8_proof 33 = .ok (.invokevirtual 179, 3) := by decide +kernel
theorem dX8_proof_36 : decode cX8_proof 36 = .ok (.aload_n 0, 1) := by decide +kernel
theorem dX8_proof_37 : decode cX8_proof 37 = .ok (.getfield 44, 3) := by decide +kernel
theorem dX8_proof_40 : decode cX8_proof 40 = .ok (.getfield 183, 3) := by decide +kernel
theorem dX8_proof_43 : decode cX8_proof 43 = .ok (.ireturn, 1) := by decide +kernel
theorem dX8_step_0 : decode cX8_step 0 = .ok (.iload_n 1, 1) := by decide +kernel
theorem dX8_step_1 : decode cX8_step 1 = .ok (.ifCond .lt 24, 3) := by decide +kernel
theorem dX8_step_4 : decode cX8_step 4 = .ok (.iload_n 1, 1) := by decide +kernel
theorem dX8_step_5 : decode cX8_step 5 = .ok (.aload_n 0, 1) := by decide +kernel
theorem dX8_step_6 : decode cX8_step 6 = .ok (.getfield 44, 3) := by decide +kernel
theorem dX8_step_9 : decode cX8_step 9 = .ok (.getfield 183, 3) := by decide +kernel
theorem dX8_step_12 : decode cX8_step 12 = .ok (.if_icmp .ge 13, 3) := by decide +kernel
theorem dX8_step_15 : decode cX8_step 15 = .ok (.iload_n 2, 1) := by decide +kernel
theorem dX8_step_16 : decode cX8_step 16 = .ok (.ifCond .lt 9, 3) := by decide +kernel
theorem dX8_step_19 : decode cX8_step 19 = .ok (.iload_n 2, 1) := by decide +kernel
theorem dX8_step_20 : decode cX8_step 20 = .ok (.bipush 32, 2) := by decide +kernel
theorem dX8_step_22 : decode cX8_step 22 = .ok (.if_icmp .lt 5, 3) := by decide +kernel
theorem dX8_step_25 : decode cX8_step 25 = .ok (.iconst (-1), 1) := by decide +kernel
theorem dX8_step_26 : decode cX8_step 26 = .ok (.ireturn, 1) := by decide +kernel
theorem dX8_step_27 : decode cX8_step 27 = .ok (.aload_n 0, 1) := by decide +kernel
theorem dX8_step_28 : decode cX8_step 28 = .ok (.getfield 44, 3) := by decide +kernel
theorem dX8_step_31 : decode cX8_step 31 = .ok (.getfield 186, 3) := by decide +kernel
theorem dX8_step_34 : decode cX8_step 34 = .ok (.iload_n 1, 1) := by decide +kernel
theorem dX8_step_35 : decode cX8_step 35 = .ok (.aaload, 1) := by decide +kernel
theorem dX8_step_36 : decode cX8_step 36 = .ok (.iload_n 2, 1) := by decide +kernel
theorem dX8_step_37 : decode cX8_step 37 = .ok (.invokestatic 153, 3) := by decide +kernel
theorem dX8_step_40 : decode cX8_step 40 = .ok (.ireturn, 1) := by decide +kernel
theorem dX8_leads_0 : decode cX8_leads 0 = .ok (.aload_n 0, 1) := by decide +kernel
theorem dX8_leads_1 : decode cX8_leads 1 = .ok (.getfield 44, 3) := by decide +kernel
theorem dX8_leads_4 : decode cX8_leads 4 = .ok (.getfield 190, 3) := by decide +kernel
theorem dX8_leads_7 : decode cX8_leads 7 = .ok (.ifCond .eq 18, 3) := by decide +kernel
theorem dX8_leads_10 : decode cX8_leads 10 = .ok (.aload_n 0, 1) := by decide +kernel
theorem dX8_leads_11 : decode cX8_leads 11 = .ok (.iload_n 2, 1) := by decide +kernel
theorem dX8_leads_12 : decode cX8_leads 12 = .ok (.aload_n 0, 1) := by decide +kernel
theorem dX8_leads_13 : decode cX8_leads 13 = .ok (.getfield 44, 3) := by decide +kernel
theorem dX8_leads_16 : decode cX8_leads 16 = .ok (.getfield 194, 3) := by decide +kernel
theorem dX8_leads_19 : decode cX8_leads 19 = .ok (.invokevirtual 197, 3) := by decide +kernel
theorem dX8_leads_22 : decode cX8_leads 22 = .ok (.ifCond .ne 5, 3) := by decide +kernel
theorem dX8_leads_25 : decode cX8_leads 25 = .ok (.iconst (-1), 1) := by decide +kernel
theorem dX8_leads_26 : decode cX8_leads 26 = .ok (.ireturn, 1) := by decide +kernel
theorem dX8_leads_27 : decode cX8_leads 27 = .ok (.aload_n 0, 1) := by decide +kernel
theorem dX8_leads_28 : decode cX8_leads 28 = .ok (.getfield 44, 3) := by decide +kernel
theorem dX8_leads_31 : decode cX8_leads 31 = .ok (.getfield 201, 3) := by decide +kernel
theorem dX8_leads_34 : decode cX8_leads 34 = .ok (.ifCond .eq 45, 3) := by decide +kernel
theorem dX8_leads_37 : decode cX8_leads 37 = .ok (.aload_n 0, 1) := by decide +kernel
theorem dX8_leads_38 : decode cX8_leads 38 = .ok (.iload_n 1, 1) := by decide +kernel
theorem dX8_leads_39 : decode cX8_leads 39 = .ok (.aload_n 0, 1) := by decide +kernel
theorem dX8_leads_40 : decode cX8_leads 40 = .ok (.getfield 44, 3) := by decide +kernel
theorem dX8_leads_43 : decode cX8_leads 43 = .ok (.getfield 204, 3) := by decide +kernel
theorem dX8_leads_46 : decode cX8_leads 46 = .ok (.invokevirtual 197, 3) := by decide +kernel
theorem dX8_leads_49 : decode cX8_leads 49 = .ok (.ifCond .eq 28, 3) := by decide +kernel
theorem dX8_leads_52 : decode cX8_leads 52 = .ok (.aload_n 0, 1) := by decide +kernel
theorem dX8_leads_53 : decode cX8_leads 53 = .ok (.getfield 44, 3) := by decide +kernel
theorem dX8_leads_56 : decode cX8_leads 56 = .ok (.aload_n 0, 1) := by decide +kernel
theorem dX8_leads_57 : decode cX8_leads 57 = .ok (.getfield 36, 3) := by decide +kernel
theorem dX8_leads_60 : decode cX8_leads 60 = .ok (.iload_n 1, 1) := by decide +kernel
theorem dX8_leads_61 : decode cX8_leads 61 = .ok (.aaload, 1) := by decide +kernel
theorem dX8_leads_62 : decode cX8_leads 62 = .ok (.aload_n 0, 1) := by decide +kernel
theorem dX8_leads_63 : decode cX8_leads 63 = .ok (.getfield 36, 3) := by decide +kernel
theorem dX8_leads_66 : decode cX8_leads 66 = .ok (.iload_n 2, 1) := by decide +kernel
theorem dX8_leads_67 : decode cX8_leads 67 = .ok (.aaload, 1) := by decide +kernel
theorem dX8_leads_68 : decode cX8_leads 68 = .ok (.invokevirtual 207, 3) := by decide +kernel
theorem dX8_leads_71 : decode cX8_leads 71 = .ok (.invokestatic 211, 3) := by decide +kernel
theorem dX8_leads_74 : decode cX8_leads 74 = .ok (.goto 4, 3) := by decide +kernel
theorem dX8_leads_77 : decode cX8_leads 77 = .ok (.iconst (-1), 1) := by decide +kernel
theorem dX8_leads_78 : decode cX8_leads 78 = .ok (.ireturn, 1) := by decide +kernel
theorem dX8_leads_79 : decode cX8_leads 79 = .ok (.aload_n 0, 1) := by decide +kernel
theorem dX8_leads_80 : decode cX8_leads 80 = .ok (.getfield 44, 3) := by decide +kernel
theorem dX8_leads_83 : decode cX8_leads 83 = .ok (.aload_n 0, 1) := by decide +kernel
theorem dX8_leads_84 : decode cX8_leads 84 = .ok (.getfield 30, 3) := by decide +kernel
theorem dX8_leads_87 : decode cX8_leads 87 = .ok (.aload_n 0, 1) := by decide +kernel
theorem dX8_leads_88 : decode cX8_leads 88 = .ok (.getfield 44, 3) := by decide +kernel
theorem dX8_leads_91 : decode cX8_leads 91 = .ok (.getfield 204, 3) := by decide +kernel
theorem dX8_leads_94 : decode cX8_leads 94 = .ok (.invokevirtual 161, 3) := by decide +kernel
theorem dX8_leads_97 : decode cX8_leads 97 = .ok (.aload_n 0, 1) := by decide +kernel
theorem dX8_leads_98 : decode cX8_leads 98 = .ok (.getfield 36, 3) := by decide +kernel
theorem dX8_leads_101 : decode cX8_leads 101 = .ok (.iload_n 2, 1) := by decide +kernel
theorem dX8_leads_102 : decode cX8_leads 102 = .ok (.aaload, 1) := by decide +kernel
theorem dX8_leads_103 : decode cX8_leads 103 = .ok (.invokevirtual 215, 3) := by decide +kernel
theorem dX8_leads_106 : decode cX8_leads 106 = .ok (.invokestatic 211, 3) := by decide +kernel
theorem dX8_leads_109 : decode cX8_leads 109 = .ok (.ireturn, 1) := by decide +kernel
theorem dX8_audit_0 : decode cX8_audit 0 = .ok (.aload_n 0, 1) := by decide +kernel
theorem dX8_audit_1 : decode cX8_audit 1 = .ok (.getfield 51, 3) := by decide +kernel
theorem dX8_audit_4 : decode cX8_audit 4 = .ok (.aload_n 0, 1) := by decide +kernel
theorem dX8_audit_5 : decode cX8_audit 5 = .ok (.getfield 30, 3) := by decide +kernel
theorem dX8_audit_8 : decode cX8_audit 8 = .ok (.aload_n 0, 1) := by decide +kernel
theorem dX8_audit_9 : decode cX8_audit 9 = .ok (.getfield 23, 3) := by decide +kernel
theorem dX8_audit_12 : decode cX8_audit 12 = .ok (.invokevirtual 219, 3) := by decide +kernel
theorem dX8_audit_15 : decode cX8_audit 15 = .ok (.istore_n 1, 1) := by decide +kernel
theorem dX8_audit_16 : decode cX8_audit 16 = .ok (.iload_n 1, 1) := by decide +kernel
theorem dX8_audit_17 : decode cX8_audit 17 = .ok (.iconst (-1), 1) := by decide +kernel
theorem dX8_audit_18 : decode cX8_audit 18 = .ok (.if_icmp .eq 5, 3) := by decide +kernel
theorem dX8_audit_21 : decode cX8_audit 21 = .ok (.iload_n 1, 1) := by decide +kernel
theorem dX8_audit_22 : decode cX8_audit 22 = .ok (.ireturn, 1) := by decide +kernel
theorem dX8_audit_23 : decode cX8_audit 23 = .ok (.iconst 0, 1) := by decide +kernel
theorem dX8_audit_24 : decode cX8_audit 24 = .ok (.istore_n 2, 1) := by decide +kernel
theorem dX8_audit_25 : decode cX8_audit 25 = .ok (.iload_n 2, 1) := by decide +kernel
theorem dX8_audit_26 : decode cX8_audit 26 = .ok (.aload_n 0, 1) := by decide +kernel
theorem dX8_audit_27 : decode cX8_audit 27 = .ok (.getfield 30, 3) := by decide +kernel
theorem dX8_audit_30 : decode cX8_audit 30 = .ok (.invokevirtual 137, 3) := by decide +kernel
theorem dX8_audit_33 : decode cX8_audit 33 = .ok (.if_icmp .ge 39, 3) := by decide +kernel
theorem dX8_audit_36 : decode cX8_audit 36 = .ok (.aload_n 0, 1) := by decide +kernel
theorem dX8_audit_37 : decode cX8_audit 37 = .ok (.getfield 30, 3) := by decide +kernel
theorem dX8_audit_40 : decode cX8_audit 40 = .ok (.getfield 140, 3) := by decide +kernel
theorem dX8_audit_43 : decode cX8_audit 43 = .ok (.iload_n 2, 1) := by decide +kernel
theorem dX8_audit_44 : decode cX8_audit 44 = .ok (.baload, 1) := by decide +kernel
theorem dX8_audit_45 : decode cX8_audit 45 = .ok (.aload_n 0, 1) := by decide +kernel
theorem dX8_audit_46 : decode cX8_audit 46 = .ok (.getfield 12, 3) := by decide +kernel
theorem dX8_audit_49 : decode cX8_audit 49 = .ok (.getfield 223, 3) := by decide +kernel
theorem dX8_audit_52 : decode cX8_audit 52 = .ok (.iload_n 2, 1) := by decide +kernel
theorem dX8_audit_53 : decode cX8_audit 53 = .ok (.baload, 1) := by decide +kernel
theorem dX8_audit_54 : decode cX8_audit 54 = .ok (.if_icmp .eq 12, 3) := by decide +kernel
theorem dX8_audit_57 : decode cX8_audit 57 = .ok (.aload_n 0, 1) := by decide +kernel
theorem dX8_audit_58 : decode cX8_audit 58 = .ok (.getfield 30, 3) := by decide +kernel
theorem dX8_audit_61 : decode cX8_audit 61 = .ok (.iload_n 2, 1) := by decide +kernel
theorem dX8_audit_62 : decode cX8_audit 62 = .ok (.invokevirtual 226, 3) := by decide +kernel
theorem dX8_audit_65 : decode cX8_audit 65 = .ok (.ireturn, 1) := by decide +kernel
theorem dX8_audit_66 : decode cX8_audit 66 = .ok (.iinc 2 1, 3) := by decide +kernel
theorem dX8_audit_69 : decode cX8_audit 69 = .ok (.goto (-44), 3) := by decide +kernel
theorem dX8_audit_72 : decode cX8_audit 72 = .ok (.iconst (-1), 1) := by decide +kernel
theorem dX8_audit_73 : decode cX8_audit 73 = .ok (.ireturn, 1) := by decide +kernel
theorem dX8_count_0 : decode cX8_count 0 = .ok (.iload_n 1, 1) := by decide +kernel
theorem dX8_count_1 : decode cX8_count 1 = .ok (.tableswitch 108 0 7 #[47, 55, 63, 71, 79, 87, 95, 103], 47) := by decide +kernel
theorem dX8_count_48 : decode cX8_count 48 = .ok (.aload_n 0, 1) := by decide +kernel
theorem dX8_count_49 : decode cX8_count 49 = .ok (.getfield 12, 3) := by decide +kernel
theorem dX8_count_52 : decode cX8_count 52 = .ok (.getfield 103, 3) := by decide +kernel
theorem dX8_count_55 : decode cX8_count 55 = .ok (.ireturn, 1) := by decide +kernel
theorem dX8_count_56 : decode cX8_count 56 = .ok (.aload_n 0, 1) := by decide +kernel
theorem dX8_count_57 : decode cX8_count 57 = .ok (.getfield 12, 3) := by decide +kernel
theorem dX8_count_60 : decode cX8_count 60 = .ok (.getfield 100, 3) := by decide +kernel
theorem dX8_count_63 : decode cX8_count 63 = .ok (.ireturn, 1) := by decide +kernel
theorem dX8_count_64 : decode cX8_count 64 = .ok (.aload_n 0, 1) := by decide +kernel
theorem dX8_count_65 : decode cX8_count 65 = .ok (.getfield 30, 3) := by decide +kernel
theorem dX8_count_68 : decode cX8_count 68 = .ok (.invokevirtual 137, 3) := by decide +kernel
theorem dX8_count_71 : decode cX8_count 71 = .ok (.ireturn, 1) := by decide +kernel
theorem dX8_count_72 : decode cX8_count 72 = .ok (.aload_n 0, 1) := by decide +kernel
theorem dX8_count_73 : decode cX8_count 73 = .ok (.getfield 12, 3) := by decide +kernel
theorem dX8_count_76 : decode cX8_count 76 = .ok (.getfield 229, 3) := by decide +kernel
theorem dX8_count_79 : decode cX8_count 79 = .ok (.ireturn, 1) := by decide +kernel
theorem dX8_count_80 : decode cX8_count 80 = .ok (.aload_n 0, 1) := by decide +kernel
theorem dX8_count_81 : decode cX8_count 81 = .ok (.getfield 12, 3) := by decide +kernel
theorem dX8_count_84 : decode cX8_count 84 = .ok (.getfield 93, 3) := by decide +kernel
theorem dX8_count_87 : decode cX8_count 87 = .ok (.ireturn, 1) := by decide +kernel
theorem dX8_count_88 : decode cX8_count 88 = .ok (.aload_n 0, 1) := by decide +kernel
theorem dX8_count_89 : decode cX8_count 89 = .ok (.getfield 12, 3) := by decide +kernel
theorem dX8_count_92 : decode cX8_count 92 = .ok (.getfield 232, 3) := by decide +kernel
theorem dX8_count_95 : decode cX8_count 95 = .ok (.ireturn, 1) := by decide +kernel
theorem dX8_count_96 : decode cX8_count 96 = .ok (.aload_n 0, 1) := by decide +kernel
theorem dX8_count_97 : decode cX8_count 97 = .ok (.getfield 19, 3) := by decide +kernel
theorem dX8_count_100 : decode cX8_count 100 = .ok (.getfield 70, 3) := by decide +kernel
theorem dX8_count_103 : decode cX8_count 103 = .ok (.ireturn, 1) := by decide +kernel
theorem dX8_count_104 : decode cX8_count 104 = .ok (.aload_n 0, 1) := by decide +kernel
theorem dX8_count_105 : decode cX8_count 105 = .ok (.invokevirtual 235, 3) := by decide +kernel
theorem dX8_count_108 : decode cX8_count 108 = .ok (.ireturn, 1) := by decide +kernel
theorem dX8_count_109 : decode cX8_count 109 = .ok (.iconst (-1), 1) := by decide +kernel
theorem dX8_count_110 : decode cX8_count 110 = .ok (.ireturn, 1) := by decide +kernel
theorem dX8_written_0 : decode cX8_written 0 = .ok (.aload_n 0, 1) := by decide +kernel
theorem dX8_written_1 : decode cX8_written 1 = .ok (.getfield 30, 3) := by decide +kernel
theorem dX8_written_4 : decode cX8_written 4 = .ok (.aload_n 0, 1) := by decide +kernel
theorem dX8_written_5 : decode cX8_written 5 = .ok (.getfield 12, 3) := by decide +kernel
theorem dX8_written_8 : decode cX8_written 8 = .ok (.invokevirtual 238, 3) := by decide +kernel
theorem dX8_written_11 : decode cX8_written 11 = .ok (.iload_n 1, 1) := by decide +kernel
theorem dX8_written_12 : decode cX8_written 12 = .ok (.ireturn, 1) := by decide +kernel
theorem dX8_legOf_0 : decode cX8_legOf 0 = .ok (.aload_n 0, 1) := by decide +kernel
theorem dX8_legOf_1 : decode cX8_legOf 1 = .ok (.getfield 12, 3) := by decide +kernel
theorem dX8_legOf_4 : decode cX8_legOf 4 = .ok (.getfield 127, 3) := by decide +kernel
theorem dX8_legOf_7 : decode cX8_legOf 7 = .ok (.iload_n 1, 1) := by decide +kernel
theorem dX8_legOf_8 : decode cX8_legOf 8 = .ok (.iaload, 1) := by decide +kernel
theorem dX8_legOf_9 : decode cX8_legOf 9 = .ok (.istore_n 3, 1) := by decide +kernel
theorem dX8_legOf_10 : decode cX8_legOf 10 = .ok (.iload_n 2, 1) := by decide +kernel
theorem dX8_legOf_11 : decode cX8_legOf 11 = .ok (.bipush 10, 2) := by decide +kernel
theorem dX8_legOf_13 : decode cX8_legOf 13 = .ok (.if_icmp .lt 30, 3) := by decide +kernel
theorem dX8_legOf_16 : decode cX8_legOf 16 = .ok (.iload_n 2, 1) := by decide +kernel
theorem dX8_legOf_17 : decode cX8_legOf 17 = .ok (.bipush 10, 2) := by decide +kernel
theorem dX8_legOf_19 : decode cX8_legOf 19 = .ok (.iload_n 3, 1) := by decide +kernel
theorem dX8_legOf_20 : decode cX8_legOf 20 = .ok (.iadd, 1) := by decide +kernel
theorem dX8_legOf_21 : decode cX8_legOf 21 = .ok (.if_icmp .ge 22, 3) := by decide +kernel
theorem dX8_legOf_24 : decode cX8_legOf 24 = .ok (.aload_n 0, 1) := by decide +kernel
theorem dX8_legOf_25 : decode cX8_legOf 25 = .ok (.getfield 12, 3) := by decide +kernel
theorem dX8_legOf_28 : decode cX8_legOf 28 = .ok (.getfield 242, 3) := by decide +kernel
theorem dX8_legOf_31 : decode cX8_legOf 31 = .ok (.iload_n 1, 1) := by decide +kernel
theorem dX8_legOf_32 : decode cX8_legOf 32 = .ok (.bipush 8, 2) := by decide +kernel
theorem dX8_legOf_34 : decode cX8_legOf 34 = .ok (.imul, 1) := by decide +kernel
theorem dX8_legOf_35 : decode cX8_legOf 35 = .ok (.iload_n 2, 1) := by decide +kernel
theorem dX8_legOf_36 : decode cX8_legOf 36 = .ok (.iadd, 1) := by decide +kernel
theorem dX8_legOf_37 : decode cX8_legOf 37 = .ok (.bipush 10, 2) := by decide +kernel
theorem dX8_legOf_39 : decode cX8_legOf 39 = .ok (.isub, 1) := by decide +kernel
theorem dX8_legOf_40 : decode cX8_legOf 40 = .ok (.iaload, 1) := by decide +kernel
theorem dX8_legOf_41 : decode cX8_legOf 41 = .ok (.i2l, 1) := by decide +kernel
theorem dX8_legOf_42 : decode cX8_legOf 42 = .ok (.lreturn, 1) := by decide +kernel
theorem dX8_legOf_43 : decode cX8_legOf 43 = .ok (.iload_n 2, 1) := by decide +kernel
theorem dX8_legOf_44 : decode cX8_legOf 44 = .ok (.bipush 30, 2) := by decide +kernel
theorem dX8_legOf_46 : decode cX8_legOf 46 = .ok (.if_icmp .lt 29, 3) := by decide +kernel
theorem dX8_legOf_49 : decode cX8_legOf 49 = .ok (.iload_n 2, 1) := by decide +kernel
theorem dX8_legOf_50 : decode cX8_legOf 50 = .ok (.bipush 30, 2) := by decide +kernel
theorem dX8_legOf_52 : decode cX8_legOf 52 = .ok (.iload_n 3, 1) := by decide +kernel
theorem dX8_legOf_53 : decode cX8_legOf 53 = .ok (.iadd, 1) := by decide +kernel
theorem dX8_legOf_54 : decode cX8_legOf 54 = .ok (.if_icmp .ge 21, 3) := by decide +kernel
theorem dX8_legOf_57 : decode cX8_legOf 57 = .ok (.aload_n 0, 1) := by decide +kernel
theorem dX8_legOf_58 : decode cX8_legOf 58 = .ok (.getfield 12, 3) := by decide +kernel
theorem dX8_legOf_61 : decode cX8_legOf 61 = .ok (.getfield 245, 3) := by decide +kernel
theorem dX8_legOf_64 : decode cX8_legOf 64 = .ok (.iload_n 1, 1) := by decide +kernel
theorem dX8_legOf_65 : decode cX8_legOf 65 = .ok (.bipush 8, 2) := by decide +kernel
theorem dX8_legOf_67 : decode cX8_legOf 67 = .ok (.imul, 1) := by decide +kernel
theorem dX8_legOf_68 : decode cX8_legOf 68 = .ok (.iload_n 2, 1) := by decide +kernel
theorem dX8_legOf_69 : decode cX8_legOf 69 = .ok (.iadd, 1) := by decide +kernel
theorem dX8_legOf_70 : decode cX8_legOf 70 = .ok (.bipush 30, 2) := by decide +kernel
theorem dX8_legOf_72 : decode cX8_legOf 72 = .ok (.isub, 1) := by decide +kernel
theorem dX8_legOf_73 : decode cX8_legOf 73 = .ok (.laload, 1) := by decide +kernel
theorem dX8_legOf_74 : decode cX8_legOf 74 = .ok (.lreturn, 1) := by decide +kernel
theorem dX8_legOf_75 : decode cX8_legOf 75 = .ok (.ldc2_w 106, 3) := by decide +kernel
theorem dX8_legOf_78 : decode cX8_legOf 78 = .ok (.lreturn, 1) := by decide +kernel
theorem dX8_alteredBytes_0 : decode cX8_alteredBytes 0 = .ok (.iconst 0, 1) := by decide +kernel
theorem dX8_alteredBytes_1 : decode cX8_alteredBytes 1 = .ok (.istore_n 1, 1) := by decide +kernel
theorem dX8_alteredBytes_2 : decode cX8_alteredBytes 2 = .ok (.iconst 0, 1) := by decide +kernel
theorem dX8_alteredBytes_3 : decode cX8_alteredBytes 3 = .ok (.istore_n 2, 1) := by decide +kernel
theorem dX8_alteredBytes_4 : decode cX8_alteredBytes 4 = .ok (.iload_n 2, 1) := by decide +kernel
theorem dX8_alteredBytes_5 : decode cX8_alteredBytes 5 = .ok (.aload_n 0, 1) := by decide +kernel
theorem dX8_alteredBytes_6 : decode cX8_alteredBytes 6 = .ok (.getfield 30, 3) := by decide +kernel
theorem dX8_alteredBytes_9 : decode cX8_alteredBytes 9 = .ok (.invokevirtual 137, 3) := by decide +kernel
theorem dX8_alteredBytes_12 : decode cX8_alteredBytes 12 = .ok (.if_icmp .ge 33, 3) := by decide +kernel
theorem dX8_alteredBytes_15 : decode cX8_alteredBytes 15 = .ok (.aload_n 0, 1) := by decide +kernel
theorem dX8_alteredBytes_16 : decode cX8_alteredBytes 16 = .ok (.getfield 30, 3) := by decide +kernel
theorem dX8_alteredBytes_19 : decode cX8_alteredBytes 19 = .ok (.getfield 140, 3) := by decide +kernel
theorem dX8_alteredBytes_22 : decode cX8_alteredBytes 22 = .ok (.iload_n 2, 1) := by decide +kernel
theorem dX8_alteredBytes_23 : decode cX8_alteredBytes 23 = .ok (.baload, 1) := by decide +kernel
theorem dX8_alteredBytes_24 : decode cX8_alteredBytes 24 = .ok (.aload_n 0, 1) := by decide +kernel
theorem dX8_alteredBytes_25 : decode cX8_alteredBytes 25 = .ok (.getfield 12, 3) := by decide +kernel
theorem dX8_alteredBytes_28 : decode cX8_alteredBytes 28 = .ok (.getfield 223, 3) := by decide +kernel
theorem dX8_alteredBytes_31 : decode cX8_alteredBytes 31 = .ok (.iload_n 2, 1) := by decide +kernel
theorem dX8_alteredBytes_32 : decode cX8_alteredBytes 32 = .ok (.baload, 1) := by decide +kernel
theorem dX8_alteredBytes_33 : decode cX8_alteredBytes 33 = .ok (.if_icmp .eq 6, 3) := by decide +kernel
theorem dX8_alteredBytes_36 : decode cX8_alteredBytes 36 = .ok (.iinc 1 1, 3) := by decide +kernel
theorem dX8_alteredBytes_39 : decode cX8_alteredBytes 39 = .ok (.iinc 2 1, 3) := by decide +kernel
theorem dX8_alteredBytes_42 : decode cX8_alteredBytes 42 = .ok (.goto (-38), 3) := by decide +kernel
theorem dX8_alteredBytes_45 : decode cX8_alteredBytes 45 = .ok (.iload_n 1, 1) := by decide +kernel
theorem dX8_alteredBytes_46 : decode cX8_alteredBytes 46 = .ok (.ireturn, 1) := by decide +kernel
theorem dX8_isHeadOf_0 : decode cX8_isHeadOf 0 = .ok (.iload_n 1, 1) := by decide +kernel
theorem dX8_isHeadOf_1 : decode cX8_isHeadOf 1 = .ok (.ifCond .lt 26, 3) := by decide +kernel
theorem dX8_isHeadOf_4 : decode cX8_isHeadOf 4 = .ok (.iload_n 1, 1) := by decide +kernel
theorem dX8_isHeadOf_5 : decode cX8_isHeadOf 5 = .ok (.bipush 8, 2) := by decide +kernel
theorem dX8_isHeadOf_7 : decode cX8_isHeadOf 7 = .ok (.if_icmp .ge 20, 3) := by decide +kernel
theorem dX8_isHeadOf_10 : decode cX8_isHeadOf 10 = .ok (.aload_n 0, 1) := by decide +kernel
theorem dX8_isHeadOf_11 : decode cX8_isHeadOf 11 = .ok (.getfield 36, 3) := by decide +kernel
theorem dX8_isHeadOf_14 : decode cX8_isHeadOf 14 = .ok (.iload_n 1, 1) := by decide +kernel
theorem dX8_isHeadOf_15 : decode cX8_isHeadOf 15 = .ok (.aaload, 1) := by decide +kernel
theorem dX8_isHeadOf_16 : decode cX8_isHeadOf 16 = .ok (.getfield 164, 3) := by decide +kernel
theorem dX8_isHeadOf_19 : decode cX8_isHeadOf 19 = .ok (.iload_n 2, 1) := by decide +kernel
theorem dX8_isHeadOf_20 : decode cX8_isHeadOf 20 = .ok (.if_icmp .ne 7, 3) := by decide +kernel
theorem dX8_isHeadOf_23 : decode cX8_isHeadOf 23 = .ok (.iconst 1, 1) := by decide +kernel
theorem dX8_isHeadOf_24 : decode cX8_isHeadOf 24 = .ok (.goto 4, 3) := by decide +kernel
theorem dX8_isHeadOf_27 : decode cX8_isHeadOf 27 = .ok (.iconst 0, 1) := by decide +kernel
theorem dX8_isHeadOf_28 : decode cX8_isHeadOf 28 = .ok (.ireturn, 1) := by decide +kernel
theorem dX8_oneIf_0 : decode cX8_oneIf 0 = .ok (.iload_n 0, 1) := by decide +kernel
theorem dX8_oneIf_1 : decode cX8_oneIf 1 = .ok (.ifCond .eq 7, 3) := by decide +kernel
theorem dX8_oneIf_4 : decode cX8_oneIf 4 = .ok (.iconst 1, 1) := by decide +kernel
theorem dX8_oneIf_5 : decode cX8_oneIf 5 = .ok (.goto 4, 3) := by decide +kernel
theorem dX8_oneIf_8 : decode cX8_oneIf 8 = .ok (.iconst 0, 1) := by decide +kernel
theorem dX8_oneIf_9 : decode cX8_oneIf 9 = .ok (.ireturn, 1) := by decide +kernel
theorem dX8_byteOf_0 : decode cX8_byteOf 0 = .ok (.aload_n 0, 1) := by decide +kernel
theorem dX8_byteOf_1 : decode cX8_byteOf 1 = .ok (.iload_n 1, 1) := by decide +kernel
theorem dX8_byteOf_2 : decode cX8_byteOf 2 = .ok (.iconst 2, 1) := by decide +kernel
theorem dX8_byteOf_3 : decode cX8_byteOf 3 = .ok (.ishr, 1) := by decide +kernel
theorem dX8_byteOf_4 : decode cX8_byteOf 4 = .ok (.iaload, 1) := by decide +kernel
theorem dX8_byteOf_5 : decode cX8_byteOf 5 = .ok (.bipush 24, 2) := by decide +kernel
theorem dX8_byteOf_7 : decode cX8_byteOf 7 = .ok (.bipush 8, 2) := by decide +kernel
theorem dX8_byteOf_9 : decode cX8_byteOf 9 = .ok (.iload_n 1, 1) := by decide +kernel
theorem dX8_byteOf_10 : decode cX8_byteOf 10 = .ok (.iconst 3, 1) := by decide +kernel
theorem dX8_byteOf_11 : decode cX8_byteOf 11 = .ok (.iand, 1) := by decide +kernel
theorem dX8_byteOf_12 : decode cX8_byteOf 12 = .ok (.imul, 1) := by decide +kernel
theorem dX8_byteOf_13 : decode cX8_byteOf 13 = .ok (.isub, 1) := by decide +kernel
theorem dX8_byteOf_14 : decode cX8_byteOf 14 = .ok (.iushr, 1) := by decide +kernel
theorem dX8_byteOf_15 : decode cX8_byteOf 15 = .ok (.sipush 255, 3) := by decide +kernel
theorem dX8_byteOf_18 : decode cX8_byteOf 18 = .ok (.iand, 1) := by decide +kernel
theorem dX8_byteOf_19 : decode cX8_byteOf 19 = .ok (.ireturn, 1) := by decide +kernel
theorem dX8_copyHash_0 : decode cX8_copyHash 0 = .ok (.iconst 0, 1) := by decide +kernel
theorem dX8_copyHash_1 : decode cX8_copyHash 1 = .ok (.istore_n 2, 1) := by decide +kernel
theorem dX8_copyHash_2 : decode cX8_copyHash 2 = .ok (.iload_n 2, 1) := by decide +kernel
theorem dX8_copyHash_3 : decode cX8_copyHash 3 = .ok (.bipush 8, 2) := by decide +kernel
theorem dX8_copyHash_5 : decode cX8_copyHash 5 = .ok (.if_icmp .ge 15, 3) := by decide +kernel
theorem dX8_copyHash_8 : decode cX8_copyHash 8 = .ok (.aload_n 1, 1) := by decide +kernel
theorem dX8_copyHash_9 : decode cX8_copyHash 9 = .ok (.iload_n 2, 1) := by decide +kernel
theorem dX8_copyHash_10 : decode cX8_copyHash 10 = .ok (.aload_n 0, 1) := by decide +kernel
theorem dX8_copyHash_11 : decode cX8_copyHash 11 = .ok (.iload_n 2, 1) := by decide +kernel
theorem dX8_copyHash_12 : decode cX8_copyHash 12 = .ok (.iaload, 1) := by decide +kernel
theorem dX8_copyHash_13 : decode cX8_copyHash 13 = .ok (.iastore, 1) := by decide +kernel
theorem dX8_copyHash_14 : decode cX8_copyHash 14 = .ok (.iinc 2 1, 3) := by decide +kernel
theorem dX8_copyHash_17 : decode cX8_copyHash 17 = .ok (.goto (-15), 3) := by decide +kernel
theorem dX8_copyHash_20 : decode cX8_copyHash 20 = .ok (.return_, 1) := by decide +kernel
theorem dX8_sameHash_0 : decode cX8_sameHash 0 = .ok (.iconst 0, 1) := by decide +kernel
theorem dX8_sameHash_1 : decode cX8_sameHash 1 = .ok (.istore_n 2, 1) := by decide +kernel
theorem dX8_sameHash_2 : decode cX8_sameHash 2 = .ok (.iload_n 2, 1) := by decide +kernel
theorem dX8_sameHash_3 : decode cX8_sameHash 3 = .ok (.bipush 8, 2) := by decide +kernel
theorem dX8_sameHash_5 : decode cX8_sameHash 5 = .ok (.if_icmp .ge 20, 3) := by decide +kernel
theorem dX8_sameHash_8 : decode cX8_sameHash 8 = .ok (.aload_n 0, 1) := by decide +kernel
theorem dX8_sameHash_9 : decode cX8_sameHash 9 = .ok (.iload_n 2, 1) := by decide +kernel
theorem dX8_sameHash_10 : decode cX8_sameHash 10 = .ok (.iaload, 1) := by decide +kernel
theorem dX8_sameHash_11 : decode cX8_sameHash 11 = .ok (.aload_n 1, 1) := by decide +kernel
theorem dX8_sameHash_12 : decode cX8_sameHash 12 = .ok (.iload_n 2, 1) := by decide +kernel
theorem dX8_sameHash_13 : decode cX8_sameHash 13 = .ok (.iaload, 1) := by decide +kernel
theorem dX8_sameHash_14 : decode cX8_sameHash 14 = .ok (.if_icmp .eq 5, 3) := by decide +kernel
theorem dX8_sameHash_17 : decode cX8_sameHash 17 = .ok (.iconst 0, 1) := by decide +kernel
theorem dX8_sameHash_18 : decode cX8_sameHash 18 = .ok (.ireturn, 1) := by decide +kernel
theorem dX8_sameHash_19 : decode cX8_sameHash 19 = .ok (.iinc 2 1, 3) := by decide +kernel
theorem dX8_sameHash_22 : decode cX8_sameHash 22 = .ok (.goto (-20), 3) := by decide +kernel
theorem dX8_sameHash_25 : decode cX8_sameHash 25 = .ok (.iconst 1, 1) := by decide +kernel
theorem dX8_sameHash_26 : decode cX8_sameHash 26 = .ok (.ireturn, 1) := by decide +kernel
theorem dX8_isByte_0 : decode cX8_isByte 0 = .ok (.iload_n 0, 1) := by decide +kernel
theorem dX8_isByte_1 : decode cX8_isByte 1 = .ok (.ifCond .lt 14, 3) := by decide +kernel
theorem dX8_isByte_4 : decode cX8_isByte 4 = .ok (.iload_n 0, 1) := by decide +kernel
theorem dX8_isByte_5 : decode cX8_isByte 5 = .ok (.sipush 255, 3) := by decide +kernel
theorem dX8_isByte_8 : decode cX8_isByte 8 = .ok (.if_icmp .gt 7, 3) := by decide +kernel
theorem dX8_isByte_11 : decode cX8_isByte 11 = .ok (.iconst 1, 1) := by decide +kernel
theorem dX8_isByte_12 : decode cX8_isByte 12 = .ok (.goto 4, 3) := by decide +kernel
theorem dX8_isByte_15 : decode cX8_isByte 15 = .ok (.iconst 0, 1) := by decide +kernel
theorem dX8_isByte_16 : decode cX8_isByte 16 = .ok (.ireturn, 1) := by decide +kernel
theorem dX8_canBeEntry_0 : decode cX8_canBeEntry 0 = .ok (.iload_n 0, 1) := by decide +kernel
theorem dX8_canBeEntry_1 : decode cX8_canBeEntry 1 = .ok (.ifCond .lt 14, 3) := by decide +kernel
theorem dX8_canBeEntry_4 : decode cX8_canBeEntry 4 = .ok (.iload_n 0, 1) := by decide +kernel
theorem dX8_canBeEntry_5 : decode cX8_canBeEntry 5 = .ok (.sipush 200, 3) := by decide +kernel
theorem dX8_canBeEntry_8 : decode cX8_canBeEntry 8 = .ok (.if_icmp .ge 7, 3) := by decide +kernel
theorem dX8_canBeEntry_11 : decode cX8_canBeEntry 11 = .ok (.iconst 1, 1) := by decide +kernel
theorem dX8_canBeEntry_12 : decode cX8_canBeEntry 12 = .ok (.goto 4, 3) := by decide +kernel
theorem dX8_canBeEntry_15 : decode cX8_canBeEntry 15 = .ok (.iconst 0, 1) := by decide +kernel
theorem dX8_canBeEntry_16 : decode cX8_canBeEntry 16 = .ok (.ireturn, 1) := by decide +kernel
theorem dX8_isBelow_0 : decode cX8_isBelow 0 = .ok (.lload_n 0, 1) := by decide +kernel
theorem dX8_isBelow_1 : decode cX8_isBelow 1 = .ok (.ldc2_w 106, 3) := by decide +kernel
theorem dX8_isBelow_4 : decode cX8_isBelow 4 = .ok (.lxor, 1) := by decide +kernel
theorem dX8_isBelow_5 : decode cX8_isBelow 5 = .ok (.lload_n 2, 1) := by decide +kernel
theorem dX8_isBelow_6 : decode cX8_isBelow 6 = .ok (.ldc2_w 106, 3) := by decide +kernel
theorem dX8_isBelow_9 : decode cX8_isBelow 9 = .ok (.lxor, 1) := by decide +kernel
theorem dX8_isBelow_10 : decode cX8_isBelow 10 = .ok (.lcmp, 1) := by decide +kernel
theorem dX8_isBelow_11 : decode cX8_isBelow 11 = .ok (.ifCond .ge 7, 3) := by decide +kernel
theorem dX8_isBelow_14 : decode cX8_isBelow 14 = .ok (.iconst 1, 1) := by decide +kernel
theorem dX8_isBelow_15 : decode cX8_isBelow 15 = .ok (.goto 4, 3) := by decide +kernel
theorem dX8_isBelow_18 : decode cX8_isBelow 18 = .ok (.iconst 0, 1) := by decide +kernel
theorem dX8_isBelow_19 : decode cX8_isBelow 19 = .ok (.ireturn, 1) := by decide +kernel
theorem dX9_init_0 : decode cX9_init 0 = .ok (.aload_n 0, 1) := by decide +kernel
theorem dX9_init_1 : decode cX9_init 1 = .ok (.invokespecial 1, 3) := by decide +kernel
theorem dX9_init_4 : decode cX9_init 4 = .ok (.aload_n 0, 1) := by decide +kernel
theorem dX9_init_5 : decode cX9_init 5 = .ok (.iconst 2, 1) := by decide +kernel
theorem dX9_init_6 : decode cX9_init 6 = .ok (.newarray .int, 2) := by decide +kernel
theorem dX9_init_8 : decode cX9_init 8 = .ok (.putfield 7, 3) := by decide +kernel
theorem dX9_init_11 : decode cX9_init 11 = .ok (.aload_n 0, 1) := by decide +kernel
theorem dX9_init_12 : decode cX9_init 12 = .ok (.iconst 2, 1) := by decide +kernel
theorem dX9_init_13 : decode cX9_init 13 = .ok (.newarray .int, 2) := by decide +kernel
theorem dX9_init_15 : decode cX9_init 15 = .ok (.putfield 13, 3) := by decide +kernel
theorem dX9_init_18 : decode cX9_init 18 = .ok (.aload_n 0, 1) := by decide +kernel
theorem dX9_init_19 : decode cX9_init 19 = .ok (.iconst 2, 1) := by decide +kernel
theorem dX9_init_20 : decode cX9_init 20 = .ok (.newarray .int, 2) := by decide +kernel
theorem dX9_init_22 : decode cX9_init 22 = .ok (.putfield 16, 3) := by decide +kernel
theorem dX9_init_25 : decode cX9_init 25 = .ok (.aload_n 0, 1) := by decide +kernel
theorem dX9_init_26 : decode cX9_init 26 = .ok (.iconst 2, 1) := by decide +kernel
theorem dX9_init_27 : decode cX9_init 27 = .ok (.newarray .int, 2) := by decide +kernel
theorem dX9_init_29 : decode cX9_init 29 = .ok (.putfield 19, 3) := by decide +kernel
theorem dX9_init_32 : decode cX9_init 32 = .ok (.aload_n 0, 1) := by decide +kernel
theorem dX9_init_33 : decode cX9_init 33 = .ok (.iconst 2, 1) := by decide +kernel
theorem dX9_init_34 : decode cX9_init 34 = .ok (.newarray .boolean, 2) := by decide +kernel
theorem dX9_init_36 : decode cX9_init 36 = .ok (.putfield 22, 3) := by decide +kernel
theorem dX9_init_39 : decode cX9_init 39 = .ok (.aload_n 0, 1) := by decide +kernel
theorem dX9_init_40 : decode cX9_init 40 = .ok (.bipush 80, 2) := by decide +kernel
theorem dX9_init_42 : decode cX9_init 42 = .ok (.newarray .long, 2) := by decide +kernel
theorem dX9_init_44 : decode cX9_init 44 = .ok (.putfield 26, 3) := by decide +kernel
theorem dX9_init_47 : decode cX9_init 47 = .ok (.aload_n 0, 1) := by decide +kernel
theorem dX9_init_48 : decode cX9_init 48 = .ok (.bipush 80, 2) := by decide +kernel
theorem dX9_init_50 : decode cX9_init 50 = .ok (.newarray .long, 2) := by decide +kernel
theorem dX9_init_52 : decode cX9_init 52 = .ok (.putfield 30, 3) := by decide +kernel
theorem dX9_init_55 : decode cX9_init 55 = .ok (.aload_n 0, 1) := by decide +kernel
theorem dX9_init_56 : decode cX9_init 56 = .ok (.bipush 80, 2) := by decide +kernel
theorem dX9_init_58 : decode cX9_init 58 = .ok (.newarray .long, 2) := by decide +kernel
theorem dX9_init_60 : decode cX9_init 60 = .ok (.putfield 33, 3) := by decide +kernel
theorem dX9_init_63 : decode cX9_init 63 = .ok (.aload_n 0, 1) := by decide +kernel
theorem dX9_init_64 : decode cX9_init 64 = .ok (.bipush 80, 2) := by decide +kernel
theorem dX9_init_66 : decode cX9_init 66 = .ok (.newarray .long, 2) := by decide +kernel
theorem dX9_init_68 : decode cX9_init 68 = .ok (.putfield 36, 3) := by decide +kernel
theorem dX9_init_71 : decode cX9_init 71 = .ok (.aload_n 0, 1) := by decide +kernel
theorem dX9_init_72 : decode cX9_init 72 = .ok (.sipush 400, 3) := by decide +kernel
theorem dX9_init_75 : decode cX9_init 75 = .ok (.newarray .int, 2) := by decide +kernel
theorem dX9_init_77 : decode cX9_init 77 = .ok (.putfield 39, 3) := by decide +kernel
theorem dX9_init_80 : decode cX9_init 80 = .ok (.aload_n 0, 1) := by decide +kernel
theorem dX9_init_81 : decode cX9_init 81 = .ok (.sipush 400, 3) := by decide +kernel
theorem dX9_init_84 : decode cX9_init 84 = .ok (.newarray .long, 2) := by decide +kernel
theorem dX9_init_86 : decode cX9_init 86 = .ok (.putfield 42, 3) := by decide +kernel
theorem dX9_init_89 : decode cX9_init 89 = .ok (.aload_n 0, 1) := by decide +kernel
theorem dX9_init_90 : decode cX9_init 90 = .ok (.sipush 400, 3) := by decide +kernel
theorem dX9_init_93 : decode cX9_init 93 = .ok (.newarray .int, 2) := by decide +kernel
theorem dX9_init_95 : decode cX9_init 95 = .ok (.putfield 45, 3) := by decide +kernel
theorem dX9_init_98 : decode cX9_init 98 = .ok (.aload_n 0, 1) := by decide +kernel
theorem dX9_init_99 : decode cX9_init 99 = .ok (.sipush 3200, 3) := by decide +kernel
theorem dX9_init_102 : decode cX9_init 102 = .ok (.newarray .int, 2) := by decide +kernel
theorem dX9_init_104 : decode cX9_init 104 = .ok (.putfield 48, 3) := by decide +kernel
theorem dX9_init_107 : decode cX9_init 107 = .ok (.aload_n 0, 1) := by decide +kernel
theorem dX9_init_108 : decode cX9_init 108 = .ok (.sipush 3200, 3) := by decide +kernel
theorem dX9_init_111 : decode cX9_init 111 = .ok (.newarray .long, 2) := by decide +kernel
theorem dX9_init_113 : decode cX9_init 113 = .ok (.putfield 51, 3) := by decide +kernel
theorem dX9_init_116 : decode cX9_init 116 = .ok (.aload_n 0, 1) := by decide +kernel
theorem dX9_init_117 : decode cX9_init 117 = .ok (.sipush 400, 3) := by decide +kernel
theorem dX9_init_120 : decode cX9_init 120 = .ok (.newarray .int, 2) := by decide +kernel
theorem dX9_init_122 : decode cX9_init 122 = .ok (.putfield 54, 3) := by decide +kernel
theorem dX9_init_125 : decode cX9_init 125 = .ok (.aload_n 0, 1) := by decide +kernel
theorem dX9_init_126 : decode cX9_init 126 = .ok (.sipush 400, 3) := by decide +kernel
theorem dX9_init_129 : decode cX9_init 129 = .ok (.newarray .long, 2) := by decide +kernel
theorem dX9_init_131 : decode cX9_init 131 = .ok (.putfield 57, 3) := by decide +kernel
theorem dX9_init_134 : decode cX9_init 134 = .ok (.aload_n 0, 1) := by decide +kernel
theorem dX9_init_135 : decode cX9_init 135 = .ok (.sipush 400, 3) := by decide +kernel
theorem dX9_init_138 : decode cX9_init 138 = .ok (.newarray .boolean, 2) := by decide +kernel
theorem dX9_init_140 : decode cX9_init 140 = .ok (.putfield 60, 3) := by decide +kernel
theorem dX9_init_143 : decode cX9_init 143 = .ok (.aload_n 0, 1) := by decide +kernel
theorem dX9_init_144 : decode cX9_init 144 = .ok (.sipush 400, 3) := by decide +kernel
theorem dX9_init_147 : decode cX9_init 147 = .ok (.newarray .int, 2) := by decide +kernel
theorem dX9_init_149 : decode cX9_init 149 = .ok (.putfield 63, 3) := by decide +kernel
theorem dX9_init_152 : decode cX9_init 152 = .ok (.aload_n 0, 1) := by decide +kernel
theorem dX9_init_153 : decode cX9_init 153 = .ok (.sipush 17000, 3) := by decide +kernel
theorem dX9_init_156 : decode cX9_init 156 = .ok (.newarray .int, 2) := by decide +kernel
theorem dX9_init_158 : decode cX9_init 158 = .ok (.putfield 66, 3) := by decide +kernel
theorem dX9_init_161 : decode cX9_init 161 = .ok (.aload_n 0, 1) := by decide +kernel
theorem dX9_init_162 : decode cX9_init 162 = .ok (.sipush 17000, 3) := by decide +kernel
theorem dX9_init_165 : decode cX9_init 165 = .ok (.newarray .int, 2) := by decide +kernel
theorem dX9_init_167 : decode cX9_init 167 = .ok (.putfield 69, 3) := by decide +kernel
theorem dX9_init_170 : decode cX9_init 170 = .ok (.aload_n 0, 1) := by decide +kernel
theorem dX9_init_171 : decode cX9_init 171 = .ok (.sipush 200, 3) := by decide +kernel
theorem dX9_init_174 : decode cX9_init 174 = .ok (.newarray .int, 2) := by decide +kernel
theorem dX9_init_176 : decode cX9_init 176 = .ok (.putfield 72, 3) := by decide +kernel
theorem dX9_init_179 : decode cX9_init 179 = .ok (.aload_n 0, 1) := by decide +kernel
theorem dX9_init_180 : decode cX9_init 180 = .ok (.sipush 200, 3) := by decide +kernel
theorem dX9_init_183 : decode cX9_init 183 = .ok (.newarray .int, 2) := by decide +kernel
theorem dX9_init_185 : decode cX9_init 185 = .ok (.putfield 75, 3) := by decide +kernel
theorem dX9_init_188 : decode cX9_init 188 = .ok (.aload_n 0, 1) := by decide +kernel
theorem dX9_init_189 : decode cX9_init 189 = .ok (.sipush 210, 3) := by decide +kernel
theorem dX9_init_192 : decode cX9_init 192 = .ok (.newarray .int, 2) := by decide +kernel
theorem dX9_init_194 : decode cX9_init 194 = .ok (.putfield 78, 3) := by decide +kernel
theorem dX9_init_197 : decode cX9_init 197 = .ok (.aload_n 0, 1) := by decide +kernel
theorem dX9_init_198 : decode cX9_init 198 = .ok (.sipush 210, 3) := by decide +kernel
theorem dX9_init_201 : decode cX9_init 201 = .ok (.newarray .int, 2) := by decide +kernel
theorem dX9_init_203 : decode cX9_init 203 = .ok (.putfield 81, 3) := by decide +kernel
theorem dX9_init_206 : decode cX9_init 206 = .ok (.aload_n 0, 1) := by decide +kernel
theorem dX9_init_207 : decode cX9_init 207 = .ok (.bipush 8, 2) := by decide +kernel
theorem dX9_init_209 : decode cX9_init 209 = .ok (.newarray .int, 2) := by decide +kernel
theorem dX9_init_211 : decode cX9_init 211 = .ok (.putfield 84, 3) := by decide +kernel
theorem dX9_init_214 : decode cX9_init 214 = .ok (.aload_n 0, 1) := by decide +kernel
theorem dX9_init_215 : decode cX9_init 215 = .ok (.bipush 8, 2) := by decide +kernel
theorem dX9_init_217 : decode cX9_init 217 = .ok (.newarray .long, 2) := by decide +kernel
theorem dX9_init_219 : decode cX9_init 219 = .ok (.putfield 87, 3) := by decide +kernel
theorem dX9_init_222 : decode cX9_init 222 = .ok (.aload_n 0, 1) := by decide +kernel
theorem dX9_init_223 : decode cX9_init 223 = .ok (.bipush 100, 2) := by decide +kernel
theorem dX9_init_225 : decode cX9_init 225 = .ok (.newarray .int, 2) := by decide +kernel
theorem dX9_init_227 : decode cX9_init 227 = .ok (.putfield 90, 3) := by decide +kernel
theorem dX9_init_230 : decode cX9_init 230 = .ok (.aload_n 0, 1) := by decide +kernel
theorem dX9_init_231 : decode cX9_init 231 = .ok (.bipush 40, 2) := by decide +kernel
theorem dX9_init_233 : decode cX9_init 233 = .ok (.newarray .long, 2) := by decide +kernel
theorem dX9_init_235 : decode cX9_init 235 = .ok (.putfield 93, 3) := by decide +kernel
theorem dX9_init_238 : decode cX9_init 238 = .ok (.aload_n 0, 1) := by decide +kernel
theorem dX9_init_239 : decode cX9_init 239 = .ok (.bipush 8, 2) := by decide +kernel
theorem dX9_init_241 : decode cX9_init 241 = .ok (.newarray .int, 2) := by decide +kernel
theorem dX9_init_243 : decode cX9_init 243 = .ok (.putfield 96, 3) := by decide +kernel
theorem dX9_init_246 : decode cX9_init 246 = .ok (.aload_n 0, 1) := by decide +kernel
theorem dX9_init_247 : decode cX9_init 247 = .ok (.bipush 8, 2) := by decide +kernel
theorem dX9_init_249 : decode cX9_init 249 = .ok (.newarray .long, 2) := by decide +kernel
theorem dX9_init_251 : decode cX9_init 251 = .ok (.putfield 99, 3) := by decide +kernel
theorem dX9_init_254 : decode cX9_init 254 = .ok (.aload_n 0, 1) := by decide +kernel
theorem dX9_init_255 : decode cX9_init 255 = .ok (.bipush 64, 2) := by decide +kernel
theorem dX9_init_257 : decode cX9_init 257 = .ok (.newarray .int, 2) := by decide +kernel
theorem dX9_init_259 : decode cX9_init 259 = .ok (.dup, 1) := by decide +kernel
theorem dX9_init_260 : decode cX9_init 260 = .ok (.iconst 0, 1) := by decide +kernel
theorem dX9_init_261 : decode cX9_init 261 = .ok (.ldc 102, 2) := by decide +kernel
theorem dX9_init_263 : decode cX9_init 263 = .ok (.iastore, 1) := by decide +kernel
theorem dX9_init_264 : decode cX9_init 264 = .ok (.dup, 1) := by decide +kernel
theorem dX9_init_265 : decode cX9_init 265 = .ok (.iconst 1, 1) := by decide +kernel
theorem dX9_init_266 : decode cX9_init 266 = .ok (.ldc 103, 2) := by decide +kernel
theorem dX9_init_268 : decode cX9_init 268 = .ok (.iastore, 1) := by decide +kernel
theorem dX9_init_269 : decode cX9_init 269 = .ok (.dup, 1) := by decide +kernel
theorem dX9_init_270 : decode cX9_init 270 = .ok (.iconst 2, 1) := by decide +kernel
theorem dX9_init_271 : decode cX9_init 271 = .ok (.ldc 104, 2) := by decide +kernel
theorem dX9_init_273 : decode cX9_init 273 = .ok (.iastore, 1) := by decide +kernel
theorem dX9_init_274 : decode cX9_init 274 = .ok (.dup, 1) := by decide +kernel
theorem dX9_init_275 : decode cX9_init 275 = .ok (.iconst 3, 1) := by decide +kernel
theorem dX9_init_276 : decode cX9_init 276 = .ok (.ldc 105, 2) := by decide +kernel
theorem dX9_init_278 : decode cX9_init 278 = .ok (.iastore, 1) := by decide +kernel
theorem dX9_init_279 : decode cX9_init 279 = .ok (.dup, 1) := by decide +kernel
theorem dX9_init_280 : decode cX9_init 280 = .ok (.iconst 4, 1) := by decide +kernel
theorem dX9_init_281 : decode cX9_init 281 = .ok (.ldc 106, 2) := by decide +kernel
theorem dX9_init_283 : decode cX9_init 283 = .ok (.iastore, 1) := by decide +kernel
theorem dX9_init_284 : decode cX9_init 284 = .ok (.dup, 1) := by decide +kernel
theorem dX9_init_285 : decode cX9_init 285 = .ok (.iconst 5, 1) := by decide +kernel
theorem dX9_init_286 : decode cX9_init 286 = .ok (.ldc 107, 2) := by decide +kernel
theorem dX9_init_288 : decode cX9_init 288 = .ok (.iastore, 1) := by decide +kernel
theorem dX9_init_289 : decode cX9_init 289 = .ok (.dup, 1) := by decide +kernel
theorem dX9_init_290 : decode cX9_init 290 = .ok (.bipush 6, 2) := by decide +kernel
theorem dX9_init_292 : decode cX9_init 292 = .ok (.ldc 108, 2) := by decide +kernel
theorem dX9_init_294 : decode cX9_init 294 = .ok (.iastore, 1) := by decide +kernel
theorem dX9_init_295 : decode cX9_init 295 = .ok (.dup, 1) := by decide +kernel
theorem dX9_init_296 : decode cX9_init 296 = .ok (.bipush 7, 2) := by decide +kernel
theorem dX9_init_298 : decode cX9_init 298 = .ok (.ldc 109, 2) := by decide +kernel
theorem dX9_init_300 : decode cX9_init 300 = .ok (.iastore, 1) := by decide +kernel
theorem dX9_init_301 : decode cX9_init 301 = .ok (.dup, 1) := by decide +kernel
theorem dX9_init_302 : decode cX9_init 302 = .ok (.bipush 8, 2) := by decide +kernel
theorem dX9_init_304 : decode cX9_init 304 = .ok (.ldc 110, 2) := by decide +kernel
theorem dX9_init_306 : decode cX9_init 306 = .ok (.iastore, 1) := by decide +kernel
theorem dX9_init_307 : decode cX9_init 307 = .ok (.dup, 1) := by decide +kernel
theorem dX9_init_308 : decode cX9_init 308 = .ok (.bipush 9, 2) := by decide +kernel
theorem dX9_init_310 : decode cX9_init 310 = .ok (.ldc 111, 2) := by decide +kernel
theorem dX9_init_312 : decode cX9_init 312 = .ok (.iastore, 1) := by decide +kernel
theorem dX9_init_313 : decode cX9_init 313 = .ok (.dup, 1) := by decide +kernel
theorem dX9_init_314 : decode cX9_init 314 = .ok (.bipush 10, 2) := by decide +kernel
theorem dX9_init_316 : decode cX9_init 316 = .ok (.ldc 112, 2) := by decide +kernel
theorem dX9_init_318 : decode cX9_init 318 = .ok (.iastore, 1) := by decide +kernel
theorem dX9_init_319 : decode cX9_init 319 = .ok (.dup, 1) := by decide +kernel
theorem dX9_init_320 : decode cX9_init 320 = .ok (.bipush 11, 2) := by decide +kernel
theorem dX9_init_322 : decode cX9_init 322 = .ok (.ldc 113, 2) := by decide +kernel
theorem dX9_init_324 : decode cX9_init 324 = .ok (.iastore, 1) := by decide +kernel
theorem dX9_init_325 : decode cX9_init 325 = .ok (.dup, 1) := by decide +kernel
theorem dX9_init_326 : decode cX9_init 326 = .ok (.bipush 12, 2) := by decide +kernel
theorem dX9_init_328 : decode cX9_init 328 = .ok (.ldc 114, 2) := by decide +kernel
theorem dX9_init_330 : decode cX9_init 330 = .ok (.iastore, 1) := by decide +kernel
theorem dX9_init_331 : decode cX9_init 331 = .ok (.dup, 1) := by decide +kernel
theorem dX9_init_332 : decode cX9_init 332 = .ok (.bipush 13, 2) := by decide +kernel
theorem dX9_init_334 : decode cX9_init 334 = .ok (.ldc 115, 2) := by decide +kernel
theorem dX9_init_336 : decode cX9_init 336 = .ok (.iastore, 1) := by decide +kernel
theorem dX9_init_337 : decode cX9_init 337 = .ok (.dup, 1) := by decide +kernel
theorem dX9_init_338 : decode cX9_init 338 = .ok (.bipush 14, 2) := by decide +kernel
theorem dX9_init_340 : decode cX9_init 340 = .ok (.ldc 116, 2) := by decide +kernel
theorem dX9_init_342 : decode cX9_init 342 = .ok (.iastore, 1) := by decide +kernel
theorem dX9_init_343 : decode cX9_init 343 = .ok (.dup, 1) := by decide +kernel
theorem dX9_init_344 : decode cX9_init 344 = .ok (.bipush 15, 2) := by decide +kernel
theorem dX9_init_346 : decode cX9_init 346 = .ok (.ldc 117, 2) := by decide +kernel
theorem dX9_init_348 : decode cX9_init 348 = .ok (.iastore, 1) := by decide +kernel
theorem dX9_init_349 : decode cX9_init 349 = .ok (.dup, 1) := by decide +kernel
theorem dX9_init_350 : decode cX9_init 350 = .ok (.bipush 16, 2) := by decide +kernel
theorem dX9_init_352 : decode cX9_init 352 = .ok (.ldc 118, 2) := by decide +kernel
theorem dX9_init_354 : decode cX9_init 354 = .ok (.iastore, 1) := by decide +kernel
theorem dX9_init_355 : decode cX9_init 355 = .ok (.dup, 1) := by decide +kernel
theorem dX9_init_356 : decode cX9_init 356 = .ok (.bipush 17, 2) := by decide +kernel
theorem dX9_init_358 : decode cX9_init 358 = .ok (.ldc 119, 2) := by decide +kernel
theorem dX9_init_360 : decode cX9_init 360 = .ok (.iastore, 1) := by decide +kernel
theorem dX9_init_361 : decode cX9_init 361 = .ok (.dup, 1) := by decide +kernel
theorem dX9_init_362 : decode cX9_init 362 = .ok (.bipush 18, 2) := by decide +kernel
theorem dX9_init_364 : decode cX9_init 364 = .ok (.ldc 120, 2) := by decide +kernel
theorem dX9_init_366 : decode cX9_init 366 = .ok (.iastore, 1) := by decide +kernel
theorem dX9_init_367 : decode cX9_init 367 = .ok (.dup, 1) := by decide +kernel
theorem dX9_init_368 : decode cX9_init 368 = .ok (.bipush 19, 2) := by decide +kernel
theorem dX9_init_370 : decode cX9_init 370 = .ok (.ldc 121, 2) := by decide +kernel
theorem dX9_init_372 : decode cX9_init 372 = .ok (.iastore, 1) := by decide +kernel
theorem dX9_init_373 : decode cX9_init 373 = .ok (.dup, 1) := by decide +kernel
theorem dX9_init_374 : decode cX9_init 374 = .ok (.bipush 20, 2) := by decide +kernel
theorem dX9_init_376 : decode cX9_init 376 = .ok (.ldc 122, 2) := by decide +kernel
theorem dX9_init_378 : decode cX9_init 378 = .ok (.iastore, 1) := by decide +kernel
theorem dX9_init_379 : decode cX9_init 379 = .ok (.dup, 1) := by decide +kernel
theorem dX9_init_380 : decode cX9_init 380 = .ok (.bipush 21, 2) := by decide +kernel
theorem dX9_init_382 : decode cX9_init 382 = .ok (.ldc 123, 2) := by decide +kernel
theorem dX9_init_384 : decode cX9_init 384 = .ok (.iastore, 1) := by decide +kernel
theorem dX9_init_385 : decode cX9_init 385 = .ok (.dup, 1) := by decide +kernel
theorem dX9_init_386 : decode cX9_init 386 = .ok (.bipush 22, 2) := by decide +kernel
theorem dX9_init_388 : decode cX9_init 388 = .ok (.ldc 124, 2) := by decide +kernel
theorem dX9_init_390 : decode cX9_init 390 = .ok (.iastore, 1) := by decide +kernel
theorem dX9_init_391 : decode cX9_init 391 = .ok (.dup, 1) := by decide +kernel
theorem dX9_init_392 : decode cX9_init 392 = .ok (.bipush 23, 2) := by decide +kernel
theorem dX9_init_394 : decode cX9_init 394 = .ok (.ldc 125, 2) := by decide +kernel
theorem dX9_init_396 : decode cX9_init 396 = .ok (.iastore, 1) := by decide +kernel
theorem dX9_init_397 : decode cX9_init 397 = .ok (.dup, 1) := by decide +kernel
theorem dX9_init_398 : decode cX9_init 398 = .ok (.bipush 24, 2) := by decide +kernel
theorem dX9_init_400 : decode cX9_init 400 = .ok (.ldc 126, 2) := by decide +kernel
theorem dX9_init_402 : decode cX9_init 402 = .ok (.iastore, 1) := by decide +kernel
theorem dX9_init_403 : decode cX9_init 403 = .ok (.dup, 1) := by decide +kernel
theorem dX9_init_404 : decode cX9_init 404 = .ok (.bipush 25, 2) := by decide +kernel
theorem dX9_init_406 : decode cX9_init 406 = .ok (.ldc 127, 2) := by decide +kernel
theorem dX9_init_408 : decode cX9_init 408 = .ok (.iastore, 1) := by decide +kernel
theorem dX9_init_409 : decode cX9_init 409 = .ok (.dup, 1) := by decide +kernel
theorem dX9_init_410 : decode cX9_init 410 = .ok (.bipush 26, 2) := by decide +kernel
theorem dX9_init_412 : decode cX9_init 412 = .ok (.ldc 128, 2) := by decide +kernel
theorem dX9_init_414 : decode cX9_init 414 = .ok (.iastore, 1) := by decide +kernel
theorem dX9_init_415 : decode cX9_init 415 = .ok (.dup, 1) := by decide +kernel
theorem dX9_init_416 : decode cX9_init 416 = .ok (.bipush 27, 2) := by decide +kernel
theorem dX9_init_418 : decode cX9_init 418 = .ok (.ldc 129, 2) := by decide +kernel
theorem dX9_init_420 : decode cX9_init 420 = .ok (.iastore, 1) := by decide +kernel
theorem dX9_init_421 : decode cX9_init 421 = .ok (.dup, 1) := by decide +kernel
theorem dX9_init_422 : decode cX9_init 422 = .ok (.bipush 28, 2) := by decide +kernel
theorem dX9_init_424 : decode cX9_init 424 = .ok (.ldc 130, 2) := by decide +kernel
theorem dX9_init_426 : decode cX9_init 426 = .ok (.iastore, 1) := by decide +kernel
theorem dX9_init_427 : decode cX9_init 427 = .ok (.dup, 1) := by decide +kernel
theorem dX9_init_428 : decode cX9_init 428 = .ok (.bipush 29, 2) := by decide +kernel
theorem dX9_init_430 : decode cX9_init 430 = .ok (.ldc 131, 2) := by decide +kernel
theorem dX9_init_432 : decode cX9_init 432 = .ok (.iastore, 1) := by decide +kernel
theorem dX9_init_433 : decode cX9_init 433 = .ok (.dup, 1) := by decide +kernel
theorem dX9_init_434 : decode cX9_init 434 = .ok (.bipush 30, 2) := by decide +kernel
theorem dX9_init_436 : decode cX9_init 436 = .ok (.ldc 132, 2) := by decide +kernel
theorem dX9_init_438 : decode cX9_init 438 = .ok (.iastore, 1) := by decide +kernel
theorem dX9_init_439 : decode cX9_init 439 = .ok (.dup, 1) := by decide +kernel
theorem dX9_init_440 : decode cX9_init 440 = .ok (.bipush 31, 2) := by decide +kernel
theorem dX9_init_442 : decode cX9_init 442 = .ok (.ldc 133, 2) := by decide +kernel
theorem dX9_init_444 : decode cX9_init 444 = .ok (.iastore, 1) := by decide +kernel
theorem dX9_init_445 : decode cX9_init 445 = .ok (.dup, 1) := by decide +kernel
theorem dX9_init_446 : decode cX9_init 446 = .ok (.bipush 32, 2) := by decide +kernel
theorem dX9_init_448 : decode cX9_init 448 = .ok (.ldc 134, 2) := by decide +kernel
theorem dX9_init_450 : decode cX9_init 450 = .ok (.iastore, 1) := by decide +kernel
theorem dX9_init_451 : decode cX9_init 451 = .ok (.dup, 1) := by decide +kernel
theorem dX9_init_452 : decode cX9_init 452 = .ok (.bipush 33, 2) := by decide +kernel
theorem dX9_init_454 : decode cX9_init 454 = .ok (.ldc 135, 2) := by decide +kernel
theorem dX9_init_456 : decode cX9_init 456 = .ok (.iastore, 1) := by decide +kernel
theorem dX9_init_457 : decode cX9_init 457 = .ok (.dup, 1) := by decide +kernel
theorem dX9_init_458 : decode cX9_init 458 = .ok (.bipush 34, 2) := by decide +kernel
theorem dX9_init_460 : decode cX9_init 460 = .ok (.ldc 136, 2) := by decide +kernel
theorem dX9_init_462 : decode cX9_init 462 = .ok (.iastore, 1) := by decide +kernel
theorem dX9_init_463 : decode cX9_init 463 = .ok (.dup, 1) := by decide +kernel
theorem dX9_init_464 : decode cX9_init 464 = .ok (.bipush 35, 2) := by decide +kernel
theorem dX9_init_466 : decode cX9_init 466 = .ok (.ldc 137, 2) := by decide +kernel
theorem dX9_init_468 : decode cX9_init 468 = .ok (.iastore, 1) := by decide +kernel
theorem dX9_init_469 : decode cX9_init 469 = .ok (.dup, 1) := by decide +kernel
theorem dX9_init_470 : decode cX9_init 470 = .ok (.bipush 36, 2) := by decide +kernel
theorem dX9_init_472 : decode cX9_init 472 = .ok (.ldc 138, 2) := by decide +kernel
theorem dX9_init_474 : decode cX9_init 474 = .ok (.iastore, 1) := by decide +kernel
theorem dX9_init_475 : decode cX9_init 475 = .ok (.dup, 1) := by decide +kernel
theorem dX9_init_476 : decode cX9_init 476 = .ok (.bipush 37, 2) := by decide +kernel
theorem dX9_init_478 : decode cX9_init 478 = .ok (.ldc 139, 2) := by decide +kernel
theorem dX9_init_480 : decode cX9_init 480 = .ok (.iastore, 1) := by decide +kernel
theorem dX9_init_481 : decode cX9_init 481 = .ok (.dup, 1) := by decide +kernel
theorem dX9_init_482 : decode cX9_init 482 = .ok (.bipush 38, 2) := by decide +kernel
theorem dX9_init_484 : decode cX9_init 484 = .ok (.ldc 140, 2) := by decide +kernel
theorem dX9_init_486 : decode cX9_init 486 = .ok (.iastore, 1) := by decide +kernel
theorem dX9_init_487 : decode cX9_init 487 = .ok (.dup, 1) := by decide +kernel
theorem dX9_init_488 : decode cX9_init 488 = .ok (.bipush 39, 2) := by decide +kernel
theorem dX9_init_490 : decode cX9_init 490 = .ok (.ldc 141, 2) := by decide +kernel
theorem dX9_init_492 : decode cX9_init 492 = .ok (.iastore, 1) := by decide +kernel
theorem dX9_init_493 : decode cX9_init 493 = .ok (.dup, 1) := by decide +kernel
theorem dX9_init_494 : decode cX9_init 494 = .ok (.bipush 40, 2) := by decide +kernel
theorem dX9_init_496 : decode cX9_init 496 = .ok (.ldc 142, 2) := by decide +kernel
theorem dX9_init_498 : decode cX9_init 498 = .ok (.iastore, 1) := by decide +kernel
theorem dX9_init_499 : decode cX9_init 499 = .ok (.dup, 1) := by decide +kernel
theorem dX9_init_500 : decode cX9_init 500 = .ok (.bipush 41, 2) := by decide +kernel
theorem dX9_init_502 : decode cX9_init 502 = .ok (.ldc 143, 2) := by decide +kernel
theorem dX9_init_504 : decode cX9_init 504 = .ok (.iastore, 1) := by decide +kernel
theorem dX9_init_505 : decode cX9_init 505 = .ok (.dup, 1) := by decide +kernel
theorem dX9_init_506 : decode cX9_init 506 = .ok (.bipush 42, 2) := by decide +kernel
theorem dX9_init_508 : decode cX9_init 508 = .ok (.ldc 144, 2) := by decide +kernel
theorem dX9_init_510 : decode cX9_init 510 = .ok (.iastore, 1) := by decide +kernel
theorem dX9_init_511 : decode cX9_init 511 = .ok (.dup, 1) := by decide +kernel
theorem dX9_init_512 : decode cX9_init 512 = .ok (.bipush 43, 2) := by decide +kernel
theorem dX9_init_514 : decode cX9_init 514 = .ok (.ldc 145, 2) := by decide +kernel
theorem dX9_init_516 : decode cX9_init 516 = .ok (.iastore, 1) := by decide +kernel
theorem dX9_init_517 : decode cX9_init 517 = .ok (.dup, 1) := by decide +kernel
theorem dX9_init_518 : decode cX9_init 518 = .ok (.bipush 44, 2) := by decide +kernel
theorem dX9_init_520 : decode cX9_init 520 = .ok (.ldc 146, 2) := by decide +kernel
theorem dX9_init_522 : decode cX9_init 522 = .ok (.iastore, 1) := by decide +kernel
theorem dX9_init_523 : decode cX9_init 523 = .ok (.dup, 1) := by decide +kernel
theorem dX9_init_524 : decode cX9_init 524 = .ok (.bipush 45, 2) := by decide +kernel
theorem dX9_init_526 : decode cX9_init 526 = .ok (.ldc 147, 2) := by decide +kernel
theorem dX9_init_528 : decode cX9_init 528 = .ok (.iastore, 1) := by decide +kernel
theorem dX9_init_529 : decode cX9_init 529 = .ok (.dup, 1) := by decide +kernel
theorem dX9_init_530 : decode cX9_init 530 = .ok (.bipush 46, 2) := by decide +kernel
theorem dX9_init_532 : decode cX9_init 532 = .ok (.ldc 148, 2) := by decide +kernel
theorem dX9_init_534 : decode cX9_init 534 = .ok (.iastore, 1) := by decide +kernel
theorem dX9_init_535 : decode cX9_init 535 = .ok (.dup, 1) := by decide +kernel
theorem dX9_init_536 : decode cX9_init 536 = .ok (.bipush 47, 2) := by decide +kernel
theorem dX9_init_538 : decode cX9_init 538 = .ok (.ldc 149, 2) := by decide +kernel
theorem dX9_init_540 : decode cX9_init 540 = .ok (.iastore, 1) := by decide +kernel
theorem dX9_init_541 : decode cX9_init 541 = .ok (.dup, 1) := by decide +kernel
theorem dX9_init_542 : decode cX9_init 542 = .ok (.bipush 48, 2) := by decide +kernel
theorem dX9_init_544 : decode cX9_init 544 = .ok (.ldc 150, 2) := by decide +kernel
theorem dX9_init_546 : decode cX9_init 546 = .ok (.iastore, 1) := by decide +kernel
theorem dX9_init_547 : decode cX9_init 547 = .ok (.dup, 1) := by decide +kernel
theorem dX9_init_548 : decode cX9_init 548 = .ok (.bipush 49, 2) := by decide +kernel
theorem dX9_init_550 : decode cX9_init 550 = .ok (.ldc 151, 2) := by decide +kernel
theorem dX9_init_552 : decode cX9_init 552 = .ok (.iastore, 1) := by decide +kernel
theorem dX9_init_553 : decode cX9_init 553 = .ok (.dup, 1) := by decide +kernel
theorem dX9_init_554 : decode cX9_init 554 = .ok (.bipush 50, 2) := by decide +kernel
theorem dX9_init_556 : decode cX9_init 556 = .ok (.ldc 152, 2) := by decide +kernel
theorem dX9_init_558 : decode cX9_init 558 = .ok (.iastore, 1) := by decide +kernel
theorem dX9_init_559 : decode cX9_init 559 = .ok (.dup, 1) := by decide +kernel
theorem dX9_init_560 : decode cX9_init 560 = .ok (.bipush 51, 2) := by decide +kernel
theorem dX9_init_562 : decode cX9_init 562 = .ok (.ldc 153, 2) := by decide +kernel
theorem dX9_init_564 : decode cX9_init 564 = .ok (.iastore, 1) := by decide +kernel
theorem dX9_init_565 : decode cX9_init 565 = .ok (.dup, 1) := by decide +kernel
theorem dX9_init_566 : decode cX9_init 566 = .ok (.bipush 52, 2) := by decide +kernel
theorem dX9_init_568 : decode cX9_init 568 = .ok (.ldc 154, 2) := by decide +kernel
theorem dX9_init_570 : decode cX9_init 570 = .ok (.iastore, 1) := by decide +kernel
theorem dX9_init_571 : decode cX9_init 571 = .ok (.dup, 1) := by decide +kernel
theorem dX9_init_572 : decode cX9_init 572 = .ok (.bipush 53, 2) := by decide +kernel
theorem dX9_init_574 : decode cX9_init 574 = .ok (.ldc 155, 2) := by decide +kernel
theorem dX9_init_576 : decode cX9_init 576 = .ok (.iastore, 1) := by decide +kernel
theorem dX9_init_577 : decode cX9_init 577 = .ok (.dup, 1) := by decide +kernel
theorem dX9_init_578 : decode cX9_init 578 = .ok (.bipush 54, 2) := by decide +kernel
theorem dX9_init_580 : decode cX9_init 580 = .ok (.ldc 156, 2) := by decide +kernel
theorem dX9_init_582 : decode cX9_init 582 = .ok (.iastore, 1) := by decide +kernel
theorem dX9_init_583 : decode cX9_init 583 = .ok (.dup, 1) := by decide +kernel
theorem dX9_init_584 : decode cX9_init 584 = .ok (.bipush 55, 2) := by decide +kernel
theorem dX9_init_586 : decode cX9_init 586 = .ok (.ldc 157, 2) := by decide +kernel
theorem dX9_init_588 : decode cX9_init 588 = .ok (.iastore, 1) := by decide +kernel
theorem dX9_init_589 : decode cX9_init 589 = .ok (.dup, 1) := by decide +kernel
theorem dX9_init_590 : decode cX9_init 590 = .ok (.bipush 56, 2) := by decide +kernel
theorem dX9_init_592 : decode cX9_init 592 = .ok (.ldc 158, 2) := by decide +kernel
theorem dX9_init_594 : decode cX9_init 594 = .ok (.iastore, 1) := by decide +kernel
theorem dX9_init_595 : decode cX9_init 595 = .ok (.dup, 1) := by decide +kernel
theorem dX9_init_596 : decode cX9_init 596 = .ok (.bipush 57, 2) := by decide +kernel
theorem dX9_init_598 : decode cX9_init 598 = .ok (.ldc 159, 2) := by decide +kernel
theorem dX9_init_600 : decode cX9_init 600 = .ok (.iastore, 1) := by decide +kernel
theorem dX9_init_601 : decode cX9_init 601 = .ok (.dup, 1) := by decide +kernel
theorem dX9_init_602 : decode cX9_init 602 = .ok (.bipush 58, 2) := by decide +kernel
theorem dX9_init_604 : decode cX9_init 604 = .ok (.ldc 160, 2) := by decide +kernel
theorem dX9_init_606 : decode cX9_init 606 = .ok (.iastore, 1) := by decide +kernel
theorem dX9_init_607 : decode cX9_init 607 = .ok (.dup, 1) := by decide +kernel
theorem dX9_init_608 : decode cX9_init 608 = .ok (.bipush 59, 2) := by decide +kernel
theorem dX9_init_610 : decode cX9_init 610 = .ok (.ldc 161, 2) := by decide +kernel
theorem dX9_init_612 : decode cX9_init 612 = .ok (.iastore, 1) := by decide +kernel
theorem dX9_init_613 : decode cX9_init 613 = .ok (.dup, 1) := by decide +kernel
theorem dX9_init_614 : decode cX9_init 614 = .ok (.bipush 60, 2) := by decide +kernel
theorem dX9_init_616 : decode cX9_init 616 = .ok (.ldc 162, 2) := by decide +kernel
theorem dX9_init_618 : decode cX9_init 618 = .ok (.iastore, 1) := by decide +kernel
theorem dX9_init_619 : decode cX9_init 619 = .ok (.dup, 1) := by decide +kernel
theorem dX9_init_620 : decode cX9_init 620 = .ok (.bipush 61, 2) := by decide +kernel
theorem dX9_init_622 : decode cX9_init 622 = .ok (.ldc 163, 2) := by decide +kernel
theorem dX9_init_624 : decode cX9_init 624 = .ok (.iastore, 1) := by decide +kernel
theorem dX9_init_625 : decode cX9_init 625 = .ok (.dup, 1) := by decide +kernel
theorem dX9_init_626 : decode cX9_init 626 = .ok (.bipush 62, 2) := by decide +kernel
theorem dX9_init_628 : decode cX9_init 628 = .ok (.ldc 164, 2) := by decide +kernel
theorem dX9_init_630 : decode cX9_init 630 = .ok (.iastore, 1) := by decide +kernel
theorem dX9_init_631 : decode cX9_init 631 = .ok (.dup, 1) := by decide +kernel
theorem dX9_init_632 : decode cX9_init 632 = .ok (.bipush 63, 2) := by decide +kernel
theorem dX9_init_634 : decode cX9_init 634 = .ok (.ldc 165, 2) := by decide +kernel
theorem dX9_init_636 : decode cX9_init 636 = .ok (.iastore, 1) := by decide +kernel
theorem dX9_init_637 : decode cX9_init 637 = .ok (.putfield 166, 3) := by decide +kernel
theorem dX9_init_640 : decode cX9_init 640 = .ok (.aload_n 0, 1) := by decide +kernel
theorem dX9_init_641 : decode cX9_init 641 = .ok (.sipush 256, 3) := by decide +kernel
theorem dX9_init_644 : decode cX9_init 644 = .ok (.newarray .int, 2) := by decide +kernel
theorem dX9_init_646 : decode cX9_init 646 = .ok (.putfield 169, 3) := by decide +kernel
theorem dX9_init_649 : decode cX9_init 649 = .ok (.aload_n 0, 1) := by decide +kernel
theorem dX9_init_650 : decode cX9_init 650 = .ok (.bipush 64, 2) := by decide +kernel
theorem dX9_init_652 : decode cX9_init 652 = .ok (.newarray .int, 2) := by decide +kernel
theorem dX9_init_654 : decode cX9_init 654 = .ok (.putfield 172, 3) := by decide +kernel
theorem dX9_init_657 : decode cX9_init 657 = .ok (.aload_n 0, 1) := by decide +kernel
theorem dX9_init_658 : decode cX9_init 658 = .ok (.bipush 8, 2) := by decide +kernel
theorem dX9_init_660 : decode cX9_init 660 = .ok (.newarray .int, 2) := by decide +kernel
theorem dX9_init_662 : decode cX9_init 662 = .ok (.putfield 175, 3) := by decide +kernel
theorem dX9_init_665 : decode cX9_init 665 = .ok (.aload_n 0, 1) := by decide +kernel
theorem dX9_init_666 : decode cX9_init 666 = .ok (.bipush 32, 2) := by decide +kernel
theorem dX9_init_668 : decode cX9_init 668 = .ok (.newarray .int, 2) := by decide +kernel
theorem dX9_init_670 : decode cX9_init 670 = .ok (.putfield 178, 3) := by decide +kernel
theorem dX9_init_673 : decode cX9_init 673 = .ok (.aload_n 0, 1) := by decide +kernel
theorem dX9_init_674 : decode cX9_init 674 = .ok (.sipush 512, 3) := by decide +kernel
theorem dX9_init_677 : decode cX9_init 677 = .ok (.newarray .int, 2) := by decide +kernel
theorem dX9_init_679 : decode cX9_init 679 = .ok (.putfield 181, 3) := by decide +kernel
theorem dX9_init_682 : decode cX9_init 682 = .ok (.aload_n 0, 1) := by decide +kernel
theorem dX9_init_683 : decode cX9_init 683 = .ok (.bipush 16, 2) := by decide +kernel
theorem dX9_init_685 : decode cX9_init 685 = .ok (.newarray .int, 2) := by decide +kernel
theorem dX9_init_687 : decode cX9_init 687 = .ok (.putfield 184, 3) := by decide +kernel
theorem dX9_init_690 : decode cX9_init 690 = .ok (.aload_n 0, 1) := by decide +kernel
theorem dX9_init_691 : decode cX9_init 691 = .ok (.bipush 8, 2) := by decide +kernel
theorem dX9_init_693 : decode cX9_init 693 = .ok (.newarray .int, 2) := by decide +kernel
theorem dX9_init_695 : decode cX9_init 695 = .ok (.putfield 187, 3) := by decide +kernel
theorem dX9_init_698 : decode cX9_init 698 = .ok (.aload_n 0, 1) := by decide +kernel
theorem dX9_init_699 : decode cX9_init 699 = .ok (.bipush 8, 2) := by decide +kernel
theorem dX9_init_701 : decode cX9_init 701 = .ok (.newarray .boolean, 2) := by decide +kernel
theorem dX9_init_703 : decode cX9_init 703 = .ok (.putfield 190, 3) := by decide +kernel
theorem dX9_init_706 : decode cX9_init 706 = .ok (.aload_n 0, 1) := by decide +kernel
theorem dX9_init_707 : decode cX9_init 707 = .ok (.sipush 256, 3) := by decide +kernel
theorem dX9_init_710 : decode cX9_init 710 = .ok (.newarray .int, 2) := by decide +kernel
theorem dX9_init_712 : decode cX9_init 712 = .ok (.putfield 193, 3) := by decide +kernel
theorem dX9_init_715 : decode cX9_init 715 = .ok (.aload_n 0, 1) := by decide +kernel
theorem dX9_init_716 : decode cX9_init 716 = .ok (.sipush 256, 3) := by decide +kernel
theorem dX9_init_719 : decode cX9_init 719 = .ok (.newarray .int, 2) := by decide +kernel
theorem dX9_init_721 : decode cX9_init 721 = .ok (.putfield 196, 3) := by decide +kernel
theorem dX9_init_724 : decode cX9_init 724 = .ok (.aload_n 0, 1) := by decide +kernel
theorem dX9_init_725 : decode cX9_init 725 = .ok (.sipush 1024, 3) := by decide +kernel
theorem dX9_init_728 : decode cX9_init 728 = .ok (.newarray .int, 2) := by decide +kernel
theorem dX9_init_730 : decode cX9_init 730 = .ok (.putfield 199, 3) := by decide +kernel
theorem dX9_init_733 : decode cX9_init 733 = .ok (.aload_n 0, 1) := by decide +kernel
theorem dX9_init_734 : decode cX9_init 734 = .ok (.bipush 16, 2) := by decide +kernel
theorem dX9_init_736 : decode cX9_init 736 = .ok (.newarray .boolean, 2) := by decide +kernel
theorem dX9_init_738 : decode cX9_init 738 = .ok (.putfield 202, 3) := by decide +kernel
theorem dX9_init_741 : decode cX9_init 741 = .ok (.aload_n 0, 1) := by decide +kernel
theorem dX9_init_742 : decode cX9_init 742 = .ok (.bipush 16, 2) := by decide +kernel
theorem dX9_init_744 : decode cX9_init 744 = .ok (.newarray .int, 2) := by decide +kernel
theorem dX9_init_746 : decode cX9_init 746 = .ok (.putfield 205, 3) := by decide +kernel
theorem dX9_init_749 : decode cX9_init 749 = .ok (.aload_n 0, 1) := by decide +kernel
theorem dX9_init_750 : decode cX9_init 750 = .ok (.bipush 16, 2) := by decide +kernel
theorem dX9_init_752 : decode cX9_init 752 = .ok (.newarray .int, 2) := by decide +kernel
theorem dX9_init_754 : decode cX9_init 754 = .ok (.putfield 208, 3) := by decide +kernel
theorem dX9_init_757 : decode cX9_init 757 = .ok (.aload_n 0, 1) := by decide +kernel
theorem dX9_init_758 : decode cX9_init 758 = .ok (.bipush 32, 2) := by decide +kernel
theorem dX9_init_760 : decode cX9_init 760 = .ok (.newarray .int, 2) := by decide +kernel
theorem dX9_init_762 : decode cX9_init 762 = .ok (.putfield 211, 3) := by decide +kernel
theorem dX9_init_765 : decode cX9_init 765 = .ok (.aload_n 0, 1) := by decide +kernel
theorem dX9_init_766 : decode cX9_init 766 = .ok (.bipush 32, 2) := by decide +kernel
theorem dX9_init_768 : decode cX9_init 768 = .ok (.newarray .int, 2) := by decide +kernel
theorem dX9_init_770 : decode cX9_init 770 = .ok (.putfield 214, 3) := by decide +kernel
theorem dX9_init_773 : decode cX9_init 773 = .ok (.return_, 1) := by decide +kernel
theorem dX9_begins_0 : decode cX9_begins 0 = .ok (.aload_n 0, 1) := by decide +kernel
theorem dX9_begins_1 : decode cX9_begins 1 = .ok (.iload_n 1, 1) := by decide +kernel
theorem dX9_begins_2 : decode cX9_begins 2 = .ok (.putfield 217, 3) := by decide +kernel
theorem dX9_begins_5 : decode cX9_begins 5 = .ok (.aload_n 0, 1) := by decide +kernel
theorem dX9_begins_6 : decode cX9_begins 6 = .ok (.lload_n 2, 1) := by decide +kernel
theorem dX9_begins_7 : decode cX9_begins 7 = .ok (.putfield 221, 3) := by decide +kernel
theorem dX9_begins_10 : decode cX9_begins 10 = .ok (.aload_n 0, 1) := by decide +kernel
theorem dX9_begins_11 : decode cX9_begins 11 = .ok (.iconst 0, 1) := by decide +kernel
theorem dX9_begins_12 : decode cX9_begins 12 = .ok (.putfield 225, 3) := by decide +kernel
theorem dX9_begins_15 : decode cX9_begins 15 = .ok (.aload_n 0, 1) := by decide +kernel
theorem dX9_begins_16 : decode cX9_begins 16 = .ok (.iconst (-1), 1) := by decide +kernel
theorem dX9_begins_17 : decode cX9_begins 17 = .ok (.putfield 228, 3) := by decide +kernel
theorem dX9_begins_20 : decode cX9_begins 20 = .ok (.aload_n 0, 1) := by decide +kernel
theorem dX9_begins_21 : decode cX9_begins 21 = .ok (.iconst (-1), 1) := by decide +kernel
theorem dX9_begins_22 : decode cX9_begins 22 = .ok (.putfield 231, 3) := by decide +kernel
theorem dX9_begins_25 : decode cX9_begins 25 = .ok (.aload_n 0, 1) := by decide +kernel
theorem dX9_begins_26 : decode cX9_begins 26 = .ok (.lconst 0, 1) := by decide +kernel
theorem dX9_begins_27 : decode cX9_begins 27 = .ok (.putfield 234, 3) := by decide +kernel
theorem dX9_begins_30 : decode cX9_begins 30 = .ok (.aload_n 0, 1) := by decide +kernel
theorem dX9_begins_31 : decode cX9_begins 31 = .ok (.iconst 0, 1) := by decide +kernel
theorem dX9_begins_32 : decode cX9_begins 32 = .ok (.putfield 237, 3) := by decide +kernel
theorem dX9_begins_35 : decode cX9_begins 35 = .ok (.aload_n 0, 1) := by decide +kernel
theorem dX9_begins_36 : decode cX9_begins 36 = .ok (.iload_n 1, 1) := by decide +kernel
theorem dX9_begins_37 : decode cX9_begins 37 = .ok (.invokevirtual 240, 3) := by decide +kernel
theorem dX9_begins_40 : decode cX9_begins 40 = .ok (.lload_n 2, 1) := by decide +kernel
theorem dX9_begins_41 : decode cX9_begins 41 = .ok (.lconst 0, 1) := by decide +kernel
theorem dX9_begins_42 : decode cX9_begins 42 = .ok (.lcmp, 1) := by decide +kernel
theorem dX9_begins_43 : decode cX9_begins 43 = .ok (.ifCond .eq 8, 3) := by decide +kernel
theorem dX9_begins_46 : decode cX9_begins 46 = .ok (.aload_n 0, 1) := by decide +kernel
theorem dX9_begins_47 : decode cX9_begins 47 = .ok (.lload_n 2, 1) := by decide +kernel
theorem dX9_begins_48 : decode cX9_begins 48 = .ok (.invokevirtual 244, 3) := by decide +kernel
theorem dX9_begins_51 : decode cX9_begins 51 = .ok (.return_, 1) := by decide +kernel
theorem dX9_put_0 : decode cX9_put 0 = .ok (.aload_n 0, 1) := by decide +kernel
theorem dX9_put_1 : decode cX9_put 1 = .ok (.getfield 90, 3) := by decide +kernel
theorem dX9_put_4 : decode cX9_put 4 = .ok (.aload_n 0, 1) := by decide +kernel
theorem dX9_put_5 : decode cX9_put 5 = .ok (.getfield 237, 3) := by decide +kernel
theorem dX9_put_8 : decode cX9_put 8 = .ok (.iload_n 1, 1) := by decide +kernel
theorem dX9_put_9 : decode cX9_put 9 = .ok (.sipush 255, 3) := by decide +kernel
theorem dX9_put_12 : decode cX9_put 12 = .ok (.iand, 1) := by decide +kernel
theorem dX9_put_13 : decode cX9_put 13 = .ok (.iastore, 1) := by decide +kernel
theorem dX9_put_14 : decode cX9_put 14 = .ok (.aload_n 0, 1) := by decide +kernel
theorem dX9_put_15 : decode cX9_put 15 = .ok (.dup, 1) := by decide +kernel
theorem dX9_put_16 : decode cX9_put 16 = .ok (.getfield 237, 3) := by decide +kernel
theorem dX9_put_19 : decode cX9_put 19 = .ok (.iconst 1, 1) := by decide +kernel
theorem dX9_put_20 : decode cX9_put 20 = .ok (.iadd, 1) := by decide +kernel
theorem dX9_put_21 : decode cX9_put 21 = .ok (.putfield 237, 3) := by decide +kernel
theorem dX9_put_24 : decode cX9_put 24 = .ok (.return_, 1) := by decide +kernel
theorem dX9_putLong_0 : decode cX9_putLong 0 = .ok (.bipush 56, 2) := by decide +kernel
theorem dX9_putLong_2 : decode cX9_putLong 2 = .ok (.istore_n 3, 1) := by decide +kernel
theorem dX9_putLong_3 : decode cX9_putLong 3 = .ok (.iload_n 3, 1) := by decide +kernel
theorem dX9_putLong_4 : decode cX9_putLong 4 = .ok (.ifCond .lt 21, 3) := by decide +kernel
theorem dX9_putLong_7 : decode cX9_putLong 7 = .ok (.aload_n 0, 1) := by decide +kernel
theorem dX9_putLong_8 : decode cX9_putLong 8 = .ok (.lload_n 1, 1) := by decide +kernel
theorem dX9_putLong_9 : decode cX9_putLong 9 = .ok (.iload_n 3, 1) := by decide +kernel
theorem dX9_putLong_10 : decode cX9_putLong 10 = .ok (.lshr, 1) := by decide +kernel
theorem dX9_putLong_11 : decode cX9_putLong 11 = .ok (.ldc2_w 248, 3) := by decide +kernel
theorem dX9_putLong_14 : decode cX9_putLong 14 = .ok (.land, 1) := by decide +kernel
theorem dX9_putLong_15 : decode cX9_putLong 15 = .ok (.l2i, 1) := by decide +kernel
theorem dX9_putLong_16 : decode cX9_putLong 16 = .ok (.invokevirtual 240, 3) := by decide +kernel
theorem dX9_putLong_19 : decode cX9_putLong 19 = .ok (.iinc 3 (-8), 3) := by decide +kernel
theorem dX9_putLong_22 : decode cX9_putLong 22 = .ok (.goto (-19), 3) := by decide +kernel
theorem dX9_putLong_25 : decode cX9_putLong 25 = .ok (.return_, 1) := by decide +kernel
theorem dX9_putShort_0 : decode cX9_putShort 0 = .ok (.aload_n 0, 1) := by decide +kernel
theorem dX9_putShort_1 : decode cX9_putShort 1 = .ok (.iload_n 1, 1) := by decide +kernel
theorem dX9_putShort_2 : decode cX9_putShort 2 = .ok (.bipush 8, 2) := by decide +kernel
theorem dX9_putShort_4 : decode cX9_putShort 4 = .ok (.ishr, 1) := by decide +kernel
theorem dX9_putShort_5 : decode cX9_putShort 5 = .ok (.invokevirtual 240, 3) := by decide +kernel
theorem dX9_putShort_8 : decode cX9_putShort 8 = .ok (.aload_n 0, 1) := by decide +kernel
theorem dX9_putShort_9 : decode cX9_putShort 9 = .ok (.iload_n 1, 1) := by decide +kernel
theorem dX9_putShort_10 : decode cX9_putShort 10 = .ok (.invokevirtual 240, 3) := by decide +kernel
theorem dX9_putShort_13 : decode cX9_putShort 13 = .ok (.return_, 1) := by decide +kernel
theorem dX9_leg_0 : decode cX9_leg 0 = .ok (.aload_n 0, 1) := by decide +kernel
theorem dX9_leg_1 : decode cX9_leg 1 = .ok (.getfield 84, 3) := by decide +kernel
theorem dX9_leg_4 : decode cX9_leg 4 = .ok (.iload 4, 2) := by decide +kernel
theorem dX9_leg_6 : decode cX9_leg 6 = .ok (.iload_n 1, 1) := by decide +kernel
theorem dX9_leg_7 : decode cX9_leg 7 = .ok (.iastore, 1) := by decide +kernel
theorem dX9_leg_8 : decode cX9_leg 8 = .ok (.aload_n 0, 1) := by decide +kernel
theorem dX9_leg_9 : decode cX9_leg 9 = .ok (.getfield 87, 3) := by decide +kernel
theorem dX9_leg_12 : decode cX9_leg 12 = .ok (.iload 4, 2) := by decide +kernel
theorem dX9_leg_14 : decode cX9_leg 14 = .ok (.lload_n 2, 1) := by decide +kernel
theorem dX9_leg_15 : decode cX9_leg 15 = .ok (.lastore, 1) := by decide +kernel
theorem dX9_leg_16 : decode cX9_leg 16 = .ok (.aload_n 0, 1) := by decide +kernel
theorem dX9_leg_17 : decode cX9_leg 17 = .ok (.iload 4, 2) := by decide +kernel
theorem dX9_leg_19 : decode cX9_leg 19 = .ok (.iconst 1, 1) := by decide +kernel
theorem dX9_leg_20 : decode cX9_leg 20 = .ok (.iadd, 1) := by decide +kernel
theorem dX9_leg_21 : decode cX9_leg 21 = .ok (.putfield 225, 3) := by decide +kernel
theorem dX9_leg_24 : decode cX9_leg 24 = .ok (.return_, 1) := by decide +kernel
theorem dX9_byKey_0 : decode cX9_byKey 0 = .ok (.lload_n 2, 1) := by decide +kernel
theorem dX9_byKey_1 : decode cX9_byKey 1 = .ok (.lconst 0, 1) := by decide +kernel
theorem dX9_byKey_2 : decode cX9_byKey 2 = .ok (.lcmp, 1) := by decide +kernel
theorem dX9_byKey_3 : decode cX9_byKey 3 = .ok (.ifCond .ne 5, 3) := by decide +kernel
theorem dX9_byKey_6 : decode cX9_byKey 6 = .ok (.iconst (-1), 1) := by decide +kernel
theorem dX9_byKey_7 : decode cX9_byKey 7 = .ok (.ireturn, 1) := by decide +kernel
theorem dX9_byKey_8 : decode cX9_byKey 8 = .ok (.iconst 0, 1) := by decide +kernel
theorem dX9_byKey_9 : decode cX9_byKey 9 = .ok (.istore 4, 2) := by decide +kernel
theorem dX9_byKey_11 : decode cX9_byKey 11 = .ok (.iload 4, 2) := by decide +kernel
theorem dX9_byKey_13 : decode cX9_byKey 13 = .ok (.aload_n 0, 1) := by decide +kernel
theorem dX9_byKey_14 : decode cX9_byKey 14 = .ok (.getfield 13, 3) := by decide +kernel
theorem dX9_byKey_17 : decode cX9_byKey 17 = .ok (.iload_n 1, 1) := by decide +kernel
theorem dX9_byKey_18 : decode cX9_byKey 18 = .ok (.iaload, 1) := by decide +kernel
theorem dX9_byKey_19 : decode cX9_byKey 19 = .ok (.if_icmp .ge 30, 3) := by decide +kernel
theorem dX9_byKey_22 : decode cX9_byKey 22 = .ok (.aload_n 0, 1) := by decide +kernel
theorem dX9_byKey_23 : decode cX9_byKey 23 = .ok (.getfield 42, 3) := by decide +kernel
theorem dX9_byKey_26 : decode cX9_byKey 26 = .ok (.sipush 200, 3) := by decide +kernel
theorem dX9_byKey_29 : decode cX9_byKey 29 = .ok (.iload_n 1, 1) := by decide +kernel
theorem dX9_byKey_30 : decode cX9_byKey 30 = .ok (.imul, 1) := by decide +kernel
theorem dX9_byKey_31 : decode cX9_byKey 31 = .ok (.iload 4, 2) := by decide +kernel
theorem dX9_byKey_33 : decode cX9_byKey 33 = .ok (.iadd, 1) := by decide +kernel
theorem dX9_byKey_34 : decode cX9_byKey 34 = .ok (.laload, 1) := by decide +kernel
theorem dX9_byKey_35 : decode cX9_byKey 35 = .ok (.lload_n 2, 1) := by decide +kernel
theorem dX9_byKey_36 : decode cX9_byKey 36 = .ok (.lcmp, 1) := by decide +kernel
theorem dX9_byKey_37 : decode cX9_byKey 37 = .ok (.ifCond .ne 6, 3) := by decide +kernel
theorem dX9_byKey_40 : decode cX9_byKey 40 = .ok (.iload 4, 2) := by decide +kernel
theorem dX9_byKey_42 : decode cX9_byKey 42 = .ok (.ireturn, 1) := by decide +kernel
theorem dX9_byKey_43 : decode cX9_byKey 43 = .ok (.iinc 4 1, 3) := by decide +kernel
theorem dX9_byKey_46 : decode cX9_byKey 46 = .ok (.goto (-35), 3) := by decide +kernel
theorem dX9_byKey_49 : decode cX9_byKey 49 = .ok (.iconst (-1), 1) := by decide +kernel
theorem dX9_byKey_50 : decode cX9_byKey 50 = .ok (.ireturn, 1) := by decide +kernel
theorem dX9_isSame_0 : decode cX9_isSame 0 = .ok (.aload_n 0, 1) := by decide +kernel
theorem dX9_isSame_1 : decode cX9_isSame 1 = .ok (.getfield 75, 3) := by decide +kernel
theorem dX9_isSame_4 : decode cX9_isSame 4 = .ok (.iload_n 1, 1) := by decide +kernel
theorem dX9_isSame_5 : decode cX9_isSame 5 = .ok (.iaload, 1) := by decide +kernel
theorem dX9_isSame_6 : decode cX9_isSame 6 = .ok (.aload_n 0, 1) := by decide +kernel
theorem dX9_isSame_7 : decode cX9_isSame 7 = .ok (.getfield 237, 3) := by decide +kernel
theorem dX9_isSame_10 : decode cX9_isSame 10 = .ok (.if_icmp .ne 7, 3) := by decide +kernel
theorem dX9_isSame_13 : decode cX9_isSame 13 = .ok (.iconst 1, 1) := by decide +kernel
theorem dX9_isSame_14 : decode cX9_isSame 14 = .ok (.goto 4, 3) := by decide +kernel
theorem dX9_isSame_17 : decode cX9_isSame 17 = .ok (.iconst 0, 1) := by decide +kernel
theorem dX9_isSame_18 : decode cX9_isSame 18 = .ok (.istore_n 2, 1) := by decide +kernel
theorem dX9_isSame_19 : decode cX9_isSame 19 = .ok (.iconst 0, 1) := by decide +kernel
theorem dX9_isSame_20 : decode cX9_isSame 20 = .ok (.istore_n 3, 1) := by decide +kernel
theorem dX9_isSame_21 : decode cX9_isSame 21 = .ok (.iload_n 3, 1) := by decide +kernel
theorem dX9_isSame_22 : decode cX9_isSame 22 = .ok (.aload_n 0, 1) := by decide +kernel
theorem dX9_isSame_23 : decode cX9_isSame 23 = .ok (.getfield 237, 3) := by decide +kernel
theorem dX9_isSame_26 : decode cX9_isSame 26 = .ok (.if_icmp .ge 41, 3) := by decide +kernel
theorem dX9_isSame_29 : decode cX9_isSame 29 = .ok (.iload_n 2, 1) := by decide +kernel
theorem dX9_isSame_30 : decode cX9_isSame 30 = .ok (.ifCond .eq 37, 3) := by decide +kernel
theorem dX9_isSame_33 : decode cX9_isSame 33 = .ok (.aload_n 0, 1) := by decide +kernel
theorem dX9_isSame_34 : decode cX9_isSame 34 = .ok (.getfield 69, 3) := by decide +kernel
theorem dX9_isSame_37 : decode cX9_isSame 37 = .ok (.aload_n 0, 1) := by decide +kernel
theorem dX9_isSame_38 : decode cX9_isSame 38 = .ok (.getfield 72, 3) := by decide +kernel
theorem dX9_isSame_41 : decode cX9_isSame 41 = .ok (.iload_n 1, 1) := by decide +kernel
theorem dX9_isSame_42 : decode cX9_isSame 42 = .ok (.iaload, 1) := by decide +kernel
theorem dX9_isSame_43 : decode cX9_isSame 43 = .ok (.iload_n 3, 1) := by decide +kernel
theorem dX9_isSame_44 : decode cX9_isSame 44 = .ok (.iadd, 1) := by decide +kernel
theorem dX9_isSame_45 : decode cX9_isSame 45 = .ok (.iaload, 1) := by decide +kernel
theorem dX9_isSame_46 : decode cX9_isSame 46 = .ok (.aload_n 0, 1) := by decide +kernel
theorem dX9_isSame_47 : decode cX9_isSame 47 = .ok (.getfield 90, 3) := by decide +kernel
theorem dX9_isSame_50 : decode cX9_isSame 50 = .ok (.iload_n 3, 1) := by decide +kernel
theorem dX9_isSame_51 : decode cX9_isSame 51 = .ok (.iaload, 1) := by decide +kernel
theorem dX9_isSame_52 : decode cX9_isSame 52 = .ok (.if_icmp .ne 7, 3) := by decide +kernel
theorem dX9_isSame_55 : decode cX9_isSame 55 = .ok (.iconst 1, 1) := by decide +kernel
theorem dX9_isSame_56 : decode cX9_isSame 56 = .ok (.goto 4, 3) := by decide +kernel
theorem dX9_isSame_59 : decode cX9_isSame 59 = .ok (.iconst 0, 1) := by decide +kernel
theorem dX9_isSame_60 : decode cX9_isSame 60 = .ok (.istore_n 2, 1) := by decide +kernel
theorem dX9_isSame_61 : decode cX9_isSame 61 = .ok (.iinc 3 1, 3) := by decide +kernel
theorem dX9_isSame_64 : decode cX9_isSame 64 = .ok (.goto (-43), 3) := by decide +kernel
theorem dX9_isSame_67 : decode cX9_isSame 67 = .ok (.iload_n 2, 1) := by decide +kernel
theorem dX9_isSame_68 : decode cX9_isSame 68 = .ok (.ireturn, 1) := by decide +kernel
theorem dX9_isHold_0 : decode cX9_isHold 0 = .ok (.iload_n 2, 1) := by decide +kernel
theorem dX9_isHold_1 : decode cX9_isHold 1 = .ok (.ifCond .lt 48, 3) := by decide +kernel
theorem dX9_isHold_4 : decode cX9_isHold 4 = .ok (.iload_n 2, 1) := by decide +kernel
theorem dX9_isHold_5 : decode cX9_isHold 5 = .ok (.aload_n 0, 1) := by decide +kernel
theorem dX9_isHold_6 : decode cX9_isHold 6 = .ok (.getfield 13, 3) := by decide +kernel
theorem dX9_isHold_9 : decode cX9_isHold 9 = .ok (.iload_n 1, 1) := by decide +kernel
theorem dX9_isHold_10 : decode cX9_isHold 10 = .ok (.iaload, 1) := by decide +kernel
theorem dX9_isHold_11 : decode cX9_isHold 11 = .ok (.if_icmp .ge 38, 3) := by decide +kernel
theorem dX9_isHold_14 : decode cX9_isHold 14 = .ok (.aload_n 0, 1) := by decide +kernel
theorem dX9_isHold_15 : decode cX9_isHold 15 = .ok (.getfield 39, 3) := by decide +kernel
theorem dX9_isHold_18 : decode cX9_isHold 18 = .ok (.sipush 200, 3) := by decide +kernel
theorem dX9_isHold_21 : decode cX9_isHold 21 = .ok (.iload_n 1, 1) := by decide +kernel
theorem dX9_isHold_22 : decode cX9_isHold 22 = .ok (.imul, 1) := by decide +kernel
theorem dX9_isHold_23 : decode cX9_isHold 23 = .ok (.iload_n 2, 1) := by decide +kernel
theorem dX9_isHold_24 : decode cX9_isHold 24 = .ok (.iadd, 1) := by decide +kernel
theorem dX9_isHold_25 : decode cX9_isHold 25 = .ok (.iaload, 1) := by decide +kernel
theorem dX9_isHold_26 : decode cX9_isHold 26 = .ok (.iconst 3, 1) := by decide +kernel
theorem dX9_isHold_27 : decode cX9_isHold 27 = .ok (.if_icmp .ne 22, 3) := by decide +kernel
theorem dX9_isHold_30 : decode cX9_isHold 30 = .ok (.aload_n 0, 1) := by decide +kernel
theorem dX9_isHold_31 : decode cX9_isHold 31 = .ok (.getfield 60, 3) := by decide +kernel
theorem dX9_isHold_34 : decode cX9_isHold 34 = .ok (.sipush 200, 3) := by decide +kernel
theorem dX9_isHold_37 : decode cX9_isHold 37 = .ok (.iload_n 1, 1) := by decide +kernel
theorem dX9_isHold_38 : decode cX9_isHold 38 = .ok (.imul, 1) := by decide +kernel
theorem dX9_isHold_39 : decode cX9_isHold 39 = .ok (.iload_n 2, 1) := by decide +kernel
theorem dX9_isHold_40 : decode cX9_isHold 40 = .ok (.iadd, 1) := by decide +kernel
theorem dX9_isHold_41 : decode cX9_isHold 41 = .ok (.baload, 1) := by decide +kernel
theorem dX9_isHold_42 : decode cX9_isHold 42 = .ok (.ifCond .eq 7, 3) := by decide +kernel
theorem dX9_isHold_45 : decode cX9_isHold 45 = .ok (.iconst 1, 1) := by decide +kernel
theorem dX9_isHold_46 : decode cX9_isHold 46 = .ok (.goto 4, 3) := by decide +kernel
theorem dX9_isHold_49 : decode cX9_isHold 49 = .ok (.iconst 0, 1) := by decide +kernel
theorem dX9_isHold_50 : decode cX9_isHold 50 = .ok (.ireturn, 1) := by decide +kernel
theorem dX9_isAccount_0 : decode cX9_isAccount 0 = .ok (.iload_n 2, 1) := by decide +kernel
theorem dX9_isAccount_1 : decode cX9_isAccount 1 = .ok (.ifCond .lt 17, 3) := by decide +kernel
theorem dX9_isAccount_4 : decode cX9_isAccount 4 = .ok (.iload_n 2, 1) := by decide +kernel
theorem dX9_isAccount_5 : decode cX9_isAccount 5 = .ok (.aload_n 0, 1) := by decide +kernel
theorem dX9_isAccount_6 : decode cX9_isAccount 6 = .ok (.getfield 7, 3) := by decide +kernel
theorem dX9_isAccount_9 : decode cX9_isAccount 9 = .ok (.iload_n 1, 1) := by decide +kernel
theorem dX9_isAccount_10 : decode cX9_isAccount 10 = .ok (.iaload, 1) := by decide +kernel
theorem dX9_isAccount_11 : decode cX9_isAccount 11 = .ok (.if_icmp .ge 7, 3) := by decide +kernel
theorem dX9_isAccount_14 : decode cX9_isAccount 14 = .ok (.iconst 1, 1) := by decide +kernel
theorem dX9_isAccount_15 : decode cX9_isAccount 15 = .ok (.goto 4, 3) := by decide +kernel
theorem dX9_isAccount_18 : decode cX9_isAccount 18 = .ok (.iconst 0, 1) := by decide +kernel
theorem dX9_isAccount_19 : decode cX9_isAccount 19 = .ok (.ireturn, 1) := by decide +kernel
theorem dX9_isUnknown_0 : decode cX9_isUnknown 0 = .ok (.iconst 0, 1) := by decide +kernel
theorem dX9_isUnknown_1 : decode cX9_isUnknown 1 = .ok (.istore_n 2, 1) := by decide +kernel
theorem dX9_isUnknown_2 : decode cX9_isUnknown 2 = .ok (.sipush 200, 3) := by decide +kernel
theorem dX9_isUnknown_5 : decode cX9_isUnknown 5 = .ok (.iload_n 1, 1) := by decide +kernel
theorem dX9_isUnknown_6 : decode cX9_isUnknown 6 = .ok (.imul, 1) := by decide +kernel
theorem dX9_isUnknown_7 : decode cX9_isUnknown 7 = .ok (.aload_n 0, 1) := by decide +kernel
theorem dX9_isUnknown_8 : decode cX9_isUnknown 8 = .ok (.getfield 228, 3) := by decide +kernel
theorem dX9_isUnknown_11 : decode cX9_isUnknown 11 = .ok (.iadd, 1) := by decide +kernel
theorem dX9_isUnknown_12 : decode cX9_isUnknown 12 = .ok (.istore_n 3, 1) := by decide +kernel
theorem dX9_isUnknown_13 : decode cX9_isUnknown 13 = .ok (.aload_n 0, 1) := by decide +kernel
theorem dX9_isUnknown_14 : decode cX9_isUnknown 14 = .ok (.getfield 217, 3) := by decide +kernel
theorem dX9_isUnknown_17 : decode cX9_isUnknown 17 = .ok (.tableswitch 264 2 6 #[35, 80, 98, 116, 187], 35) := by decide +kernel
theorem dX9_isUnknown_52 : decode cX9_isUnknown 52 = .ok (.iconst 0, 1) := by decide +kernel
theorem dX9_isUnknown_53 : decode cX9_isUnknown 53 = .ok (.istore 4, 2) := by decide +kernel
theorem dX9_isUnknown_55 : decode cX9_isUnknown 55 = .ok (.iload 4, 2) := by decide +kernel
theorem dX9_isUnknown_57 : decode cX9_isUnknown 57 = .ok (.aload_n 0, 1) := by decide +kernel
theorem dX9_isUnknown_58 : decode cX9_isUnknown 58 = .ok (.getfield 225, 3) := by decide +kernel
theorem dX9_isUnknown_61 : decode cX9_isUnknown 61 = .ok (.if_icmp .ge 34, 3) := by decide +kernel
theorem dX9_isUnknown_64 : decode cX9_isUnknown 64 = .ok (.iload_n 2, 1) := by decide +kernel
theorem dX9_isUnknown_65 : decode cX9_isUnknown 65 = .ok (.ifCond .ne 18, 3) := by decide +kernel
theorem dX9_isUnknown_68 : decode cX9_isUnknown 68 = .ok (.aload_n 0, 1) := by decide +kernel
theorem dX9_isUnknown_69 : decode cX9_isUnknown 69 = .ok (.iload_n 1, 1) := by decide +kernel
theorem dX9_isUnknown_70 : decode cX9_isUnknown 70 = .ok (.aload_n 0, 1) := by decide +kernel
theorem dX9_isUnknown_71 : decode cX9_isUnknown 71 = .ok (.getfield 84, 3) := by decide +kernel
theorem dX9_isUnknown_74 : decode cX9_isUnknown 74 = .ok (.iload 4, 2) := by decide +kernel
theorem dX9_isUnknown_76 : decode cX9_isUnknown 76 = .ok (.iaload, 1) := by decide +kernel
theorem dX9_isUnknown_77 : decode cX9_isUnknown 77 = .ok (.invokevirtual 250, 3) := by decide +kernel
theorem dX9_isUnknown_80 : decode cX9_isUnknown 80 = .ok (.ifCond .ne 7, 3) := by decide +kernel
theorem dX9_isUnknown_83 : decode cX9_isUnknown 83 = .ok (.iconst 1, 1) := by decide +kernel
theorem dX9_isUnknown_84 : decode cX9_isUnknown 84 = .ok (.goto 4, 3) := by decide +kernel
theorem dX9_isUnknown_87 : decode cX9_isUnknown 87 = .ok (.iconst 0, 1) := by decide +kernel
theorem dX9_isUnknown_88 : decode cX9_isUnknown 88 = .ok (.istore_n 2, 1) := by decide +kernel
theorem dX9_isUnknown_89 : decode cX9_isUnknown 89 = .ok (.iinc 4 1, 3) := by decide +kernel
theorem dX9_isUnknown_92 : decode cX9_isUnknown 92 = .ok (.goto (-37), 3) := by decide +kernel
theorem dX9_isUnknown_95 : decode cX9_isUnknown 95 = .ok (.iload_n 2, 1) := by decide +kernel
theorem dX9_isUnknown_96 : decode cX9_isUnknown 96 = .ok (.ireturn, 1) := by decide +kernel
theorem dX9_isUnknown_97 : decode cX9_isUnknown 97 = .ok (.aload_n 0, 1) := by decide +kernel
theorem dX9_isUnknown_98 : decode cX9_isUnknown 98 = .ok (.iload_n 1, 1) := by decide +kernel
theorem dX9_isUnknown_99 : decode cX9_isUnknown 99 = .ok (.aload_n 0, 1) := by decide +kernel
theorem dX9_isUnknown_100 : decode cX9_isUnknown 100 = .ok (.getfield 231, 3) := by decide +kernel
theorem dX9_isUnknown_103 : decode cX9_isUnknown 103 = .ok (.invokevirtual 250, 3) := by decide +kernel
theorem dX9_isUnknown_106 : decode cX9_isUnknown 106 = .ok (.ifCond .ne 7, 3) := by decide +kernel
theorem dX9_isUnknown_109 : decode cX9_isUnknown 109 = .ok (.iconst 1, 1) := by decide +kernel
theorem dX9_isUnknown_110 : decode cX9_isUnknown 110 = .ok (.goto 4, 3) := by decide +kernel
theorem dX9_isUnknown_113 : decode cX9_isUnknown 113 = .ok (.iconst 0, 1) := by decide +kernel
theorem dX9_isUnknown_114 : decode cX9_isUnknown 114 = .ok (.ireturn, 1) := by decide +kernel
theorem dX9_isUnknown_115 : decode cX9_isUnknown 115 = .ok (.aload_n 0, 1) := by decide +kernel
theorem dX9_isUnknown_116 : decode cX9_isUnknown 116 = .ok (.iload_n 1, 1) := by decide +kernel
theorem dX9_isUnknown_117 : decode cX9_isUnknown 117 = .ok (.aload_n 0, 1) := by decide +kernel
theorem dX9_isUnknown_118 : decode cX9_isUnknown 118 = .ok (.getfield 228, 3) := by decide +kernel
theorem dX9_isUnknown_121 : decode cX9_isUnknown 121 = .ok (.invokevirtual 254, 3) := by decide +kernel
theorem dX9_isUnknown_124 : decode cX9_isUnknown 124 = .ok (.ifCond .ne 7, 3) := by decide +kernel
theorem dX9_isUnknown_127 : decode cX9_isUnknown 127 = .ok (.iconst 1, 1) := by decide +kernel
theorem dX9_isUnknown_128 : decode cX9_isUnknown 128 = .ok (.goto 4, 3) := by decide +kernel
theorem dX9_isUnknown_131 : decode cX9_isUnknown 131 = .ok (.iconst 0, 1) := by decide +kernel
theorem dX9_isUnknown_132 : decode cX9_isUnknown 132 = .ok (.ireturn, 1) := by decide +kernel
theorem dX9_isUnknown_133 : decode cX9_isUnknown 133 = .ok (.aload_n 0, 1) := by decide +kernel
theorem dX9_isUnknown_134 : decode cX9_isUnknown 134 = .ok (.iload_n 1, 1) := by decide +kernel
theorem dX9_isUnknown_135 : decode cX9_isUnknown 135 = .ok (.aload_n 0, 1) := by decide +kernel
theorem dX9_isUnknown_136 : decode cX9_isUnknown 136 = .ok (.getfield 228, 3) := by decide +kernel
theorem dX9_isUnknown_139 : decode cX9_isUnknown 139 = .ok (.invokevirtual 254, 3) := by decide +kernel
theorem dX9_isUnknown_142 : decode cX9_isUnknown 142 = .ok (.ifCond .eq 29, 3) := by decide +kernel
theorem dX9_isUnknown_145 : decode cX9_isUnknown 145 = .ok (.aload_n 0, 1) := by decide +kernel
theorem dX9_isUnknown_146 : decode cX9_isUnknown 146 = .ok (.iload_n 1, 1) := by decide +kernel
theorem dX9_isUnknown_147 : decode cX9_isUnknown 147 = .ok (.aload_n 0, 1) := by decide +kernel
theorem dX9_isUnknown_148 : decode cX9_isUnknown 148 = .ok (.getfield 231, 3) := by decide +kernel
theorem dX9_isUnknown_151 : decode cX9_isUnknown 151 = .ok (.invokevirtual 250, 3) := by decide +kernel
theorem dX9_isUnknown_154 : decode cX9_isUnknown 154 = .ok (.ifCond .eq 17, 3) := by decide +kernel
theorem dX9_isUnknown_157 : decode cX9_isUnknown 157 = .ok (.aload_n 0, 1) := by decide +kernel
theorem dX9_isUnknown_158 : decode cX9_isUnknown 158 = .ok (.getfield 234, 3) := by decide +kernel
theorem dX9_isUnknown_161 : decode cX9_isUnknown 161 = .ok (.aload_n 0, 1) := by decide +kernel
theorem dX9_isUnknown_162 : decode cX9_isUnknown 162 = .ok (.getfield 57, 3) := by decide +kernel
theorem dX9_isUnknown_165 : decode cX9_isUnknown 165 = .ok (.iload_n 3, 1) := by decide +kernel
theorem dX9_isUnknown_166 : decode cX9_isUnknown 166 = .ok (.laload, 1) := by decide +kernel
theorem dX9_isUnknown_167 : decode cX9_isUnknown 167 = .ok (.lcmp, 1) := by decide +kernel
theorem dX9_isUnknown_168 : decode cX9_isUnknown 168 = .ok (.ifCond .le 5, 3) := by decide +kernel
theorem dX9_isUnknown_171 : decode cX9_isUnknown 171 = .ok (.iconst 1, 1) := by decide +kernel
theorem dX9_isUnknown_172 : decode cX9_isUnknown 172 = .ok (.ireturn, 1) := by decide +kernel
theorem dX9_isUnknown_173 : decode cX9_isUnknown 173 = .ok (.aload_n 0, 1) := by decide +kernel
theorem dX9_isUnknown_174 : decode cX9_isUnknown 174 = .ok (.aload_n 0, 1) := by decide +kernel
theorem dX9_isUnknown_175 : decode cX9_isUnknown 175 = .ok (.getfield 54, 3) := by decide +kernel
theorem dX9_isUnknown_178 : decode cX9_isUnknown 178 = .ok (.iload_n 3, 1) := by decide +kernel
theorem dX9_isUnknown_179 : decode cX9_isUnknown 179 = .ok (.iaload, 1) := by decide +kernel
theorem dX9_isUnknown_180 : decode cX9_isUnknown 180 = .ok (.aload_n 0, 1) := by decide +kernel
theorem dX9_isUnknown_181 : decode cX9_isUnknown 181 = .ok (.getfield 234, 3) := by decide +kernel
theorem dX9_isUnknown_184 : decode cX9_isUnknown 184 = .ok (.lneg, 1) := by decide +kernel
theorem dX9_isUnknown_185 : decode cX9_isUnknown 185 = .ok (.iconst 0, 1) := by decide +kernel
theorem dX9_isUnknown_186 : decode cX9_isUnknown 186 = .ok (.invokevirtual 257, 3) := by decide +kernel
theorem dX9_isUnknown_189 : decode cX9_isUnknown 189 = .ok (.aload_n 0, 1) := by decide +kernel
theorem dX9_isUnknown_190 : decode cX9_isUnknown 190 = .ok (.aload_n 0, 1) := by decide +kernel
theorem dX9_isUnknown_191 : decode cX9_isUnknown 191 = .ok (.getfield 231, 3) := by decide +kernel
theorem dX9_isUnknown_194 : decode cX9_isUnknown 194 = .ok (.aload_n 0, 1) := by decide +kernel
theorem dX9_isUnknown_195 : decode cX9_isUnknown 195 = .ok (.getfield 234, 3) := by decide +kernel
theorem dX9_isUnknown_198 : decode cX9_isUnknown 198 = .ok (.iconst 1, 1) := by decide +kernel
theorem dX9_isUnknown_199 : decode cX9_isUnknown 199 = .ok (.invokevirtual 257, 3) := by decide +kernel
theorem dX9_isUnknown_202 : decode cX9_isUnknown 202 = .ok (.iconst 0, 1) := by decide +kernel
theorem dX9_isUnknown_203 : decode cX9_isUnknown 203 = .ok (.ireturn, 1) := by decide +kernel
theorem dX9_isUnknown_204 : decode cX9_isUnknown 204 = .ok (.aload_n 0, 1) := by decide +kernel
theorem dX9_isUnknown_205 : decode cX9_isUnknown 205 = .ok (.getfield 228, 3) := by decide +kernel
theorem dX9_isUnknown_208 : decode cX9_isUnknown 208 = .ok (.aload_n 0, 1) := by decide +kernel
theorem dX9_isUnknown_209 : decode cX9_isUnknown 209 = .ok (.getfield 13, 3) := by decide +kernel
theorem dX9_isUnknown_212 : decode cX9_isUnknown 212 = .ok (.iload_n 1, 1) := by decide +kernel
theorem dX9_isUnknown_213 : decode cX9_isUnknown 213 = .ok (.iaload, 1) := by decide +kernel
theorem dX9_isUnknown_214 : decode cX9_isUnknown 214 = .ok (.if_icmp .ge 12, 3) := by decide +kernel
theorem dX9_isUnknown_217 : decode cX9_isUnknown 217 = .ok (.aload_n 0, 1) := by decide +kernel
theorem dX9_isUnknown_218 : decode cX9_isUnknown 218 = .ok (.getfield 45, 3) := by decide +kernel
theorem dX9_isUnknown_221 : decode cX9_isUnknown 221 = .ok (.iload_n 3, 1) := by decide +kernel
theorem dX9_isUnknown_222 : decode cX9_isUnknown 222 = .ok (.iaload, 1) := by decide +kernel
theorem dX9_isUnknown_223 : decode cX9_isUnknown 223 = .ok (.ifCond .ne 5, 3) := by decide +kernel
theorem dX9_isUnknown_226 : decode cX9_isUnknown 226 = .ok (.iconst 1, 1) := by decide +kernel
theorem dX9_isUnknown_227 : decode cX9_isUnknown 227 = .ok (.ireturn, 1) := by decide +kernel
theorem dX9_isUnknown_228 : decode cX9_isUnknown 228 = .ok (.iconst 0, 1) := by decide +kernel
theorem dX9_isUnknown_229 : decode cX9_isUnknown 229 = .ok (.istore 4, 2) := by decide +kernel
theorem dX9_isUnknown_231 : decode cX9_isUnknown 231 = .ok (.iload 4, 2) := by decide +kernel
theorem dX9_isUnknown_233 : decode cX9_isUnknown 233 = .ok (.aload_n 0, 1) := by decide +kernel
theorem dX9_isUnknown_234 : decode cX9_isUnknown 234 = .ok (.getfield 45, 3) := by decide +kernel
theorem dX9_isUnknown_237 : decode cX9_isUnknown 237 = .ok (.iload_n 3, 1) := by decide +kernel
theorem dX9_isUnknown_238 : decode cX9_isUnknown 238 = .ok (.iaload, 1) := by decide +kernel
theorem dX9_isUnknown_239 : decode cX9_isUnknown 239 = .ok (.if_icmp .ge 40, 3) := by decide +kernel
theorem dX9_isUnknown_242 : decode cX9_isUnknown 242 = .ok (.aload_n 0, 1) := by decide +kernel
theorem dX9_isUnknown_243 : decode cX9_isUnknown 243 = .ok (.aload_n 0, 1) := by decide +kernel
theorem dX9_isUnknown_244 : decode cX9_isUnknown 244 = .ok (.getfield 48, 3) := by decide +kernel
theorem dX9_isUnknown_247 : decode cX9_isUnknown 247 = .ok (.bipush 8, 2) := by decide +kernel
theorem dX9_isUnknown_249 : decode cX9_isUnknown 249 = .ok (.iload_n 3, 1) := by decide +kernel
theorem dX9_isUnknown_250 : decode cX9_isUnknown 250 = .ok (.imul, 1) := by decide +kernel
theorem dX9_isUnknown_251 : decode cX9_isUnknown 251 = .ok (.iload 4, 2) := by decide +kernel
theorem dX9_isUnknown_253 : decode cX9_isUnknown 253 = .ok (.iadd, 1) := by decide +kernel
theorem dX9_isUnknown_254 : decode cX9_isUnknown 254 = .ok (.iaload, 1) := by decide +kernel
theorem dX9_isUnknown_255 : decode cX9_isUnknown 255 = .ok (.aload_n 0, 1) := by decide +kernel
theorem dX9_isUnknown_256 : decode cX9_isUnknown 256 = .ok (.getfield 51, 3) := by decide +kernel
theorem dX9_isUnknown_259 : decode cX9_isUnknown 259 = .ok (.bipush 8, 2) := by decide +kernel
theorem dX9_isUnknown_261 : decode cX9_isUnknown 261 = .ok (.iload_n 3, 1) := by decide +kernel
theorem dX9_isUnknown_262 : decode cX9_isUnknown 262 = .ok (.imul, 1) := by decide +kernel
theorem dX9_isUnknown_263 : decode cX9_isUnknown 263 = .ok (.iload 4, 2) := by decide +kernel
theorem dX9_isUnknown_265 : decode cX9_isUnknown 265 = .ok (.iadd, 1) := by decide +kernel
theorem dX9_isUnknown_266 : decode cX9_isUnknown 266 = .ok (.laload, 1) := by decide +kernel
theorem dX9_isUnknown_267 : decode cX9_isUnknown 267 = .ok (.lneg, 1) := by decide +kernel
theorem dX9_isUnknown_268 : decode cX9_isUnknown 268 = .ok (.iload 4, 2) := by decide +kernel
theorem dX9_isUnknown_270 : decode cX9_isUnknown 270 = .ok (.invokevirtual 257, 3) := by decide +kernel
theorem dX9_isUnknown_273 : decode cX9_isUnknown 273 = .ok (.iinc 4 1, 3) := by decide +kernel
theorem dX9_isUnknown_276 : decode cX9_isUnknown 276 = .ok (.goto (-45), 3) := by decide +kernel
theorem dX9_isUnknown_279 : decode cX9_isUnknown 279 = .ok (.iconst 0, 1) := by decide +kernel
theorem dX9_isUnknown_280 : decode cX9_isUnknown 280 = .ok (.ireturn, 1) := by decide +kernel
theorem dX9_isUnknown_281 : decode cX9_isUnknown 281 = .ok (.iconst 0, 1) := by decide +kernel
theorem dX9_isUnknown_282 : decode cX9_isUnknown 282 = .ok (.ireturn, 1) := by decide +kernel
theorem dX9_isUneven_0 : decode cX9_isUneven 0 = .ok (.aload_n 0, 1) := by decide +kernel
theorem dX9_isUneven_1 : decode cX9_isUneven 1 = .ok (.getfield 217, 3) := by decide +kernel
theorem dX9_isUneven_4 : decode cX9_isUneven 4 = .ok (.iconst 2, 1) := by decide +kernel
theorem dX9_isUneven_5 : decode cX9_isUneven 5 = .ok (.if_icmp .eq 5, 3) := by decide +kernel
theorem dX9_isUneven_8 : decode cX9_isUneven 8 = .ok (.iconst 0, 1) := by decide +kernel
theorem dX9_isUneven_9 : decode cX9_isUneven 9 = .ok (.ireturn, 1) := by decide +kernel
theorem dX9_isUneven_10 : decode cX9_isUneven 10 = .ok (.lconst 0, 1) := by decide +kernel
theorem dX9_isUneven_11 : decode cX9_isUneven 11 = .ok (.lstore_n 1, 1) := by decide +kernel
theorem dX9_isUneven_12 : decode cX9_isUneven 12 = .ok (.lconst 0, 1) := by decide +kernel
theorem dX9_isUneven_13 : decode cX9_isUneven 13 = .ok (.lstore_n 3, 1) := by decide +kernel
theorem dX9_isUneven_14 : decode cX9_isUneven 14 = .ok (.iconst 0, 1) := by decide +kernel
theorem dX9_isUneven_15 : decode cX9_isUneven 15 = .ok (.istore 5, 2) := by decide +kernel
theorem dX9_isUneven_17 : decode cX9_isUneven 17 = .ok (.iload 5, 2) := by decide +kernel
theorem dX9_isUneven_19 : decode cX9_isUneven 19 = .ok (.aload_n 0, 1) := by decide +kernel
theorem dX9_isUneven_20 : decode cX9_isUneven 20 = .ok (.getfield 225, 3) := by decide +kernel
theorem dX9_isUneven_23 : decode cX9_isUneven 23 = .ok (.if_icmp .ge 36, 3) := by decide +kernel
theorem dX9_isUneven_26 : decode cX9_isUneven 26 = .ok (.lload_n 1, 1) := by decide +kernel
theorem dX9_isUneven_27 : decode cX9_isUneven 27 = .ok (.aload_n 0, 1) := by decide +kernel
theorem dX9_isUneven_28 : decode cX9_isUneven 28 = .ok (.getfield 87, 3) := by decide +kernel
theorem dX9_isUneven_31 : decode cX9_isUneven 31 = .ok (.iload 5, 2) := by decide +kernel
theorem dX9_isUneven_33 : decode cX9_isUneven 33 = .ok (.laload, 1) := by decide +kernel
theorem dX9_isUneven_34 : decode cX9_isUneven 34 = .ok (.bipush 32, 2) := by decide +kernel
theorem dX9_isUneven_36 : decode cX9_isUneven 36 = .ok (.lshr, 1) := by decide +kernel
theorem dX9_isUneven_37 : decode cX9_isUneven 37 = .ok (.ladd, 1) := by decide +kernel
theorem dX9_isUneven_38 : decode cX9_isUneven 38 = .ok (.lstore_n 1, 1) := by decide +kernel
theorem dX9_isUneven_39 : decode cX9_isUneven 39 = .ok (.lload_n 3, 1) := by decide +kernel
theorem dX9_isUneven_40 : decode cX9_isUneven 40 = .ok (.aload_n 0, 1) := by decide +kernel
theorem dX9_isUneven_41 : decode cX9_isUneven 41 = .ok (.getfield 87, 3) := by decide +kernel
theorem dX9_isUneven_44 : decode cX9_isUneven 44 = .ok (.iload 5, 2) := by decide +kernel
theorem dX9_isUneven_46 : decode cX9_isUneven 46 = .ok (.laload, 1) := by decide +kernel
theorem dX9_isUneven_47 : decode cX9_isUneven 47 = .ok (.ldc2_w 261, 3) := by decide +kernel
theorem dX9_isUneven_50 : decode cX9_isUneven 50 = .ok (.land, 1) := by decide +kernel
theorem dX9_isUneven_51 : decode cX9_isUneven 51 = .ok (.ladd, 1) := by decide +kernel
theorem dX9_isUneven_52 : decode cX9_isUneven 52 = .ok (.lstore_n 3, 1) := by decide +kernel
theorem dX9_isUneven_53 : decode cX9_isUneven 53 = .ok (.iinc 5 1, 3) := by decide +kernel
theorem dX9_isUneven_56 : decode cX9_isUneven 56 = .ok (.goto (-39), 3) := by decide +kernel
theorem dX9_isUneven_59 : decode cX9_isUneven 59 = .ok (.lload_n 1, 1) := by decide +kernel
theorem dX9_isUneven_60 : decode cX9_isUneven 60 = .ok (.lload_n 3, 1) := by decide +kernel
theorem dX9_isUneven_61 : decode cX9_isUneven 61 = .ok (.bipush 32, 2) := by decide +kernel
theorem dX9_isUneven_63 : decode cX9_isUneven 63 = .ok (.lshr, 1) := by decide +kernel
theorem dX9_isUneven_64 : decode cX9_isUneven 64 = .ok (.ladd, 1) := by decide +kernel
theorem dX9_isUneven_65 : decode cX9_isUneven 65 = .ok (.lconst 0, 1) := by decide +kernel
theorem dX9_isUneven_66 : decode cX9_isUneven 66 = .ok (.lcmp, 1) := by decide +kernel
theorem dX9_isUneven_67 : decode cX9_isUneven 67 = .ok (.ifCond .ne 13, 3) := by decide +kernel
theorem dX9_isUneven_70 : decode cX9_isUneven 70 = .ok (.lload_n 3, 1) := by decide +kernel
theorem dX9_isUneven_71 : decode cX9_isUneven 71 = .ok (.ldc2_w 261, 3) := by decide +kernel
theorem dX9_isUneven_74 : decode cX9_isUneven 74 = .ok (.land, 1) := by decide +kernel
theorem dX9_isUneven_75 : decode cX9_isUneven 75 = .ok (.lconst 0, 1) := by decide +kernel
theorem dX9_isUneven_76 : decode cX9_isUneven 76 = .ok (.lcmp, 1) := by decide +kernel
theorem dX9_isUneven_77 : decode cX9_isUneven 77 = .ok (.ifCond .eq 7, 3) := by decide +kernel
theorem dX9_isUneven_80 : decode cX9_isUneven 80 = .ok (.iconst 1, 1) := by decide +kernel
theorem dX9_isUneven_81 : decode cX9_isUneven 81 = .ok (.goto 4, 3) := by decide +kernel
theorem dX9_isUneven_84 : decode cX9_isUneven 84 = .ok (.iconst 0, 1) := by decide +kernel
theorem dX9_isUneven_85 : decode cX9_isUneven 85 = .ok (.ireturn, 1) := by decide +kernel
theorem dX9_isOver_0 : decode cX9_isOver 0 = .ok (.iconst 0, 1) := by decide +kernel
theorem dX9_isOver_1 : decode cX9_isOver 1 = .ok (.istore_n 2, 1) := by decide +kernel
theorem dX9_isOver_2 : decode cX9_isOver 2 = .ok (.iload_n 2, 1) := by decide +kernel
theorem dX9_isOver_3 : decode cX9_isOver 3 = .ok (.aload_n 0, 1) := by decide +kernel
theorem dX9_isOver_4 : decode cX9_isOver 4 = .ok (.getfield 7, 3) := by decide +kernel
theorem dX9_isOver_7 : decode cX9_isOver 7 = .ok (.iload_n 1, 1) := by decide +kernel
theorem dX9_isOver_8 : decode cX9_isOver 8 = .ok (.iaload, 1) := by decide +kernel
theorem dX9_isOver_9 : decode cX9_isOver 9 = .ok (.if_icmp .ge 26, 3) := by decide +kernel
theorem dX9_isOver_12 : decode cX9_isOver 12 = .ok (.aload_n 0, 1) := by decide +kernel
theorem dX9_isOver_13 : decode cX9_isOver 13 = .ok (.getfield 93, 3) := by decide +kernel
theorem dX9_isOver_16 : decode cX9_isOver 16 = .ok (.iload_n 2, 1) := by decide +kernel
theorem dX9_isOver_17 : decode cX9_isOver 17 = .ok (.aload_n 0, 1) := by decide +kernel
theorem dX9_isOver_18 : decode cX9_isOver 18 = .ok (.getfield 30, 3) := by decide +kernel
theorem dX9_isOver_21 : decode cX9_isOver 21 = .ok (.bipush 40, 2) := by decide +kernel
theorem dX9_isOver_23 : decode cX9_isOver 23 = .ok (.iload_n 1, 1) := by decide +kernel
theorem dX9_isOver_24 : decode cX9_isOver 24 = .ok (.imul, 1) := by decide +kernel
theorem dX9_isOver_25 : decode cX9_isOver 25 = .ok (.iload_n 2, 1) := by decide +kernel
theorem dX9_isOver_26 : decode cX9_isOver 26 = .ok (.iadd, 1) := by decide +kernel
theorem dX9_isOver_27 : decode cX9_isOver 27 = .ok (.laload, 1) := by decide +kernel
theorem dX9_isOver_28 : decode cX9_isOver 28 = .ok (.lastore, 1) := by decide +kernel
theorem dX9_isOver_29 : decode cX9_isOver 29 = .ok (.iinc 2 1, 3) := by decide +kernel
theorem dX9_isOver_32 : decode cX9_isOver 32 = .ok (.goto (-30), 3) := by decide +kernel
theorem dX9_isOver_35 : decode cX9_isOver 35 = .ok (.iconst 0, 1) := by decide +kernel
theorem dX9_isOver_36 : decode cX9_isOver 36 = .ok (.istore_n 2, 1) := by decide +kernel
theorem dX9_isOver_37 : decode cX9_isOver 37 = .ok (.iload_n 2, 1) := by decide +kernel
theorem dX9_isOver_38 : decode cX9_isOver 38 = .ok (.aload_n 0, 1) := by decide +kernel
theorem dX9_isOver_39 : decode cX9_isOver 39 = .ok (.getfield 225, 3) := by decide +kernel
theorem dX9_isOver_42 : decode cX9_isOver 42 = .ok (.if_icmp .ge 65, 3) := by decide +kernel
theorem dX9_isOver_45 : decode cX9_isOver 45 = .ok (.aload_n 0, 1) := by decide +kernel
theorem dX9_isOver_46 : decode cX9_isOver 46 = .ok (.getfield 84, 3) := by decide +kernel
theorem dX9_isOver_49 : decode cX9_isOver 49 = .ok (.iload_n 2, 1) := by decide +kernel
theorem dX9_isOver_50 : decode cX9_isOver 50 = .ok (.iaload, 1) := by decide +kernel
theorem dX9_isOver_51 : decode cX9_isOver 51 = .ok (.istore_n 3, 1) := by decide +kernel
theorem dX9_isOver_52 : decode cX9_isOver 52 = .ok (.aload_n 0, 1) := by decide +kernel
theorem dX9_isOver_53 : decode cX9_isOver 53 = .ok (.getfield 93, 3) := by decide +kernel
theorem dX9_isOver_56 : decode cX9_isOver 56 = .ok (.iload_n 3, 1) := by decide +kernel
theorem dX9_isOver_57 : decode cX9_isOver 57 = .ok (.laload, 1) := by decide +kernel
theorem dX9_isOver_58 : decode cX9_isOver 58 = .ok (.lstore 4, 2) := by decide +kernel
theorem dX9_isOver_60 : decode cX9_isOver 60 = .ok (.lload 4, 2) := by decide +kernel
theorem dX9_isOver_62 : decode cX9_isOver 62 = .ok (.aload_n 0, 1) := by decide +kernel
theorem dX9_isOver_63 : decode cX9_isOver 63 = .ok (.getfield 87, 3) := by decide +kernel
theorem dX9_isOver_66 : decode cX9_isOver 66 = .ok (.iload_n 2, 1) := by decide +kernel
theorem dX9_isOver_67 : decode cX9_isOver 67 = .ok (.laload, 1) := by decide +kernel
theorem dX9_isOver_68 : decode cX9_isOver 68 = .ok (.ladd, 1) := by decide +kernel
theorem dX9_isOver_69 : decode cX9_isOver 69 = .ok (.lstore 6, 2) := by decide +kernel
theorem dX9_isOver_71 : decode cX9_isOver 71 = .ok (.lload 4, 2) := by decide +kernel
theorem dX9_isOver_73 : decode cX9_isOver 73 = .ok (.lload 6, 2) := by decide +kernel
theorem dX9_isOver_75 : decode cX9_isOver 75 = .ok (.lxor, 1) := by decide +kernel
theorem dX9_isOver_76 : decode cX9_isOver 76 = .ok (.aload_n 0, 1) := by decide +kernel
theorem dX9_isOver_77 : decode cX9_isOver 77 = .ok (.getfield 87, 3) := by decide +kernel
theorem dX9_isOver_80 : decode cX9_isOver 80 = .ok (.iload_n 2, 1) := by decide +kernel
theorem dX9_isOver_81 : decode cX9_isOver 81 = .ok (.laload, 1) := by decide +kernel
theorem dX9_isOver_82 : decode cX9_isOver 82 = .ok (.lload 6, 2) := by decide +kernel
theorem dX9_isOver_84 : decode cX9_isOver 84 = .ok (.lxor, 1) := by decide +kernel
theorem dX9_isOver_85 : decode cX9_isOver 85 = .ok (.land, 1) := by decide +kernel
theorem dX9_isOver_86 : decode cX9_isOver 86 = .ok (.lconst 0, 1) := by decide +kernel
theorem dX9_isOver_87 : decode cX9_isOver 87 = .ok (.lcmp, 1) := by decide +kernel
theorem dX9_isOver_88 : decode cX9_isOver 88 = .ok (.ifCond .ge 5, 3) := by decide +kernel
theorem dX9_isOver_91 : decode cX9_isOver 91 = .ok (.iconst 1, 1) := by decide +kernel
theorem dX9_isOver_92 : decode cX9_isOver 92 = .ok (.ireturn, 1) := by decide +kernel
theorem dX9_isOver_93 : decode cX9_isOver 93 = .ok (.aload_n 0, 1) := by decide +kernel
theorem dX9_isOver_94 : decode cX9_isOver 94 = .ok (.getfield 93, 3) := by decide +kernel
theorem dX9_isOver_97 : decode cX9_isOver 97 = .ok (.iload_n 3, 1) := by decide +kernel
theorem dX9_isOver_98 : decode cX9_isOver 98 = .ok (.lload 6, 2) := by decide +kernel
theorem dX9_isOver_100 : decode cX9_isOver 100 = .ok (.lastore, 1) := by decide +kernel
theorem dX9_isOver_101 : decode cX9_isOver 101 = .ok (.iinc 2 1, 3) := by decide +kernel
theorem dX9_isOver_104 : decode cX9_isOver 104 = .ok (.goto (-67), 3) := by decide +kernel
theorem dX9_isOver_107 : decode cX9_isOver 107 = .ok (.iconst 0, 1) := by decide +kernel
theorem dX9_isOver_108 : decode cX9_isOver 108 = .ok (.ireturn, 1) := by decide +kernel
theorem dX9_isBelow_0 : decode cX9_isBelow 0 = .ok (.aload_n 0, 1) := by decide +kernel
theorem dX9_isBelow_1 : decode cX9_isBelow 1 = .ok (.getfield 33, 3) := by decide +kernel
theorem dX9_isBelow_4 : decode cX9_isBelow 4 = .ok (.bipush 40, 2) := by decide +kernel
theorem dX9_isBelow_6 : decode cX9_isBelow 6 = .ok (.iload_n 1, 1) := by decide +kernel
theorem dX9_isBelow_7 : decode cX9_isBelow 7 = .ok (.imul, 1) := by decide +kernel
theorem dX9_isBelow_8 : decode cX9_isBelow 8 = .ok (.iload_n 2, 1) := by decide +kernel
theorem dX9_isBelow_9 : decode cX9_isBelow 9 = .ok (.iadd, 1) := by decide +kernel
theorem dX9_isBelow_10 : decode cX9_isBelow 10 = .ok (.laload, 1) := by decide +kernel
theorem dX9_isBelow_11 : decode cX9_isBelow 11 = .ok (.lstore_n 3, 1) := by decide +kernel
theorem dX9_isBelow_12 : decode cX9_isBelow 12 = .ok (.aload_n 0, 1) := by decide +kernel
theorem dX9_isBelow_13 : decode cX9_isBelow 13 = .ok (.getfield 36, 3) := by decide +kernel
theorem dX9_isBelow_16 : decode cX9_isBelow 16 = .ok (.bipush 40, 2) := by decide +kernel
theorem dX9_isBelow_18 : decode cX9_isBelow 18 = .ok (.iload_n 1, 1) := by decide +kernel
theorem dX9_isBelow_19 : decode cX9_isBelow 19 = .ok (.imul, 1) := by decide +kernel
theorem dX9_isBelow_20 : decode cX9_isBelow 20 = .ok (.iload_n 2, 1) := by decide +kernel
theorem dX9_isBelow_21 : decode cX9_isBelow 21 = .ok (.iadd, 1) := by decide +kernel
theorem dX9_isBelow_22 : decode cX9_isBelow 22 = .ok (.laload, 1) := by decide +kernel
theorem dX9_isBelow_23 : decode cX9_isBelow 23 = .ok (.lstore 5, 2) := by decide +kernel
theorem dX9_isBelow_25 : decode cX9_isBelow 25 = .ok (.aload_n 0, 1) := by decide +kernel
theorem dX9_isBelow_26 : decode cX9_isBelow 26 = .ok (.getfield 217, 3) := by decide +kernel
theorem dX9_isBelow_29 : decode cX9_isBelow 29 = .ok (.iconst 3, 1) := by decide +kernel
theorem dX9_isBelow_30 : decode cX9_isBelow 30 = .ok (.if_icmp .ne 34, 3) := by decide +kernel
theorem dX9_isBelow_33 : decode cX9_isBelow 33 = .ok (.iload_n 2, 1) := by decide +kernel
theorem dX9_isBelow_34 : decode cX9_isBelow 34 = .ok (.aload_n 0, 1) := by decide +kernel
theorem dX9_isBelow_35 : decode cX9_isBelow 35 = .ok (.getfield 231, 3) := by decide +kernel
theorem dX9_isBelow_38 : decode cX9_isBelow 38 = .ok (.if_icmp .ne 26, 3) := by decide +kernel
theorem dX9_isBelow_41 : decode cX9_isBelow 41 = .ok (.lload_n 3, 1) := by decide +kernel
theorem dX9_isBelow_42 : decode cX9_isBelow 42 = .ok (.aload_n 0, 1) := by decide +kernel
theorem dX9_isBelow_43 : decode cX9_isBelow 43 = .ok (.getfield 234, 3) := by decide +kernel
