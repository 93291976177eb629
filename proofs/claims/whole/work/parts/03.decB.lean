theorem dX5_init_0 : decode cX5_init 0 = .ok (.aload_n 0, 1) := by decide +kernel
theorem dX5_init_1 : decode cX5_init 1 = .ok (.invokespecial 1, 3) := by decide +kernel
theorem dX5_init_4 : decode cX5_init 4 = .ok (.aload_n 0, 1) := by decide +kernel
theorem dX5_init_5 : decode cX5_init 5 = .ok (.new 7, 3) := by decide +kernel
theorem dX5_init_8 : decode cX5_init 8 = .ok (.dup, 1) := by decide +kernel
theorem dX5_init_9 : decode cX5_init 9 = .ok (.invokespecial 9, 3) := by decide +kernel
theorem dX5_init_12 : decode cX5_init 12 = .ok (.putfield 10, 3) := by decide +kernel
theorem dX5_init_15 : decode cX5_init 15 = .ok (.aload_n 0, 1) := by decide +kernel
theorem dX5_init_16 : decode cX5_init 16 = .ok (.new 16, 3) := by decide +kernel
theorem dX5_init_19 : decode cX5_init 19 = .ok (.dup, 1) := by decide +kernel
theorem dX5_init_20 : decode cX5_init 20 = .ok (.aload_n 0, 1) := by decide +kernel
theorem dX5_init_21 : decode cX5_init 21 = .ok (.getfield 10, 3) := by decide +kernel
theorem dX5_init_24 : decode cX5_init 24 = .ok (.invokespecial 18, 3) := by decide +kernel
theorem dX5_init_27 : decode cX5_init 27 = .ok (.putfield 21, 3) := by decide +kernel
theorem dX5_init_30 : decode cX5_init 30 = .ok (.aload_n 0, 1) := by decide +kernel
theorem dX5_init_31 : decode cX5_init 31 = .ok (.new 25, 3) := by decide +kernel
theorem dX5_init_34 : decode cX5_init 34 = .ok (.dup, 1) := by decide +kernel
theorem dX5_init_35 : decode cX5_init 35 = .ok (.aload_n 0, 1) := by decide +kernel
theorem dX5_init_36 : decode cX5_init 36 = .ok (.getfield 10, 3) := by decide +kernel
theorem dX5_init_39 : decode cX5_init 39 = .ok (.invokespecial 27, 3) := by decide +kernel
theorem dX5_init_42 : decode cX5_init 42 = .ok (.putfield 28, 3) := by decide +kernel
theorem dX5_init_45 : decode cX5_init 45 = .ok (.aload_n 0, 1) := by decide +kernel
theorem dX5_init_46 : decode cX5_init 46 = .ok (.new 32, 3) := by decide +kernel
theorem dX5_init_49 : decode cX5_init 49 = .ok (.dup, 1) := by decide +kernel
theorem dX5_init_50 : decode cX5_init 50 = .ok (.invokespecial 34, 3) := by decide +kernel
theorem dX5_init_53 : decode cX5_init 53 = .ok (.putfield 35, 3) := by decide +kernel
theorem dX5_init_56 : decode cX5_init 56 = .ok (.aload_n 0, 1) := by decide +kernel
theorem dX5_init_57 : decode cX5_init 57 = .ok (.iconst 4, 1) := by decide +kernel
theorem dX5_init_58 : decode cX5_init 58 = .ok (.anewarray 39, 3) := by decide +kernel
theorem dX5_init_61 : decode cX5_init 61 = .ok (.putfield 41, 3) := by decide +kernel
theorem dX5_init_64 : decode cX5_init 64 = .ok (.iconst 0, 1) := by decide +kernel
theorem dX5_init_65 : decode cX5_init 65 = .ok (.istore_n 1, 1) := by decide +kernel
theorem dX5_init_66 : decode cX5_init 66 = .ok (.iload_n 1, 1) := by decide +kernel
theorem dX5_init_67 : decode cX5_init 67 = .ok (.iconst 4, 1) := by decide +kernel
theorem dX5_init_68 : decode cX5_init 68 = .ok (.if_icmp .ge 22, 3) := by decide +kernel
theorem dX5_init_71 : decode cX5_init 71 = .ok (.aload_n 0, 1) := by decide +kernel
theorem dX5_init_72 : decode cX5_init 72 = .ok (.getfield 41, 3) := by decide +kernel
theorem dX5_init_75 : decode cX5_init 75 = .ok (.iload_n 1, 1) := by decide +kernel
theorem dX5_init_76 : decode cX5_init 76 = .ok (.new 39, 3) := by decide +kernel
theorem dX5_init_79 : decode cX5_init 79 = .ok (.dup, 1) := by decide +kernel
theorem dX5_init_80 : decode cX5_init 80 = .ok (.invokespecial 45, 3) := by decide +kernel
theorem dX5_init_83 : decode cX5_init 83 = .ok (.aastore, 1) := by decide +kernel
theorem dX5_init_84 : decode cX5_init 84 = .ok (.iinc 1 1, 3) := by decide +kernel
theorem dX5_init_87 : decode cX5_init 87 = .ok (.goto (-21), 3) := by decide +kernel
theorem dX5_init_90 : decode cX5_init 90 = .ok (.aload_n 0, 1) := by decide +kernel
theorem dX5_init_91 : decode cX5_init 91 = .ok (.iconst 0, 1) := by decide +kernel
theorem dX5_init_92 : decode cX5_init 92 = .ok (.putfield 46, 3) := by decide +kernel
theorem dX5_init_95 : decode cX5_init 95 = .ok (.return_, 1) := by decide +kernel
theorem dX5_senders_0 : decode cX5_senders 0 = .ok (.iload_n 1, 1) := by decide +kernel
theorem dX5_senders_1 : decode cX5_senders 1 = .ok (.iconst 1, 1) := by decide +kernel
theorem dX5_senders_2 : decode cX5_senders 2 = .ok (.if_icmp .lt 8, 3) := by decide +kernel
theorem dX5_senders_5 : decode cX5_senders 5 = .ok (.iload_n 1, 1) := by decide +kernel
theorem dX5_senders_6 : decode cX5_senders 6 = .ok (.iconst 5, 1) := by decide +kernel
theorem dX5_senders_7 : decode cX5_senders 7 = .ok (.if_icmp .le 6, 3) := by decide +kernel
theorem dX5_senders_10 : decode cX5_senders 10 = .ok (.bipush (-2), 2) := by decide +kernel
theorem dX5_senders_12 : decode cX5_senders 12 = .ok (.ireturn, 1) := by decide +kernel
theorem dX5_senders_13 : decode cX5_senders 13 = .ok (.aload_n 0, 1) := by decide +kernel
theorem dX5_senders_14 : decode cX5_senders 14 = .ok (.getfield 10, 3) := by decide +kernel
theorem dX5_senders_17 : decode cX5_senders 17 = .ok (.getfield 50, 3) := by decide +kernel
theorem dX5_senders_20 : decode cX5_senders 20 = .ok (.istore_n 2, 1) := by decide +kernel
theorem dX5_senders_21 : decode cX5_senders 21 = .ok (.aload_n 0, 1) := by decide +kernel
theorem dX5_senders_22 : decode cX5_senders 22 = .ok (.getfield 10, 3) := by decide +kernel
theorem dX5_senders_25 : decode cX5_senders 25 = .ok (.iload_n 1, 1) := by decide +kernel
theorem dX5_senders_26 : decode cX5_senders 26 = .ok (.putfield 50, 3) := by decide +kernel
theorem dX5_senders_29 : decode cX5_senders 29 = .ok (.iload_n 2, 1) := by decide +kernel
theorem dX5_senders_30 : decode cX5_senders 30 = .ok (.ireturn, 1) := by decide +kernel
theorem dX5_gain_0 : decode cX5_gain 0 = .ok (.aload_n 0, 1) := by decide +kernel
theorem dX5_gain_1 : decode cX5_gain 1 = .ok (.getfield 10, 3) := by decide +kernel
theorem dX5_gain_4 : decode cX5_gain 4 = .ok (.iload_n 1, 1) := by decide +kernel
theorem dX5_gain_5 : decode cX5_gain 5 = .ok (.invokevirtual 53, 3) := by decide +kernel
theorem dX5_gain_8 : decode cX5_gain 8 = .ok (.ifCond .eq 23, 3) := by decide +kernel
theorem dX5_gain_11 : decode cX5_gain 11 = .ok (.aload_n 0, 1) := by decide +kernel
theorem dX5_gain_12 : decode cX5_gain 12 = .ok (.getfield 10, 3) := by decide +kernel
theorem dX5_gain_15 : decode cX5_gain 15 = .ok (.iload_n 2, 1) := by decide +kernel
theorem dX5_gain_16 : decode cX5_gain 16 = .ok (.invokevirtual 53, 3) := by decide +kernel
theorem dX5_gain_19 : decode cX5_gain 19 = .ok (.ifCond .eq 12, 3) := by decide +kernel
theorem dX5_gain_22 : decode cX5_gain 22 = .ok (.iload_n 1, 1) := by decide +kernel
theorem dX5_gain_23 : decode cX5_gain 23 = .ok (.iload_n 2, 1) := by decide +kernel
theorem dX5_gain_24 : decode cX5_gain 24 = .ok (.iload_n 3, 1) := by decide +kernel
theorem dX5_gain_25 : decode cX5_gain 25 = .ok (.invokestatic 57, 3) := by decide +kernel
theorem dX5_gain_28 : decode cX5_gain 28 = .ok (.ifCond .ne 6, 3) := by decide +kernel
theorem dX5_gain_31 : decode cX5_gain 31 = .ok (.bipush (-2), 2) := by decide +kernel
theorem dX5_gain_33 : decode cX5_gain 33 = .ok (.ireturn, 1) := by decide +kernel
theorem dX5_gain_34 : decode cX5_gain 34 = .ok (.aload_n 0, 1) := by decide +kernel
theorem dX5_gain_35 : decode cX5_gain 35 = .ok (.getfield 10, 3) := by decide +kernel
theorem dX5_gain_38 : decode cX5_gain 38 = .ok (.iload_n 1, 1) := by decide +kernel
theorem dX5_gain_39 : decode cX5_gain 39 = .ok (.iload_n 2, 1) := by decide +kernel
theorem dX5_gain_40 : decode cX5_gain 40 = .ok (.invokevirtual 61, 3) := by decide +kernel
theorem dX5_gain_43 : decode cX5_gain 43 = .ok (.istore 4, 2) := by decide +kernel
theorem dX5_gain_45 : decode cX5_gain 45 = .ok (.aload_n 0, 1) := by decide +kernel
theorem dX5_gain_46 : decode cX5_gain 46 = .ok (.getfield 10, 3) := by decide +kernel
theorem dX5_gain_49 : decode cX5_gain 49 = .ok (.iload_n 1, 1) := by decide +kernel
theorem dX5_gain_50 : decode cX5_gain 50 = .ok (.iload_n 2, 1) := by decide +kernel
theorem dX5_gain_51 : decode cX5_gain 51 = .ok (.iload_n 3, 1) := by decide +kernel
theorem dX5_gain_52 : decode cX5_gain 52 = .ok (.invokevirtual 65, 3) := by decide +kernel
theorem dX5_gain_55 : decode cX5_gain 55 = .ok (.iload 4, 2) := by decide +kernel
theorem dX5_gain_57 : decode cX5_gain 57 = .ok (.ireturn, 1) := by decide +kernel
theorem dX5_set_0 : decode cX5_set 0 = .ok (.aload_n 0, 1) := by decide +kernel
theorem dX5_set_1 : decode cX5_set 1 = .ok (.getfield 10, 3) := by decide +kernel
theorem dX5_set_4 : decode cX5_set 4 = .ok (.iload_n 1, 1) := by decide +kernel
theorem dX5_set_5 : decode cX5_set 5 = .ok (.invokevirtual 53, 3) := by decide +kernel
theorem dX5_set_8 : decode cX5_set 8 = .ok (.ifCond .ne 6, 3) := by decide +kernel
theorem dX5_set_11 : decode cX5_set 11 = .ok (.bipush (-2), 2) := by decide +kernel
theorem dX5_set_13 : decode cX5_set 13 = .ok (.ireturn, 1) := by decide +kernel
theorem dX5_set_14 : decode cX5_set 14 = .ok (.iload_n 2, 1) := by decide +kernel
theorem dX5_set_15 : decode cX5_set 15 = .ok (.tableswitch 74 0 2 #[25, 41, 57], 25) := by decide +kernel
theorem dX5_set_40 : decode cX5_set 40 = .ok (.aload_n 0, 1) := by decide +kernel
theorem dX5_set_41 : decode cX5_set 41 = .ok (.getfield 10, 3) := by decide +kernel
theorem dX5_set_44 : decode cX5_set 44 = .ok (.getfield 69, 3) := by decide +kernel
theorem dX5_set_47 : decode cX5_set 47 = .ok (.iload_n 1, 1) := by decide +kernel
theorem dX5_set_48 : decode cX5_set 48 = .ok (.iload_n 3, 1) := by decide +kernel
theorem dX5_set_49 : decode cX5_set 49 = .ok (.iconst 1, 1) := by decide +kernel
theorem dX5_set_50 : decode cX5_set 50 = .ok (.bipush 20, 2) := by decide +kernel
theorem dX5_set_52 : decode cX5_set 52 = .ok (.invokestatic 73, 3) := by decide +kernel
theorem dX5_set_55 : decode cX5_set 55 = .ok (.ireturn, 1) := by decide +kernel
theorem dX5_set_56 : decode cX5_set 56 = .ok (.aload_n 0, 1) := by decide +kernel
theorem dX5_set_57 : decode cX5_set 57 = .ok (.getfield 10, 3) := by decide +kernel
theorem dX5_set_60 : decode cX5_set 60 = .ok (.getfield 77, 3) := by decide +kernel
theorem dX5_set_63 : decode cX5_set 63 = .ok (.iload_n 1, 1) := by decide +kernel
theorem dX5_set_64 : decode cX5_set 64 = .ok (.iload_n 3, 1) := by decide +kernel
theorem dX5_set_65 : decode cX5_set 65 = .ok (.iconst 0, 1) := by decide +kernel
theorem dX5_set_66 : decode cX5_set 66 = .ok (.bipush 9, 2) := by decide +kernel
theorem dX5_set_68 : decode cX5_set 68 = .ok (.invokestatic 73, 3) := by decide +kernel
theorem dX5_set_71 : decode cX5_set 71 = .ok (.ireturn, 1) := by decide +kernel
theorem dX5_set_72 : decode cX5_set 72 = .ok (.aload_n 0, 1) := by decide +kernel
theorem dX5_set_73 : decode cX5_set 73 = .ok (.getfield 10, 3) := by decide +kernel
theorem dX5_set_76 : decode cX5_set 76 = .ok (.getfield 80, 3) := by decide +kernel
theorem dX5_set_79 : decode cX5_set 79 = .ok (.iload_n 1, 1) := by decide +kernel
theorem dX5_set_80 : decode cX5_set 80 = .ok (.iload_n 3, 1) := by decide +kernel
theorem dX5_set_81 : decode cX5_set 81 = .ok (.iconst 0, 1) := by decide +kernel
theorem dX5_set_82 : decode cX5_set 82 = .ok (.sipush 999, 3) := by decide +kernel
theorem dX5_set_85 : decode cX5_set 85 = .ok (.invokestatic 73, 3) := by decide +kernel
theorem dX5_set_88 : decode cX5_set 88 = .ok (.ireturn, 1) := by decide +kernel
theorem dX5_set_89 : decode cX5_set 89 = .ok (.bipush (-2), 2) := by decide +kernel
theorem dX5_set_91 : decode cX5_set 91 = .ok (.ireturn, 1) := by decide +kernel
theorem dX5_on_0 : decode cX5_on 0 = .ok (.aload_n 0, 1) := by decide +kernel
theorem dX5_on_1 : decode cX5_on 1 = .ok (.getfield 10, 3) := by decide +kernel
theorem dX5_on_4 : decode cX5_on 4 = .ok (.iload_n 1, 1) := by decide +kernel
theorem dX5_on_5 : decode cX5_on 5 = .ok (.invokevirtual 53, 3) := by decide +kernel
theorem dX5_on_8 : decode cX5_on 8 = .ok (.ifCond .ne 6, 3) := by decide +kernel
theorem dX5_on_11 : decode cX5_on 11 = .ok (.bipush (-2), 2) := by decide +kernel
theorem dX5_on_13 : decode cX5_on 13 = .ok (.ireturn, 1) := by decide +kernel
theorem dX5_on_14 : decode cX5_on 14 = .ok (.aload_n 0, 1) := by decide +kernel
theorem dX5_on_15 : decode cX5_on 15 = .ok (.getfield 10, 3) := by decide +kernel
theorem dX5_on_18 : decode cX5_on 18 = .ok (.dup, 1) := by decide +kernel
theorem dX5_on_19 : decode cX5_on 19 = .ok (.getfield 83, 3) := by decide +kernel
theorem dX5_on_22 : decode cX5_on 22 = .ok (.iconst 1, 1) := by decide +kernel
theorem dX5_on_23 : decode cX5_on 23 = .ok (.iload_n 1, 1) := by decide +kernel
theorem dX5_on_24 : decode cX5_on 24 = .ok (.ishl, 1) := by decide +kernel
theorem dX5_on_25 : decode cX5_on 25 = .ok (.ixor, 1) := by decide +kernel
theorem dX5_on_26 : decode cX5_on 26 = .ok (.putfield 83, 3) := by decide +kernel
theorem dX5_on_29 : decode cX5_on 29 = .ok (.aload_n 0, 1) := by decide +kernel
theorem dX5_on_30 : decode cX5_on 30 = .ok (.getfield 10, 3) := by decide +kernel
theorem dX5_on_33 : decode cX5_on 33 = .ok (.invokevirtual 86, 3) := by decide +kernel
theorem dX5_on_36 : decode cX5_on 36 = .ok (.ireturn, 1) := by decide +kernel
theorem dX5_power_0 : decode cX5_power 0 = .ok (.aload_n 0, 1) := by decide +kernel
theorem dX5_power_1 : decode cX5_power 1 = .ok (.getfield 10, 3) := by decide +kernel
theorem dX5_power_4 : decode cX5_power 4 = .ok (.iload_n 1, 1) := by decide +kernel
theorem dX5_power_5 : decode cX5_power 5 = .ok (.invokevirtual 53, 3) := by decide +kernel
theorem dX5_power_8 : decode cX5_power 8 = .ok (.ifCond .eq 22, 3) := by decide +kernel
theorem dX5_power_11 : decode cX5_power 11 = .ok (.aload_n 0, 1) := by decide +kernel
theorem dX5_power_12 : decode cX5_power 12 = .ok (.getfield 10, 3) := by decide +kernel
theorem dX5_power_15 : decode cX5_power 15 = .ok (.getfield 90, 3) := by decide +kernel
theorem dX5_power_18 : decode cX5_power 18 = .ok (.iload_n 1, 1) := by decide +kernel
theorem dX5_power_19 : decode cX5_power 19 = .ok (.iload_n 2, 1) := by decide +kernel
theorem dX5_power_20 : decode cX5_power 20 = .ok (.iconst 0, 1) := by decide +kernel
theorem dX5_power_21 : decode cX5_power 21 = .ok (.sipush 999, 3) := by decide +kernel
theorem dX5_power_24 : decode cX5_power 24 = .ok (.invokestatic 73, 3) := by decide +kernel
theorem dX5_power_27 : decode cX5_power 27 = .ok (.goto 5, 3) := by decide +kernel
theorem dX5_power_30 : decode cX5_power 30 = .ok (.bipush (-2), 2) := by decide +kernel
theorem dX5_power_32 : decode cX5_power 32 = .ok (.ireturn, 1) := by decide +kernel
theorem dX5_rule_0 : decode cX5_rule 0 = .ok (.iload_n 1, 1) := by decide +kernel
theorem dX5_rule_1 : decode cX5_rule 1 = .ok (.ifCond .lt 8, 3) := by decide +kernel
theorem dX5_rule_4 : decode cX5_rule 4 = .ok (.iload_n 1, 1) := by decide +kernel
theorem dX5_rule_5 : decode cX5_rule 5 = .ok (.iconst 2, 1) := by decide +kernel
theorem dX5_rule_6 : decode cX5_rule 6 = .ok (.if_icmp .le 6, 3) := by decide +kernel
theorem dX5_rule_9 : decode cX5_rule 9 = .ok (.bipush (-2), 2) := by decide +kernel
theorem dX5_rule_11 : decode cX5_rule 11 = .ok (.ireturn, 1) := by decide +kernel
theorem dX5_rule_12 : decode cX5_rule 12 = .ok (.aload_n 0, 1) := by decide +kernel
theorem dX5_rule_13 : decode cX5_rule 13 = .ok (.getfield 28, 3) := by decide +kernel
theorem dX5_rule_16 : decode cX5_rule 16 = .ok (.getfield 93, 3) := by decide +kernel
theorem dX5_rule_19 : decode cX5_rule 19 = .ok (.istore_n 2, 1) := by decide +kernel
theorem dX5_rule_20 : decode cX5_rule 20 = .ok (.aload_n 0, 1) := by decide +kernel
theorem dX5_rule_21 : decode cX5_rule 21 = .ok (.getfield 28, 3) := by decide +kernel
theorem dX5_rule_24 : decode cX5_rule 24 = .ok (.iload_n 1, 1) := by decide +kernel
theorem dX5_rule_25 : decode cX5_rule 25 = .ok (.putfield 93, 3) := by decide +kernel
theorem dX5_rule_28 : decode cX5_rule 28 = .ok (.iload_n 2, 1) := by decide +kernel
theorem dX5_rule_29 : decode cX5_rule 29 = .ok (.ireturn, 1) := by decide +kernel
theorem dX5_type_0 : decode cX5_type 0 = .ok (.iload_n 1, 1) := by decide +kernel
theorem dX5_type_1 : decode cX5_type 1 = .ok (.ifCond .lt 10, 3) := by decide +kernel
theorem dX5_type_4 : decode cX5_type 4 = .ok (.iload_n 1, 1) := by decide +kernel
theorem dX5_type_5 : decode cX5_type 5 = .ok (.sipush 255, 3) := by decide +kernel
theorem dX5_type_8 : decode cX5_type 8 = .ok (.if_icmp .le 6, 3) := by decide +kernel
theorem dX5_type_11 : decode cX5_type 11 = .ok (.bipush (-2), 2) := by decide +kernel
theorem dX5_type_13 : decode cX5_type 13 = .ok (.ireturn, 1) := by decide +kernel
theorem dX5_type_14 : decode cX5_type 14 = .ok (.aload_n 0, 1) := by decide +kernel
theorem dX5_type_15 : decode cX5_type 15 = .ok (.getfield 35, 3) := by decide +kernel
theorem dX5_type_18 : decode cX5_type 18 = .ok (.iload_n 1, 1) := by decide +kernel
theorem dX5_type_19 : decode cX5_type 19 = .ok (.invokevirtual 96, 3) := by decide +kernel
theorem dX5_type_22 : decode cX5_type 22 = .ok (.ifCond .eq 13, 3) := by decide +kernel
theorem dX5_type_25 : decode cX5_type 25 = .ok (.aload_n 0, 1) := by decide +kernel
theorem dX5_type_26 : decode cX5_type 26 = .ok (.getfield 35, 3) := by decide +kernel
theorem dX5_type_29 : decode cX5_type 29 = .ok (.getfield 99, 3) := by decide +kernel
theorem dX5_type_32 : decode cX5_type 32 = .ok (.goto 5, 3) := by decide +kernel
theorem dX5_type_35 : decode cX5_type 35 = .ok (.bipush (-4), 2) := by decide +kernel
theorem dX5_type_37 : decode cX5_type 37 = .ok (.ireturn, 1) := by decide +kernel
theorem dX5_wipe_0 : decode cX5_wipe 0 = .ok (.aload_n 0, 1) := by decide +kernel
theorem dX5_wipe_1 : decode cX5_wipe 1 = .ok (.getfield 35, 3) := by decide +kernel
theorem dX5_wipe_4 : decode cX5_wipe 4 = .ok (.getfield 99, 3) := by decide +kernel
theorem dX5_wipe_7 : decode cX5_wipe 7 = .ok (.istore_n 1, 1) := by decide +kernel
theorem dX5_wipe_8 : decode cX5_wipe 8 = .ok (.aload_n 0, 1) := by decide +kernel
theorem dX5_wipe_9 : decode cX5_wipe 9 = .ok (.getfield 35, 3) := by decide +kernel
theorem dX5_wipe_12 : decode cX5_wipe 12 = .ok (.iconst 0, 1) := by decide +kernel
theorem dX5_wipe_13 : decode cX5_wipe 13 = .ok (.putfield 99, 3) := by decide +kernel
theorem dX5_wipe_16 : decode cX5_wipe 16 = .ok (.iload_n 1, 1) := by decide +kernel
theorem dX5_wipe_17 : decode cX5_wipe 17 = .ok (.ireturn, 1) := by decide +kernel
theorem dX5_fault_0 : decode cX5_fault 0 = .ok (.aload_n 0, 1) := by decide +kernel
theorem dX5_fault_1 : decode cX5_fault 1 = .ok (.getfield 35, 3) := by decide +kernel
theorem dX5_fault_4 : decode cX5_fault 4 = .ok (.aload_n 0, 1) := by decide +kernel
theorem dX5_fault_5 : decode cX5_fault 5 = .ok (.getfield 10, 3) := by decide +kernel
theorem dX5_fault_8 : decode cX5_fault 8 = .ok (.getfield 50, 3) := by decide +kernel
theorem dX5_fault_11 : decode cX5_fault 11 = .ok (.invokevirtual 102, 3) := by decide +kernel
theorem dX5_fault_14 : decode cX5_fault 14 = .ok (.ireturn, 1) := by decide +kernel
theorem dX5_read_0 : decode cX5_read 0 = .ok (.aload_n 0, 1) := by decide +kernel
theorem dX5_read_1 : decode cX5_read 1 = .ok (.iload_n 1, 1) := by decide +kernel
theorem dX5_read_2 : decode cX5_read 2 = .ok (.invokevirtual 106, 3) := by decide +kernel
theorem dX5_read_5 : decode cX5_read 5 = .ok (.istore_n 2, 1) := by decide +kernel
theorem dX5_read_6 : decode cX5_read 6 = .ok (.iload_n 2, 1) := by decide +kernel
theorem dX5_read_7 : decode cX5_read 7 = .ok (.ifCond .eq 7, 3) := by decide +kernel
theorem dX5_read_10 : decode cX5_read 10 = .ok (.iload_n 2, 1) := by decide +kernel
theorem dX5_read_11 : decode cX5_read 11 = .ok (.goto 13, 3) := by decide +kernel
theorem dX5_read_14 : decode cX5_read 14 = .ok (.aload_n 0, 1) := by decide +kernel
theorem dX5_read_15 : decode cX5_read 15 = .ok (.aload_n 0, 1) := by decide +kernel
theorem dX5_read_16 : decode cX5_read 16 = .ok (.getfield 41, 3) := by decide +kernel
theorem dX5_read_19 : decode cX5_read 19 = .ok (.iload_n 1, 1) := by decide +kernel
theorem dX5_read_20 : decode cX5_read 20 = .ok (.aaload, 1) := by decide +kernel
theorem dX5_read_21 : decode cX5_read 21 = .ok (.invokevirtual 109, 3) := by decide +kernel
theorem dX5_read_24 : decode cX5_read 24 = .ok (.ireturn, 1) := by decide +kernel
theorem dX5_info_0 : decode cX5_info 0 = .ok (.aload_n 0, 1) := by decide +kernel
theorem dX5_info_1 : decode cX5_info 1 = .ok (.getfield 10, 3) := by decide +kernel
theorem dX5_info_4 : decode cX5_info 4 = .ok (.iload_n 1, 1) := by decide +kernel
theorem dX5_info_5 : decode cX5_info 5 = .ok (.invokevirtual 53, 3) := by decide +kernel
theorem dX5_info_8 : decode cX5_info 8 = .ok (.ifCond .ne 6, 3) := by decide +kernel
theorem dX5_info_11 : decode cX5_info 11 = .ok (.bipush (-2), 2) := by decide +kernel
theorem dX5_info_13 : decode cX5_info 13 = .ok (.ireturn, 1) := by decide +kernel
theorem dX5_info_14 : decode cX5_info 14 = .ok (.iload_n 2, 1) := by decide +kernel
theorem dX5_info_15 : decode cX5_info 15 = .ok (.tableswitch 145 0 7 #[45, 55, 65, 75, 92, 102, 118, 135], 45) := by decide +kernel
theorem dX5_info_60 : decode cX5_info 60 = .ok (.aload_n 0, 1) := by decide +kernel
theorem dX5_info_61 : decode cX5_info 61 = .ok (.getfield 10, 3) := by decide +kernel
theorem dX5_info_64 : decode cX5_info 64 = .ok (.getfield 69, 3) := by decide +kernel
theorem dX5_info_67 : decode cX5_info 67 = .ok (.iload_n 1, 1) := by decide +kernel
theorem dX5_info_68 : decode cX5_info 68 = .ok (.iaload, 1) := by decide +kernel
theorem dX5_info_69 : decode cX5_info 69 = .ok (.ireturn, 1) := by decide +kernel
theorem dX5_info_70 : decode cX5_info 70 = .ok (.aload_n 0, 1) := by decide +kernel
theorem dX5_info_71 : decode cX5_info 71 = .ok (.getfield 10, 3) := by decide +kernel
theorem dX5_info_74 : decode cX5_info 74 = .ok (.getfield 77, 3) := by decide +kernel
theorem dX5_info_77 : decode cX5_info 77 = .ok (.iload_n 1, 1) := by decide +kernel
theorem dX5_info_78 : decode cX5_info 78 = .ok (.iaload, 1) := by decide +kernel
theorem dX5_info_79 : decode cX5_info 79 = .ok (.ireturn, 1) := by decide +kernel
theorem dX5_info_80 : decode cX5_info 80 = .ok (.aload_n 0, 1) := by decide +kernel
theorem dX5_info_81 : decode cX5_info 81 = .ok (.getfield 10, 3) := by decide +kernel
theorem dX5_info_84 : decode cX5_info 84 = .ok (.getfield 80, 3) := by decide +kernel
theorem dX5_info_87 : decode cX5_info 87 = .ok (.iload_n 1, 1) := by decide +kernel
theorem dX5_info_88 : decode cX5_info 88 = .ok (.iaload, 1) := by decide +kernel
theorem dX5_info_89 : decode cX5_info 89 = .ok (.ireturn, 1) := by decide +kernel
theorem dX5_info_90 : decode cX5_info 90 = .ok (.aload_n 0, 1) := by decide +kernel
theorem dX5_info_91 : decode cX5_info 91 = .ok (.getfield 10, 3) := by decide +kernel
theorem dX5_info_94 : decode cX5_info 94 = .ok (.iload_n 1, 1) := by decide +kernel
theorem dX5_info_95 : decode cX5_info 95 = .ok (.invokevirtual 113, 3) := by decide +kernel
theorem dX5_info_98 : decode cX5_info 98 = .ok (.ifCond .eq 7, 3) := by decide +kernel
theorem dX5_info_101 : decode cX5_info 101 = .ok (.iconst 1, 1) := by decide +kernel
theorem dX5_info_102 : decode cX5_info 102 = .ok (.goto 4, 3) := by decide +kernel
theorem dX5_info_105 : decode cX5_info 105 = .ok (.iconst 0, 1) := by decide +kernel
theorem dX5_info_106 : decode cX5_info 106 = .ok (.ireturn, 1) := by decide +kernel
theorem dX5_info_107 : decode cX5_info 107 = .ok (.aload_n 0, 1) := by decide +kernel
theorem dX5_info_108 : decode cX5_info 108 = .ok (.getfield 10, 3) := by decide +kernel
theorem dX5_info_111 : decode cX5_info 111 = .ok (.getfield 90, 3) := by decide +kernel
theorem dX5_info_114 : decode cX5_info 114 = .ok (.iload_n 1, 1) := by decide +kernel
theorem dX5_info_115 : decode cX5_info 115 = .ok (.iaload, 1) := by decide +kernel
theorem dX5_info_116 : decode cX5_info 116 = .ok (.ireturn, 1) := by decide +kernel
theorem dX5_info_117 : decode cX5_info 117 = .ok (.aload_n 0, 1) := by decide +kernel
theorem dX5_info_118 : decode cX5_info 118 = .ok (.getfield 10, 3) := by decide +kernel
theorem dX5_info_121 : decode cX5_info 121 = .ok (.iload_n 1, 1) := by decide +kernel
theorem dX5_info_122 : decode cX5_info 122 = .ok (.aload_n 0, 1) := by decide +kernel
theorem dX5_info_123 : decode cX5_info 123 = .ok (.getfield 10, 3) := by decide +kernel
theorem dX5_info_126 : decode cX5_info 126 = .ok (.getfield 90, 3) := by decide +kernel
theorem dX5_info_129 : decode cX5_info 129 = .ok (.invokevirtual 116, 3) := by decide +kernel
theorem dX5_info_132 : decode cX5_info 132 = .ok (.ireturn, 1) := by decide +kernel
theorem dX5_info_133 : decode cX5_info 133 = .ok (.aload_n 0, 1) := by decide +kernel
theorem dX5_info_134 : decode cX5_info 134 = .ok (.getfield 10, 3) := by decide +kernel
theorem dX5_info_137 : decode cX5_info 137 = .ok (.iload_n 1, 1) := by decide +kernel
theorem dX5_info_138 : decode cX5_info 138 = .ok (.invokevirtual 120, 3) := by decide +kernel
theorem dX5_info_141 : decode cX5_info 141 = .ok (.ifCond .eq 7, 3) := by decide +kernel
theorem dX5_info_144 : decode cX5_info 144 = .ok (.iconst 1, 1) := by decide +kernel
theorem dX5_info_145 : decode cX5_info 145 = .ok (.goto 4, 3) := by decide +kernel
theorem dX5_info_148 : decode cX5_info 148 = .ok (.iconst 0, 1) := by decide +kernel
theorem dX5_info_149 : decode cX5_info 149 = .ok (.ireturn, 1) := by decide +kernel
theorem dX5_info_150 : decode cX5_info 150 = .ok (.aload_n 0, 1) := by decide +kernel
theorem dX5_info_151 : decode cX5_info 151 = .ok (.getfield 10, 3) := by decide +kernel
theorem dX5_info_154 : decode cX5_info 154 = .ok (.iload_n 1, 1) := by decide +kernel
theorem dX5_info_155 : decode cX5_info 155 = .ok (.iload_n 1, 1) := by decide +kernel
theorem dX5_info_156 : decode cX5_info 156 = .ok (.invokevirtual 61, 3) := by decide +kernel
theorem dX5_info_159 : decode cX5_info 159 = .ok (.ireturn, 1) := by decide +kernel
theorem dX5_info_160 : decode cX5_info 160 = .ok (.bipush (-2), 2) := by decide +kernel
theorem dX5_info_162 : decode cX5_info 162 = .ok (.ireturn, 1) := by decide +kernel
theorem dX5_heard_0 : decode cX5_heard 0 = .ok (.aload_n 0, 1) := by decide +kernel
theorem dX5_heard_1 : decode cX5_heard 1 = .ok (.getfield 10, 3) := by decide +kernel
theorem dX5_heard_4 : decode cX5_heard 4 = .ok (.iload_n 1, 1) := by decide +kernel
theorem dX5_heard_5 : decode cX5_heard 5 = .ok (.invokevirtual 53, 3) := by decide +kernel
theorem dX5_heard_8 : decode cX5_heard 8 = .ok (.ifCond .eq 26, 3) := by decide +kernel
theorem dX5_heard_11 : decode cX5_heard 11 = .ok (.aload_n 0, 1) := by decide +kernel
theorem dX5_heard_12 : decode cX5_heard 12 = .ok (.getfield 10, 3) := by decide +kernel
theorem dX5_heard_15 : decode cX5_heard 15 = .ok (.iload_n 2, 1) := by decide +kernel
theorem dX5_heard_16 : decode cX5_heard 16 = .ok (.invokevirtual 53, 3) := by decide +kernel
theorem dX5_heard_19 : decode cX5_heard 19 = .ok (.ifCond .eq 15, 3) := by decide +kernel
theorem dX5_heard_22 : decode cX5_heard 22 = .ok (.aload_n 0, 1) := by decide +kernel
theorem dX5_heard_23 : decode cX5_heard 23 = .ok (.getfield 10, 3) := by decide +kernel
theorem dX5_heard_26 : decode cX5_heard 26 = .ok (.iload_n 1, 1) := by decide +kernel
theorem dX5_heard_27 : decode cX5_heard 27 = .ok (.iload_n 2, 1) := by decide +kernel
theorem dX5_heard_28 : decode cX5_heard 28 = .ok (.invokevirtual 61, 3) := by decide +kernel
theorem dX5_heard_31 : decode cX5_heard 31 = .ok (.goto 5, 3) := by decide +kernel
theorem dX5_heard_34 : decode cX5_heard 34 = .ok (.bipush (-2), 2) := by decide +kernel
theorem dX5_heard_36 : decode cX5_heard 36 = .ok (.ireturn, 1) := by decide +kernel
theorem dX5_minor_0 : decode cX5_minor 0 = .ok (.iload_n 1, 1) := by decide +kernel
theorem dX5_minor_1 : decode cX5_minor 1 = .ok (.ifCond .lt 14, 3) := by decide +kernel
theorem dX5_minor_4 : decode cX5_minor 4 = .ok (.iload_n 1, 1) := by decide +kernel
theorem dX5_minor_5 : decode cX5_minor 5 = .ok (.aload_n 0, 1) := by decide +kernel
theorem dX5_minor_6 : decode cX5_minor 6 = .ok (.getfield 10, 3) := by decide +kernel
theorem dX5_minor_9 : decode cX5_minor 9 = .ok (.invokevirtual 123, 3) := by decide +kernel
theorem dX5_minor_12 : decode cX5_minor 12 = .ok (.if_icmp .le 9, 3) := by decide +kernel
theorem dX5_minor_15 : decode cX5_minor 15 = .ok (.bipush (-2), 2) := by decide +kernel
theorem dX5_minor_17 : decode cX5_minor 17 = .ok (.invokestatic 126, 3) := by decide +kernel
theorem dX5_minor_20 : decode cX5_minor 20 = .ok (.lreturn, 1) := by decide +kernel
theorem dX5_minor_21 : decode cX5_minor 21 = .ok (.aload_n 0, 1) := by decide +kernel
theorem dX5_minor_22 : decode cX5_minor 22 = .ok (.getfield 21, 3) := by decide +kernel
theorem dX5_minor_25 : decode cX5_minor 25 = .ok (.invokevirtual 130, 3) := by decide +kernel
theorem dX5_minor_28 : decode cX5_minor 28 = .ok (.aload_n 0, 1) := by decide +kernel
theorem dX5_minor_29 : decode cX5_minor 29 = .ok (.getfield 21, 3) := by decide +kernel
theorem dX5_minor_32 : decode cX5_minor 32 = .ok (.iload_n 1, 1) := by decide +kernel
theorem dX5_minor_33 : decode cX5_minor 33 = .ok (.aload_n 0, 1) := by decide +kernel
theorem dX5_minor_34 : decode cX5_minor 34 = .ok (.getfield 10, 3) := by decide +kernel
theorem dX5_minor_37 : decode cX5_minor 37 = .ok (.invokevirtual 86, 3) := by decide +kernel
theorem dX5_minor_40 : decode cX5_minor 40 = .ok (.iand, 1) := by decide +kernel
theorem dX5_minor_41 : decode cX5_minor 41 = .ok (.invokevirtual 133, 3) := by decide +kernel
theorem dX5_minor_44 : decode cX5_minor 44 = .ok (.lreturn, 1) := by decide +kernel
theorem dX5_feasible_0 : decode cX5_feasible 0 = .ok (.aload_n 0, 1) := by decide +kernel
theorem dX5_feasible_1 : decode cX5_feasible 1 = .ok (.getfield 21, 3) := by decide +kernel
theorem dX5_feasible_4 : decode cX5_feasible 4 = .ok (.invokevirtual 130, 3) := by decide +kernel
theorem dX5_feasible_7 : decode cX5_feasible 7 = .ok (.aload_n 0, 1) := by decide +kernel
theorem dX5_feasible_8 : decode cX5_feasible 8 = .ok (.getfield 21, 3) := by decide +kernel
theorem dX5_feasible_11 : decode cX5_feasible 11 = .ok (.aload_n 0, 1) := by decide +kernel
theorem dX5_feasible_12 : decode cX5_feasible 12 = .ok (.getfield 10, 3) := by decide +kernel
theorem dX5_feasible_15 : decode cX5_feasible 15 = .ok (.invokevirtual 86, 3) := by decide +kernel
theorem dX5_feasible_18 : decode cX5_feasible 18 = .ok (.invokevirtual 136, 3) := by decide +kernel
theorem dX5_feasible_21 : decode cX5_feasible 21 = .ok (.ifCond .eq 7, 3) := by decide +kernel
theorem dX5_feasible_24 : decode cX5_feasible 24 = .ok (.iconst 1, 1) := by decide +kernel
theorem dX5_feasible_25 : decode cX5_feasible 25 = .ok (.goto 4, 3) := by decide +kernel
theorem dX5_feasible_28 : decode cX5_feasible 28 = .ok (.iconst 0, 1) := by decide +kernel
theorem dX5_feasible_29 : decode cX5_feasible 29 = .ok (.ireturn, 1) := by decide +kernel
theorem dX5_least_0 : decode cX5_least 0 = .ok (.aload_n 0, 1) := by decide +kernel
theorem dX5_least_1 : decode cX5_least 1 = .ok (.getfield 10, 3) := by decide +kernel
theorem dX5_least_4 : decode cX5_least 4 = .ok (.iload_n 1, 1) := by decide +kernel
theorem dX5_least_5 : decode cX5_least 5 = .ok (.invokevirtual 53, 3) := by decide +kernel
theorem dX5_least_8 : decode cX5_least 8 = .ok (.ifCond .eq 12, 3) := by decide +kernel
theorem dX5_least_11 : decode cX5_least 11 = .ok (.iload_n 2, 1) := by decide +kernel
theorem dX5_least_12 : decode cX5_least 12 = .ok (.ifCond .lt 8, 3) := by decide +kernel
theorem dX5_least_15 : decode cX5_least 15 = .ok (.iload_n 2, 1) := by decide +kernel
theorem dX5_least_16 : decode cX5_least 16 = .ok (.iconst 1, 1) := by decide +kernel
theorem dX5_least_17 : decode cX5_least 17 = .ok (.if_icmp .le 9, 3) := by decide +kernel
theorem dX5_least_20 : decode cX5_least 20 = .ok (.bipush (-2), 2) := by decide +kernel
theorem dX5_least_22 : decode cX5_least 22 = .ok (.invokestatic 126, 3) := by decide +kernel
theorem dX5_least_25 : decode cX5_least 25 = .ok (.lreturn, 1) := by decide +kernel
theorem dX5_least_26 : decode cX5_least 26 = .ok (.aload_n 0, 1) := by decide +kernel
theorem dX5_least_27 : decode cX5_least 27 = .ok (.getfield 10, 3) := by decide +kernel
theorem dX5_least_30 : decode cX5_least 30 = .ok (.iload_n 1, 1) := by decide +kernel
theorem dX5_least_31 : decode cX5_least 31 = .ok (.invokevirtual 113, 3) := by decide +kernel
theorem dX5_least_34 : decode cX5_least 34 = .ok (.ifCond .ne 9, 3) := by decide +kernel
theorem dX5_least_37 : decode cX5_least 37 = .ok (.bipush (-3), 2) := by decide +kernel
theorem dX5_least_39 : decode cX5_least 39 = .ok (.invokestatic 126, 3) := by decide +kernel
theorem dX5_least_42 : decode cX5_least 42 = .ok (.lreturn, 1) := by decide +kernel
theorem dX5_least_43 : decode cX5_least 43 = .ok (.aload_n 0, 1) := by decide +kernel
theorem dX5_least_44 : decode cX5_least 44 = .ok (.getfield 10, 3) := by decide +kernel
theorem dX5_least_47 : decode cX5_least 47 = .ok (.invokevirtual 86, 3) := by decide +kernel
theorem dX5_least_50 : decode cX5_least 50 = .ok (.istore_n 3, 1) := by decide +kernel
theorem dX5_least_51 : decode cX5_least 51 = .ok (.aload_n 0, 1) := by decide +kernel
theorem dX5_least_52 : decode cX5_least 52 = .ok (.getfield 21, 3) := by decide +kernel
theorem dX5_least_55 : decode cX5_least 55 = .ok (.invokevirtual 130, 3) := by decide +kernel
theorem dX5_least_58 : decode cX5_least 58 = .ok (.aload_n 0, 1) := by decide +kernel
theorem dX5_least_59 : decode cX5_least 59 = .ok (.getfield 21, 3) := by decide +kernel
theorem dX5_least_62 : decode cX5_least 62 = .ok (.iload_n 3, 1) := by decide +kernel
theorem dX5_least_63 : decode cX5_least 63 = .ok (.invokevirtual 136, 3) := by decide +kernel
theorem dX5_least_66 : decode cX5_least 66 = .ok (.ifCond .ne 9, 3) := by decide +kernel
theorem dX5_least_69 : decode cX5_least 69 = .ok (.bipush (-3), 2) := by decide +kernel
theorem dX5_least_71 : decode cX5_least 71 = .ok (.invokestatic 126, 3) := by decide +kernel
theorem dX5_least_74 : decode cX5_least 74 = .ok (.lreturn, 1) := by decide +kernel
theorem dX5_least_75 : decode cX5_least 75 = .ok (.aload_n 0, 1) := by decide +kernel
theorem dX5_least_76 : decode cX5_least 76 = .ok (.getfield 21, 3) := by decide +kernel
theorem dX5_least_79 : decode cX5_least 79 = .ok (.iload_n 3, 1) := by decide +kernel
theorem dX5_least_80 : decode cX5_least 80 = .ok (.invokevirtual 133, 3) := by decide +kernel
theorem dX5_least_83 : decode cX5_least 83 = .ok (.lstore 4, 2) := by decide +kernel
theorem dX5_least_85 : decode cX5_least 85 = .ok (.aload_n 0, 1) := by decide +kernel
theorem dX5_least_86 : decode cX5_least 86 = .ok (.getfield 21, 3) := by decide +kernel
theorem dX5_least_89 : decode cX5_least 89 = .ok (.iload_n 1, 1) := by decide +kernel
theorem dX5_least_90 : decode cX5_least 90 = .ok (.invokevirtual 139, 3) := by decide +kernel
theorem dX5_least_93 : decode cX5_least 93 = .ok (.aload_n 0, 1) := by decide +kernel
theorem dX5_least_94 : decode cX5_least 94 = .ok (.getfield 21, 3) := by decide +kernel
theorem dX5_least_97 : decode cX5_least 97 = .ok (.iload_n 3, 1) := by decide +kernel
theorem dX5_least_98 : decode cX5_least 98 = .ok (.invokevirtual 133, 3) := by decide +kernel
theorem dX5_least_101 : decode cX5_least 101 = .ok (.lload 4, 2) := by decide +kernel
theorem dX5_least_103 : decode cX5_least 103 = .ok (.iload_n 2, 1) := by decide +kernel
theorem dX5_least_104 : decode cX5_least 104 = .ok (.invokestatic 143, 3) := by decide +kernel
theorem dX5_least_107 : decode cX5_least 107 = .ok (.lreturn, 1) := by decide +kernel
theorem dX5_witness_0 : decode cX5_witness 0 = .ok (.aload_n 0, 1) := by decide +kernel
theorem dX5_witness_1 : decode cX5_witness 1 = .ok (.getfield 21, 3) := by decide +kernel
theorem dX5_witness_4 : decode cX5_witness 4 = .ok (.invokevirtual 130, 3) := by decide +kernel
theorem dX5_witness_7 : decode cX5_witness 7 = .ok (.aload_n 0, 1) := by decide +kernel
theorem dX5_witness_8 : decode cX5_witness 8 = .ok (.getfield 21, 3) := by decide +kernel
theorem dX5_witness_11 : decode cX5_witness 11 = .ok (.aload_n 0, 1) := by decide +kernel
theorem dX5_witness_12 : decode cX5_witness 12 = .ok (.getfield 10, 3) := by decide +kernel
theorem dX5_witness_15 : decode cX5_witness 15 = .ok (.invokevirtual 86, 3) := by decide +kernel
theorem dX5_witness_18 : decode cX5_witness 18 = .ok (.invokevirtual 147, 3) := by decide +kernel
theorem dX5_witness_21 : decode cX5_witness 21 = .ok (.ireturn, 1) := by decide +kernel
theorem dX5_out_0 : decode cX5_out 0 = .ok (.aload_n 0, 1) := by decide +kernel
theorem dX5_out_1 : decode cX5_out 1 = .ok (.getfield 21, 3) := by decide +kernel
theorem dX5_out_4 : decode cX5_out 4 = .ok (.invokevirtual 130, 3) := by decide +kernel
theorem dX5_out_7 : decode cX5_out 7 = .ok (.aload_n 0, 1) := by decide +kernel
theorem dX5_out_8 : decode cX5_out 8 = .ok (.getfield 21, 3) := by decide +kernel
theorem dX5_out_11 : decode cX5_out 11 = .ok (.aload_n 0, 1) := by decide +kernel
theorem dX5_out_12 : decode cX5_out 12 = .ok (.getfield 10, 3) := by decide +kernel
theorem dX5_out_15 : decode cX5_out 15 = .ok (.invokevirtual 86, 3) := by decide +kernel
theorem dX5_out_18 : decode cX5_out 18 = .ok (.invokevirtual 150, 3) := by decide +kernel
theorem dX5_out_21 : decode cX5_out 21 = .ok (.ireturn, 1) := by decide +kernel
theorem dX5_admitted_0 : decode cX5_admitted 0 = .ok (.aload_n 0, 1) := by decide +kernel
theorem dX5_admitted_1 : decode cX5_admitted 1 = .ok (.getfield 21, 3) := by decide +kernel
theorem dX5_admitted_4 : decode cX5_admitted 4 = .ok (.invokevirtual 130, 3) := by decide +kernel
theorem dX5_admitted_7 : decode cX5_admitted 7 = .ok (.aload_n 0, 1) := by decide +kernel
theorem dX5_admitted_8 : decode cX5_admitted 8 = .ok (.getfield 21, 3) := by decide +kernel
theorem dX5_admitted_11 : decode cX5_admitted 11 = .ok (.aload_n 0, 1) := by decide +kernel
theorem dX5_admitted_12 : decode cX5_admitted 12 = .ok (.getfield 10, 3) := by decide +kernel
theorem dX5_admitted_15 : decode cX5_admitted 15 = .ok (.invokevirtual 86, 3) := by decide +kernel
theorem dX5_admitted_18 : decode cX5_admitted 18 = .ok (.invokevirtual 153, 3) := by decide +kernel
theorem dX5_admitted_21 : decode cX5_admitted 21 = .ok (.ireturn, 1) := by decide +kernel
theorem dX5_softer_0 : decode cX5_softer 0 = .ok (.aload_n 0, 1) := by decide +kernel
theorem dX5_softer_1 : decode cX5_softer 1 = .ok (.getfield 21, 3) := by decide +kernel
theorem dX5_softer_4 : decode cX5_softer 4 = .ok (.aload_n 0, 1) := by decide +kernel
theorem dX5_softer_5 : decode cX5_softer 5 = .ok (.getfield 10, 3) := by decide +kernel
theorem dX5_softer_8 : decode cX5_softer 8 = .ok (.invokevirtual 86, 3) := by decide +kernel
theorem dX5_softer_11 : decode cX5_softer 11 = .ok (.invokevirtual 156, 3) := by decide +kernel
theorem dX5_softer_14 : decode cX5_softer 14 = .ok (.ireturn, 1) := by decide +kernel
theorem dX5_margin_0 : decode cX5_margin 0 = .ok (.aload_n 0, 1) := by decide +kernel
theorem dX5_margin_1 : decode cX5_margin 1 = .ok (.getfield 21, 3) := by decide +kernel
theorem dX5_margin_4 : decode cX5_margin 4 = .ok (.aload_n 0, 1) := by decide +kernel
theorem dX5_margin_5 : decode cX5_margin 5 = .ok (.getfield 10, 3) := by decide +kernel
theorem dX5_margin_8 : decode cX5_margin 8 = .ok (.invokevirtual 86, 3) := by decide +kernel
theorem dX5_margin_11 : decode cX5_margin 11 = .ok (.invokevirtual 159, 3) := by decide +kernel
theorem dX5_margin_14 : decode cX5_margin 14 = .ok (.ireturn, 1) := by decide +kernel
theorem dX5_share_0 : decode cX5_share 0 = .ok (.aload_n 0, 1) := by decide +kernel
theorem dX5_share_1 : decode cX5_share 1 = .ok (.getfield 10, 3) := by decide +kernel
theorem dX5_share_4 : decode cX5_share 4 = .ok (.iload_n 1, 1) := by decide +kernel
theorem dX5_share_5 : decode cX5_share 5 = .ok (.invokevirtual 53, 3) := by decide +kernel
theorem dX5_share_8 : decode cX5_share 8 = .ok (.ifCond .eq 12, 3) := by decide +kernel
theorem dX5_share_11 : decode cX5_share 11 = .ok (.iload_n 2, 1) := by decide +kernel
theorem dX5_share_12 : decode cX5_share 12 = .ok (.ifCond .lt 8, 3) := by decide +kernel
theorem dX5_share_15 : decode cX5_share 15 = .ok (.iload_n 2, 1) := by decide +kernel
theorem dX5_share_16 : decode cX5_share 16 = .ok (.iconst 1, 1) := by decide +kernel
theorem dX5_share_17 : decode cX5_share 17 = .ok (.if_icmp .le 9, 3) := by decide +kernel
theorem dX5_share_20 : decode cX5_share 20 = .ok (.bipush (-2), 2) := by decide +kernel
theorem dX5_share_22 : decode cX5_share 22 = .ok (.invokestatic 126, 3) := by decide +kernel
theorem dX5_share_25 : decode cX5_share 25 = .ok (.lreturn, 1) := by decide +kernel
theorem dX5_share_26 : decode cX5_share 26 = .ok (.aload_n 0, 1) := by decide +kernel
theorem dX5_share_27 : decode cX5_share 27 = .ok (.getfield 10, 3) := by decide +kernel
theorem dX5_share_30 : decode cX5_share 30 = .ok (.iload_n 1, 1) := by decide +kernel
theorem dX5_share_31 : decode cX5_share 31 = .ok (.aload_n 0, 1) := by decide +kernel
theorem dX5_share_32 : decode cX5_share 32 = .ok (.getfield 10, 3) := by decide +kernel
theorem dX5_share_35 : decode cX5_share 35 = .ok (.getfield 90, 3) := by decide +kernel
theorem dX5_share_38 : decode cX5_share 38 = .ok (.invokevirtual 162, 3) := by decide +kernel
theorem dX5_share_41 : decode cX5_share 41 = .ok (.istore_n 3, 1) := by decide +kernel
theorem dX5_share_42 : decode cX5_share 42 = .ok (.aload_n 0, 1) := by decide +kernel
theorem dX5_share_43 : decode cX5_share 43 = .ok (.getfield 10, 3) := by decide +kernel
theorem dX5_share_46 : decode cX5_share 46 = .ok (.iload_n 1, 1) := by decide +kernel
theorem dX5_share_47 : decode cX5_share 47 = .ok (.invokevirtual 113, 3) := by decide +kernel
theorem dX5_share_50 : decode cX5_share 50 = .ok (.ifCond .eq 7, 3) := by decide +kernel
theorem dX5_share_53 : decode cX5_share 53 = .ok (.iload_n 3, 1) := by decide +kernel
theorem dX5_share_54 : decode cX5_share 54 = .ok (.ifCond .ne 9, 3) := by decide +kernel
theorem dX5_share_57 : decode cX5_share 57 = .ok (.bipush (-3), 2) := by decide +kernel
theorem dX5_share_59 : decode cX5_share 59 = .ok (.invokestatic 126, 3) := by decide +kernel
theorem dX5_share_62 : decode cX5_share 62 = .ok (.lreturn, 1) := by decide +kernel
theorem dX5_share_63 : decode cX5_share 63 = .ok (.aload_n 0, 1) := by decide +kernel
theorem dX5_share_64 : decode cX5_share 64 = .ok (.getfield 10, 3) := by decide +kernel
theorem dX5_share_67 : decode cX5_share 67 = .ok (.iload_n 1, 1) := by decide +kernel
theorem dX5_share_68 : decode cX5_share 68 = .ok (.iload_n 1, 1) := by decide +kernel
theorem dX5_share_69 : decode cX5_share 69 = .ok (.invokevirtual 61, 3) := by decide +kernel
theorem dX5_share_72 : decode cX5_share 72 = .ok (.i2l, 1) := by decide +kernel
theorem dX5_share_73 : decode cX5_share 73 = .ok (.aload_n 0, 1) := by decide +kernel
theorem dX5_share_74 : decode cX5_share 74 = .ok (.getfield 10, 3) := by decide +kernel
theorem dX5_share_77 : decode cX5_share 77 = .ok (.getfield 90, 3) := by decide +kernel
theorem dX5_share_80 : decode cX5_share 80 = .ok (.iload_n 1, 1) := by decide +kernel
theorem dX5_share_81 : decode cX5_share 81 = .ok (.iaload, 1) := by decide +kernel
theorem dX5_share_82 : decode cX5_share 82 = .ok (.i2l, 1) := by decide +kernel
theorem dX5_share_83 : decode cX5_share 83 = .ok (.lmul, 1) := by decide +kernel
theorem dX5_share_84 : decode cX5_share 84 = .ok (.iload_n 3, 1) := by decide +kernel
theorem dX5_share_85 : decode cX5_share 85 = .ok (.i2l, 1) := by decide +kernel
theorem dX5_share_86 : decode cX5_share 86 = .ok (.iload_n 2, 1) := by decide +kernel
theorem dX5_share_87 : decode cX5_share 87 = .ok (.invokestatic 143, 3) := by decide +kernel
theorem dX5_share_90 : decode cX5_share 90 = .ok (.lreturn, 1) := by decide +kernel
theorem dX5_step_0 : decode cX5_step 0 = .ok (.aload_n 0, 1) := by decide +kernel
theorem dX5_step_1 : decode cX5_step 1 = .ok (.getfield 10, 3) := by decide +kernel
theorem dX5_step_4 : decode cX5_step 4 = .ok (.iload_n 1, 1) := by decide +kernel
theorem dX5_step_5 : decode cX5_step 5 = .ok (.invokevirtual 53, 3) := by decide +kernel
theorem dX5_step_8 : decode cX5_step 8 = .ok (.ifCond .ne 6, 3) := by decide +kernel
theorem dX5_step_11 : decode cX5_step 11 = .ok (.bipush (-2), 2) := by decide +kernel
theorem dX5_step_13 : decode cX5_step 13 = .ok (.ireturn, 1) := by decide +kernel
theorem dX5_step_14 : decode cX5_step 14 = .ok (.aload_n 0, 1) := by decide +kernel
theorem dX5_step_15 : decode cX5_step 15 = .ok (.getfield 10, 3) := by decide +kernel
theorem dX5_step_18 : decode cX5_step 18 = .ok (.iload_n 1, 1) := by decide +kernel
theorem dX5_step_19 : decode cX5_step 19 = .ok (.invokevirtual 113, 3) := by decide +kernel
theorem dX5_step_22 : decode cX5_step 22 = .ok (.ifCond .ne 6, 3) := by decide +kernel
theorem dX5_step_25 : decode cX5_step 25 = .ok (.bipush (-3), 2) := by decide +kernel
theorem dX5_step_27 : decode cX5_step 27 = .ok (.ireturn, 1) := by decide +kernel
theorem dX5_step_28 : decode cX5_step 28 = .ok (.aload_n 0, 1) := by decide +kernel
theorem dX5_step_29 : decode cX5_step 29 = .ok (.getfield 10, 3) := by decide +kernel
theorem dX5_step_32 : decode cX5_step 32 = .ok (.getfield 90, 3) := by decide +kernel
theorem dX5_step_35 : decode cX5_step 35 = .ok (.iload_n 1, 1) := by decide +kernel
theorem dX5_step_36 : decode cX5_step 36 = .ok (.aload_n 0, 1) := by decide +kernel
theorem dX5_step_37 : decode cX5_step 37 = .ok (.getfield 28, 3) := by decide +kernel
theorem dX5_step_40 : decode cX5_step 40 = .ok (.iload_n 1, 1) := by decide +kernel
theorem dX5_step_41 : decode cX5_step 41 = .ok (.aload_n 0, 1) := by decide +kernel
theorem dX5_step_42 : decode cX5_step 42 = .ok (.getfield 10, 3) := by decide +kernel
theorem dX5_step_45 : decode cX5_step 45 = .ok (.getfield 90, 3) := by decide +kernel
theorem dX5_step_48 : decode cX5_step 48 = .ok (.invokevirtual 165, 3) := by decide +kernel
theorem dX5_step_51 : decode cX5_step 51 = .ok (.iastore, 1) := by decide +kernel
theorem dX5_step_52 : decode cX5_step 52 = .ok (.aload_n 0, 1) := by decide +kernel
theorem dX5_step_53 : decode cX5_step 53 = .ok (.getfield 10, 3) := by decide +kernel
theorem dX5_step_56 : decode cX5_step 56 = .ok (.getfield 90, 3) := by decide +kernel
theorem dX5_step_59 : decode cX5_step 59 = .ok (.iload_n 1, 1) := by decide +kernel
theorem dX5_step_60 : decode cX5_step 60 = .ok (.iaload, 1) := by decide +kernel
theorem dX5_step_61 : decode cX5_step 61 = .ok (.ireturn, 1) := by decide +kernel
theorem dX5_turn_0 : decode cX5_turn 0 = .ok (.aload_n 0, 1) := by decide +kernel
theorem dX5_turn_1 : decode cX5_turn 1 = .ok (.getfield 28, 3) := by decide +kernel
theorem dX5_turn_4 : decode cX5_turn 4 = .ok (.aload_n 0, 1) := by decide +kernel
theorem dX5_turn_5 : decode cX5_turn 5 = .ok (.getfield 10, 3) := by decide +kernel
theorem dX5_turn_8 : decode cX5_turn 8 = .ok (.getfield 90, 3) := by decide +kernel
theorem dX5_turn_11 : decode cX5_turn 11 = .ok (.invokevirtual 168, 3) := by decide +kernel
theorem dX5_turn_14 : decode cX5_turn 14 = .ok (.ireturn, 1) := by decide +kernel
theorem dX5_order_0 : decode cX5_order 0 = .ok (.aload_n 0, 1) := by decide +kernel
theorem dX5_order_1 : decode cX5_order 1 = .ok (.getfield 35, 3) := by decide +kernel
theorem dX5_order_4 : decode cX5_order 4 = .ok (.aload_n 0, 1) := by decide +kernel
theorem dX5_order_5 : decode cX5_order 5 = .ok (.getfield 10, 3) := by decide +kernel
theorem dX5_order_8 : decode cX5_order 8 = .ok (.getfield 50, 3) := by decide +kernel
theorem dX5_order_11 : decode cX5_order 11 = .ok (.invokevirtual 102, 3) := by decide +kernel
theorem dX5_order_14 : decode cX5_order 14 = .ok (.iconst (-1), 1) := by decide +kernel
theorem dX5_order_15 : decode cX5_order 15 = .ok (.if_icmp .ne 10, 3) := by decide +kernel
theorem dX5_order_18 : decode cX5_order 18 = .ok (.aload_n 0, 1) := by decide +kernel
theorem dX5_order_19 : decode cX5_order 19 = .ok (.invokevirtual 172, 3) := by decide +kernel
theorem dX5_order_22 : decode cX5_order 22 = .ok (.goto 4, 3) := by decide +kernel
theorem dX5_order_25 : decode cX5_order 25 = .ok (.iconst 0, 1) := by decide +kernel
theorem dX5_order_26 : decode cX5_order 26 = .ok (.ireturn, 1) := by decide +kernel
theorem dX5_still_0 : decode cX5_still 0 = .ok (.aload_n 0, 1) := by decide +kernel
theorem dX5_still_1 : decode cX5_still 1 = .ok (.getfield 28, 3) := by decide +kernel
theorem dX5_still_4 : decode cX5_still 4 = .ok (.invokevirtual 175, 3) := by decide +kernel
theorem dX5_still_7 : decode cX5_still 7 = .ok (.ireturn, 1) := by decide +kernel
theorem dX5_rest_0 : decode cX5_rest 0 = .ok (.aload_n 0, 1) := by decide +kernel
theorem dX5_rest_1 : decode cX5_rest 1 = .ok (.getfield 10, 3) := by decide +kernel
theorem dX5_rest_4 : decode cX5_rest 4 = .ok (.iload_n 1, 1) := by decide +kernel
theorem dX5_rest_5 : decode cX5_rest 5 = .ok (.invokevirtual 53, 3) := by decide +kernel
theorem dX5_rest_8 : decode cX5_rest 8 = .ok (.ifCond .ne 6, 3) := by decide +kernel
theorem dX5_rest_11 : decode cX5_rest 11 = .ok (.bipush (-2), 2) := by decide +kernel
theorem dX5_rest_13 : decode cX5_rest 13 = .ok (.ireturn, 1) := by decide +kernel
theorem dX5_rest_14 : decode cX5_rest 14 = .ok (.aload_n 0, 1) := by decide +kernel
theorem dX5_rest_15 : decode cX5_rest 15 = .ok (.getfield 28, 3) := by decide +kernel
theorem dX5_rest_18 : decode cX5_rest 18 = .ok (.invokevirtual 175, 3) := by decide +kernel
theorem dX5_rest_21 : decode cX5_rest 21 = .ok (.pop, 1) := by decide +kernel
theorem dX5_rest_22 : decode cX5_rest 22 = .ok (.aload_n 0, 1) := by decide +kernel
theorem dX5_rest_23 : decode cX5_rest 23 = .ok (.getfield 28, 3) := by decide +kernel
theorem dX5_rest_26 : decode cX5_rest 26 = .ok (.getfield 178, 3) := by decide +kernel
theorem dX5_rest_29 : decode cX5_rest 29 = .ok (.iload_n 1, 1) := by decide +kernel
theorem dX5_rest_30 : decode cX5_rest 30 = .ok (.iaload, 1) := by decide +kernel
theorem dX5_rest_31 : decode cX5_rest 31 = .ok (.ireturn, 1) := by decide +kernel
theorem dX5_met_0 : decode cX5_met 0 = .ok (.aload_n 0, 1) := by decide +kernel
theorem dX5_met_1 : decode cX5_met 1 = .ok (.getfield 10, 3) := by decide +kernel
theorem dX5_met_4 : decode cX5_met 4 = .ok (.invokevirtual 181, 3) := by decide +kernel
theorem dX5_met_7 : decode cX5_met 7 = .ok (.ireturn, 1) := by decide +kernel
theorem dX5_sheet_0 : decode cX5_sheet 0 = .ok (.iload_n 1, 1) := by decide +kernel
theorem dX5_sheet_1 : decode cX5_sheet 1 = .ok (.invokestatic 184, 3) := by decide +kernel
theorem dX5_sheet_4 : decode cX5_sheet 4 = .ok (.ifCond .eq 16, 3) := by decide +kernel
theorem dX5_sheet_7 : decode cX5_sheet 7 = .ok (.iload_n 2, 1) := by decide +kernel
theorem dX5_sheet_8 : decode cX5_sheet 8 = .ok (.invokestatic 187, 3) := by decide +kernel
theorem dX5_sheet_11 : decode cX5_sheet 11 = .ok (.ifCond .eq 9, 3) := by decide +kernel
theorem dX5_sheet_14 : decode cX5_sheet 14 = .ok (.iload_n 3, 1) := by decide +kernel
theorem dX5_sheet_15 : decode cX5_sheet 15 = .ok (.bipush 60, 2) := by decide +kernel
theorem dX5_sheet_17 : decode cX5_sheet 17 = .ok (.if_icmp .le 6, 3) := by decide +kernel
theorem dX5_sheet_20 : decode cX5_sheet 20 = .ok (.bipush (-2), 2) := by decide +kernel
theorem dX5_sheet_22 : decode cX5_sheet 22 = .ok (.ireturn, 1) := by decide +kernel
theorem dX5_sheet_23 : decode cX5_sheet 23 = .ok (.iload_n 3, 1) := by decide +kernel
theorem dX5_sheet_24 : decode cX5_sheet 24 = .ok (.ifCond .ge 9, 3) := by decide +kernel
theorem dX5_sheet_27 : decode cX5_sheet 27 = .ok (.aload_n 0, 1) := by decide +kernel
theorem dX5_sheet_28 : decode cX5_sheet 28 = .ok (.iconst 5, 1) := by decide +kernel
theorem dX5_sheet_29 : decode cX5_sheet 29 = .ok (.invokevirtual 190, 3) := by decide +kernel
theorem dX5_sheet_32 : decode cX5_sheet 32 = .ok (.ireturn, 1) := by decide +kernel
theorem dX5_sheet_33 : decode cX5_sheet 33 = .ok (.aload_n 0, 1) := by decide +kernel
theorem dX5_sheet_34 : decode cX5_sheet 34 = .ok (.getfield 41, 3) := by decide +kernel
theorem dX5_sheet_37 : decode cX5_sheet 37 = .ok (.iload_n 1, 1) := by decide +kernel
theorem dX5_sheet_38 : decode cX5_sheet 38 = .ok (.aaload, 1) := by decide +kernel
theorem dX5_sheet_39 : decode cX5_sheet 39 = .ok (.iload_n 2, 1) := by decide +kernel
theorem dX5_sheet_40 : decode cX5_sheet 40 = .ok (.iload_n 3, 1) := by decide +kernel
theorem dX5_sheet_41 : decode cX5_sheet 41 = .ok (.invokevirtual 193, 3) := by decide +kernel
theorem dX5_sheet_44 : decode cX5_sheet 44 = .ok (.iload_n 3, 1) := by decide +kernel
theorem dX5_sheet_45 : decode cX5_sheet 45 = .ok (.ireturn, 1) := by decide +kernel
theorem dX5_lose_0 : decode cX5_lose 0 = .ok (.aload_n 0, 1) := by decide +kernel
theorem dX5_lose_1 : decode cX5_lose 1 = .ok (.iload_n 1, 1) := by decide +kernel
theorem dX5_lose_2 : decode cX5_lose 2 = .ok (.invokevirtual 106, 3) := by decide +kernel
theorem dX5_lose_5 : decode cX5_lose 5 = .ok (.istore_n 2, 1) := by decide +kernel
theorem dX5_lose_6 : decode cX5_lose 6 = .ok (.iload_n 2, 1) := by decide +kernel
theorem dX5_lose_7 : decode cX5_lose 7 = .ok (.ifCond .eq 5, 3) := by decide +kernel
theorem dX5_lose_10 : decode cX5_lose 10 = .ok (.iload_n 2, 1) := by decide +kernel
theorem dX5_lose_11 : decode cX5_lose 11 = .ok (.ireturn, 1) := by decide +kernel
theorem dX5_lose_12 : decode cX5_lose 12 = .ok (.aload_n 0, 1) := by decide +kernel
theorem dX5_lose_13 : decode cX5_lose 13 = .ok (.getfield 41, 3) := by decide +kernel
theorem dX5_lose_16 : decode cX5_lose 16 = .ok (.iload_n 1, 1) := by decide +kernel
theorem dX5_lose_17 : decode cX5_lose 17 = .ok (.aaload, 1) := by decide +kernel
theorem dX5_lose_18 : decode cX5_lose 18 = .ok (.getfield 197, 3) := by decide +kernel
theorem dX5_lose_21 : decode cX5_lose 21 = .ok (.istore_n 3, 1) := by decide +kernel
theorem dX5_lose_22 : decode cX5_lose 22 = .ok (.aload_n 0, 1) := by decide +kernel
theorem dX5_lose_23 : decode cX5_lose 23 = .ok (.getfield 41, 3) := by decide +kernel
theorem dX5_lose_26 : decode cX5_lose 26 = .ok (.iload_n 1, 1) := by decide +kernel
theorem dX5_lose_27 : decode cX5_lose 27 = .ok (.aaload, 1) := by decide +kernel
theorem dX5_lose_28 : decode cX5_lose 28 = .ok (.iconst (-1), 1) := by decide +kernel
theorem dX5_lose_29 : decode cX5_lose 29 = .ok (.putfield 197, 3) := by decide +kernel
theorem dX5_lose_32 : decode cX5_lose 32 = .ok (.iload_n 3, 1) := by decide +kernel
theorem dX5_lose_33 : decode cX5_lose 33 = .ok (.ireturn, 1) := by decide +kernel
theorem dX5_put_0 : decode cX5_put 0 = .ok (.aload_n 0, 1) := by decide +kernel
theorem dX5_put_1 : decode cX5_put 1 = .ok (.iload_n 1, 1) := by decide +kernel
theorem dX5_put_2 : decode cX5_put 2 = .ok (.iload_n 2, 1) := by decide +kernel
theorem dX5_put_3 : decode cX5_put 3 = .ok (.iload_n 3, 1) := by decide +kernel
theorem dX5_put_4 : decode cX5_put 4 = .ok (.invokevirtual 200, 3) := by decide +kernel
theorem dX5_put_7 : decode cX5_put 7 = .ok (.istore 5, 2) := by decide +kernel
theorem dX5_put_9 : decode cX5_put 9 = .ok (.iload 5, 2) := by decide +kernel
theorem dX5_put_11 : decode cX5_put 11 = .ok (.ifCond .eq 6, 3) := by decide +kernel
theorem dX5_put_14 : decode cX5_put 14 = .ok (.iload 5, 2) := by decide +kernel
theorem dX5_put_16 : decode cX5_put 16 = .ok (.ireturn, 1) := by decide +kernel
theorem dX5_put_17 : decode cX5_put 17 = .ok (.aload_n 0, 1) := by decide +kernel
theorem dX5_put_18 : decode cX5_put 18 = .ok (.getfield 41, 3) := by decide +kernel
theorem dX5_put_21 : decode cX5_put 21 = .ok (.iload_n 1, 1) := by decide +kernel
theorem dX5_put_22 : decode cX5_put 22 = .ok (.aaload, 1) := by decide +kernel
theorem dX5_put_23 : decode cX5_put 23 = .ok (.iload_n 3, 1) := by decide +kernel
theorem dX5_put_24 : decode cX5_put 24 = .ok (.iload 4, 2) := by decide +kernel
theorem dX5_put_26 : decode cX5_put 26 = .ok (.invokevirtual 204, 3) := by decide +kernel
theorem dX5_put_29 : decode cX5_put 29 = .ok (.iconst 1, 1) := by decide +kernel
theorem dX5_put_30 : decode cX5_put 30 = .ok (.ireturn, 1) := by decide +kernel
theorem dX5_get_0 : decode cX5_get 0 = .ok (.aload_n 0, 1) := by decide +kernel
theorem dX5_get_1 : decode cX5_get 1 = .ok (.iload_n 1, 1) := by decide +kernel
theorem dX5_get_2 : decode cX5_get 2 = .ok (.iload_n 2, 1) := by decide +kernel
theorem dX5_get_3 : decode cX5_get 3 = .ok (.iload_n 3, 1) := by decide +kernel
theorem dX5_get_4 : decode cX5_get 4 = .ok (.invokevirtual 200, 3) := by decide +kernel
theorem dX5_get_7 : decode cX5_get 7 = .ok (.ifCond .eq 8, 3) := by decide +kernel
theorem dX5_get_10 : decode cX5_get 10 = .ok (.ldc 207, 2) := by decide +kernel
theorem dX5_get_12 : decode cX5_get 12 = .ok (.goto 14, 3) := by decide +kernel
theorem dX5_get_15 : decode cX5_get 15 = .ok (.aload_n 0, 1) := by decide +kernel
theorem dX5_get_16 : decode cX5_get 16 = .ok (.getfield 41, 3) := by decide +kernel
theorem dX5_get_19 : decode cX5_get 19 = .ok (.iload_n 1, 1) := by decide +kernel
theorem dX5_get_20 : decode cX5_get 20 = .ok (.aaload, 1) := by decide +kernel
theorem dX5_get_21 : decode cX5_get 21 = .ok (.getfield 208, 3) := by decide +kernel
theorem dX5_get_24 : decode cX5_get 24 = .ok (.iload_n 3, 1) := by decide +kernel
theorem dX5_get_25 : decode cX5_get 25 = .ok (.iaload, 1) := by decide +kernel
theorem dX5_get_26 : decode cX5_get 26 = .ok (.ireturn, 1) := by decide +kernel
theorem dX5_copy_0 : decode cX5_copy 0 = .ok (.iload_n 1, 1) := by decide +kernel
theorem dX5_copy_1 : decode cX5_copy 1 = .ok (.invokestatic 184, 3) := by decide +kernel
theorem dX5_copy_4 : decode cX5_copy 4 = .ok (.ifCond .eq 10, 3) := by decide +kernel
theorem dX5_copy_7 : decode cX5_copy 7 = .ok (.iload_n 3, 1) := by decide +kernel
theorem dX5_copy_8 : decode cX5_copy 8 = .ok (.invokestatic 184, 3) := by decide +kernel
theorem dX5_copy_11 : decode cX5_copy 11 = .ok (.ifCond .ne 6, 3) := by decide +kernel
theorem dX5_copy_14 : decode cX5_copy 14 = .ok (.bipush (-2), 2) := by decide +kernel
theorem dX5_copy_16 : decode cX5_copy 16 = .ok (.ireturn, 1) := by decide +kernel
theorem dX5_copy_17 : decode cX5_copy 17 = .ok (.aload_n 0, 1) := by decide +kernel
theorem dX5_copy_18 : decode cX5_copy 18 = .ok (.getfield 41, 3) := by decide +kernel
theorem dX5_copy_21 : decode cX5_copy 21 = .ok (.iload_n 1, 1) := by decide +kernel
theorem dX5_copy_22 : decode cX5_copy 22 = .ok (.aaload, 1) := by decide +kernel
theorem dX5_copy_23 : decode cX5_copy 23 = .ok (.astore 6, 2) := by decide +kernel
theorem dX5_copy_25 : decode cX5_copy 25 = .ok (.aload_n 0, 1) := by decide +kernel
theorem dX5_copy_26 : decode cX5_copy 26 = .ok (.getfield 41, 3) := by decide +kernel
theorem dX5_copy_29 : decode cX5_copy 29 = .ok (.iload_n 3, 1) := by decide +kernel
theorem dX5_copy_30 : decode cX5_copy 30 = .ok (.aaload, 1) := by decide +kernel
theorem dX5_copy_31 : decode cX5_copy 31 = .ok (.astore 7, 2) := by decide +kernel
theorem dX5_copy_33 : decode cX5_copy 33 = .ok (.aload 6, 2) := by decide +kernel
theorem dX5_copy_35 : decode cX5_copy 35 = .ok (.invokevirtual 211, 3) := by decide +kernel
theorem dX5_copy_38 : decode cX5_copy 38 = .ok (.ifCond .ne 11, 3) := by decide +kernel
theorem dX5_copy_41 : decode cX5_copy 41 = .ok (.aload 7, 2) := by decide +kernel
theorem dX5_copy_43 : decode cX5_copy 43 = .ok (.invokevirtual 211, 3) := by decide +kernel
theorem dX5_copy_46 : decode cX5_copy 46 = .ok (.ifCond .eq 9, 3) := by decide +kernel
theorem dX5_copy_49 : decode cX5_copy 49 = .ok (.aload_n 0, 1) := by decide +kernel
theorem dX5_copy_50 : decode cX5_copy 50 = .ok (.iconst 1, 1) := by decide +kernel
theorem dX5_copy_51 : decode cX5_copy 51 = .ok (.invokevirtual 190, 3) := by decide +kernel
theorem dX5_copy_54 : decode cX5_copy 54 = .ok (.ireturn, 1) := by decide +kernel
theorem dX5_copy_55 : decode cX5_copy 55 = .ok (.aload 6, 2) := by decide +kernel
theorem dX5_copy_57 : decode cX5_copy 57 = .ok (.getfield 215, 3) := by decide +kernel
theorem dX5_copy_60 : decode cX5_copy 60 = .ok (.aload 7, 2) := by decide +kernel
theorem dX5_copy_62 : decode cX5_copy 62 = .ok (.getfield 215, 3) := by decide +kernel
theorem dX5_copy_65 : decode cX5_copy 65 = .ok (.if_icmp .eq 9, 3) := by decide +kernel
theorem dX5_copy_68 : decode cX5_copy 68 = .ok (.aload_n 0, 1) := by decide +kernel
theorem dX5_copy_69 : decode cX5_copy 69 = .ok (.iconst 4, 1) := by decide +kernel
theorem dX5_copy_70 : decode cX5_copy 70 = .ok (.invokevirtual 190, 3) := by decide +kernel
theorem dX5_copy_73 : decode cX5_copy 73 = .ok (.ireturn, 1) := by decide +kernel
theorem dX5_copy_74 : decode cX5_copy 74 = .ok (.aload 6, 2) := by decide +kernel
theorem dX5_copy_76 : decode cX5_copy 76 = .ok (.iload_n 2, 1) := by decide +kernel
theorem dX5_copy_77 : decode cX5_copy 77 = .ok (.iload 5, 2) := by decide +kernel
theorem dX5_copy_79 : decode cX5_copy 79 = .ok (.invokevirtual 218, 3) := by decide +kernel
theorem dX5_copy_82 : decode cX5_copy 82 = .ok (.ifCond .eq 15, 3) := by decide +kernel
theorem dX5_copy_85 : decode cX5_copy 85 = .ok (.aload 7, 2) := by decide +kernel
theorem dX5_copy_87 : decode cX5_copy 87 = .ok (.iload 4, 2) := by decide +kernel
theorem dX5_copy_89 : decode cX5_copy 89 = .ok (.iload 5, 2) := by decide +kernel
theorem dX5_copy_91 : decode cX5_copy 91 = .ok (.invokevirtual 218, 3) := by decide +kernel
theorem dX5_copy_94 : decode cX5_copy 94 = .ok (.ifCond .ne 9, 3) := by decide +kernel
theorem dX5_copy_97 : decode cX5_copy 97 = .ok (.aload_n 0, 1) := by decide +kernel
theorem dX5_copy_98 : decode cX5_copy 98 = .ok (.iconst 2, 1) := by decide +kernel
theorem dX5_copy_99 : decode cX5_copy 99 = .ok (.invokevirtual 190, 3) := by decide +kernel
theorem dX5_copy_102 : decode cX5_copy 102 = .ok (.ireturn, 1) := by decide +kernel
theorem dX5_copy_103 : decode cX5_copy 103 = .ok (.aload 6, 2) := by decide +kernel
theorem dX5_copy_105 : decode cX5_copy 105 = .ok (.getfield 208, 3) := by decide +kernel
theorem dX5_copy_108 : decode cX5_copy 108 = .ok (.iload_n 2, 1) := by decide +kernel
theorem dX5_copy_109 : decode cX5_copy 109 = .ok (.aload 7, 2) := by decide +kernel
theorem dX5_copy_111 : decode cX5_copy 111 = .ok (.getfield 208, 3) := by decide +kernel
theorem dX5_copy_114 : decode cX5_copy 114 = .ok (.iload 4, 2) := by decide +kernel
theorem dX5_copy_116 : decode cX5_copy 116 = .ok (.iload 5, 2) := by decide +kernel
theorem dX5_copy_118 : decode cX5_copy 118 = .ok (.invokestatic 222, 3) := by decide +kernel
theorem dX5_copy_121 : decode cX5_copy 121 = .ok (.iconst 1, 1) := by decide +kernel
theorem dX5_copy_122 : decode cX5_copy 122 = .ok (.ireturn, 1) := by decide +kernel
theorem dX5_write_0 : decode cX5_write 0 = .ok (.aload_n 0, 1) := by decide +kernel
theorem dX5_write_1 : decode cX5_write 1 = .ok (.iload_n 1, 1) := by decide +kernel
theorem dX5_write_2 : decode cX5_write 2 = .ok (.invokevirtual 106, 3) := by decide +kernel
theorem dX5_write_5 : decode cX5_write 5 = .ok (.istore_n 2, 1) := by decide +kernel
theorem dX5_write_6 : decode cX5_write 6 = .ok (.iload_n 2, 1) := by decide +kernel
theorem dX5_write_7 : decode cX5_write 7 = .ok (.ifCond .eq 5, 3) := by decide +kernel
theorem dX5_write_10 : decode cX5_write 10 = .ok (.iload_n 2, 1) := by decide +kernel
theorem dX5_write_11 : decode cX5_write 11 = .ok (.ireturn, 1) := by decide +kernel
theorem dX5_write_12 : decode cX5_write 12 = .ok (.aload_n 0, 1) := by decide +kernel
theorem dX5_write_13 : decode cX5_write 13 = .ok (.getfield 28, 3) := by decide +kernel
theorem dX5_write_16 : decode cX5_write 16 = .ok (.invokevirtual 175, 3) := by decide +kernel
theorem dX5_write_19 : decode cX5_write 19 = .ok (.pop, 1) := by decide +kernel
theorem dX5_write_20 : decode cX5_write 20 = .ok (.aload_n 0, 1) := by decide +kernel
theorem dX5_write_21 : decode cX5_write 21 = .ok (.getfield 41, 3) := by decide +kernel
theorem dX5_write_24 : decode cX5_write 24 = .ok (.iload_n 1, 1) := by decide +kernel
theorem dX5_write_25 : decode cX5_write 25 = .ok (.aaload, 1) := by decide +kernel
theorem dX5_write_26 : decode cX5_write 26 = .ok (.getfield 197, 3) := by decide +kernel
theorem dX5_write_29 : decode cX5_write 29 = .ok (.aload_n 0, 1) := by decide +kernel
theorem dX5_write_30 : decode cX5_write 30 = .ok (.getfield 10, 3) := by decide +kernel
theorem dX5_write_33 : decode cX5_write 33 = .ok (.getfield 50, 3) := by decide +kernel
theorem dX5_write_36 : decode cX5_write 36 = .ok (.invokestatic 228, 3) := by decide +kernel
theorem dX5_write_39 : decode cX5_write 39 = .ok (.istore_n 3, 1) := by decide +kernel
theorem dX5_write_40 : decode cX5_write 40 = .ok (.iconst 0, 1) := by decide +kernel
theorem dX5_write_41 : decode cX5_write 41 = .ok (.istore 4, 2) := by decide +kernel
theorem dX5_write_43 : decode cX5_write 43 = .ok (.iload 4, 2) := by decide +kernel
theorem dX5_write_45 : decode cX5_write 45 = .ok (.iload_n 3, 1) := by decide +kernel
theorem dX5_write_46 : decode cX5_write 46 = .ok (.if_icmp .ge 30, 3) := by decide +kernel
theorem dX5_write_49 : decode cX5_write 49 = .ok (.aload_n 0, 1) := by decide +kernel
theorem dX5_write_50 : decode cX5_write 50 = .ok (.getfield 41, 3) := by decide +kernel
theorem dX5_write_53 : decode cX5_write 53 = .ok (.iload_n 1, 1) := by decide +kernel
theorem dX5_write_54 : decode cX5_write 54 = .ok (.aaload, 1) := by decide +kernel
theorem dX5_write_55 : decode cX5_write 55 = .ok (.iload 4, 2) := by decide +kernel
theorem dX5_write_57 : decode cX5_write 57 = .ok (.aload_n 0, 1) := by decide +kernel
theorem dX5_write_58 : decode cX5_write 58 = .ok (.getfield 28, 3) := by decide +kernel
theorem dX5_write_61 : decode cX5_write 61 = .ok (.getfield 178, 3) := by decide +kernel
theorem dX5_write_64 : decode cX5_write 64 = .ok (.iload 4, 2) := by decide +kernel
theorem dX5_write_66 : decode cX5_write 66 = .ok (.iaload, 1) := by decide +kernel
theorem dX5_write_67 : decode cX5_write 67 = .ok (.invokevirtual 204, 3) := by decide +kernel
theorem dX5_write_70 : decode cX5_write 70 = .ok (.iinc 4 1, 3) := by decide +kernel
theorem dX5_write_73 : decode cX5_write 73 = .ok (.goto (-30), 3) := by decide +kernel
theorem dX5_write_76 : decode cX5_write 76 = .ok (.iload_n 3, 1) := by decide +kernel
theorem dX5_write_77 : decode cX5_write 77 = .ok (.ireturn, 1) := by decide +kernel
theorem dX5_count_0 : decode cX5_count 0 = .ok (.iload_n 1, 1) := by decide +kernel
theorem dX5_count_1 : decode cX5_count 1 = .ok (.tableswitch 126 0 8 #[51, 59, 70, 81, 89, 97, 105, 113, 121], 51) := by decide +kernel
theorem dX5_count_52 : decode cX5_count 52 = .ok (.aload_n 0, 1) := by decide +kernel
theorem dX5_count_53 : decode cX5_count 53 = .ok (.getfield 10, 3) := by decide +kernel
theorem dX5_count_56 : decode cX5_count 56 = .ok (.getfield 50, 3) := by decide +kernel
theorem dX5_count_59 : decode cX5_count 59 = .ok (.ireturn, 1) := by decide +kernel
theorem dX5_count_60 : decode cX5_count 60 = .ok (.aload_n 0, 1) := by decide +kernel
theorem dX5_count_61 : decode cX5_count 61 = .ok (.getfield 10, 3) := by decide +kernel
theorem dX5_count_64 : decode cX5_count 64 = .ok (.invokevirtual 86, 3) := by decide +kernel
theorem dX5_count_67 : decode cX5_count 67 = .ok (.invokestatic 233, 3) := by decide +kernel
theorem dX5_count_70 : decode cX5_count 70 = .ok (.ireturn, 1) := by decide +kernel
theorem dX5_count_71 : decode cX5_count 71 = .ok (.aload_n 0, 1) := by decide +kernel
theorem dX5_count_72 : decode cX5_count 72 = .ok (.getfield 10, 3) := by decide +kernel
theorem dX5_count_75 : decode cX5_count 75 = .ok (.invokevirtual 181, 3) := by decide +kernel
theorem dX5_count_78 : decode cX5_count 78 = .ok (.invokestatic 233, 3) := by decide +kernel
theorem dX5_count_81 : decode cX5_count 81 = .ok (.ireturn, 1) := by decide +kernel
theorem dX5_count_82 : decode cX5_count 82 = .ok (.aload_n 0, 1) := by decide +kernel
theorem dX5_count_83 : decode cX5_count 83 = .ok (.getfield 10, 3) := by decide +kernel
theorem dX5_count_86 : decode cX5_count 86 = .ok (.invokevirtual 238, 3) := by decide +kernel
theorem dX5_count_89 : decode cX5_count 89 = .ok (.ireturn, 1) := by decide +kernel
theorem dX5_count_90 : decode cX5_count 90 = .ok (.aload_n 0, 1) := by decide +kernel
theorem dX5_count_91 : decode cX5_count 91 = .ok (.invokevirtual 241, 3) := by decide +kernel
theorem dX5_count_94 : decode cX5_count 94 = .ok (.invokestatic 233, 3) := by decide +kernel
theorem dX5_count_97 : decode cX5_count 97 = .ok (.ireturn, 1) := by decide +kernel
theorem dX5_count_98 : decode cX5_count 98 = .ok (.aload_n 0, 1) := by decide +kernel
theorem dX5_count_99 : decode cX5_count 99 = .ok (.invokevirtual 244, 3) := by decide +kernel
theorem dX5_count_102 : decode cX5_count 102 = .ok (.invokestatic 233, 3) := by decide +kernel
theorem dX5_count_105 : decode cX5_count 105 = .ok (.ireturn, 1) := by decide +kernel
theorem dX5_count_106 : decode cX5_count 106 = .ok (.aload_n 0, 1) := by decide +kernel
theorem dX5_count_107 : decode cX5_count 107 = .ok (.getfield 35, 3) := by decide +kernel
theorem dX5_count_110 : decode cX5_count 110 = .ok (.getfield 99, 3) := by decide +kernel
theorem dX5_count_113 : decode cX5_count 113 = .ok (.ireturn, 1) := by decide +kernel
theorem dX5_count_114 : decode cX5_count 114 = .ok (.aload_n 0, 1) := by decide +kernel
theorem dX5_count_115 : decode cX5_count 115 = .ok (.getfield 28, 3) := by decide +kernel
theorem dX5_count_118 : decode cX5_count 118 = .ok (.invokevirtual 175, 3) := by decide +kernel
theorem dX5_count_121 : decode cX5_count 121 = .ok (.ireturn, 1) := by decide +kernel
theorem dX5_count_122 : decode cX5_count 122 = .ok (.aload_n 0, 1) := by decide +kernel
theorem dX5_count_123 : decode cX5_count 123 = .ok (.getfield 46, 3) := by decide +kernel
theorem dX5_count_126 : decode cX5_count 126 = .ok (.ireturn, 1) := by decide +kernel
theorem dX5_count_127 : decode cX5_count 127 = .ok (.bipush (-2), 2) := by decide +kernel
theorem dX5_count_129 : decode cX5_count 129 = .ok (.ireturn, 1) := by decide +kernel
theorem dX5_digest_0 : decode cX5_digest 0 = .ok (.ldc2_w 247, 3) := by decide +kernel
theorem dX5_digest_3 : decode cX5_digest 3 = .ok (.lstore_n 1, 1) := by decide +kernel
theorem dX5_digest_4 : decode cX5_digest 4 = .ok (.iconst 0, 1) := by decide +kernel
theorem dX5_digest_5 : decode cX5_digest 5 = .ok (.istore_n 3, 1) := by decide +kernel
theorem dX5_digest_6 : decode cX5_digest 6 = .ok (.iload_n 3, 1) := by decide +kernel
theorem dX5_digest_7 : decode cX5_digest 7 = .ok (.bipush 6, 2) := by decide +kernel
theorem dX5_digest_9 : decode cX5_digest 9 = .ok (.if_icmp .gt 22, 3) := by decide +kernel
theorem dX5_digest_12 : decode cX5_digest 12 = .ok (.ldc2_w 249, 3) := by decide +kernel
theorem dX5_digest_15 : decode cX5_digest 15 = .ok (.lload_n 1, 1) := by decide +kernel
theorem dX5_digest_16 : decode cX5_digest 16 = .ok (.lmul, 1) := by decide +kernel
theorem dX5_digest_17 : decode cX5_digest 17 = .ok (.aload_n 0, 1) := by decide +kernel
theorem dX5_digest_18 : decode cX5_digest 18 = .ok (.iload_n 3, 1) := by decide +kernel
theorem dX5_digest_19 : decode cX5_digest 19 = .ok (.invokevirtual 251, 3) := by decide +kernel
theorem dX5_digest_22 : decode cX5_digest 22 = .ok (.i2l, 1) := by decide +kernel
theorem dX5_digest_23 : decode cX5_digest 23 = .ok (.ladd, 1) := by decide +kernel
theorem dX5_digest_24 : decode cX5_digest 24 = .ok (.lstore_n 1, 1) := by decide +kernel
theorem dX5_digest_25 : decode cX5_digest 25 = .ok (.iinc 3 1, 3) := by decide +kernel
theorem dX5_digest_28 : decode cX5_digest 28 = .ok (.goto (-22), 3) := by decide +kernel
theorem dX5_digest_31 : decode cX5_digest 31 = .ok (.ldc2_w 249, 3) := by decide +kernel
theorem dX5_digest_34 : decode cX5_digest 34 = .ok (.lload_n 1, 1) := by decide +kernel
theorem dX5_digest_35 : decode cX5_digest 35 = .ok (.lmul, 1) := by decide +kernel
theorem dX5_digest_36 : decode cX5_digest 36 = .ok (.aload_n 0, 1) := by decide +kernel
theorem dX5_digest_37 : decode cX5_digest 37 = .ok (.getfield 28, 3) := by decide +kernel
theorem dX5_digest_40 : decode cX5_digest 40 = .ok (.invokevirtual 175, 3) := by decide +kernel
theorem dX5_digest_43 : decode cX5_digest 43 = .ok (.i2l, 1) := by decide +kernel
theorem dX5_digest_44 : decode cX5_digest 44 = .ok (.ladd, 1) := by decide +kernel
theorem dX5_digest_45 : decode cX5_digest 45 = .ok (.lstore_n 1, 1) := by decide +kernel
theorem dX5_digest_46 : decode cX5_digest 46 = .ok (.ldc2_w 249, 3) := by decide +kernel
theorem dX5_digest_49 : decode cX5_digest 49 = .ok (.lload_n 1, 1) := by decide +kernel
theorem dX5_digest_50 : decode cX5_digest 50 = .ok (.lmul, 1) := by decide +kernel
theorem dX5_digest_51 : decode cX5_digest 51 = .ok (.aload_n 0, 1) := by decide +kernel
theorem dX5_digest_52 : decode cX5_digest 52 = .ok (.invokevirtual 254, 3) := by decide +kernel
theorem dX5_digest_55 : decode cX5_digest 55 = .ok (.i2l, 1) := by decide +kernel
theorem dX5_digest_56 : decode cX5_digest 56 = .ok (.ladd, 1) := by decide +kernel
theorem dX5_digest_57 : decode cX5_digest 57 = .ok (.lstore_n 1, 1) := by decide +kernel
theorem dX5_digest_58 : decode cX5_digest 58 = .ok (.ldc2_w 249, 3) := by decide +kernel
theorem dX5_digest_61 : decode cX5_digest 61 = .ok (.lload_n 1, 1) := by decide +kernel
theorem dX5_digest_62 : decode cX5_digest 62 = .ok (.lmul, 1) := by decide +kernel
theorem dX5_digest_63 : decode cX5_digest 63 = .ok (.aload_n 0, 1) := by decide +kernel
theorem dX5_digest_64 : decode cX5_digest 64 = .ok (.invokevirtual 257, 3) := by decide +kernel
theorem dX5_digest_67 : decode cX5_digest 67 = .ok (.i2l, 1) := by decide +kernel
theorem dX5_digest_68 : decode cX5_digest 68 = .ok (.ladd, 1) := by decide +kernel
theorem dX5_digest_69 : decode cX5_digest 69 = .ok (.lstore_n 1, 1) := by decide +kernel
theorem dX5_digest_70 : decode cX5_digest 70 = .ok (.ldc2_w 249, 3) := by decide +kernel
theorem dX5_digest_73 : decode cX5_digest 73 = .ok (.lload_n 1, 1) := by decide +kernel
theorem dX5_digest_74 : decode cX5_digest 74 = .ok (.lmul, 1) := by decide +kernel
theorem dX5_digest_75 : decode cX5_digest 75 = .ok (.aload_n 0, 1) := by decide +kernel
theorem dX5_digest_76 : decode cX5_digest 76 = .ok (.invokevirtual 260, 3) := by decide +kernel
theorem dX5_digest_79 : decode cX5_digest 79 = .ok (.i2l, 1) := by decide +kernel
theorem dX5_digest_80 : decode cX5_digest 80 = .ok (.ladd, 1) := by decide +kernel
theorem dX5_digest_81 : decode cX5_digest 81 = .ok (.lstore_n 1, 1) := by decide +kernel
theorem dX5_digest_82 : decode cX5_digest 82 = .ok (.ldc2_w 249, 3) := by decide +kernel
theorem dX5_digest_85 : decode cX5_digest 85 = .ok (.lload_n 1, 1) := by decide +kernel
theorem dX5_digest_86 : decode cX5_digest 86 = .ok (.lmul, 1) := by decide +kernel
theorem dX5_digest_87 : decode cX5_digest 87 = .ok (.aload_n 0, 1) := by decide +kernel
theorem dX5_digest_88 : decode cX5_digest 88 = .ok (.invokevirtual 241, 3) := by decide +kernel
theorem dX5_digest_91 : decode cX5_digest 91 = .ok (.i2l, 1) := by decide +kernel
theorem dX5_digest_92 : decode cX5_digest 92 = .ok (.ladd, 1) := by decide +kernel
theorem dX5_digest_93 : decode cX5_digest 93 = .ok (.lstore_n 1, 1) := by decide +kernel
theorem dX5_digest_94 : decode cX5_digest 94 = .ok (.ldc2_w 249, 3) := by decide +kernel
theorem dX5_digest_97 : decode cX5_digest 97 = .ok (.lload_n 1, 1) := by decide +kernel
theorem dX5_digest_98 : decode cX5_digest 98 = .ok (.lmul, 1) := by decide +kernel
theorem dX5_digest_99 : decode cX5_digest 99 = .ok (.aload_n 0, 1) := by decide +kernel
theorem dX5_digest_100 : decode cX5_digest 100 = .ok (.invokevirtual 244, 3) := by decide +kernel
theorem dX5_digest_103 : decode cX5_digest 103 = .ok (.i2l, 1) := by decide +kernel
theorem dX5_digest_104 : decode cX5_digest 104 = .ok (.ladd, 1) := by decide +kernel
theorem dX5_digest_105 : decode cX5_digest 105 = .ok (.lstore_n 1, 1) := by decide +kernel
theorem dX5_digest_106 : decode cX5_digest 106 = .ok (.ldc2_w 249, 3) := by decide +kernel
theorem dX5_digest_109 : decode cX5_digest 109 = .ok (.lload_n 1, 1) := by decide +kernel
theorem dX5_digest_110 : decode cX5_digest 110 = .ok (.lmul, 1) := by decide +kernel
theorem dX5_digest_111 : decode cX5_digest 111 = .ok (.aload_n 0, 1) := by decide +kernel
theorem dX5_digest_112 : decode cX5_digest 112 = .ok (.invokevirtual 263, 3) := by decide +kernel
theorem dX5_digest_115 : decode cX5_digest 115 = .ok (.i2l, 1) := by decide +kernel
theorem dX5_digest_116 : decode cX5_digest 116 = .ok (.ladd, 1) := by decide +kernel
theorem dX5_digest_117 : decode cX5_digest 117 = .ok (.lstore_n 1, 1) := by decide +kernel
theorem dX5_digest_118 : decode cX5_digest 118 = .ok (.ldc2_w 249, 3) := by decide +kernel
theorem dX5_digest_121 : decode cX5_digest 121 = .ok (.lload_n 1, 1) := by decide +kernel
theorem dX5_digest_122 : decode cX5_digest 122 = .ok (.lmul, 1) := by decide +kernel
theorem dX5_digest_123 : decode cX5_digest 123 = .ok (.aload_n 0, 1) := by decide +kernel
theorem dX5_digest_124 : decode cX5_digest 124 = .ok (.invokevirtual 266, 3) := by decide +kernel
theorem dX5_digest_127 : decode cX5_digest 127 = .ok (.i2l, 1) := by decide +kernel
theorem dX5_digest_128 : decode cX5_digest 128 = .ok (.ladd, 1) := by decide +kernel
theorem dX5_digest_129 : decode cX5_digest 129 = .ok (.lstore_n 1, 1) := by decide +kernel
theorem dX5_digest_130 : decode cX5_digest 130 = .ok (.ldc2_w 249, 3) := by decide +kernel
theorem dX5_digest_133 : decode cX5_digest 133 = .ok (.lload_n 1, 1) := by decide +kernel
theorem dX5_digest_134 : decode cX5_digest 134 = .ok (.lmul, 1) := by decide +kernel
theorem dX5_digest_135 : decode cX5_digest 135 = .ok (.aload_n 0, 1) := by decide +kernel
theorem dX5_digest_136 : decode cX5_digest 136 = .ok (.invokevirtual 269, 3) := by decide +kernel
theorem dX5_digest_139 : decode cX5_digest 139 = .ok (.i2l, 1) := by decide +kernel
theorem dX5_digest_140 : decode cX5_digest 140 = .ok (.ladd, 1) := by decide +kernel
theorem dX5_digest_141 : decode cX5_digest 141 = .ok (.lstore_n 1, 1) := by decide +kernel
theorem dX5_digest_142 : decode cX5_digest 142 = .ok (.iconst 0, 1) := by decide +kernel
theorem dX5_digest_143 : decode cX5_digest 143 = .ok (.istore_n 3, 1) := by decide +kernel
theorem dX5_digest_144 : decode cX5_digest 144 = .ok (.iload_n 3, 1) := by decide +kernel
theorem dX5_digest_145 : decode cX5_digest 145 = .ok (.aload_n 0, 1) := by decide +kernel
theorem dX5_digest_146 : decode cX5_digest 146 = .ok (.getfield 10, 3) := by decide +kernel
theorem dX5_digest_149 : decode cX5_digest 149 = .ok (.getfield 50, 3) := by decide +kernel
theorem dX5_digest_152 : decode cX5_digest 152 = .ok (.if_icmp .ge 16, 3) := by decide +kernel
theorem dX5_digest_155 : decode cX5_digest 155 = .ok (.aload_n 0, 1) := by decide +kernel
theorem dX5_digest_156 : decode cX5_digest 156 = .ok (.lload_n 1, 1) := by decide +kernel
theorem dX5_digest_157 : decode cX5_digest 157 = .ok (.iload_n 3, 1) := by decide +kernel
theorem dX5_digest_158 : decode cX5_digest 158 = .ok (.invokevirtual 272, 3) := by decide +kernel
theorem dX5_digest_161 : decode cX5_digest 161 = .ok (.lstore_n 1, 1) := by decide +kernel
theorem dX5_digest_162 : decode cX5_digest 162 = .ok (.iinc 3 1, 3) := by decide +kernel
theorem dX5_digest_165 : decode cX5_digest 165 = .ok (.goto (-21), 3) := by decide +kernel
theorem dX5_digest_168 : decode cX5_digest 168 = .ok (.iconst 0, 1) := by decide +kernel
theorem dX5_digest_169 : decode cX5_digest 169 = .ok (.istore_n 3, 1) := by decide +kernel
theorem dX5_digest_170 : decode cX5_digest 170 = .ok (.iload_n 3, 1) := by decide +kernel
theorem dX5_digest_171 : decode cX5_digest 171 = .ok (.aload_n 0, 1) := by decide +kernel
theorem dX5_digest_172 : decode cX5_digest 172 = .ok (.getfield 10, 3) := by decide +kernel
theorem dX5_digest_175 : decode cX5_digest 175 = .ok (.invokevirtual 123, 3) := by decide +kernel
theorem dX5_digest_178 : decode cX5_digest 178 = .ok (.if_icmp .gt 21, 3) := by decide +kernel
theorem dX5_digest_181 : decode cX5_digest 181 = .ok (.ldc2_w 249, 3) := by decide +kernel
theorem dX5_digest_184 : decode cX5_digest 184 = .ok (.lload_n 1, 1) := by decide +kernel
theorem dX5_digest_185 : decode cX5_digest 185 = .ok (.lmul, 1) := by decide +kernel
theorem dX5_digest_186 : decode cX5_digest 186 = .ok (.aload_n 0, 1) := by decide +kernel
theorem dX5_digest_187 : decode cX5_digest 187 = .ok (.iload_n 3, 1) := by decide +kernel
theorem dX5_digest_188 : decode cX5_digest 188 = .ok (.invokevirtual 276, 3) := by decide +kernel
theorem dX5_digest_191 : decode cX5_digest 191 = .ok (.ladd, 1) := by decide +kernel
theorem dX5_digest_192 : decode cX5_digest 192 = .ok (.lstore_n 1, 1) := by decide +kernel
theorem dX5_digest_193 : decode cX5_digest 193 = .ok (.iinc 3 1, 3) := by decide +kernel
theorem dX5_digest_196 : decode cX5_digest 196 = .ok (.goto (-26), 3) := by decide +kernel
theorem dX5_digest_199 : decode cX5_digest 199 = .ok (.lload_n 1, 1) := by decide +kernel
theorem dX5_digest_200 : decode cX5_digest 200 = .ok (.lreturn, 1) := by decide +kernel
theorem dX5_digestSender_0 : decode cX5_digestSender 0 = .ok (.lload_n 1, 1) := by decide +kernel
theorem dX5_digestSender_1 : decode cX5_digestSender 1 = .ok (.lstore 4, 2) := by decide +kernel
theorem dX5_digestSender_3 : decode cX5_digestSender 3 = .ok (.iconst 0, 1) := by decide +kernel
theorem dX5_digestSender_4 : decode cX5_digestSender 4 = .ok (.istore 6, 2) := by decide +kernel
theorem dX5_digestSender_6 : decode cX5_digestSender 6 = .ok (.iload 6, 2) := by decide +kernel
theorem dX5_digestSender_8 : decode cX5_digestSender 8 = .ok (.bipush 7, 2) := by decide +kernel
theorem dX5_digestSender_10 : decode cX5_digestSender 10 = .ok (.if_icmp .gt 26, 3) := by decide +kernel
theorem dX5_digestSender_13 : decode cX5_digestSender 13 = .ok (.ldc2_w 249, 3) := by decide +kernel
theorem dX5_digestSender_16 : decode cX5_digestSender 16 = .ok (.lload 4, 2) := by decide +kernel
theorem dX5_digestSender_18 : decode cX5_digestSender 18 = .ok (.lmul, 1) := by decide +kernel
theorem dX5_digestSender_19 : decode cX5_digestSender 19 = .ok (.aload_n 0, 1) := by decide +kernel
theorem dX5_digestSender_20 : decode cX5_digestSender 20 = .ok (.iload_n 3, 1) := by decide +kernel
theorem dX5_digestSender_21 : decode cX5_digestSender 21 = .ok (.iload 6, 2) := by decide +kernel
theorem dX5_digestSender_23 : decode cX5_digestSender 23 = .ok (.invokevirtual 279, 3) := by decide +kernel
theorem dX5_digestSender_26 : decode cX5_digestSender 26 = .ok (.i2l, 1) := by decide +kernel
theorem dX5_digestSender_27 : decode cX5_digestSender 27 = .ok (.ladd, 1) := by decide +kernel
theorem dX5_digestSender_28 : decode cX5_digestSender 28 = .ok (.lstore 4, 2) := by decide +kernel
theorem dX5_digestSender_30 : decode cX5_digestSender 30 = .ok (.iinc 6 1, 3) := by decide +kernel
theorem dX5_digestSender_33 : decode cX5_digestSender 33 = .ok (.goto (-27), 3) := by decide +kernel
theorem dX5_digestSender_36 : decode cX5_digestSender 36 = .ok (.ldc2_w 249, 3) := by decide +kernel
theorem dX5_digestSender_39 : decode cX5_digestSender 39 = .ok (.lload 4, 2) := by decide +kernel
theorem dX5_digestSender_41 : decode cX5_digestSender 41 = .ok (.lmul, 1) := by decide +kernel
theorem dX5_digestSender_42 : decode cX5_digestSender 42 = .ok (.aload_n 0, 1) := by decide +kernel
theorem dX5_digestSender_43 : decode cX5_digestSender 43 = .ok (.iload_n 3, 1) := by decide +kernel
theorem dX5_digestSender_44 : decode cX5_digestSender 44 = .ok (.iconst 0, 1) := by decide +kernel
theorem dX5_digestSender_45 : decode cX5_digestSender 45 = .ok (.invokevirtual 282, 3) := by decide +kernel
theorem dX5_digestSender_48 : decode cX5_digestSender 48 = .ok (.ladd, 1) := by decide +kernel
theorem dX5_digestSender_49 : decode cX5_digestSender 49 = .ok (.lstore 4, 2) := by decide +kernel
theorem dX5_digestSender_51 : decode cX5_digestSender 51 = .ok (.ldc2_w 249, 3) := by decide +kernel
theorem dX5_digestSender_54 : decode cX5_digestSender 54 = .ok (.lload 4, 2) := by decide +kernel
theorem dX5_digestSender_56 : decode cX5_digestSender 56 = .ok (.lmul, 1) := by decide +kernel
theorem dX5_digestSender_57 : decode cX5_digestSender 57 = .ok (.aload_n 0, 1) := by decide +kernel
theorem dX5_digestSender_58 : decode cX5_digestSender 58 = .ok (.iload_n 3, 1) := by decide +kernel
theorem dX5_digestSender_59 : decode cX5_digestSender 59 = .ok (.iconst 1, 1) := by decide +kernel
theorem dX5_digestSender_60 : decode cX5_digestSender 60 = .ok (.invokevirtual 282, 3) := by decide +kernel
theorem dX5_digestSender_63 : decode cX5_digestSender 63 = .ok (.ladd, 1) := by decide +kernel
theorem dX5_digestSender_64 : decode cX5_digestSender 64 = .ok (.lstore 4, 2) := by decide +kernel
theorem dX5_digestSender_66 : decode cX5_digestSender 66 = .ok (.ldc2_w 249, 3) := by decide +kernel
theorem dX5_digestSender_69 : decode cX5_digestSender 69 = .ok (.lload 4, 2) := by decide +kernel
theorem dX5_digestSender_71 : decode cX5_digestSender 71 = .ok (.lmul, 1) := by decide +kernel
theorem dX5_digestSender_72 : decode cX5_digestSender 72 = .ok (.aload_n 0, 1) := by decide +kernel
theorem dX5_digestSender_73 : decode cX5_digestSender 73 = .ok (.iload_n 3, 1) := by decide +kernel
theorem dX5_digestSender_74 : decode cX5_digestSender 74 = .ok (.iconst 0, 1) := by decide +kernel
theorem dX5_digestSender_75 : decode cX5_digestSender 75 = .ok (.invokevirtual 286, 3) := by decide +kernel
theorem dX5_digestSender_78 : decode cX5_digestSender 78 = .ok (.ladd, 1) := by decide +kernel
theorem dX5_digestSender_79 : decode cX5_digestSender 79 = .ok (.lstore 4, 2) := by decide +kernel
theorem dX5_digestSender_81 : decode cX5_digestSender 81 = .ok (.ldc2_w 249, 3) := by decide +kernel
theorem dX5_digestSender_84 : decode cX5_digestSender 84 = .ok (.lload 4, 2) := by decide +kernel
theorem dX5_digestSender_86 : decode cX5_digestSender 86 = .ok (.lmul, 1) := by decide +kernel
theorem dX5_digestSender_87 : decode cX5_digestSender 87 = .ok (.aload_n 0, 1) := by decide +kernel
theorem dX5_digestSender_88 : decode cX5_digestSender 88 = .ok (.iload_n 3, 1) := by decide +kernel
theorem dX5_digestSender_89 : decode cX5_digestSender 89 = .ok (.iconst 1, 1) := by decide +kernel
theorem dX5_digestSender_90 : decode cX5_digestSender 90 = .ok (.invokevirtual 286, 3) := by decide +kernel
theorem dX5_digestSender_93 : decode cX5_digestSender 93 = .ok (.ladd, 1) := by decide +kernel
theorem dX5_digestSender_94 : decode cX5_digestSender 94 = .ok (.lstore 4, 2) := by decide +kernel
theorem dX5_digestSender_96 : decode cX5_digestSender 96 = .ok (.ldc2_w 249, 3) := by decide +kernel
theorem dX5_digestSender_99 : decode cX5_digestSender 99 = .ok (.lload 4, 2) := by decide +kernel
theorem dX5_digestSender_101 : decode cX5_digestSender 101 = .ok (.lmul, 1) := by decide +kernel
theorem dX5_digestSender_102 : decode cX5_digestSender 102 = .ok (.aload_n 0, 1) := by decide +kernel
theorem dX5_digestSender_103 : decode cX5_digestSender 103 = .ok (.getfield 28, 3) := by decide +kernel
theorem dX5_digestSender_106 : decode cX5_digestSender 106 = .ok (.getfield 178, 3) := by decide +kernel
theorem dX5_digestSender_109 : decode cX5_digestSender 109 = .ok (.iload_n 3, 1) := by decide +kernel
theorem dX5_digestSender_110 : decode cX5_digestSender 110 = .ok (.iaload, 1) := by decide +kernel
theorem dX5_digestSender_111 : decode cX5_digestSender 111 = .ok (.i2l, 1) := by decide +kernel
theorem dX5_digestSender_112 : decode cX5_digestSender 112 = .ok (.ladd, 1) := by decide +kernel
theorem dX5_digestSender_113 : decode cX5_digestSender 113 = .ok (.lstore 4, 2) := by decide +kernel
theorem dX5_digestSender_115 : decode cX5_digestSender 115 = .ok (.iconst 0, 1) := by decide +kernel
theorem dX5_digestSender_116 : decode cX5_digestSender 116 = .ok (.istore 6, 2) := by decide +kernel
theorem dX5_digestSender_118 : decode cX5_digestSender 118 = .ok (.iload 6, 2) := by decide +kernel
theorem dX5_digestSender_120 : decode cX5_digestSender 120 = .ok (.aload_n 0, 1) := by decide +kernel
theorem dX5_digestSender_121 : decode cX5_digestSender 121 = .ok (.getfield 10, 3) := by decide +kernel
theorem dX5_digestSender_124 : decode cX5_digestSender 124 = .ok (.getfield 50, 3) := by decide +kernel
theorem dX5_digestSender_127 : decode cX5_digestSender 127 = .ok (.if_icmp .ge 29, 3) := by decide +kernel
theorem dX5_digestSender_130 : decode cX5_digestSender 130 = .ok (.ldc2_w 249, 3) := by decide +kernel
theorem dX5_digestSender_133 : decode cX5_digestSender 133 = .ok (.lload 4, 2) := by decide +kernel
theorem dX5_digestSender_135 : decode cX5_digestSender 135 = .ok (.lmul, 1) := by decide +kernel
theorem dX5_digestSender_136 : decode cX5_digestSender 136 = .ok (.aload_n 0, 1) := by decide +kernel
theorem dX5_digestSender_137 : decode cX5_digestSender 137 = .ok (.getfield 10, 3) := by decide +kernel
theorem dX5_digestSender_140 : decode cX5_digestSender 140 = .ok (.iload_n 3, 1) := by decide +kernel
theorem dX5_digestSender_141 : decode cX5_digestSender 141 = .ok (.iload 6, 2) := by decide +kernel
theorem dX5_digestSender_143 : decode cX5_digestSender 143 = .ok (.invokevirtual 61, 3) := by decide +kernel
theorem dX5_digestSender_146 : decode cX5_digestSender 146 = .ok (.i2l, 1) := by decide +kernel
theorem dX5_digestSender_147 : decode cX5_digestSender 147 = .ok (.ladd, 1) := by decide +kernel
theorem dX5_digestSender_148 : decode cX5_digestSender 148 = .ok (.lstore 4, 2) := by decide +kernel
theorem dX5_digestSender_150 : decode cX5_digestSender 150 = .ok (.iinc 6 1, 3) := by decide +kernel
theorem dX5_digestSender_153 : decode cX5_digestSender 153 = .ok (.goto (-35), 3) := by decide +kernel
theorem dX5_digestSender_156 : decode cX5_digestSender 156 = .ok (.lload 4, 2) := by decide +kernel
theorem dX5_digestSender_158 : decode cX5_digestSender 158 = .ok (.lreturn, 1) := by decide +kernel
theorem dX5_readGains_0 : decode cX5_readGains 0 = .ok (.iconst 0, 1) := by decide +kernel
theorem dX5_readGains_1 : decode cX5_readGains 1 = .ok (.istore_n 2, 1) := by decide +kernel
theorem dX5_readGains_2 : decode cX5_readGains 2 = .ok (.iconst 0, 1) := by decide +kernel
theorem dX5_readGains_3 : decode cX5_readGains 3 = .ok (.istore_n 3, 1) := by decide +kernel
theorem dX5_readGains_4 : decode cX5_readGains 4 = .ok (.iload_n 3, 1) := by decide +kernel
theorem dX5_readGains_5 : decode cX5_readGains 5 = .ok (.aload_n 0, 1) := by decide +kernel
theorem dX5_readGains_6 : decode cX5_readGains 6 = .ok (.getfield 10, 3) := by decide +kernel
theorem dX5_readGains_9 : decode cX5_readGains 9 = .ok (.getfield 50, 3) := by decide +kernel
theorem dX5_readGains_12 : decode cX5_readGains 12 = .ok (.if_icmp .ge 74, 3) := by decide +kernel
theorem dX5_readGains_15 : decode cX5_readGains 15 = .ok (.iconst 0, 1) := by decide +kernel
theorem dX5_readGains_16 : decode cX5_readGains 16 = .ok (.istore 4, 2) := by decide +kernel
theorem dX5_readGains_18 : decode cX5_readGains 18 = .ok (.iload 4, 2) := by decide +kernel
theorem dX5_readGains_20 : decode cX5_readGains 20 = .ok (.aload_n 0, 1) := by decide +kernel
theorem dX5_readGains_21 : decode cX5_readGains 21 = .ok (.getfield 10, 3) := by decide +kernel
theorem dX5_readGains_24 : decode cX5_readGains 24 = .ok (.getfield 50, 3) := by decide +kernel
theorem dX5_readGains_27 : decode cX5_readGains 27 = .ok (.if_icmp .ge 53, 3) := by decide +kernel
theorem dX5_readGains_30 : decode cX5_readGains 30 = .ok (.iload_n 2, 1) := by decide +kernel
theorem dX5_readGains_31 : decode cX5_readGains 31 = .ok (.aload_n 1, 1) := by decide +kernel
theorem dX5_readGains_32 : decode cX5_readGains 32 = .ok (.getfield 197, 3) := by decide +kernel
theorem dX5_readGains_35 : decode cX5_readGains 35 = .ok (.if_icmp .ge 18, 3) := by decide +kernel
theorem dX5_readGains_38 : decode cX5_readGains 38 = .ok (.iload_n 3, 1) := by decide +kernel
theorem dX5_readGains_39 : decode cX5_readGains 39 = .ok (.iload 4, 2) := by decide +kernel
theorem dX5_readGains_41 : decode cX5_readGains 41 = .ok (.aload_n 1, 1) := by decide +kernel
theorem dX5_readGains_42 : decode cX5_readGains 42 = .ok (.getfield 208, 3) := by decide +kernel
theorem dX5_readGains_45 : decode cX5_readGains 45 = .ok (.iload_n 2, 1) := by decide +kernel
theorem dX5_readGains_46 : decode cX5_readGains 46 = .ok (.iaload, 1) := by decide +kernel
theorem dX5_readGains_47 : decode cX5_readGains 47 = .ok (.invokestatic 57, 3) := by decide +kernel
theorem dX5_readGains_50 : decode cX5_readGains 50 = .ok (.ifCond .ne 5, 3) := by decide +kernel
theorem dX5_readGains_53 : decode cX5_readGains 53 = .ok (.iload_n 2, 1) := by decide +kernel
theorem dX5_readGains_54 : decode cX5_readGains 54 = .ok (.ireturn, 1) := by decide +kernel
theorem dX5_readGains_55 : decode cX5_readGains 55 = .ok (.aload_n 0, 1) := by decide +kernel
theorem dX5_readGains_56 : decode cX5_readGains 56 = .ok (.getfield 10, 3) := by decide +kernel
theorem dX5_readGains_59 : decode cX5_readGains 59 = .ok (.iload_n 3, 1) := by decide +kernel
theorem dX5_readGains_60 : decode cX5_readGains 60 = .ok (.iload 4, 2) := by decide +kernel
theorem dX5_readGains_62 : decode cX5_readGains 62 = .ok (.aload_n 1, 1) := by decide +kernel
theorem dX5_readGains_63 : decode cX5_readGains 63 = .ok (.getfield 208, 3) := by decide +kernel
theorem dX5_readGains_66 : decode cX5_readGains 66 = .ok (.iload_n 2, 1) := by decide +kernel
theorem dX5_readGains_67 : decode cX5_readGains 67 = .ok (.iaload, 1) := by decide +kernel
theorem dX5_readGains_68 : decode cX5_readGains 68 = .ok (.invokevirtual 65, 3) := by decide +kernel
theorem dX5_readGains_71 : decode cX5_readGains 71 = .ok (.iinc 2 1, 3) := by decide +kernel
theorem dX5_readGains_74 : decode cX5_readGains 74 = .ok (.iinc 4 1, 3) := by decide +kernel
theorem dX5_readGains_77 : decode cX5_readGains 77 = .ok (.goto (-59), 3) := by decide +kernel
theorem dX5_readGains_80 : decode cX5_readGains 80 = .ok (.iinc 3 1, 3) := by decide +kernel
theorem dX5_readGains_83 : decode cX5_readGains 83 = .ok (.goto (-79), 3) := by decide +kernel
theorem dX5_readGains_86 : decode cX5_readGains 86 = .ok (.iload_n 2, 1) := by decide +kernel
theorem dX5_readGains_87 : decode cX5_readGains 87 = .ok (.ireturn, 1) := by decide +kernel
theorem dX5_stepsOfText_0 : decode cX5_stepsOfText 0 = .ok (.iconst 0, 1) := by decide +kernel
theorem dX5_stepsOfText_1 : decode cX5_stepsOfText 1 = .ok (.istore_n 1, 1) := by decide +kernel
theorem dX5_stepsOfText_2 : decode cX5_stepsOfText 2 = .ok (.iconst 0, 1) := by decide +kernel
theorem dX5_stepsOfText_3 : decode cX5_stepsOfText 3 = .ok (.istore_n 2, 1) := by decide +kernel
theorem dX5_stepsOfText_4 : decode cX5_stepsOfText 4 = .ok (.iload_n 2, 1) := by decide +kernel
theorem dX5_stepsOfText_5 : decode cX5_stepsOfText 5 = .ok (.aload_n 0, 1) := by decide +kernel
theorem dX5_stepsOfText_6 : decode cX5_stepsOfText 6 = .ok (.getfield 35, 3) := by decide +kernel
theorem dX5_stepsOfText_9 : decode cX5_stepsOfText 9 = .ok (.getfield 99, 3) := by decide +kernel
theorem dX5_stepsOfText_12 : decode cX5_stepsOfText 12 = .ok (.if_icmp .ge 57, 3) := by decide +kernel
theorem dX5_stepsOfText_15 : decode cX5_stepsOfText 15 = .ok (.aload_n 0, 1) := by decide +kernel
theorem dX5_stepsOfText_16 : decode cX5_stepsOfText 16 = .ok (.getfield 35, 3) := by decide +kernel
theorem dX5_stepsOfText_19 : decode cX5_stepsOfText 19 = .ok (.getfield 289, 3) := by decide +kernel
theorem dX5_stepsOfText_22 : decode cX5_stepsOfText 22 = .ok (.iload_n 2, 1) := by decide +kernel
theorem dX5_stepsOfText_23 : decode cX5_stepsOfText 23 = .ok (.iaload, 1) := by decide +kernel
theorem dX5_stepsOfText_24 : decode cX5_stepsOfText 24 = .ok (.bipush 97, 2) := by decide +kernel
theorem dX5_stepsOfText_26 : decode cX5_stepsOfText 26 = .ok (.isub, 1) := by decide +kernel
theorem dX5_stepsOfText_27 : decode cX5_stepsOfText 27 = .ok (.istore_n 3, 1) := by decide +kernel
theorem dX5_stepsOfText_28 : decode cX5_stepsOfText 28 = .ok (.aload_n 0, 1) := by decide +kernel
theorem dX5_stepsOfText_29 : decode cX5_stepsOfText 29 = .ok (.getfield 10, 3) := by decide +kernel
theorem dX5_stepsOfText_32 : decode cX5_stepsOfText 32 = .ok (.getfield 90, 3) := by decide +kernel
theorem dX5_stepsOfText_35 : decode cX5_stepsOfText 35 = .ok (.iload_n 3, 1) := by decide +kernel
theorem dX5_stepsOfText_36 : decode cX5_stepsOfText 36 = .ok (.iaload, 1) := by decide +kernel
theorem dX5_stepsOfText_37 : decode cX5_stepsOfText 37 = .ok (.istore 4, 2) := by decide +kernel
theorem dX5_stepsOfText_39 : decode cX5_stepsOfText 39 = .ok (.aload_n 0, 1) := by decide +kernel
theorem dX5_stepsOfText_40 : decode cX5_stepsOfText 40 = .ok (.getfield 10, 3) := by decide +kernel
theorem dX5_stepsOfText_43 : decode cX5_stepsOfText 43 = .ok (.iload_n 3, 1) := by decide +kernel
theorem dX5_stepsOfText_44 : decode cX5_stepsOfText 44 = .ok (.invokevirtual 113, 3) := by decide +kernel
theorem dX5_stepsOfText_47 : decode cX5_stepsOfText 47 = .ok (.ifCond .eq 16, 3) := by decide +kernel
theorem dX5_stepsOfText_50 : decode cX5_stepsOfText 50 = .ok (.aload_n 0, 1) := by decide +kernel
theorem dX5_stepsOfText_51 : decode cX5_stepsOfText 51 = .ok (.iload_n 3, 1) := by decide +kernel
theorem dX5_stepsOfText_52 : decode cX5_stepsOfText 52 = .ok (.invokevirtual 292, 3) := by decide +kernel
theorem dX5_stepsOfText_55 : decode cX5_stepsOfText 55 = .ok (.iload 4, 2) := by decide +kernel
theorem dX5_stepsOfText_57 : decode cX5_stepsOfText 57 = .ok (.if_icmp .eq 6, 3) := by decide +kernel
theorem dX5_stepsOfText_60 : decode cX5_stepsOfText 60 = .ok (.iinc 1 1, 3) := by decide +kernel
theorem dX5_stepsOfText_63 : decode cX5_stepsOfText 63 = .ok (.iinc 2 1, 3) := by decide +kernel
theorem dX5_stepsOfText_66 : decode cX5_stepsOfText 66 = .ok (.goto (-62), 3) := by decide +kernel
theorem dX5_stepsOfText_69 : decode cX5_stepsOfText 69 = .ok (.iload_n 1, 1) := by decide +kernel
theorem dX5_stepsOfText_70 : decode cX5_stepsOfText 70 = .ok (.ireturn, 1) := by decide +kernel
theorem dX5_refusalOfSheet_0 : decode cX5_refusalOfSheet 0 = .ok (.iload_n 1, 1) := by decide +kernel
theorem dX5_refusalOfSheet_1 : decode cX5_refusalOfSheet 1 = .ok (.invokestatic 184, 3) := by decide +kernel
theorem dX5_refusalOfSheet_4 : decode cX5_refusalOfSheet 4 = .ok (.ifCond .ne 6, 3) := by decide +kernel
theorem dX5_refusalOfSheet_7 : decode cX5_refusalOfSheet 7 = .ok (.bipush (-2), 2) := by decide +kernel
theorem dX5_refusalOfSheet_9 : decode cX5_refusalOfSheet 9 = .ok (.ireturn, 1) := by decide +kernel
theorem dX5_refusalOfSheet_10 : decode cX5_refusalOfSheet 10 = .ok (.aload_n 0, 1) := by decide +kernel
theorem dX5_refusalOfSheet_11 : decode cX5_refusalOfSheet 11 = .ok (.getfield 41, 3) := by decide +kernel
theorem dX5_refusalOfSheet_14 : decode cX5_refusalOfSheet 14 = .ok (.iload_n 1, 1) := by decide +kernel
theorem dX5_refusalOfSheet_15 : decode cX5_refusalOfSheet 15 = .ok (.aaload, 1) := by decide +kernel
theorem dX5_refusalOfSheet_16 : decode cX5_refusalOfSheet 16 = .ok (.invokevirtual 211, 3) := by decide +kernel
theorem dX5_refusalOfSheet_19 : decode cX5_refusalOfSheet 19 = .ok (.ifCond .eq 11, 3) := by decide +kernel
theorem dX5_refusalOfSheet_22 : decode cX5_refusalOfSheet 22 = .ok (.aload_n 0, 1) := by decide +kernel
theorem dX5_refusalOfSheet_23 : decode cX5_refusalOfSheet 23 = .ok (.iconst 1, 1) := by decide +kernel
theorem dX5_refusalOfSheet_24 : decode cX5_refusalOfSheet 24 = .ok (.invokevirtual 190, 3) := by decide +kernel
theorem dX5_refusalOfSheet_27 : decode cX5_refusalOfSheet 27 = .ok (.goto 4, 3) := by decide +kernel
theorem dX5_refusalOfSheet_30 : decode cX5_refusalOfSheet 30 = .ok (.iconst 0, 1) := by decide +kernel
theorem dX5_refusalOfSheet_31 : decode cX5_refusalOfSheet 31 = .ok (.ireturn, 1) := by decide +kernel
theorem dX5_refusalOfItem_0 : decode cX5_refusalOfItem 0 = .ok (.iload_n 1, 1) := by decide +kernel
theorem dX5_refusalOfItem_1 : decode cX5_refusalOfItem 1 = .ok (.invokestatic 184, 3) := by decide +kernel
theorem dX5_refusalOfItem_4 : decode cX5_refusalOfItem 4 = .ok (.ifCond .eq 10, 3) := by decide +kernel
theorem dX5_refusalOfItem_7 : decode cX5_refusalOfItem 7 = .ok (.iload_n 2, 1) := by decide +kernel
theorem dX5_refusalOfItem_8 : decode cX5_refusalOfItem 8 = .ok (.invokestatic 187, 3) := by decide +kernel
theorem dX5_refusalOfItem_11 : decode cX5_refusalOfItem 11 = .ok (.ifCond .ne 6, 3) := by decide +kernel
theorem dX5_refusalOfItem_14 : decode cX5_refusalOfItem 14 = .ok (.bipush (-2), 2) := by decide +kernel
theorem dX5_refusalOfItem_16 : decode cX5_refusalOfItem 16 = .ok (.ireturn, 1) := by decide +kernel
theorem dX5_refusalOfItem_17 : decode cX5_refusalOfItem 17 = .ok (.aload_n 0, 1) := by decide +kernel
theorem dX5_refusalOfItem_18 : decode cX5_refusalOfItem 18 = .ok (.getfield 41, 3) := by decide +kernel
theorem dX5_refusalOfItem_21 : decode cX5_refusalOfItem 21 = .ok (.iload_n 1, 1) := by decide +kernel
theorem dX5_refusalOfItem_22 : decode cX5_refusalOfItem 22 = .ok (.aaload, 1) := by decide +kernel
theorem dX5_refusalOfItem_23 : decode cX5_refusalOfItem 23 = .ok (.invokevirtual 211, 3) := by decide +kernel
theorem dX5_refusalOfItem_26 : decode cX5_refusalOfItem 26 = .ok (.ifCond .eq 9, 3) := by decide +kernel
theorem dX5_refusalOfItem_29 : decode cX5_refusalOfItem 29 = .ok (.aload_n 0, 1) := by decide +kernel
theorem dX5_refusalOfItem_30 : decode cX5_refusalOfItem 30 = .ok (.iconst 1, 1) := by decide +kernel
theorem dX5_refusalOfItem_31 : decode cX5_refusalOfItem 31 = .ok (.invokevirtual 190, 3) := by decide +kernel
theorem dX5_refusalOfItem_34 : decode cX5_refusalOfItem 34 = .ok (.ireturn, 1) := by decide +kernel
theorem dX5_refusalOfItem_35 : decode cX5_refusalOfItem 35 = .ok (.aload_n 0, 1) := by decide +kernel
theorem dX5_refusalOfItem_36 : decode cX5_refusalOfItem 36 = .ok (.getfield 41, 3) := by decide +kernel
theorem dX5_refusalOfItem_39 : decode cX5_refusalOfItem 39 = .ok (.iload_n 1, 1) := by decide +kernel
theorem dX5_refusalOfItem_40 : decode cX5_refusalOfItem 40 = .ok (.aaload, 1) := by decide +kernel
theorem dX5_refusalOfItem_41 : decode cX5_refusalOfItem 41 = .ok (.getfield 215, 3) := by decide +kernel
theorem dX5_refusalOfItem_44 : decode cX5_refusalOfItem 44 = .ok (.iload_n 2, 1) := by decide +kernel
theorem dX5_refusalOfItem_45 : decode cX5_refusalOfItem 45 = .ok (.if_icmp .eq 9, 3) := by decide +kernel
theorem dX5_refusalOfItem_48 : decode cX5_refusalOfItem 48 = .ok (.aload_n 0, 1) := by decide +kernel
theorem dX5_refusalOfItem_49 : decode cX5_refusalOfItem 49 = .ok (.iconst 3, 1) := by decide +kernel
theorem dX5_refusalOfItem_50 : decode cX5_refusalOfItem 50 = .ok (.invokevirtual 190, 3) := by decide +kernel
theorem dX5_refusalOfItem_53 : decode cX5_refusalOfItem 53 = .ok (.ireturn, 1) := by decide +kernel
theorem dX5_refusalOfItem_54 : decode cX5_refusalOfItem 54 = .ok (.aload_n 0, 1) := by decide +kernel
theorem dX5_refusalOfItem_55 : decode cX5_refusalOfItem 55 = .ok (.getfield 41, 3) := by decide +kernel
theorem dX5_refusalOfItem_58 : decode cX5_refusalOfItem 58 = .ok (.iload_n 1, 1) := by decide +kernel
theorem dX5_refusalOfItem_59 : decode cX5_refusalOfItem 59 = .ok (.aaload, 1) := by decide +kernel
theorem dX5_refusalOfItem_60 : decode cX5_refusalOfItem 60 = .ok (.iload_n 3, 1) := by decide +kernel
theorem dX5_refusalOfItem_61 : decode cX5_refusalOfItem 61 = .ok (.iconst 1, 1) := by decide +kernel
theorem dX5_refusalOfItem_62 : decode cX5_refusalOfItem 62 = .ok (.invokevirtual 218, 3) := by decide +kernel
theorem dX5_refusalOfItem_65 : decode cX5_refusalOfItem 65 = .ok (.ifCond .eq 7, 3) := by decide +kernel
theorem dX5_refusalOfItem_68 : decode cX5_refusalOfItem 68 = .ok (.iconst 0, 1) := by decide +kernel
theorem dX5_refusalOfItem_69 : decode cX5_refusalOfItem 69 = .ok (.goto 8, 3) := by decide +kernel
theorem dX5_refusalOfItem_72 : decode cX5_refusalOfItem 72 = .ok (.aload_n 0, 1) := by decide +kernel
theorem dX5_refusalOfItem_73 : decode cX5_refusalOfItem 73 = .ok (.iconst 2, 1) := by decide +kernel
theorem dX5_refusalOfItem_74 : decode cX5_refusalOfItem 74 = .ok (.invokevirtual 190, 3) := by decide +kernel
theorem dX5_refusalOfItem_77 : decode cX5_refusalOfItem 77 = .ok (.ireturn, 1) := by decide +kernel
theorem dX5_finding_0 : decode cX5_finding 0 = .ok (.aload_n 0, 1) := by decide +kernel
theorem dX5_finding_1 : decode cX5_finding 1 = .ok (.iload_n 1, 1) := by decide +kernel
theorem dX5_finding_2 : decode cX5_finding 2 = .ok (.putfield 46, 3) := by decide +kernel
theorem dX5_finding_5 : decode cX5_finding 5 = .ok (.bipush (-10), 2) := by decide +kernel
theorem dX5_finding_7 : decode cX5_finding 7 = .ok (.iload_n 1, 1) := by decide +kernel
theorem dX5_finding_8 : decode cX5_finding 8 = .ok (.isub, 1) := by decide +kernel
theorem dX5_finding_9 : decode cX5_finding 9 = .ok (.ireturn, 1) := by decide +kernel
theorem dX5_isSheet_0 : decode cX5_isSheet 0 = .ok (.iload_n 0, 1) := by decide +kernel
theorem dX5_isSheet_1 : decode cX5_isSheet 1 = .ok (.ifCond .lt 12, 3) := by decide +kernel
theorem dX5_isSheet_4 : decode cX5_isSheet 4 = .ok (.iload_n 0, 1) := by decide +kernel
theorem dX5_isSheet_5 : decode cX5_isSheet 5 = .ok (.iconst 4, 1) := by decide +kernel
theorem dX5_isSheet_6 : decode cX5_isSheet 6 = .ok (.if_icmp .ge 7, 3) := by decide +kernel
theorem dX5_isSheet_9 : decode cX5_isSheet 9 = .ok (.iconst 1, 1) := by decide +kernel
theorem dX5_isSheet_10 : decode cX5_isSheet 10 = .ok (.goto 4, 3) := by decide +kernel
theorem dX5_isSheet_13 : decode cX5_isSheet 13 = .ok (.iconst 0, 1) := by decide +kernel
theorem dX5_isSheet_14 : decode cX5_isSheet 14 = .ok (.ireturn, 1) := by decide +kernel
theorem dX5_isForm_0 : decode cX5_isForm 0 = .ok (.iload_n 0, 1) := by decide +kernel
theorem dX5_isForm_1 : decode cX5_isForm 1 = .ok (.ifCond .lt 12, 3) := by decide +kernel
theorem dX5_isForm_4 : decode cX5_isForm 4 = .ok (.iload_n 0, 1) := by decide +kernel
theorem dX5_isForm_5 : decode cX5_isForm 5 = .ok (.iconst 3, 1) := by decide +kernel
theorem dX5_isForm_6 : decode cX5_isForm 6 = .ok (.if_icmp .ge 7, 3) := by decide +kernel
theorem dX5_isForm_9 : decode cX5_isForm 9 = .ok (.iconst 1, 1) := by decide +kernel
theorem dX5_isForm_10 : decode cX5_isForm 10 = .ok (.goto 4, 3) := by decide +kernel
theorem dX5_isForm_13 : decode cX5_isForm 13 = .ok (.iconst 0, 1) := by decide +kernel
theorem dX5_isForm_14 : decode cX5_isForm 14 = .ok (.ireturn, 1) := by decide +kernel
theorem dX5_exchange_0 : decode cX5_exchange 0 = .ok (.iload_n 2, 1) := by decide +kernel
theorem dX5_exchange_1 : decode cX5_exchange 1 = .ok (.iload_n 3, 1) := by decide +kernel
theorem dX5_exchange_2 : decode cX5_exchange 2 = .ok (.if_icmp .lt 9, 3) := by decide +kernel
theorem dX5_exchange_5 : decode cX5_exchange 5 = .ok (.iload_n 2, 1) := by decide +kernel
theorem dX5_exchange_6 : decode cX5_exchange 6 = .ok (.iload 4, 2) := by decide +kernel
theorem dX5_exchange_8 : decode cX5_exchange 8 = .ok (.if_icmp .le 6, 3) := by decide +kernel
theorem dX5_exchange_11 : decode cX5_exchange 11 = .ok (.bipush (-2), 2) := by decide +kernel
theorem dX5_exchange_13 : decode cX5_exchange 13 = .ok (.ireturn, 1) := by decide +kernel
theorem dX5_exchange_14 : decode cX5_exchange 14 = .ok (.aload_n 0, 1) := by decide +kernel
theorem dX5_exchange_15 : decode cX5_exchange 15 = .ok (.iload_n 1, 1) := by decide +kernel
theorem dX5_exchange_16 : decode cX5_exchange 16 = .ok (.iaload, 1) := by decide +kernel
theorem dX5_exchange_17 : decode cX5_exchange 17 = .ok (.istore 5, 2) := by decide +kernel
theorem dX5_exchange_19 : decode cX5_exchange 19 = .ok (.aload_n 0, 1) := by decide +kernel
theorem dX5_exchange_20 : decode cX5_exchange 20 = .ok (.iload_n 1, 1) := by decide +kernel
theorem dX5_exchange_21 : decode cX5_exchange 21 = .ok (.iload_n 2, 1) := by decide +kernel
theorem dX5_exchange_22 : decode cX5_exchange 22 = .ok (.iastore, 1) := by decide +kernel
theorem dX5_exchange_23 : decode cX5_exchange 23 = .ok (.iload 5, 2) := by decide +kernel
theorem dX5_exchange_25 : decode cX5_exchange 25 = .ok (.ireturn, 1) := by decide +kernel
theorem dX5_asLong_0 : decode cX5_asLong 0 = .ok (.ldc2_w 295, 3) := by decide +kernel
theorem dX5_asLong_3 : decode cX5_asLong 3 = .ok (.iload_n 0, 1) := by decide +kernel
theorem dX5_asLong_4 : decode cX5_asLong 4 = .ok (.i2l, 1) := by decide +kernel
theorem dX5_asLong_5 : decode cX5_asLong 5 = .ok (.lsub, 1) := by decide +kernel
theorem dX5_asLong_6 : decode cX5_asLong 6 = .ok (.lreturn, 1) := by decide +kernel
theorem dX5_lowestTerm_0 : decode cX5_lowestTerm 0 = .ok (.lload_n 0, 1) := by decide +kernel
theorem dX5_lowestTerm_1 : decode cX5_lowestTerm 1 = .ok (.lload_n 2, 1) := by decide +kernel
theorem dX5_lowestTerm_2 : decode cX5_lowestTerm 2 = .ok (.invokestatic 297, 3) := by decide +kernel
theorem dX5_lowestTerm_5 : decode cX5_lowestTerm 5 = .ok (.lstore 5, 2) := by decide +kernel
theorem dX5_lowestTerm_7 : decode cX5_lowestTerm 7 = .ok (.iload 4, 2) := by decide +kernel
theorem dX5_lowestTerm_9 : decode cX5_lowestTerm 9 = .ok (.ifCond .ne 7, 3) := by decide +kernel
theorem dX5_lowestTerm_12 : decode cX5_lowestTerm 12 = .ok (.lload_n 0, 1) := by decide +kernel
theorem dX5_lowestTerm_13 : decode cX5_lowestTerm 13 = .ok (.goto 4, 3) := by decide +kernel
theorem dX5_lowestTerm_16 : decode cX5_lowestTerm 16 = .ok (.lload_n 2, 1) := by decide +kernel
theorem dX5_lowestTerm_17 : decode cX5_lowestTerm 17 = .ok (.lload 5, 2) := by decide +kernel
theorem dX5_lowestTerm_19 : decode cX5_lowestTerm 19 = .ok (.ldiv, 1) := by decide +kernel
theorem dX5_lowestTerm_20 : decode cX5_lowestTerm 20 = .ok (.lreturn, 1) := by decide +kernel
theorem dX5_commonDivisor_0 : decode cX5_commonDivisor 0 = .ok (.lload_n 0, 1) := by decide +kernel
theorem dX5_commonDivisor_1 : decode cX5_commonDivisor 1 = .ok (.lstore 4, 2) := by decide +kernel
theorem dX5_commonDivisor_3 : decode cX5_commonDivisor 3 = .ok (.lload_n 2, 1) := by decide +kernel
theorem dX5_commonDivisor_4 : decode cX5_commonDivisor 4 = .ok (.lstore 6, 2) := by decide +kernel
theorem dX5_commonDivisor_6 : decode cX5_commonDivisor 6 = .ok (.iconst 0, 1) := by decide +kernel
theorem dX5_commonDivisor_7 : decode cX5_commonDivisor 7 = .ok (.istore 8, 2) := by decide +kernel
theorem dX5_commonDivisor_9 : decode cX5_commonDivisor 9 = .ok (.iload 8, 2) := by decide +kernel
theorem dX5_commonDivisor_11 : decode cX5_commonDivisor 11 = .ok (.bipush 100, 2) := by decide +kernel
theorem dX5_commonDivisor_13 : decode cX5_commonDivisor 13 = .ok (.if_icmp .ge 31, 3) := by decide +kernel
theorem dX5_commonDivisor_16 : decode cX5_commonDivisor 16 = .ok (.lload 6, 2) := by decide +kernel
theorem dX5_commonDivisor_18 : decode cX5_commonDivisor 18 = .ok (.lconst 0, 1) := by decide +kernel
theorem dX5_commonDivisor_19 : decode cX5_commonDivisor 19 = .ok (.lcmp, 1) := by decide +kernel
theorem dX5_commonDivisor_20 : decode cX5_commonDivisor 20 = .ok (.ifCond .eq 24, 3) := by decide +kernel
theorem dX5_commonDivisor_23 : decode cX5_commonDivisor 23 = .ok (.lload 4, 2) := by decide +kernel
theorem dX5_commonDivisor_25 : decode cX5_commonDivisor 25 = .ok (.lload 6, 2) := by decide +kernel
theorem dX5_commonDivisor_27 : decode cX5_commonDivisor 27 = .ok (.lrem, 1) := by decide +kernel
theorem dX5_commonDivisor_28 : decode cX5_commonDivisor 28 = .ok (.lstore 9, 2) := by decide +kernel
theorem dX5_commonDivisor_30 : decode cX5_commonDivisor 30 = .ok (.lload 6, 2) := by decide +kernel
theorem dX5_commonDivisor_32 : decode cX5_commonDivisor 32 = .ok (.lstore 4, 2) := by decide +kernel
theorem dX5_commonDivisor_34 : decode cX5_commonDivisor 34 = .ok (.lload 9, 2) := by decide +kernel
theorem dX5_commonDivisor_36 : decode cX5_commonDivisor 36 = .ok (.lstore 6, 2) := by decide +kernel
theorem dX5_commonDivisor_38 : decode cX5_commonDivisor 38 = .ok (.iinc 8 1, 3) := by decide +kernel
theorem dX5_commonDivisor_41 : decode cX5_commonDivisor 41 = .ok (.goto (-32), 3) := by decide +kernel
theorem dX5_commonDivisor_44 : decode cX5_commonDivisor 44 = .ok (.lload 4, 2) := by decide +kernel
theorem dX5_commonDivisor_46 : decode cX5_commonDivisor 46 = .ok (.lconst 1, 1) := by decide +kernel
theorem dX5_commonDivisor_47 : decode cX5_commonDivisor 47 = .ok (.invokestatic 301, 3) := by decide +kernel
theorem dX5_commonDivisor_50 : decode cX5_commonDivisor 50 = .ok (.lreturn, 1) := by decide +kernel
