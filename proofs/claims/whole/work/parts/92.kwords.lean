/-! the constructors' code, decoded; the words of the tables that they need -/
set_option maxRecDepth 100000
theorem kd_Who_0 : decode prog_1_method_1_code 0 = .ok (.aload_n 0, 1) := by decide +kernel
theorem kd_Who_1 : decode prog_1_method_1_code 1 = .ok (.invokespecial 3, 3) := by decide +kernel
theorem kd_Who_4 : decode prog_1_method_1_code 4 = .ok (.aload_n 0, 1) := by decide +kernel
theorem kd_Who_5 : decode prog_1_method_1_code 5 = .ok (.new 9, 3) := by decide +kernel
theorem kd_Who_8 : decode prog_1_method_1_code 8 = .ok (.dup, 1) := by decide +kernel
theorem kd_Who_9 : decode prog_1_method_1_code 9 = .ok (.invokespecial 11, 3) := by decide +kernel
theorem kd_Who_12 : decode prog_1_method_1_code 12 = .ok (.putfield 12, 3) := by decide +kernel
theorem kd_Who_15 : decode prog_1_method_1_code 15 = .ok (.aload_n 0, 1) := by decide +kernel
theorem kd_Who_16 : decode prog_1_method_1_code 16 = .ok (.new 18, 3) := by decide +kernel
theorem kd_Who_19 : decode prog_1_method_1_code 19 = .ok (.dup, 1) := by decide +kernel
theorem kd_Who_20 : decode prog_1_method_1_code 20 = .ok (.invokespecial 20, 3) := by decide +kernel
theorem kd_Who_23 : decode prog_1_method_1_code 23 = .ok (.putfield 21, 3) := by decide +kernel
theorem kd_Who_26 : decode prog_1_method_1_code 26 = .ok (.aload_n 0, 1) := by decide +kernel
theorem kd_Who_27 : decode prog_1_method_1_code 27 = .ok (.new 25, 3) := by decide +kernel
theorem kd_Who_30 : decode prog_1_method_1_code 30 = .ok (.dup, 1) := by decide +kernel
theorem kd_Who_31 : decode prog_1_method_1_code 31 = .ok (.invokespecial 27, 3) := by decide +kernel
theorem kd_Who_34 : decode prog_1_method_1_code 34 = .ok (.putfield 28, 3) := by decide +kernel
theorem kd_Who_37 : decode prog_1_method_1_code 37 = .ok (.return_, 1) := by decide +kernel
theorem kd_Told_0 : decode prog_8_method_1_code 0 = .ok (.aload_n 0, 1) := by decide +kernel
theorem kd_Told_1 : decode prog_8_method_1_code 1 = .ok (.invokespecial 3, 3) := by decide +kernel
theorem kd_Told_4 : decode prog_8_method_1_code 4 = .ok (.aload_n 0, 1) := by decide +kernel
theorem kd_Told_5 : decode prog_8_method_1_code 5 = .ok (.iconst 3, 1) := by decide +kernel
theorem kd_Told_6 : decode prog_8_method_1_code 6 = .ok (.newarray .int, 2) := by decide +kernel
theorem kd_Told_8 : decode prog_8_method_1_code 8 = .ok (.putfield 9, 3) := by decide +kernel
theorem kd_Told_11 : decode prog_8_method_1_code 11 = .ok (.aload_n 0, 1) := by decide +kernel
theorem kd_Told_12 : decode prog_8_method_1_code 12 = .ok (.iconst 3, 1) := by decide +kernel
theorem kd_Told_13 : decode prog_8_method_1_code 13 = .ok (.newarray .int, 2) := by decide +kernel
theorem kd_Told_15 : decode prog_8_method_1_code 15 = .ok (.putfield 15, 3) := by decide +kernel
theorem kd_Told_18 : decode prog_8_method_1_code 18 = .ok (.aload_n 0, 1) := by decide +kernel
theorem kd_Told_19 : decode prog_8_method_1_code 19 = .ok (.bipush 13, 2) := by decide +kernel
theorem kd_Told_21 : decode prog_8_method_1_code 21 = .ok (.anewarray 18, 3) := by decide +kernel
theorem kd_Told_24 : decode prog_8_method_1_code 24 = .ok (.putfield 20, 3) := by decide +kernel
theorem kd_Told_27 : decode prog_8_method_1_code 27 = .ok (.aload_n 0, 1) := by decide +kernel
theorem kd_Told_28 : decode prog_8_method_1_code 28 = .ok (.bipush 12, 2) := by decide +kernel
theorem kd_Told_30 : decode prog_8_method_1_code 30 = .ok (.newarray .int, 2) := by decide +kernel
theorem kd_Told_32 : decode prog_8_method_1_code 32 = .ok (.putfield 24, 3) := by decide +kernel
theorem kd_Told_35 : decode prog_8_method_1_code 35 = .ok (.aload_n 0, 1) := by decide +kernel
theorem kd_Told_36 : decode prog_8_method_1_code 36 = .ok (.bipush 6, 2) := by decide +kernel
theorem kd_Told_38 : decode prog_8_method_1_code 38 = .ok (.newarray .int, 2) := by decide +kernel
theorem kd_Told_40 : decode prog_8_method_1_code 40 = .ok (.putfield 27, 3) := by decide +kernel
theorem kd_Told_43 : decode prog_8_method_1_code 43 = .ok (.aload_n 0, 1) := by decide +kernel
theorem kd_Told_44 : decode prog_8_method_1_code 44 = .ok (.bipush 10, 2) := by decide +kernel
theorem kd_Told_46 : decode prog_8_method_1_code 46 = .ok (.newarray .int, 2) := by decide +kernel
theorem kd_Told_48 : decode prog_8_method_1_code 48 = .ok (.putfield 30, 3) := by decide +kernel
theorem kd_Told_51 : decode prog_8_method_1_code 51 = .ok (.iconst 0, 1) := by decide +kernel
theorem kd_Told_52 : decode prog_8_method_1_code 52 = .ok (.istore_n 1, 1) := by decide +kernel
theorem kd_Told_53 : decode prog_8_method_1_code 53 = .ok (.iload_n 1, 1) := by decide +kernel
theorem kd_Told_54 : decode prog_8_method_1_code 54 = .ok (.aload_n 0, 1) := by decide +kernel
theorem kd_Told_55 : decode prog_8_method_1_code 55 = .ok (.getfield 20, 3) := by decide +kernel
theorem kd_Told_58 : decode prog_8_method_1_code 58 = .ok (.arraylength, 1) := by decide +kernel
theorem kd_Told_59 : decode prog_8_method_1_code 59 = .ok (.if_icmp .ge 22, 3) := by decide +kernel
theorem kd_Told_62 : decode prog_8_method_1_code 62 = .ok (.aload_n 0, 1) := by decide +kernel
theorem kd_Told_63 : decode prog_8_method_1_code 63 = .ok (.getfield 20, 3) := by decide +kernel
theorem kd_Told_66 : decode prog_8_method_1_code 66 = .ok (.iload_n 1, 1) := by decide +kernel
theorem kd_Told_67 : decode prog_8_method_1_code 67 = .ok (.new 18, 3) := by decide +kernel
theorem kd_Told_70 : decode prog_8_method_1_code 70 = .ok (.dup, 1) := by decide +kernel
theorem kd_Told_71 : decode prog_8_method_1_code 71 = .ok (.invokespecial 33, 3) := by decide +kernel
theorem kd_Told_74 : decode prog_8_method_1_code 74 = .ok (.aastore, 1) := by decide +kernel
theorem kd_Told_75 : decode prog_8_method_1_code 75 = .ok (.iinc 1 1, 3) := by decide +kernel
theorem kd_Told_78 : decode prog_8_method_1_code 78 = .ok (.goto (-25), 3) := by decide +kernel
theorem kd_Told_81 : decode prog_8_method_1_code 81 = .ok (.getstatic 34, 3) := by decide +kernel
theorem kd_Told_84 : decode prog_8_method_1_code 84 = .ok (.iconst 0, 1) := by decide +kernel
theorem kd_Told_85 : decode prog_8_method_1_code 85 = .ok (.aload_n 0, 1) := by decide +kernel
theorem kd_Told_86 : decode prog_8_method_1_code 86 = .ok (.getfield 27, 3) := by decide +kernel
theorem kd_Told_89 : decode prog_8_method_1_code 89 = .ok (.iconst 0, 1) := by decide +kernel
theorem kd_Told_90 : decode prog_8_method_1_code 90 = .ok (.bipush 6, 2) := by decide +kernel
theorem kd_Told_92 : decode prog_8_method_1_code 92 = .ok (.invokestatic 37, 3) := by decide +kernel
theorem kd_Told_95 : decode prog_8_method_1_code 95 = .ok (.return_, 1) := by decide +kernel
theorem kd_Keeper_0 : decode prog_4_method_1_code 0 = .ok (.aload_n 0, 1) := by decide +kernel
theorem kd_Keeper_1 : decode prog_4_method_1_code 1 = .ok (.invokespecial 3, 3) := by decide +kernel
theorem kd_Keeper_4 : decode prog_4_method_1_code 4 = .ok (.aload_n 0, 1) := by decide +kernel
theorem kd_Keeper_5 : decode prog_4_method_1_code 5 = .ok (.iconst 4, 1) := by decide +kernel
theorem kd_Keeper_6 : decode prog_4_method_1_code 6 = .ok (.anewarray 9, 3) := by decide +kernel
theorem kd_Keeper_9 : decode prog_4_method_1_code 9 = .ok (.putfield 11, 3) := by decide +kernel
theorem kd_Keeper_12 : decode prog_4_method_1_code 12 = .ok (.aload_n 0, 1) := by decide +kernel
theorem kd_Keeper_13 : decode prog_4_method_1_code 13 = .ok (.iconst 4, 1) := by decide +kernel
theorem kd_Keeper_14 : decode prog_4_method_1_code 14 = .ok (.anewarray 9, 3) := by decide +kernel
theorem kd_Keeper_17 : decode prog_4_method_1_code 17 = .ok (.putfield 17, 3) := by decide +kernel
theorem kd_Keeper_20 : decode prog_4_method_1_code 20 = .ok (.aload_n 0, 1) := by decide +kernel
theorem kd_Keeper_21 : decode prog_4_method_1_code 21 = .ok (.new 20, 3) := by decide +kernel
theorem kd_Keeper_24 : decode prog_4_method_1_code 24 = .ok (.dup, 1) := by decide +kernel
theorem kd_Keeper_25 : decode prog_4_method_1_code 25 = .ok (.invokespecial 22, 3) := by decide +kernel
theorem kd_Keeper_28 : decode prog_4_method_1_code 28 = .ok (.putfield 23, 3) := by decide +kernel
theorem kd_Keeper_31 : decode prog_4_method_1_code 31 = .ok (.iconst 0, 1) := by decide +kernel
theorem kd_Keeper_32 : decode prog_4_method_1_code 32 = .ok (.istore_n 1, 1) := by decide +kernel
theorem kd_Keeper_33 : decode prog_4_method_1_code 33 = .ok (.iload_n 1, 1) := by decide +kernel
theorem kd_Keeper_34 : decode prog_4_method_1_code 34 = .ok (.iconst 4, 1) := by decide +kernel
theorem kd_Keeper_35 : decode prog_4_method_1_code 35 = .ok (.if_icmp .ge 35, 3) := by decide +kernel
theorem kd_Keeper_38 : decode prog_4_method_1_code 38 = .ok (.aload_n 0, 1) := by decide +kernel
theorem kd_Keeper_39 : decode prog_4_method_1_code 39 = .ok (.getfield 11, 3) := by decide +kernel
theorem kd_Keeper_42 : decode prog_4_method_1_code 42 = .ok (.iload_n 1, 1) := by decide +kernel
theorem kd_Keeper_43 : decode prog_4_method_1_code 43 = .ok (.new 9, 3) := by decide +kernel
theorem kd_Keeper_46 : decode prog_4_method_1_code 46 = .ok (.dup, 1) := by decide +kernel
theorem kd_Keeper_47 : decode prog_4_method_1_code 47 = .ok (.invokespecial 27, 3) := by decide +kernel
theorem kd_Keeper_50 : decode prog_4_method_1_code 50 = .ok (.aastore, 1) := by decide +kernel
theorem kd_Keeper_51 : decode prog_4_method_1_code 51 = .ok (.aload_n 0, 1) := by decide +kernel
theorem kd_Keeper_52 : decode prog_4_method_1_code 52 = .ok (.getfield 17, 3) := by decide +kernel
theorem kd_Keeper_55 : decode prog_4_method_1_code 55 = .ok (.iload_n 1, 1) := by decide +kernel
theorem kd_Keeper_56 : decode prog_4_method_1_code 56 = .ok (.new 9, 3) := by decide +kernel
theorem kd_Keeper_59 : decode prog_4_method_1_code 59 = .ok (.dup, 1) := by decide +kernel
theorem kd_Keeper_60 : decode prog_4_method_1_code 60 = .ok (.invokespecial 27, 3) := by decide +kernel
theorem kd_Keeper_63 : decode prog_4_method_1_code 63 = .ok (.aastore, 1) := by decide +kernel
theorem kd_Keeper_64 : decode prog_4_method_1_code 64 = .ok (.iinc 1 1, 3) := by decide +kernel
theorem kd_Keeper_67 : decode prog_4_method_1_code 67 = .ok (.goto (-34), 3) := by decide +kernel
theorem kd_Keeper_70 : decode prog_4_method_1_code 70 = .ok (.aload_n 0, 1) := by decide +kernel
theorem kd_Keeper_71 : decode prog_4_method_1_code 71 = .ok (.iconst 1, 1) := by decide +kernel
theorem kd_Keeper_72 : decode prog_4_method_1_code 72 = .ok (.putfield 28, 3) := by decide +kernel
theorem kd_Keeper_75 : decode prog_4_method_1_code 75 = .ok (.return_, 1) := by decide +kernel
theorem kd_Dealer_0 : decode prog_2_method_1_code 0 = .ok (.aload_n 0, 1) := by decide +kernel
theorem kd_Dealer_1 : decode prog_2_method_1_code 1 = .ok (.invokespecial 3, 3) := by decide +kernel
theorem kd_Dealer_4 : decode prog_2_method_1_code 4 = .ok (.aload_n 0, 1) := by decide +kernel
theorem kd_Dealer_5 : decode prog_2_method_1_code 5 = .ok (.new 9, 3) := by decide +kernel
theorem kd_Dealer_8 : decode prog_2_method_1_code 8 = .ok (.dup, 1) := by decide +kernel
theorem kd_Dealer_9 : decode prog_2_method_1_code 9 = .ok (.invokespecial 11, 3) := by decide +kernel
theorem kd_Dealer_12 : decode prog_2_method_1_code 12 = .ok (.putfield 12, 3) := by decide +kernel
theorem kd_Dealer_15 : decode prog_2_method_1_code 15 = .ok (.aload_n 0, 1) := by decide +kernel
theorem kd_Dealer_16 : decode prog_2_method_1_code 16 = .ok (.bipush 24, 2) := by decide +kernel
theorem kd_Dealer_18 : decode prog_2_method_1_code 18 = .ok (.newarray .int, 2) := by decide +kernel
theorem kd_Dealer_20 : decode prog_2_method_1_code 20 = .ok (.putfield 18, 3) := by decide +kernel
theorem kd_Dealer_23 : decode prog_2_method_1_code 23 = .ok (.aload_n 0, 1) := by decide +kernel
theorem kd_Dealer_24 : decode prog_2_method_1_code 24 = .ok (.iconst 5, 1) := by decide +kernel
theorem kd_Dealer_25 : decode prog_2_method_1_code 25 = .ok (.newarray .int, 2) := by decide +kernel
theorem kd_Dealer_27 : decode prog_2_method_1_code 27 = .ok (.putfield 22, 3) := by decide +kernel
theorem kd_Dealer_30 : decode prog_2_method_1_code 30 = .ok (.aload_n 0, 1) := by decide +kernel
theorem kd_Dealer_31 : decode prog_2_method_1_code 31 = .ok (.iconst 4, 1) := by decide +kernel
theorem kd_Dealer_32 : decode prog_2_method_1_code 32 = .ok (.newarray .int, 2) := by decide +kernel
theorem kd_Dealer_34 : decode prog_2_method_1_code 34 = .ok (.putfield 25, 3) := by decide +kernel
theorem kd_Dealer_37 : decode prog_2_method_1_code 37 = .ok (.aload_n 0, 1) := by decide +kernel
theorem kd_Dealer_38 : decode prog_2_method_1_code 38 = .ok (.bipush 6, 2) := by decide +kernel
theorem kd_Dealer_40 : decode prog_2_method_1_code 40 = .ok (.newarray .boolean, 2) := by decide +kernel
theorem kd_Dealer_42 : decode prog_2_method_1_code 42 = .ok (.putfield 28, 3) := by decide +kernel
theorem kd_Dealer_45 : decode prog_2_method_1_code 45 = .ok (.return_, 1) := by decide +kernel
theorem kd_Shortlist_0 : decode prog_7_method_1_code 0 = .ok (.aload_n 0, 1) := by decide +kernel
theorem kd_Shortlist_1 : decode prog_7_method_1_code 1 = .ok (.invokespecial 3, 3) := by decide +kernel
theorem kd_Shortlist_4 : decode prog_7_method_1_code 4 = .ok (.aload_n 0, 1) := by decide +kernel
theorem kd_Shortlist_5 : decode prog_7_method_1_code 5 = .ok (.iconst 4, 1) := by decide +kernel
theorem kd_Shortlist_6 : decode prog_7_method_1_code 6 = .ok (.anewarray 9, 3) := by decide +kernel
theorem kd_Shortlist_9 : decode prog_7_method_1_code 9 = .ok (.putfield 11, 3) := by decide +kernel
theorem kd_Shortlist_12 : decode prog_7_method_1_code 12 = .ok (.iconst 0, 1) := by decide +kernel
theorem kd_Shortlist_13 : decode prog_7_method_1_code 13 = .ok (.istore_n 1, 1) := by decide +kernel
theorem kd_Shortlist_14 : decode prog_7_method_1_code 14 = .ok (.iload_n 1, 1) := by decide +kernel
theorem kd_Shortlist_15 : decode prog_7_method_1_code 15 = .ok (.iconst 4, 1) := by decide +kernel
theorem kd_Shortlist_16 : decode prog_7_method_1_code 16 = .ok (.if_icmp .ge 22, 3) := by decide +kernel
theorem kd_Shortlist_19 : decode prog_7_method_1_code 19 = .ok (.aload_n 0, 1) := by decide +kernel
theorem kd_Shortlist_20 : decode prog_7_method_1_code 20 = .ok (.getfield 11, 3) := by decide +kernel
theorem kd_Shortlist_23 : decode prog_7_method_1_code 23 = .ok (.iload_n 1, 1) := by decide +kernel
theorem kd_Shortlist_24 : decode prog_7_method_1_code 24 = .ok (.new 9, 3) := by decide +kernel
theorem kd_Shortlist_27 : decode prog_7_method_1_code 27 = .ok (.dup, 1) := by decide +kernel
theorem kd_Shortlist_28 : decode prog_7_method_1_code 28 = .ok (.invokespecial 17, 3) := by decide +kernel
theorem kd_Shortlist_31 : decode prog_7_method_1_code 31 = .ok (.aastore, 1) := by decide +kernel
theorem kd_Shortlist_32 : decode prog_7_method_1_code 32 = .ok (.iinc 1 1, 3) := by decide +kernel
theorem kd_Shortlist_35 : decode prog_7_method_1_code 35 = .ok (.goto (-21), 3) := by decide +kernel
theorem kd_Shortlist_38 : decode prog_7_method_1_code 38 = .ok (.return_, 1) := by decide +kernel
theorem kd_Level_0 : decode prog_5_method_1_code 0 = .ok (.aload_n 0, 1) := by decide +kernel
theorem kd_Level_1 : decode prog_5_method_1_code 1 = .ok (.invokespecial 3, 3) := by decide +kernel
theorem kd_Level_4 : decode prog_5_method_1_code 4 = .ok (.return_, 1) := by decide +kernel
theorem kd_Scan_0 : decode prog_6_method_1_code 0 = .ok (.aload_n 0, 1) := by decide +kernel
theorem kd_Scan_1 : decode prog_6_method_1_code 1 = .ok (.invokespecial 3, 3) := by decide +kernel
theorem kd_Scan_4 : decode prog_6_method_1_code 4 = .ok (.aload_n 0, 1) := by decide +kernel
theorem kd_Scan_5 : decode prog_6_method_1_code 5 = .ok (.iconst 4, 1) := by decide +kernel
theorem kd_Scan_6 : decode prog_6_method_1_code 6 = .ok (.newarray .int, 2) := by decide +kernel
theorem kd_Scan_8 : decode prog_6_method_1_code 8 = .ok (.putfield 9, 3) := by decide +kernel
theorem kd_Scan_11 : decode prog_6_method_1_code 11 = .ok (.aload_n 0, 1) := by decide +kernel
theorem kd_Scan_12 : decode prog_6_method_1_code 12 = .ok (.iconst 4, 1) := by decide +kernel
theorem kd_Scan_13 : decode prog_6_method_1_code 13 = .ok (.newarray .int, 2) := by decide +kernel
theorem kd_Scan_15 : decode prog_6_method_1_code 15 = .ok (.putfield 15, 3) := by decide +kernel
theorem kd_Scan_18 : decode prog_6_method_1_code 18 = .ok (.aload_n 0, 1) := by decide +kernel
theorem kd_Scan_19 : decode prog_6_method_1_code 19 = .ok (.iconst 4, 1) := by decide +kernel
theorem kd_Scan_20 : decode prog_6_method_1_code 20 = .ok (.newarray .int, 2) := by decide +kernel
theorem kd_Scan_22 : decode prog_6_method_1_code 22 = .ok (.putfield 18, 3) := by decide +kernel
theorem kd_Scan_25 : decode prog_6_method_1_code 25 = .ok (.return_, 1) := by decide +kernel
theorem kd_Join_0 : decode prog_3_method_1_code 0 = .ok (.aload_n 0, 1) := by decide +kernel
theorem kd_Join_1 : decode prog_3_method_1_code 1 = .ok (.invokespecial 3, 3) := by decide +kernel
theorem kd_Join_4 : decode prog_3_method_1_code 4 = .ok (.aload_n 0, 1) := by decide +kernel
theorem kd_Join_5 : decode prog_3_method_1_code 5 = .ok (.iconst 4, 1) := by decide +kernel
theorem kd_Join_6 : decode prog_3_method_1_code 6 = .ok (.newarray .int, 2) := by decide +kernel
theorem kd_Join_8 : decode prog_3_method_1_code 8 = .ok (.putfield 9, 3) := by decide +kernel
theorem kd_Join_11 : decode prog_3_method_1_code 11 = .ok (.return_, 1) := by decide +kernel
theorem kd_World_0 : decode prog_10_method_1_code 0 = .ok (.aload_n 0, 1) := by decide +kernel
theorem kd_World_1 : decode prog_10_method_1_code 1 = .ok (.invokespecial 3, 3) := by decide +kernel
theorem kd_World_4 : decode prog_10_method_1_code 4 = .ok (.aload_n 0, 1) := by decide +kernel
theorem kd_World_5 : decode prog_10_method_1_code 5 = .ok (.bipush 6, 2) := by decide +kernel
theorem kd_World_7 : decode prog_10_method_1_code 7 = .ok (.anewarray 9, 3) := by decide +kernel
theorem kd_World_10 : decode prog_10_method_1_code 10 = .ok (.putfield 11, 3) := by decide +kernel
theorem kd_World_13 : decode prog_10_method_1_code 13 = .ok (.aload_n 0, 1) := by decide +kernel
theorem kd_World_14 : decode prog_10_method_1_code 14 = .ok (.bipush 48, 2) := by decide +kernel
theorem kd_World_16 : decode prog_10_method_1_code 16 = .ok (.newarray .int, 2) := by decide +kernel
theorem kd_World_18 : decode prog_10_method_1_code 18 = .ok (.putfield 17, 3) := by decide +kernel
theorem kd_World_21 : decode prog_10_method_1_code 21 = .ok (.iconst 0, 1) := by decide +kernel
theorem kd_World_22 : decode prog_10_method_1_code 22 = .ok (.istore_n 1, 1) := by decide +kernel
theorem kd_World_23 : decode prog_10_method_1_code 23 = .ok (.iload_n 1, 1) := by decide +kernel
theorem kd_World_24 : decode prog_10_method_1_code 24 = .ok (.bipush 6, 2) := by decide +kernel
theorem kd_World_26 : decode prog_10_method_1_code 26 = .ok (.if_icmp .ge 22, 3) := by decide +kernel
theorem kd_World_29 : decode prog_10_method_1_code 29 = .ok (.aload_n 0, 1) := by decide +kernel
theorem kd_World_30 : decode prog_10_method_1_code 30 = .ok (.getfield 11, 3) := by decide +kernel
theorem kd_World_33 : decode prog_10_method_1_code 33 = .ok (.iload_n 1, 1) := by decide +kernel
theorem kd_World_34 : decode prog_10_method_1_code 34 = .ok (.new 9, 3) := by decide +kernel
theorem kd_World_37 : decode prog_10_method_1_code 37 = .ok (.dup, 1) := by decide +kernel
theorem kd_World_38 : decode prog_10_method_1_code 38 = .ok (.invokespecial 21, 3) := by decide +kernel
theorem kd_World_41 : decode prog_10_method_1_code 41 = .ok (.aastore, 1) := by decide +kernel
theorem kd_World_42 : decode prog_10_method_1_code 42 = .ok (.iinc 1 1, 3) := by decide +kernel
theorem kd_World_45 : decode prog_10_method_1_code 45 = .ok (.goto (-22), 3) := by decide +kernel
theorem kd_World_48 : decode prog_10_method_1_code 48 = .ok (.return_, 1) := by decide +kernel
theorem kd_Track_0 : decode prog_9_method_1_code 0 = .ok (.aload_n 0, 1) := by decide +kernel
theorem kd_Track_1 : decode prog_9_method_1_code 1 = .ok (.invokespecial 3, 3) := by decide +kernel
theorem kd_Track_4 : decode prog_9_method_1_code 4 = .ok (.return_, 1) := by decide +kernel
theorem kd_Model_0 : decode prog_12_method_1_code 0 = .ok (.aload_n 0, 1) := by decide +kernel
theorem kd_Model_1 : decode prog_12_method_1_code 1 = .ok (.invokespecial 1, 3) := by decide +kernel
theorem kd_Model_4 : decode prog_12_method_1_code 4 = .ok (.aload_n 0, 1) := by decide +kernel
theorem kd_Model_5 : decode prog_12_method_1_code 5 = .ok (.iconst 0, 1) := by decide +kernel
theorem kd_Model_6 : decode prog_12_method_1_code 6 = .ok (.putfield 7, 3) := by decide +kernel
theorem kd_Model_9 : decode prog_12_method_1_code 9 = .ok (.aload_n 0, 1) := by decide +kernel
theorem kd_Model_10 : decode prog_12_method_1_code 10 = .ok (.iconst 0, 1) := by decide +kernel
theorem kd_Model_11 : decode prog_12_method_1_code 11 = .ok (.putfield 13, 3) := by decide +kernel
theorem kd_Model_14 : decode prog_12_method_1_code 14 = .ok (.aload_n 0, 1) := by decide +kernel
theorem kd_Model_15 : decode prog_12_method_1_code 15 = .ok (.iconst 0, 1) := by decide +kernel
theorem kd_Model_16 : decode prog_12_method_1_code 16 = .ok (.putfield 16, 3) := by decide +kernel
theorem kd_Model_19 : decode prog_12_method_1_code 19 = .ok (.aload_n 0, 1) := by decide +kernel
theorem kd_Model_20 : decode prog_12_method_1_code 20 = .ok (.iconst 3, 1) := by decide +kernel
theorem kd_Model_21 : decode prog_12_method_1_code 21 = .ok (.newarray .int, 2) := by decide +kernel
theorem kd_Model_23 : decode prog_12_method_1_code 23 = .ok (.putfield 19, 3) := by decide +kernel
theorem kd_Model_26 : decode prog_12_method_1_code 26 = .ok (.aload_n 0, 1) := by decide +kernel
theorem kd_Model_27 : decode prog_12_method_1_code 27 = .ok (.iconst 3, 1) := by decide +kernel
theorem kd_Model_28 : decode prog_12_method_1_code 28 = .ok (.newarray .int, 2) := by decide +kernel
theorem kd_Model_30 : decode prog_12_method_1_code 30 = .ok (.putfield 23, 3) := by decide +kernel
theorem kd_Model_33 : decode prog_12_method_1_code 33 = .ok (.aload_n 0, 1) := by decide +kernel
theorem kd_Model_34 : decode prog_12_method_1_code 34 = .ok (.bipush 12, 2) := by decide +kernel
theorem kd_Model_36 : decode prog_12_method_1_code 36 = .ok (.newarray .int, 2) := by decide +kernel
theorem kd_Model_38 : decode prog_12_method_1_code 38 = .ok (.putfield 26, 3) := by decide +kernel
theorem kd_Model_41 : decode prog_12_method_1_code 41 = .ok (.aload_n 0, 1) := by decide +kernel
theorem kd_Model_42 : decode prog_12_method_1_code 42 = .ok (.bipush 12, 2) := by decide +kernel
theorem kd_Model_44 : decode prog_12_method_1_code 44 = .ok (.newarray .int, 2) := by decide +kernel
theorem kd_Model_46 : decode prog_12_method_1_code 46 = .ok (.putfield 29, 3) := by decide +kernel
theorem kd_Model_49 : decode prog_12_method_1_code 49 = .ok (.aload_n 0, 1) := by decide +kernel
theorem kd_Model_50 : decode prog_12_method_1_code 50 = .ok (.bipush 12, 2) := by decide +kernel
theorem kd_Model_52 : decode prog_12_method_1_code 52 = .ok (.newarray .int, 2) := by decide +kernel
theorem kd_Model_54 : decode prog_12_method_1_code 54 = .ok (.putfield 32, 3) := by decide +kernel
theorem kd_Model_57 : decode prog_12_method_1_code 57 = .ok (.aload_n 0, 1) := by decide +kernel
theorem kd_Model_58 : decode prog_12_method_1_code 58 = .ok (.bipush 48, 2) := by decide +kernel
theorem kd_Model_60 : decode prog_12_method_1_code 60 = .ok (.newarray .int, 2) := by decide +kernel
theorem kd_Model_62 : decode prog_12_method_1_code 62 = .ok (.putfield 35, 3) := by decide +kernel
theorem kd_Model_65 : decode prog_12_method_1_code 65 = .ok (.aload_n 0, 1) := by decide +kernel
theorem kd_Model_66 : decode prog_12_method_1_code 66 = .ok (.bipush 48, 2) := by decide +kernel
theorem kd_Model_68 : decode prog_12_method_1_code 68 = .ok (.newarray .int, 2) := by decide +kernel
theorem kd_Model_70 : decode prog_12_method_1_code 70 = .ok (.putfield 38, 3) := by decide +kernel
theorem kd_Model_73 : decode prog_12_method_1_code 73 = .ok (.aload_n 0, 1) := by decide +kernel
theorem kd_Model_74 : decode prog_12_method_1_code 74 = .ok (.bipush 48, 2) := by decide +kernel
theorem kd_Model_76 : decode prog_12_method_1_code 76 = .ok (.newarray .int, 2) := by decide +kernel
theorem kd_Model_78 : decode prog_12_method_1_code 78 = .ok (.putfield 41, 3) := by decide +kernel
theorem kd_Model_81 : decode prog_12_method_1_code 81 = .ok (.aload_n 0, 1) := by decide +kernel
theorem kd_Model_82 : decode prog_12_method_1_code 82 = .ok (.iconst 4, 1) := by decide +kernel
theorem kd_Model_83 : decode prog_12_method_1_code 83 = .ok (.newarray .int, 2) := by decide +kernel
theorem kd_Model_85 : decode prog_12_method_1_code 85 = .ok (.putfield 44, 3) := by decide +kernel
theorem kd_Model_88 : decode prog_12_method_1_code 88 = .ok (.aload_n 0, 1) := by decide +kernel
theorem kd_Model_89 : decode prog_12_method_1_code 89 = .ok (.iconst 4, 1) := by decide +kernel
theorem kd_Model_90 : decode prog_12_method_1_code 90 = .ok (.newarray .int, 2) := by decide +kernel
theorem kd_Model_92 : decode prog_12_method_1_code 92 = .ok (.putfield 47, 3) := by decide +kernel
theorem kd_Model_95 : decode prog_12_method_1_code 95 = .ok (.aload_n 0, 1) := by decide +kernel
theorem kd_Model_96 : decode prog_12_method_1_code 96 = .ok (.iconst 4, 1) := by decide +kernel
theorem kd_Model_97 : decode prog_12_method_1_code 97 = .ok (.newarray .int, 2) := by decide +kernel
theorem kd_Model_99 : decode prog_12_method_1_code 99 = .ok (.putfield 50, 3) := by decide +kernel
theorem kd_Model_102 : decode prog_12_method_1_code 102 = .ok (.aload_n 0, 1) := by decide +kernel
theorem kd_Model_103 : decode prog_12_method_1_code 103 = .ok (.bipush 10, 2) := by decide +kernel
theorem kd_Model_105 : decode prog_12_method_1_code 105 = .ok (.newarray .int, 2) := by decide +kernel
theorem kd_Model_107 : decode prog_12_method_1_code 107 = .ok (.putfield 53, 3) := by decide +kernel
theorem kd_Model_110 : decode prog_12_method_1_code 110 = .ok (.aload_n 0, 1) := by decide +kernel
theorem kd_Model_111 : decode prog_12_method_1_code 111 = .ok (.bipush 6, 2) := by decide +kernel
theorem kd_Model_113 : decode prog_12_method_1_code 113 = .ok (.newarray .int, 2) := by decide +kernel
theorem kd_Model_115 : decode prog_12_method_1_code 115 = .ok (.dup, 1) := by decide +kernel
theorem kd_Model_116 : decode prog_12_method_1_code 116 = .ok (.iconst 0, 1) := by decide +kernel
theorem kd_Model_117 : decode prog_12_method_1_code 117 = .ok (.bipush 60, 2) := by decide +kernel
theorem kd_Model_119 : decode prog_12_method_1_code 119 = .ok (.iastore, 1) := by decide +kernel
theorem kd_Model_120 : decode prog_12_method_1_code 120 = .ok (.dup, 1) := by decide +kernel
theorem kd_Model_121 : decode prog_12_method_1_code 121 = .ok (.iconst 1, 1) := by decide +kernel
theorem kd_Model_122 : decode prog_12_method_1_code 122 = .ok (.sipush 900, 3) := by decide +kernel
theorem kd_Model_125 : decode prog_12_method_1_code 125 = .ok (.iastore, 1) := by decide +kernel
theorem kd_Model_126 : decode prog_12_method_1_code 126 = .ok (.dup, 1) := by decide +kernel
theorem kd_Model_127 : decode prog_12_method_1_code 127 = .ok (.iconst 2, 1) := by decide +kernel
theorem kd_Model_128 : decode prog_12_method_1_code 128 = .ok (.sipush 2500, 3) := by decide +kernel
theorem kd_Model_131 : decode prog_12_method_1_code 131 = .ok (.iastore, 1) := by decide +kernel
theorem kd_Model_132 : decode prog_12_method_1_code 132 = .ok (.dup, 1) := by decide +kernel
theorem kd_Model_133 : decode prog_12_method_1_code 133 = .ok (.iconst 3, 1) := by decide +kernel
theorem kd_Model_134 : decode prog_12_method_1_code 134 = .ok (.sipush 4000, 3) := by decide +kernel
theorem kd_Model_137 : decode prog_12_method_1_code 137 = .ok (.iastore, 1) := by decide +kernel
theorem kd_Model_138 : decode prog_12_method_1_code 138 = .ok (.dup, 1) := by decide +kernel
theorem kd_Model_139 : decode prog_12_method_1_code 139 = .ok (.iconst 4, 1) := by decide +kernel
theorem kd_Model_140 : decode prog_12_method_1_code 140 = .ok (.iconst 3, 1) := by decide +kernel
theorem kd_Model_141 : decode prog_12_method_1_code 141 = .ok (.iastore, 1) := by decide +kernel
theorem kd_Model_142 : decode prog_12_method_1_code 142 = .ok (.dup, 1) := by decide +kernel
theorem kd_Model_143 : decode prog_12_method_1_code 143 = .ok (.iconst 5, 1) := by decide +kernel
theorem kd_Model_144 : decode prog_12_method_1_code 144 = .ok (.iconst 3, 1) := by decide +kernel
theorem kd_Model_145 : decode prog_12_method_1_code 145 = .ok (.iastore, 1) := by decide +kernel
theorem kd_Model_146 : decode prog_12_method_1_code 146 = .ok (.putfield 56, 3) := by decide +kernel
theorem kd_Model_149 : decode prog_12_method_1_code 149 = .ok (.aload_n 0, 1) := by decide +kernel
theorem kd_Model_150 : decode prog_12_method_1_code 150 = .ok (.iconst 1, 1) := by decide +kernel
theorem kd_Model_151 : decode prog_12_method_1_code 151 = .ok (.putfield 59, 3) := by decide +kernel
theorem kd_Model_154 : decode prog_12_method_1_code 154 = .ok (.aload_n 0, 1) := by decide +kernel
theorem kd_Model_155 : decode prog_12_method_1_code 155 = .ok (.bipush 12, 2) := by decide +kernel
theorem kd_Model_157 : decode prog_12_method_1_code 157 = .ok (.newarray .int, 2) := by decide +kernel
theorem kd_Model_159 : decode prog_12_method_1_code 159 = .ok (.putfield 63, 3) := by decide +kernel
theorem kd_Model_162 : decode prog_12_method_1_code 162 = .ok (.aload_n 0, 1) := by decide +kernel
theorem kd_Model_163 : decode prog_12_method_1_code 163 = .ok (.iconst 1, 1) := by decide +kernel
theorem kd_Model_164 : decode prog_12_method_1_code 164 = .ok (.putfield 66, 3) := by decide +kernel
theorem kd_Model_167 : decode prog_12_method_1_code 167 = .ok (.aload_n 0, 1) := by decide +kernel
theorem kd_Model_168 : decode prog_12_method_1_code 168 = .ok (.iconst 0, 1) := by decide +kernel
theorem kd_Model_169 : decode prog_12_method_1_code 169 = .ok (.putfield 69, 3) := by decide +kernel
theorem kd_Model_172 : decode prog_12_method_1_code 172 = .ok (.aload_n 0, 1) := by decide +kernel
theorem kd_Model_173 : decode prog_12_method_1_code 173 = .ok (.bipush 8, 2) := by decide +kernel
theorem kd_Model_175 : decode prog_12_method_1_code 175 = .ok (.newarray .int, 2) := by decide +kernel
theorem kd_Model_177 : decode prog_12_method_1_code 177 = .ok (.putfield 72, 3) := by decide +kernel
theorem kd_Model_180 : decode prog_12_method_1_code 180 = .ok (.aload_n 0, 1) := by decide +kernel
theorem kd_Model_181 : decode prog_12_method_1_code 181 = .ok (.bipush 8, 2) := by decide +kernel
theorem kd_Model_183 : decode prog_12_method_1_code 183 = .ok (.newarray .int, 2) := by decide +kernel
theorem kd_Model_185 : decode prog_12_method_1_code 185 = .ok (.putfield 75, 3) := by decide +kernel
theorem kd_Model_188 : decode prog_12_method_1_code 188 = .ok (.aload_n 0, 1) := by decide +kernel
theorem kd_Model_189 : decode prog_12_method_1_code 189 = .ok (.sipush 384, 3) := by decide +kernel
theorem kd_Model_192 : decode prog_12_method_1_code 192 = .ok (.newarray .int, 2) := by decide +kernel
theorem kd_Model_194 : decode prog_12_method_1_code 194 = .ok (.putfield 78, 3) := by decide +kernel
theorem kd_Model_197 : decode prog_12_method_1_code 197 = .ok (.aload_n 0, 1) := by decide +kernel
theorem kd_Model_198 : decode prog_12_method_1_code 198 = .ok (.bipush 48, 2) := by decide +kernel
theorem kd_Model_200 : decode prog_12_method_1_code 200 = .ok (.newarray .int, 2) := by decide +kernel
theorem kd_Model_202 : decode prog_12_method_1_code 202 = .ok (.putfield 81, 3) := by decide +kernel
theorem kd_Model_205 : decode prog_12_method_1_code 205 = .ok (.aload_n 0, 1) := by decide +kernel
theorem kd_Model_206 : decode prog_12_method_1_code 206 = .ok (.bipush 48, 2) := by decide +kernel
theorem kd_Model_208 : decode prog_12_method_1_code 208 = .ok (.newarray .int, 2) := by decide +kernel
theorem kd_Model_210 : decode prog_12_method_1_code 210 = .ok (.putfield 84, 3) := by decide +kernel
theorem kd_Model_213 : decode prog_12_method_1_code 213 = .ok (.aload_n 0, 1) := by decide +kernel
theorem kd_Model_214 : decode prog_12_method_1_code 214 = .ok (.bipush 48, 2) := by decide +kernel
theorem kd_Model_216 : decode prog_12_method_1_code 216 = .ok (.newarray .int, 2) := by decide +kernel
theorem kd_Model_218 : decode prog_12_method_1_code 218 = .ok (.putfield 87, 3) := by decide +kernel
theorem kd_Model_221 : decode prog_12_method_1_code 221 = .ok (.aload_n 0, 1) := by decide +kernel
theorem kd_Model_222 : decode prog_12_method_1_code 222 = .ok (.bipush 48, 2) := by decide +kernel
theorem kd_Model_224 : decode prog_12_method_1_code 224 = .ok (.newarray .int, 2) := by decide +kernel
theorem kd_Model_226 : decode prog_12_method_1_code 226 = .ok (.putfield 90, 3) := by decide +kernel
theorem kd_Model_229 : decode prog_12_method_1_code 229 = .ok (.aload_n 0, 1) := by decide +kernel
theorem kd_Model_230 : decode prog_12_method_1_code 230 = .ok (.bipush 48, 2) := by decide +kernel
theorem kd_Model_232 : decode prog_12_method_1_code 232 = .ok (.newarray .int, 2) := by decide +kernel
theorem kd_Model_234 : decode prog_12_method_1_code 234 = .ok (.putfield 93, 3) := by decide +kernel
theorem kd_Model_237 : decode prog_12_method_1_code 237 = .ok (.aload_n 0, 1) := by decide +kernel
theorem kd_Model_238 : decode prog_12_method_1_code 238 = .ok (.bipush 48, 2) := by decide +kernel
theorem kd_Model_240 : decode prog_12_method_1_code 240 = .ok (.newarray .int, 2) := by decide +kernel
theorem kd_Model_242 : decode prog_12_method_1_code 242 = .ok (.putfield 96, 3) := by decide +kernel
theorem kd_Model_245 : decode prog_12_method_1_code 245 = .ok (.aload_n 0, 1) := by decide +kernel
theorem kd_Model_246 : decode prog_12_method_1_code 246 = .ok (.bipush 48, 2) := by decide +kernel
theorem kd_Model_248 : decode prog_12_method_1_code 248 = .ok (.newarray .int, 2) := by decide +kernel
theorem kd_Model_250 : decode prog_12_method_1_code 250 = .ok (.putfield 99, 3) := by decide +kernel
theorem kd_Model_253 : decode prog_12_method_1_code 253 = .ok (.aload_n 0, 1) := by decide +kernel
theorem kd_Model_254 : decode prog_12_method_1_code 254 = .ok (.bipush 48, 2) := by decide +kernel
theorem kd_Model_256 : decode prog_12_method_1_code 256 = .ok (.newarray .int, 2) := by decide +kernel
theorem kd_Model_258 : decode prog_12_method_1_code 258 = .ok (.putfield 102, 3) := by decide +kernel
theorem kd_Model_261 : decode prog_12_method_1_code 261 = .ok (.aload_n 0, 1) := by decide +kernel
theorem kd_Model_262 : decode prog_12_method_1_code 262 = .ok (.bipush 48, 2) := by decide +kernel
theorem kd_Model_264 : decode prog_12_method_1_code 264 = .ok (.newarray .boolean, 2) := by decide +kernel
theorem kd_Model_266 : decode prog_12_method_1_code 266 = .ok (.putfield 105, 3) := by decide +kernel
theorem kd_Model_269 : decode prog_12_method_1_code 269 = .ok (.aload_n 0, 1) := by decide +kernel
theorem kd_Model_270 : decode prog_12_method_1_code 270 = .ok (.bipush 32, 2) := by decide +kernel
theorem kd_Model_272 : decode prog_12_method_1_code 272 = .ok (.newarray .int, 2) := by decide +kernel
theorem kd_Model_274 : decode prog_12_method_1_code 274 = .ok (.putfield 109, 3) := by decide +kernel
theorem kd_Model_277 : decode prog_12_method_1_code 277 = .ok (.aload_n 0, 1) := by decide +kernel
theorem kd_Model_278 : decode prog_12_method_1_code 278 = .ok (.iconst 0, 1) := by decide +kernel
theorem kd_Model_279 : decode prog_12_method_1_code 279 = .ok (.putfield 112, 3) := by decide +kernel
theorem kd_Model_282 : decode prog_12_method_1_code 282 = .ok (.aload_n 0, 1) := by decide +kernel
theorem kd_Model_283 : decode prog_12_method_1_code 283 = .ok (.iconst 5, 1) := by decide +kernel
theorem kd_Model_284 : decode prog_12_method_1_code 284 = .ok (.newarray .int, 2) := by decide +kernel
theorem kd_Model_286 : decode prog_12_method_1_code 286 = .ok (.putfield 115, 3) := by decide +kernel
theorem kd_Model_289 : decode prog_12_method_1_code 289 = .ok (.aload_n 0, 1) := by decide +kernel
theorem kd_Model_290 : decode prog_12_method_1_code 290 = .ok (.iconst 5, 1) := by decide +kernel
theorem kd_Model_291 : decode prog_12_method_1_code 291 = .ok (.newarray .int, 2) := by decide +kernel
theorem kd_Model_293 : decode prog_12_method_1_code 293 = .ok (.putfield 118, 3) := by decide +kernel
theorem kd_Model_296 : decode prog_12_method_1_code 296 = .ok (.aload_n 0, 1) := by decide +kernel
theorem kd_Model_297 : decode prog_12_method_1_code 297 = .ok (.iconst 5, 1) := by decide +kernel
theorem kd_Model_298 : decode prog_12_method_1_code 298 = .ok (.newarray .int, 2) := by decide +kernel
theorem kd_Model_300 : decode prog_12_method_1_code 300 = .ok (.putfield 121, 3) := by decide +kernel
theorem kd_Model_303 : decode prog_12_method_1_code 303 = .ok (.aload_n 0, 1) := by decide +kernel
theorem kd_Model_304 : decode prog_12_method_1_code 304 = .ok (.iconst 0, 1) := by decide +kernel
theorem kd_Model_305 : decode prog_12_method_1_code 305 = .ok (.putfield 124, 3) := by decide +kernel
theorem kd_Model_308 : decode prog_12_method_1_code 308 = .ok (.aload_n 0, 1) := by decide +kernel
theorem kd_Model_309 : decode prog_12_method_1_code 309 = .ok (.iconst 0, 1) := by decide +kernel
theorem kd_Model_310 : decode prog_12_method_1_code 310 = .ok (.putfield 127, 3) := by decide +kernel
theorem kd_Model_313 : decode prog_12_method_1_code 313 = .ok (.return_, 1) := by decide +kernel
theorem kw_1 : Cond.initialized "WhoIsWho" ∈ am_tb := am_tb_in (i := 38) rfl rfl
theorem kw_2 : Cond.initialized "WhoIsWho$Told" ∈ am_tb := am_tb_in (i := 39) rfl rfl
theorem kw_3 : Cond.initialized "WhoIsWho$Scan" ∈ am_tb := am_tb_in (i := 40) rfl rfl
theorem kw_4 : Cond.initialized "java/lang/System" ∈ am_tb := am_tb_in (i := 41) rfl rfl
theorem kw_5 : Cond.initialized "WhoIsWho$Keeper" ∈ am_tb := am_tb_in (i := 42) rfl rfl
theorem kw_6 : Cond.initialized "WhoIsWho$Dealer" ∈ am_tb := am_tb_in (i := 43) rfl rfl
theorem kw_7 : Cond.initialized "WhoIsWho$Shortlist" ∈ am_tb := am_tb_in (i := 44) rfl rfl
theorem kw_8 : Cond.initialized "WhoIsWho$Join" ∈ am_tb := am_tb_in (i := 45) rfl rfl
theorem kw_9 : Cond.initialized "WhoIsWho$World" ∈ am_tb := am_tb_in (i := 46) rfl rfl
theorem kw_10 : Cond.initialized "WhoIsWho$Track" ∈ am_tb := am_tb_in (i := 47) rfl rfl
theorem kw_11 : Cond.initialized "WhoIsWho$Level" ∈ am_tb := am_tb_in (i := 48) rfl rfl
theorem kw_12 : Cond.initialized "WhoIsWhoModel" ∈ am_tb := am_tb_in (i := 49) rfl rfl
theorem kw_14 : Cond.classLink "WhoIsWhoLaw" 7 "WhoIsWho" ∈ am_tb := am_tb_in (i := 51) rfl rfl
theorem kw_15 : Cond.instantiable "WhoIsWho" 3 ∈ am_tb := am_tb_in (i := 52) rfl rfl
theorem kw_16 : Cond.methodLink "WhoIsWhoLaw" 9 (kIn "WhoIsWho") ∈ am_tb := am_tb_in (i := 53) rfl rfl
theorem kw_17 : Cond.instanceMethod (kIn "WhoIsWho") ∈ am_tb := am_tb_in (i := 54) rfl rfl
theorem kw_18 : Cond.code (kIn "WhoIsWho") prog_1_method_1_code 1 none ∈ am_tb := am_tb_in (i := 55) rfl rfl
theorem kw_19 : Cond.methodLink "WhoIsWho" 3 objectInit ∈ am_tb := am_tb_in (i := 56) rfl rfl
theorem kw_22 : Cond.classLink "WhoIsWho" 9 "WhoIsWho$Told" ∈ am_tb := am_tb_in (i := 59) rfl rfl
theorem kw_23 : Cond.instantiable "WhoIsWho$Told" 9 ∈ am_tb := am_tb_in (i := 60) rfl rfl
theorem kw_24 : Cond.methodLink "WhoIsWho" 11 (kIn "WhoIsWho$Told") ∈ am_tb := am_tb_in (i := 61) rfl rfl
theorem kw_25 : Cond.instanceMethod (kIn "WhoIsWho$Told") ∈ am_tb := am_tb_in (i := 62) rfl rfl
theorem kw_26 : Cond.code (kIn "WhoIsWho$Told") prog_8_method_1_code 2 none ∈ am_tb := am_tb_in (i := 63) rfl rfl
theorem kw_27 : Cond.methodLink "WhoIsWho$Told" 3 objectInit ∈ am_tb := am_tb_in (i := 64) rfl rfl
theorem kw_28 : Cond.classLink "WhoIsWho$Told" 18 "WhoIsWho$Scan" ∈ am_tb := am_tb_in (i := 65) rfl rfl
theorem kw_30 : Cond.instantiable "WhoIsWho$Scan" 6 ∈ am_tb := am_tb_in (i := 67) rfl rfl
theorem kw_32 : Cond.instanceMethod (kIn "WhoIsWho$Scan") ∈ am_tb := am_tb_in (i := 69) rfl rfl
theorem kw_33 : Cond.code (kIn "WhoIsWho$Scan") prog_6_method_1_code 1 none ∈ am_tb := am_tb_in (i := 70) rfl rfl
theorem kw_34 : Cond.methodLink "WhoIsWho$Scan" 3 objectInit ∈ am_tb := am_tb_in (i := 71) rfl rfl
theorem kw_48 : Cond.fieldLink "WhoIsWho$Scan" 9 "WhoIsWho$Scan" "x" "[I" ∈ am_tb := am_tb_in (i := 85) rfl rfl
theorem kw_51 : Cond.fieldLink "WhoIsWho$Scan" 15 "WhoIsWho$Scan" "y" "[I" ∈ am_tb := am_tb_in (i := 88) rfl rfl
theorem kw_54 : Cond.fieldLink "WhoIsWho$Scan" 18 "WhoIsWho$Scan" "mark" "[I" ∈ am_tb := am_tb_in (i := 91) rfl rfl
theorem kw_71 : Cond.arrayClass .int ∈ am_tb := am_tb_in (i := 108) rfl rfl
theorem kw_74 : Cond.methodLink "WhoIsWho$Told" 37 arraycopyName ∈ am_tb := am_tb_in (i := 111) rfl rfl
theorem kw_75 : Cond.static arraycopyName ∈ am_tb := am_tb_in (i := 112) rfl rfl
theorem kw_76 : Cond.native arraycopyName ∈ am_tb := am_tb_in (i := 113) rfl rfl
theorem kw_85 : Cond.fieldLink "WhoIsWho$Told" 9 "WhoIsWho$Told" "shiftX" "[I" ∈ am_tb := am_tb_in (i := 122) rfl rfl
theorem kw_87 : Cond.fieldLink "WhoIsWho$Told" 15 "WhoIsWho$Told" "shiftY" "[I" ∈ am_tb := am_tb_in (i := 124) rfl rfl
theorem kw_89 : Cond.fieldLink "WhoIsWho$Told" 20 "WhoIsWho$Told" "scans" "[LWhoIsWho$Scan;" ∈ am_tb := am_tb_in (i := 126) rfl rfl
theorem kw_94 : Cond.fieldLink "WhoIsWho$Told" 24 "WhoIsWho$Told" "order" "[I" ∈ am_tb := am_tb_in (i := 131) rfl rfl
theorem kw_97 : Cond.fieldLink "WhoIsWho$Told" 27 "WhoIsWho$Told" "rules" "[I" ∈ am_tb := am_tb_in (i := 134) rfl rfl
theorem kw_101 : Cond.fieldLink "WhoIsWho$Told" 30 "WhoIsWho$Told" "kinds" "[I" ∈ am_tb := am_tb_in (i := 138) rfl rfl
theorem kw_123 : Cond.classLink "WhoIsWho" 18 "WhoIsWho$Keeper" ∈ am_tb := am_tb_in (i := 160) rfl rfl
theorem kw_124 : Cond.instantiable "WhoIsWho$Keeper" 4 ∈ am_tb := am_tb_in (i := 161) rfl rfl
theorem kw_125 : Cond.methodLink "WhoIsWho" 20 (kIn "WhoIsWho$Keeper") ∈ am_tb := am_tb_in (i := 162) rfl rfl
theorem kw_126 : Cond.instanceMethod (kIn "WhoIsWho$Keeper") ∈ am_tb := am_tb_in (i := 163) rfl rfl
theorem kw_127 : Cond.code (kIn "WhoIsWho$Keeper") prog_4_method_1_code 2 none ∈ am_tb := am_tb_in (i := 164) rfl rfl
theorem kw_128 : Cond.methodLink "WhoIsWho$Keeper" 3 objectInit ∈ am_tb := am_tb_in (i := 165) rfl rfl
theorem kw_129 : Cond.classLink "WhoIsWho$Keeper" 9 "WhoIsWho$World" ∈ am_tb := am_tb_in (i := 166) rfl rfl
theorem kw_131 : Cond.classLink "WhoIsWho$Keeper" 20 "WhoIsWho$Dealer" ∈ am_tb := am_tb_in (i := 168) rfl rfl
theorem kw_132 : Cond.instantiable "WhoIsWho$Dealer" 12 ∈ am_tb := am_tb_in (i := 169) rfl rfl
theorem kw_134 : Cond.instanceMethod (kIn "WhoIsWho$Dealer") ∈ am_tb := am_tb_in (i := 171) rfl rfl
theorem kw_135 : Cond.code (kIn "WhoIsWho$Dealer") prog_2_method_1_code 1 none ∈ am_tb := am_tb_in (i := 172) rfl rfl
theorem kw_136 : Cond.methodLink "WhoIsWho$Dealer" 3 objectInit ∈ am_tb := am_tb_in (i := 173) rfl rfl
theorem kw_137 : Cond.classLink "WhoIsWho$Dealer" 9 "WhoIsWho$Shortlist" ∈ am_tb := am_tb_in (i := 174) rfl rfl
theorem kw_138 : Cond.instantiable "WhoIsWho$Shortlist" 3 ∈ am_tb := am_tb_in (i := 175) rfl rfl
theorem kw_139 : Cond.methodLink "WhoIsWho$Dealer" 11 (kIn "WhoIsWho$Shortlist") ∈ am_tb := am_tb_in (i := 176) rfl rfl
theorem kw_140 : Cond.instanceMethod (kIn "WhoIsWho$Shortlist") ∈ am_tb := am_tb_in (i := 177) rfl rfl
theorem kw_141 : Cond.code (kIn "WhoIsWho$Shortlist") prog_7_method_1_code 2 none ∈ am_tb := am_tb_in (i := 178) rfl rfl
theorem kw_142 : Cond.methodLink "WhoIsWho$Shortlist" 3 objectInit ∈ am_tb := am_tb_in (i := 179) rfl rfl
theorem kw_143 : Cond.classLink "WhoIsWho$Shortlist" 9 "WhoIsWho$Join" ∈ am_tb := am_tb_in (i := 180) rfl rfl
theorem kw_145 : Cond.instantiable "WhoIsWho$Join" 3 ∈ am_tb := am_tb_in (i := 182) rfl rfl
theorem kw_147 : Cond.instanceMethod (kIn "WhoIsWho$Join") ∈ am_tb := am_tb_in (i := 184) rfl rfl
theorem kw_148 : Cond.code (kIn "WhoIsWho$Join") prog_3_method_1_code 1 none ∈ am_tb := am_tb_in (i := 185) rfl rfl
theorem kw_149 : Cond.methodLink "WhoIsWho$Join" 3 objectInit ∈ am_tb := am_tb_in (i := 186) rfl rfl
theorem kw_154 : Cond.fieldLink "WhoIsWho$Join" 9 "WhoIsWho$Join" "picks" "[I" ∈ am_tb := am_tb_in (i := 191) rfl rfl
theorem kw_167 : Cond.fieldLink "WhoIsWho$Shortlist" 11 "WhoIsWho$Shortlist" "joins" "[LWhoIsWho$Join;" ∈ am_tb := am_tb_in (i := 204) rfl rfl
theorem kw_176 : Cond.fieldLink "WhoIsWho$Dealer" 12 "WhoIsWho$Dealer" "shortlist" "LWhoIsWho$Shortlist;" ∈ am_tb := am_tb_in (i := 213) rfl rfl
theorem kw_185 : Cond.fieldLink "WhoIsWho$Dealer" 18 "WhoIsWho$Dealer" "tolls" "[I" ∈ am_tb := am_tb_in (i := 222) rfl rfl
theorem kw_186 : Cond.fieldLink "WhoIsWho$Dealer" 22 "WhoIsWho$Dealer" "leastFrom" "[I" ∈ am_tb := am_tb_in (i := 223) rfl rfl
theorem kw_187 : Cond.fieldLink "WhoIsWho$Dealer" 25 "WhoIsWho$Dealer" "picks" "[I" ∈ am_tb := am_tb_in (i := 224) rfl rfl
theorem kw_188 : Cond.fieldLink "WhoIsWho$Dealer" 28 "WhoIsWho$Dealer" "taken" "[Z" ∈ am_tb := am_tb_in (i := 225) rfl rfl
theorem kw_214 : Cond.arrayClass .boolean ∈ am_tb := am_tb_in (i := 251) rfl rfl
theorem kw_215 : Cond.instantiable "WhoIsWho$World" 4 ∈ am_tb := am_tb_in (i := 252) rfl rfl
theorem kw_216 : Cond.methodLink "WhoIsWho$Keeper" 27 (kIn "WhoIsWho$World") ∈ am_tb := am_tb_in (i := 253) rfl rfl
theorem kw_217 : Cond.instanceMethod (kIn "WhoIsWho$World") ∈ am_tb := am_tb_in (i := 254) rfl rfl
theorem kw_218 : Cond.code (kIn "WhoIsWho$World") prog_10_method_1_code 2 none ∈ am_tb := am_tb_in (i := 255) rfl rfl
theorem kw_219 : Cond.methodLink "WhoIsWho$World" 3 objectInit ∈ am_tb := am_tb_in (i := 256) rfl rfl
theorem kw_220 : Cond.classLink "WhoIsWho$World" 9 "WhoIsWho$Track" ∈ am_tb := am_tb_in (i := 257) rfl rfl
theorem kw_222 : Cond.instantiable "WhoIsWho$Track" 9 ∈ am_tb := am_tb_in (i := 259) rfl rfl
theorem kw_224 : Cond.instanceMethod (kIn "WhoIsWho$Track") ∈ am_tb := am_tb_in (i := 261) rfl rfl
theorem kw_225 : Cond.code (kIn "WhoIsWho$Track") prog_9_method_1_code 1 none ∈ am_tb := am_tb_in (i := 262) rfl rfl
theorem kw_226 : Cond.methodLink "WhoIsWho$Track" 3 objectInit ∈ am_tb := am_tb_in (i := 263) rfl rfl
theorem kw_268 : Cond.fieldLink "WhoIsWho$World" 11 "WhoIsWho$World" "tracks" "[LWhoIsWho$Track;" ∈ am_tb := am_tb_in (i := 305) rfl rfl
theorem kw_271 : Cond.fieldLink "WhoIsWho$World" 17 "WhoIsWho$World" "accounts" "[I" ∈ am_tb := am_tb_in (i := 308) rfl rfl
theorem kw_281 : Cond.fieldLink "WhoIsWho$Keeper" 11 "WhoIsWho$Keeper" "kept" "[LWhoIsWho$World;" ∈ am_tb := am_tb_in (i := 318) rfl rfl
theorem kw_283 : Cond.fieldLink "WhoIsWho$Keeper" 28 "WhoIsWho$Keeper" "keptCount" "I" ∈ am_tb := am_tb_in (i := 320) rfl rfl
theorem kw_285 : Cond.fieldLink "WhoIsWho$Keeper" 17 "WhoIsWho$Keeper" "spare" "[LWhoIsWho$World;" ∈ am_tb := am_tb_in (i := 322) rfl rfl
theorem kw_286 : Cond.fieldLink "WhoIsWho$Keeper" 23 "WhoIsWho$Keeper" "dealer" "LWhoIsWho$Dealer;" ∈ am_tb := am_tb_in (i := 323) rfl rfl
theorem kw_296 : Cond.classLink "WhoIsWho" 25 "WhoIsWho$Level" ∈ am_tb := am_tb_in (i := 333) rfl rfl
theorem kw_297 : Cond.instantiable "WhoIsWho$Level" 3 ∈ am_tb := am_tb_in (i := 334) rfl rfl
theorem kw_299 : Cond.instanceMethod (kIn "WhoIsWho$Level") ∈ am_tb := am_tb_in (i := 336) rfl rfl
theorem kw_300 : Cond.code (kIn "WhoIsWho$Level") prog_5_method_1_code 1 none ∈ am_tb := am_tb_in (i := 337) rfl rfl
theorem kw_301 : Cond.methodLink "WhoIsWho$Level" 3 objectInit ∈ am_tb := am_tb_in (i := 338) rfl rfl
theorem kw_313 : Cond.fieldLink "WhoIsWho" 12 "WhoIsWho" "told" "LWhoIsWho$Told;" ∈ am_tb := am_tb_in (i := 350) rfl rfl
theorem kw_314 : Cond.fieldLink "WhoIsWho" 21 "WhoIsWho" "keeper" "LWhoIsWho$Keeper;" ∈ am_tb := am_tb_in (i := 351) rfl rfl
theorem kw_315 : Cond.fieldLink "WhoIsWho" 28 "WhoIsWho" "measured" "LWhoIsWho$Level;" ∈ am_tb := am_tb_in (i := 352) rfl rfl
theorem kw_682 : Cond.classLink "WhoIsWhoLaw" 10 "WhoIsWhoModel" ∈ am_tb := am_tb_in (i := 719) rfl rfl
theorem kw_683 : Cond.instantiable "WhoIsWhoModel" 39 ∈ am_tb := am_tb_in (i := 720) rfl rfl
theorem kw_684 : Cond.methodLink "WhoIsWhoLaw" 12 (kIn "WhoIsWhoModel") ∈ am_tb := am_tb_in (i := 721) rfl rfl
theorem kw_685 : Cond.instanceMethod (kIn "WhoIsWhoModel") ∈ am_tb := am_tb_in (i := 722) rfl rfl
theorem kw_686 : Cond.code (kIn "WhoIsWhoModel") prog_12_method_1_code 1 none ∈ am_tb := am_tb_in (i := 723) rfl rfl
theorem kw_687 : Cond.methodLink "WhoIsWhoModel" 1 objectInit ∈ am_tb := am_tb_in (i := 724) rfl rfl
theorem kw_688 : Cond.fieldLink "WhoIsWhoModel" 7 "WhoIsWhoModel" "watchers" "I" ∈ am_tb := am_tb_in (i := 725) rfl rfl
theorem kw_689 : Cond.fieldLink "WhoIsWhoModel" 13 "WhoIsWhoModel" "scans" "I" ∈ am_tb := am_tb_in (i := 726) rfl rfl
theorem kw_690 : Cond.fieldLink "WhoIsWhoModel" 16 "WhoIsWhoModel" "waiting" "I" ∈ am_tb := am_tb_in (i := 727) rfl rfl
theorem kw_691 : Cond.fieldLink "WhoIsWhoModel" 19 "WhoIsWhoModel" "shiftA" "[I" ∈ am_tb := am_tb_in (i := 728) rfl rfl
theorem kw_692 : Cond.fieldLink "WhoIsWhoModel" 23 "WhoIsWhoModel" "shiftB" "[I" ∈ am_tb := am_tb_in (i := 729) rfl rfl
theorem kw_693 : Cond.fieldLink "WhoIsWhoModel" 26 "WhoIsWhoModel" "watcherOf" "[I" ∈ am_tb := am_tb_in (i := 730) rfl rfl
theorem kw_694 : Cond.fieldLink "WhoIsWhoModel" 29 "WhoIsWhoModel" "momentOf" "[I" ∈ am_tb := am_tb_in (i := 731) rfl rfl
theorem kw_695 : Cond.fieldLink "WhoIsWhoModel" 32 "WhoIsWhoModel" "dots" "[I" ∈ am_tb := am_tb_in (i := 732) rfl rfl
theorem kw_696 : Cond.fieldLink "WhoIsWhoModel" 35 "WhoIsWhoModel" "dotX" "[I" ∈ am_tb := am_tb_in (i := 733) rfl rfl
theorem kw_697 : Cond.fieldLink "WhoIsWhoModel" 38 "WhoIsWhoModel" "dotY" "[I" ∈ am_tb := am_tb_in (i := 734) rfl rfl
theorem kw_698 : Cond.fieldLink "WhoIsWhoModel" 41 "WhoIsWhoModel" "dotMark" "[I" ∈ am_tb := am_tb_in (i := 735) rfl rfl
theorem kw_699 : Cond.fieldLink "WhoIsWhoModel" 44 "WhoIsWhoModel" "waitX" "[I" ∈ am_tb := am_tb_in (i := 736) rfl rfl
theorem kw_700 : Cond.fieldLink "WhoIsWhoModel" 47 "WhoIsWhoModel" "waitY" "[I" ∈ am_tb := am_tb_in (i := 737) rfl rfl
theorem kw_701 : Cond.fieldLink "WhoIsWhoModel" 50 "WhoIsWhoModel" "waitMark" "[I" ∈ am_tb := am_tb_in (i := 738) rfl rfl
theorem kw_702 : Cond.fieldLink "WhoIsWhoModel" 53 "WhoIsWhoModel" "kinds" "[I" ∈ am_tb := am_tb_in (i := 739) rfl rfl
theorem kw_703 : Cond.fieldLink "WhoIsWhoModel" 56 "WhoIsWhoModel" "rules" "[I" ∈ am_tb := am_tb_in (i := 740) rfl rfl
theorem kw_704 : Cond.fieldLink "WhoIsWhoModel" 59 "WhoIsWhoModel" "isOld" "Z" ∈ am_tb := am_tb_in (i := 741) rfl rfl
theorem kw_705 : Cond.fieldLink "WhoIsWhoModel" 63 "WhoIsWhoModel" "order" "[I" ∈ am_tb := am_tb_in (i := 742) rfl rfl
theorem kw_706 : Cond.fieldLink "WhoIsWhoModel" 66 "WhoIsWhoModel" "kept" "I" ∈ am_tb := am_tb_in (i := 743) rfl rfl
theorem kw_707 : Cond.fieldLink "WhoIsWhoModel" 69 "WhoIsWhoModel" "base" "I" ∈ am_tb := am_tb_in (i := 744) rfl rfl
theorem kw_708 : Cond.fieldLink "WhoIsWhoModel" 72 "WhoIsWhoModel" "costs" "[I" ∈ am_tb := am_tb_in (i := 745) rfl rfl
theorem kw_709 : Cond.fieldLink "WhoIsWhoModel" 75 "WhoIsWhoModel" "tracks" "[I" ∈ am_tb := am_tb_in (i := 746) rfl rfl
theorem kw_710 : Cond.fieldLink "WhoIsWhoModel" 78 "WhoIsWhoModel" "accounts" "[I" ∈ am_tb := am_tb_in (i := 747) rfl rfl
theorem kw_711 : Cond.fieldLink "WhoIsWhoModel" 81 "WhoIsWhoModel" "x" "[I" ∈ am_tb := am_tb_in (i := 748) rfl rfl
theorem kw_712 : Cond.fieldLink "WhoIsWhoModel" 84 "WhoIsWhoModel" "y" "[I" ∈ am_tb := am_tb_in (i := 749) rfl rfl
theorem kw_713 : Cond.fieldLink "WhoIsWhoModel" 87 "WhoIsWhoModel" "u" "[I" ∈ am_tb := am_tb_in (i := 750) rfl rfl
theorem kw_714 : Cond.fieldLink "WhoIsWhoModel" 90 "WhoIsWhoModel" "v" "[I" ∈ am_tb := am_tb_in (i := 751) rfl rfl
theorem kw_715 : Cond.fieldLink "WhoIsWhoModel" 93 "WhoIsWhoModel" "at" "[I" ∈ am_tb := am_tb_in (i := 752) rfl rfl
theorem kw_716 : Cond.fieldLink "WhoIsWhoModel" 96 "WhoIsWhoModel" "hits" "[I" ∈ am_tb := am_tb_in (i := 753) rfl rfl
theorem kw_717 : Cond.fieldLink "WhoIsWhoModel" 99 "WhoIsWhoModel" "missed" "[I" ∈ am_tb := am_tb_in (i := 754) rfl rfl
theorem kw_718 : Cond.fieldLink "WhoIsWhoModel" 102 "WhoIsWhoModel" "mark" "[I" ∈ am_tb := am_tb_in (i := 755) rfl rfl
theorem kw_719 : Cond.fieldLink "WhoIsWhoModel" 105 "WhoIsWhoModel" "ended" "[Z" ∈ am_tb := am_tb_in (i := 756) rfl rfl
theorem kw_720 : Cond.fieldLink "WhoIsWhoModel" 109 "WhoIsWhoModel" "joins" "[I" ∈ am_tb := am_tb_in (i := 757) rfl rfl
theorem kw_721 : Cond.fieldLink "WhoIsWhoModel" 112 "WhoIsWhoModel" "best" "I" ∈ am_tb := am_tb_in (i := 758) rfl rfl
theorem kw_722 : Cond.fieldLink "WhoIsWhoModel" 115 "WhoIsWhoModel" "bestCost" "[I" ∈ am_tb := am_tb_in (i := 759) rfl rfl
theorem kw_723 : Cond.fieldLink "WhoIsWhoModel" 118 "WhoIsWhoModel" "bestWorld" "[I" ∈ am_tb := am_tb_in (i := 760) rfl rfl
theorem kw_724 : Cond.fieldLink "WhoIsWhoModel" 121 "WhoIsWhoModel" "bestJoin" "[I" ∈ am_tb := am_tb_in (i := 761) rfl rfl
theorem kw_725 : Cond.fieldLink "WhoIsWhoModel" 124 "WhoIsWhoModel" "sumX" "I" ∈ am_tb := am_tb_in (i := 762) rfl rfl
theorem kw_726 : Cond.fieldLink "WhoIsWhoModel" 127 "WhoIsWhoModel" "sumY" "I" ∈ am_tb := am_tb_in (i := 763) rfl rfl
