theorem dX12_refuse_0 : decode cX12_refuse 0 = .ok (.aload_n 0, 1) := by decide +kernel
theorem dX12_refuse_1 : decode cX12_refuse 1 = .ok (.iconst 1, 1) := by decide +kernel
theorem dX12_refuse_2 : decode cX12_refuse 2 = .ok (.putfield 1, 3) := by decide +kernel
theorem G1463 : Cond.fieldLink "HookedCityModel" 1 "HookedCityModel" "thrown" "I" ∈ GW := gw_i 1463 (by decide +kernel) rfl
theorem dX12_refuse_5 : decode cX12_refuse 5 = .ok (.iconst 0, 1) := by decide +kernel
theorem dX12_refuse_6 : decode cX12_refuse 6 = .ok (.ireturn, 1) := by decide +kernel
theorem dX12_come_0 : decode cX12_come 0 = .ok (.bipush 24, 2) := by decide +kernel
theorem dX12_come_2 : decode cX12_come 2 = .ok (.istore_n 2, 1) := by decide +kernel
theorem dX12_come_3 : decode cX12_come 3 = .ok (.iload_n 2, 1) := by decide +kernel
theorem dX12_come_4 : decode cX12_come 4 = .ok (.ifCond .lt 35, 3) := by decide +kernel
theorem dX12_come_39 : decode cX12_come 39 = .ok (.return_, 1) := by decide +kernel
theorem dX12_come_7 : decode cX12_come 7 = .ok (.aload_n 0, 1) := by decide +kernel
theorem dX12_come_8 : decode cX12_come 8 = .ok (.getfield 7, 3) := by decide +kernel
theorem G1464 : Cond.fieldLink "HookedCityModel" 7 "HookedCityModel" "tape" "[I" ∈ GW := gw_i 1464 (by decide +kernel) rfl
theorem dX12_come_11 : decode cX12_come 11 = .ok (.aload_n 0, 1) := by decide +kernel
theorem dX12_come_12 : decode cX12_come 12 = .ok (.getfield 11, 3) := by decide +kernel
theorem G1465 : Cond.fieldLink "HookedCityModel" 11 "HookedCityModel" "taped" "I" ∈ GW := gw_i 1465 (by decide +kernel) rfl
theorem dX12_come_15 : decode cX12_come 15 = .ok (.iload_n 1, 1) := by decide +kernel
theorem dX12_come_16 : decode cX12_come 16 = .ok (.iload_n 2, 1) := by decide +kernel
theorem dX12_come_17 : decode cX12_come 17 = .ok (.iushr, 1) := by decide +kernel
theorem dX12_come_18 : decode cX12_come 18 = .ok (.sipush 255, 3) := by decide +kernel
theorem dX12_come_21 : decode cX12_come 21 = .ok (.iand, 1) := by decide +kernel
theorem dX12_come_22 : decode cX12_come 22 = .ok (.iastore, 1) := by decide +kernel
theorem dX12_come_23 : decode cX12_come 23 = .ok (.aload_n 0, 1) := by decide +kernel
theorem dX12_come_24 : decode cX12_come 24 = .ok (.dup, 1) := by decide +kernel
theorem dX12_come_25 : decode cX12_come 25 = .ok (.getfield 11, 3) := by decide +kernel
theorem dX12_come_28 : decode cX12_come 28 = .ok (.iconst 1, 1) := by decide +kernel
theorem dX12_come_29 : decode cX12_come 29 = .ok (.iadd, 1) := by decide +kernel
theorem dX12_come_30 : decode cX12_come 30 = .ok (.putfield 11, 3) := by decide +kernel
theorem dX12_come_33 : decode cX12_come 33 = .ok (.iinc 2 (-8), 3) := by decide +kernel
theorem dX12_come_36 : decode cX12_come 36 = .ok (.goto (-33), 3) := by decide +kernel
theorem dX12_feed_0 : decode cX12_feed 0 = .ok (.aload_n 0, 1) := by decide +kernel
theorem dX12_feed_1 : decode cX12_feed 1 = .ok (.iconst 0, 1) := by decide +kernel
theorem dX12_feed_2 : decode cX12_feed 2 = .ok (.putfield 1, 3) := by decide +kernel
theorem dX12_feed_5 : decode cX12_feed 5 = .ok (.aload_n 0, 1) := by decide +kernel
theorem dX12_feed_6 : decode cX12_feed 6 = .ok (.getfield 11, 3) := by decide +kernel
theorem dX12_feed_9 : decode cX12_feed 9 = .ok (.bipush 20, 2) := by decide +kernel
theorem dX12_feed_11 : decode cX12_feed 11 = .ok (.iadd, 1) := by decide +kernel
theorem dX12_feed_12 : decode cX12_feed 12 = .ok (.sipush 940, 3) := by decide +kernel
theorem dX12_feed_15 : decode cX12_feed 15 = .ok (.if_icmp .le 5, 3) := by decide +kernel
theorem dX12_feed_20 : decode cX12_feed 20 = .ok (.aload_n 0, 1) := by decide +kernel
theorem dX12_feed_21 : decode cX12_feed 21 = .ok (.iload_n 1, 1) := by decide +kernel
theorem dX12_feed_22 : decode cX12_feed 22 = .ok (.invokevirtual 14, 3) := by decide +kernel
theorem G1445 : Cond.code ⟨"HookedCityModel", "come", "(I)V"⟩ prog_14_method_3_code 3 none ∈ GW := gw_i 1445 (by decide +kernel) rfl
theorem G1441 : Cond.methodLink "HookedCityModel" 14 ⟨"HookedCityModel", "come", "(I)V"⟩ ∈ GW := gw_i 1441 (by decide +kernel) rfl
theorem G131 : Cond.initialized "HookedCityModel" ∈ GW := gw_i 131 (by decide +kernel) rfl
theorem V_HookedCityModel_14 : VL "HookedCityModel" 14 yX12_come cX12_come 3 none 1 := ⟨G1445, G1441, G131, by decide +kernel, by decide +kernel, by decide +kernel⟩
theorem G1443 : Cond.instanceMethod ⟨"HookedCityModel", "come", "(I)V"⟩ ∈ GW := gw_i 1443 (by decide +kernel) rfl
theorem G44 : Cond.selects "HookedCityModel" ⟨"HookedCityModel", "come", "(I)V"⟩ ⟨"HookedCityModel", "come", "(I)V"⟩ ∈ GW := gw_i 44 (by decide +kernel) rfl
theorem dX12_feed_25 : decode cX12_feed 25 = .ok (.aload_n 0, 1) := by decide +kernel
theorem dX12_feed_26 : decode cX12_feed 26 = .ok (.iload_n 2, 1) := by decide +kernel
theorem dX12_feed_27 : decode cX12_feed 27 = .ok (.invokevirtual 14, 3) := by decide +kernel
theorem dX12_feed_30 : decode cX12_feed 30 = .ok (.aload_n 0, 1) := by decide +kernel
theorem dX12_feed_31 : decode cX12_feed 31 = .ok (.iload_n 3, 1) := by decide +kernel
theorem dX12_feed_32 : decode cX12_feed 32 = .ok (.invokevirtual 14, 3) := by decide +kernel
theorem dX12_feed_35 : decode cX12_feed 35 = .ok (.aload_n 0, 1) := by decide +kernel
theorem dX12_feed_36 : decode cX12_feed 36 = .ok (.iload 4, 2) := by decide +kernel
theorem dX12_feed_38 : decode cX12_feed 38 = .ok (.invokevirtual 14, 3) := by decide +kernel
theorem dX12_feed_41 : decode cX12_feed 41 = .ok (.aload_n 0, 1) := by decide +kernel
theorem dX12_feed_42 : decode cX12_feed 42 = .ok (.iload 5, 2) := by decide +kernel
theorem dX12_feed_44 : decode cX12_feed 44 = .ok (.invokevirtual 14, 3) := by decide +kernel
theorem dX12_feed_47 : decode cX12_feed 47 = .ok (.aload_n 0, 1) := by decide +kernel
theorem dX12_feed_48 : decode cX12_feed 48 = .ok (.getfield 11, 3) := by decide +kernel
theorem dX12_feed_51 : decode cX12_feed 51 = .ok (.ireturn, 1) := by decide +kernel
theorem dX12_feed_18 : decode cX12_feed 18 = .ok (.iconst (-1), 1) := by decide +kernel
theorem dX12_feed_19 : decode cX12_feed 19 = .ok (.ireturn, 1) := by decide +kernel
theorem dX12_end_0 : decode cX12_end 0 = .ok (.aload_n 0, 1) := by decide +kernel
theorem dX12_end_1 : decode cX12_end 1 = .ok (.iconst 0, 1) := by decide +kernel
theorem dX12_end_2 : decode cX12_end 2 = .ok (.putfield 1, 3) := by decide +kernel
theorem dX12_end_5 : decode cX12_end 5 = .ok (.iload_n 1, 1) := by decide +kernel
theorem dX12_end_6 : decode cX12_end 6 = .ok (.ifCond .lt 11, 3) := by decide +kernel
theorem dX12_end_17 : decode cX12_end 17 = .ok (.iconst 0, 1) := by decide +kernel
theorem dX12_end_18 : decode cX12_end 18 = .ok (.ireturn, 1) := by decide +kernel
theorem dX12_end_9 : decode cX12_end 9 = .ok (.iload_n 1, 1) := by decide +kernel
theorem dX12_end_10 : decode cX12_end 10 = .ok (.aload_n 0, 1) := by decide +kernel
theorem dX12_end_11 : decode cX12_end 11 = .ok (.getfield 11, 3) := by decide +kernel
theorem dX12_end_14 : decode cX12_end 14 = .ok (.if_icmp .le 5, 3) := by decide +kernel
theorem dX12_end_19 : decode cX12_end 19 = .ok (.aload_n 0, 1) := by decide +kernel
theorem dX12_end_20 : decode cX12_end 20 = .ok (.iload_n 1, 1) := by decide +kernel
theorem dX12_end_21 : decode cX12_end 21 = .ok (.putfield 11, 3) := by decide +kernel
theorem dX12_end_24 : decode cX12_end 24 = .ok (.iconst 1, 1) := by decide +kernel
theorem dX12_end_25 : decode cX12_end 25 = .ok (.ireturn, 1) := by decide +kernel
theorem dX12_take_0 : decode cX12_take 0 = .ok (.aload_n 0, 1) := by decide +kernel
theorem dX12_take_1 : decode cX12_take 1 = .ok (.getfield 11, 3) := by decide +kernel
theorem dX12_take_4 : decode cX12_take 4 = .ok (.istore_n 1, 1) := by decide +kernel
theorem dX12_take_5 : decode cX12_take 5 = .ok (.aload_n 0, 1) := by decide +kernel
theorem dX12_take_6 : decode cX12_take 6 = .ok (.iconst 0, 1) := by decide +kernel
theorem dX12_take_7 : decode cX12_take 7 = .ok (.putfield 11, 3) := by decide +kernel
theorem dX12_take_10 : decode cX12_take 10 = .ok (.iload_n 1, 1) := by decide +kernel
theorem dX12_take_11 : decode cX12_take 11 = .ok (.ireturn, 1) := by decide +kernel
theorem dX12_isIn_0 : decode cX12_isIn 0 = .ok (.iload_n 0, 1) := by decide +kernel
theorem dX12_isIn_1 : decode cX12_isIn 1 = .ok (.iload_n 1, 1) := by decide +kernel
theorem dX12_isIn_2 : decode cX12_isIn 2 = .ok (.if_icmp .lt 12, 3) := by decide +kernel
theorem dX12_isIn_14 : decode cX12_isIn 14 = .ok (.iconst 0, 1) := by decide +kernel
theorem dX12_isIn_15 : decode cX12_isIn 15 = .ok (.ireturn, 1) := by decide +kernel
theorem dX12_isIn_5 : decode cX12_isIn 5 = .ok (.iload_n 0, 1) := by decide +kernel
theorem dX12_isIn_6 : decode cX12_isIn 6 = .ok (.iload_n 2, 1) := by decide +kernel
theorem dX12_isIn_7 : decode cX12_isIn 7 = .ok (.if_icmp .gt 7, 3) := by decide +kernel
theorem dX12_isIn_10 : decode cX12_isIn 10 = .ok (.iconst 1, 1) := by decide +kernel
theorem dX12_isIn_11 : decode cX12_isIn 11 = .ok (.goto 4, 3) := by decide +kernel
theorem dX12_has_0 : decode cX12_has 0 = .ok (.iload_n 0, 1) := by decide +kernel
theorem dX12_has_1 : decode cX12_has 1 = .ok (.iload_n 1, 1) := by decide +kernel
theorem dX12_has_2 : decode cX12_has 2 = .ok (.ishr, 1) := by decide +kernel
theorem dX12_has_3 : decode cX12_has 3 = .ok (.iconst 1, 1) := by decide +kernel
theorem dX12_has_4 : decode cX12_has 4 = .ok (.iand, 1) := by decide +kernel
theorem dX12_has_5 : decode cX12_has 5 = .ok (.iconst 1, 1) := by decide +kernel
theorem dX12_has_6 : decode cX12_has 6 = .ok (.if_icmp .ne 7, 3) := by decide +kernel
theorem dX12_has_13 : decode cX12_has 13 = .ok (.iconst 0, 1) := by decide +kernel
theorem dX12_has_14 : decode cX12_has 14 = .ok (.ireturn, 1) := by decide +kernel
theorem dX12_has_9 : decode cX12_has 9 = .ok (.iconst 1, 1) := by decide +kernel
theorem dX12_has_10 : decode cX12_has 10 = .ok (.goto 4, 3) := by decide +kernel
theorem dX12_least_0 : decode cX12_least 0 = .ok (.iload_n 0, 1) := by decide +kernel
theorem dX12_least_1 : decode cX12_least 1 = .ok (.iload_n 1, 1) := by decide +kernel
theorem dX12_least_2 : decode cX12_least 2 = .ok (.if_icmp .ge 7, 3) := by decide +kernel
theorem dX12_least_9 : decode cX12_least 9 = .ok (.iload_n 1, 1) := by decide +kernel
theorem dX12_least_10 : decode cX12_least 10 = .ok (.ireturn, 1) := by decide +kernel
theorem dX12_least_5 : decode cX12_least 5 = .ok (.iload_n 0, 1) := by decide +kernel
theorem dX12_least_6 : decode cX12_least 6 = .ok (.goto 4, 3) := by decide +kernel
theorem dX12_tapeAt_0 : decode cX12_tapeAt 0 = .ok (.iload_n 1, 1) := by decide +kernel
theorem dX12_tapeAt_1 : decode cX12_tapeAt 1 = .ok (.aload_n 0, 1) := by decide +kernel
theorem dX12_tapeAt_2 : decode cX12_tapeAt 2 = .ok (.getfield 18, 3) := by decide +kernel
theorem G1466 : Cond.fieldLink "HookedCityModel" 18 "HookedCityModel" "size" "I" ∈ GW := gw_i 1466 (by decide +kernel) rfl
theorem dX12_tapeAt_5 : decode cX12_tapeAt 5 = .ok (.if_icmp .ge 12, 3) := by decide +kernel
theorem dX12_tapeAt_17 : decode cX12_tapeAt 17 = .ok (.iconst 0, 1) := by decide +kernel
theorem dX12_tapeAt_18 : decode cX12_tapeAt 18 = .ok (.ireturn, 1) := by decide +kernel
theorem dX12_tapeAt_8 : decode cX12_tapeAt 8 = .ok (.aload_n 0, 1) := by decide +kernel
theorem dX12_tapeAt_9 : decode cX12_tapeAt 9 = .ok (.getfield 7, 3) := by decide +kernel
theorem dX12_tapeAt_12 : decode cX12_tapeAt 12 = .ok (.iload_n 1, 1) := by decide +kernel
theorem dX12_tapeAt_13 : decode cX12_tapeAt 13 = .ok (.iaload, 1) := by decide +kernel
theorem dX12_tapeAt_14 : decode cX12_tapeAt 14 = .ok (.goto 4, 3) := by decide +kernel
theorem dX12_isDigit_0 : decode cX12_isDigit 0 = .ok (.iload_n 0, 1) := by decide +kernel
theorem dX12_isDigit_1 : decode cX12_isDigit 1 = .ok (.bipush 48, 2) := by decide +kernel
theorem dX12_isDigit_3 : decode cX12_isDigit 3 = .ok (.if_icmp .lt 13, 3) := by decide +kernel
theorem dX12_isDigit_16 : decode cX12_isDigit 16 = .ok (.iconst 0, 1) := by decide +kernel
theorem dX12_isDigit_17 : decode cX12_isDigit 17 = .ok (.ireturn, 1) := by decide +kernel
theorem dX12_isDigit_6 : decode cX12_isDigit 6 = .ok (.iload_n 0, 1) := by decide +kernel
theorem dX12_isDigit_7 : decode cX12_isDigit 7 = .ok (.bipush 57, 2) := by decide +kernel
theorem dX12_isDigit_9 : decode cX12_isDigit 9 = .ok (.if_icmp .gt 7, 3) := by decide +kernel
theorem dX12_isDigit_12 : decode cX12_isDigit 12 = .ok (.iconst 1, 1) := by decide +kernel
theorem dX12_isDigit_13 : decode cX12_isDigit 13 = .ok (.goto 4, 3) := by decide +kernel
theorem dX12_isLetter_0 : decode cX12_isLetter 0 = .ok (.iload_n 0, 1) := by decide +kernel
theorem dX12_isLetter_1 : decode cX12_isLetter 1 = .ok (.bipush 97, 2) := by decide +kernel
theorem dX12_isLetter_3 : decode cX12_isLetter 3 = .ok (.if_icmp .lt 13, 3) := by decide +kernel
theorem dX12_isLetter_16 : decode cX12_isLetter 16 = .ok (.iconst 0, 1) := by decide +kernel
theorem dX12_isLetter_17 : decode cX12_isLetter 17 = .ok (.ireturn, 1) := by decide +kernel
theorem dX12_isLetter_6 : decode cX12_isLetter 6 = .ok (.iload_n 0, 1) := by decide +kernel
theorem dX12_isLetter_7 : decode cX12_isLetter 7 = .ok (.bipush 122, 2) := by decide +kernel
theorem dX12_isLetter_9 : decode cX12_isLetter 9 = .ok (.if_icmp .gt 7, 3) := by decide +kernel
theorem dX12_isLetter_12 : decode cX12_isLetter 12 = .ok (.iconst 1, 1) := by decide +kernel
theorem dX12_isLetter_13 : decode cX12_isLetter 13 = .ok (.goto 4, 3) := by decide +kernel
theorem dX12_go_0 : decode cX12_go 0 = .ok (.aload_n 0, 1) := by decide +kernel
theorem dX12_go_1 : decode cX12_go 1 = .ok (.getfield 21, 3) := by decide +kernel
theorem G1468 : Cond.fieldLink "HookedCityModel" 21 "HookedCityModel" "to" "I" ∈ GW := gw_i 1468 (by decide +kernel) rfl
theorem dX12_go_4 : decode cX12_go 4 = .ok (.aload_n 0, 1) := by decide +kernel
theorem dX12_go_5 : decode cX12_go 5 = .ok (.getfield 18, 3) := by decide +kernel
theorem dX12_go_8 : decode cX12_go 8 = .ok (.if_icmp .ge 44, 3) := by decide +kernel
theorem dX12_go_52 : decode cX12_go 52 = .ok (.aload_n 0, 1) := by decide +kernel
theorem dX12_go_53 : decode cX12_go 53 = .ok (.aload_n 0, 1) := by decide +kernel
theorem dX12_go_54 : decode cX12_go 54 = .ok (.getfield 21, 3) := by decide +kernel
theorem dX12_go_57 : decode cX12_go 57 = .ok (.putfield 24, 3) := by decide +kernel
theorem G1469 : Cond.fieldLink "HookedCityModel" 24 "HookedCityModel" "from" "I" ∈ GW := gw_i 1469 (by decide +kernel) rfl
theorem dX12_go_60 : decode cX12_go 60 = .ok (.aload_n 0, 1) := by decide +kernel
theorem dX12_go_61 : decode cX12_go 61 = .ok (.getfield 18, 3) := by decide +kernel
theorem dX12_go_64 : decode cX12_go 64 = .ok (.aload_n 0, 1) := by decide +kernel
theorem dX12_go_65 : decode cX12_go 65 = .ok (.getfield 27, 3) := by decide +kernel
theorem G1467 : Cond.fieldLink "HookedCityModel" 27 "HookedCityModel" "limit" "I" ∈ GW := gw_i 1467 (by decide +kernel) rfl
theorem dX12_go_68 : decode cX12_go 68 = .ok (.if_icmp .le 28, 3) := by decide +kernel
theorem dX12_go_96 : decode cX12_go 96 = .ok (.aload_n 0, 1) := by decide +kernel
theorem dX12_go_97 : decode cX12_go 97 = .ok (.getfield 21, 3) := by decide +kernel
theorem dX12_go_100 : decode cX12_go 100 = .ok (.aload_n 0, 1) := by decide +kernel
theorem dX12_go_101 : decode cX12_go 101 = .ok (.getfield 18, 3) := by decide +kernel
theorem dX12_go_104 : decode cX12_go 104 = .ok (.if_icmp .lt 9, 3) := by decide +kernel
theorem dX12_go_107 : decode cX12_go 107 = .ok (.aload_n 0, 1) := by decide +kernel
theorem dX12_go_108 : decode cX12_go 108 = .ok (.iconst 0, 1) := by decide +kernel
theorem dX12_go_109 : decode cX12_go 109 = .ok (.putfield 30, 3) := by decide +kernel
theorem G1470 : Cond.fieldLink "HookedCityModel" 30 "HookedCityModel" "kind" "I" ∈ GW := gw_i 1470 (by decide +kernel) rfl
theorem dX12_go_112 : decode cX12_go 112 = .ok (.return_, 1) := by decide +kernel
theorem dX12_go_71 : decode cX12_go 71 = .ok (.aload_n 0, 1) := by decide +kernel
theorem dX12_go_72 : decode cX12_go 72 = .ok (.getfield 24, 3) := by decide +kernel
theorem dX12_go_75 : decode cX12_go 75 = .ok (.aload_n 0, 1) := by decide +kernel
theorem dX12_go_76 : decode cX12_go 76 = .ok (.getfield 27, 3) := by decide +kernel
theorem dX12_go_79 : decode cX12_go 79 = .ok (.if_icmp .lt 17, 3) := by decide +kernel
theorem dX12_go_82 : decode cX12_go 82 = .ok (.aload_n 0, 1) := by decide +kernel
theorem dX12_go_83 : decode cX12_go 83 = .ok (.aload_n 0, 1) := by decide +kernel
theorem dX12_go_84 : decode cX12_go 84 = .ok (.getfield 27, 3) := by decide +kernel
theorem dX12_go_87 : decode cX12_go 87 = .ok (.putfield 24, 3) := by decide +kernel
theorem dX12_go_90 : decode cX12_go 90 = .ok (.aload_n 0, 1) := by decide +kernel
theorem dX12_go_91 : decode cX12_go 91 = .ok (.iconst 1, 1) := by decide +kernel
theorem dX12_go_92 : decode cX12_go 92 = .ok (.putfield 30, 3) := by decide +kernel
theorem dX12_go_95 : decode cX12_go 95 = .ok (.return_, 1) := by decide +kernel
theorem dX12_go_11 : decode cX12_go 11 = .ok (.aload_n 0, 1) := by decide +kernel
theorem dX12_go_12 : decode cX12_go 12 = .ok (.getfield 7, 3) := by decide +kernel
theorem dX12_go_15 : decode cX12_go 15 = .ok (.aload_n 0, 1) := by decide +kernel
theorem dX12_go_16 : decode cX12_go 16 = .ok (.getfield 21, 3) := by decide +kernel
theorem dX12_go_19 : decode cX12_go 19 = .ok (.iaload, 1) := by decide +kernel
theorem dX12_go_20 : decode cX12_go 20 = .ok (.bipush 32, 2) := by decide +kernel
theorem dX12_go_22 : decode cX12_go 22 = .ok (.if_icmp .eq 17, 3) := by decide +kernel
theorem dX12_go_39 : decode cX12_go 39 = .ok (.aload_n 0, 1) := by decide +kernel
theorem dX12_go_40 : decode cX12_go 40 = .ok (.dup, 1) := by decide +kernel
theorem dX12_go_41 : decode cX12_go 41 = .ok (.getfield 21, 3) := by decide +kernel
theorem dX12_go_44 : decode cX12_go 44 = .ok (.iconst 1, 1) := by decide +kernel
theorem dX12_go_45 : decode cX12_go 45 = .ok (.iadd, 1) := by decide +kernel
theorem dX12_go_46 : decode cX12_go 46 = .ok (.putfield 21, 3) := by decide +kernel
theorem dX12_go_49 : decode cX12_go 49 = .ok (.goto (-49), 3) := by decide +kernel
theorem dX12_go_25 : decode cX12_go 25 = .ok (.aload_n 0, 1) := by decide +kernel
theorem dX12_go_26 : decode cX12_go 26 = .ok (.getfield 7, 3) := by decide +kernel
theorem dX12_go_29 : decode cX12_go 29 = .ok (.aload_n 0, 1) := by decide +kernel
theorem dX12_go_30 : decode cX12_go 30 = .ok (.getfield 21, 3) := by decide +kernel
theorem dX12_go_33 : decode cX12_go 33 = .ok (.iaload, 1) := by decide +kernel
theorem dX12_go_34 : decode cX12_go 34 = .ok (.bipush 10, 2) := by decide +kernel
theorem dX12_go_36 : decode cX12_go 36 = .ok (.if_icmp .ne 16, 3) := by decide +kernel
theorem dX12_go_113 : decode cX12_go 113 = .ok (.aload_n 0, 1) := by decide +kernel
theorem dX12_go_114 : decode cX12_go 114 = .ok (.getfield 7, 3) := by decide +kernel
theorem dX12_go_117 : decode cX12_go 117 = .ok (.aload_n 0, 1) := by decide +kernel
theorem dX12_go_118 : decode cX12_go 118 = .ok (.getfield 21, 3) := by decide +kernel
theorem dX12_go_121 : decode cX12_go 121 = .ok (.iaload, 1) := by decide +kernel
theorem dX12_go_122 : decode cX12_go 122 = .ok (.istore_n 1, 1) := by decide +kernel
theorem dX12_go_123 : decode cX12_go 123 = .ok (.iload_n 1, 1) := by decide +kernel
theorem dX12_go_124 : decode cX12_go 124 = .ok (.invokestatic 33, 3) := by decide +kernel
theorem G1633 : Cond.code ⟨"HookedCityModel", "isLetter", "(I)Z"⟩ prog_14_method_15_code 1 (some .boolean) ∈ GW := gw_i 1633 (by decide +kernel) rfl
theorem G1631 : Cond.methodLink "HookedCityModel" 33 ⟨"HookedCityModel", "isLetter", "(I)Z"⟩ ∈ GW := gw_i 1631 (by decide +kernel) rfl
theorem V_HookedCityModel_33 : VL "HookedCityModel" 33 yX12_isLetter cX12_isLetter 1 (some .boolean) 1 := ⟨G1633, G1631, G131, by decide +kernel, by decide +kernel, by decide +kernel⟩
theorem G1632 : Cond.static ⟨"HookedCityModel", "isLetter", "(I)Z"⟩ ∈ GW := gw_i 1632 (by decide +kernel) rfl
theorem dX12_go_127 : decode cX12_go 127 = .ok (.ifCond .ne 71, 3) := by decide +kernel
theorem dX12_go_198 : decode cX12_go 198 = .ok (.iload_n 1, 1) := by decide +kernel
theorem dX12_go_199 : decode cX12_go 199 = .ok (.invokestatic 33, 3) := by decide +kernel
theorem dX12_go_202 : decode cX12_go 202 = .ok (.istore_n 2, 1) := by decide +kernel
theorem dX12_go_203 : decode cX12_go 203 = .ok (.iconst 1, 1) := by decide +kernel
theorem dX12_go_204 : decode cX12_go 204 = .ok (.istore_n 3, 1) := by decide +kernel
theorem dX12_go_205 : decode cX12_go 205 = .ok (.aload_n 0, 1) := by decide +kernel
theorem dX12_go_206 : decode cX12_go 206 = .ok (.lconst 0, 1) := by decide +kernel
theorem dX12_go_207 : decode cX12_go 207 = .ok (.putfield 43, 3) := by decide +kernel
theorem G1475 : Cond.fieldLink "HookedCityModel" 43 "HookedCityModel" "word" "J" ∈ GW := gw_i 1475 (by decide +kernel) rfl
theorem dX12_go_210 : decode cX12_go 210 = .ok (.aload_n 0, 1) := by decide +kernel
theorem dX12_go_211 : decode cX12_go 211 = .ok (.iconst 0, 1) := by decide +kernel
theorem dX12_go_212 : decode cX12_go 212 = .ok (.putfield 47, 3) := by decide +kernel
theorem G1471 : Cond.fieldLink "HookedCityModel" 47 "HookedCityModel" "number" "I" ∈ GW := gw_i 1471 (by decide +kernel) rfl
theorem dX12_go_215 : decode cX12_go 215 = .ok (.aload_n 0, 1) := by decide +kernel
theorem dX12_go_216 : decode cX12_go 216 = .ok (.aload_n 0, 1) := by decide +kernel
theorem dX12_go_217 : decode cX12_go 217 = .ok (.getfield 21, 3) := by decide +kernel
theorem dX12_go_220 : decode cX12_go 220 = .ok (.invokevirtual 50, 3) := by decide +kernel
theorem G1640 : Cond.code ⟨"HookedCityModel", "tapeAt", "(I)I"⟩ prog_14_method_13_code 2 (some .int) ∈ GW := gw_i 1640 (by decide +kernel) rfl
theorem G1637 : Cond.methodLink "HookedCityModel" 50 ⟨"HookedCityModel", "tapeAt", "(I)I"⟩ ∈ GW := gw_i 1637 (by decide +kernel) rfl
theorem V_HookedCityModel_50 : VL "HookedCityModel" 50 yX12_tapeAt cX12_tapeAt 2 (some .int) 1 := ⟨G1640, G1637, G131, by decide +kernel, by decide +kernel, by decide +kernel⟩
theorem G1639 : Cond.instanceMethod ⟨"HookedCityModel", "tapeAt", "(I)I"⟩ ∈ GW := gw_i 1639 (by decide +kernel) rfl
theorem G50 : Cond.selects "HookedCityModel" ⟨"HookedCityModel", "tapeAt", "(I)I"⟩ ⟨"HookedCityModel", "tapeAt", "(I)I"⟩ ∈ GW := gw_i 50 (by decide +kernel) rfl
theorem dX12_go_223 : decode cX12_go 223 = .ok (.invokestatic 33, 3) := by decide +kernel
theorem dX12_go_226 : decode cX12_go 226 = .ok (.ifCond .ne 17, 3) := by decide +kernel
theorem dX12_go_229 : decode cX12_go 229 = .ok (.aload_n 0, 1) := by decide +kernel
theorem dX12_go_230 : decode cX12_go 230 = .ok (.aload_n 0, 1) := by decide +kernel
theorem dX12_go_231 : decode cX12_go 231 = .ok (.getfield 21, 3) := by decide +kernel
theorem dX12_go_234 : decode cX12_go 234 = .ok (.invokevirtual 50, 3) := by decide +kernel
theorem dX12_go_237 : decode cX12_go 237 = .ok (.invokestatic 37, 3) := by decide +kernel
theorem G1636 : Cond.code ⟨"HookedCityModel", "isDigit", "(I)Z"⟩ prog_14_method_14_code 1 (some .boolean) ∈ GW := gw_i 1636 (by decide +kernel) rfl
theorem G1634 : Cond.methodLink "HookedCityModel" 37 ⟨"HookedCityModel", "isDigit", "(I)Z"⟩ ∈ GW := gw_i 1634 (by decide +kernel) rfl
theorem V_HookedCityModel_37 : VL "HookedCityModel" 37 yX12_isDigit cX12_isDigit 1 (some .boolean) 1 := ⟨G1636, G1634, G131, by decide +kernel, by decide +kernel, by decide +kernel⟩
theorem G1635 : Cond.static ⟨"HookedCityModel", "isDigit", "(I)Z"⟩ ∈ GW := gw_i 1635 (by decide +kernel) rfl
theorem dX12_go_240 : decode cX12_go 240 = .ok (.ifCond .eq 110, 3) := by decide +kernel
theorem dX12_go_350 : decode cX12_go 350 = .ok (.aload_n 0, 1) := by decide +kernel
theorem dX12_go_351 : decode cX12_go 351 = .ok (.iload_n 3, 1) := by decide +kernel
theorem dX12_go_352 : decode cX12_go 352 = .ok (.ifCond .eq 25, 3) := by decide +kernel
theorem dX12_go_377 : decode cX12_go 377 = .ok (.iconst 1, 1) := by decide +kernel
theorem dX12_go_378 : decode cX12_go 378 = .ok (.goto 12, 3) := by decide +kernel
theorem dX12_go_390 : decode cX12_go 390 = .ok (.putfield 30, 3) := by decide +kernel
theorem dX12_go_393 : decode cX12_go 393 = .ok (.return_, 1) := by decide +kernel
theorem dX12_go_355 : decode cX12_go 355 = .ok (.aload_n 0, 1) := by decide +kernel
theorem dX12_go_356 : decode cX12_go 356 = .ok (.getfield 21, 3) := by decide +kernel
theorem dX12_go_359 : decode cX12_go 359 = .ok (.aload_n 0, 1) := by decide +kernel
theorem dX12_go_360 : decode cX12_go 360 = .ok (.getfield 24, 3) := by decide +kernel
theorem dX12_go_363 : decode cX12_go 363 = .ok (.isub, 1) := by decide +kernel
theorem dX12_go_364 : decode cX12_go 364 = .ok (.iload_n 2, 1) := by decide +kernel
theorem dX12_go_365 : decode cX12_go 365 = .ok (.ifCond .eq 8, 3) := by decide +kernel
theorem dX12_go_373 : decode cX12_go 373 = .ok (.iconst 3, 1) := by decide +kernel
theorem dX12_go_374 : decode cX12_go 374 = .ok (.if_icmp .le 7, 3) := by decide +kernel
theorem dX12_go_381 : decode cX12_go 381 = .ok (.iload_n 2, 1) := by decide +kernel
theorem dX12_go_382 : decode cX12_go 382 = .ok (.ifCond .eq 7, 3) := by decide +kernel
theorem dX12_go_389 : decode cX12_go 389 = .ok (.iconst 3, 1) := by decide +kernel
theorem dX12_go_368 : decode cX12_go 368 = .ok (.bipush 7, 2) := by decide +kernel
theorem dX12_go_370 : decode cX12_go 370 = .ok (.goto 4, 3) := by decide +kernel
theorem dX12_go_385 : decode cX12_go 385 = .ok (.iconst 2, 1) := by decide +kernel
theorem dX12_go_386 : decode cX12_go 386 = .ok (.goto 4, 3) := by decide +kernel
theorem dX12_go_243 : decode cX12_go 243 = .ok (.aload_n 0, 1) := by decide +kernel
theorem dX12_go_244 : decode cX12_go 244 = .ok (.getfield 7, 3) := by decide +kernel
theorem dX12_go_247 : decode cX12_go 247 = .ok (.aload_n 0, 1) := by decide +kernel
theorem dX12_go_248 : decode cX12_go 248 = .ok (.getfield 21, 3) := by decide +kernel
theorem dX12_go_251 : decode cX12_go 251 = .ok (.iaload, 1) := by decide +kernel
theorem dX12_go_252 : decode cX12_go 252 = .ok (.istore 4, 2) := by decide +kernel
theorem dX12_go_254 : decode cX12_go 254 = .ok (.iload_n 3, 1) := by decide +kernel
theorem dX12_go_255 : decode cX12_go 255 = .ok (.ifCond .eq 16, 3) := by decide +kernel
theorem dX12_go_271 : decode cX12_go 271 = .ok (.iconst 0, 1) := by decide +kernel
theorem dX12_go_272 : decode cX12_go 272 = .ok (.istore_n 3, 1) := by decide +kernel
theorem dX12_go_273 : decode cX12_go 273 = .ok (.aload_n 0, 1) := by decide +kernel
theorem dX12_go_274 : decode cX12_go 274 = .ok (.getfield 21, 3) := by decide +kernel
theorem dX12_go_277 : decode cX12_go 277 = .ok (.aload_n 0, 1) := by decide +kernel
theorem dX12_go_278 : decode cX12_go 278 = .ok (.getfield 24, 3) := by decide +kernel
theorem dX12_go_281 : decode cX12_go 281 = .ok (.isub, 1) := by decide +kernel
theorem dX12_go_282 : decode cX12_go 282 = .ok (.bipush 7, 2) := by decide +kernel
theorem dX12_go_284 : decode cX12_go 284 = .ok (.if_icmp .ge 23, 3) := by decide +kernel
theorem dX12_go_307 : decode cX12_go 307 = .ok (.aload_n 0, 1) := by decide +kernel
theorem dX12_go_308 : decode cX12_go 308 = .ok (.getfield 21, 3) := by decide +kernel
theorem dX12_go_311 : decode cX12_go 311 = .ok (.aload_n 0, 1) := by decide +kernel
theorem dX12_go_312 : decode cX12_go 312 = .ok (.getfield 24, 3) := by decide +kernel
theorem dX12_go_315 : decode cX12_go 315 = .ok (.isub, 1) := by decide +kernel
theorem dX12_go_316 : decode cX12_go 316 = .ok (.iconst 3, 1) := by decide +kernel
theorem dX12_go_317 : decode cX12_go 317 = .ok (.if_icmp .ge 20, 3) := by decide +kernel
theorem dX12_go_337 : decode cX12_go 337 = .ok (.aload_n 0, 1) := by decide +kernel
theorem dX12_go_338 : decode cX12_go 338 = .ok (.dup, 1) := by decide +kernel
theorem dX12_go_339 : decode cX12_go 339 = .ok (.getfield 21, 3) := by decide +kernel
theorem dX12_go_342 : decode cX12_go 342 = .ok (.iconst 1, 1) := by decide +kernel
theorem dX12_go_343 : decode cX12_go 343 = .ok (.iadd, 1) := by decide +kernel
theorem dX12_go_344 : decode cX12_go 344 = .ok (.putfield 21, 3) := by decide +kernel
theorem dX12_go_347 : decode cX12_go 347 = .ok (.goto (-132), 3) := by decide +kernel
theorem dX12_go_320 : decode cX12_go 320 = .ok (.aload_n 0, 1) := by decide +kernel
theorem dX12_go_321 : decode cX12_go 321 = .ok (.bipush 10, 2) := by decide +kernel
theorem dX12_go_323 : decode cX12_go 323 = .ok (.aload_n 0, 1) := by decide +kernel
theorem dX12_go_324 : decode cX12_go 324 = .ok (.getfield 47, 3) := by decide +kernel
theorem dX12_go_327 : decode cX12_go 327 = .ok (.imul, 1) := by decide +kernel
theorem dX12_go_328 : decode cX12_go 328 = .ok (.iload 4, 2) := by decide +kernel
theorem dX12_go_330 : decode cX12_go 330 = .ok (.iadd, 1) := by decide +kernel
theorem dX12_go_331 : decode cX12_go 331 = .ok (.bipush 48, 2) := by decide +kernel
theorem dX12_go_333 : decode cX12_go 333 = .ok (.isub, 1) := by decide +kernel
theorem dX12_go_334 : decode cX12_go 334 = .ok (.putfield 47, 3) := by decide +kernel
theorem dX12_go_287 : decode cX12_go 287 = .ok (.aload_n 0, 1) := by decide +kernel
theorem dX12_go_288 : decode cX12_go 288 = .ok (.ldc2_w 54, 3) := by decide +kernel
theorem G1641 : Cond.constantLong "HookedCityModel" 54 27 ∈ GW := gw_i 1641 (by decide +kernel) rfl
theorem dX12_go_291 : decode cX12_go 291 = .ok (.aload_n 0, 1) := by decide +kernel
theorem dX12_go_292 : decode cX12_go 292 = .ok (.getfield 43, 3) := by decide +kernel
theorem dX12_go_295 : decode cX12_go 295 = .ok (.lmul, 1) := by decide +kernel
theorem dX12_go_296 : decode cX12_go 296 = .ok (.iload 4, 2) := by decide +kernel
theorem dX12_go_298 : decode cX12_go 298 = .ok (.i2l, 1) := by decide +kernel
theorem dX12_go_299 : decode cX12_go 299 = .ok (.ladd, 1) := by decide +kernel
theorem dX12_go_300 : decode cX12_go 300 = .ok (.ldc2_w 56, 3) := by decide +kernel
theorem G1642 : Cond.constantLong "HookedCityModel" 56 96 ∈ GW := gw_i 1642 (by decide +kernel) rfl
theorem dX12_go_303 : decode cX12_go 303 = .ok (.lsub, 1) := by decide +kernel
theorem dX12_go_304 : decode cX12_go 304 = .ok (.putfield 43, 3) := by decide +kernel
theorem dX12_go_258 : decode cX12_go 258 = .ok (.iload 4, 2) := by decide +kernel
theorem dX12_go_260 : decode cX12_go 260 = .ok (.invokestatic 33, 3) := by decide +kernel
theorem dX12_go_263 : decode cX12_go 263 = .ok (.iload_n 2, 1) := by decide +kernel
theorem dX12_go_264 : decode cX12_go 264 = .ok (.if_icmp .ne 7, 3) := by decide +kernel
theorem dX12_go_267 : decode cX12_go 267 = .ok (.iconst 1, 1) := by decide +kernel
theorem dX12_go_268 : decode cX12_go 268 = .ok (.goto 4, 3) := by decide +kernel
theorem dX12_go_130 : decode cX12_go 130 = .ok (.iload_n 1, 1) := by decide +kernel
theorem dX12_go_131 : decode cX12_go 131 = .ok (.invokestatic 37, 3) := by decide +kernel
theorem dX12_go_134 : decode cX12_go 134 = .ok (.ifCond .ne 64, 3) := by decide +kernel
theorem dX12_go_137 : decode cX12_go 137 = .ok (.aload_n 0, 1) := by decide +kernel
theorem dX12_go_138 : decode cX12_go 138 = .ok (.iload_n 1, 1) := by decide +kernel
theorem dX12_go_139 : decode cX12_go 139 = .ok (.bipush 59, 2) := by decide +kernel
theorem dX12_go_141 : decode cX12_go 141 = .ok (.if_icmp .eq 33, 3) := by decide +kernel
theorem dX12_go_174 : decode cX12_go 174 = .ok (.iconst 4, 1) := by decide +kernel
theorem dX12_go_175 : decode cX12_go 175 = .ok (.goto 4, 3) := by decide +kernel
theorem dX12_go_179 : decode cX12_go 179 = .ok (.putfield 30, 3) := by decide +kernel
theorem dX12_go_182 : decode cX12_go 182 = .ok (.aload_n 0, 1) := by decide +kernel
theorem dX12_go_183 : decode cX12_go 183 = .ok (.iload_n 1, 1) := by decide +kernel
theorem dX12_go_184 : decode cX12_go 184 = .ok (.putfield 40, 3) := by decide +kernel
theorem G1472 : Cond.fieldLink "HookedCityModel" 40 "HookedCityModel" "sign" "I" ∈ GW := gw_i 1472 (by decide +kernel) rfl
theorem dX12_go_187 : decode cX12_go 187 = .ok (.aload_n 0, 1) := by decide +kernel
theorem dX12_go_188 : decode cX12_go 188 = .ok (.dup, 1) := by decide +kernel
theorem dX12_go_189 : decode cX12_go 189 = .ok (.getfield 21, 3) := by decide +kernel
theorem dX12_go_192 : decode cX12_go 192 = .ok (.iconst 1, 1) := by decide +kernel
theorem dX12_go_193 : decode cX12_go 193 = .ok (.iadd, 1) := by decide +kernel
theorem dX12_go_194 : decode cX12_go 194 = .ok (.putfield 21, 3) := by decide +kernel
theorem dX12_go_197 : decode cX12_go 197 = .ok (.return_, 1) := by decide +kernel
theorem dX12_go_144 : decode cX12_go 144 = .ok (.iload_n 1, 1) := by decide +kernel
theorem dX12_go_145 : decode cX12_go 145 = .ok (.bipush 60, 2) := by decide +kernel
theorem dX12_go_147 : decode cX12_go 147 = .ok (.if_icmp .eq 27, 3) := by decide +kernel
theorem dX12_go_150 : decode cX12_go 150 = .ok (.iload_n 1, 1) := by decide +kernel
theorem dX12_go_151 : decode cX12_go 151 = .ok (.bipush 61, 2) := by decide +kernel
theorem dX12_go_153 : decode cX12_go 153 = .ok (.if_icmp .eq 21, 3) := by decide +kernel
theorem dX12_go_156 : decode cX12_go 156 = .ok (.iload_n 1, 1) := by decide +kernel
theorem dX12_go_157 : decode cX12_go 157 = .ok (.bipush 62, 2) := by decide +kernel
theorem dX12_go_159 : decode cX12_go 159 = .ok (.if_icmp .eq 15, 3) := by decide +kernel
theorem dX12_go_162 : decode cX12_go 162 = .ok (.iload_n 1, 1) := by decide +kernel
theorem dX12_go_163 : decode cX12_go 163 = .ok (.bipush 40, 2) := by decide +kernel
theorem dX12_go_165 : decode cX12_go 165 = .ok (.if_icmp .eq 9, 3) := by decide +kernel
theorem dX12_go_168 : decode cX12_go 168 = .ok (.iload_n 1, 1) := by decide +kernel
theorem dX12_go_169 : decode cX12_go 169 = .ok (.bipush 41, 2) := by decide +kernel
theorem dX12_go_171 : decode cX12_go 171 = .ok (.if_icmp .ne 7, 3) := by decide +kernel
theorem dX12_go_178 : decode cX12_go 178 = .ok (.iconst 1, 1) := by decide +kernel
set_option maxRecDepth 100000 in
set_option maxHeartbeats 4000000 in
theorem c1_X12_refuse (l : Launch) (D : va_G) (T : Nat → ClassId) (sz : Nat) (a0 : Nat) (r0 : Int32) (a1 : Nat) (x0 : Int) (x1 : Int) (r1 : Int32) (x2 : Int) (r2 : Int32) (x3 : Int) (x4 : Int) (r3 : Int32) (r4 : Int32) (r5 : Int32) (y0 : Int64) (x5 : Int) (a2 : Nat) (a3 : Nat) (a4 : Nat) (a5 : Nat) (a6 : Nat) (a7 : Nat) (a8 : Nat) (a9 : Nat) (a10 : Nat) (a11 : Nat) (x6 : Int) (a12 : Nat) (a13 : Nat) (a14 : Nat) (a15 : Nat) (x7 : Int) (r6 : Int32) (r7 : Int32) (a16 : Nat) (r8 : Int32) (r9 : Int32) (a17 : Nat) (a18 : Nat) (x8 : Int) (a19 : Nat) (x9 : Int) (r10 : Int32) (a20 : Nat) (a21 : Nat) (x10 : Int) (r11 : Int32) (a22 : Nat) (x11 : Int) (x12 : Int) (x13 : Int) (x14 : Int) (x0_a : 0 ≤ x0) (x0_b : x0 ≤ 940) (x1_a : 0 ≤ x1) (x1_b : x1 ≤ 940) (x2_a : 0 ≤ x2) (x2_b : x2 ≤ 940) (x3_a : 0 ≤ x3) (x3_b : x3 ≤ 4) (x4_a : (-2147483648) ≤ x4) (x4_b : x4 ≤ 2147483647) (x5_a : (-2147483648) ≤ x5) (x5_b : x5 ≤ 2147483647) (x6_a : 0 ≤ x6) (x6_b : x6 ≤ 8) (x7_a : 0 ≤ x7) (x7_b : x7 ≤ 9) (x8_a : 0 ≤ x8) (x8_b : x8 ≤ 9) (x9_a : 0 ≤ x9) (x9_b : x9 ≤ 64) (x10_a : 0 ≤ x10) (x10_b : x10 ≤ 40) (x11_a : 0 ≤ x11) (x11_b : x11 ≤ 40) (x12_a : 0 ≤ x12) (x12_b : x12 ≤ 20) (x13_a : 0 ≤ x13) (x13_b : x13 ≤ 8) (x14_a : 0 ≤ x14) (x14_b : x14 ≤ 39) : Met l yX12_refuse (Cond.code yX12_refuse cX12_refuse 1 (some .int) :: GW) (Rm 0 0 0) (cPre [.ref a0] D T [(a0, .inr (11, [.int r0, .ref a1, .int (iI x0), .int (iI x1), .int r1, .int (iI x2), .int r2, .int (iI x3), .int (iI x4), .int r3, .int r4, .int r5, .long y0, .int (iI x5), .ref a2, .ref a3, .ref a4, .ref a5, .ref a6, .ref a7, .ref a8, .ref a9, .ref a10, .ref a11, .int (iI x6), .ref a12, .ref a13, .ref a14, .ref a15, .int (iI x7), .int r6, .int r7, .ref a16, .int r8, .int r9, .ref a17, .ref a18, .int (iI x8), .ref a19, .int (iI x9), .int r10, .ref a20, .ref a21, .int (iI x10), .int r11, .ref a22, .int (iI x11), .int (iI x12), .int (iI x13), .int (iI x14)]))] sz) (qI D [(a0, .inr (11, [.int r0, .ref a1, .int (iI x0), .int (iI x1), .int r1, .int (iI x2), .int r2, .int (iI x3), .int (iI x4), .int r3, .int r4, .int r5, .long y0, .int (iI x5), .ref a2, .ref a3, .ref a4, .ref a5, .ref a6, .ref a7, .ref a8, .ref a9, .ref a10, .ref a11, .int (iI x6), .ref a12, .ref a13, .ref a14, .ref a15, .int (iI x7), .int r6, .int r7, .ref a16, .int r8, .int r9, .ref a17, .ref a18, .int (iI x8), .ref a19, .int (iI x9), .int r10, .ref a20, .ref a21, .int (iI x10), .int r11, .ref a22, .int (iI x11), .int (iI x12), .int (iI x13), .int (iI x14)]))] sz (fun (v : Int32) (u : Int × Int32) => iI u.1 = v ∧ (-2147483648) ≤ u.1 ∧ u.1 ≤ 2147483647 ∧ ((u.1 = 0))) (fun u => [(a0, .inr (11, [.int u.2, .ref a1, .int (iI x0), .int (iI x1), .int r1, .int (iI x2), .int r2, .int (iI x3), .int (iI x4), .int r3, .int r4, .int r5, .long y0, .int (iI x5), .ref a2, .ref a3, .ref a4, .ref a5, .ref a6, .ref a7, .ref a8, .ref a9, .ref a10, .ref a11, .int (iI x6), .ref a12, .ref a13, .ref a14, .ref a15, .int (iI x7), .int r6, .int r7, .ref a16, .int r8, .int r9, .ref a17, .ref a18, .int (iI x8), .ref a19, .int (iI x9), .int r10, .ref a20, .ref a21, .int (iI x10), .int r11, .ref a22, .int (iI x11), .int (iI x12), .int (iI x13), .int (iI x14)]))])) 0 0 (va_A [(a0, .inr (11, [.int r0, .ref a1, .int (iI x0), .int (iI x1), .int r1, .int (iI x2), .int r2, .int (iI x3), .int (iI x4), .int r3, .int r4, .int r5, .long y0, .int (iI x5), .ref a2, .ref a3, .ref a4, .ref a5, .ref a6, .ref a7, .ref a8, .ref a9, .ref a10, .ref a11, .int (iI x6), .ref a12, .ref a13, .ref a14, .ref a15, .int (iI x7), .int r6, .int r7, .ref a16, .int r8, .int r9, .ref a17, .ref a18, .int (iI x8), .ref a19, .int (iI x9), .int r10, .ref a20, .ref a21, .int (iI x10), .int r11, .ref a22, .int (iI x11), .int (iI x12), .int (iI x13), .int (iI x14)]))] sz) := by
  refine e_I (by decide) (Nat.le_of_ble_eq_true rfl) ?_
  intro p e s m args below meth c A Q ls M hin w ret hl
  have hx := M.1.1
  have hb := M.1.2.1
  have hl : lv_has ls 1 [(0, .ref a0)] := hl
  refine lv_aload_n hx hb dX12_refuse_0 rfl (lv_at hl 0 rfl) ?_
  refine lv_iconst (v := iI 1) hx hb dX12_refuse_1 (by decide +kernel) ?_
  refine r_put (ws' := [(a0, .inr (11, [.int (iI 1), .ref a1, .int (iI x0), .int (iI x1), .int r1, .int (iI x2), .int r2, .int (iI x3), .int (iI x4), .int r3, .int r4, .int r5, .long y0, .int (iI x5), .ref a2, .ref a3, .ref a4, .ref a5, .ref a6, .ref a7, .ref a8, .ref a9, .ref a10, .ref a11, .int (iI x6), .ref a12, .ref a13, .ref a14, .ref a15, .int (iI x7), .int r6, .int r7, .ref a16, .int r8, .int r9, .ref a17, .ref a18, .int (iI x8), .ref a19, .int (iI x9), .int r10, .ref a20, .ref a21, .int (iI x10), .int r11, .ref a22, .int (iI x11), .int (iI x12), .int (iI x13), .int (iI x14)]))]) M w 0 0 clX12 rfl (by decide) G1463 rfl rfl rfl rfl (Nat.le_of_ble_eq_true rfl) rfl dX12_refuse_2 (fun H locs w => ?_)
  refine lv_iconst (v := iI 0) hx hb dX12_refuse_5 (by decide +kernel) ?_
  exact ret _ (0, (iI 1)) _ _ _ _ _ [0] dX12_refuse_6 ⟨rfl, (show (-2147483648) ≤ 0 from by decide), (show (0 : Int) ≤ 2147483647 from by decide), rfl⟩ w (by decide) rfl
set_option maxRecDepth 100000 in
set_option maxHeartbeats 4000000 in
theorem c2_X12_come (l : Launch) (D : va_G) (T : Nat → ClassId) (sz : Nat) (a0 : Nat) (x0 : Int) (r0 : Int32) (a1 : Nat) (x1 : Int) (x2 : Int) (r1 : Int32) (x3 : Int) (r2 : Int32) (x4 : Int) (x5 : Int) (r3 : Int32) (r4 : Int32) (r5 : Int32) (y0 : Int64) (x6 : Int) (a2 : Nat) (a3 : Nat) (a4 : Nat) (a5 : Nat) (a6 : Nat) (a7 : Nat) (a8 : Nat) (a9 : Nat) (a10 : Nat) (a11 : Nat) (x7 : Int) (a12 : Nat) (a13 : Nat) (a14 : Nat) (a15 : Nat) (x8 : Int) (r6 : Int32) (r7 : Int32) (a16 : Nat) (r8 : Int32) (r9 : Int32) (a17 : Nat) (a18 : Nat) (x9 : Int) (a19 : Nat) (x10 : Int) (r10 : Int32) (a20 : Nat) (a21 : Nat) (x11 : Int) (r11 : Int32) (a22 : Nat) (x12 : Int) (x13 : Int) (x14 : Int) (x15 : Int) (f0 : Nat → Int32) (x0_a : (-2147483648) ≤ x0) (x0_b : x0 ≤ 2147483647) (x1_a : 0 ≤ x1) (x1_b : x1 ≤ 936) (x2_a : 0 ≤ x2) (x2_b : x2 ≤ 940) (x3_a : 0 ≤ x3) (x3_b : x3 ≤ 940) (x4_a : 0 ≤ x4) (x4_b : x4 ≤ 4) (x5_a : (-2147483648) ≤ x5) (x5_b : x5 ≤ 2147483647) (x6_a : (-2147483648) ≤ x6) (x6_b : x6 ≤ 2147483647) (x7_a : 0 ≤ x7) (x7_b : x7 ≤ 8) (x8_a : 0 ≤ x8) (x8_b : x8 ≤ 9) (x9_a : 0 ≤ x9) (x9_b : x9 ≤ 9) (x10_a : 0 ≤ x10) (x10_b : x10 ≤ 64) (x11_a : 0 ≤ x11) (x11_b : x11 ≤ 40) (x12_a : 0 ≤ x12) (x12_b : x12 ≤ 40) (x13_a : 0 ≤ x13) (x13_b : x13 ≤ 20) (x14_a : 0 ≤ x14) (x14_b : x14 ≤ 8) (x15_a : 0 ≤ x15) (x15_b : x15 ≤ 39) : Met l yX12_come (Cond.code yX12_come cX12_come 3 none :: GW) (Rm 0 0 0) (cPre [.ref a0, .int (iI x0)] D T [(a0, .inr (11, [.int r0, .ref a1, .int (iI x1), .int (iI x2), .int r1, .int (iI x3), .int r2, .int (iI x4), .int (iI x5), .int r3, .int r4, .int r5, .long y0, .int (iI x6), .ref a2, .ref a3, .ref a4, .ref a5, .ref a6, .ref a7, .ref a8, .ref a9, .ref a10, .ref a11, .int (iI x7), .ref a12, .ref a13, .ref a14, .ref a15, .int (iI x8), .int r6, .int r7, .ref a16, .int r8, .int r9, .ref a17, .ref a18, .int (iI x9), .ref a19, .int (iI x10), .int r10, .ref a20, .ref a21, .int (iI x11), .int r11, .ref a22, .int (iI x12), .int (iI x13), .int (iI x14), .int (iI x15)])), (a1, .inl (T 0, 940, .inl f0))] sz) (qV D [(a0, .inr (11, [.int r0, .ref a1, .int (iI x1), .int (iI x2), .int r1, .int (iI x3), .int r2, .int (iI x4), .int (iI x5), .int r3, .int r4, .int r5, .long y0, .int (iI x6), .ref a2, .ref a3, .ref a4, .ref a5, .ref a6, .ref a7, .ref a8, .ref a9, .ref a10, .ref a11, .int (iI x7), .ref a12, .ref a13, .ref a14, .ref a15, .int (iI x8), .int r6, .int r7, .ref a16, .int r8, .int r9, .ref a17, .ref a18, .int (iI x9), .ref a19, .int (iI x10), .int r10, .ref a20, .ref a21, .int (iI x11), .int r11, .ref a22, .int (iI x12), .int (iI x13), .int (iI x14), .int (iI x15)])), (a1, .inl (T 0, 940, .inl f0))] sz (fun (u : Int × (Nat → Int32)) => 0 ≤ u.1 ∧ u.1 ≤ 940 ∧ 0 ≤ ((x1 + 4) - u.1) ∧ 0 ≤ ((u.1 - 4) - x1)) (fun u => [(a0, .inr (11, [.int r0, .ref a1, .int (iI u.1), .int (iI x2), .int r1, .int (iI x3), .int r2, .int (iI x4), .int (iI x5), .int r3, .int r4, .int r5, .long y0, .int (iI x6), .ref a2, .ref a3, .ref a4, .ref a5, .ref a6, .ref a7, .ref a8, .ref a9, .ref a10, .ref a11, .int (iI x7), .ref a12, .ref a13, .ref a14, .ref a15, .int (iI x8), .int r6, .int r7, .ref a16, .int r8, .int r9, .ref a17, .ref a18, .int (iI x9), .ref a19, .int (iI x10), .int r10, .ref a20, .ref a21, .int (iI x11), .int r11, .ref a22, .int (iI x12), .int (iI x13), .int (iI x14), .int (iI x15)])), (a1, .inl (T 0, 940, .inl u.2))])) 0 0 (va_A [(a0, .inr (11, [.int r0, .ref a1, .int (iI x1), .int (iI x2), .int r1, .int (iI x3), .int r2, .int (iI x4), .int (iI x5), .int r3, .int r4, .int r5, .long y0, .int (iI x6), .ref a2, .ref a3, .ref a4, .ref a5, .ref a6, .ref a7, .ref a8, .ref a9, .ref a10, .ref a11, .int (iI x7), .ref a12, .ref a13, .ref a14, .ref a15, .int (iI x8), .int r6, .int r7, .ref a16, .int r8, .int r9, .ref a17, .ref a18, .int (iI x9), .ref a19, .int (iI x10), .int r10, .ref a20, .ref a21, .int (iI x11), .int r11, .ref a22, .int (iI x12), .int (iI x13), .int (iI x14), .int (iI x15)])), (a1, .inl (T 0, 940, .inl f0))] sz) := by
  refine e_V (by decide) (Nat.le_of_ble_eq_true rfl) ?_
  intro p e s m args below meth c A Q ls M hin w ret hl
  have hx := M.1.1
  have hb := M.1.2.1
  have hl : lv_has ls 3 [(0, .ref a0), (1, .int (iI x0))] := hl
  refine lv_bipush (v := iI 24) hx hb dX12_come_0 (by decide +kernel) ?_
  refine lv_istore_n (lv' := [(2, .int (iI 24)), (0, .ref a0), (1, .int (iI x0))]) hx hb dX12_come_2 rfl hl (by decide) rfl (fun ls hl => ?_)
  have loop1 : ∀ (k1 : Nat) (z1 : Int) (ff2 : Nat → Int32) (z3 : Int) (H : Heap) (locs : List Loc) (ls : Array Slot), 0 ≤ z1 → z1 ≤ 940 → (-8) ≤ z3 → z3 ≤ 24 → 0 ≤ (((24 - z3) - (z1 * 8)) + (x1 * 8)) → 0 ≤ ((z1 * 1) - x1) → 0 ≤ (((z3 - 24) + (z1 * 8)) - (x1 * 8)) → ((z3 + 8) : Int).toNat < k1 → WD D A s.heap [(a0, .inr (11, [.int r0, .ref a1, .int (iI z1), .int (iI x2), .int r1, .int (iI x3), .int r2, .int (iI x4), .int (iI x5), .int r3, .int r4, .int r5, .long y0, .int (iI x6), .ref a2, .ref a3, .ref a4, .ref a5, .ref a6, .ref a7, .ref a8, .ref a9, .ref a10, .ref a11, .int (iI x7), .ref a12, .ref a13, .ref a14, .ref a15, .int (iI x8), .int r6, .int r7, .ref a16, .int r8, .int r9, .ref a17, .ref a18, .int (iI x9), .ref a19, .int (iI x10), .int r10, .ref a20, .ref a21, .int (iI x11), .int r11, .ref a22, .int (iI x12), .int (iI x13), .int (iI x14), .int (iI x15)])), (a1, .inl (T 0, 940, .inl ff2))] H locs → lv_has ls 3 [(2, .int (iI z3)), (0, .ref a0), (1, .int (iI x0))] → W p l e (Rm 0 0 0) s m args below meth c H locs 0 0 Q (F0 m 3 ls []) := by
    intro k1
    induction k1 with
    | zero => intro z1 ff2 z3 H locs ls z1_a z1_b z3_a z3_b q1_0 q1_1 q1_2 hm; exact absurd hm (Nat.not_lt_zero _)
    | succ k1 ih1 =>
      intro z1 ff2 z3 H locs ls z1_a z1_b z3_a z3_b q1_0 q1_1 q1_2 hm1 w hl
      refine lv_iload_n hx hb dX12_come_3 rfl (lv_at hl 0 rfl) ?_
      refine lv_if_lt (tgt := 39) hx hb dX12_come_4 (by decide) (fun c_4 => ?_) (fun c_4 => ?_)
      · replace c_4 := (iz_lt (Int.le_trans (by decide) z3_a) (Int.le_trans z3_b (by decide))).mp c_4
        exact ret (z1, ff2) _ _ _ _ _ [0, 1] dX12_come_39 ⟨z1_a, z1_b, (show 0 ≤ ((x1 + 4) - z1) from by omega), (show 0 ≤ ((z1 - 4) - x1) from by omega)⟩ w (by decide) rfl
      · replace c_4 : 0 ≤ z3 := Int.not_lt.mp (fun h => c_4 ((iz_lt (Int.le_trans (by decide) z3_a) (Int.le_trans z3_b (by decide))).mpr h))
        refine lv_aload_n hx hb dX12_come_7 rfl (lv_at hl 1 rfl) ?_
        refine r_get (v := .ref a1) M w 0 1 clX12 rfl (by decide) G1464 rfl rfl dX12_come_8 ?_
        refine lv_aload_n hx hb dX12_come_11 rfl (lv_at hl 1 rfl) ?_
        refine r_get (v := .int (iI z1)) M w 0 2 clX12 rfl (by decide) G1465 rfl rfl dX12_come_12 ?_
        refine lv_iload_n hx hb dX12_come_15 rfl (lv_at hl 2 rfl) ?_
        refine lv_iload_n hx hb dX12_come_16 rfl (lv_at hl 0 rfl) ?_
        refine r_iushr (v := _) M rfl dX12_come_17 ?_
        refine b_any (fun z5 z5_a z5_b => ?_)
        refine lv_sipush (v := iI 255) hx hb dX12_come_18 (by decide +kernel) ?_
        refine r_iand (v := _) M rfl dX12_come_21 ?_
        refine b_rng (lo := 0) (hi := 255) (iand_r (by omega) (by omega)) (fun z6 z6_a z6_b => ?_)
        refine r_iast (ws' := [(a0, .inr (11, [.int r0, .ref a1, .int (iI z1), .int (iI x2), .int r1, .int (iI x3), .int r2, .int (iI x4), .int (iI x5), .int r3, .int r4, .int r5, .long y0, .int (iI x6), .ref a2, .ref a3, .ref a4, .ref a5, .ref a6, .ref a7, .ref a8, .ref a9, .ref a10, .ref a11, .int (iI x7), .ref a12, .ref a13, .ref a14, .ref a15, .int (iI x8), .int r6, .int r7, .ref a16, .int r8, .int r9, .ref a17, .ref a18, .int (iI x9), .ref a19, .int (iI x10), .int r10, .ref a20, .ref a21, .int (iI x11), .int r11, .ref a22, .int (iI x12), .int (iI x13), .int (iI x14), .int (iI x15)])), (a1, .inl (T 0, 940, .inl (upd ff2 (Int32.toNatClampNeg (iI z1)) (iI z6))))]) M w 1 rfl (iI_in (by omega) (by omega) (by decide)) rfl dX12_come_22 (fun H locs w => ?_)
        refine lv_aload_n hx hb dX12_come_23 rfl (lv_at hl 1 rfl) ?_
        refine lv_dup hx hb dX12_come_24 rfl ?_
        refine r_get (v := .int (iI z1)) M w 0 2 clX12 rfl (by decide) G1465 rfl rfl dX12_come_25 ?_
        refine lv_iconst (v := iI 1) hx hb dX12_come_28 (by decide +kernel) ?_
        refine r_iadd (v := iI (z1 + 1)) M (iI_add _ _) dX12_come_29 ?_
        refine r_put (ws' := [(a0, .inr (11, [.int r0, .ref a1, .int (iI (z1 + 1)), .int (iI x2), .int r1, .int (iI x3), .int r2, .int (iI x4), .int (iI x5), .int r3, .int r4, .int r5, .long y0, .int (iI x6), .ref a2, .ref a3, .ref a4, .ref a5, .ref a6, .ref a7, .ref a8, .ref a9, .ref a10, .ref a11, .int (iI x7), .ref a12, .ref a13, .ref a14, .ref a15, .int (iI x8), .int r6, .int r7, .ref a16, .int r8, .int r9, .ref a17, .ref a18, .int (iI x9), .ref a19, .int (iI x10), .int r10, .ref a20, .ref a21, .int (iI x11), .int r11, .ref a22, .int (iI x12), .int (iI x13), .int (iI x14), .int (iI x15)])), (a1, .inl (T 0, 940, .inl (upd ff2 (Int32.toNatClampNeg (iI z1)) (iI z6))))]) M w 0 2 clX12 rfl (by decide) G1465 rfl rfl rfl rfl (Nat.le_of_ble_eq_true rfl) rfl dX12_come_30 (fun H locs w => ?_)
        refine lv_iinc (v := iI (z3 + (-8))) (lv' := [(2, .int (iI (z3 + (-8)))), (0, .ref a0), (1, .int (iI x0))]) hx hb dX12_come_33 hl (k := 0) rfl (ii_inc (by decide +kernel)) (by decide) rfl (fun ls hl => ?_)
        refine lv_goto (tgt := 3) hx hb dX12_come_36 (by decide) ?_
        exact ih1 (z1 + 1) (upd ff2 (Int32.toNatClampNeg (iI z1)) (iI z6)) (z3 + (-8)) _ _ _ (by omega) (by omega) (by omega) (by omega) (by omega) (by omega) (by omega) (by omega) w (lv_sub hl [0, 1, 2] rfl)
  exact loop1 ((32 : Int).toNat + 1) x1 f0 24 _ _ _ (by omega) (by omega) (by decide) (by decide) (by omega) (by omega) (by omega) (Nat.lt_succ_self _) w (lv_sub hl [0, 1, 2] rfl)
set_option maxRecDepth 100000 in
set_option maxHeartbeats 4000000 in
theorem c3_X12_feed (l : Launch) (D : va_G) (T : Nat → ClassId) (sz : Nat) (a0 : Nat) (x0 : Int) (x1 : Int) (x2 : Int) (x3 : Int) (x4 : Int) (r0 : Int32) (a1 : Nat) (x5 : Int) (x6 : Int) (r1 : Int32) (x7 : Int) (r2 : Int32) (x8 : Int) (x9 : Int) (r3 : Int32) (r4 : Int32) (r5 : Int32) (y0 : Int64) (x10 : Int) (a2 : Nat) (a3 : Nat) (a4 : Nat) (a5 : Nat) (a6 : Nat) (a7 : Nat) (a8 : Nat) (a9 : Nat) (a10 : Nat) (a11 : Nat) (x11 : Int) (a12 : Nat) (a13 : Nat) (a14 : Nat) (a15 : Nat) (x12 : Int) (r6 : Int32) (r7 : Int32) (a16 : Nat) (r8 : Int32) (r9 : Int32) (a17 : Nat) (a18 : Nat) (x13 : Int) (a19 : Nat) (x14 : Int) (r10 : Int32) (a20 : Nat) (a21 : Nat) (x15 : Int) (r11 : Int32) (a22 : Nat) (x16 : Int) (x17 : Int) (x18 : Int) (x19 : Int) (f0 : Nat → Int32) (x0_a : (-2147483648) ≤ x0) (x0_b : x0 ≤ 2147483647) (x1_a : (-2147483648) ≤ x1) (x1_b : x1 ≤ 2147483647) (x2_a : (-2147483648) ≤ x2) (x2_b : x2 ≤ 2147483647) (x3_a : (-2147483648) ≤ x3) (x3_b : x3 ≤ 2147483647) (x4_a : (-2147483648) ≤ x4) (x4_b : x4 ≤ 2147483647) (x5_a : 0 ≤ x5) (x5_b : x5 ≤ 940) (x6_a : 0 ≤ x6) (x6_b : x6 ≤ 940) (x7_a : 0 ≤ x7) (x7_b : x7 ≤ 940) (x8_a : 0 ≤ x8) (x8_b : x8 ≤ 4) (x9_a : (-2147483648) ≤ x9) (x9_b : x9 ≤ 2147483647) (x10_a : (-2147483648) ≤ x10) (x10_b : x10 ≤ 2147483647) (x11_a : 0 ≤ x11) (x11_b : x11 ≤ 8) (x12_a : 0 ≤ x12) (x12_b : x12 ≤ 9) (x13_a : 0 ≤ x13) (x13_b : x13 ≤ 9) (x14_a : 0 ≤ x14) (x14_b : x14 ≤ 64) (x15_a : 0 ≤ x15) (x15_b : x15 ≤ 40) (x16_a : 0 ≤ x16) (x16_b : x16 ≤ 40) (x17_a : 0 ≤ x17) (x17_b : x17 ≤ 20) (x18_a : 0 ≤ x18) (x18_b : x18 ≤ 8) (x19_a : 0 ≤ x19) (x19_b : x19 ≤ 39) : Met l yX12_feed (Cond.code yX12_feed cX12_feed 6 (some .int) :: GW) (Rm 1 0 0) (cPre [.ref a0, .int (iI x0), .int (iI x1), .int (iI x2), .int (iI x3), .int (iI x4)] D T [(a0, .inr (11, [.int r0, .ref a1, .int (iI x5), .int (iI x6), .int r1, .int (iI x7), .int r2, .int (iI x8), .int (iI x9), .int r3, .int r4, .int r5, .long y0, .int (iI x10), .ref a2, .ref a3, .ref a4, .ref a5, .ref a6, .ref a7, .ref a8, .ref a9, .ref a10, .ref a11, .int (iI x11), .ref a12, .ref a13, .ref a14, .ref a15, .int (iI x12), .int r6, .int r7, .ref a16, .int r8, .int r9, .ref a17, .ref a18, .int (iI x13), .ref a19, .int (iI x14), .int r10, .ref a20, .ref a21, .int (iI x15), .int r11, .ref a22, .int (iI x16), .int (iI x17), .int (iI x18), .int (iI x19)])), (a1, .inl (T 0, 940, .inl f0))] sz) (qI D [(a0, .inr (11, [.int r0, .ref a1, .int (iI x5), .int (iI x6), .int r1, .int (iI x7), .int r2, .int (iI x8), .int (iI x9), .int r3, .int r4, .int r5, .long y0, .int (iI x10), .ref a2, .ref a3, .ref a4, .ref a5, .ref a6, .ref a7, .ref a8, .ref a9, .ref a10, .ref a11, .int (iI x11), .ref a12, .ref a13, .ref a14, .ref a15, .int (iI x12), .int r6, .int r7, .ref a16, .int r8, .int r9, .ref a17, .ref a18, .int (iI x13), .ref a19, .int (iI x14), .int r10, .ref a20, .ref a21, .int (iI x15), .int r11, .ref a22, .int (iI x16), .int (iI x17), .int (iI x18), .int (iI x19)])), (a1, .inl (T 0, 940, .inl f0))] sz (fun (v : Int32) (u : Int × Int32 × Int × (Nat → Int32)) => iI u.1 = v ∧ (-2147483648) ≤ u.1 ∧ u.1 ≤ 2147483647 ∧ 0 ≤ u.2.2.1 ∧ u.2.2.1 ≤ 940 ∧ (fdT u.1 x5 u.2.2.1)) (fun u => [(a0, .inr (11, [.int u.2.1, .ref a1, .int (iI u.2.2.1), .int (iI x6), .int r1, .int (iI x7), .int r2, .int (iI x8), .int (iI x9), .int r3, .int r4, .int r5, .long y0, .int (iI x10), .ref a2, .ref a3, .ref a4, .ref a5, .ref a6, .ref a7, .ref a8, .ref a9, .ref a10, .ref a11, .int (iI x11), .ref a12, .ref a13, .ref a14, .ref a15, .int (iI x12), .int r6, .int r7, .ref a16, .int r8, .int r9, .ref a17, .ref a18, .int (iI x13), .ref a19, .int (iI x14), .int r10, .ref a20, .ref a21, .int (iI x15), .int r11, .ref a22, .int (iI x16), .int (iI x17), .int (iI x18), .int (iI x19)])), (a1, .inl (T 0, 940, .inl u.2.2.2))])) 0 0 (va_A [(a0, .inr (11, [.int r0, .ref a1, .int (iI x5), .int (iI x6), .int r1, .int (iI x7), .int r2, .int (iI x8), .int (iI x9), .int r3, .int r4, .int r5, .long y0, .int (iI x10), .ref a2, .ref a3, .ref a4, .ref a5, .ref a6, .ref a7, .ref a8, .ref a9, .ref a10, .ref a11, .int (iI x11), .ref a12, .ref a13, .ref a14, .ref a15, .int (iI x12), .int r6, .int r7, .ref a16, .int r8, .int r9, .ref a17, .ref a18, .int (iI x13), .ref a19, .int (iI x14), .int r10, .ref a20, .ref a21, .int (iI x15), .int r11, .ref a22, .int (iI x16), .int (iI x17), .int (iI x18), .int (iI x19)])), (a1, .inl (T 0, 940, .inl f0))] sz) := by
  refine e_I (by decide) (Nat.le_of_ble_eq_true rfl) ?_
  intro p e s m args below meth c A Q ls M hin w ret hl
  have hx := M.1.1
  have hb := M.1.2.1
  have hl : lv_has ls 6 [(0, .ref a0), (1, .int (iI x0)), (2, .int (iI x1)), (3, .int (iI x2)), (4, .int (iI x3)), (5, .int (iI x4))] := hl
  refine lv_aload_n hx hb dX12_feed_0 rfl (lv_at hl 0 rfl) ?_
  refine lv_iconst (v := iI 0) hx hb dX12_feed_1 (by decide +kernel) ?_
  refine r_put (ws' := [(a0, .inr (11, [.int (iI 0), .ref a1, .int (iI x5), .int (iI x6), .int r1, .int (iI x7), .int r2, .int (iI x8), .int (iI x9), .int r3, .int r4, .int r5, .long y0, .int (iI x10), .ref a2, .ref a3, .ref a4, .ref a5, .ref a6, .ref a7, .ref a8, .ref a9, .ref a10, .ref a11, .int (iI x11), .ref a12, .ref a13, .ref a14, .ref a15, .int (iI x12), .int r6, .int r7, .ref a16, .int r8, .int r9, .ref a17, .ref a18, .int (iI x13), .ref a19, .int (iI x14), .int r10, .ref a20, .ref a21, .int (iI x15), .int r11, .ref a22, .int (iI x16), .int (iI x17), .int (iI x18), .int (iI x19)])), (a1, .inl (T 0, 940, .inl f0))]) M w 0 0 clX12 rfl (by decide) G1463 rfl rfl rfl rfl (Nat.le_of_ble_eq_true rfl) rfl dX12_feed_2 (fun H locs w => ?_)
  refine lv_aload_n hx hb dX12_feed_5 rfl (lv_at hl 0 rfl) ?_
  refine r_get (v := .int (iI x5)) M w 0 2 clX12 rfl (by decide) G1465 rfl rfl dX12_feed_6 ?_
  refine lv_bipush (v := iI 20) hx hb dX12_feed_9 (by decide +kernel) ?_
  refine r_iadd (v := iI (x5 + 20)) M (iI_add _ _) dX12_feed_11 ?_
  refine lv_sipush (v := iI 940) hx hb dX12_feed_12 (by decide +kernel) ?_
  refine lv_icmp_le (tgt := 20) hx hb dX12_feed_15 (by decide) (fun c_1 => ?_) (fun c_1 => ?_)
  · replace c_1 := (iI_le (by omega) (by omega) (by decide) (by decide)).mp c_1
    refine lv_aload_n hx hb dX12_feed_20 rfl (lv_at hl 0 rfl) ?_
    refine lv_iload_n hx hb dX12_feed_21 rfl (lv_at hl 1 rfl) ?_
    refine k_V (ce := 0) (sl := 0) (rest := []) (wr := []) (r_V (f := 0) [0, 1] M w V_HookedCityModel_14 G1443 G44 (c2_X12_come l D T _ a0 x0 (iI 0) a1 x5 x6 r1 x7 r2 x8 x9 r3 r4 r5 y0 x10 a2 a3 a4 a5 a6 a7 a8 a9 a10 a11 x11 a12 a13 a14 a15 x12 r6 r7 a16 r8 r9 a17 a18 x13 a19 x14 r10 a20 a21 x15 r11 a22 x16 x17 x18 x19 f0 x0_a x0_b (by omega) (by omega) x6_a x6_b x7_a x7_b x8_a x8_b x9_a x9_b x10_a x10_b x11_a x11_b x12_a x12_b x13_a x13_b x14_a x14_b x15_a x15_b x16_a x16_b x17_a x17_b x18_a x18_b x19_a x19_b) 0 clX12 rfl rfl (by decide) rfl hl.1 rfl (Nat.le_of_ble_eq_true rfl) dX12_feed_22 (by decide) (by decide) (by decide) (by decide)) w [0, 1] [] rfl rfl (by decide) (by decide) rfl rfl (fun u H locs hp w => ?_)
    obtain ⟨z2, ff3⟩ := u
    have z2_a : 0 ≤ z2 := hp.1
    have z2_b : z2 ≤ 940 := hp.2.1
    have ee4 : 0 ≤ ((x5 + 4) - z2) := hp.2.2.1
    have ee5 : 0 ≤ ((z2 - 4) - x5) := hp.2.2.2
    have w : WD D A s.heap [(a0, .inr (11, [.int (iI 0), .ref a1, .int (iI z2), .int (iI x6), .int r1, .int (iI x7), .int r2, .int (iI x8), .int (iI x9), .int r3, .int r4, .int r5, .long y0, .int (iI x10), .ref a2, .ref a3, .ref a4, .ref a5, .ref a6, .ref a7, .ref a8, .ref a9, .ref a10, .ref a11, .int (iI x11), .ref a12, .ref a13, .ref a14, .ref a15, .int (iI x12), .int r6, .int r7, .ref a16, .int r8, .int r9, .ref a17, .ref a18, .int (iI x13), .ref a19, .int (iI x14), .int r10, .ref a20, .ref a21, .int (iI x15), .int r11, .ref a22, .int (iI x16), .int (iI x17), .int (iI x18), .int (iI x19)])), (a1, .inl (T 0, 940, .inl ff3))] H locs := w
    refine lv_aload_n hx hb dX12_feed_25 rfl (lv_at hl 0 rfl) ?_
    refine lv_iload_n hx hb dX12_feed_26 rfl (lv_at hl 2 rfl) ?_
    refine k_V (ce := 0) (sl := 0) (rest := []) (wr := []) (r_V (f := 0) [0, 1] M w V_HookedCityModel_14 G1443 G44 (c2_X12_come l D T _ a0 x1 (iI 0) a1 z2 x6 r1 x7 r2 x8 x9 r3 r4 r5 y0 x10 a2 a3 a4 a5 a6 a7 a8 a9 a10 a11 x11 a12 a13 a14 a15 x12 r6 r7 a16 r8 r9 a17 a18 x13 a19 x14 r10 a20 a21 x15 r11 a22 x16 x17 x18 x19 ff3 x1_a x1_b (by omega) (by omega) x6_a x6_b x7_a x7_b x8_a x8_b x9_a x9_b x10_a x10_b x11_a x11_b x12_a x12_b x13_a x13_b x14_a x14_b x15_a x15_b x16_a x16_b x17_a x17_b x18_a x18_b x19_a x19_b) 0 clX12 rfl rfl (by decide) rfl hl.1 rfl (Nat.le_of_ble_eq_true rfl) dX12_feed_27 (by decide) (by decide) (by decide) (by decide)) w [0, 1] [] rfl rfl (by decide) (by decide) rfl rfl (fun u H locs hp w => ?_)
    obtain ⟨z6, ff7⟩ := u
    have z6_a : 0 ≤ z6 := hp.1
    have z6_b : z6 ≤ 940 := hp.2.1
    have ee8 : 0 ≤ ((z2 + 4) - z6) := hp.2.2.1
    have ee9 : 0 ≤ ((z6 - 4) - z2) := hp.2.2.2
    have w : WD D A s.heap [(a0, .inr (11, [.int (iI 0), .ref a1, .int (iI z6), .int (iI x6), .int r1, .int (iI x7), .int r2, .int (iI x8), .int (iI x9), .int r3, .int r4, .int r5, .long y0, .int (iI x10), .ref a2, .ref a3, .ref a4, .ref a5, .ref a6, .ref a7, .ref a8, .ref a9, .ref a10, .ref a11, .int (iI x11), .ref a12, .ref a13, .ref a14, .ref a15, .int (iI x12), .int r6, .int r7, .ref a16, .int r8, .int r9, .ref a17, .ref a18, .int (iI x13), .ref a19, .int (iI x14), .int r10, .ref a20, .ref a21, .int (iI x15), .int r11, .ref a22, .int (iI x16), .int (iI x17), .int (iI x18), .int (iI x19)])), (a1, .inl (T 0, 940, .inl ff7))] H locs := w
    refine lv_aload_n hx hb dX12_feed_30 rfl (lv_at hl 0 rfl) ?_
    refine lv_iload_n hx hb dX12_feed_31 rfl (lv_at hl 3 rfl) ?_
    refine k_V (ce := 0) (sl := 0) (rest := []) (wr := []) (r_V (f := 0) [0, 1] M w V_HookedCityModel_14 G1443 G44 (c2_X12_come l D T _ a0 x2 (iI 0) a1 z6 x6 r1 x7 r2 x8 x9 r3 r4 r5 y0 x10 a2 a3 a4 a5 a6 a7 a8 a9 a10 a11 x11 a12 a13 a14 a15 x12 r6 r7 a16 r8 r9 a17 a18 x13 a19 x14 r10 a20 a21 x15 r11 a22 x16 x17 x18 x19 ff7 x2_a x2_b (by omega) (by omega) x6_a x6_b x7_a x7_b x8_a x8_b x9_a x9_b x10_a x10_b x11_a x11_b x12_a x12_b x13_a x13_b x14_a x14_b x15_a x15_b x16_a x16_b x17_a x17_b x18_a x18_b x19_a x19_b) 0 clX12 rfl rfl (by decide) rfl hl.1 rfl (Nat.le_of_ble_eq_true rfl) dX12_feed_32 (by decide) (by decide) (by decide) (by decide)) w [0, 1] [] rfl rfl (by decide) (by decide) rfl rfl (fun u H locs hp w => ?_)
    obtain ⟨z10, ff11⟩ := u
    have z10_a : 0 ≤ z10 := hp.1
    have z10_b : z10 ≤ 940 := hp.2.1
    have ee12 : 0 ≤ ((z6 + 4) - z10) := hp.2.2.1
    have ee13 : 0 ≤ ((z10 - 4) - z6) := hp.2.2.2
    have w : WD D A s.heap [(a0, .inr (11, [.int (iI 0), .ref a1, .int (iI z10), .int (iI x6), .int r1, .int (iI x7), .int r2, .int (iI x8), .int (iI x9), .int r3, .int r4, .int r5, .long y0, .int (iI x10), .ref a2, .ref a3, .ref a4, .ref a5, .ref a6, .ref a7, .ref a8, .ref a9, .ref a10, .ref a11, .int (iI x11), .ref a12, .ref a13, .ref a14, .ref a15, .int (iI x12), .int r6, .int r7, .ref a16, .int r8, .int r9, .ref a17, .ref a18, .int (iI x13), .ref a19, .int (iI x14), .int r10, .ref a20, .ref a21, .int (iI x15), .int r11, .ref a22, .int (iI x16), .int (iI x17), .int (iI x18), .int (iI x19)])), (a1, .inl (T 0, 940, .inl ff11))] H locs := w
    refine lv_aload_n hx hb dX12_feed_35 rfl (lv_at hl 0 rfl) ?_
    refine lv_iload hx hb dX12_feed_36 (lv_at hl 4 rfl) ?_
    refine k_V (ce := 0) (sl := 0) (rest := []) (wr := []) (r_V (f := 0) [0, 1] M w V_HookedCityModel_14 G1443 G44 (c2_X12_come l D T _ a0 x3 (iI 0) a1 z10 x6 r1 x7 r2 x8 x9 r3 r4 r5 y0 x10 a2 a3 a4 a5 a6 a7 a8 a9 a10 a11 x11 a12 a13 a14 a15 x12 r6 r7 a16 r8 r9 a17 a18 x13 a19 x14 r10 a20 a21 x15 r11 a22 x16 x17 x18 x19 ff11 x3_a x3_b (by omega) (by omega) x6_a x6_b x7_a x7_b x8_a x8_b x9_a x9_b x10_a x10_b x11_a x11_b x12_a x12_b x13_a x13_b x14_a x14_b x15_a x15_b x16_a x16_b x17_a x17_b x18_a x18_b x19_a x19_b) 0 clX12 rfl rfl (by decide) rfl hl.1 rfl (Nat.le_of_ble_eq_true rfl) dX12_feed_38 (by decide) (by decide) (by decide) (by decide)) w [0, 1] [] rfl rfl (by decide) (by decide) rfl rfl (fun u H locs hp w => ?_)
    obtain ⟨z14, ff15⟩ := u
    have z14_a : 0 ≤ z14 := hp.1
    have z14_b : z14 ≤ 940 := hp.2.1
    have ee16 : 0 ≤ ((z10 + 4) - z14) := hp.2.2.1
    have ee17 : 0 ≤ ((z14 - 4) - z10) := hp.2.2.2
    have w : WD D A s.heap [(a0, .inr (11, [.int (iI 0), .ref a1, .int (iI z14), .int (iI x6), .int r1, .int (iI x7), .int r2, .int (iI x8), .int (iI x9), .int r3, .int r4, .int r5, .long y0, .int (iI x10), .ref a2, .ref a3, .ref a4, .ref a5, .ref a6, .ref a7, .ref a8, .ref a9, .ref a10, .ref a11, .int (iI x11), .ref a12, .ref a13, .ref a14, .ref a15, .int (iI x12), .int r6, .int r7, .ref a16, .int r8, .int r9, .ref a17, .ref a18, .int (iI x13), .ref a19, .int (iI x14), .int r10, .ref a20, .ref a21, .int (iI x15), .int r11, .ref a22, .int (iI x16), .int (iI x17), .int (iI x18), .int (iI x19)])), (a1, .inl (T 0, 940, .inl ff15))] H locs := w
    refine lv_aload_n hx hb dX12_feed_41 rfl (lv_at hl 0 rfl) ?_
    refine lv_iload hx hb dX12_feed_42 (lv_at hl 5 rfl) ?_
    refine k_V (ce := 0) (sl := 0) (rest := []) (wr := []) (r_V (f := 0) [0, 1] M w V_HookedCityModel_14 G1443 G44 (c2_X12_come l D T _ a0 x4 (iI 0) a1 z14 x6 r1 x7 r2 x8 x9 r3 r4 r5 y0 x10 a2 a3 a4 a5 a6 a7 a8 a9 a10 a11 x11 a12 a13 a14 a15 x12 r6 r7 a16 r8 r9 a17 a18 x13 a19 x14 r10 a20 a21 x15 r11 a22 x16 x17 x18 x19 ff15 x4_a x4_b (by omega) (by omega) x6_a x6_b x7_a x7_b x8_a x8_b x9_a x9_b x10_a x10_b x11_a x11_b x12_a x12_b x13_a x13_b x14_a x14_b x15_a x15_b x16_a x16_b x17_a x17_b x18_a x18_b x19_a x19_b) 0 clX12 rfl rfl (by decide) rfl hl.1 rfl (Nat.le_of_ble_eq_true rfl) dX12_feed_44 (by decide) (by decide) (by decide) (by decide)) w [0, 1] [] rfl rfl (by decide) (by decide) rfl rfl (fun u H locs hp w => ?_)
    obtain ⟨z18, ff19⟩ := u
    have z18_a : 0 ≤ z18 := hp.1
    have z18_b : z18 ≤ 940 := hp.2.1
    have ee20 : 0 ≤ ((z14 + 4) - z18) := hp.2.2.1
    have ee21 : 0 ≤ ((z18 - 4) - z14) := hp.2.2.2
    have w : WD D A s.heap [(a0, .inr (11, [.int (iI 0), .ref a1, .int (iI z18), .int (iI x6), .int r1, .int (iI x7), .int r2, .int (iI x8), .int (iI x9), .int r3, .int r4, .int r5, .long y0, .int (iI x10), .ref a2, .ref a3, .ref a4, .ref a5, .ref a6, .ref a7, .ref a8, .ref a9, .ref a10, .ref a11, .int (iI x11), .ref a12, .ref a13, .ref a14, .ref a15, .int (iI x12), .int r6, .int r7, .ref a16, .int r8, .int r9, .ref a17, .ref a18, .int (iI x13), .ref a19, .int (iI x14), .int r10, .ref a20, .ref a21, .int (iI x15), .int r11, .ref a22, .int (iI x16), .int (iI x17), .int (iI x18), .int (iI x19)])), (a1, .inl (T 0, 940, .inl ff19))] H locs := w
    refine lv_aload_n hx hb dX12_feed_47 rfl (lv_at hl 0 rfl) ?_
    refine r_get (v := .int (iI z18)) M w 0 2 clX12 rfl (by decide) G1465 rfl rfl dX12_feed_48 ?_
    exact ret _ (z18, (iI 0), z18, ff19) _ _ _ _ _ [0, 1] dX12_feed_51 ⟨rfl, (show (-2147483648) ≤ z18 from by omega), (show z18 ≤ 2147483647 from by omega), z18_a, z18_b, (show fdT z18 x5 z18 from (by unfold fdT; omega))⟩ w (by decide) rfl
  · replace c_1 : 940 < (x5 + 20) := Int.not_le.mp (fun h => c_1 ((iI_le (by omega) (by omega) (by decide) (by decide)).mpr h))
    refine lv_iconst (v := iI (-1)) hx hb dX12_feed_18 (by decide +kernel) ?_
    exact ret _ ((-1), (iI 0), x5, f0) _ _ _ _ _ [0, 1] dX12_feed_19 ⟨rfl, (show (-2147483648) ≤ (-1) from by decide), (show ((-1) : Int) ≤ 2147483647 from by decide), x5_a, x5_b, (show fdT (-1) x5 x5 from (by unfold fdT; omega))⟩ w (by decide) rfl
set_option maxRecDepth 100000 in
set_option maxHeartbeats 4000000 in
theorem c4_X12_end (l : Launch) (D : va_G) (T : Nat → ClassId) (sz : Nat) (a0 : Nat) (x0 : Int) (r0 : Int32) (a1 : Nat) (x1 : Int) (x2 : Int) (r1 : Int32) (x3 : Int) (r2 : Int32) (x4 : Int) (x5 : Int) (r3 : Int32) (r4 : Int32) (r5 : Int32) (y0 : Int64) (x6 : Int) (a2 : Nat) (a3 : Nat) (a4 : Nat) (a5 : Nat) (a6 : Nat) (a7 : Nat) (a8 : Nat) (a9 : Nat) (a10 : Nat) (a11 : Nat) (x7 : Int) (a12 : Nat) (a13 : Nat) (a14 : Nat) (a15 : Nat) (x8 : Int) (r6 : Int32) (r7 : Int32) (a16 : Nat) (r8 : Int32) (r9 : Int32) (a17 : Nat) (a18 : Nat) (x9 : Int) (a19 : Nat) (x10 : Int) (r10 : Int32) (a20 : Nat) (a21 : Nat) (x11 : Int) (r11 : Int32) (a22 : Nat) (x12 : Int) (x13 : Int) (x14 : Int) (x15 : Int) (x0_a : (-2147483648) ≤ x0) (x0_b : x0 ≤ 2147483647) (x1_a : 0 ≤ x1) (x1_b : x1 ≤ 940) (x2_a : 0 ≤ x2) (x2_b : x2 ≤ 940) (x3_a : 0 ≤ x3) (x3_b : x3 ≤ 940) (x4_a : 0 ≤ x4) (x4_b : x4 ≤ 4) (x5_a : (-2147483648) ≤ x5) (x5_b : x5 ≤ 2147483647) (x6_a : (-2147483648) ≤ x6) (x6_b : x6 ≤ 2147483647) (x7_a : 0 ≤ x7) (x7_b : x7 ≤ 8) (x8_a : 0 ≤ x8) (x8_b : x8 ≤ 9) (x9_a : 0 ≤ x9) (x9_b : x9 ≤ 9) (x10_a : 0 ≤ x10) (x10_b : x10 ≤ 64) (x11_a : 0 ≤ x11) (x11_b : x11 ≤ 40) (x12_a : 0 ≤ x12) (x12_b : x12 ≤ 40) (x13_a : 0 ≤ x13) (x13_b : x13 ≤ 20) (x14_a : 0 ≤ x14) (x14_b : x14 ≤ 8) (x15_a : 0 ≤ x15) (x15_b : x15 ≤ 39) : Met l yX12_end (Cond.code yX12_end cX12_end 2 (some .boolean) :: GW) (Rm 0 0 0) (cPre [.ref a0, .int (iI x0)] D T [(a0, .inr (11, [.int r0, .ref a1, .int (iI x1), .int (iI x2), .int r1, .int (iI x3), .int r2, .int (iI x4), .int (iI x5), .int r3, .int r4, .int r5, .long y0, .int (iI x6), .ref a2, .ref a3, .ref a4, .ref a5, .ref a6, .ref a7, .ref a8, .ref a9, .ref a10, .ref a11, .int (iI x7), .ref a12, .ref a13, .ref a14, .ref a15, .int (iI x8), .int r6, .int r7, .ref a16, .int r8, .int r9, .ref a17, .ref a18, .int (iI x9), .ref a19, .int (iI x10), .int r10, .ref a20, .ref a21, .int (iI x11), .int r11, .ref a22, .int (iI x12), .int (iI x13), .int (iI x14), .int (iI x15)]))] sz) (qI D [(a0, .inr (11, [.int r0, .ref a1, .int (iI x1), .int (iI x2), .int r1, .int (iI x3), .int r2, .int (iI x4), .int (iI x5), .int r3, .int r4, .int r5, .long y0, .int (iI x6), .ref a2, .ref a3, .ref a4, .ref a5, .ref a6, .ref a7, .ref a8, .ref a9, .ref a10, .ref a11, .int (iI x7), .ref a12, .ref a13, .ref a14, .ref a15, .int (iI x8), .int r6, .int r7, .ref a16, .int r8, .int r9, .ref a17, .ref a18, .int (iI x9), .ref a19, .int (iI x10), .int r10, .ref a20, .ref a21, .int (iI x11), .int r11, .ref a22, .int (iI x12), .int (iI x13), .int (iI x14), .int (iI x15)]))] sz (fun (v : Int32) (u : Int × Int32 × Int) => iI u.1 = v ∧ 0 ≤ u.1 ∧ u.1 ≤ 1 ∧ 0 ≤ u.2.2 ∧ u.2.2 ≤ 940 ∧ (enT u.1 x0 x1 u.2.2)) (fun u => [(a0, .inr (11, [.int u.2.1, .ref a1, .int (iI u.2.2), .int (iI x2), .int r1, .int (iI x3), .int r2, .int (iI x4), .int (iI x5), .int r3, .int r4, .int r5, .long y0, .int (iI x6), .ref a2, .ref a3, .ref a4, .ref a5, .ref a6, .ref a7, .ref a8, .ref a9, .ref a10, .ref a11, .int (iI x7), .ref a12, .ref a13, .ref a14, .ref a15, .int (iI x8), .int r6, .int r7, .ref a16, .int r8, .int r9, .ref a17, .ref a18, .int (iI x9), .ref a19, .int (iI x10), .int r10, .ref a20, .ref a21, .int (iI x11), .int r11, .ref a22, .int (iI x12), .int (iI x13), .int (iI x14), .int (iI x15)]))])) 0 0 (va_A [(a0, .inr (11, [.int r0, .ref a1, .int (iI x1), .int (iI x2), .int r1, .int (iI x3), .int r2, .int (iI x4), .int (iI x5), .int r3, .int r4, .int r5, .long y0, .int (iI x6), .ref a2, .ref a3, .ref a4, .ref a5, .ref a6, .ref a7, .ref a8, .ref a9, .ref a10, .ref a11, .int (iI x7), .ref a12, .ref a13, .ref a14, .ref a15, .int (iI x8), .int r6, .int r7, .ref a16, .int r8, .int r9, .ref a17, .ref a18, .int (iI x9), .ref a19, .int (iI x10), .int r10, .ref a20, .ref a21, .int (iI x11), .int r11, .ref a22, .int (iI x12), .int (iI x13), .int (iI x14), .int (iI x15)]))] sz) := by
  refine e_Z (by decide) (Nat.le_of_ble_eq_true rfl) ?_
  intro p e s m args below meth c A Q ls M hin w ret hl
  have hx := M.1.1
  have hb := M.1.2.1
  have hl : lv_has ls 2 [(0, .ref a0), (1, .int (iI x0))] := hl
  refine lv_aload_n hx hb dX12_end_0 rfl (lv_at hl 0 rfl) ?_
  refine lv_iconst (v := iI 0) hx hb dX12_end_1 (by decide +kernel) ?_
  refine r_put (ws' := [(a0, .inr (11, [.int (iI 0), .ref a1, .int (iI x1), .int (iI x2), .int r1, .int (iI x3), .int r2, .int (iI x4), .int (iI x5), .int r3, .int r4, .int r5, .long y0, .int (iI x6), .ref a2, .ref a3, .ref a4, .ref a5, .ref a6, .ref a7, .ref a8, .ref a9, .ref a10, .ref a11, .int (iI x7), .ref a12, .ref a13, .ref a14, .ref a15, .int (iI x8), .int r6, .int r7, .ref a16, .int r8, .int r9, .ref a17, .ref a18, .int (iI x9), .ref a19, .int (iI x10), .int r10, .ref a20, .ref a21, .int (iI x11), .int r11, .ref a22, .int (iI x12), .int (iI x13), .int (iI x14), .int (iI x15)]))]) M w 0 0 clX12 rfl (by decide) G1463 rfl rfl rfl rfl (Nat.le_of_ble_eq_true rfl) rfl dX12_end_2 (fun H locs w => ?_)
  refine lv_iload_n hx hb dX12_end_5 rfl (lv_at hl 1 rfl) ?_
  refine lv_if_lt (tgt := 17) hx hb dX12_end_6 (by decide) (fun c_1 => ?_) (fun c_1 => ?_)
  · replace c_1 := (iz_lt (Int.le_trans (by decide) x0_a) (Int.le_trans x0_b (by decide))).mp c_1
    refine lv_iconst (v := iI 0) hx hb dX12_end_17 (by decide +kernel) ?_
    exact ret _ (0, (iI 0), x1) _ _ _ _ _ [0] dX12_end_18 (by decide +kernel) ⟨rfl, (show (0 : Int) ≤ 0 from by decide), (show (0 : Int) ≤ 1 from by decide), x1_a, x1_b, (show enT 0 x0 x1 x1 from (by unfold enT; omega))⟩ w (by decide) rfl
  · replace c_1 : 0 ≤ x0 := Int.not_lt.mp (fun h => c_1 ((iz_lt (Int.le_trans (by decide) x0_a) (Int.le_trans x0_b (by decide))).mpr h))
    refine lv_iload_n hx hb dX12_end_9 rfl (lv_at hl 1 rfl) ?_
    refine lv_aload_n hx hb dX12_end_10 rfl (lv_at hl 0 rfl) ?_
    refine r_get (v := .int (iI x1)) M w 0 2 clX12 rfl (by decide) G1465 rfl rfl dX12_end_11 ?_
    refine lv_icmp_le (tgt := 19) hx hb dX12_end_14 (by decide) (fun c_2 => ?_) (fun c_2 => ?_)
    · replace c_2 := (iI_le (Int.le_trans (by decide) x0_a) (Int.le_trans x0_b (by decide)) (Int.le_trans (by decide) x1_a) (Int.le_trans x1_b (by decide))).mp c_2
      refine lv_aload_n hx hb dX12_end_19 rfl (lv_at hl 0 rfl) ?_
      refine lv_iload_n hx hb dX12_end_20 rfl (lv_at hl 1 rfl) ?_
      refine r_put (ws' := [(a0, .inr (11, [.int (iI 0), .ref a1, .int (iI x0), .int (iI x2), .int r1, .int (iI x3), .int r2, .int (iI x4), .int (iI x5), .int r3, .int r4, .int r5, .long y0, .int (iI x6), .ref a2, .ref a3, .ref a4, .ref a5, .ref a6, .ref a7, .ref a8, .ref a9, .ref a10, .ref a11, .int (iI x7), .ref a12, .ref a13, .ref a14, .ref a15, .int (iI x8), .int r6, .int r7, .ref a16, .int r8, .int r9, .ref a17, .ref a18, .int (iI x9), .ref a19, .int (iI x10), .int r10, .ref a20, .ref a21, .int (iI x11), .int r11, .ref a22, .int (iI x12), .int (iI x13), .int (iI x14), .int (iI x15)]))]) M w 0 2 clX12 rfl (by decide) G1465 rfl rfl rfl rfl (Nat.le_of_ble_eq_true rfl) rfl dX12_end_21 (fun H locs w => ?_)
      refine lv_iconst (v := iI 1) hx hb dX12_end_24 (by decide +kernel) ?_
      exact ret _ (1, (iI 0), x0) _ _ _ _ _ [0] dX12_end_25 (by decide +kernel) ⟨rfl, (show (0 : Int) ≤ 1 from by decide), (show (1 : Int) ≤ 1 from by decide), (show 0 ≤ x0 from by omega), (show x0 ≤ 940 from by omega), (show enT 1 x0 x1 x0 from (by unfold enT; omega))⟩ w (by decide) rfl
    · replace c_2 : x1 < x0 := Int.not_le.mp (fun h => c_2 ((iI_le (Int.le_trans (by decide) x0_a) (Int.le_trans x0_b (by decide)) (Int.le_trans (by decide) x1_a) (Int.le_trans x1_b (by decide))).mpr h))
      refine lv_iconst (v := iI 0) hx hb dX12_end_17 (by decide +kernel) ?_
      exact ret _ (0, (iI 0), x1) _ _ _ _ _ [0] dX12_end_18 (by decide +kernel) ⟨rfl, (show (0 : Int) ≤ 0 from by decide), (show (0 : Int) ≤ 1 from by decide), x1_a, x1_b, (show enT 0 x0 x1 x1 from (by unfold enT; omega))⟩ w (by decide) rfl
set_option maxRecDepth 100000 in
set_option maxHeartbeats 4000000 in
theorem c5_X12_take (l : Launch) (D : va_G) (T : Nat → ClassId) (sz : Nat) (a0 : Nat) (r0 : Int32) (a1 : Nat) (x0 : Int) (x1 : Int) (r1 : Int32) (x2 : Int) (r2 : Int32) (x3 : Int) (x4 : Int) (r3 : Int32) (r4 : Int32) (r5 : Int32) (y0 : Int64) (x5 : Int) (a2 : Nat) (a3 : Nat) (a4 : Nat) (a5 : Nat) (a6 : Nat) (a7 : Nat) (a8 : Nat) (a9 : Nat) (a10 : Nat) (a11 : Nat) (x6 : Int) (a12 : Nat) (a13 : Nat) (a14 : Nat) (a15 : Nat) (x7 : Int) (r6 : Int32) (r7 : Int32) (a16 : Nat) (r8 : Int32) (r9 : Int32) (a17 : Nat) (a18 : Nat) (x8 : Int) (a19 : Nat) (x9 : Int) (r10 : Int32) (a20 : Nat) (a21 : Nat) (x10 : Int) (r11 : Int32) (a22 : Nat) (x11 : Int) (x12 : Int) (x13 : Int) (x14 : Int) (x0_a : 0 ≤ x0) (x0_b : x0 ≤ 940) (x1_a : 0 ≤ x1) (x1_b : x1 ≤ 940) (x2_a : 0 ≤ x2) (x2_b : x2 ≤ 940) (x3_a : 0 ≤ x3) (x3_b : x3 ≤ 4) (x4_a : (-2147483648) ≤ x4) (x4_b : x4 ≤ 2147483647) (x5_a : (-2147483648) ≤ x5) (x5_b : x5 ≤ 2147483647) (x6_a : 0 ≤ x6) (x6_b : x6 ≤ 8) (x7_a : 0 ≤ x7) (x7_b : x7 ≤ 9) (x8_a : 0 ≤ x8) (x8_b : x8 ≤ 9) (x9_a : 0 ≤ x9) (x9_b : x9 ≤ 64) (x10_a : 0 ≤ x10) (x10_b : x10 ≤ 40) (x11_a : 0 ≤ x11) (x11_b : x11 ≤ 40) (x12_a : 0 ≤ x12) (x12_b : x12 ≤ 20) (x13_a : 0 ≤ x13) (x13_b : x13 ≤ 8) (x14_a : 0 ≤ x14) (x14_b : x14 ≤ 39) : Met l yX12_take (Cond.code yX12_take cX12_take 2 (some .int) :: GW) (Rm 0 0 0) (cPre [.ref a0] D T [(a0, .inr (11, [.int r0, .ref a1, .int (iI x0), .int (iI x1), .int r1, .int (iI x2), .int r2, .int (iI x3), .int (iI x4), .int r3, .int r4, .int r5, .long y0, .int (iI x5), .ref a2, .ref a3, .ref a4, .ref a5, .ref a6, .ref a7, .ref a8, .ref a9, .ref a10, .ref a11, .int (iI x6), .ref a12, .ref a13, .ref a14, .ref a15, .int (iI x7), .int r6, .int r7, .ref a16, .int r8, .int r9, .ref a17, .ref a18, .int (iI x8), .ref a19, .int (iI x9), .int r10, .ref a20, .ref a21, .int (iI x10), .int r11, .ref a22, .int (iI x11), .int (iI x12), .int (iI x13), .int (iI x14)]))] sz) (qI D [(a0, .inr (11, [.int r0, .ref a1, .int (iI x0), .int (iI x1), .int r1, .int (iI x2), .int r2, .int (iI x3), .int (iI x4), .int r3, .int r4, .int r5, .long y0, .int (iI x5), .ref a2, .ref a3, .ref a4, .ref a5, .ref a6, .ref a7, .ref a8, .ref a9, .ref a10, .ref a11, .int (iI x6), .ref a12, .ref a13, .ref a14, .ref a15, .int (iI x7), .int r6, .int r7, .ref a16, .int r8, .int r9, .ref a17, .ref a18, .int (iI x8), .ref a19, .int (iI x9), .int r10, .ref a20, .ref a21, .int (iI x10), .int r11, .ref a22, .int (iI x11), .int (iI x12), .int (iI x13), .int (iI x14)]))] sz (fun (v : Int32) (u : Int × Int) => iI u.1 = v ∧ 0 ≤ u.1 ∧ u.1 ≤ 940 ∧ 0 ≤ u.2 ∧ u.2 ≤ 940 ∧ 0 ≤ (0 - u.2) ∧ 0 ≤ (u.1 - x0) ∧ 0 ≤ (x0 - u.1)) (fun u => [(a0, .inr (11, [.int r0, .ref a1, .int (iI u.2), .int (iI x1), .int r1, .int (iI x2), .int r2, .int (iI x3), .int (iI x4), .int r3, .int r4, .int r5, .long y0, .int (iI x5), .ref a2, .ref a3, .ref a4, .ref a5, .ref a6, .ref a7, .ref a8, .ref a9, .ref a10, .ref a11, .int (iI x6), .ref a12, .ref a13, .ref a14, .ref a15, .int (iI x7), .int r6, .int r7, .ref a16, .int r8, .int r9, .ref a17, .ref a18, .int (iI x8), .ref a19, .int (iI x9), .int r10, .ref a20, .ref a21, .int (iI x10), .int r11, .ref a22, .int (iI x11), .int (iI x12), .int (iI x13), .int (iI x14)]))])) 0 0 (va_A [(a0, .inr (11, [.int r0, .ref a1, .int (iI x0), .int (iI x1), .int r1, .int (iI x2), .int r2, .int (iI x3), .int (iI x4), .int r3, .int r4, .int r5, .long y0, .int (iI x5), .ref a2, .ref a3, .ref a4, .ref a5, .ref a6, .ref a7, .ref a8, .ref a9, .ref a10, .ref a11, .int (iI x6), .ref a12, .ref a13, .ref a14, .ref a15, .int (iI x7), .int r6, .int r7, .ref a16, .int r8, .int r9, .ref a17, .ref a18, .int (iI x8), .ref a19, .int (iI x9), .int r10, .ref a20, .ref a21, .int (iI x10), .int r11, .ref a22, .int (iI x11), .int (iI x12), .int (iI x13), .int (iI x14)]))] sz) := by
  refine e_I (by decide) (Nat.le_of_ble_eq_true rfl) ?_
  intro p e s m args below meth c A Q ls M hin w ret hl
  have hx := M.1.1
  have hb := M.1.2.1
  have hl : lv_has ls 2 [(0, .ref a0)] := hl
  refine lv_aload_n hx hb dX12_take_0 rfl (lv_at hl 0 rfl) ?_
  refine r_get (v := .int (iI x0)) M w 0 2 clX12 rfl (by decide) G1465 rfl rfl dX12_take_1 ?_
  refine lv_istore_n (lv' := [(1, .int (iI x0)), (0, .ref a0)]) hx hb dX12_take_4 rfl hl (by decide) rfl (fun ls hl => ?_)
  refine lv_aload_n hx hb dX12_take_5 rfl (lv_at hl 1 rfl) ?_
  refine lv_iconst (v := iI 0) hx hb dX12_take_6 (by decide +kernel) ?_
  refine r_put (ws' := [(a0, .inr (11, [.int r0, .ref a1, .int (iI 0), .int (iI x1), .int r1, .int (iI x2), .int r2, .int (iI x3), .int (iI x4), .int r3, .int r4, .int r5, .long y0, .int (iI x5), .ref a2, .ref a3, .ref a4, .ref a5, .ref a6, .ref a7, .ref a8, .ref a9, .ref a10, .ref a11, .int (iI x6), .ref a12, .ref a13, .ref a14, .ref a15, .int (iI x7), .int r6, .int r7, .ref a16, .int r8, .int r9, .ref a17, .ref a18, .int (iI x8), .ref a19, .int (iI x9), .int r10, .ref a20, .ref a21, .int (iI x10), .int r11, .ref a22, .int (iI x11), .int (iI x12), .int (iI x13), .int (iI x14)]))]) M w 0 2 clX12 rfl (by decide) G1465 rfl rfl rfl rfl (Nat.le_of_ble_eq_true rfl) rfl dX12_take_7 (fun H locs w => ?_)
  refine lv_iload_n hx hb dX12_take_10 rfl (lv_at hl 0 rfl) ?_
  exact ret _ (x0, 0) _ _ _ _ _ [0] dX12_take_11 ⟨rfl, x0_a, x0_b, (show (0 : Int) ≤ 0 from by decide), (show (0 : Int) ≤ 940 from by decide), (show 0 ≤ (0 - 0) from by omega), (show 0 ≤ (x0 - x0) from by omega), (show 0 ≤ (x0 - x0) from by omega)⟩ w (by decide) rfl
set_option maxRecDepth 100000 in
set_option maxHeartbeats 4000000 in
theorem c6_X12_isIn (l : Launch) (D : va_G) (T : Nat → ClassId) (sz : Nat) (x0 : Int) (x1 : Int) (x2 : Int) (x0_a : (-2147483648) ≤ x0) (x0_b : x0 ≤ 2147483647) (x1_a : (-2147483648) ≤ x1) (x1_b : x1 ≤ 2147483647) (x2_a : (-2147483648) ≤ x2) (x2_b : x2 ≤ 2147483647) : Met l yX12_isIn (Cond.code yX12_isIn cX12_isIn 3 (some .boolean) :: GW) (Rm 0 0 0) (cPre [.int (iI x0), .int (iI x1), .int (iI x2)] D T [] sz) (qI D [] sz (fun (v : Int32) (u : Int) => iI u = v ∧ 0 ≤ u ∧ u ≤ 1 ∧ ((x0 < x1 ∧ u = 0) ∨ (x1 ≤ x0 ∧ x2 < x0 ∧ u = 0) ∨ (x1 ≤ x0 ∧ x0 ≤ x2 ∧ u = 1))) (fun u => [])) 0 0 (va_A [] sz) := by
  refine e_Z (by decide) (Nat.le_of_ble_eq_true rfl) ?_
  intro p e s m args below meth c A Q ls M hin w ret hl
  have hx := M.1.1
  have hb := M.1.2.1
  have hl : lv_has ls 3 [(0, .int (iI x0)), (1, .int (iI x1)), (2, .int (iI x2))] := hl
  refine lv_iload_n hx hb dX12_isIn_0 rfl (lv_at hl 0 rfl) ?_
  refine lv_iload_n hx hb dX12_isIn_1 rfl (lv_at hl 1 rfl) ?_
  refine lv_icmp_lt (tgt := 14) hx hb dX12_isIn_2 (by decide) (fun c_1 => ?_) (fun c_1 => ?_)
  · replace c_1 := (iI_lt (Int.le_trans (by decide) x0_a) (Int.le_trans x0_b (by decide)) (Int.le_trans (by decide) x1_a) (Int.le_trans x1_b (by decide))).mp c_1
    refine lv_iconst (v := iI 0) hx hb dX12_isIn_14 (by decide +kernel) ?_
    exact ret _ 0 _ _ _ _ _ [] dX12_isIn_15 (by decide +kernel) ⟨rfl, (show (0 : Int) ≤ 0 from by decide), (show (0 : Int) ≤ 1 from by decide), (Or.inl ⟨c_1, rfl⟩)⟩ w (by decide) rfl
  · replace c_1 : x1 ≤ x0 := Int.not_lt.mp (fun h => c_1 ((iI_lt (Int.le_trans (by decide) x0_a) (Int.le_trans x0_b (by decide)) (Int.le_trans (by decide) x1_a) (Int.le_trans x1_b (by decide))).mpr h))
    refine lv_iload_n hx hb dX12_isIn_5 rfl (lv_at hl 0 rfl) ?_
    refine lv_iload_n hx hb dX12_isIn_6 rfl (lv_at hl 2 rfl) ?_
    refine lv_icmp_gt (tgt := 14) hx hb dX12_isIn_7 (by decide) (fun c_2 => ?_) (fun c_2 => ?_)
    · replace c_2 := (iI_lt (Int.le_trans (by decide) x2_a) (Int.le_trans x2_b (by decide)) (Int.le_trans (by decide) x0_a) (Int.le_trans x0_b (by decide))).mp c_2
      refine lv_iconst (v := iI 0) hx hb dX12_isIn_14 (by decide +kernel) ?_
      exact ret _ 0 _ _ _ _ _ [] dX12_isIn_15 (by decide +kernel) ⟨rfl, (show (0 : Int) ≤ 0 from by decide), (show (0 : Int) ≤ 1 from by decide), (Or.inr (Or.inl ⟨c_1, c_2, rfl⟩))⟩ w (by decide) rfl
    · replace c_2 : x0 ≤ x2 := Int.not_lt.mp (fun h => c_2 ((iI_lt (Int.le_trans (by decide) x2_a) (Int.le_trans x2_b (by decide)) (Int.le_trans (by decide) x0_a) (Int.le_trans x0_b (by decide))).mpr h))
      refine lv_iconst (v := iI 1) hx hb dX12_isIn_10 (by decide +kernel) ?_
      refine lv_goto (tgt := 15) hx hb dX12_isIn_11 (by decide) ?_
      exact ret _ 1 _ _ _ _ _ [] dX12_isIn_15 (by decide +kernel) ⟨rfl, (show (0 : Int) ≤ 1 from by decide), (show (1 : Int) ≤ 1 from by decide), (Or.inr (Or.inr (⟨c_1, c_2, rfl⟩)))⟩ w (by decide) rfl
set_option maxRecDepth 100000 in
set_option maxHeartbeats 4000000 in
theorem c7_X12_has (l : Launch) (D : va_G) (T : Nat → ClassId) (sz : Nat) (x0 : Int) (x1 : Int) (x0_a : (-2147483648) ≤ x0) (x0_b : x0 ≤ 2147483647) (x1_a : (-2147483648) ≤ x1) (x1_b : x1 ≤ 2147483647) : Met l yX12_has (Cond.code yX12_has cX12_has 2 (some .boolean) :: GW) (Rm 0 0 0) (cPre [.int (iI x0), .int (iI x1)] D T [] sz) (qI D [] sz (fun (v : Int32) (u : Int) => iI u = v ∧ 0 ≤ u ∧ u ≤ 1) (fun u => [])) 0 0 (va_A [] sz) := by
  refine e_Z (by decide) (Nat.le_of_ble_eq_true rfl) ?_
  intro p e s m args below meth c A Q ls M hin w ret hl
  have hx := M.1.1
  have hb := M.1.2.1
  have hl : lv_has ls 2 [(0, .int (iI x0)), (1, .int (iI x1))] := hl
  refine lv_iload_n hx hb dX12_has_0 rfl (lv_at hl 0 rfl) ?_
  refine lv_iload_n hx hb dX12_has_1 rfl (lv_at hl 1 rfl) ?_
  refine r_ishr (v := _) M rfl dX12_has_2 ?_
  refine b_any (fun z1 z1_a z1_b => ?_)
  refine lv_iconst (v := iI 1) hx hb dX12_has_3 (by decide +kernel) ?_
  refine r_iand (v := _) M rfl dX12_has_4 ?_
  refine b_rng (lo := 0) (hi := 1) (iand_r (by omega) (by omega)) (fun z2 z2_a z2_b => ?_)
  refine lv_iconst (v := iI 1) hx hb dX12_has_5 (by decide +kernel) ?_
  refine lv_icmp_ne (tgt := 13) hx hb dX12_has_6 (by decide) (fun c_3 => ?_) (fun c_3 => ?_)
  · replace c_3 : ¬ z2 = 1 := fun h => c_3 ((iI_eq (Int.le_trans (by decide) z2_a) (Int.le_trans z2_b (by decide)) (by decide) (by decide)).mpr h)
    refine lv_iconst (v := iI 0) hx hb dX12_has_13 (by decide +kernel) ?_
    exact ret _ 0 _ _ _ _ _ [] dX12_has_14 (by decide +kernel) ⟨rfl, (show (0 : Int) ≤ 0 from by decide), (show (0 : Int) ≤ 1 from by decide)⟩ w (by decide) rfl
  · replace c_3 := (iI_eq (Int.le_trans (by decide) z2_a) (Int.le_trans z2_b (by decide)) (by decide) (by decide)).mp c_3
    refine lv_iconst (v := iI 1) hx hb dX12_has_9 (by decide +kernel) ?_
    refine lv_goto (tgt := 14) hx hb dX12_has_10 (by decide) ?_
    exact ret _ 1 _ _ _ _ _ [] dX12_has_14 (by decide +kernel) ⟨rfl, (show (0 : Int) ≤ 1 from by decide), (show (1 : Int) ≤ 1 from by decide)⟩ w (by decide) rfl
set_option maxRecDepth 100000 in
set_option maxHeartbeats 4000000 in
theorem c8_X12_least (l : Launch) (D : va_G) (T : Nat → ClassId) (sz : Nat) (x0 : Int) (x1 : Int) (x0_a : (-2147483648) ≤ x0) (x0_b : x0 ≤ 2147483647) (x1_a : (-2147483648) ≤ x1) (x1_b : x1 ≤ 2147483647) : Met l yX12_least (Cond.code yX12_least cX12_least 2 (some .int) :: GW) (Rm 0 0 0) (cPre [.int (iI x0), .int (iI x1)] D T [] sz) (qI D [] sz (fun (v : Int32) (u : Int) => iI u = v ∧ (-2147483648) ≤ u ∧ u ≤ 2147483647 ∧ ((x1 ≤ x0 ∧ u = x1) ∨ (x0 < x1 ∧ u = x0))) (fun u => [])) 0 0 (va_A [] sz) := by
  refine e_I (by decide) (Nat.le_of_ble_eq_true rfl) ?_
  intro p e s m args below meth c A Q ls M hin w ret hl
  have hx := M.1.1
  have hb := M.1.2.1
  have hl : lv_has ls 2 [(0, .int (iI x0)), (1, .int (iI x1))] := hl
  refine lv_iload_n hx hb dX12_least_0 rfl (lv_at hl 0 rfl) ?_
  refine lv_iload_n hx hb dX12_least_1 rfl (lv_at hl 1 rfl) ?_
  refine lv_icmp_ge (tgt := 9) hx hb dX12_least_2 (by decide) (fun c_1 => ?_) (fun c_1 => ?_)
  · replace c_1 := (iI_le (Int.le_trans (by decide) x1_a) (Int.le_trans x1_b (by decide)) (Int.le_trans (by decide) x0_a) (Int.le_trans x0_b (by decide))).mp c_1
    refine lv_iload_n hx hb dX12_least_9 rfl (lv_at hl 1 rfl) ?_
    exact ret _ x1 _ _ _ _ _ [] dX12_least_10 ⟨rfl, x1_a, x1_b, (Or.inl ⟨c_1, rfl⟩)⟩ w (by decide) rfl
  · replace c_1 : x0 < x1 := Int.not_le.mp (fun h => c_1 ((iI_le (Int.le_trans (by decide) x1_a) (Int.le_trans x1_b (by decide)) (Int.le_trans (by decide) x0_a) (Int.le_trans x0_b (by decide))).mpr h))
    refine lv_iload_n hx hb dX12_least_5 rfl (lv_at hl 0 rfl) ?_
    refine lv_goto (tgt := 10) hx hb dX12_least_6 (by decide) ?_
    exact ret _ x0 _ _ _ _ _ [] dX12_least_10 ⟨rfl, x0_a, x0_b, (Or.inr (⟨c_1, rfl⟩))⟩ w (by decide) rfl
set_option maxRecDepth 100000 in
set_option maxHeartbeats 4000000 in
theorem c9_X12_tapeAt (l : Launch) (D : va_G) (T : Nat → ClassId) (sz : Nat) (a0 : Nat) (x0 : Int) (r0 : Int32) (a1 : Nat) (x1 : Int) (x2 : Int) (r1 : Int32) (x3 : Int) (r2 : Int32) (x4 : Int) (x5 : Int) (r3 : Int32) (r4 : Int32) (r5 : Int32) (y0 : Int64) (x6 : Int) (a2 : Nat) (a3 : Nat) (a4 : Nat) (a5 : Nat) (a6 : Nat) (a7 : Nat) (a8 : Nat) (a9 : Nat) (a10 : Nat) (a11 : Nat) (x7 : Int) (a12 : Nat) (a13 : Nat) (a14 : Nat) (a15 : Nat) (x8 : Int) (r6 : Int32) (r7 : Int32) (a16 : Nat) (r8 : Int32) (r9 : Int32) (a17 : Nat) (a18 : Nat) (x9 : Int) (a19 : Nat) (x10 : Int) (r10 : Int32) (a20 : Nat) (a21 : Nat) (x11 : Int) (r11 : Int32) (a22 : Nat) (x12 : Int) (x13 : Int) (x14 : Int) (x15 : Int) (f0 : Nat → Int32) (x0_a : 0 ≤ x0) (x0_b : x0 ≤ 940) (x1_a : 0 ≤ x1) (x1_b : x1 ≤ 940) (x2_a : 0 ≤ x2) (x2_b : x2 ≤ 940) (x3_a : 0 ≤ x3) (x3_b : x3 ≤ 940) (x4_a : 0 ≤ x4) (x4_b : x4 ≤ 4) (x5_a : (-2147483648) ≤ x5) (x5_b : x5 ≤ 2147483647) (x6_a : (-2147483648) ≤ x6) (x6_b : x6 ≤ 2147483647) (x7_a : 0 ≤ x7) (x7_b : x7 ≤ 8) (x8_a : 0 ≤ x8) (x8_b : x8 ≤ 9) (x9_a : 0 ≤ x9) (x9_b : x9 ≤ 9) (x10_a : 0 ≤ x10) (x10_b : x10 ≤ 64) (x11_a : 0 ≤ x11) (x11_b : x11 ≤ 40) (x12_a : 0 ≤ x12) (x12_b : x12 ≤ 40) (x13_a : 0 ≤ x13) (x13_b : x13 ≤ 20) (x14_a : 0 ≤ x14) (x14_b : x14 ≤ 8) (x15_a : 0 ≤ x15) (x15_b : x15 ≤ 39) : Met l yX12_tapeAt (Cond.code yX12_tapeAt cX12_tapeAt 2 (some .int) :: GW) (Rm 0 0 0) (cPre [.ref a0, .int (iI x0)] D T [(a0, .inr (11, [.int r0, .ref a1, .int (iI x1), .int (iI x2), .int r1, .int (iI x3), .int r2, .int (iI x4), .int (iI x5), .int r3, .int r4, .int r5, .long y0, .int (iI x6), .ref a2, .ref a3, .ref a4, .ref a5, .ref a6, .ref a7, .ref a8, .ref a9, .ref a10, .ref a11, .int (iI x7), .ref a12, .ref a13, .ref a14, .ref a15, .int (iI x8), .int r6, .int r7, .ref a16, .int r8, .int r9, .ref a17, .ref a18, .int (iI x9), .ref a19, .int (iI x10), .int r10, .ref a20, .ref a21, .int (iI x11), .int r11, .ref a22, .int (iI x12), .int (iI x13), .int (iI x14), .int (iI x15)])), (a1, .inl (T 0, 940, .inl f0))] sz) (qI D [(a0, .inr (11, [.int r0, .ref a1, .int (iI x1), .int (iI x2), .int r1, .int (iI x3), .int r2, .int (iI x4), .int (iI x5), .int r3, .int r4, .int r5, .long y0, .int (iI x6), .ref a2, .ref a3, .ref a4, .ref a5, .ref a6, .ref a7, .ref a8, .ref a9, .ref a10, .ref a11, .int (iI x7), .ref a12, .ref a13, .ref a14, .ref a15, .int (iI x8), .int r6, .int r7, .ref a16, .int r8, .int r9, .ref a17, .ref a18, .int (iI x9), .ref a19, .int (iI x10), .int r10, .ref a20, .ref a21, .int (iI x11), .int r11, .ref a22, .int (iI x12), .int (iI x13), .int (iI x14), .int (iI x15)])), (a1, .inl (T 0, 940, .inl f0))] sz (fun (v : Int32) (u : Int) => iI u = v ∧ (-2147483648) ≤ u ∧ u ≤ 2147483647 ∧ ((x2 ≤ x0 ∧ u = 0) ∨ (x0 < x2))) (fun u => [(a0, .inr (11, [.int r0, .ref a1, .int (iI x1), .int (iI x2), .int r1, .int (iI x3), .int r2, .int (iI x4), .int (iI x5), .int r3, .int r4, .int r5, .long y0, .int (iI x6), .ref a2, .ref a3, .ref a4, .ref a5, .ref a6, .ref a7, .ref a8, .ref a9, .ref a10, .ref a11, .int (iI x7), .ref a12, .ref a13, .ref a14, .ref a15, .int (iI x8), .int r6, .int r7, .ref a16, .int r8, .int r9, .ref a17, .ref a18, .int (iI x9), .ref a19, .int (iI x10), .int r10, .ref a20, .ref a21, .int (iI x11), .int r11, .ref a22, .int (iI x12), .int (iI x13), .int (iI x14), .int (iI x15)])), (a1, .inl (T 0, 940, .inl f0))])) 0 0 (va_A [(a0, .inr (11, [.int r0, .ref a1, .int (iI x1), .int (iI x2), .int r1, .int (iI x3), .int r2, .int (iI x4), .int (iI x5), .int r3, .int r4, .int r5, .long y0, .int (iI x6), .ref a2, .ref a3, .ref a4, .ref a5, .ref a6, .ref a7, .ref a8, .ref a9, .ref a10, .ref a11, .int (iI x7), .ref a12, .ref a13, .ref a14, .ref a15, .int (iI x8), .int r6, .int r7, .ref a16, .int r8, .int r9, .ref a17, .ref a18, .int (iI x9), .ref a19, .int (iI x10), .int r10, .ref a20, .ref a21, .int (iI x11), .int r11, .ref a22, .int (iI x12), .int (iI x13), .int (iI x14), .int (iI x15)])), (a1, .inl (T 0, 940, .inl f0))] sz) := by
  refine e_I (by decide) (Nat.le_of_ble_eq_true rfl) ?_
  intro p e s m args below meth c A Q ls M hin w ret hl
  have hx := M.1.1
  have hb := M.1.2.1
  have hl : lv_has ls 2 [(0, .ref a0), (1, .int (iI x0))] := hl
  refine lv_iload_n hx hb dX12_tapeAt_0 rfl (lv_at hl 1 rfl) ?_
  refine lv_aload_n hx hb dX12_tapeAt_1 rfl (lv_at hl 0 rfl) ?_
  refine r_get (v := .int (iI x2)) M w 0 3 clX12 rfl (by decide) G1466 rfl rfl dX12_tapeAt_2 ?_
  refine lv_icmp_ge (tgt := 17) hx hb dX12_tapeAt_5 (by decide) (fun c_1 => ?_) (fun c_1 => ?_)
  · replace c_1 := (iI_le (Int.le_trans (by decide) x2_a) (Int.le_trans x2_b (by decide)) (Int.le_trans (by decide) x0_a) (Int.le_trans x0_b (by decide))).mp c_1
    refine lv_iconst (v := iI 0) hx hb dX12_tapeAt_17 (by decide +kernel) ?_
    exact ret _ 0 _ _ _ _ _ [0, 1] dX12_tapeAt_18 ⟨rfl, (show (-2147483648) ≤ 0 from by decide), (show (0 : Int) ≤ 2147483647 from by decide), (Or.inl ⟨c_1, rfl⟩)⟩ w (by decide) rfl
  · replace c_1 : x0 < x2 := Int.not_le.mp (fun h => c_1 ((iI_le (Int.le_trans (by decide) x2_a) (Int.le_trans x2_b (by decide)) (Int.le_trans (by decide) x0_a) (Int.le_trans x0_b (by decide))).mpr h))
    refine lv_aload_n hx hb dX12_tapeAt_8 rfl (lv_at hl 0 rfl) ?_
    refine r_get (v := .ref a1) M w 0 1 clX12 rfl (by decide) G1464 rfl rfl dX12_tapeAt_9 ?_
    refine lv_iload_n hx hb dX12_tapeAt_12 rfl (lv_at hl 1 rfl) ?_
    refine r_iald (v := _) M w 1 rfl (iI_in (by omega) (by omega) (by decide)) rfl dX12_tapeAt_13 ?_
    refine b_any (fun z2 z2_a z2_b => ?_)
    refine lv_goto (tgt := 18) hx hb dX12_tapeAt_14 (by decide) ?_
    exact ret _ z2 _ _ _ _ _ [0, 1] dX12_tapeAt_18 ⟨rfl, z2_a, z2_b, (Or.inr (c_1))⟩ w (by decide) rfl
set_option maxRecDepth 100000 in
set_option maxHeartbeats 4000000 in
theorem c10_X12_isDigit (l : Launch) (D : va_G) (T : Nat → ClassId) (sz : Nat) (x0 : Int) (x0_a : (-2147483648) ≤ x0) (x0_b : x0 ≤ 2147483647) : Met l yX12_isDigit (Cond.code yX12_isDigit cX12_isDigit 1 (some .boolean) :: GW) (Rm 0 0 0) (cPre [.int (iI x0)] D T [] sz) (qI D [] sz (fun (v : Int32) (u : Int) => iI u = v ∧ 0 ≤ u ∧ u ≤ 1 ∧ 0 ≤ ((x0 + 4294967296) - (u * 4294967344))) (fun u => [])) 0 0 (va_A [] sz) := by
  refine e_Z (by decide) (Nat.le_of_ble_eq_true rfl) ?_
  intro p e s m args below meth c A Q ls M hin w ret hl
  have hx := M.1.1
  have hb := M.1.2.1
  have hl : lv_has ls 1 [(0, .int (iI x0))] := hl
  refine lv_iload_n hx hb dX12_isDigit_0 rfl (lv_at hl 0 rfl) ?_
  refine lv_bipush (v := iI 48) hx hb dX12_isDigit_1 (by decide +kernel) ?_
  refine lv_icmp_lt (tgt := 16) hx hb dX12_isDigit_3 (by decide) (fun c_1 => ?_) (fun c_1 => ?_)
  · replace c_1 := (iI_lt (Int.le_trans (by decide) x0_a) (Int.le_trans x0_b (by decide)) (by decide) (by decide)).mp c_1
    refine lv_iconst (v := iI 0) hx hb dX12_isDigit_16 (by decide +kernel) ?_
    exact ret _ 0 _ _ _ _ _ [] dX12_isDigit_17 (by decide +kernel) ⟨rfl, (show (0 : Int) ≤ 0 from by decide), (show (0 : Int) ≤ 1 from by decide), (show 0 ≤ ((x0 + 4294967296) - (0 * 4294967344)) from by omega)⟩ w (by decide) rfl
  · replace c_1 : 48 ≤ x0 := Int.not_lt.mp (fun h => c_1 ((iI_lt (Int.le_trans (by decide) x0_a) (Int.le_trans x0_b (by decide)) (by decide) (by decide)).mpr h))
    refine lv_iload_n hx hb dX12_isDigit_6 rfl (lv_at hl 0 rfl) ?_
    refine lv_bipush (v := iI 57) hx hb dX12_isDigit_7 (by decide +kernel) ?_
    refine lv_icmp_gt (tgt := 16) hx hb dX12_isDigit_9 (by decide) (fun c_2 => ?_) (fun c_2 => ?_)
    · replace c_2 := (iI_lt (by decide) (by decide) (Int.le_trans (by decide) x0_a) (Int.le_trans x0_b (by decide))).mp c_2
      refine lv_iconst (v := iI 0) hx hb dX12_isDigit_16 (by decide +kernel) ?_
      exact ret _ 0 _ _ _ _ _ [] dX12_isDigit_17 (by decide +kernel) ⟨rfl, (show (0 : Int) ≤ 0 from by decide), (show (0 : Int) ≤ 1 from by decide), (show 0 ≤ ((x0 + 4294967296) - (0 * 4294967344)) from by omega)⟩ w (by decide) rfl
    · replace c_2 : x0 ≤ 57 := Int.not_lt.mp (fun h => c_2 ((iI_lt (by decide) (by decide) (Int.le_trans (by decide) x0_a) (Int.le_trans x0_b (by decide))).mpr h))
      refine lv_iconst (v := iI 1) hx hb dX12_isDigit_12 (by decide +kernel) ?_
      refine lv_goto (tgt := 17) hx hb dX12_isDigit_13 (by decide) ?_
      exact ret _ 1 _ _ _ _ _ [] dX12_isDigit_17 (by decide +kernel) ⟨rfl, (show (0 : Int) ≤ 1 from by decide), (show (1 : Int) ≤ 1 from by decide), (show 0 ≤ ((x0 + 4294967296) - (1 * 4294967344)) from by omega)⟩ w (by decide) rfl
set_option maxRecDepth 100000 in
set_option maxHeartbeats 4000000 in
theorem c11_X12_isLetter (l : Launch) (D : va_G) (T : Nat → ClassId) (sz : Nat) (x0 : Int) (x0_a : (-2147483648) ≤ x0) (x0_b : x0 ≤ 2147483647) : Met l yX12_isLetter (Cond.code yX12_isLetter cX12_isLetter 1 (some .boolean) :: GW) (Rm 0 0 0) (cPre [.int (iI x0)] D T [] sz) (qI D [] sz (fun (v : Int32) (u : Int) => iI u = v ∧ 0 ≤ u ∧ u ≤ 1 ∧ 0 ≤ ((x0 + 4294967296) - (u * 4294967393))) (fun u => [])) 0 0 (va_A [] sz) := by
  refine e_Z (by decide) (Nat.le_of_ble_eq_true rfl) ?_
  intro p e s m args below meth c A Q ls M hin w ret hl
  have hx := M.1.1
  have hb := M.1.2.1
  have hl : lv_has ls 1 [(0, .int (iI x0))] := hl
  refine lv_iload_n hx hb dX12_isLetter_0 rfl (lv_at hl 0 rfl) ?_
  refine lv_bipush (v := iI 97) hx hb dX12_isLetter_1 (by decide +kernel) ?_
  refine lv_icmp_lt (tgt := 16) hx hb dX12_isLetter_3 (by decide) (fun c_1 => ?_) (fun c_1 => ?_)
  · replace c_1 := (iI_lt (Int.le_trans (by decide) x0_a) (Int.le_trans x0_b (by decide)) (by decide) (by decide)).mp c_1
    refine lv_iconst (v := iI 0) hx hb dX12_isLetter_16 (by decide +kernel) ?_
    exact ret _ 0 _ _ _ _ _ [] dX12_isLetter_17 (by decide +kernel) ⟨rfl, (show (0 : Int) ≤ 0 from by decide), (show (0 : Int) ≤ 1 from by decide), (show 0 ≤ ((x0 + 4294967296) - (0 * 4294967393)) from by omega)⟩ w (by decide) rfl
  · replace c_1 : 97 ≤ x0 := Int.not_lt.mp (fun h => c_1 ((iI_lt (Int.le_trans (by decide) x0_a) (Int.le_trans x0_b (by decide)) (by decide) (by decide)).mpr h))
    refine lv_iload_n hx hb dX12_isLetter_6 rfl (lv_at hl 0 rfl) ?_
    refine lv_bipush (v := iI 122) hx hb dX12_isLetter_7 (by decide +kernel) ?_
    refine lv_icmp_gt (tgt := 16) hx hb dX12_isLetter_9 (by decide) (fun c_2 => ?_) (fun c_2 => ?_)
    · replace c_2 := (iI_lt (by decide) (by decide) (Int.le_trans (by decide) x0_a) (Int.le_trans x0_b (by decide))).mp c_2
      refine lv_iconst (v := iI 0) hx hb dX12_isLetter_16 (by decide +kernel) ?_
      exact ret _ 0 _ _ _ _ _ [] dX12_isLetter_17 (by decide +kernel) ⟨rfl, (show (0 : Int) ≤ 0 from by decide), (show (0 : Int) ≤ 1 from by decide), (show 0 ≤ ((x0 + 4294967296) - (0 * 4294967393)) from by omega)⟩ w (by decide) rfl
    · replace c_2 : x0 ≤ 122 := Int.not_lt.mp (fun h => c_2 ((iI_lt (by decide) (by decide) (Int.le_trans (by decide) x0_a) (Int.le_trans x0_b (by decide))).mpr h))
      refine lv_iconst (v := iI 1) hx hb dX12_isLetter_12 (by decide +kernel) ?_
      refine lv_goto (tgt := 17) hx hb dX12_isLetter_13 (by decide) ?_
      exact ret _ 1 _ _ _ _ _ [] dX12_isLetter_17 (by decide +kernel) ⟨rfl, (show (0 : Int) ≤ 1 from by decide), (show (1 : Int) ≤ 1 from by decide), (show 0 ≤ ((x0 + 4294967296) - (1 * 4294967393)) from by omega)⟩ w (by decide) rfl
set_option maxRecDepth 100000 in
set_option maxHeartbeats 4000000 in
theorem c12_X12_go (l : Launch) (D : va_G) (T : Nat → ClassId) (sz : Nat) (a0 : Nat) (r0 : Int32) (a1 : Nat) (x0 : Int) (x1 : Int) (r1 : Int32) (x2 : Int) (r2 : Int32) (x3 : Int) (x4 : Int) (r3 : Int32) (r4 : Int32) (r5 : Int32) (y0 : Int64) (x5 : Int) (a2 : Nat) (a3 : Nat) (a4 : Nat) (a5 : Nat) (a6 : Nat) (a7 : Nat) (a8 : Nat) (a9 : Nat) (a10 : Nat) (a11 : Nat) (x6 : Int) (a12 : Nat) (a13 : Nat) (a14 : Nat) (a15 : Nat) (x7 : Int) (r6 : Int32) (r7 : Int32) (a16 : Nat) (r8 : Int32) (r9 : Int32) (a17 : Nat) (a18 : Nat) (x8 : Int) (a19 : Nat) (x9 : Int) (r10 : Int32) (a20 : Nat) (a21 : Nat) (x10 : Int) (r11 : Int32) (a22 : Nat) (x11 : Int) (x12 : Int) (x13 : Int) (x14 : Int) (f0 : Nat → Int32) (x0_a : 0 ≤ x0) (x0_b : x0 ≤ 940) (x1_a : 0 ≤ x1) (x1_b : x1 ≤ 940) (x2_a : 0 ≤ x2) (x2_b : x2 ≤ 940) (x3_a : 0 ≤ x3) (x3_b : x3 ≤ 4) (x4_a : (-2147483648) ≤ x4) (x4_b : x4 ≤ 2147483647) (x5_a : (-2147483648) ≤ x5) (x5_b : x5 ≤ 2147483647) (x6_a : 0 ≤ x6) (x6_b : x6 ≤ 8) (x7_a : 0 ≤ x7) (x7_b : x7 ≤ 9) (x8_a : 0 ≤ x8) (x8_b : x8 ≤ 9) (x9_a : 0 ≤ x9) (x9_b : x9 ≤ 64) (x10_a : 0 ≤ x10) (x10_b : x10 ≤ 40) (x11_a : 0 ≤ x11) (x11_b : x11 ≤ 40) (x12_a : 0 ≤ x12) (x12_b : x12 ≤ 20) (x13_a : 0 ≤ x13) (x13_b : x13 ≤ 8) (x14_a : 0 ≤ x14) (x14_b : x14 ≤ 39) : Met l yX12_go (Cond.code yX12_go cX12_go 5 none :: GW) (Rm 1 0 0) (cPre [.ref a0] D T [(a0, .inr (11, [.int r0, .ref a1, .int (iI x0), .int (iI x1), .int r1, .int (iI x2), .int r2, .int (iI x3), .int (iI x4), .int r3, .int r4, .int r5, .long y0, .int (iI x5), .ref a2, .ref a3, .ref a4, .ref a5, .ref a6, .ref a7, .ref a8, .ref a9, .ref a10, .ref a11, .int (iI x6), .ref a12, .ref a13, .ref a14, .ref a15, .int (iI x7), .int r6, .int r7, .ref a16, .int r8, .int r9, .ref a17, .ref a18, .int (iI x8), .ref a19, .int (iI x9), .int r10, .ref a20, .ref a21, .int (iI x10), .int r11, .ref a22, .int (iI x11), .int (iI x12), .int (iI x13), .int (iI x14)])), (a1, .inl (T 0, 940, .inl f0))] sz) (qV D [(a0, .inr (11, [.int r0, .ref a1, .int (iI x0), .int (iI x1), .int r1, .int (iI x2), .int r2, .int (iI x3), .int (iI x4), .int r3, .int r4, .int r5, .long y0, .int (iI x5), .ref a2, .ref a3, .ref a4, .ref a5, .ref a6, .ref a7, .ref a8, .ref a9, .ref a10, .ref a11, .int (iI x6), .ref a12, .ref a13, .ref a14, .ref a15, .int (iI x7), .int r6, .int r7, .ref a16, .int r8, .int r9, .ref a17, .ref a18, .int (iI x8), .ref a19, .int (iI x9), .int r10, .ref a20, .ref a21, .int (iI x10), .int r11, .ref a22, .int (iI x11), .int (iI x12), .int (iI x13), .int (iI x14)])), (a1, .inl (T 0, 940, .inl f0))] sz (fun (u : Int × Int32 × Int × Int × Int32 × Int64) => 0 ≤ u.1 ∧ u.1 ≤ 940 ∧ 0 ≤ u.2.2.1 ∧ u.2.2.1 ≤ 4 ∧ (-2147483648) ≤ u.2.2.2.1 ∧ u.2.2.2.1 ≤ 2147483647 ∧ 0 ≤ (u.1 - x2) ∧ 0 ≤ (((u.1 - x2) - u.2.2.1) + 3)) (fun u => [(a0, .inr (11, [.int r0, .ref a1, .int (iI x0), .int (iI x1), .int r1, .int (iI u.1), .int u.2.1, .int (iI u.2.2.1), .int (iI u.2.2.2.1), .int u.2.2.2.2.1, .int r4, .int r5, .long u.2.2.2.2.2, .int (iI x5), .ref a2, .ref a3, .ref a4, .ref a5, .ref a6, .ref a7, .ref a8, .ref a9, .ref a10, .ref a11, .int (iI x6), .ref a12, .ref a13, .ref a14, .ref a15, .int (iI x7), .int r6, .int r7, .ref a16, .int r8, .int r9, .ref a17, .ref a18, .int (iI x8), .ref a19, .int (iI x9), .int r10, .ref a20, .ref a21, .int (iI x10), .int r11, .ref a22, .int (iI x11), .int (iI x12), .int (iI x13), .int (iI x14)])), (a1, .inl (T 0, 940, .inl f0))])) 0 0 (va_A [(a0, .inr (11, [.int r0, .ref a1, .int (iI x0), .int (iI x1), .int r1, .int (iI x2), .int r2, .int (iI x3), .int (iI x4), .int r3, .int r4, .int r5, .long y0, .int (iI x5), .ref a2, .ref a3, .ref a4, .ref a5, .ref a6, .ref a7, .ref a8, .ref a9, .ref a10, .ref a11, .int (iI x6), .ref a12, .ref a13, .ref a14, .ref a15, .int (iI x7), .int r6, .int r7, .ref a16, .int r8, .int r9, .ref a17, .ref a18, .int (iI x8), .ref a19, .int (iI x9), .int r10, .ref a20, .ref a21, .int (iI x10), .int r11, .ref a22, .int (iI x11), .int (iI x12), .int (iI x13), .int (iI x14)])), (a1, .inl (T 0, 940, .inl f0))] sz) := by
  refine e_V (by decide) (Nat.le_of_ble_eq_true rfl) ?_
  intro p e s m args below meth c A Q ls M hin w ret hl
  have hx := M.1.1
  have hb := M.1.2.1
  have hl : lv_has ls 5 [(0, .ref a0)] := hl
  have loop1 : ∀ (k1 : Nat) (z1 : Int) (H : Heap) (locs : List Loc) (ls : Array Slot), 0 ≤ z1 → z1 ≤ 940 → 0 ≤ (z1 - x2) → ((x1 - z1) : Int).toNat < k1 → WD D A s.heap [(a0, .inr (11, [.int r0, .ref a1, .int (iI x0), .int (iI x1), .int r1, .int (iI z1), .int r2, .int (iI x3), .int (iI x4), .int r3, .int r4, .int r5, .long y0, .int (iI x5), .ref a2, .ref a3, .ref a4, .ref a5, .ref a6, .ref a7, .ref a8, .ref a9, .ref a10, .ref a11, .int (iI x6), .ref a12, .ref a13, .ref a14, .ref a15, .int (iI x7), .int r6, .int r7, .ref a16, .int r8, .int r9, .ref a17, .ref a18, .int (iI x8), .ref a19, .int (iI x9), .int r10, .ref a20, .ref a21, .int (iI x10), .int r11, .ref a22, .int (iI x11), .int (iI x12), .int (iI x13), .int (iI x14)])), (a1, .inl (T 0, 940, .inl f0))] H locs → lv_has ls 5 [(0, .ref a0)] → W p l e (Rm 1 0 0) s m args below meth c H locs 0 0 Q (F0 m 0 ls []) := by
    intro k1
    induction k1 with
    | zero => intro z1 H locs ls z1_a z1_b q1_0 hm; exact absurd hm (Nat.not_lt_zero _)
    | succ k1 ih1 =>
      intro z1 H locs ls z1_a z1_b q1_0 hm1 w hl
      refine lv_aload_n hx hb dX12_go_0 rfl (lv_at hl 0 rfl) ?_
      refine r_get (v := .int (iI z1)) M w 0 5 clX12 rfl (by decide) G1468 rfl rfl dX12_go_1 ?_
      refine lv_aload_n hx hb dX12_go_4 rfl (lv_at hl 0 rfl) ?_
      refine r_get (v := .int (iI x1)) M w 0 3 clX12 rfl (by decide) G1466 rfl rfl dX12_go_5 ?_
      refine lv_icmp_ge (tgt := 52) hx hb dX12_go_8 (by decide) (fun c_2 => ?_) (fun c_2 => ?_)
      · replace c_2 := (iI_le (Int.le_trans (by decide) x1_a) (Int.le_trans x1_b (by decide)) (Int.le_trans (by decide) z1_a) (Int.le_trans z1_b (by decide))).mp c_2
        refine lv_aload_n hx hb dX12_go_52 rfl (lv_at hl 0 rfl) ?_
        refine lv_aload_n hx hb dX12_go_53 rfl (lv_at hl 0 rfl) ?_
        refine r_get (v := .int (iI z1)) M w 0 5 clX12 rfl (by decide) G1468 rfl rfl dX12_go_54 ?_
        refine r_put (ws' := [(a0, .inr (11, [.int r0, .ref a1, .int (iI x0), .int (iI x1), .int r1, .int (iI z1), .int (iI z1), .int (iI x3), .int (iI x4), .int r3, .int r4, .int r5, .long y0, .int (iI x5), .ref a2, .ref a3, .ref a4, .ref a5, .ref a6, .ref a7, .ref a8, .ref a9, .ref a10, .ref a11, .int (iI x6), .ref a12, .ref a13, .ref a14, .ref a15, .int (iI x7), .int r6, .int r7, .ref a16, .int r8, .int r9, .ref a17, .ref a18, .int (iI x8), .ref a19, .int (iI x9), .int r10, .ref a20, .ref a21, .int (iI x10), .int r11, .ref a22, .int (iI x11), .int (iI x12), .int (iI x13), .int (iI x14)])), (a1, .inl (T 0, 940, .inl f0))]) M w 0 6 clX12 rfl (by decide) G1469 rfl rfl rfl rfl (Nat.le_of_ble_eq_true rfl) rfl dX12_go_57 (fun H locs w => ?_)
        refine lv_aload_n hx hb dX12_go_60 rfl (lv_at hl 0 rfl) ?_
        refine r_get (v := .int (iI x1)) M w 0 3 clX12 rfl (by decide) G1466 rfl rfl dX12_go_61 ?_
        refine lv_aload_n hx hb dX12_go_64 rfl (lv_at hl 0 rfl) ?_
        refine r_get (v := .int r1) M w 0 4 clX12 rfl (by decide) G1467 rfl rfl dX12_go_65 ?_
        refine b_any (fun z3 z3_a z3_b => ?_)
        refine lv_icmp_le (tgt := 96) hx hb dX12_go_68 (by decide) (fun c_4 => ?_) (fun c_4 => ?_)
        · replace c_4 := (iI_le (Int.le_trans (by decide) x1_a) (Int.le_trans x1_b (by decide)) (Int.le_trans (by decide) z3_a) (Int.le_trans z3_b (by decide))).mp c_4
          refine lv_aload_n hx hb dX12_go_96 rfl (lv_at hl 0 rfl) ?_
          refine r_get (v := .int (iI z1)) M w 0 5 clX12 rfl (by decide) G1468 rfl rfl dX12_go_97 ?_
          refine lv_aload_n hx hb dX12_go_100 rfl (lv_at hl 0 rfl) ?_
          refine r_get (v := .int (iI x1)) M w 0 3 clX12 rfl (by decide) G1466 rfl rfl dX12_go_101 ?_
          refine lv_icmp_lt (tgt := 113) hx hb dX12_go_104 (by decide) (fun c_5 => ?_) (fun c_5 => ?_)
          · replace c_5 := (iI_lt (Int.le_trans (by decide) z1_a) (Int.le_trans z1_b (by decide)) (Int.le_trans (by decide) x1_a) (Int.le_trans x1_b (by decide))).mp c_5
            exfalso; omega
          · replace c_5 : x1 ≤ z1 := Int.not_lt.mp (fun h => c_5 ((iI_lt (Int.le_trans (by decide) z1_a) (Int.le_trans z1_b (by decide)) (Int.le_trans (by decide) x1_a) (Int.le_trans x1_b (by decide))).mpr h))
            refine lv_aload_n hx hb dX12_go_107 rfl (lv_at hl 0 rfl) ?_
            refine lv_iconst (v := iI 0) hx hb dX12_go_108 (by decide +kernel) ?_
            refine r_put (ws' := [(a0, .inr (11, [.int r0, .ref a1, .int (iI x0), .int (iI x1), .int r1, .int (iI z1), .int (iI z1), .int (iI 0), .int (iI x4), .int r3, .int r4, .int r5, .long y0, .int (iI x5), .ref a2, .ref a3, .ref a4, .ref a5, .ref a6, .ref a7, .ref a8, .ref a9, .ref a10, .ref a11, .int (iI x6), .ref a12, .ref a13, .ref a14, .ref a15, .int (iI x7), .int r6, .int r7, .ref a16, .int r8, .int r9, .ref a17, .ref a18, .int (iI x8), .ref a19, .int (iI x9), .int r10, .ref a20, .ref a21, .int (iI x10), .int r11, .ref a22, .int (iI x11), .int (iI x12), .int (iI x13), .int (iI x14)])), (a1, .inl (T 0, 940, .inl f0))]) M w 0 7 clX12 rfl (by decide) G1470 rfl rfl rfl rfl (Nat.le_of_ble_eq_true rfl) rfl dX12_go_109 (fun H locs w => ?_)
            exact ret (z1, (iI z1), 0, x4, r3, y0) _ _ _ _ _ [0, 1] dX12_go_112 ⟨z1_a, z1_b, (show (0 : Int) ≤ 0 from by decide), (show (0 : Int) ≤ 4 from by decide), x4_a, x4_b, (show 0 ≤ (z1 - x2) from by omega), (show 0 ≤ (((z1 - x2) - 0) + 3) from by omega)⟩ w (by decide) rfl
        · replace c_4 : z3 < x1 := Int.not_le.mp (fun h => c_4 ((iI_le (Int.le_trans (by decide) x1_a) (Int.le_trans x1_b (by decide)) (Int.le_trans (by decide) z3_a) (Int.le_trans z3_b (by decide))).mpr h))
          refine lv_aload_n hx hb dX12_go_71 rfl (lv_at hl 0 rfl) ?_
          refine r_get (v := .int (iI z1)) M w 0 6 clX12 rfl (by decide) G1469 rfl rfl dX12_go_72 ?_
          refine lv_aload_n hx hb dX12_go_75 rfl (lv_at hl 0 rfl) ?_
          refine r_get (v := .int r1) M w 0 4 clX12 rfl (by decide) G1467 rfl rfl dX12_go_76 ?_
          refine b_any (fun z6 z6_a z6_b => ?_)
          refine lv_icmp_lt (tgt := 96) hx hb dX12_go_79 (by decide) (fun c_7 => ?_) (fun c_7 => ?_)
          · replace c_7 := (iI_lt (Int.le_trans (by decide) z1_a) (Int.le_trans z1_b (by decide)) (Int.le_trans (by decide) z6_a) (Int.le_trans z6_b (by decide))).mp c_7
            refine lv_aload_n hx hb dX12_go_96 rfl (lv_at hl 0 rfl) ?_
            refine r_get (v := .int (iI z1)) M w 0 5 clX12 rfl (by decide) G1468 rfl rfl dX12_go_97 ?_
            refine lv_aload_n hx hb dX12_go_100 rfl (lv_at hl 0 rfl) ?_
            refine r_get (v := .int (iI x1)) M w 0 3 clX12 rfl (by decide) G1466 rfl rfl dX12_go_101 ?_
            refine lv_icmp_lt (tgt := 113) hx hb dX12_go_104 (by decide) (fun c_8 => ?_) (fun c_8 => ?_)
            · replace c_8 := (iI_lt (Int.le_trans (by decide) z1_a) (Int.le_trans z1_b (by decide)) (Int.le_trans (by decide) x1_a) (Int.le_trans x1_b (by decide))).mp c_8
              exfalso; omega
            · replace c_8 : x1 ≤ z1 := Int.not_lt.mp (fun h => c_8 ((iI_lt (Int.le_trans (by decide) z1_a) (Int.le_trans z1_b (by decide)) (Int.le_trans (by decide) x1_a) (Int.le_trans x1_b (by decide))).mpr h))
              refine lv_aload_n hx hb dX12_go_107 rfl (lv_at hl 0 rfl) ?_
              refine lv_iconst (v := iI 0) hx hb dX12_go_108 (by decide +kernel) ?_
              refine r_put (ws' := [(a0, .inr (11, [.int r0, .ref a1, .int (iI x0), .int (iI x1), .int r1, .int (iI z1), .int (iI z1), .int (iI 0), .int (iI x4), .int r3, .int r4, .int r5, .long y0, .int (iI x5), .ref a2, .ref a3, .ref a4, .ref a5, .ref a6, .ref a7, .ref a8, .ref a9, .ref a10, .ref a11, .int (iI x6), .ref a12, .ref a13, .ref a14, .ref a15, .int (iI x7), .int r6, .int r7, .ref a16, .int r8, .int r9, .ref a17, .ref a18, .int (iI x8), .ref a19, .int (iI x9), .int r10, .ref a20, .ref a21, .int (iI x10), .int r11, .ref a22, .int (iI x11), .int (iI x12), .int (iI x13), .int (iI x14)])), (a1, .inl (T 0, 940, .inl f0))]) M w 0 7 clX12 rfl (by decide) G1470 rfl rfl rfl rfl (Nat.le_of_ble_eq_true rfl) rfl dX12_go_109 (fun H locs w => ?_)
              exact ret (z1, (iI z1), 0, x4, r3, y0) _ _ _ _ _ [0, 1] dX12_go_112 ⟨z1_a, z1_b, (show (0 : Int) ≤ 0 from by decide), (show (0 : Int) ≤ 4 from by decide), x4_a, x4_b, (show 0 ≤ (z1 - x2) from by omega), (show 0 ≤ (((z1 - x2) - 0) + 3) from by omega)⟩ w (by decide) rfl
          · replace c_7 : z6 ≤ z1 := Int.not_lt.mp (fun h => c_7 ((iI_lt (Int.le_trans (by decide) z1_a) (Int.le_trans z1_b (by decide)) (Int.le_trans (by decide) z6_a) (Int.le_trans z6_b (by decide))).mpr h))
            refine lv_aload_n hx hb dX12_go_82 rfl (lv_at hl 0 rfl) ?_
            refine lv_aload_n hx hb dX12_go_83 rfl (lv_at hl 0 rfl) ?_
            refine r_get (v := .int r1) M w 0 4 clX12 rfl (by decide) G1467 rfl rfl dX12_go_84 ?_
            refine b_any (fun z9 z9_a z9_b => ?_)
            refine r_put (ws' := [(a0, .inr (11, [.int r0, .ref a1, .int (iI x0), .int (iI x1), .int r1, .int (iI z1), .int (iI z9), .int (iI x3), .int (iI x4), .int r3, .int r4, .int r5, .long y0, .int (iI x5), .ref a2, .ref a3, .ref a4, .ref a5, .ref a6, .ref a7, .ref a8, .ref a9, .ref a10, .ref a11, .int (iI x6), .ref a12, .ref a13, .ref a14, .ref a15, .int (iI x7), .int r6, .int r7, .ref a16, .int r8, .int r9, .ref a17, .ref a18, .int (iI x8), .ref a19, .int (iI x9), .int r10, .ref a20, .ref a21, .int (iI x10), .int r11, .ref a22, .int (iI x11), .int (iI x12), .int (iI x13), .int (iI x14)])), (a1, .inl (T 0, 940, .inl f0))]) M w 0 6 clX12 rfl (by decide) G1469 rfl rfl rfl rfl (Nat.le_of_ble_eq_true rfl) rfl dX12_go_87 (fun H locs w => ?_)
            refine lv_aload_n hx hb dX12_go_90 rfl (lv_at hl 0 rfl) ?_
            refine lv_iconst (v := iI 1) hx hb dX12_go_91 (by decide +kernel) ?_
            refine r_put (ws' := [(a0, .inr (11, [.int r0, .ref a1, .int (iI x0), .int (iI x1), .int r1, .int (iI z1), .int (iI z9), .int (iI 1), .int (iI x4), .int r3, .int r4, .int r5, .long y0, .int (iI x5), .ref a2, .ref a3, .ref a4, .ref a5, .ref a6, .ref a7, .ref a8, .ref a9, .ref a10, .ref a11, .int (iI x6), .ref a12, .ref a13, .ref a14, .ref a15, .int (iI x7), .int r6, .int r7, .ref a16, .int r8, .int r9, .ref a17, .ref a18, .int (iI x8), .ref a19, .int (iI x9), .int r10, .ref a20, .ref a21, .int (iI x10), .int r11, .ref a22, .int (iI x11), .int (iI x12), .int (iI x13), .int (iI x14)])), (a1, .inl (T 0, 940, .inl f0))]) M w 0 7 clX12 rfl (by decide) G1470 rfl rfl rfl rfl (Nat.le_of_ble_eq_true rfl) rfl dX12_go_92 (fun H locs w => ?_)
            exact ret (z1, (iI z9), 1, x4, r3, y0) _ _ _ _ _ [0, 1] dX12_go_95 ⟨z1_a, z1_b, (show (0 : Int) ≤ 1 from by decide), (show (1 : Int) ≤ 4 from by decide), x4_a, x4_b, (show 0 ≤ (z1 - x2) from by omega), (show 0 ≤ (((z1 - x2) - 1) + 3) from by omega)⟩ w (by decide) rfl
      · replace c_2 : z1 < x1 := Int.not_le.mp (fun h => c_2 ((iI_le (Int.le_trans (by decide) x1_a) (Int.le_trans x1_b (by decide)) (Int.le_trans (by decide) z1_a) (Int.le_trans z1_b (by decide))).mpr h))
        refine lv_aload_n hx hb dX12_go_11 rfl (lv_at hl 0 rfl) ?_
        refine r_get (v := .ref a1) M w 0 1 clX12 rfl (by decide) G1464 rfl rfl dX12_go_12 ?_
        refine lv_aload_n hx hb dX12_go_15 rfl (lv_at hl 0 rfl) ?_
        refine r_get (v := .int (iI z1)) M w 0 5 clX12 rfl (by decide) G1468 rfl rfl dX12_go_16 ?_
        refine r_iald (v := _) M w 1 rfl (iI_in (by omega) (by omega) (by decide)) rfl dX12_go_19 ?_
        refine b_any (fun z10 z10_a z10_b => ?_)
        refine lv_bipush (v := iI 32) hx hb dX12_go_20 (by decide +kernel) ?_
        refine lv_icmp_eq (tgt := 39) hx hb dX12_go_22 (by decide) (fun c_11 => ?_) (fun c_11 => ?_)
        · replace c_11 := (iI_eq (Int.le_trans (by decide) z10_a) (Int.le_trans z10_b (by decide)) (by decide) (by decide)).mp c_11
          refine lv_aload_n hx hb dX12_go_39 rfl (lv_at hl 0 rfl) ?_
          refine lv_dup hx hb dX12_go_40 rfl ?_
          refine r_get (v := .int (iI z1)) M w 0 5 clX12 rfl (by decide) G1468 rfl rfl dX12_go_41 ?_
          refine lv_iconst (v := iI 1) hx hb dX12_go_44 (by decide +kernel) ?_
          refine r_iadd (v := iI (z1 + 1)) M (iI_add _ _) dX12_go_45 ?_
          refine r_put (ws' := [(a0, .inr (11, [.int r0, .ref a1, .int (iI x0), .int (iI x1), .int r1, .int (iI (z1 + 1)), .int r2, .int (iI x3), .int (iI x4), .int r3, .int r4, .int r5, .long y0, .int (iI x5), .ref a2, .ref a3, .ref a4, .ref a5, .ref a6, .ref a7, .ref a8, .ref a9, .ref a10, .ref a11, .int (iI x6), .ref a12, .ref a13, .ref a14, .ref a15, .int (iI x7), .int r6, .int r7, .ref a16, .int r8, .int r9, .ref a17, .ref a18, .int (iI x8), .ref a19, .int (iI x9), .int r10, .ref a20, .ref a21, .int (iI x10), .int r11, .ref a22, .int (iI x11), .int (iI x12), .int (iI x13), .int (iI x14)])), (a1, .inl (T 0, 940, .inl f0))]) M w 0 5 clX12 rfl (by decide) G1468 rfl rfl rfl rfl (Nat.le_of_ble_eq_true rfl) rfl dX12_go_46 (fun H locs w => ?_)
          refine lv_goto (tgt := 0) hx hb dX12_go_49 (by decide) ?_
          exact ih1 (z1 + 1) _ _ _ (by omega) (by omega) (by omega) (by omega) w (lv_sub hl [0] rfl)
        · replace c_11 : ¬ z10 = 32 := fun h => c_11 ((iI_eq (Int.le_trans (by decide) z10_a) (Int.le_trans z10_b (by decide)) (by decide) (by decide)).mpr h)
          refine lv_aload_n hx hb dX12_go_25 rfl (lv_at hl 0 rfl) ?_
          refine r_get (v := .ref a1) M w 0 1 clX12 rfl (by decide) G1464 rfl rfl dX12_go_26 ?_
          refine lv_aload_n hx hb dX12_go_29 rfl (lv_at hl 0 rfl) ?_
          refine r_get (v := .int (iI z1)) M w 0 5 clX12 rfl (by decide) G1468 rfl rfl dX12_go_30 ?_
          refine r_iald (v := _) M w 1 rfl (iI_in (by omega) (by omega) (by decide)) rfl dX12_go_33 ?_
          refine b_any (fun z12 z12_a z12_b => ?_)
          refine lv_bipush (v := iI 10) hx hb dX12_go_34 (by decide +kernel) ?_
          refine lv_icmp_ne (tgt := 52) hx hb dX12_go_36 (by decide) (fun c_13 => ?_) (fun c_13 => ?_)
          · replace c_13 : ¬ z12 = 10 := fun h => c_13 ((iI_eq (Int.le_trans (by decide) z12_a) (Int.le_trans z12_b (by decide)) (by decide) (by decide)).mpr h)
            refine lv_aload_n hx hb dX12_go_52 rfl (lv_at hl 0 rfl) ?_
            refine lv_aload_n hx hb dX12_go_53 rfl (lv_at hl 0 rfl) ?_
            refine r_get (v := .int (iI z1)) M w 0 5 clX12 rfl (by decide) G1468 rfl rfl dX12_go_54 ?_
            refine r_put (ws' := [(a0, .inr (11, [.int r0, .ref a1, .int (iI x0), .int (iI x1), .int r1, .int (iI z1), .int (iI z1), .int (iI x3), .int (iI x4), .int r3, .int r4, .int r5, .long y0, .int (iI x5), .ref a2, .ref a3, .ref a4, .ref a5, .ref a6, .ref a7, .ref a8, .ref a9, .ref a10, .ref a11, .int (iI x6), .ref a12, .ref a13, .ref a14, .ref a15, .int (iI x7), .int r6, .int r7, .ref a16, .int r8, .int r9, .ref a17, .ref a18, .int (iI x8), .ref a19, .int (iI x9), .int r10, .ref a20, .ref a21, .int (iI x10), .int r11, .ref a22, .int (iI x11), .int (iI x12), .int (iI x13), .int (iI x14)])), (a1, .inl (T 0, 940, .inl f0))]) M w 0 6 clX12 rfl (by decide) G1469 rfl rfl rfl rfl (Nat.le_of_ble_eq_true rfl) rfl dX12_go_57 (fun H locs w => ?_)
            refine lv_aload_n hx hb dX12_go_60 rfl (lv_at hl 0 rfl) ?_
            refine r_get (v := .int (iI x1)) M w 0 3 clX12 rfl (by decide) G1466 rfl rfl dX12_go_61 ?_
            refine lv_aload_n hx hb dX12_go_64 rfl (lv_at hl 0 rfl) ?_
            refine r_get (v := .int r1) M w 0 4 clX12 rfl (by decide) G1467 rfl rfl dX12_go_65 ?_
            refine b_any (fun z14 z14_a z14_b => ?_)
            refine lv_icmp_le (tgt := 96) hx hb dX12_go_68 (by decide) (fun c_15 => ?_) (fun c_15 => ?_)
            · replace c_15 := (iI_le (Int.le_trans (by decide) x1_a) (Int.le_trans x1_b (by decide)) (Int.le_trans (by decide) z14_a) (Int.le_trans z14_b (by decide))).mp c_15
              refine lv_aload_n hx hb dX12_go_96 rfl (lv_at hl 0 rfl) ?_
              refine r_get (v := .int (iI z1)) M w 0 5 clX12 rfl (by decide) G1468 rfl rfl dX12_go_97 ?_
              refine lv_aload_n hx hb dX12_go_100 rfl (lv_at hl 0 rfl) ?_
              refine r_get (v := .int (iI x1)) M w 0 3 clX12 rfl (by decide) G1466 rfl rfl dX12_go_101 ?_
              refine lv_icmp_lt (tgt := 113) hx hb dX12_go_104 (by decide) (fun c_16 => ?_) (fun c_16 => ?_)
              · replace c_16 := (iI_lt (Int.le_trans (by decide) z1_a) (Int.le_trans z1_b (by decide)) (Int.le_trans (by decide) x1_a) (Int.le_trans x1_b (by decide))).mp c_16
                refine lv_aload_n hx hb dX12_go_113 rfl (lv_at hl 0 rfl) ?_
                refine r_get (v := .ref a1) M w 0 1 clX12 rfl (by decide) G1464 rfl rfl dX12_go_114 ?_
                refine lv_aload_n hx hb dX12_go_117 rfl (lv_at hl 0 rfl) ?_
                refine r_get (v := .int (iI z1)) M w 0 5 clX12 rfl (by decide) G1468 rfl rfl dX12_go_118 ?_
                refine r_iald (v := _) M w 1 rfl (iI_in (by omega) (by omega) (by decide)) rfl dX12_go_121 ?_
                refine b_any (fun z17 z17_a z17_b => ?_)
                refine lv_istore_n (lv' := [(1, .int (iI z17)), (0, .ref a0)]) hx hb dX12_go_122 rfl hl (by decide) rfl (fun ls hl => ?_)
                refine lv_iload_n hx hb dX12_go_123 rfl (lv_at hl 0 rfl) ?_
                refine k_I (ce := 0) (sl := 0) (rest := []) (wr := [(a0, .inr (11, [.int r0, .ref a1, .int (iI x0), .int (iI x1), .int r1, .int (iI z1), .int (iI z1), .int (iI x3), .int (iI x4), .int r3, .int r4, .int r5, .long y0, .int (iI x5), .ref a2, .ref a3, .ref a4, .ref a5, .ref a6, .ref a7, .ref a8, .ref a9, .ref a10, .ref a11, .int (iI x6), .ref a12, .ref a13, .ref a14, .ref a15, .int (iI x7), .int r6, .int r7, .ref a16, .int r8, .int r9, .ref a17, .ref a18, .int (iI x8), .ref a19, .int (iI x9), .int r10, .ref a20, .ref a21, .int (iI x10), .int r11, .ref a22, .int (iI x11), .int (iI x12), .int (iI x13), .int (iI x14)])), (a1, .inl (T 0, 940, .inl f0))]) (r_S (f := 0) [] M w V_HookedCityModel_33 G1632 (c11_X12_isLetter l D T _ z17 z17_a z17_b) rfl (by decide) rfl hl.1 rfl (Nat.le_of_ble_eq_true rfl) dX12_go_124 (by decide) (by decide) (by decide) (by decide)) w [] [0, 1] rfl rfl (by decide) (by decide) rfl rfl (fun v z18 H locs hp w => ?_)
                have hv : iI z18 = v := hp.1
                subst hv
                have z18_a : 0 ≤ z18 := hp.2.1
                have z18_b : z18 ≤ 1 := hp.2.2.1
                have ee19 : 0 ≤ ((z17 + 4294967296) - (z18 * 4294967393)) := hp.2.2.2
                have w : WD D A s.heap [(a0, .inr (11, [.int r0, .ref a1, .int (iI x0), .int (iI x1), .int r1, .int (iI z1), .int (iI z1), .int (iI x3), .int (iI x4), .int r3, .int r4, .int r5, .long y0, .int (iI x5), .ref a2, .ref a3, .ref a4, .ref a5, .ref a6, .ref a7, .ref a8, .ref a9, .ref a10, .ref a11, .int (iI x6), .ref a12, .ref a13, .ref a14, .ref a15, .int (iI x7), .int r6, .int r7, .ref a16, .int r8, .int r9, .ref a17, .ref a18, .int (iI x8), .ref a19, .int (iI x9), .int r10, .ref a20, .ref a21, .int (iI x10), .int r11, .ref a22, .int (iI x11), .int (iI x12), .int (iI x13), .int (iI x14)])), (a1, .inl (T 0, 940, .inl f0))] H locs := w
                refine lv_if_ne (tgt := 198) hx hb dX12_go_127 (by decide) (fun c_20 => ?_) (fun c_20 => ?_)
                · replace c_20 : ¬ z18 = 0 := fun h => c_20 ((iz_eq (Int.le_trans (by decide) z18_a) (Int.le_trans z18_b (by decide))).mpr h)
                  refine lv_iload_n hx hb dX12_go_198 rfl (lv_at hl 0 rfl) ?_
                  refine k_I (ce := 0) (sl := 0) (rest := []) (wr := [(a0, .inr (11, [.int r0, .ref a1, .int (iI x0), .int (iI x1), .int r1, .int (iI z1), .int (iI z1), .int (iI x3), .int (iI x4), .int r3, .int r4, .int r5, .long y0, .int (iI x5), .ref a2, .ref a3, .ref a4, .ref a5, .ref a6, .ref a7, .ref a8, .ref a9, .ref a10, .ref a11, .int (iI x6), .ref a12, .ref a13, .ref a14, .ref a15, .int (iI x7), .int r6, .int r7, .ref a16, .int r8, .int r9, .ref a17, .ref a18, .int (iI x8), .ref a19, .int (iI x9), .int r10, .ref a20, .ref a21, .int (iI x10), .int r11, .ref a22, .int (iI x11), .int (iI x12), .int (iI x13), .int (iI x14)])), (a1, .inl (T 0, 940, .inl f0))]) (r_S (f := 0) [] M w V_HookedCityModel_33 G1632 (c11_X12_isLetter l D T _ z17 z17_a z17_b) rfl (by decide) rfl hl.1 rfl (Nat.le_of_ble_eq_true rfl) dX12_go_199 (by decide) (by decide) (by decide) (by decide)) w [] [0, 1] rfl rfl (by decide) (by decide) rfl rfl (fun v z21 H locs hp w => ?_)
                  have hv : iI z21 = v := hp.1
                  subst hv
                  have z21_a : 0 ≤ z21 := hp.2.1
                  have z21_b : z21 ≤ 1 := hp.2.2.1
                  have ee22 : 0 ≤ ((z17 + 4294967296) - (z21 * 4294967393)) := hp.2.2.2
                  have w : WD D A s.heap [(a0, .inr (11, [.int r0, .ref a1, .int (iI x0), .int (iI x1), .int r1, .int (iI z1), .int (iI z1), .int (iI x3), .int (iI x4), .int r3, .int r4, .int r5, .long y0, .int (iI x5), .ref a2, .ref a3, .ref a4, .ref a5, .ref a6, .ref a7, .ref a8, .ref a9, .ref a10, .ref a11, .int (iI x6), .ref a12, .ref a13, .ref a14, .ref a15, .int (iI x7), .int r6, .int r7, .ref a16, .int r8, .int r9, .ref a17, .ref a18, .int (iI x8), .ref a19, .int (iI x9), .int r10, .ref a20, .ref a21, .int (iI x10), .int r11, .ref a22, .int (iI x11), .int (iI x12), .int (iI x13), .int (iI x14)])), (a1, .inl (T 0, 940, .inl f0))] H locs := w
                  refine lv_istore_n (lv' := [(2, .int (iI z21)), (1, .int (iI z17)), (0, .ref a0)]) hx hb dX12_go_202 rfl hl (by decide) rfl (fun ls hl => ?_)
                  refine lv_iconst (v := iI 1) hx hb dX12_go_203 (by decide +kernel) ?_
                  refine lv_istore_n (lv' := [(3, .int (iI 1)), (2, .int (iI z21)), (1, .int (iI z17)), (0, .ref a0)]) hx hb dX12_go_204 rfl hl (by decide) rfl (fun ls hl => ?_)
                  refine lv_aload_n hx hb dX12_go_205 rfl (lv_at hl 3 rfl) ?_
                  refine lv_lconst (v := 0) hx hb dX12_go_206 (by decide) ?_
                  refine r_put (ws' := [(a0, .inr (11, [.int r0, .ref a1, .int (iI x0), .int (iI x1), .int r1, .int (iI z1), .int (iI z1), .int (iI x3), .int (iI x4), .int r3, .int r4, .int r5, .long 0, .int (iI x5), .ref a2, .ref a3, .ref a4, .ref a5, .ref a6, .ref a7, .ref a8, .ref a9, .ref a10, .ref a11, .int (iI x6), .ref a12, .ref a13, .ref a14, .ref a15, .int (iI x7), .int r6, .int r7, .ref a16, .int r8, .int r9, .ref a17, .ref a18, .int (iI x8), .ref a19, .int (iI x9), .int r10, .ref a20, .ref a21, .int (iI x10), .int r11, .ref a22, .int (iI x11), .int (iI x12), .int (iI x13), .int (iI x14)])), (a1, .inl (T 0, 940, .inl f0))]) M w 0 12 clX12 rfl (by decide) G1475 rfl rfl rfl rfl (Nat.le_of_ble_eq_true rfl) rfl dX12_go_207 (fun H locs w => ?_)
                  refine lv_aload_n hx hb dX12_go_210 rfl (lv_at hl 3 rfl) ?_
                  refine lv_iconst (v := iI 0) hx hb dX12_go_211 (by decide +kernel) ?_
                  refine r_put (ws' := [(a0, .inr (11, [.int r0, .ref a1, .int (iI x0), .int (iI x1), .int r1, .int (iI z1), .int (iI z1), .int (iI x3), .int (iI 0), .int r3, .int r4, .int r5, .long 0, .int (iI x5), .ref a2, .ref a3, .ref a4, .ref a5, .ref a6, .ref a7, .ref a8, .ref a9, .ref a10, .ref a11, .int (iI x6), .ref a12, .ref a13, .ref a14, .ref a15, .int (iI x7), .int r6, .int r7, .ref a16, .int r8, .int r9, .ref a17, .ref a18, .int (iI x8), .ref a19, .int (iI x9), .int r10, .ref a20, .ref a21, .int (iI x10), .int r11, .ref a22, .int (iI x11), .int (iI x12), .int (iI x13), .int (iI x14)])), (a1, .inl (T 0, 940, .inl f0))]) M w 0 8 clX12 rfl (by decide) G1471 rfl rfl rfl rfl (Nat.le_of_ble_eq_true rfl) rfl dX12_go_212 (fun H locs w => ?_)
                  have loop2 : ∀ (k2 : Nat) (fy23 : Int64) (z24 : Int) (z25 : Int) (z26 : Int) (H : Heap) (locs : List Loc) (ls : Array Slot), 0 ≤ z24 → z24 ≤ 940 → (-2147483648) ≤ z25 → z25 ≤ 2147483647 → (-2147483648) ≤ z26 → z26 ≤ 2147483647 → 0 ≤ (z24 - x2) → ((x1 - z24) : Int).toNat < k2 → WD D A s.heap [(a0, .inr (11, [.int r0, .ref a1, .int (iI x0), .int (iI x1), .int r1, .int (iI z24), .int (iI z1), .int (iI x3), .int (iI z25), .int r3, .int r4, .int r5, .long fy23, .int (iI x5), .ref a2, .ref a3, .ref a4, .ref a5, .ref a6, .ref a7, .ref a8, .ref a9, .ref a10, .ref a11, .int (iI x6), .ref a12, .ref a13, .ref a14, .ref a15, .int (iI x7), .int r6, .int r7, .ref a16, .int r8, .int r9, .ref a17, .ref a18, .int (iI x8), .ref a19, .int (iI x9), .int r10, .ref a20, .ref a21, .int (iI x10), .int r11, .ref a22, .int (iI x11), .int (iI x12), .int (iI x13), .int (iI x14)])), (a1, .inl (T 0, 940, .inl f0))] H locs → lv_has ls 5 [(3, .int (iI z26)), (2, .int (iI z21)), (1, .int (iI z17)), (0, .ref a0)] → W p l e (Rm 1 0 0) s m args below meth c H locs 0 0 Q (F0 m 215 ls []) := by
                    intro k2
                    induction k2 with
                    | zero => intro fy23 z24 z25 z26 H locs ls z24_a z24_b z25_a z25_b z26_a z26_b q2_0 hm; exact absurd hm (Nat.not_lt_zero _)
                    | succ k2 ih2 =>
                      intro fy23 z24 z25 z26 H locs ls z24_a z24_b z25_a z25_b z26_a z26_b q2_0 hm2 w hl
                      refine lv_aload_n hx hb dX12_go_215 rfl (lv_at hl 3 rfl) ?_
                      refine lv_aload_n hx hb dX12_go_216 rfl (lv_at hl 3 rfl) ?_
                      refine r_get (v := .int (iI z24)) M w 0 5 clX12 rfl (by decide) G1468 rfl rfl dX12_go_217 ?_
                      refine k_I (ce := 0) (sl := 0) (rest := []) (wr := []) (r_V (f := 0) [0, 1] M w V_HookedCityModel_50 G1639 G50 (c9_X12_tapeAt l D T _ a0 z24 r0 a1 x0 x1 r1 z24 (iI z1) x3 z25 r3 r4 r5 fy23 x5 a2 a3 a4 a5 a6 a7 a8 a9 a10 a11 x6 a12 a13 a14 a15 x7 r6 r7 a16 r8 r9 a17 a18 x8 a19 x9 r10 a20 a21 x10 r11 a22 x11 x12 x13 x14 f0 z24_a z24_b x0_a x0_b x1_a x1_b z24_a z24_b x3_a x3_b z25_a z25_b x5_a x5_b x6_a x6_b x7_a x7_b x8_a x8_b x9_a x9_b x10_a x10_b x11_a x11_b x12_a x12_b x13_a x13_b x14_a x14_b) 0 clX12 rfl rfl (by decide) rfl hl.1 rfl (Nat.le_of_ble_eq_true rfl) dX12_go_220 (by decide) (by decide) (by decide) (by decide)) w [0, 1] [] rfl rfl (by decide) (by decide) rfl rfl (fun v z27 H locs hp w => ?_)
                      have hv : iI z27 = v := hp.1
                      subst hv
                      have z27_a : (-2147483648) ≤ z27 := hp.2.1
                      have z27_b : z27 ≤ 2147483647 := hp.2.2.1
                      have w : WD D A s.heap [(a0, .inr (11, [.int r0, .ref a1, .int (iI x0), .int (iI x1), .int r1, .int (iI z24), .int (iI z1), .int (iI x3), .int (iI z25), .int r3, .int r4, .int r5, .long fy23, .int (iI x5), .ref a2, .ref a3, .ref a4, .ref a5, .ref a6, .ref a7, .ref a8, .ref a9, .ref a10, .ref a11, .int (iI x6), .ref a12, .ref a13, .ref a14, .ref a15, .int (iI x7), .int r6, .int r7, .ref a16, .int r8, .int r9, .ref a17, .ref a18, .int (iI x8), .ref a19, .int (iI x9), .int r10, .ref a20, .ref a21, .int (iI x10), .int r11, .ref a22, .int (iI x11), .int (iI x12), .int (iI x13), .int (iI x14)])), (a1, .inl (T 0, 940, .inl f0))] H locs := w
                      rcases hp.2.2.2 with ⟨c_28, hr⟩ | c_29
                      · subst hr
                        refine k_I (ce := 0) (sl := 0) (rest := []) (wr := [(a0, .inr (11, [.int r0, .ref a1, .int (iI x0), .int (iI x1), .int r1, .int (iI z24), .int (iI z1), .int (iI x3), .int (iI z25), .int r3, .int r4, .int r5, .long fy23, .int (iI x5), .ref a2, .ref a3, .ref a4, .ref a5, .ref a6, .ref a7, .ref a8, .ref a9, .ref a10, .ref a11, .int (iI x6), .ref a12, .ref a13, .ref a14, .ref a15, .int (iI x7), .int r6, .int r7, .ref a16, .int r8, .int r9, .ref a17, .ref a18, .int (iI x8), .ref a19, .int (iI x9), .int r10, .ref a20, .ref a21, .int (iI x10), .int r11, .ref a22, .int (iI x11), .int (iI x12), .int (iI x13), .int (iI x14)])), (a1, .inl (T 0, 940, .inl f0))]) (r_S (f := 0) [] M w V_HookedCityModel_33 G1632 (c11_X12_isLetter l D T _ 0 (by decide) (by decide)) rfl (by decide) rfl hl.1 rfl (Nat.le_of_ble_eq_true rfl) dX12_go_223 (by decide) (by decide) (by decide) (by decide)) w [] [0, 1] rfl rfl (by decide) (by decide) rfl rfl (fun v z30 H locs hp w => ?_)
                        have hv : iI z30 = v := hp.1
                        subst hv
                        have z30_a : 0 ≤ z30 := hp.2.1
                        have z30_b : z30 ≤ 1 := hp.2.2.1
                        have ee31 : 0 ≤ ((0 + 4294967296) - (z30 * 4294967393)) := hp.2.2.2
                        have w : WD D A s.heap [(a0, .inr (11, [.int r0, .ref a1, .int (iI x0), .int (iI x1), .int r1, .int (iI z24), .int (iI z1), .int (iI x3), .int (iI z25), .int r3, .int r4, .int r5, .long fy23, .int (iI x5), .ref a2, .ref a3, .ref a4, .ref a5, .ref a6, .ref a7, .ref a8, .ref a9, .ref a10, .ref a11, .int (iI x6), .ref a12, .ref a13, .ref a14, .ref a15, .int (iI x7), .int r6, .int r7, .ref a16, .int r8, .int r9, .ref a17, .ref a18, .int (iI x8), .ref a19, .int (iI x9), .int r10, .ref a20, .ref a21, .int (iI x10), .int r11, .ref a22, .int (iI x11), .int (iI x12), .int (iI x13), .int (iI x14)])), (a1, .inl (T 0, 940, .inl f0))] H locs := w
                        refine lv_if_ne (tgt := 243) hx hb dX12_go_226 (by decide) (fun c_32 => ?_) (fun c_32 => ?_)
                        · replace c_32 : ¬ z30 = 0 := fun h => c_32 ((iz_eq (Int.le_trans (by decide) z30_a) (Int.le_trans z30_b (by decide))).mpr h)
                          exfalso; omega
                        · replace c_32 := (iz_eq (Int.le_trans (by decide) z30_a) (Int.le_trans z30_b (by decide))).mp c_32
                          refine lv_aload_n hx hb dX12_go_229 rfl (lv_at hl 3 rfl) ?_
                          refine lv_aload_n hx hb dX12_go_230 rfl (lv_at hl 3 rfl) ?_
                          refine r_get (v := .int (iI z24)) M w 0 5 clX12 rfl (by decide) G1468 rfl rfl dX12_go_231 ?_
                          refine k_I (ce := 0) (sl := 0) (rest := []) (wr := []) (r_V (f := 0) [0, 1] M w V_HookedCityModel_50 G1639 G50 (c9_X12_tapeAt l D T _ a0 z24 r0 a1 x0 x1 r1 z24 (iI z1) x3 z25 r3 r4 r5 fy23 x5 a2 a3 a4 a5 a6 a7 a8 a9 a10 a11 x6 a12 a13 a14 a15 x7 r6 r7 a16 r8 r9 a17 a18 x8 a19 x9 r10 a20 a21 x10 r11 a22 x11 x12 x13 x14 f0 z24_a z24_b x0_a x0_b x1_a x1_b z24_a z24_b x3_a x3_b z25_a z25_b x5_a x5_b x6_a x6_b x7_a x7_b x8_a x8_b x9_a x9_b x10_a x10_b x11_a x11_b x12_a x12_b x13_a x13_b x14_a x14_b) 0 clX12 rfl rfl (by decide) rfl hl.1 rfl (Nat.le_of_ble_eq_true rfl) dX12_go_234 (by decide) (by decide) (by decide) (by decide)) w [0, 1] [] rfl rfl (by decide) (by decide) rfl rfl (fun v z33 H locs hp w => ?_)
                          have hv : iI z33 = v := hp.1
                          subst hv
                          have z33_a : (-2147483648) ≤ z33 := hp.2.1
                          have z33_b : z33 ≤ 2147483647 := hp.2.2.1
                          have w : WD D A s.heap [(a0, .inr (11, [.int r0, .ref a1, .int (iI x0), .int (iI x1), .int r1, .int (iI z24), .int (iI z1), .int (iI x3), .int (iI z25), .int r3, .int r4, .int r5, .long fy23, .int (iI x5), .ref a2, .ref a3, .ref a4, .ref a5, .ref a6, .ref a7, .ref a8, .ref a9, .ref a10, .ref a11, .int (iI x6), .ref a12, .ref a13, .ref a14, .ref a15, .int (iI x7), .int r6, .int r7, .ref a16, .int r8, .int r9, .ref a17, .ref a18, .int (iI x8), .ref a19, .int (iI x9), .int r10, .ref a20, .ref a21, .int (iI x10), .int r11, .ref a22, .int (iI x11), .int (iI x12), .int (iI x13), .int (iI x14)])), (a1, .inl (T 0, 940, .inl f0))] H locs := w
                          rcases hp.2.2.2 with ⟨c_34, hr⟩ | c_35
                          · subst hr
                            refine k_I (ce := 0) (sl := 0) (rest := []) (wr := [(a0, .inr (11, [.int r0, .ref a1, .int (iI x0), .int (iI x1), .int r1, .int (iI z24), .int (iI z1), .int (iI x3), .int (iI z25), .int r3, .int r4, .int r5, .long fy23, .int (iI x5), .ref a2, .ref a3, .ref a4, .ref a5, .ref a6, .ref a7, .ref a8, .ref a9, .ref a10, .ref a11, .int (iI x6), .ref a12, .ref a13, .ref a14, .ref a15, .int (iI x7), .int r6, .int r7, .ref a16, .int r8, .int r9, .ref a17, .ref a18, .int (iI x8), .ref a19, .int (iI x9), .int r10, .ref a20, .ref a21, .int (iI x10), .int r11, .ref a22, .int (iI x11), .int (iI x12), .int (iI x13), .int (iI x14)])), (a1, .inl (T 0, 940, .inl f0))]) (r_S (f := 0) [] M w V_HookedCityModel_37 G1635 (c10_X12_isDigit l D T _ 0 (by decide) (by decide)) rfl (by decide) rfl hl.1 rfl (Nat.le_of_ble_eq_true rfl) dX12_go_237 (by decide) (by decide) (by decide) (by decide)) w [] [0, 1] rfl rfl (by decide) (by decide) rfl rfl (fun v z36 H locs hp w => ?_)
                            have hv : iI z36 = v := hp.1
                            subst hv
                            have z36_a : 0 ≤ z36 := hp.2.1
                            have z36_b : z36 ≤ 1 := hp.2.2.1
                            have ee37 : 0 ≤ ((0 + 4294967296) - (z36 * 4294967344)) := hp.2.2.2
                            have w : WD D A s.heap [(a0, .inr (11, [.int r0, .ref a1, .int (iI x0), .int (iI x1), .int r1, .int (iI z24), .int (iI z1), .int (iI x3), .int (iI z25), .int r3, .int r4, .int r5, .long fy23, .int (iI x5), .ref a2, .ref a3, .ref a4, .ref a5, .ref a6, .ref a7, .ref a8, .ref a9, .ref a10, .ref a11, .int (iI x6), .ref a12, .ref a13, .ref a14, .ref a15, .int (iI x7), .int r6, .int r7, .ref a16, .int r8, .int r9, .ref a17, .ref a18, .int (iI x8), .ref a19, .int (iI x9), .int r10, .ref a20, .ref a21, .int (iI x10), .int r11, .ref a22, .int (iI x11), .int (iI x12), .int (iI x13), .int (iI x14)])), (a1, .inl (T 0, 940, .inl f0))] H locs := w
                            refine lv_if_eq (tgt := 350) hx hb dX12_go_240 (by decide) (fun c_38 => ?_) (fun c_38 => ?_)
                            · replace c_38 := (iz_eq (Int.le_trans (by decide) z36_a) (Int.le_trans z36_b (by decide))).mp c_38
                              refine lv_aload_n hx hb dX12_go_350 rfl (lv_at hl 3 rfl) ?_
                              refine lv_iload_n hx hb dX12_go_351 rfl (lv_at hl 0 rfl) ?_
                              refine lv_if_eq (tgt := 377) hx hb dX12_go_352 (by decide) (fun c_39 => ?_) (fun c_39 => ?_)
                              · replace c_39 := (iz_eq (Int.le_trans (by decide) z26_a) (Int.le_trans z26_b (by decide))).mp c_39
                                refine lv_iconst (v := iI 1) hx hb dX12_go_377 (by decide +kernel) ?_
                                refine lv_goto (tgt := 390) hx hb dX12_go_378 (by decide) ?_
                                refine r_put (ws' := [(a0, .inr (11, [.int r0, .ref a1, .int (iI x0), .int (iI x1), .int r1, .int (iI z24), .int (iI z1), .int (iI 1), .int (iI z25), .int r3, .int r4, .int r5, .long fy23, .int (iI x5), .ref a2, .ref a3, .ref a4, .ref a5, .ref a6, .ref a7, .ref a8, .ref a9, .ref a10, .ref a11, .int (iI x6), .ref a12, .ref a13, .ref a14, .ref a15, .int (iI x7), .int r6, .int r7, .ref a16, .int r8, .int r9, .ref a17, .ref a18, .int (iI x8), .ref a19, .int (iI x9), .int r10, .ref a20, .ref a21, .int (iI x10), .int r11, .ref a22, .int (iI x11), .int (iI x12), .int (iI x13), .int (iI x14)])), (a1, .inl (T 0, 940, .inl f0))]) M w 0 7 clX12 rfl (by decide) G1470 rfl rfl rfl rfl (Nat.le_of_ble_eq_true rfl) rfl dX12_go_390 (fun H locs w => ?_)
                                exact ret (z24, (iI z1), 1, z25, r3, fy23) _ _ _ _ _ [0, 1] dX12_go_393 ⟨z24_a, z24_b, (show (0 : Int) ≤ 1 from by decide), (show (1 : Int) ≤ 4 from by decide), z25_a, z25_b, (show 0 ≤ (z24 - x2) from by omega), (show 0 ≤ (((z24 - x2) - 1) + 3) from by omega)⟩ w (by decide) rfl
                              · replace c_39 : ¬ z26 = 0 := fun h => c_39 ((iz_eq (Int.le_trans (by decide) z26_a) (Int.le_trans z26_b (by decide))).mpr h)
                                refine lv_aload_n hx hb dX12_go_355 rfl (lv_at hl 3 rfl) ?_
                                refine r_get (v := .int (iI z24)) M w 0 5 clX12 rfl (by decide) G1468 rfl rfl dX12_go_356 ?_
                                refine lv_aload_n hx hb dX12_go_359 rfl (lv_at hl 3 rfl) ?_
                                refine r_get (v := .int (iI z1)) M w 0 6 clX12 rfl (by decide) G1469 rfl rfl dX12_go_360 ?_
                                refine b_any (fun z40 z40_a z40_b => ?_)
                                refine r_isub (v := _) M rfl dX12_go_363 ?_
                                refine b_any (fun z41 z41_a z41_b => ?_)
                                refine lv_iload_n hx hb dX12_go_364 rfl (lv_at hl 1 rfl) ?_
                                refine lv_if_eq (tgt := 373) hx hb dX12_go_365 (by decide) (fun c_42 => ?_) (fun c_42 => ?_)
                                · replace c_42 := (iz_eq (Int.le_trans (by decide) z21_a) (Int.le_trans z21_b (by decide))).mp c_42
                                  refine lv_iconst (v := iI 3) hx hb dX12_go_373 (by decide +kernel) ?_
                                  refine lv_icmp_le (tgt := 381) hx hb dX12_go_374 (by decide) (fun c_43 => ?_) (fun c_43 => ?_)
                                  · replace c_43 := (iI_le (Int.le_trans (by decide) z41_a) (Int.le_trans z41_b (by decide)) (by decide) (by decide)).mp c_43
                                    refine lv_iload_n hx hb dX12_go_381 rfl (lv_at hl 1 rfl) ?_
                                    refine lv_if_eq (tgt := 389) hx hb dX12_go_382 (by decide) (fun c_44 => ?_) (fun c_44 => ?_)
                                    · replace c_44 := (iz_eq (Int.le_trans (by decide) z21_a) (Int.le_trans z21_b (by decide))).mp c_44
                                      refine lv_iconst (v := iI 3) hx hb dX12_go_389 (by decide +kernel) ?_
                                      refine r_put (ws' := [(a0, .inr (11, [.int r0, .ref a1, .int (iI x0), .int (iI x1), .int r1, .int (iI z24), .int (iI z1), .int (iI 3), .int (iI z25), .int r3, .int r4, .int r5, .long fy23, .int (iI x5), .ref a2, .ref a3, .ref a4, .ref a5, .ref a6, .ref a7, .ref a8, .ref a9, .ref a10, .ref a11, .int (iI x6), .ref a12, .ref a13, .ref a14, .ref a15, .int (iI x7), .int r6, .int r7, .ref a16, .int r8, .int r9, .ref a17, .ref a18, .int (iI x8), .ref a19, .int (iI x9), .int r10, .ref a20, .ref a21, .int (iI x10), .int r11, .ref a22, .int (iI x11), .int (iI x12), .int (iI x13), .int (iI x14)])), (a1, .inl (T 0, 940, .inl f0))]) M w 0 7 clX12 rfl (by decide) G1470 rfl rfl rfl rfl (Nat.le_of_ble_eq_true rfl) rfl dX12_go_390 (fun H locs w => ?_)
                                      exact ret (z24, (iI z1), 3, z25, r3, fy23) _ _ _ _ _ [0, 1] dX12_go_393 ⟨z24_a, z24_b, (show (0 : Int) ≤ 3 from by decide), (show (3 : Int) ≤ 4 from by decide), z25_a, z25_b, (show 0 ≤ (z24 - x2) from by omega), (show 0 ≤ (((z24 - x2) - 3) + 3) from by omega)⟩ w (by decide) rfl
                                    · replace c_44 : ¬ z21 = 0 := fun h => c_44 ((iz_eq (Int.le_trans (by decide) z21_a) (Int.le_trans z21_b (by decide))).mpr h)
                                      exfalso; omega
                                  · replace c_43 : 3 < z41 := Int.not_le.mp (fun h => c_43 ((iI_le (Int.le_trans (by decide) z41_a) (Int.le_trans z41_b (by decide)) (by decide) (by decide)).mpr h))
                                    refine lv_iconst (v := iI 1) hx hb dX12_go_377 (by decide +kernel) ?_
                                    refine lv_goto (tgt := 390) hx hb dX12_go_378 (by decide) ?_
                                    refine r_put (ws' := [(a0, .inr (11, [.int r0, .ref a1, .int (iI x0), .int (iI x1), .int r1, .int (iI z24), .int (iI z1), .int (iI 1), .int (iI z25), .int r3, .int r4, .int r5, .long fy23, .int (iI x5), .ref a2, .ref a3, .ref a4, .ref a5, .ref a6, .ref a7, .ref a8, .ref a9, .ref a10, .ref a11, .int (iI x6), .ref a12, .ref a13, .ref a14, .ref a15, .int (iI x7), .int r6, .int r7, .ref a16, .int r8, .int r9, .ref a17, .ref a18, .int (iI x8), .ref a19, .int (iI x9), .int r10, .ref a20, .ref a21, .int (iI x10), .int r11, .ref a22, .int (iI x11), .int (iI x12), .int (iI x13), .int (iI x14)])), (a1, .inl (T 0, 940, .inl f0))]) M w 0 7 clX12 rfl (by decide) G1470 rfl rfl rfl rfl (Nat.le_of_ble_eq_true rfl) rfl dX12_go_390 (fun H locs w => ?_)
                                    exact ret (z24, (iI z1), 1, z25, r3, fy23) _ _ _ _ _ [0, 1] dX12_go_393 ⟨z24_a, z24_b, (show (0 : Int) ≤ 1 from by decide), (show (1 : Int) ≤ 4 from by decide), z25_a, z25_b, (show 0 ≤ (z24 - x2) from by omega), (show 0 ≤ (((z24 - x2) - 1) + 3) from by omega)⟩ w (by decide) rfl
                                · replace c_42 : ¬ z21 = 0 := fun h => c_42 ((iz_eq (Int.le_trans (by decide) z21_a) (Int.le_trans z21_b (by decide))).mpr h)
                                  refine lv_bipush (v := iI 7) hx hb dX12_go_368 (by decide +kernel) ?_
                                  refine lv_goto (tgt := 374) hx hb dX12_go_370 (by decide) ?_
                                  refine lv_icmp_le (tgt := 381) hx hb dX12_go_374 (by decide) (fun c_45 => ?_) (fun c_45 => ?_)
                                  · replace c_45 := (iI_le (Int.le_trans (by decide) z41_a) (Int.le_trans z41_b (by decide)) (by decide) (by decide)).mp c_45
                                    refine lv_iload_n hx hb dX12_go_381 rfl (lv_at hl 1 rfl) ?_
                                    refine lv_if_eq (tgt := 389) hx hb dX12_go_382 (by decide) (fun c_46 => ?_) (fun c_46 => ?_)
                                    · replace c_46 := (iz_eq (Int.le_trans (by decide) z21_a) (Int.le_trans z21_b (by decide))).mp c_46
                                      exfalso; omega
                                    · replace c_46 : ¬ z21 = 0 := fun h => c_46 ((iz_eq (Int.le_trans (by decide) z21_a) (Int.le_trans z21_b (by decide))).mpr h)
                                      refine lv_iconst (v := iI 2) hx hb dX12_go_385 (by decide +kernel) ?_
                                      refine lv_goto (tgt := 390) hx hb dX12_go_386 (by decide) ?_
                                      refine r_put (ws' := [(a0, .inr (11, [.int r0, .ref a1, .int (iI x0), .int (iI x1), .int r1, .int (iI z24), .int (iI z1), .int (iI 2), .int (iI z25), .int r3, .int r4, .int r5, .long fy23, .int (iI x5), .ref a2, .ref a3, .ref a4, .ref a5, .ref a6, .ref a7, .ref a8, .ref a9, .ref a10, .ref a11, .int (iI x6), .ref a12, .ref a13, .ref a14, .ref a15, .int (iI x7), .int r6, .int r7, .ref a16, .int r8, .int r9, .ref a17, .ref a18, .int (iI x8), .ref a19, .int (iI x9), .int r10, .ref a20, .ref a21, .int (iI x10), .int r11, .ref a22, .int (iI x11), .int (iI x12), .int (iI x13), .int (iI x14)])), (a1, .inl (T 0, 940, .inl f0))]) M w 0 7 clX12 rfl (by decide) G1470 rfl rfl rfl rfl (Nat.le_of_ble_eq_true rfl) rfl dX12_go_390 (fun H locs w => ?_)
                                      exact ret (z24, (iI z1), 2, z25, r3, fy23) _ _ _ _ _ [0, 1] dX12_go_393 ⟨z24_a, z24_b, (show (0 : Int) ≤ 2 from by decide), (show (2 : Int) ≤ 4 from by decide), z25_a, z25_b, (show 0 ≤ (z24 - x2) from by omega), (show 0 ≤ (((z24 - x2) - 2) + 3) from by omega)⟩ w (by decide) rfl
                                  · replace c_45 : 7 < z41 := Int.not_le.mp (fun h => c_45 ((iI_le (Int.le_trans (by decide) z41_a) (Int.le_trans z41_b (by decide)) (by decide) (by decide)).mpr h))
                                    refine lv_iconst (v := iI 1) hx hb dX12_go_377 (by decide +kernel) ?_
                                    refine lv_goto (tgt := 390) hx hb dX12_go_378 (by decide) ?_
                                    refine r_put (ws' := [(a0, .inr (11, [.int r0, .ref a1, .int (iI x0), .int (iI x1), .int r1, .int (iI z24), .int (iI z1), .int (iI 1), .int (iI z25), .int r3, .int r4, .int r5, .long fy23, .int (iI x5), .ref a2, .ref a3, .ref a4, .ref a5, .ref a6, .ref a7, .ref a8, .ref a9, .ref a10, .ref a11, .int (iI x6), .ref a12, .ref a13, .ref a14, .ref a15, .int (iI x7), .int r6, .int r7, .ref a16, .int r8, .int r9, .ref a17, .ref a18, .int (iI x8), .ref a19, .int (iI x9), .int r10, .ref a20, .ref a21, .int (iI x10), .int r11, .ref a22, .int (iI x11), .int (iI x12), .int (iI x13), .int (iI x14)])), (a1, .inl (T 0, 940, .inl f0))]) M w 0 7 clX12 rfl (by decide) G1470 rfl rfl rfl rfl (Nat.le_of_ble_eq_true rfl) rfl dX12_go_390 (fun H locs w => ?_)
                                    exact ret (z24, (iI z1), 1, z25, r3, fy23) _ _ _ _ _ [0, 1] dX12_go_393 ⟨z24_a, z24_b, (show (0 : Int) ≤ 1 from by decide), (show (1 : Int) ≤ 4 from by decide), z25_a, z25_b, (show 0 ≤ (z24 - x2) from by omega), (show 0 ≤ (((z24 - x2) - 1) + 3) from by omega)⟩ w (by decide) rfl
                            · replace c_38 : ¬ z36 = 0 := fun h => c_38 ((iz_eq (Int.le_trans (by decide) z36_a) (Int.le_trans z36_b (by decide))).mpr h)
                              exfalso; omega
                          · exfalso; omega
                      · refine k_I (ce := 0) (sl := 0) (rest := []) (wr := [(a0, .inr (11, [.int r0, .ref a1, .int (iI x0), .int (iI x1), .int r1, .int (iI z24), .int (iI z1), .int (iI x3), .int (iI z25), .int r3, .int r4, .int r5, .long fy23, .int (iI x5), .ref a2, .ref a3, .ref a4, .ref a5, .ref a6, .ref a7, .ref a8, .ref a9, .ref a10, .ref a11, .int (iI x6), .ref a12, .ref a13, .ref a14, .ref a15, .int (iI x7), .int r6, .int r7, .ref a16, .int r8, .int r9, .ref a17, .ref a18, .int (iI x8), .ref a19, .int (iI x9), .int r10, .ref a20, .ref a21, .int (iI x10), .int r11, .ref a22, .int (iI x11), .int (iI x12), .int (iI x13), .int (iI x14)])), (a1, .inl (T 0, 940, .inl f0))]) (r_S (f := 0) [] M w V_HookedCityModel_33 G1632 (c11_X12_isLetter l D T _ z27 z27_a z27_b) rfl (by decide) rfl hl.1 rfl (Nat.le_of_ble_eq_true rfl) dX12_go_223 (by decide) (by decide) (by decide) (by decide)) w [] [0, 1] rfl rfl (by decide) (by decide) rfl rfl (fun v z47 H locs hp w => ?_)
                        have hv : iI z47 = v := hp.1
                        subst hv
                        have z47_a : 0 ≤ z47 := hp.2.1
                        have z47_b : z47 ≤ 1 := hp.2.2.1
                        have ee48 : 0 ≤ ((z27 + 4294967296) - (z47 * 4294967393)) := hp.2.2.2
                        have w : WD D A s.heap [(a0, .inr (11, [.int r0, .ref a1, .int (iI x0), .int (iI x1), .int r1, .int (iI z24), .int (iI z1), .int (iI x3), .int (iI z25), .int r3, .int r4, .int r5, .long fy23, .int (iI x5), .ref a2, .ref a3, .ref a4, .ref a5, .ref a6, .ref a7, .ref a8, .ref a9, .ref a10, .ref a11, .int (iI x6), .ref a12, .ref a13, .ref a14, .ref a15, .int (iI x7), .int r6, .int r7, .ref a16, .int r8, .int r9, .ref a17, .ref a18, .int (iI x8), .ref a19, .int (iI x9), .int r10, .ref a20, .ref a21, .int (iI x10), .int r11, .ref a22, .int (iI x11), .int (iI x12), .int (iI x13), .int (iI x14)])), (a1, .inl (T 0, 940, .inl f0))] H locs := w
                        refine lv_if_ne (tgt := 243) hx hb dX12_go_226 (by decide) (fun c_49 => ?_) (fun c_49 => ?_)
                        · replace c_49 : ¬ z47 = 0 := fun h => c_49 ((iz_eq (Int.le_trans (by decide) z47_a) (Int.le_trans z47_b (by decide))).mpr h)
                          refine lv_aload_n hx hb dX12_go_243 rfl (lv_at hl 3 rfl) ?_
                          refine r_get (v := .ref a1) M w 0 1 clX12 rfl (by decide) G1464 rfl rfl dX12_go_244 ?_
                          refine lv_aload_n hx hb dX12_go_247 rfl (lv_at hl 3 rfl) ?_
                          refine r_get (v := .int (iI z24)) M w 0 5 clX12 rfl (by decide) G1468 rfl rfl dX12_go_248 ?_
                          refine r_iald (v := _) M w 1 rfl (iI_in (by omega) (by omega) (by decide)) rfl dX12_go_251 ?_
                          refine b_any (fun z50 z50_a z50_b => ?_)
                          refine lv_istore (lv' := [(4, .int (iI z50)), (3, .int (iI z26)), (2, .int (iI z21)), (1, .int (iI z17)), (0, .ref a0)]) hx hb dX12_go_252 hl (by decide) rfl (fun ls hl => ?_)
                          refine lv_iload_n hx hb dX12_go_254 rfl (lv_at hl 1 rfl) ?_
                          refine lv_if_eq (tgt := 271) hx hb dX12_go_255 (by decide) (fun c_51 => ?_) (fun c_51 => ?_)
                          · replace c_51 := (iz_eq (Int.le_trans (by decide) z26_a) (Int.le_trans z26_b (by decide))).mp c_51
                            refine lv_iconst (v := iI 0) hx hb dX12_go_271 (by decide +kernel) ?_
                            refine lv_istore_n (lv' := [(3, .int (iI 0)), (4, .int (iI z50)), (2, .int (iI z21)), (1, .int (iI z17)), (0, .ref a0)]) hx hb dX12_go_272 rfl hl (by decide) rfl (fun ls hl => ?_)
                            refine lv_aload_n hx hb dX12_go_273 rfl (lv_at hl 4 rfl) ?_
                            refine r_get (v := .int (iI z24)) M w 0 5 clX12 rfl (by decide) G1468 rfl rfl dX12_go_274 ?_
                            refine lv_aload_n hx hb dX12_go_277 rfl (lv_at hl 4 rfl) ?_
                            refine r_get (v := .int (iI z1)) M w 0 6 clX12 rfl (by decide) G1469 rfl rfl dX12_go_278 ?_
                            refine b_any (fun z52 z52_a z52_b => ?_)
                            refine r_isub (v := _) M rfl dX12_go_281 ?_
                            refine b_any (fun z53 z53_a z53_b => ?_)
                            refine lv_bipush (v := iI 7) hx hb dX12_go_282 (by decide +kernel) ?_
                            refine lv_icmp_ge (tgt := 307) hx hb dX12_go_284 (by decide) (fun c_54 => ?_) (fun c_54 => ?_)
                            · replace c_54 := (iI_le (by decide) (by decide) (Int.le_trans (by decide) z53_a) (Int.le_trans z53_b (by decide))).mp c_54
                              refine lv_aload_n hx hb dX12_go_307 rfl (lv_at hl 4 rfl) ?_
                              refine r_get (v := .int (iI z24)) M w 0 5 clX12 rfl (by decide) G1468 rfl rfl dX12_go_308 ?_
                              refine lv_aload_n hx hb dX12_go_311 rfl (lv_at hl 4 rfl) ?_
                              refine r_get (v := .int (iI z1)) M w 0 6 clX12 rfl (by decide) G1469 rfl rfl dX12_go_312 ?_
                              refine b_any (fun z55 z55_a z55_b => ?_)
                              refine r_isub (v := _) M rfl dX12_go_315 ?_
                              refine b_any (fun z56 z56_a z56_b => ?_)
                              refine lv_iconst (v := iI 3) hx hb dX12_go_316 (by decide +kernel) ?_
                              refine lv_icmp_ge (tgt := 337) hx hb dX12_go_317 (by decide) (fun c_57 => ?_) (fun c_57 => ?_)
                              · replace c_57 := (iI_le (by decide) (by decide) (Int.le_trans (by decide) z56_a) (Int.le_trans z56_b (by decide))).mp c_57
                                refine lv_aload_n hx hb dX12_go_337 rfl (lv_at hl 4 rfl) ?_
                                refine lv_dup hx hb dX12_go_338 rfl ?_
                                refine r_get (v := .int (iI z24)) M w 0 5 clX12 rfl (by decide) G1468 rfl rfl dX12_go_339 ?_
                                refine lv_iconst (v := iI 1) hx hb dX12_go_342 (by decide +kernel) ?_
                                refine r_iadd (v := iI (z24 + 1)) M (iI_add _ _) dX12_go_343 ?_
                                refine r_put (ws' := [(a0, .inr (11, [.int r0, .ref a1, .int (iI x0), .int (iI x1), .int r1, .int (iI (z24 + 1)), .int (iI z1), .int (iI x3), .int (iI z25), .int r3, .int r4, .int r5, .long fy23, .int (iI x5), .ref a2, .ref a3, .ref a4, .ref a5, .ref a6, .ref a7, .ref a8, .ref a9, .ref a10, .ref a11, .int (iI x6), .ref a12, .ref a13, .ref a14, .ref a15, .int (iI x7), .int r6, .int r7, .ref a16, .int r8, .int r9, .ref a17, .ref a18, .int (iI x8), .ref a19, .int (iI x9), .int r10, .ref a20, .ref a21, .int (iI x10), .int r11, .ref a22, .int (iI x11), .int (iI x12), .int (iI x13), .int (iI x14)])), (a1, .inl (T 0, 940, .inl f0))]) M w 0 5 clX12 rfl (by decide) G1468 rfl rfl rfl rfl (Nat.le_of_ble_eq_true rfl) rfl dX12_go_344 (fun H locs w => ?_)
                                refine lv_goto (tgt := 215) hx hb dX12_go_347 (by decide) ?_
                                exact ih2 fy23 (z24 + 1) z25 0 _ _ _ (by omega) (by omega) z25_a z25_b (by decide) (by decide) (by omega) (by omega) w (lv_sub hl [0, 2, 3, 4] rfl)
                              · replace c_57 : z56 < 3 := Int.not_le.mp (fun h => c_57 ((iI_le (by decide) (by decide) (Int.le_trans (by decide) z56_a) (Int.le_trans z56_b (by decide))).mpr h))
                                refine lv_aload_n hx hb dX12_go_320 rfl (lv_at hl 4 rfl) ?_
                                refine lv_bipush (v := iI 10) hx hb dX12_go_321 (by decide +kernel) ?_
                                refine lv_aload_n hx hb dX12_go_323 rfl (lv_at hl 4 rfl) ?_
                                refine r_get (v := .int (iI z25)) M w 0 8 clX12 rfl (by decide) G1471 rfl rfl dX12_go_324 ?_
                                refine r_imul (v := _) M rfl dX12_go_327 ?_
                                refine b_any (fun z58 z58_a z58_b => ?_)
                                refine lv_iload hx hb dX12_go_328 (lv_at hl 1 rfl) ?_
                                refine r_iadd (v := _) M rfl dX12_go_330 ?_
                                refine b_any (fun z59 z59_a z59_b => ?_)
                                refine lv_bipush (v := iI 48) hx hb dX12_go_331 (by decide +kernel) ?_
                                refine r_isub (v := _) M rfl dX12_go_333 ?_
                                refine b_any (fun z60 z60_a z60_b => ?_)
                                refine r_put (ws' := [(a0, .inr (11, [.int r0, .ref a1, .int (iI x0), .int (iI x1), .int r1, .int (iI z24), .int (iI z1), .int (iI x3), .int (iI z60), .int r3, .int r4, .int r5, .long fy23, .int (iI x5), .ref a2, .ref a3, .ref a4, .ref a5, .ref a6, .ref a7, .ref a8, .ref a9, .ref a10, .ref a11, .int (iI x6), .ref a12, .ref a13, .ref a14, .ref a15, .int (iI x7), .int r6, .int r7, .ref a16, .int r8, .int r9, .ref a17, .ref a18, .int (iI x8), .ref a19, .int (iI x9), .int r10, .ref a20, .ref a21, .int (iI x10), .int r11, .ref a22, .int (iI x11), .int (iI x12), .int (iI x13), .int (iI x14)])), (a1, .inl (T 0, 940, .inl f0))]) M w 0 8 clX12 rfl (by decide) G1471 rfl rfl rfl rfl (Nat.le_of_ble_eq_true rfl) rfl dX12_go_334 (fun H locs w => ?_)
                                refine lv_aload_n hx hb dX12_go_337 rfl (lv_at hl 4 rfl) ?_
                                refine lv_dup hx hb dX12_go_338 rfl ?_
                                refine r_get (v := .int (iI z24)) M w 0 5 clX12 rfl (by decide) G1468 rfl rfl dX12_go_339 ?_
                                refine lv_iconst (v := iI 1) hx hb dX12_go_342 (by decide +kernel) ?_
                                refine r_iadd (v := iI (z24 + 1)) M (iI_add _ _) dX12_go_343 ?_
                                refine r_put (ws' := [(a0, .inr (11, [.int r0, .ref a1, .int (iI x0), .int (iI x1), .int r1, .int (iI (z24 + 1)), .int (iI z1), .int (iI x3), .int (iI z60), .int r3, .int r4, .int r5, .long fy23, .int (iI x5), .ref a2, .ref a3, .ref a4, .ref a5, .ref a6, .ref a7, .ref a8, .ref a9, .ref a10, .ref a11, .int (iI x6), .ref a12, .ref a13, .ref a14, .ref a15, .int (iI x7), .int r6, .int r7, .ref a16, .int r8, .int r9, .ref a17, .ref a18, .int (iI x8), .ref a19, .int (iI x9), .int r10, .ref a20, .ref a21, .int (iI x10), .int r11, .ref a22, .int (iI x11), .int (iI x12), .int (iI x13), .int (iI x14)])), (a1, .inl (T 0, 940, .inl f0))]) M w 0 5 clX12 rfl (by decide) G1468 rfl rfl rfl rfl (Nat.le_of_ble_eq_true rfl) rfl dX12_go_344 (fun H locs w => ?_)
                                refine lv_goto (tgt := 215) hx hb dX12_go_347 (by decide) ?_
                                exact ih2 fy23 (z24 + 1) z60 0 _ _ _ (by omega) (by omega) z60_a z60_b (by decide) (by decide) (by omega) (by omega) w (lv_sub hl [0, 2, 3, 4] rfl)
                            · replace c_54 : z53 < 7 := Int.not_le.mp (fun h => c_54 ((iI_le (by decide) (by decide) (Int.le_trans (by decide) z53_a) (Int.le_trans z53_b (by decide))).mpr h))
                              refine lv_aload_n hx hb dX12_go_287 rfl (lv_at hl 4 rfl) ?_
                              refine lv_ldc2 (v := 27) hx hb M.1.2.2.2.1 (M.1.2.2.2.2 _ G1641) dX12_go_288 ?_
                              refine lv_aload_n hx hb dX12_go_291 rfl (lv_at hl 4 rfl) ?_
                              refine r_get (v := .long fy23) M w 0 12 clX12 rfl (by decide) G1475 rfl rfl dX12_go_292 ?_
                              refine r_lmul (v := _) M rfl dX12_go_295 ?_
                              refine b_anyl (fun fy61 => ?_)
                              refine lv_iload hx hb dX12_go_296 (lv_at hl 1 rfl) ?_
                              refine lv_i2l (v := _) hx hb dX12_go_298 rfl ?_
                              refine b_anyl (fun fy62 => ?_)
                              refine r_ladd (v := _) M rfl dX12_go_299 ?_
                              refine b_anyl (fun fy63 => ?_)
                              refine lv_ldc2 (v := 96) hx hb M.1.2.2.2.1 (M.1.2.2.2.2 _ G1642) dX12_go_300 ?_
                              refine r_lsub (v := _) M rfl dX12_go_303 ?_
                              refine b_anyl (fun fy64 => ?_)
                              refine r_put (ws' := [(a0, .inr (11, [.int r0, .ref a1, .int (iI x0), .int (iI x1), .int r1, .int (iI z24), .int (iI z1), .int (iI x3), .int (iI z25), .int r3, .int r4, .int r5, .long fy64, .int (iI x5), .ref a2, .ref a3, .ref a4, .ref a5, .ref a6, .ref a7, .ref a8, .ref a9, .ref a10, .ref a11, .int (iI x6), .ref a12, .ref a13, .ref a14, .ref a15, .int (iI x7), .int r6, .int r7, .ref a16, .int r8, .int r9, .ref a17, .ref a18, .int (iI x8), .ref a19, .int (iI x9), .int r10, .ref a20, .ref a21, .int (iI x10), .int r11, .ref a22, .int (iI x11), .int (iI x12), .int (iI x13), .int (iI x14)])), (a1, .inl (T 0, 940, .inl f0))]) M w 0 12 clX12 rfl (by decide) G1475 rfl rfl rfl rfl (Nat.le_of_ble_eq_true rfl) rfl dX12_go_304 (fun H locs w => ?_)
                              refine lv_aload_n hx hb dX12_go_307 rfl (lv_at hl 4 rfl) ?_
                              refine r_get (v := .int (iI z24)) M w 0 5 clX12 rfl (by decide) G1468 rfl rfl dX12_go_308 ?_
                              refine lv_aload_n hx hb dX12_go_311 rfl (lv_at hl 4 rfl) ?_
                              refine r_get (v := .int (iI z1)) M w 0 6 clX12 rfl (by decide) G1469 rfl rfl dX12_go_312 ?_
                              refine b_any (fun z65 z65_a z65_b => ?_)
                              refine r_isub (v := _) M rfl dX12_go_315 ?_
                              refine b_any (fun z66 z66_a z66_b => ?_)
                              refine lv_iconst (v := iI 3) hx hb dX12_go_316 (by decide +kernel) ?_
                              refine lv_icmp_ge (tgt := 337) hx hb dX12_go_317 (by decide) (fun c_67 => ?_) (fun c_67 => ?_)
                              · replace c_67 := (iI_le (by decide) (by decide) (Int.le_trans (by decide) z66_a) (Int.le_trans z66_b (by decide))).mp c_67
                                refine lv_aload_n hx hb dX12_go_337 rfl (lv_at hl 4 rfl) ?_
                                refine lv_dup hx hb dX12_go_338 rfl ?_
                                refine r_get (v := .int (iI z24)) M w 0 5 clX12 rfl (by decide) G1468 rfl rfl dX12_go_339 ?_
                                refine lv_iconst (v := iI 1) hx hb dX12_go_342 (by decide +kernel) ?_
                                refine r_iadd (v := iI (z24 + 1)) M (iI_add _ _) dX12_go_343 ?_
                                refine r_put (ws' := [(a0, .inr (11, [.int r0, .ref a1, .int (iI x0), .int (iI x1), .int r1, .int (iI (z24 + 1)), .int (iI z1), .int (iI x3), .int (iI z25), .int r3, .int r4, .int r5, .long fy64, .int (iI x5), .ref a2, .ref a3, .ref a4, .ref a5, .ref a6, .ref a7, .ref a8, .ref a9, .ref a10, .ref a11, .int (iI x6), .ref a12, .ref a13, .ref a14, .ref a15, .int (iI x7), .int r6, .int r7, .ref a16, .int r8, .int r9, .ref a17, .ref a18, .int (iI x8), .ref a19, .int (iI x9), .int r10, .ref a20, .ref a21, .int (iI x10), .int r11, .ref a22, .int (iI x11), .int (iI x12), .int (iI x13), .int (iI x14)])), (a1, .inl (T 0, 940, .inl f0))]) M w 0 5 clX12 rfl (by decide) G1468 rfl rfl rfl rfl (Nat.le_of_ble_eq_true rfl) rfl dX12_go_344 (fun H locs w => ?_)
                                refine lv_goto (tgt := 215) hx hb dX12_go_347 (by decide) ?_
                                exact ih2 fy64 (z24 + 1) z25 0 _ _ _ (by omega) (by omega) z25_a z25_b (by decide) (by decide) (by omega) (by omega) w (lv_sub hl [0, 2, 3, 4] rfl)
                              · replace c_67 : z66 < 3 := Int.not_le.mp (fun h => c_67 ((iI_le (by decide) (by decide) (Int.le_trans (by decide) z66_a) (Int.le_trans z66_b (by decide))).mpr h))
                                refine lv_aload_n hx hb dX12_go_320 rfl (lv_at hl 4 rfl) ?_
                                refine lv_bipush (v := iI 10) hx hb dX12_go_321 (by decide +kernel) ?_
                                refine lv_aload_n hx hb dX12_go_323 rfl (lv_at hl 4 rfl) ?_
                                refine r_get (v := .int (iI z25)) M w 0 8 clX12 rfl (by decide) G1471 rfl rfl dX12_go_324 ?_
                                refine r_imul (v := _) M rfl dX12_go_327 ?_
                                refine b_any (fun z68 z68_a z68_b => ?_)
                                refine lv_iload hx hb dX12_go_328 (lv_at hl 1 rfl) ?_
                                refine r_iadd (v := _) M rfl dX12_go_330 ?_
                                refine b_any (fun z69 z69_a z69_b => ?_)
                                refine lv_bipush (v := iI 48) hx hb dX12_go_331 (by decide +kernel) ?_
                                refine r_isub (v := _) M rfl dX12_go_333 ?_
                                refine b_any (fun z70 z70_a z70_b => ?_)
                                refine r_put (ws' := [(a0, .inr (11, [.int r0, .ref a1, .int (iI x0), .int (iI x1), .int r1, .int (iI z24), .int (iI z1), .int (iI x3), .int (iI z70), .int r3, .int r4, .int r5, .long fy64, .int (iI x5), .ref a2, .ref a3, .ref a4, .ref a5, .ref a6, .ref a7, .ref a8, .ref a9, .ref a10, .ref a11, .int (iI x6), .ref a12, .ref a13, .ref a14, .ref a15, .int (iI x7), .int r6, .int r7, .ref a16, .int r8, .int r9, .ref a17, .ref a18, .int (iI x8), .ref a19, .int (iI x9), .int r10, .ref a20, .ref a21, .int (iI x10), .int r11, .ref a22, .int (iI x11), .int (iI x12), .int (iI x13), .int (iI x14)])), (a1, .inl (T 0, 940, .inl f0))]) M w 0 8 clX12 rfl (by decide) G1471 rfl rfl rfl rfl (Nat.le_of_ble_eq_true rfl) rfl dX12_go_334 (fun H locs w => ?_)
                                refine lv_aload_n hx hb dX12_go_337 rfl (lv_at hl 4 rfl) ?_
                                refine lv_dup hx hb dX12_go_338 rfl ?_
                                refine r_get (v := .int (iI z24)) M w 0 5 clX12 rfl (by decide) G1468 rfl rfl dX12_go_339 ?_
                                refine lv_iconst (v := iI 1) hx hb dX12_go_342 (by decide +kernel) ?_
                                refine r_iadd (v := iI (z24 + 1)) M (iI_add _ _) dX12_go_343 ?_
                                refine r_put (ws' := [(a0, .inr (11, [.int r0, .ref a1, .int (iI x0), .int (iI x1), .int r1, .int (iI (z24 + 1)), .int (iI z1), .int (iI x3), .int (iI z70), .int r3, .int r4, .int r5, .long fy64, .int (iI x5), .ref a2, .ref a3, .ref a4, .ref a5, .ref a6, .ref a7, .ref a8, .ref a9, .ref a10, .ref a11, .int (iI x6), .ref a12, .ref a13, .ref a14, .ref a15, .int (iI x7), .int r6, .int r7, .ref a16, .int r8, .int r9, .ref a17, .ref a18, .int (iI x8), .ref a19, .int (iI x9), .int r10, .ref a20, .ref a21, .int (iI x10), .int r11, .ref a22, .int (iI x11), .int (iI x12), .int (iI x13), .int (iI x14)])), (a1, .inl (T 0, 940, .inl f0))]) M w 0 5 clX12 rfl (by decide) G1468 rfl rfl rfl rfl (Nat.le_of_ble_eq_true rfl) rfl dX12_go_344 (fun H locs w => ?_)
                                refine lv_goto (tgt := 215) hx hb dX12_go_347 (by decide) ?_
                                exact ih2 fy64 (z24 + 1) z70 0 _ _ _ (by omega) (by omega) z70_a z70_b (by decide) (by decide) (by omega) (by omega) w (lv_sub hl [0, 2, 3, 4] rfl)
                          · replace c_51 : ¬ z26 = 0 := fun h => c_51 ((iz_eq (Int.le_trans (by decide) z26_a) (Int.le_trans z26_b (by decide))).mpr h)
                            refine lv_iload hx hb dX12_go_258 (lv_at hl 0 rfl) ?_
                            refine k_I (ce := 0) (sl := 0) (rest := []) (wr := [(a0, .inr (11, [.int r0, .ref a1, .int (iI x0), .int (iI x1), .int r1, .int (iI z24), .int (iI z1), .int (iI x3), .int (iI z25), .int r3, .int r4, .int r5, .long fy23, .int (iI x5), .ref a2, .ref a3, .ref a4, .ref a5, .ref a6, .ref a7, .ref a8, .ref a9, .ref a10, .ref a11, .int (iI x6), .ref a12, .ref a13, .ref a14, .ref a15, .int (iI x7), .int r6, .int r7, .ref a16, .int r8, .int r9, .ref a17, .ref a18, .int (iI x8), .ref a19, .int (iI x9), .int r10, .ref a20, .ref a21, .int (iI x10), .int r11, .ref a22, .int (iI x11), .int (iI x12), .int (iI x13), .int (iI x14)])), (a1, .inl (T 0, 940, .inl f0))]) (r_S (f := 0) [] M w V_HookedCityModel_33 G1632 (c11_X12_isLetter l D T _ z50 z50_a z50_b) rfl (by decide) rfl hl.1 rfl (Nat.le_of_ble_eq_true rfl) dX12_go_260 (by decide) (by decide) (by decide) (by decide)) w [] [0, 1] rfl rfl (by decide) (by decide) rfl rfl (fun v z71 H locs hp w => ?_)
                            have hv : iI z71 = v := hp.1
                            subst hv
                            have z71_a : 0 ≤ z71 := hp.2.1
                            have z71_b : z71 ≤ 1 := hp.2.2.1
                            have ee72 : 0 ≤ ((z50 + 4294967296) - (z71 * 4294967393)) := hp.2.2.2
                            have w : WD D A s.heap [(a0, .inr (11, [.int r0, .ref a1, .int (iI x0), .int (iI x1), .int r1, .int (iI z24), .int (iI z1), .int (iI x3), .int (iI z25), .int r3, .int r4, .int r5, .long fy23, .int (iI x5), .ref a2, .ref a3, .ref a4, .ref a5, .ref a6, .ref a7, .ref a8, .ref a9, .ref a10, .ref a11, .int (iI x6), .ref a12, .ref a13, .ref a14, .ref a15, .int (iI x7), .int r6, .int r7, .ref a16, .int r8, .int r9, .ref a17, .ref a18, .int (iI x8), .ref a19, .int (iI x9), .int r10, .ref a20, .ref a21, .int (iI x10), .int r11, .ref a22, .int (iI x11), .int (iI x12), .int (iI x13), .int (iI x14)])), (a1, .inl (T 0, 940, .inl f0))] H locs := w
                            refine lv_iload_n hx hb dX12_go_263 rfl (lv_at hl 2 rfl) ?_
                            refine lv_icmp_ne (tgt := 271) hx hb dX12_go_264 (by decide) (fun c_73 => ?_) (fun c_73 => ?_)
                            · replace c_73 : ¬ z71 = z21 := fun h => c_73 ((iI_eq (Int.le_trans (by decide) z71_a) (Int.le_trans z71_b (by decide)) (Int.le_trans (by decide) z21_a) (Int.le_trans z21_b (by decide))).mpr h)
                              refine lv_iconst (v := iI 0) hx hb dX12_go_271 (by decide +kernel) ?_
                              refine lv_istore_n (lv' := [(3, .int (iI 0)), (4, .int (iI z50)), (2, .int (iI z21)), (1, .int (iI z17)), (0, .ref a0)]) hx hb dX12_go_272 rfl hl (by decide) rfl (fun ls hl => ?_)
                              refine lv_aload_n hx hb dX12_go_273 rfl (lv_at hl 4 rfl) ?_
                              refine r_get (v := .int (iI z24)) M w 0 5 clX12 rfl (by decide) G1468 rfl rfl dX12_go_274 ?_
                              refine lv_aload_n hx hb dX12_go_277 rfl (lv_at hl 4 rfl) ?_
                              refine r_get (v := .int (iI z1)) M w 0 6 clX12 rfl (by decide) G1469 rfl rfl dX12_go_278 ?_
                              refine b_any (fun z74 z74_a z74_b => ?_)
                              refine r_isub (v := _) M rfl dX12_go_281 ?_
                              refine b_any (fun z75 z75_a z75_b => ?_)
                              refine lv_bipush (v := iI 7) hx hb dX12_go_282 (by decide +kernel) ?_
                              refine lv_icmp_ge (tgt := 307) hx hb dX12_go_284 (by decide) (fun c_76 => ?_) (fun c_76 => ?_)
                              · replace c_76 := (iI_le (by decide) (by decide) (Int.le_trans (by decide) z75_a) (Int.le_trans z75_b (by decide))).mp c_76
                                refine lv_aload_n hx hb dX12_go_307 rfl (lv_at hl 4 rfl) ?_
                                refine r_get (v := .int (iI z24)) M w 0 5 clX12 rfl (by decide) G1468 rfl rfl dX12_go_308 ?_
                                refine lv_aload_n hx hb dX12_go_311 rfl (lv_at hl 4 rfl) ?_
                                refine r_get (v := .int (iI z1)) M w 0 6 clX12 rfl (by decide) G1469 rfl rfl dX12_go_312 ?_
                                refine b_any (fun z77 z77_a z77_b => ?_)
                                refine r_isub (v := _) M rfl dX12_go_315 ?_
                                refine b_any (fun z78 z78_a z78_b => ?_)
                                refine lv_iconst (v := iI 3) hx hb dX12_go_316 (by decide +kernel) ?_
                                refine lv_icmp_ge (tgt := 337) hx hb dX12_go_317 (by decide) (fun c_79 => ?_) (fun c_79 => ?_)
                                · replace c_79 := (iI_le (by decide) (by decide) (Int.le_trans (by decide) z78_a) (Int.le_trans z78_b (by decide))).mp c_79
                                  refine lv_aload_n hx hb dX12_go_337 rfl (lv_at hl 4 rfl) ?_
                                  refine lv_dup hx hb dX12_go_338 rfl ?_
                                  refine r_get (v := .int (iI z24)) M w 0 5 clX12 rfl (by decide) G1468 rfl rfl dX12_go_339 ?_
                                  refine lv_iconst (v := iI 1) hx hb dX12_go_342 (by decide +kernel) ?_
                                  refine r_iadd (v := iI (z24 + 1)) M (iI_add _ _) dX12_go_343 ?_
                                  refine r_put (ws' := [(a0, .inr (11, [.int r0, .ref a1, .int (iI x0), .int (iI x1), .int r1, .int (iI (z24 + 1)), .int (iI z1), .int (iI x3), .int (iI z25), .int r3, .int r4, .int r5, .long fy23, .int (iI x5), .ref a2, .ref a3, .ref a4, .ref a5, .ref a6, .ref a7, .ref a8, .ref a9, .ref a10, .ref a11, .int (iI x6), .ref a12, .ref a13, .ref a14, .ref a15, .int (iI x7), .int r6, .int r7, .ref a16, .int r8, .int r9, .ref a17, .ref a18, .int (iI x8), .ref a19, .int (iI x9), .int r10, .ref a20, .ref a21, .int (iI x10), .int r11, .ref a22, .int (iI x11), .int (iI x12), .int (iI x13), .int (iI x14)])), (a1, .inl (T 0, 940, .inl f0))]) M w 0 5 clX12 rfl (by decide) G1468 rfl rfl rfl rfl (Nat.le_of_ble_eq_true rfl) rfl dX12_go_344 (fun H locs w => ?_)
                                  refine lv_goto (tgt := 215) hx hb dX12_go_347 (by decide) ?_
                                  exact ih2 fy23 (z24 + 1) z25 0 _ _ _ (by omega) (by omega) z25_a z25_b (by decide) (by decide) (by omega) (by omega) w (lv_sub hl [0, 2, 3, 4] rfl)
                                · replace c_79 : z78 < 3 := Int.not_le.mp (fun h => c_79 ((iI_le (by decide) (by decide) (Int.le_trans (by decide) z78_a) (Int.le_trans z78_b (by decide))).mpr h))
                                  refine lv_aload_n hx hb dX12_go_320 rfl (lv_at hl 4 rfl) ?_
                                  refine lv_bipush (v := iI 10) hx hb dX12_go_321 (by decide +kernel) ?_
                                  refine lv_aload_n hx hb dX12_go_323 rfl (lv_at hl 4 rfl) ?_
                                  refine r_get (v := .int (iI z25)) M w 0 8 clX12 rfl (by decide) G1471 rfl rfl dX12_go_324 ?_
                                  refine r_imul (v := _) M rfl dX12_go_327 ?_
                                  refine b_any (fun z80 z80_a z80_b => ?_)
                                  refine lv_iload hx hb dX12_go_328 (lv_at hl 1 rfl) ?_
                                  refine r_iadd (v := _) M rfl dX12_go_330 ?_
                                  refine b_any (fun z81 z81_a z81_b => ?_)
                                  refine lv_bipush (v := iI 48) hx hb dX12_go_331 (by decide +kernel) ?_
                                  refine r_isub (v := _) M rfl dX12_go_333 ?_
                                  refine b_any (fun z82 z82_a z82_b => ?_)
                                  refine r_put (ws' := [(a0, .inr (11, [.int r0, .ref a1, .int (iI x0), .int (iI x1), .int r1, .int (iI z24), .int (iI z1), .int (iI x3), .int (iI z82), .int r3, .int r4, .int r5, .long fy23, .int (iI x5), .ref a2, .ref a3, .ref a4, .ref a5, .ref a6, .ref a7, .ref a8, .ref a9, .ref a10, .ref a11, .int (iI x6), .ref a12, .ref a13, .ref a14, .ref a15, .int (iI x7), .int r6, .int r7, .ref a16, .int r8, .int r9, .ref a17, .ref a18, .int (iI x8), .ref a19, .int (iI x9), .int r10, .ref a20, .ref a21, .int (iI x10), .int r11, .ref a22, .int (iI x11), .int (iI x12), .int (iI x13), .int (iI x14)])), (a1, .inl (T 0, 940, .inl f0))]) M w 0 8 clX12 rfl (by decide) G1471 rfl rfl rfl rfl (Nat.le_of_ble_eq_true rfl) rfl dX12_go_334 (fun H locs w => ?_)
                                  refine lv_aload_n hx hb dX12_go_337 rfl (lv_at hl 4 rfl) ?_
                                  refine lv_dup hx hb dX12_go_338 rfl ?_
                                  refine r_get (v := .int (iI z24)) M w 0 5 clX12 rfl (by decide) G1468 rfl rfl dX12_go_339 ?_
                                  refine lv_iconst (v := iI 1) hx hb dX12_go_342 (by decide +kernel) ?_
                                  refine r_iadd (v := iI (z24 + 1)) M (iI_add _ _) dX12_go_343 ?_
                                  refine r_put (ws' := [(a0, .inr (11, [.int r0, .ref a1, .int (iI x0), .int (iI x1), .int r1, .int (iI (z24 + 1)), .int (iI z1), .int (iI x3), .int (iI z82), .int r3, .int r4, .int r5, .long fy23, .int (iI x5), .ref a2, .ref a3, .ref a4, .ref a5, .ref a6, .ref a7, .ref a8, .ref a9, .ref a10, .ref a11, .int (iI x6), .ref a12, .ref a13, .ref a14, .ref a15, .int (iI x7), .int r6, .int r7, .ref a16, .int r8, .int r9, .ref a17, .ref a18, .int (iI x8), .ref a19, .int (iI x9), .int r10, .ref a20, .ref a21, .int (iI x10), .int r11, .ref a22, .int (iI x11), .int (iI x12), .int (iI x13), .int (iI x14)])), (a1, .inl (T 0, 940, .inl f0))]) M w 0 5 clX12 rfl (by decide) G1468 rfl rfl rfl rfl (Nat.le_of_ble_eq_true rfl) rfl dX12_go_344 (fun H locs w => ?_)
                                  refine lv_goto (tgt := 215) hx hb dX12_go_347 (by decide) ?_
                                  exact ih2 fy23 (z24 + 1) z82 0 _ _ _ (by omega) (by omega) z82_a z82_b (by decide) (by decide) (by omega) (by omega) w (lv_sub hl [0, 2, 3, 4] rfl)
                              · replace c_76 : z75 < 7 := Int.not_le.mp (fun h => c_76 ((iI_le (by decide) (by decide) (Int.le_trans (by decide) z75_a) (Int.le_trans z75_b (by decide))).mpr h))
                                refine lv_aload_n hx hb dX12_go_287 rfl (lv_at hl 4 rfl) ?_
                                refine lv_ldc2 (v := 27) hx hb M.1.2.2.2.1 (M.1.2.2.2.2 _ G1641) dX12_go_288 ?_
                                refine lv_aload_n hx hb dX12_go_291 rfl (lv_at hl 4 rfl) ?_
                                refine r_get (v := .long fy23) M w 0 12 clX12 rfl (by decide) G1475 rfl rfl dX12_go_292 ?_
                                refine r_lmul (v := _) M rfl dX12_go_295 ?_
                                refine b_anyl (fun fy83 => ?_)
                                refine lv_iload hx hb dX12_go_296 (lv_at hl 1 rfl) ?_
                                refine lv_i2l (v := _) hx hb dX12_go_298 rfl ?_
                                refine b_anyl (fun fy84 => ?_)
                                refine r_ladd (v := _) M rfl dX12_go_299 ?_
                                refine b_anyl (fun fy85 => ?_)
                                refine lv_ldc2 (v := 96) hx hb M.1.2.2.2.1 (M.1.2.2.2.2 _ G1642) dX12_go_300 ?_
                                refine r_lsub (v := _) M rfl dX12_go_303 ?_
                                refine b_anyl (fun fy86 => ?_)
                                refine r_put (ws' := [(a0, .inr (11, [.int r0, .ref a1, .int (iI x0), .int (iI x1), .int r1, .int (iI z24), .int (iI z1), .int (iI x3), .int (iI z25), .int r3, .int r4, .int r5, .long fy86, .int (iI x5), .ref a2, .ref a3, .ref a4, .ref a5, .ref a6, .ref a7, .ref a8, .ref a9, .ref a10, .ref a11, .int (iI x6), .ref a12, .ref a13, .ref a14, .ref a15, .int (iI x7), .int r6, .int r7, .ref a16, .int r8, .int r9, .ref a17, .ref a18, .int (iI x8), .ref a19, .int (iI x9), .int r10, .ref a20, .ref a21, .int (iI x10), .int r11, .ref a22, .int (iI x11), .int (iI x12), .int (iI x13), .int (iI x14)])), (a1, .inl (T 0, 940, .inl f0))]) M w 0 12 clX12 rfl (by decide) G1475 rfl rfl rfl rfl (Nat.le_of_ble_eq_true rfl) rfl dX12_go_304 (fun H locs w => ?_)
                                refine lv_aload_n hx hb dX12_go_307 rfl (lv_at hl 4 rfl) ?_
                                refine r_get (v := .int (iI z24)) M w 0 5 clX12 rfl (by decide) G1468 rfl rfl dX12_go_308 ?_
                                refine lv_aload_n hx hb dX12_go_311 rfl (lv_at hl 4 rfl) ?_
                                refine r_get (v := .int (iI z1)) M w 0 6 clX12 rfl (by decide) G1469 rfl rfl dX12_go_312 ?_
                                refine b_any (fun z87 z87_a z87_b => ?_)
                                refine r_isub (v := _) M rfl dX12_go_315 ?_
                                refine b_any (fun z88 z88_a z88_b => ?_)
                                refine lv_iconst (v := iI 3) hx hb dX12_go_316 (by decide +kernel) ?_
                                refine lv_icmp_ge (tgt := 337) hx hb dX12_go_317 (by decide) (fun c_89 => ?_) (fun c_89 => ?_)
                                · replace c_89 := (iI_le (by decide) (by decide) (Int.le_trans (by decide) z88_a) (Int.le_trans z88_b (by decide))).mp c_89
                                  refine lv_aload_n hx hb dX12_go_337 rfl (lv_at hl 4 rfl) ?_
                                  refine lv_dup hx hb dX12_go_338 rfl ?_
                                  refine r_get (v := .int (iI z24)) M w 0 5 clX12 rfl (by decide) G1468 rfl rfl dX12_go_339 ?_
                                  refine lv_iconst (v := iI 1) hx hb dX12_go_342 (by decide +kernel) ?_
                                  refine r_iadd (v := iI (z24 + 1)) M (iI_add _ _) dX12_go_343 ?_
                                  refine r_put (ws' := [(a0, .inr (11, [.int r0, .ref a1, .int (iI x0), .int (iI x1), .int r1, .int (iI (z24 + 1)), .int (iI z1), .int (iI x3), .int (iI z25), .int r3, .int r4, .int r5, .long fy86, .int (iI x5), .ref a2, .ref a3, .ref a4, .ref a5, .ref a6, .ref a7, .ref a8, .ref a9, .ref a10, .ref a11, .int (iI x6), .ref a12, .ref a13, .ref a14, .ref a15, .int (iI x7), .int r6, .int r7, .ref a16, .int r8, .int r9, .ref a17, .ref a18, .int (iI x8), .ref a19, .int (iI x9), .int r10, .ref a20, .ref a21, .int (iI x10), .int r11, .ref a22, .int (iI x11), .int (iI x12), .int (iI x13), .int (iI x14)])), (a1, .inl (T 0, 940, .inl f0))]) M w 0 5 clX12 rfl (by decide) G1468 rfl rfl rfl rfl (Nat.le_of_ble_eq_true rfl) rfl dX12_go_344 (fun H locs w => ?_)
                                  refine lv_goto (tgt := 215) hx hb dX12_go_347 (by decide) ?_
                                  exact ih2 fy86 (z24 + 1) z25 0 _ _ _ (by omega) (by omega) z25_a z25_b (by decide) (by decide) (by omega) (by omega) w (lv_sub hl [0, 2, 3, 4] rfl)
                                · replace c_89 : z88 < 3 := Int.not_le.mp (fun h => c_89 ((iI_le (by decide) (by decide) (Int.le_trans (by decide) z88_a) (Int.le_trans z88_b (by decide))).mpr h))
                                  refine lv_aload_n hx hb dX12_go_320 rfl (lv_at hl 4 rfl) ?_
                                  refine lv_bipush (v := iI 10) hx hb dX12_go_321 (by decide +kernel) ?_
                                  refine lv_aload_n hx hb dX12_go_323 rfl (lv_at hl 4 rfl) ?_
                                  refine r_get (v := .int (iI z25)) M w 0 8 clX12 rfl (by decide) G1471 rfl rfl dX12_go_324 ?_
                                  refine r_imul (v := _) M rfl dX12_go_327 ?_
                                  refine b_any (fun z90 z90_a z90_b => ?_)
                                  refine lv_iload hx hb dX12_go_328 (lv_at hl 1 rfl) ?_
                                  refine r_iadd (v := _) M rfl dX12_go_330 ?_
                                  refine b_any (fun z91 z91_a z91_b => ?_)
                                  refine lv_bipush (v := iI 48) hx hb dX12_go_331 (by decide +kernel) ?_
                                  refine r_isub (v := _) M rfl dX12_go_333 ?_
                                  refine b_any (fun z92 z92_a z92_b => ?_)
                                  refine r_put (ws' := [(a0, .inr (11, [.int r0, .ref a1, .int (iI x0), .int (iI x1), .int r1, .int (iI z24), .int (iI z1), .int (iI x3), .int (iI z92), .int r3, .int r4, .int r5, .long fy86, .int (iI x5), .ref a2, .ref a3, .ref a4, .ref a5, .ref a6, .ref a7, .ref a8, .ref a9, .ref a10, .ref a11, .int (iI x6), .ref a12, .ref a13, .ref a14, .ref a15, .int (iI x7), .int r6, .int r7, .ref a16, .int r8, .int r9, .ref a17, .ref a18, .int (iI x8), .ref a19, .int (iI x9), .int r10, .ref a20, .ref a21, .int (iI x10), .int r11, .ref a22, .int (iI x11), .int (iI x12), .int (iI x13), .int (iI x14)])), (a1, .inl (T 0, 940, .inl f0))]) M w 0 8 clX12 rfl (by decide) G1471 rfl rfl rfl rfl (Nat.le_of_ble_eq_true rfl) rfl dX12_go_334 (fun H locs w => ?_)
                                  refine lv_aload_n hx hb dX12_go_337 rfl (lv_at hl 4 rfl) ?_
                                  refine lv_dup hx hb dX12_go_338 rfl ?_
                                  refine r_get (v := .int (iI z24)) M w 0 5 clX12 rfl (by decide) G1468 rfl rfl dX12_go_339 ?_
                                  refine lv_iconst (v := iI 1) hx hb dX12_go_342 (by decide +kernel) ?_
                                  refine r_iadd (v := iI (z24 + 1)) M (iI_add _ _) dX12_go_343 ?_
                                  refine r_put (ws' := [(a0, .inr (11, [.int r0, .ref a1, .int (iI x0), .int (iI x1), .int r1, .int (iI (z24 + 1)), .int (iI z1), .int (iI x3), .int (iI z92), .int r3, .int r4, .int r5, .long fy86, .int (iI x5), .ref a2, .ref a3, .ref a4, .ref a5, .ref a6, .ref a7, .ref a8, .ref a9, .ref a10, .ref a11, .int (iI x6), .ref a12, .ref a13, .ref a14, .ref a15, .int (iI x7), .int r6, .int r7, .ref a16, .int r8, .int r9, .ref a17, .ref a18, .int (iI x8), .ref a19, .int (iI x9), .int r10, .ref a20, .ref a21, .int (iI x10), .int r11, .ref a22, .int (iI x11), .int (iI x12), .int (iI x13), .int (iI x14)])), (a1, .inl (T 0, 940, .inl f0))]) M w 0 5 clX12 rfl (by decide) G1468 rfl rfl rfl rfl (Nat.le_of_ble_eq_true rfl) rfl dX12_go_344 (fun H locs w => ?_)
                                  refine lv_goto (tgt := 215) hx hb dX12_go_347 (by decide) ?_
                                  exact ih2 fy86 (z24 + 1) z92 0 _ _ _ (by omega) (by omega) z92_a z92_b (by decide) (by decide) (by omega) (by omega) w (lv_sub hl [0, 2, 3, 4] rfl)
                            · replace c_73 := (iI_eq (Int.le_trans (by decide) z71_a) (Int.le_trans z71_b (by decide)) (Int.le_trans (by decide) z21_a) (Int.le_trans z21_b (by decide))).mp c_73
                              refine lv_iconst (v := iI 1) hx hb dX12_go_267 (by decide +kernel) ?_
                              refine lv_goto (tgt := 272) hx hb dX12_go_268 (by decide) ?_
                              refine lv_istore_n (lv' := [(3, .int (iI 1)), (4, .int (iI z50)), (2, .int (iI z21)), (1, .int (iI z17)), (0, .ref a0)]) hx hb dX12_go_272 rfl hl (by decide) rfl (fun ls hl => ?_)
                              refine lv_aload_n hx hb dX12_go_273 rfl (lv_at hl 4 rfl) ?_
                              refine r_get (v := .int (iI z24)) M w 0 5 clX12 rfl (by decide) G1468 rfl rfl dX12_go_274 ?_
                              refine lv_aload_n hx hb dX12_go_277 rfl (lv_at hl 4 rfl) ?_
                              refine r_get (v := .int (iI z1)) M w 0 6 clX12 rfl (by decide) G1469 rfl rfl dX12_go_278 ?_
                              refine b_any (fun z93 z93_a z93_b => ?_)
                              refine r_isub (v := _) M rfl dX12_go_281 ?_
                              refine b_any (fun z94 z94_a z94_b => ?_)
                              refine lv_bipush (v := iI 7) hx hb dX12_go_282 (by decide +kernel) ?_
                              refine lv_icmp_ge (tgt := 307) hx hb dX12_go_284 (by decide) (fun c_95 => ?_) (fun c_95 => ?_)
                              · replace c_95 := (iI_le (by decide) (by decide) (Int.le_trans (by decide) z94_a) (Int.le_trans z94_b (by decide))).mp c_95
                                refine lv_aload_n hx hb dX12_go_307 rfl (lv_at hl 4 rfl) ?_
                                refine r_get (v := .int (iI z24)) M w 0 5 clX12 rfl (by decide) G1468 rfl rfl dX12_go_308 ?_
                                refine lv_aload_n hx hb dX12_go_311 rfl (lv_at hl 4 rfl) ?_
                                refine r_get (v := .int (iI z1)) M w 0 6 clX12 rfl (by decide) G1469 rfl rfl dX12_go_312 ?_
                                refine b_any (fun z96 z96_a z96_b => ?_)
                                refine r_isub (v := _) M rfl dX12_go_315 ?_
                                refine b_any (fun z97 z97_a z97_b => ?_)
                                refine lv_iconst (v := iI 3) hx hb dX12_go_316 (by decide +kernel) ?_
                                refine lv_icmp_ge (tgt := 337) hx hb dX12_go_317 (by decide) (fun c_98 => ?_) (fun c_98 => ?_)
                                · replace c_98 := (iI_le (by decide) (by decide) (Int.le_trans (by decide) z97_a) (Int.le_trans z97_b (by decide))).mp c_98
                                  refine lv_aload_n hx hb dX12_go_337 rfl (lv_at hl 4 rfl) ?_
                                  refine lv_dup hx hb dX12_go_338 rfl ?_
                                  refine r_get (v := .int (iI z24)) M w 0 5 clX12 rfl (by decide) G1468 rfl rfl dX12_go_339 ?_
                                  refine lv_iconst (v := iI 1) hx hb dX12_go_342 (by decide +kernel) ?_
                                  refine r_iadd (v := iI (z24 + 1)) M (iI_add _ _) dX12_go_343 ?_
                                  refine r_put (ws' := [(a0, .inr (11, [.int r0, .ref a1, .int (iI x0), .int (iI x1), .int r1, .int (iI (z24 + 1)), .int (iI z1), .int (iI x3), .int (iI z25), .int r3, .int r4, .int r5, .long fy23, .int (iI x5), .ref a2, .ref a3, .ref a4, .ref a5, .ref a6, .ref a7, .ref a8, .ref a9, .ref a10, .ref a11, .int (iI x6), .ref a12, .ref a13, .ref a14, .ref a15, .int (iI x7), .int r6, .int r7, .ref a16, .int r8, .int r9, .ref a17, .ref a18, .int (iI x8), .ref a19, .int (iI x9), .int r10, .ref a20, .ref a21, .int (iI x10), .int r11, .ref a22, .int (iI x11), .int (iI x12), .int (iI x13), .int (iI x14)])), (a1, .inl (T 0, 940, .inl f0))]) M w 0 5 clX12 rfl (by decide) G1468 rfl rfl rfl rfl (Nat.le_of_ble_eq_true rfl) rfl dX12_go_344 (fun H locs w => ?_)
                                  refine lv_goto (tgt := 215) hx hb dX12_go_347 (by decide) ?_
                                  exact ih2 fy23 (z24 + 1) z25 1 _ _ _ (by omega) (by omega) z25_a z25_b (by decide) (by decide) (by omega) (by omega) w (lv_sub hl [0, 2, 3, 4] rfl)
                                · replace c_98 : z97 < 3 := Int.not_le.mp (fun h => c_98 ((iI_le (by decide) (by decide) (Int.le_trans (by decide) z97_a) (Int.le_trans z97_b (by decide))).mpr h))
                                  refine lv_aload_n hx hb dX12_go_320 rfl (lv_at hl 4 rfl) ?_
                                  refine lv_bipush (v := iI 10) hx hb dX12_go_321 (by decide +kernel) ?_
                                  refine lv_aload_n hx hb dX12_go_323 rfl (lv_at hl 4 rfl) ?_
                                  refine r_get (v := .int (iI z25)) M w 0 8 clX12 rfl (by decide) G1471 rfl rfl dX12_go_324 ?_
                                  refine r_imul (v := _) M rfl dX12_go_327 ?_
                                  refine b_any (fun z99 z99_a z99_b => ?_)
                                  refine lv_iload hx hb dX12_go_328 (lv_at hl 1 rfl) ?_
                                  refine r_iadd (v := _) M rfl dX12_go_330 ?_
                                  refine b_any (fun z100 z100_a z100_b => ?_)
                                  refine lv_bipush (v := iI 48) hx hb dX12_go_331 (by decide +kernel) ?_
                                  refine r_isub (v := _) M rfl dX12_go_333 ?_
                                  refine b_any (fun z101 z101_a z101_b => ?_)
                                  refine r_put (ws' := [(a0, .inr (11, [.int r0, .ref a1, .int (iI x0), .int (iI x1), .int r1, .int (iI z24), .int (iI z1), .int (iI x3), .int (iI z101), .int r3, .int r4, .int r5, .long fy23, .int (iI x5), .ref a2, .ref a3, .ref a4, .ref a5, .ref a6, .ref a7, .ref a8, .ref a9, .ref a10, .ref a11, .int (iI x6), .ref a12, .ref a13, .ref a14, .ref a15, .int (iI x7), .int r6, .int r7, .ref a16, .int r8, .int r9, .ref a17, .ref a18, .int (iI x8), .ref a19, .int (iI x9), .int r10, .ref a20, .ref a21, .int (iI x10), .int r11, .ref a22, .int (iI x11), .int (iI x12), .int (iI x13), .int (iI x14)])), (a1, .inl (T 0, 940, .inl f0))]) M w 0 8 clX12 rfl (by decide) G1471 rfl rfl rfl rfl (Nat.le_of_ble_eq_true rfl) rfl dX12_go_334 (fun H locs w => ?_)
                                  refine lv_aload_n hx hb dX12_go_337 rfl (lv_at hl 4 rfl) ?_
                                  refine lv_dup hx hb dX12_go_338 rfl ?_
                                  refine r_get (v := .int (iI z24)) M w 0 5 clX12 rfl (by decide) G1468 rfl rfl dX12_go_339 ?_
                                  refine lv_iconst (v := iI 1) hx hb dX12_go_342 (by decide +kernel) ?_
                                  refine r_iadd (v := iI (z24 + 1)) M (iI_add _ _) dX12_go_343 ?_
                                  refine r_put (ws' := [(a0, .inr (11, [.int r0, .ref a1, .int (iI x0), .int (iI x1), .int r1, .int (iI (z24 + 1)), .int (iI z1), .int (iI x3), .int (iI z101), .int r3, .int r4, .int r5, .long fy23, .int (iI x5), .ref a2, .ref a3, .ref a4, .ref a5, .ref a6, .ref a7, .ref a8, .ref a9, .ref a10, .ref a11, .int (iI x6), .ref a12, .ref a13, .ref a14, .ref a15, .int (iI x7), .int r6, .int r7, .ref a16, .int r8, .int r9, .ref a17, .ref a18, .int (iI x8), .ref a19, .int (iI x9), .int r10, .ref a20, .ref a21, .int (iI x10), .int r11, .ref a22, .int (iI x11), .int (iI x12), .int (iI x13), .int (iI x14)])), (a1, .inl (T 0, 940, .inl f0))]) M w 0 5 clX12 rfl (by decide) G1468 rfl rfl rfl rfl (Nat.le_of_ble_eq_true rfl) rfl dX12_go_344 (fun H locs w => ?_)
                                  refine lv_goto (tgt := 215) hx hb dX12_go_347 (by decide) ?_
                                  exact ih2 fy23 (z24 + 1) z101 1 _ _ _ (by omega) (by omega) z101_a z101_b (by decide) (by decide) (by omega) (by omega) w (lv_sub hl [0, 2, 3, 4] rfl)
                              · replace c_95 : z94 < 7 := Int.not_le.mp (fun h => c_95 ((iI_le (by decide) (by decide) (Int.le_trans (by decide) z94_a) (Int.le_trans z94_b (by decide))).mpr h))
                                refine lv_aload_n hx hb dX12_go_287 rfl (lv_at hl 4 rfl) ?_
                                refine lv_ldc2 (v := 27) hx hb M.1.2.2.2.1 (M.1.2.2.2.2 _ G1641) dX12_go_288 ?_
                                refine lv_aload_n hx hb dX12_go_291 rfl (lv_at hl 4 rfl) ?_
                                refine r_get (v := .long fy23) M w 0 12 clX12 rfl (by decide) G1475 rfl rfl dX12_go_292 ?_
                                refine r_lmul (v := _) M rfl dX12_go_295 ?_
                                refine b_anyl (fun fy102 => ?_)
                                refine lv_iload hx hb dX12_go_296 (lv_at hl 1 rfl) ?_
                                refine lv_i2l (v := _) hx hb dX12_go_298 rfl ?_
                                refine b_anyl (fun fy103 => ?_)
                                refine r_ladd (v := _) M rfl dX12_go_299 ?_
                                refine b_anyl (fun fy104 => ?_)
                                refine lv_ldc2 (v := 96) hx hb M.1.2.2.2.1 (M.1.2.2.2.2 _ G1642) dX12_go_300 ?_
                                refine r_lsub (v := _) M rfl dX12_go_303 ?_
                                refine b_anyl (fun fy105 => ?_)
                                refine r_put (ws' := [(a0, .inr (11, [.int r0, .ref a1, .int (iI x0), .int (iI x1), .int r1, .int (iI z24), .int (iI z1), .int (iI x3), .int (iI z25), .int r3, .int r4, .int r5, .long fy105, .int (iI x5), .ref a2, .ref a3, .ref a4, .ref a5, .ref a6, .ref a7, .ref a8, .ref a9, .ref a10, .ref a11, .int (iI x6), .ref a12, .ref a13, .ref a14, .ref a15, .int (iI x7), .int r6, .int r7, .ref a16, .int r8, .int r9, .ref a17, .ref a18, .int (iI x8), .ref a19, .int (iI x9), .int r10, .ref a20, .ref a21, .int (iI x10), .int r11, .ref a22, .int (iI x11), .int (iI x12), .int (iI x13), .int (iI x14)])), (a1, .inl (T 0, 940, .inl f0))]) M w 0 12 clX12 rfl (by decide) G1475 rfl rfl rfl rfl (Nat.le_of_ble_eq_true rfl) rfl dX12_go_304 (fun H locs w => ?_)
                                refine lv_aload_n hx hb dX12_go_307 rfl (lv_at hl 4 rfl) ?_
                                refine r_get (v := .int (iI z24)) M w 0 5 clX12 rfl (by decide) G1468 rfl rfl dX12_go_308 ?_
                                refine lv_aload_n hx hb dX12_go_311 rfl (lv_at hl 4 rfl) ?_
                                refine r_get (v := .int (iI z1)) M w 0 6 clX12 rfl (by decide) G1469 rfl rfl dX12_go_312 ?_
                                refine b_any (fun z106 z106_a z106_b => ?_)
                                refine r_isub (v := _) M rfl dX12_go_315 ?_
                                refine b_any (fun z107 z107_a z107_b => ?_)
                                refine lv_iconst (v := iI 3) hx hb dX12_go_316 (by decide +kernel) ?_
                                refine lv_icmp_ge (tgt := 337) hx hb dX12_go_317 (by decide) (fun c_108 => ?_) (fun c_108 => ?_)
                                · replace c_108 := (iI_le (by decide) (by decide) (Int.le_trans (by decide) z107_a) (Int.le_trans z107_b (by decide))).mp c_108
                                  refine lv_aload_n hx hb dX12_go_337 rfl (lv_at hl 4 rfl) ?_
                                  refine lv_dup hx hb dX12_go_338 rfl ?_
                                  refine r_get (v := .int (iI z24)) M w 0 5 clX12 rfl (by decide) G1468 rfl rfl dX12_go_339 ?_
                                  refine lv_iconst (v := iI 1) hx hb dX12_go_342 (by decide +kernel) ?_
                                  refine r_iadd (v := iI (z24 + 1)) M (iI_add _ _) dX12_go_343 ?_
                                  refine r_put (ws' := [(a0, .inr (11, [.int r0, .ref a1, .int (iI x0), .int (iI x1), .int r1, .int (iI (z24 + 1)), .int (iI z1), .int (iI x3), .int (iI z25), .int r3, .int r4, .int r5, .long fy105, .int (iI x5), .ref a2, .ref a3, .ref a4, .ref a5, .ref a6, .ref a7, .ref a8, .ref a9, .ref a10, .ref a11, .int (iI x6), .ref a12, .ref a13, .ref a14, .ref a15, .int (iI x7), .int r6, .int r7, .ref a16, .int r8, .int r9, .ref a17, .ref a18, .int (iI x8), .ref a19, .int (iI x9), .int r10, .ref a20, .ref a21, .int (iI x10), .int r11, .ref a22, .int (iI x11), .int (iI x12), .int (iI x13), .int (iI x14)])), (a1, .inl (T 0, 940, .inl f0))]) M w 0 5 clX12 rfl (by decide) G1468 rfl rfl rfl rfl (Nat.le_of_ble_eq_true rfl) rfl dX12_go_344 (fun H locs w => ?_)
                                  refine lv_goto (tgt := 215) hx hb dX12_go_347 (by decide) ?_
                                  exact ih2 fy105 (z24 + 1) z25 1 _ _ _ (by omega) (by omega) z25_a z25_b (by decide) (by decide) (by omega) (by omega) w (lv_sub hl [0, 2, 3, 4] rfl)
                                · replace c_108 : z107 < 3 := Int.not_le.mp (fun h => c_108 ((iI_le (by decide) (by decide) (Int.le_trans (by decide) z107_a) (Int.le_trans z107_b (by decide))).mpr h))
                                  refine lv_aload_n hx hb dX12_go_320 rfl (lv_at hl 4 rfl) ?_
                                  refine lv_bipush (v := iI 10) hx hb dX12_go_321 (by decide +kernel) ?_
                                  refine lv_aload_n hx hb dX12_go_323 rfl (lv_at hl 4 rfl) ?_
                                  refine r_get (v := .int (iI z25)) M w 0 8 clX12 rfl (by decide) G1471 rfl rfl dX12_go_324 ?_
                                  refine r_imul (v := _) M rfl dX12_go_327 ?_
                                  refine b_any (fun z109 z109_a z109_b => ?_)
                                  refine lv_iload hx hb dX12_go_328 (lv_at hl 1 rfl) ?_
                                  refine r_iadd (v := _) M rfl dX12_go_330 ?_
                                  refine b_any (fun z110 z110_a z110_b => ?_)
                                  refine lv_bipush (v := iI 48) hx hb dX12_go_331 (by decide +kernel) ?_
                                  refine r_isub (v := _) M rfl dX12_go_333 ?_
                                  refine b_any (fun z111 z111_a z111_b => ?_)
                                  refine r_put (ws' := [(a0, .inr (11, [.int r0, .ref a1, .int (iI x0), .int (iI x1), .int r1, .int (iI z24), .int (iI z1), .int (iI x3), .int (iI z111), .int r3, .int r4, .int r5, .long fy105, .int (iI x5), .ref a2, .ref a3, .ref a4, .ref a5, .ref a6, .ref a7, .ref a8, .ref a9, .ref a10, .ref a11, .int (iI x6), .ref a12, .ref a13, .ref a14, .ref a15, .int (iI x7), .int r6, .int r7, .ref a16, .int r8, .int r9, .ref a17, .ref a18, .int (iI x8), .ref a19, .int (iI x9), .int r10, .ref a20, .ref a21, .int (iI x10), .int r11, .ref a22, .int (iI x11), .int (iI x12), .int (iI x13), .int (iI x14)])), (a1, .inl (T 0, 940, .inl f0))]) M w 0 8 clX12 rfl (by decide) G1471 rfl rfl rfl rfl (Nat.le_of_ble_eq_true rfl) rfl dX12_go_334 (fun H locs w => ?_)
                                  refine lv_aload_n hx hb dX12_go_337 rfl (lv_at hl 4 rfl) ?_
                                  refine lv_dup hx hb dX12_go_338 rfl ?_
                                  refine r_get (v := .int (iI z24)) M w 0 5 clX12 rfl (by decide) G1468 rfl rfl dX12_go_339 ?_
                                  refine lv_iconst (v := iI 1) hx hb dX12_go_342 (by decide +kernel) ?_
                                  refine r_iadd (v := iI (z24 + 1)) M (iI_add _ _) dX12_go_343 ?_
                                  refine r_put (ws' := [(a0, .inr (11, [.int r0, .ref a1, .int (iI x0), .int (iI x1), .int r1, .int (iI (z24 + 1)), .int (iI z1), .int (iI x3), .int (iI z111), .int r3, .int r4, .int r5, .long fy105, .int (iI x5), .ref a2, .ref a3, .ref a4, .ref a5, .ref a6, .ref a7, .ref a8, .ref a9, .ref a10, .ref a11, .int (iI x6), .ref a12, .ref a13, .ref a14, .ref a15, .int (iI x7), .int r6, .int r7, .ref a16, .int r8, .int r9, .ref a17, .ref a18, .int (iI x8), .ref a19, .int (iI x9), .int r10, .ref a20, .ref a21, .int (iI x10), .int r11, .ref a22, .int (iI x11), .int (iI x12), .int (iI x13), .int (iI x14)])), (a1, .inl (T 0, 940, .inl f0))]) M w 0 5 clX12 rfl (by decide) G1468 rfl rfl rfl rfl (Nat.le_of_ble_eq_true rfl) rfl dX12_go_344 (fun H locs w => ?_)
                                  refine lv_goto (tgt := 215) hx hb dX12_go_347 (by decide) ?_
                                  exact ih2 fy105 (z24 + 1) z111 1 _ _ _ (by omega) (by omega) z111_a z111_b (by decide) (by decide) (by omega) (by omega) w (lv_sub hl [0, 2, 3, 4] rfl)
                        · replace c_49 := (iz_eq (Int.le_trans (by decide) z47_a) (Int.le_trans z47_b (by decide))).mp c_49
                          refine lv_aload_n hx hb dX12_go_229 rfl (lv_at hl 3 rfl) ?_
                          refine lv_aload_n hx hb dX12_go_230 rfl (lv_at hl 3 rfl) ?_
                          refine r_get (v := .int (iI z24)) M w 0 5 clX12 rfl (by decide) G1468 rfl rfl dX12_go_231 ?_
                          refine k_I (ce := 0) (sl := 0) (rest := []) (wr := []) (r_V (f := 0) [0, 1] M w V_HookedCityModel_50 G1639 G50 (c9_X12_tapeAt l D T _ a0 z24 r0 a1 x0 x1 r1 z24 (iI z1) x3 z25 r3 r4 r5 fy23 x5 a2 a3 a4 a5 a6 a7 a8 a9 a10 a11 x6 a12 a13 a14 a15 x7 r6 r7 a16 r8 r9 a17 a18 x8 a19 x9 r10 a20 a21 x10 r11 a22 x11 x12 x13 x14 f0 z24_a z24_b x0_a x0_b x1_a x1_b z24_a z24_b x3_a x3_b z25_a z25_b x5_a x5_b x6_a x6_b x7_a x7_b x8_a x8_b x9_a x9_b x10_a x10_b x11_a x11_b x12_a x12_b x13_a x13_b x14_a x14_b) 0 clX12 rfl rfl (by decide) rfl hl.1 rfl (Nat.le_of_ble_eq_true rfl) dX12_go_234 (by decide) (by decide) (by decide) (by decide)) w [0, 1] [] rfl rfl (by decide) (by decide) rfl rfl (fun v z112 H locs hp w => ?_)
                          have hv : iI z112 = v := hp.1
                          subst hv
                          have z112_a : (-2147483648) ≤ z112 := hp.2.1
                          have z112_b : z112 ≤ 2147483647 := hp.2.2.1
                          have w : WD D A s.heap [(a0, .inr (11, [.int r0, .ref a1, .int (iI x0), .int (iI x1), .int r1, .int (iI z24), .int (iI z1), .int (iI x3), .int (iI z25), .int r3, .int r4, .int r5, .long fy23, .int (iI x5), .ref a2, .ref a3, .ref a4, .ref a5, .ref a6, .ref a7, .ref a8, .ref a9, .ref a10, .ref a11, .int (iI x6), .ref a12, .ref a13, .ref a14, .ref a15, .int (iI x7), .int r6, .int r7, .ref a16, .int r8, .int r9, .ref a17, .ref a18, .int (iI x8), .ref a19, .int (iI x9), .int r10, .ref a20, .ref a21, .int (iI x10), .int r11, .ref a22, .int (iI x11), .int (iI x12), .int (iI x13), .int (iI x14)])), (a1, .inl (T 0, 940, .inl f0))] H locs := w
                          rcases hp.2.2.2 with ⟨c_113, hr⟩ | c_114
                          · exfalso; omega
                          · refine k_I (ce := 0) (sl := 0) (rest := []) (wr := [(a0, .inr (11, [.int r0, .ref a1, .int (iI x0), .int (iI x1), .int r1, .int (iI z24), .int (iI z1), .int (iI x3), .int (iI z25), .int r3, .int r4, .int r5, .long fy23, .int (iI x5), .ref a2, .ref a3, .ref a4, .ref a5, .ref a6, .ref a7, .ref a8, .ref a9, .ref a10, .ref a11, .int (iI x6), .ref a12, .ref a13, .ref a14, .ref a15, .int (iI x7), .int r6, .int r7, .ref a16, .int r8, .int r9, .ref a17, .ref a18, .int (iI x8), .ref a19, .int (iI x9), .int r10, .ref a20, .ref a21, .int (iI x10), .int r11, .ref a22, .int (iI x11), .int (iI x12), .int (iI x13), .int (iI x14)])), (a1, .inl (T 0, 940, .inl f0))]) (r_S (f := 0) [] M w V_HookedCityModel_37 G1635 (c10_X12_isDigit l D T _ z112 z112_a z112_b) rfl (by decide) rfl hl.1 rfl (Nat.le_of_ble_eq_true rfl) dX12_go_237 (by decide) (by decide) (by decide) (by decide)) w [] [0, 1] rfl rfl (by decide) (by decide) rfl rfl (fun v z115 H locs hp w => ?_)
                            have hv : iI z115 = v := hp.1
                            subst hv
                            have z115_a : 0 ≤ z115 := hp.2.1
                            have z115_b : z115 ≤ 1 := hp.2.2.1
                            have ee116 : 0 ≤ ((z112 + 4294967296) - (z115 * 4294967344)) := hp.2.2.2
                            have w : WD D A s.heap [(a0, .inr (11, [.int r0, .ref a1, .int (iI x0), .int (iI x1), .int r1, .int (iI z24), .int (iI z1), .int (iI x3), .int (iI z25), .int r3, .int r4, .int r5, .long fy23, .int (iI x5), .ref a2, .ref a3, .ref a4, .ref a5, .ref a6, .ref a7, .ref a8, .ref a9, .ref a10, .ref a11, .int (iI x6), .ref a12, .ref a13, .ref a14, .ref a15, .int (iI x7), .int r6, .int r7, .ref a16, .int r8, .int r9, .ref a17, .ref a18, .int (iI x8), .ref a19, .int (iI x9), .int r10, .ref a20, .ref a21, .int (iI x10), .int r11, .ref a22, .int (iI x11), .int (iI x12), .int (iI x13), .int (iI x14)])), (a1, .inl (T 0, 940, .inl f0))] H locs := w
                            refine lv_if_eq (tgt := 350) hx hb dX12_go_240 (by decide) (fun c_117 => ?_) (fun c_117 => ?_)
                            · replace c_117 := (iz_eq (Int.le_trans (by decide) z115_a) (Int.le_trans z115_b (by decide))).mp c_117
                              refine lv_aload_n hx hb dX12_go_350 rfl (lv_at hl 3 rfl) ?_
                              refine lv_iload_n hx hb dX12_go_351 rfl (lv_at hl 0 rfl) ?_
                              refine lv_if_eq (tgt := 377) hx hb dX12_go_352 (by decide) (fun c_118 => ?_) (fun c_118 => ?_)
                              · replace c_118 := (iz_eq (Int.le_trans (by decide) z26_a) (Int.le_trans z26_b (by decide))).mp c_118
                                refine lv_iconst (v := iI 1) hx hb dX12_go_377 (by decide +kernel) ?_
                                refine lv_goto (tgt := 390) hx hb dX12_go_378 (by decide) ?_
                                refine r_put (ws' := [(a0, .inr (11, [.int r0, .ref a1, .int (iI x0), .int (iI x1), .int r1, .int (iI z24), .int (iI z1), .int (iI 1), .int (iI z25), .int r3, .int r4, .int r5, .long fy23, .int (iI x5), .ref a2, .ref a3, .ref a4, .ref a5, .ref a6, .ref a7, .ref a8, .ref a9, .ref a10, .ref a11, .int (iI x6), .ref a12, .ref a13, .ref a14, .ref a15, .int (iI x7), .int r6, .int r7, .ref a16, .int r8, .int r9, .ref a17, .ref a18, .int (iI x8), .ref a19, .int (iI x9), .int r10, .ref a20, .ref a21, .int (iI x10), .int r11, .ref a22, .int (iI x11), .int (iI x12), .int (iI x13), .int (iI x14)])), (a1, .inl (T 0, 940, .inl f0))]) M w 0 7 clX12 rfl (by decide) G1470 rfl rfl rfl rfl (Nat.le_of_ble_eq_true rfl) rfl dX12_go_390 (fun H locs w => ?_)
                                exact ret (z24, (iI z1), 1, z25, r3, fy23) _ _ _ _ _ [0, 1] dX12_go_393 ⟨z24_a, z24_b, (show (0 : Int) ≤ 1 from by decide), (show (1 : Int) ≤ 4 from by decide), z25_a, z25_b, (show 0 ≤ (z24 - x2) from by omega), (show 0 ≤ (((z24 - x2) - 1) + 3) from by omega)⟩ w (by decide) rfl
                              · replace c_118 : ¬ z26 = 0 := fun h => c_118 ((iz_eq (Int.le_trans (by decide) z26_a) (Int.le_trans z26_b (by decide))).mpr h)
                                refine lv_aload_n hx hb dX12_go_355 rfl (lv_at hl 3 rfl) ?_
                                refine r_get (v := .int (iI z24)) M w 0 5 clX12 rfl (by decide) G1468 rfl rfl dX12_go_356 ?_
                                refine lv_aload_n hx hb dX12_go_359 rfl (lv_at hl 3 rfl) ?_
                                refine r_get (v := .int (iI z1)) M w 0 6 clX12 rfl (by decide) G1469 rfl rfl dX12_go_360 ?_
                                refine b_any (fun z119 z119_a z119_b => ?_)
                                refine r_isub (v := _) M rfl dX12_go_363 ?_
                                refine b_any (fun z120 z120_a z120_b => ?_)
                                refine lv_iload_n hx hb dX12_go_364 rfl (lv_at hl 1 rfl) ?_
                                refine lv_if_eq (tgt := 373) hx hb dX12_go_365 (by decide) (fun c_121 => ?_) (fun c_121 => ?_)
                                · replace c_121 := (iz_eq (Int.le_trans (by decide) z21_a) (Int.le_trans z21_b (by decide))).mp c_121
                                  refine lv_iconst (v := iI 3) hx hb dX12_go_373 (by decide +kernel) ?_
                                  refine lv_icmp_le (tgt := 381) hx hb dX12_go_374 (by decide) (fun c_122 => ?_) (fun c_122 => ?_)
                                  · replace c_122 := (iI_le (Int.le_trans (by decide) z120_a) (Int.le_trans z120_b (by decide)) (by decide) (by decide)).mp c_122
                                    refine lv_iload_n hx hb dX12_go_381 rfl (lv_at hl 1 rfl) ?_
                                    refine lv_if_eq (tgt := 389) hx hb dX12_go_382 (by decide) (fun c_123 => ?_) (fun c_123 => ?_)
                                    · replace c_123 := (iz_eq (Int.le_trans (by decide) z21_a) (Int.le_trans z21_b (by decide))).mp c_123
                                      refine lv_iconst (v := iI 3) hx hb dX12_go_389 (by decide +kernel) ?_
                                      refine r_put (ws' := [(a0, .inr (11, [.int r0, .ref a1, .int (iI x0), .int (iI x1), .int r1, .int (iI z24), .int (iI z1), .int (iI 3), .int (iI z25), .int r3, .int r4, .int r5, .long fy23, .int (iI x5), .ref a2, .ref a3, .ref a4, .ref a5, .ref a6, .ref a7, .ref a8, .ref a9, .ref a10, .ref a11, .int (iI x6), .ref a12, .ref a13, .ref a14, .ref a15, .int (iI x7), .int r6, .int r7, .ref a16, .int r8, .int r9, .ref a17, .ref a18, .int (iI x8), .ref a19, .int (iI x9), .int r10, .ref a20, .ref a21, .int (iI x10), .int r11, .ref a22, .int (iI x11), .int (iI x12), .int (iI x13), .int (iI x14)])), (a1, .inl (T 0, 940, .inl f0))]) M w 0 7 clX12 rfl (by decide) G1470 rfl rfl rfl rfl (Nat.le_of_ble_eq_true rfl) rfl dX12_go_390 (fun H locs w => ?_)
                                      exact ret (z24, (iI z1), 3, z25, r3, fy23) _ _ _ _ _ [0, 1] dX12_go_393 ⟨z24_a, z24_b, (show (0 : Int) ≤ 3 from by decide), (show (3 : Int) ≤ 4 from by decide), z25_a, z25_b, (show 0 ≤ (z24 - x2) from by omega), (show 0 ≤ (((z24 - x2) - 3) + 3) from by omega)⟩ w (by decide) rfl
                                    · replace c_123 : ¬ z21 = 0 := fun h => c_123 ((iz_eq (Int.le_trans (by decide) z21_a) (Int.le_trans z21_b (by decide))).mpr h)
                                      exfalso; omega
                                  · replace c_122 : 3 < z120 := Int.not_le.mp (fun h => c_122 ((iI_le (Int.le_trans (by decide) z120_a) (Int.le_trans z120_b (by decide)) (by decide) (by decide)).mpr h))
                                    refine lv_iconst (v := iI 1) hx hb dX12_go_377 (by decide +kernel) ?_
                                    refine lv_goto (tgt := 390) hx hb dX12_go_378 (by decide) ?_
                                    refine r_put (ws' := [(a0, .inr (11, [.int r0, .ref a1, .int (iI x0), .int (iI x1), .int r1, .int (iI z24), .int (iI z1), .int (iI 1), .int (iI z25), .int r3, .int r4, .int r5, .long fy23, .int (iI x5), .ref a2, .ref a3, .ref a4, .ref a5, .ref a6, .ref a7, .ref a8, .ref a9, .ref a10, .ref a11, .int (iI x6), .ref a12, .ref a13, .ref a14, .ref a15, .int (iI x7), .int r6, .int r7, .ref a16, .int r8, .int r9, .ref a17, .ref a18, .int (iI x8), .ref a19, .int (iI x9), .int r10, .ref a20, .ref a21, .int (iI x10), .int r11, .ref a22, .int (iI x11), .int (iI x12), .int (iI x13), .int (iI x14)])), (a1, .inl (T 0, 940, .inl f0))]) M w 0 7 clX12 rfl (by decide) G1470 rfl rfl rfl rfl (Nat.le_of_ble_eq_true rfl) rfl dX12_go_390 (fun H locs w => ?_)
                                    exact ret (z24, (iI z1), 1, z25, r3, fy23) _ _ _ _ _ [0, 1] dX12_go_393 ⟨z24_a, z24_b, (show (0 : Int) ≤ 1 from by decide), (show (1 : Int) ≤ 4 from by decide), z25_a, z25_b, (show 0 ≤ (z24 - x2) from by omega), (show 0 ≤ (((z24 - x2) - 1) + 3) from by omega)⟩ w (by decide) rfl
                                · replace c_121 : ¬ z21 = 0 := fun h => c_121 ((iz_eq (Int.le_trans (by decide) z21_a) (Int.le_trans z21_b (by decide))).mpr h)
                                  refine lv_bipush (v := iI 7) hx hb dX12_go_368 (by decide +kernel) ?_
                                  refine lv_goto (tgt := 374) hx hb dX12_go_370 (by decide) ?_
                                  refine lv_icmp_le (tgt := 381) hx hb dX12_go_374 (by decide) (fun c_124 => ?_) (fun c_124 => ?_)
                                  · replace c_124 := (iI_le (Int.le_trans (by decide) z120_a) (Int.le_trans z120_b (by decide)) (by decide) (by decide)).mp c_124
                                    refine lv_iload_n hx hb dX12_go_381 rfl (lv_at hl 1 rfl) ?_
                                    refine lv_if_eq (tgt := 389) hx hb dX12_go_382 (by decide) (fun c_125 => ?_) (fun c_125 => ?_)
                                    · replace c_125 := (iz_eq (Int.le_trans (by decide) z21_a) (Int.le_trans z21_b (by decide))).mp c_125
                                      exfalso; omega
                                    · replace c_125 : ¬ z21 = 0 := fun h => c_125 ((iz_eq (Int.le_trans (by decide) z21_a) (Int.le_trans z21_b (by decide))).mpr h)
                                      refine lv_iconst (v := iI 2) hx hb dX12_go_385 (by decide +kernel) ?_
                                      refine lv_goto (tgt := 390) hx hb dX12_go_386 (by decide) ?_
                                      refine r_put (ws' := [(a0, .inr (11, [.int r0, .ref a1, .int (iI x0), .int (iI x1), .int r1, .int (iI z24), .int (iI z1), .int (iI 2), .int (iI z25), .int r3, .int r4, .int r5, .long fy23, .int (iI x5), .ref a2, .ref a3, .ref a4, .ref a5, .ref a6, .ref a7, .ref a8, .ref a9, .ref a10, .ref a11, .int (iI x6), .ref a12, .ref a13, .ref a14, .ref a15, .int (iI x7), .int r6, .int r7, .ref a16, .int r8, .int r9, .ref a17, .ref a18, .int (iI x8), .ref a19, .int (iI x9), .int r10, .ref a20, .ref a21, .int (iI x10), .int r11, .ref a22, .int (iI x11), .int (iI x12), .int (iI x13), .int (iI x14)])), (a1, .inl (T 0, 940, .inl f0))]) M w 0 7 clX12 rfl (by decide) G1470 rfl rfl rfl rfl (Nat.le_of_ble_eq_true rfl) rfl dX12_go_390 (fun H locs w => ?_)
                                      exact ret (z24, (iI z1), 2, z25, r3, fy23) _ _ _ _ _ [0, 1] dX12_go_393 ⟨z24_a, z24_b, (show (0 : Int) ≤ 2 from by decide), (show (2 : Int) ≤ 4 from by decide), z25_a, z25_b, (show 0 ≤ (z24 - x2) from by omega), (show 0 ≤ (((z24 - x2) - 2) + 3) from by omega)⟩ w (by decide) rfl
                                  · replace c_124 : 7 < z120 := Int.not_le.mp (fun h => c_124 ((iI_le (Int.le_trans (by decide) z120_a) (Int.le_trans z120_b (by decide)) (by decide) (by decide)).mpr h))
                                    refine lv_iconst (v := iI 1) hx hb dX12_go_377 (by decide +kernel) ?_
                                    refine lv_goto (tgt := 390) hx hb dX12_go_378 (by decide) ?_
                                    refine r_put (ws' := [(a0, .inr (11, [.int r0, .ref a1, .int (iI x0), .int (iI x1), .int r1, .int (iI z24), .int (iI z1), .int (iI 1), .int (iI z25), .int r3, .int r4, .int r5, .long fy23, .int (iI x5), .ref a2, .ref a3, .ref a4, .ref a5, .ref a6, .ref a7, .ref a8, .ref a9, .ref a10, .ref a11, .int (iI x6), .ref a12, .ref a13, .ref a14, .ref a15, .int (iI x7), .int r6, .int r7, .ref a16, .int r8, .int r9, .ref a17, .ref a18, .int (iI x8), .ref a19, .int (iI x9), .int r10, .ref a20, .ref a21, .int (iI x10), .int r11, .ref a22, .int (iI x11), .int (iI x12), .int (iI x13), .int (iI x14)])), (a1, .inl (T 0, 940, .inl f0))]) M w 0 7 clX12 rfl (by decide) G1470 rfl rfl rfl rfl (Nat.le_of_ble_eq_true rfl) rfl dX12_go_390 (fun H locs w => ?_)
                                    exact ret (z24, (iI z1), 1, z25, r3, fy23) _ _ _ _ _ [0, 1] dX12_go_393 ⟨z24_a, z24_b, (show (0 : Int) ≤ 1 from by decide), (show (1 : Int) ≤ 4 from by decide), z25_a, z25_b, (show 0 ≤ (z24 - x2) from by omega), (show 0 ≤ (((z24 - x2) - 1) + 3) from by omega)⟩ w (by decide) rfl
                            · replace c_117 : ¬ z115 = 0 := fun h => c_117 ((iz_eq (Int.le_trans (by decide) z115_a) (Int.le_trans z115_b (by decide))).mpr h)
                              refine lv_aload_n hx hb dX12_go_243 rfl (lv_at hl 3 rfl) ?_
                              refine r_get (v := .ref a1) M w 0 1 clX12 rfl (by decide) G1464 rfl rfl dX12_go_244 ?_
                              refine lv_aload_n hx hb dX12_go_247 rfl (lv_at hl 3 rfl) ?_
                              refine r_get (v := .int (iI z24)) M w 0 5 clX12 rfl (by decide) G1468 rfl rfl dX12_go_248 ?_
                              refine r_iald (v := _) M w 1 rfl (iI_in (by omega) (by omega) (by decide)) rfl dX12_go_251 ?_
                              refine b_any (fun z126 z126_a z126_b => ?_)
                              refine lv_istore (lv' := [(4, .int (iI z126)), (3, .int (iI z26)), (2, .int (iI z21)), (1, .int (iI z17)), (0, .ref a0)]) hx hb dX12_go_252 hl (by decide) rfl (fun ls hl => ?_)
                              refine lv_iload_n hx hb dX12_go_254 rfl (lv_at hl 1 rfl) ?_
                              refine lv_if_eq (tgt := 271) hx hb dX12_go_255 (by decide) (fun c_127 => ?_) (fun c_127 => ?_)
                              · replace c_127 := (iz_eq (Int.le_trans (by decide) z26_a) (Int.le_trans z26_b (by decide))).mp c_127
                                refine lv_iconst (v := iI 0) hx hb dX12_go_271 (by decide +kernel) ?_
                                refine lv_istore_n (lv' := [(3, .int (iI 0)), (4, .int (iI z126)), (2, .int (iI z21)), (1, .int (iI z17)), (0, .ref a0)]) hx hb dX12_go_272 rfl hl (by decide) rfl (fun ls hl => ?_)
                                refine lv_aload_n hx hb dX12_go_273 rfl (lv_at hl 4 rfl) ?_
                                refine r_get (v := .int (iI z24)) M w 0 5 clX12 rfl (by decide) G1468 rfl rfl dX12_go_274 ?_
                                refine lv_aload_n hx hb dX12_go_277 rfl (lv_at hl 4 rfl) ?_
                                refine r_get (v := .int (iI z1)) M w 0 6 clX12 rfl (by decide) G1469 rfl rfl dX12_go_278 ?_
                                refine b_any (fun z128 z128_a z128_b => ?_)
                                refine r_isub (v := _) M rfl dX12_go_281 ?_
                                refine b_any (fun z129 z129_a z129_b => ?_)
                                refine lv_bipush (v := iI 7) hx hb dX12_go_282 (by decide +kernel) ?_
                                refine lv_icmp_ge (tgt := 307) hx hb dX12_go_284 (by decide) (fun c_130 => ?_) (fun c_130 => ?_)
                                · replace c_130 := (iI_le (by decide) (by decide) (Int.le_trans (by decide) z129_a) (Int.le_trans z129_b (by decide))).mp c_130
                                  refine lv_aload_n hx hb dX12_go_307 rfl (lv_at hl 4 rfl) ?_
                                  refine r_get (v := .int (iI z24)) M w 0 5 clX12 rfl (by decide) G1468 rfl rfl dX12_go_308 ?_
                                  refine lv_aload_n hx hb dX12_go_311 rfl (lv_at hl 4 rfl) ?_
                                  refine r_get (v := .int (iI z1)) M w 0 6 clX12 rfl (by decide) G1469 rfl rfl dX12_go_312 ?_
                                  refine b_any (fun z131 z131_a z131_b => ?_)
                                  refine r_isub (v := _) M rfl dX12_go_315 ?_
                                  refine b_any (fun z132 z132_a z132_b => ?_)
                                  refine lv_iconst (v := iI 3) hx hb dX12_go_316 (by decide +kernel) ?_
                                  refine lv_icmp_ge (tgt := 337) hx hb dX12_go_317 (by decide) (fun c_133 => ?_) (fun c_133 => ?_)
                                  · replace c_133 := (iI_le (by decide) (by decide) (Int.le_trans (by decide) z132_a) (Int.le_trans z132_b (by decide))).mp c_133
                                    refine lv_aload_n hx hb dX12_go_337 rfl (lv_at hl 4 rfl) ?_
                                    refine lv_dup hx hb dX12_go_338 rfl ?_
                                    refine r_get (v := .int (iI z24)) M w 0 5 clX12 rfl (by decide) G1468 rfl rfl dX12_go_339 ?_
                                    refine lv_iconst (v := iI 1) hx hb dX12_go_342 (by decide +kernel) ?_
                                    refine r_iadd (v := iI (z24 + 1)) M (iI_add _ _) dX12_go_343 ?_
                                    refine r_put (ws' := [(a0, .inr (11, [.int r0, .ref a1, .int (iI x0), .int (iI x1), .int r1, .int (iI (z24 + 1)), .int (iI z1), .int (iI x3), .int (iI z25), .int r3, .int r4, .int r5, .long fy23, .int (iI x5), .ref a2, .ref a3, .ref a4, .ref a5, .ref a6, .ref a7, .ref a8, .ref a9, .ref a10, .ref a11, .int (iI x6), .ref a12, .ref a13, .ref a14, .ref a15, .int (iI x7), .int r6, .int r7, .ref a16, .int r8, .int r9, .ref a17, .ref a18, .int (iI x8), .ref a19, .int (iI x9), .int r10, .ref a20, .ref a21, .int (iI x10), .int r11, .ref a22, .int (iI x11), .int (iI x12), .int (iI x13), .int (iI x14)])), (a1, .inl (T 0, 940, .inl f0))]) M w 0 5 clX12 rfl (by decide) G1468 rfl rfl rfl rfl (Nat.le_of_ble_eq_true rfl) rfl dX12_go_344 (fun H locs w => ?_)
                                    refine lv_goto (tgt := 215) hx hb dX12_go_347 (by decide) ?_
                                    exact ih2 fy23 (z24 + 1) z25 0 _ _ _ (by omega) (by omega) z25_a z25_b (by decide) (by decide) (by omega) (by omega) w (lv_sub hl [0, 2, 3, 4] rfl)
                                  · replace c_133 : z132 < 3 := Int.not_le.mp (fun h => c_133 ((iI_le (by decide) (by decide) (Int.le_trans (by decide) z132_a) (Int.le_trans z132_b (by decide))).mpr h))
                                    refine lv_aload_n hx hb dX12_go_320 rfl (lv_at hl 4 rfl) ?_
                                    refine lv_bipush (v := iI 10) hx hb dX12_go_321 (by decide +kernel) ?_
                                    refine lv_aload_n hx hb dX12_go_323 rfl (lv_at hl 4 rfl) ?_
                                    refine r_get (v := .int (iI z25)) M w 0 8 clX12 rfl (by decide) G1471 rfl rfl dX12_go_324 ?_
                                    refine r_imul (v := _) M rfl dX12_go_327 ?_
                                    refine b_any (fun z134 z134_a z134_b => ?_)
                                    refine lv_iload hx hb dX12_go_328 (lv_at hl 1 rfl) ?_
                                    refine r_iadd (v := _) M rfl dX12_go_330 ?_
                                    refine b_any (fun z135 z135_a z135_b => ?_)
                                    refine lv_bipush (v := iI 48) hx hb dX12_go_331 (by decide +kernel) ?_
                                    refine r_isub (v := _) M rfl dX12_go_333 ?_
                                    refine b_any (fun z136 z136_a z136_b => ?_)
                                    refine r_put (ws' := [(a0, .inr (11, [.int r0, .ref a1, .int (iI x0), .int (iI x1), .int r1, .int (iI z24), .int (iI z1), .int (iI x3), .int (iI z136), .int r3, .int r4, .int r5, .long fy23, .int (iI x5), .ref a2, .ref a3, .ref a4, .ref a5, .ref a6, .ref a7, .ref a8, .ref a9, .ref a10, .ref a11, .int (iI x6), .ref a12, .ref a13, .ref a14, .ref a15, .int (iI x7), .int r6, .int r7, .ref a16, .int r8, .int r9, .ref a17, .ref a18, .int (iI x8), .ref a19, .int (iI x9), .int r10, .ref a20, .ref a21, .int (iI x10), .int r11, .ref a22, .int (iI x11), .int (iI x12), .int (iI x13), .int (iI x14)])), (a1, .inl (T 0, 940, .inl f0))]) M w 0 8 clX12 rfl (by decide) G1471 rfl rfl rfl rfl (Nat.le_of_ble_eq_true rfl) rfl dX12_go_334 (fun H locs w => ?_)
                                    refine lv_aload_n hx hb dX12_go_337 rfl (lv_at hl 4 rfl) ?_
                                    refine lv_dup hx hb dX12_go_338 rfl ?_
                                    refine r_get (v := .int (iI z24)) M w 0 5 clX12 rfl (by decide) G1468 rfl rfl dX12_go_339 ?_
                                    refine lv_iconst (v := iI 1) hx hb dX12_go_342 (by decide +kernel) ?_
                                    refine r_iadd (v := iI (z24 + 1)) M (iI_add _ _) dX12_go_343 ?_
                                    refine r_put (ws' := [(a0, .inr (11, [.int r0, .ref a1, .int (iI x0), .int (iI x1), .int r1, .int (iI (z24 + 1)), .int (iI z1), .int (iI x3), .int (iI z136), .int r3, .int r4, .int r5, .long fy23, .int (iI x5), .ref a2, .ref a3, .ref a4, .ref a5, .ref a6, .ref a7, .ref a8, .ref a9, .ref a10, .ref a11, .int (iI x6), .ref a12, .ref a13, .ref a14, .ref a15, .int (iI x7), .int r6, .int r7, .ref a16, .int r8, .int r9, .ref a17, .ref a18, .int (iI x8), .ref a19, .int (iI x9), .int r10, .ref a20, .ref a21, .int (iI x10), .int r11, .ref a22, .int (iI x11), .int (iI x12), .int (iI x13), .int (iI x14)])), (a1, .inl (T 0, 940, .inl f0))]) M w 0 5 clX12 rfl (by decide) G1468 rfl rfl rfl rfl (Nat.le_of_ble_eq_true rfl) rfl dX12_go_344 (fun H locs w => ?_)
                                    refine lv_goto (tgt := 215) hx hb dX12_go_347 (by decide) ?_
                                    exact ih2 fy23 (z24 + 1) z136 0 _ _ _ (by omega) (by omega) z136_a z136_b (by decide) (by decide) (by omega) (by omega) w (lv_sub hl [0, 2, 3, 4] rfl)
                                · replace c_130 : z129 < 7 := Int.not_le.mp (fun h => c_130 ((iI_le (by decide) (by decide) (Int.le_trans (by decide) z129_a) (Int.le_trans z129_b (by decide))).mpr h))
                                  refine lv_aload_n hx hb dX12_go_287 rfl (lv_at hl 4 rfl) ?_
                                  refine lv_ldc2 (v := 27) hx hb M.1.2.2.2.1 (M.1.2.2.2.2 _ G1641) dX12_go_288 ?_
                                  refine lv_aload_n hx hb dX12_go_291 rfl (lv_at hl 4 rfl) ?_
                                  refine r_get (v := .long fy23) M w 0 12 clX12 rfl (by decide) G1475 rfl rfl dX12_go_292 ?_
                                  refine r_lmul (v := _) M rfl dX12_go_295 ?_
                                  refine b_anyl (fun fy137 => ?_)
                                  refine lv_iload hx hb dX12_go_296 (lv_at hl 1 rfl) ?_
                                  refine lv_i2l (v := _) hx hb dX12_go_298 rfl ?_
                                  refine b_anyl (fun fy138 => ?_)
                                  refine r_ladd (v := _) M rfl dX12_go_299 ?_
                                  refine b_anyl (fun fy139 => ?_)
                                  refine lv_ldc2 (v := 96) hx hb M.1.2.2.2.1 (M.1.2.2.2.2 _ G1642) dX12_go_300 ?_
                                  refine r_lsub (v := _) M rfl dX12_go_303 ?_
                                  refine b_anyl (fun fy140 => ?_)
                                  refine r_put (ws' := [(a0, .inr (11, [.int r0, .ref a1, .int (iI x0), .int (iI x1), .int r1, .int (iI z24), .int (iI z1), .int (iI x3), .int (iI z25), .int r3, .int r4, .int r5, .long fy140, .int (iI x5), .ref a2, .ref a3, .ref a4, .ref a5, .ref a6, .ref a7, .ref a8, .ref a9, .ref a10, .ref a11, .int (iI x6), .ref a12, .ref a13, .ref a14, .ref a15, .int (iI x7), .int r6, .int r7, .ref a16, .int r8, .int r9, .ref a17, .ref a18, .int (iI x8), .ref a19, .int (iI x9), .int r10, .ref a20, .ref a21, .int (iI x10), .int r11, .ref a22, .int (iI x11), .int (iI x12), .int (iI x13), .int (iI x14)])), (a1, .inl (T 0, 940, .inl f0))]) M w 0 12 clX12 rfl (by decide) G1475 rfl rfl rfl rfl (Nat.le_of_ble_eq_true rfl) rfl dX12_go_304 (fun H locs w => ?_)
                                  refine lv_aload_n hx hb dX12_go_307 rfl (lv_at hl 4 rfl) ?_
                                  refine r_get (v := .int (iI z24)) M w 0 5 clX12 rfl (by decide) G1468 rfl rfl dX12_go_308 ?_
                                  refine lv_aload_n hx hb dX12_go_311 rfl (lv_at hl 4 rfl) ?_
                                  refine r_get (v := .int (iI z1)) M w 0 6 clX12 rfl (by decide) G1469 rfl rfl dX12_go_312 ?_
                                  refine b_any (fun z141 z141_a z141_b => ?_)
                                  refine r_isub (v := _) M rfl dX12_go_315 ?_
                                  refine b_any (fun z142 z142_a z142_b => ?_)
                                  refine lv_iconst (v := iI 3) hx hb dX12_go_316 (by decide +kernel) ?_
                                  refine lv_icmp_ge (tgt := 337) hx hb dX12_go_317 (by decide) (fun c_143 => ?_) (fun c_143 => ?_)
                                  · replace c_143 := (iI_le (by decide) (by decide) (Int.le_trans (by decide) z142_a) (Int.le_trans z142_b (by decide))).mp c_143
                                    refine lv_aload_n hx hb dX12_go_337 rfl (lv_at hl 4 rfl) ?_
                                    refine lv_dup hx hb dX12_go_338 rfl ?_
                                    refine r_get (v := .int (iI z24)) M w 0 5 clX12 rfl (by decide) G1468 rfl rfl dX12_go_339 ?_
                                    refine lv_iconst (v := iI 1) hx hb dX12_go_342 (by decide +kernel) ?_
                                    refine r_iadd (v := iI (z24 + 1)) M (iI_add _ _) dX12_go_343 ?_
                                    refine r_put (ws' := [(a0, .inr (11, [.int r0, .ref a1, .int (iI x0), .int (iI x1), .int r1, .int (iI (z24 + 1)), .int (iI z1), .int (iI x3), .int (iI z25), .int r3, .int r4, .int r5, .long fy140, .int (iI x5), .ref a2, .ref a3, .ref a4, .ref a5, .ref a6, .ref a7, .ref a8, .ref a9, .ref a10, .ref a11, .int (iI x6), .ref a12, .ref a13, .ref a14, .ref a15, .int (iI x7), .int r6, .int r7, .ref a16, .int r8, .int r9, .ref a17, .ref a18, .int (iI x8), .ref a19, .int (iI x9), .int r10, .ref a20, .ref a21, .int (iI x10), .int r11, .ref a22, .int (iI x11), .int (iI x12), .int (iI x13), .int (iI x14)])), (a1, .inl (T 0, 940, .inl f0))]) M w 0 5 clX12 rfl (by decide) G1468 rfl rfl rfl rfl (Nat.le_of_ble_eq_true rfl) rfl dX12_go_344 (fun H locs w => ?_)
                                    refine lv_goto (tgt := 215) hx hb dX12_go_347 (by decide) ?_
                                    exact ih2 fy140 (z24 + 1) z25 0 _ _ _ (by omega) (by omega) z25_a z25_b (by decide) (by decide) (by omega) (by omega) w (lv_sub hl [0, 2, 3, 4] rfl)
                                  · replace c_143 : z142 < 3 := Int.not_le.mp (fun h => c_143 ((iI_le (by decide) (by decide) (Int.le_trans (by decide) z142_a) (Int.le_trans z142_b (by decide))).mpr h))
                                    refine lv_aload_n hx hb dX12_go_320 rfl (lv_at hl 4 rfl) ?_
                                    refine lv_bipush (v := iI 10) hx hb dX12_go_321 (by decide +kernel) ?_
                                    refine lv_aload_n hx hb dX12_go_323 rfl (lv_at hl 4 rfl) ?_
                                    refine r_get (v := .int (iI z25)) M w 0 8 clX12 rfl (by decide) G1471 rfl rfl dX12_go_324 ?_
                                    refine r_imul (v := _) M rfl dX12_go_327 ?_
                                    refine b_any (fun z144 z144_a z144_b => ?_)
                                    refine lv_iload hx hb dX12_go_328 (lv_at hl 1 rfl) ?_
                                    refine r_iadd (v := _) M rfl dX12_go_330 ?_
                                    refine b_any (fun z145 z145_a z145_b => ?_)
                                    refine lv_bipush (v := iI 48) hx hb dX12_go_331 (by decide +kernel) ?_
                                    refine r_isub (v := _) M rfl dX12_go_333 ?_
                                    refine b_any (fun z146 z146_a z146_b => ?_)
                                    refine r_put (ws' := [(a0, .inr (11, [.int r0, .ref a1, .int (iI x0), .int (iI x1), .int r1, .int (iI z24), .int (iI z1), .int (iI x3), .int (iI z146), .int r3, .int r4, .int r5, .long fy140, .int (iI x5), .ref a2, .ref a3, .ref a4, .ref a5, .ref a6, .ref a7, .ref a8, .ref a9, .ref a10, .ref a11, .int (iI x6), .ref a12, .ref a13, .ref a14, .ref a15, .int (iI x7), .int r6, .int r7, .ref a16, .int r8, .int r9, .ref a17, .ref a18, .int (iI x8), .ref a19, .int (iI x9), .int r10, .ref a20, .ref a21, .int (iI x10), .int r11, .ref a22, .int (iI x11), .int (iI x12), .int (iI x13), .int (iI x14)])), (a1, .inl (T 0, 940, .inl f0))]) M w 0 8 clX12 rfl (by decide) G1471 rfl rfl rfl rfl (Nat.le_of_ble_eq_true rfl) rfl dX12_go_334 (fun H locs w => ?_)
                                    refine lv_aload_n hx hb dX12_go_337 rfl (lv_at hl 4 rfl) ?_
                                    refine lv_dup hx hb dX12_go_338 rfl ?_
                                    refine r_get (v := .int (iI z24)) M w 0 5 clX12 rfl (by decide) G1468 rfl rfl dX12_go_339 ?_
                                    refine lv_iconst (v := iI 1) hx hb dX12_go_342 (by decide +kernel) ?_
                                    refine r_iadd (v := iI (z24 + 1)) M (iI_add _ _) dX12_go_343 ?_
                                    refine r_put (ws' := [(a0, .inr (11, [.int r0, .ref a1, .int (iI x0), .int (iI x1), .int r1, .int (iI (z24 + 1)), .int (iI z1), .int (iI x3), .int (iI z146), .int r3, .int r4, .int r5, .long fy140, .int (iI x5), .ref a2, .ref a3, .ref a4, .ref a5, .ref a6, .ref a7, .ref a8, .ref a9, .ref a10, .ref a11, .int (iI x6), .ref a12, .ref a13, .ref a14, .ref a15, .int (iI x7), .int r6, .int r7, .ref a16, .int r8, .int r9, .ref a17, .ref a18, .int (iI x8), .ref a19, .int (iI x9), .int r10, .ref a20, .ref a21, .int (iI x10), .int r11, .ref a22, .int (iI x11), .int (iI x12), .int (iI x13), .int (iI x14)])), (a1, .inl (T 0, 940, .inl f0))]) M w 0 5 clX12 rfl (by decide) G1468 rfl rfl rfl rfl (Nat.le_of_ble_eq_true rfl) rfl dX12_go_344 (fun H locs w => ?_)
                                    refine lv_goto (tgt := 215) hx hb dX12_go_347 (by decide) ?_
                                    exact ih2 fy140 (z24 + 1) z146 0 _ _ _ (by omega) (by omega) z146_a z146_b (by decide) (by decide) (by omega) (by omega) w (lv_sub hl [0, 2, 3, 4] rfl)
                              · replace c_127 : ¬ z26 = 0 := fun h => c_127 ((iz_eq (Int.le_trans (by decide) z26_a) (Int.le_trans z26_b (by decide))).mpr h)
                                refine lv_iload hx hb dX12_go_258 (lv_at hl 0 rfl) ?_
                                refine k_I (ce := 0) (sl := 0) (rest := []) (wr := [(a0, .inr (11, [.int r0, .ref a1, .int (iI x0), .int (iI x1), .int r1, .int (iI z24), .int (iI z1), .int (iI x3), .int (iI z25), .int r3, .int r4, .int r5, .long fy23, .int (iI x5), .ref a2, .ref a3, .ref a4, .ref a5, .ref a6, .ref a7, .ref a8, .ref a9, .ref a10, .ref a11, .int (iI x6), .ref a12, .ref a13, .ref a14, .ref a15, .int (iI x7), .int r6, .int r7, .ref a16, .int r8, .int r9, .ref a17, .ref a18, .int (iI x8), .ref a19, .int (iI x9), .int r10, .ref a20, .ref a21, .int (iI x10), .int r11, .ref a22, .int (iI x11), .int (iI x12), .int (iI x13), .int (iI x14)])), (a1, .inl (T 0, 940, .inl f0))]) (r_S (f := 0) [] M w V_HookedCityModel_33 G1632 (c11_X12_isLetter l D T _ z126 z126_a z126_b) rfl (by decide) rfl hl.1 rfl (Nat.le_of_ble_eq_true rfl) dX12_go_260 (by decide) (by decide) (by decide) (by decide)) w [] [0, 1] rfl rfl (by decide) (by decide) rfl rfl (fun v z147 H locs hp w => ?_)
                                have hv : iI z147 = v := hp.1
                                subst hv
                                have z147_a : 0 ≤ z147 := hp.2.1
                                have z147_b : z147 ≤ 1 := hp.2.2.1
                                have ee148 : 0 ≤ ((z126 + 4294967296) - (z147 * 4294967393)) := hp.2.2.2
                                have w : WD D A s.heap [(a0, .inr (11, [.int r0, .ref a1, .int (iI x0), .int (iI x1), .int r1, .int (iI z24), .int (iI z1), .int (iI x3), .int (iI z25), .int r3, .int r4, .int r5, .long fy23, .int (iI x5), .ref a2, .ref a3, .ref a4, .ref a5, .ref a6, .ref a7, .ref a8, .ref a9, .ref a10, .ref a11, .int (iI x6), .ref a12, .ref a13, .ref a14, .ref a15, .int (iI x7), .int r6, .int r7, .ref a16, .int r8, .int r9, .ref a17, .ref a18, .int (iI x8), .ref a19, .int (iI x9), .int r10, .ref a20, .ref a21, .int (iI x10), .int r11, .ref a22, .int (iI x11), .int (iI x12), .int (iI x13), .int (iI x14)])), (a1, .inl (T 0, 940, .inl f0))] H locs := w
                                refine lv_iload_n hx hb dX12_go_263 rfl (lv_at hl 2 rfl) ?_
                                refine lv_icmp_ne (tgt := 271) hx hb dX12_go_264 (by decide) (fun c_149 => ?_) (fun c_149 => ?_)
                                · replace c_149 : ¬ z147 = z21 := fun h => c_149 ((iI_eq (Int.le_trans (by decide) z147_a) (Int.le_trans z147_b (by decide)) (Int.le_trans (by decide) z21_a) (Int.le_trans z21_b (by decide))).mpr h)
                                  refine lv_iconst (v := iI 0) hx hb dX12_go_271 (by decide +kernel) ?_
                                  refine lv_istore_n (lv' := [(3, .int (iI 0)), (4, .int (iI z126)), (2, .int (iI z21)), (1, .int (iI z17)), (0, .ref a0)]) hx hb dX12_go_272 rfl hl (by decide) rfl (fun ls hl => ?_)
                                  refine lv_aload_n hx hb dX12_go_273 rfl (lv_at hl 4 rfl) ?_
                                  refine r_get (v := .int (iI z24)) M w 0 5 clX12 rfl (by decide) G1468 rfl rfl dX12_go_274 ?_
                                  refine lv_aload_n hx hb dX12_go_277 rfl (lv_at hl 4 rfl) ?_
                                  refine r_get (v := .int (iI z1)) M w 0 6 clX12 rfl (by decide) G1469 rfl rfl dX12_go_278 ?_
                                  refine b_any (fun z150 z150_a z150_b => ?_)
                                  refine r_isub (v := _) M rfl dX12_go_281 ?_
                                  refine b_any (fun z151 z151_a z151_b => ?_)
                                  refine lv_bipush (v := iI 7) hx hb dX12_go_282 (by decide +kernel) ?_
                                  refine lv_icmp_ge (tgt := 307) hx hb dX12_go_284 (by decide) (fun c_152 => ?_) (fun c_152 => ?_)
                                  · replace c_152 := (iI_le (by decide) (by decide) (Int.le_trans (by decide) z151_a) (Int.le_trans z151_b (by decide))).mp c_152
                                    refine lv_aload_n hx hb dX12_go_307 rfl (lv_at hl 4 rfl) ?_
                                    refine r_get (v := .int (iI z24)) M w 0 5 clX12 rfl (by decide) G1468 rfl rfl dX12_go_308 ?_
                                    refine lv_aload_n hx hb dX12_go_311 rfl (lv_at hl 4 rfl) ?_
                                    refine r_get (v := .int (iI z1)) M w 0 6 clX12 rfl (by decide) G1469 rfl rfl dX12_go_312 ?_
                                    refine b_any (fun z153 z153_a z153_b => ?_)
                                    refine r_isub (v := _) M rfl dX12_go_315 ?_
                                    refine b_any (fun z154 z154_a z154_b => ?_)
                                    refine lv_iconst (v := iI 3) hx hb dX12_go_316 (by decide +kernel) ?_
                                    refine lv_icmp_ge (tgt := 337) hx hb dX12_go_317 (by decide) (fun c_155 => ?_) (fun c_155 => ?_)
                                    · replace c_155 := (iI_le (by decide) (by decide) (Int.le_trans (by decide) z154_a) (Int.le_trans z154_b (by decide))).mp c_155
                                      refine lv_aload_n hx hb dX12_go_337 rfl (lv_at hl 4 rfl) ?_
                                      refine lv_dup hx hb dX12_go_338 rfl ?_
                                      refine r_get (v := .int (iI z24)) M w 0 5 clX12 rfl (by decide) G1468 rfl rfl dX12_go_339 ?_
                                      refine lv_iconst (v := iI 1) hx hb dX12_go_342 (by decide +kernel) ?_
                                      refine r_iadd (v := iI (z24 + 1)) M (iI_add _ _) dX12_go_343 ?_
                                      refine r_put (ws' := [(a0, .inr (11, [.int r0, .ref a1, .int (iI x0), .int (iI x1), .int r1, .int (iI (z24 + 1)), .int (iI z1), .int (iI x3), .int (iI z25), .int r3, .int r4, .int r5, .long fy23, .int (iI x5), .ref a2, .ref a3, .ref a4, .ref a5, .ref a6, .ref a7, .ref a8, .ref a9, .ref a10, .ref a11, .int (iI x6), .ref a12, .ref a13, .ref a14, .ref a15, .int (iI x7), .int r6, .int r7, .ref a16, .int r8, .int r9, .ref a17, .ref a18, .int (iI x8), .ref a19, .int (iI x9), .int r10, .ref a20, .ref a21, .int (iI x10), .int r11, .ref a22, .int (iI x11), .int (iI x12), .int (iI x13), .int (iI x14)])), (a1, .inl (T 0, 940, .inl f0))]) M w 0 5 clX12 rfl (by decide) G1468 rfl rfl rfl rfl (Nat.le_of_ble_eq_true rfl) rfl dX12_go_344 (fun H locs w => ?_)
                                      refine lv_goto (tgt := 215) hx hb dX12_go_347 (by decide) ?_
                                      exact ih2 fy23 (z24 + 1) z25 0 _ _ _ (by omega) (by omega) z25_a z25_b (by decide) (by decide) (by omega) (by omega) w (lv_sub hl [0, 2, 3, 4] rfl)
                                    · replace c_155 : z154 < 3 := Int.not_le.mp (fun h => c_155 ((iI_le (by decide) (by decide) (Int.le_trans (by decide) z154_a) (Int.le_trans z154_b (by decide))).mpr h))
                                      refine lv_aload_n hx hb dX12_go_320 rfl (lv_at hl 4 rfl) ?_
                                      refine lv_bipush (v := iI 10) hx hb dX12_go_321 (by decide +kernel) ?_
                                      refine lv_aload_n hx hb dX12_go_323 rfl (lv_at hl 4 rfl) ?_
                                      refine r_get (v := .int (iI z25)) M w 0 8 clX12 rfl (by decide) G1471 rfl rfl dX12_go_324 ?_
                                      refine r_imul (v := _) M rfl dX12_go_327 ?_
                                      refine b_any (fun z156 z156_a z156_b => ?_)
                                      refine lv_iload hx hb dX12_go_328 (lv_at hl 1 rfl) ?_
                                      refine r_iadd (v := _) M rfl dX12_go_330 ?_
                                      refine b_any (fun z157 z157_a z157_b => ?_)
                                      refine lv_bipush (v := iI 48) hx hb dX12_go_331 (by decide +kernel) ?_
                                      refine r_isub (v := _) M rfl dX12_go_333 ?_
                                      refine b_any (fun z158 z158_a z158_b => ?_)
                                      refine r_put (ws' := [(a0, .inr (11, [.int r0, .ref a1, .int (iI x0), .int (iI x1), .int r1, .int (iI z24), .int (iI z1), .int (iI x3), .int (iI z158), .int r3, .int r4, .int r5, .long fy23, .int (iI x5), .ref a2, .ref a3, .ref a4, .ref a5, .ref a6, .ref a7, .ref a8, .ref a9, .ref a10, .ref a11, .int (iI x6), .ref a12, .ref a13, .ref a14, .ref a15, .int (iI x7), .int r6, .int r7, .ref a16, .int r8, .int r9, .ref a17, .ref a18, .int (iI x8), .ref a19, .int (iI x9), .int r10, .ref a20, .ref a21, .int (iI x10), .int r11, .ref a22, .int (iI x11), .int (iI x12), .int (iI x13), .int (iI x14)])), (a1, .inl (T 0, 940, .inl f0))]) M w 0 8 clX12 rfl (by decide) G1471 rfl rfl rfl rfl (Nat.le_of_ble_eq_true rfl) rfl dX12_go_334 (fun H locs w => ?_)
                                      refine lv_aload_n hx hb dX12_go_337 rfl (lv_at hl 4 rfl) ?_
                                      refine lv_dup hx hb dX12_go_338 rfl ?_
                                      refine r_get (v := .int (iI z24)) M w 0 5 clX12 rfl (by decide) G1468 rfl rfl dX12_go_339 ?_
                                      refine lv_iconst (v := iI 1) hx hb dX12_go_342 (by decide +kernel) ?_
                                      refine r_iadd (v := iI (z24 + 1)) M (iI_add _ _) dX12_go_343 ?_
                                      refine r_put (ws' := [(a0, .inr (11, [.int r0, .ref a1, .int (iI x0), .int (iI x1), .int r1, .int (iI (z24 + 1)), .int (iI z1), .int (iI x3), .int (iI z158), .int r3, .int r4, .int r5, .long fy23, .int (iI x5), .ref a2, .ref a3, .ref a4, .ref a5, .ref a6, .ref a7, .ref a8, .ref a9, .ref a10, .ref a11, .int (iI x6), .ref a12, .ref a13, .ref a14, .ref a15, .int (iI x7), .int r6, .int r7, .ref a16, .int r8, .int r9, .ref a17, .ref a18, .int (iI x8), .ref a19, .int (iI x9), .int r10, .ref a20, .ref a21, .int (iI x10), .int r11, .ref a22, .int (iI x11), .int (iI x12), .int (iI x13), .int (iI x14)])), (a1, .inl (T 0, 940, .inl f0))]) M w 0 5 clX12 rfl (by decide) G1468 rfl rfl rfl rfl (Nat.le_of_ble_eq_true rfl) rfl dX12_go_344 (fun H locs w => ?_)
                                      refine lv_goto (tgt := 215) hx hb dX12_go_347 (by decide) ?_
                                      exact ih2 fy23 (z24 + 1) z158 0 _ _ _ (by omega) (by omega) z158_a z158_b (by decide) (by decide) (by omega) (by omega) w (lv_sub hl [0, 2, 3, 4] rfl)
                                  · replace c_152 : z151 < 7 := Int.not_le.mp (fun h => c_152 ((iI_le (by decide) (by decide) (Int.le_trans (by decide) z151_a) (Int.le_trans z151_b (by decide))).mpr h))
                                    refine lv_aload_n hx hb dX12_go_287 rfl (lv_at hl 4 rfl) ?_
                                    refine lv_ldc2 (v := 27) hx hb M.1.2.2.2.1 (M.1.2.2.2.2 _ G1641) dX12_go_288 ?_
                                    refine lv_aload_n hx hb dX12_go_291 rfl (lv_at hl 4 rfl) ?_
                                    refine r_get (v := .long fy23) M w 0 12 clX12 rfl (by decide) G1475 rfl rfl dX12_go_292 ?_
                                    refine r_lmul (v := _) M rfl dX12_go_295 ?_
                                    refine b_anyl (fun fy159 => ?_)
                                    refine lv_iload hx hb dX12_go_296 (lv_at hl 1 rfl) ?_
                                    refine lv_i2l (v := _) hx hb dX12_go_298 rfl ?_
                                    refine b_anyl (fun fy160 => ?_)
                                    refine r_ladd (v := _) M rfl dX12_go_299 ?_
                                    refine b_anyl (fun fy161 => ?_)
                                    refine lv_ldc2 (v := 96) hx hb M.1.2.2.2.1 (M.1.2.2.2.2 _ G1642) dX12_go_300 ?_
                                    refine r_lsub (v := _) M rfl dX12_go_303 ?_
                                    refine b_anyl (fun fy162 => ?_)
                                    refine r_put (ws' := [(a0, .inr (11, [.int r0, .ref a1, .int (iI x0), .int (iI x1), .int r1, .int (iI z24), .int (iI z1), .int (iI x3), .int (iI z25), .int r3, .int r4, .int r5, .long fy162, .int (iI x5), .ref a2, .ref a3, .ref a4, .ref a5, .ref a6, .ref a7, .ref a8, .ref a9, .ref a10, .ref a11, .int (iI x6), .ref a12, .ref a13, .ref a14, .ref a15, .int (iI x7), .int r6, .int r7, .ref a16, .int r8, .int r9, .ref a17, .ref a18, .int (iI x8), .ref a19, .int (iI x9), .int r10, .ref a20, .ref a21, .int (iI x10), .int r11, .ref a22, .int (iI x11), .int (iI x12), .int (iI x13), .int (iI x14)])), (a1, .inl (T 0, 940, .inl f0))]) M w 0 12 clX12 rfl (by decide) G1475 rfl rfl rfl rfl (Nat.le_of_ble_eq_true rfl) rfl dX12_go_304 (fun H locs w => ?_)
                                    refine lv_aload_n hx hb dX12_go_307 rfl (lv_at hl 4 rfl) ?_
                                    refine r_get (v := .int (iI z24)) M w 0 5 clX12 rfl (by decide) G1468 rfl rfl dX12_go_308 ?_
                                    refine lv_aload_n hx hb dX12_go_311 rfl (lv_at hl 4 rfl) ?_
                                    refine r_get (v := .int (iI z1)) M w 0 6 clX12 rfl (by decide) G1469 rfl rfl dX12_go_312 ?_
                                    refine b_any (fun z163 z163_a z163_b => ?_)
                                    refine r_isub (v := _) M rfl dX12_go_315 ?_
                                    refine b_any (fun z164 z164_a z164_b => ?_)
                                    refine lv_iconst (v := iI 3) hx hb dX12_go_316 (by decide +kernel) ?_
                                    refine lv_icmp_ge (tgt := 337) hx hb dX12_go_317 (by decide) (fun c_165 => ?_) (fun c_165 => ?_)
                                    · replace c_165 := (iI_le (by decide) (by decide) (Int.le_trans (by decide) z164_a) (Int.le_trans z164_b (by decide))).mp c_165
                                      refine lv_aload_n hx hb dX12_go_337 rfl (lv_at hl 4 rfl) ?_
                                      refine lv_dup hx hb dX12_go_338 rfl ?_
                                      refine r_get (v := .int (iI z24)) M w 0 5 clX12 rfl (by decide) G1468 rfl rfl dX12_go_339 ?_
                                      refine lv_iconst (v := iI 1) hx hb dX12_go_342 (by decide +kernel) ?_
                                      refine r_iadd (v := iI (z24 + 1)) M (iI_add _ _) dX12_go_343 ?_
                                      refine r_put (ws' := [(a0, .inr (11, [.int r0, .ref a1, .int (iI x0), .int (iI x1), .int r1, .int (iI (z24 + 1)), .int (iI z1), .int (iI x3), .int (iI z25), .int r3, .int r4, .int r5, .long fy162, .int (iI x5), .ref a2, .ref a3, .ref a4, .ref a5, .ref a6, .ref a7, .ref a8, .ref a9, .ref a10, .ref a11, .int (iI x6), .ref a12, .ref a13, .ref a14, .ref a15, .int (iI x7), .int r6, .int r7, .ref a16, .int r8, .int r9, .ref a17, .ref a18, .int (iI x8), .ref a19, .int (iI x9), .int r10, .ref a20, .ref a21, .int (iI x10), .int r11, .ref a22, .int (iI x11), .int (iI x12), .int (iI x13), .int (iI x14)])), (a1, .inl (T 0, 940, .inl f0))]) M w 0 5 clX12 rfl (by decide) G1468 rfl rfl rfl rfl (Nat.le_of_ble_eq_true rfl) rfl dX12_go_344 (fun H locs w => ?_)
                                      refine lv_goto (tgt := 215) hx hb dX12_go_347 (by decide) ?_
                                      exact ih2 fy162 (z24 + 1) z25 0 _ _ _ (by omega) (by omega) z25_a z25_b (by decide) (by decide) (by omega) (by omega) w (lv_sub hl [0, 2, 3, 4] rfl)
                                    · replace c_165 : z164 < 3 := Int.not_le.mp (fun h => c_165 ((iI_le (by decide) (by decide) (Int.le_trans (by decide) z164_a) (Int.le_trans z164_b (by decide))).mpr h))
                                      refine lv_aload_n hx hb dX12_go_320 rfl (lv_at hl 4 rfl) ?_
                                      refine lv_bipush (v := iI 10) hx hb dX12_go_321 (by decide +kernel) ?_
                                      refine lv_aload_n hx hb dX12_go_323 rfl (lv_at hl 4 rfl) ?_
                                      refine r_get (v := .int (iI z25)) M w 0 8 clX12 rfl (by decide) G1471 rfl rfl dX12_go_324 ?_
                                      refine r_imul (v := _) M rfl dX12_go_327 ?_
                                      refine b_any (fun z166 z166_a z166_b => ?_)
                                      refine lv_iload hx hb dX12_go_328 (lv_at hl 1 rfl) ?_
                                      refine r_iadd (v := _) M rfl dX12_go_330 ?_
                                      refine b_any (fun z167 z167_a z167_b => ?_)
                                      refine lv_bipush (v := iI 48) hx hb dX12_go_331 (by decide +kernel) ?_
                                      refine r_isub (v := _) M rfl dX12_go_333 ?_
                                      refine b_any (fun z168 z168_a z168_b => ?_)
                                      refine r_put (ws' := [(a0, .inr (11, [.int r0, .ref a1, .int (iI x0), .int (iI x1), .int r1, .int (iI z24), .int (iI z1), .int (iI x3), .int (iI z168), .int r3, .int r4, .int r5, .long fy162, .int (iI x5), .ref a2, .ref a3, .ref a4, .ref a5, .ref a6, .ref a7, .ref a8, .ref a9, .ref a10, .ref a11, .int (iI x6), .ref a12, .ref a13, .ref a14, .ref a15, .int (iI x7), .int r6, .int r7, .ref a16, .int r8, .int r9, .ref a17, .ref a18, .int (iI x8), .ref a19, .int (iI x9), .int r10, .ref a20, .ref a21, .int (iI x10), .int r11, .ref a22, .int (iI x11), .int (iI x12), .int (iI x13), .int (iI x14)])), (a1, .inl (T 0, 940, .inl f0))]) M w 0 8 clX12 rfl (by decide) G1471 rfl rfl rfl rfl (Nat.le_of_ble_eq_true rfl) rfl dX12_go_334 (fun H locs w => ?_)
                                      refine lv_aload_n hx hb dX12_go_337 rfl (lv_at hl 4 rfl) ?_
                                      refine lv_dup hx hb dX12_go_338 rfl ?_
                                      refine r_get (v := .int (iI z24)) M w 0 5 clX12 rfl (by decide) G1468 rfl rfl dX12_go_339 ?_
                                      refine lv_iconst (v := iI 1) hx hb dX12_go_342 (by decide +kernel) ?_
                                      refine r_iadd (v := iI (z24 + 1)) M (iI_add _ _) dX12_go_343 ?_
                                      refine r_put (ws' := [(a0, .inr (11, [.int r0, .ref a1, .int (iI x0), .int (iI x1), .int r1, .int (iI (z24 + 1)), .int (iI z1), .int (iI x3), .int (iI z168), .int r3, .int r4, .int r5, .long fy162, .int (iI x5), .ref a2, .ref a3, .ref a4, .ref a5, .ref a6, .ref a7, .ref a8, .ref a9, .ref a10, .ref a11, .int (iI x6), .ref a12, .ref a13, .ref a14, .ref a15, .int (iI x7), .int r6, .int r7, .ref a16, .int r8, .int r9, .ref a17, .ref a18, .int (iI x8), .ref a19, .int (iI x9), .int r10, .ref a20, .ref a21, .int (iI x10), .int r11, .ref a22, .int (iI x11), .int (iI x12), .int (iI x13), .int (iI x14)])), (a1, .inl (T 0, 940, .inl f0))]) M w 0 5 clX12 rfl (by decide) G1468 rfl rfl rfl rfl (Nat.le_of_ble_eq_true rfl) rfl dX12_go_344 (fun H locs w => ?_)
                                      refine lv_goto (tgt := 215) hx hb dX12_go_347 (by decide) ?_
                                      exact ih2 fy162 (z24 + 1) z168 0 _ _ _ (by omega) (by omega) z168_a z168_b (by decide) (by decide) (by omega) (by omega) w (lv_sub hl [0, 2, 3, 4] rfl)
                                · replace c_149 := (iI_eq (Int.le_trans (by decide) z147_a) (Int.le_trans z147_b (by decide)) (Int.le_trans (by decide) z21_a) (Int.le_trans z21_b (by decide))).mp c_149
                                  refine lv_iconst (v := iI 1) hx hb dX12_go_267 (by decide +kernel) ?_
                                  refine lv_goto (tgt := 272) hx hb dX12_go_268 (by decide) ?_
                                  refine lv_istore_n (lv' := [(3, .int (iI 1)), (4, .int (iI z126)), (2, .int (iI z21)), (1, .int (iI z17)), (0, .ref a0)]) hx hb dX12_go_272 rfl hl (by decide) rfl (fun ls hl => ?_)
                                  refine lv_aload_n hx hb dX12_go_273 rfl (lv_at hl 4 rfl) ?_
                                  refine r_get (v := .int (iI z24)) M w 0 5 clX12 rfl (by decide) G1468 rfl rfl dX12_go_274 ?_
                                  refine lv_aload_n hx hb dX12_go_277 rfl (lv_at hl 4 rfl) ?_
                                  refine r_get (v := .int (iI z1)) M w 0 6 clX12 rfl (by decide) G1469 rfl rfl dX12_go_278 ?_
                                  refine b_any (fun z169 z169_a z169_b => ?_)
                                  refine r_isub (v := _) M rfl dX12_go_281 ?_
                                  refine b_any (fun z170 z170_a z170_b => ?_)
                                  refine lv_bipush (v := iI 7) hx hb dX12_go_282 (by decide +kernel) ?_
                                  refine lv_icmp_ge (tgt := 307) hx hb dX12_go_284 (by decide) (fun c_171 => ?_) (fun c_171 => ?_)
                                  · replace c_171 := (iI_le (by decide) (by decide) (Int.le_trans (by decide) z170_a) (Int.le_trans z170_b (by decide))).mp c_171
                                    refine lv_aload_n hx hb dX12_go_307 rfl (lv_at hl 4 rfl) ?_
                                    refine r_get (v := .int (iI z24)) M w 0 5 clX12 rfl (by decide) G1468 rfl rfl dX12_go_308 ?_
                                    refine lv_aload_n hx hb dX12_go_311 rfl (lv_at hl 4 rfl) ?_
                                    refine r_get (v := .int (iI z1)) M w 0 6 clX12 rfl (by decide) G1469 rfl rfl dX12_go_312 ?_
                                    refine b_any (fun z172 z172_a z172_b => ?_)
                                    refine r_isub (v := _) M rfl dX12_go_315 ?_
                                    refine b_any (fun z173 z173_a z173_b => ?_)
                                    refine lv_iconst (v := iI 3) hx hb dX12_go_316 (by decide +kernel) ?_
                                    refine lv_icmp_ge (tgt := 337) hx hb dX12_go_317 (by decide) (fun c_174 => ?_) (fun c_174 => ?_)
                                    · replace c_174 := (iI_le (by decide) (by decide) (Int.le_trans (by decide) z173_a) (Int.le_trans z173_b (by decide))).mp c_174
                                      refine lv_aload_n hx hb dX12_go_337 rfl (lv_at hl 4 rfl) ?_
                                      refine lv_dup hx hb dX12_go_338 rfl ?_
                                      refine r_get (v := .int (iI z24)) M w 0 5 clX12 rfl (by decide) G1468 rfl rfl dX12_go_339 ?_
                                      refine lv_iconst (v := iI 1) hx hb dX12_go_342 (by decide +kernel) ?_
                                      refine r_iadd (v := iI (z24 + 1)) M (iI_add _ _) dX12_go_343 ?_
                                      refine r_put (ws' := [(a0, .inr (11, [.int r0, .ref a1, .int (iI x0), .int (iI x1), .int r1, .int (iI (z24 + 1)), .int (iI z1), .int (iI x3), .int (iI z25), .int r3, .int r4, .int r5, .long fy23, .int (iI x5), .ref a2, .ref a3, .ref a4, .ref a5, .ref a6, .ref a7, .ref a8, .ref a9, .ref a10, .ref a11, .int (iI x6), .ref a12, .ref a13, .ref a14, .ref a15, .int (iI x7), .int r6, .int r7, .ref a16, .int r8, .int r9, .ref a17, .ref a18, .int (iI x8), .ref a19, .int (iI x9), .int r10, .ref a20, .ref a21, .int (iI x10), .int r11, .ref a22, .int (iI x11), .int (iI x12), .int (iI x13), .int (iI x14)])), (a1, .inl (T 0, 940, .inl f0))]) M w 0 5 clX12 rfl (by decide) G1468 rfl rfl rfl rfl (Nat.le_of_ble_eq_true rfl) rfl dX12_go_344 (fun H locs w => ?_)
                                      refine lv_goto (tgt := 215) hx hb dX12_go_347 (by decide) ?_
                                      exact ih2 fy23 (z24 + 1) z25 1 _ _ _ (by omega) (by omega) z25_a z25_b (by decide) (by decide) (by omega) (by omega) w (lv_sub hl [0, 2, 3, 4] rfl)
                                    · replace c_174 : z173 < 3 := Int.not_le.mp (fun h => c_174 ((iI_le (by decide) (by decide) (Int.le_trans (by decide) z173_a) (Int.le_trans z173_b (by decide))).mpr h))
                                      refine lv_aload_n hx hb dX12_go_320 rfl (lv_at hl 4 rfl) ?_
                                      refine lv_bipush (v := iI 10) hx hb dX12_go_321 (by decide +kernel) ?_
                                      refine lv_aload_n hx hb dX12_go_323 rfl (lv_at hl 4 rfl) ?_
                                      refine r_get (v := .int (iI z25)) M w 0 8 clX12 rfl (by decide) G1471 rfl rfl dX12_go_324 ?_
                                      refine r_imul (v := _) M rfl dX12_go_327 ?_
                                      refine b_any (fun z175 z175_a z175_b => ?_)
                                      refine lv_iload hx hb dX12_go_328 (lv_at hl 1 rfl) ?_
                                      refine r_iadd (v := _) M rfl dX12_go_330 ?_
                                      refine b_any (fun z176 z176_a z176_b => ?_)
                                      refine lv_bipush (v := iI 48) hx hb dX12_go_331 (by decide +kernel) ?_
                                      refine r_isub (v := _) M rfl dX12_go_333 ?_
                                      refine b_any (fun z177 z177_a z177_b => ?_)
                                      refine r_put (ws' := [(a0, .inr (11, [.int r0, .ref a1, .int (iI x0), .int (iI x1), .int r1, .int (iI z24), .int (iI z1), .int (iI x3), .int (iI z177), .int r3, .int r4, .int r5, .long fy23, .int (iI x5), .ref a2, .ref a3, .ref a4, .ref a5, .ref a6, .ref a7, .ref a8, .ref a9, .ref a10, .ref a11, .int (iI x6), .ref a12, .ref a13, .ref a14, .ref a15, .int (iI x7), .int r6, .int r7, .ref a16, .int r8, .int r9, .ref a17, .ref a18, .int (iI x8), .ref a19, .int (iI x9), .int r10, .ref a20, .ref a21, .int (iI x10), .int r11, .ref a22, .int (iI x11), .int (iI x12), .int (iI x13), .int (iI x14)])), (a1, .inl (T 0, 940, .inl f0))]) M w 0 8 clX12 rfl (by decide) G1471 rfl rfl rfl rfl (Nat.le_of_ble_eq_true rfl) rfl dX12_go_334 (fun H locs w => ?_)
                                      refine lv_aload_n hx hb dX12_go_337 rfl (lv_at hl 4 rfl) ?_
                                      refine lv_dup hx hb dX12_go_338 rfl ?_
                                      refine r_get (v := .int (iI z24)) M w 0 5 clX12 rfl (by decide) G1468 rfl rfl dX12_go_339 ?_
                                      refine lv_iconst (v := iI 1) hx hb dX12_go_342 (by decide +kernel) ?_
                                      refine r_iadd (v := iI (z24 + 1)) M (iI_add _ _) dX12_go_343 ?_
                                      refine r_put (ws' := [(a0, .inr (11, [.int r0, .ref a1, .int (iI x0), .int (iI x1), .int r1, .int (iI (z24 + 1)), .int (iI z1), .int (iI x3), .int (iI z177), .int r3, .int r4, .int r5, .long fy23, .int (iI x5), .ref a2, .ref a3, .ref a4, .ref a5, .ref a6, .ref a7, .ref a8, .ref a9, .ref a10, .ref a11, .int (iI x6), .ref a12, .ref a13, .ref a14, .ref a15, .int (iI x7), .int r6, .int r7, .ref a16, .int r8, .int r9, .ref a17, .ref a18, .int (iI x8), .ref a19, .int (iI x9), .int r10, .ref a20, .ref a21, .int (iI x10), .int r11, .ref a22, .int (iI x11), .int (iI x12), .int (iI x13), .int (iI x14)])), (a1, .inl (T 0, 940, .inl f0))]) M w 0 5 clX12 rfl (by decide) G1468 rfl rfl rfl rfl (Nat.le_of_ble_eq_true rfl) rfl dX12_go_344 (fun H locs w => ?_)
                                      refine lv_goto (tgt := 215) hx hb dX12_go_347 (by decide) ?_
                                      exact ih2 fy23 (z24 + 1) z177 1 _ _ _ (by omega) (by omega) z177_a z177_b (by decide) (by decide) (by omega) (by omega) w (lv_sub hl [0, 2, 3, 4] rfl)
                                  · replace c_171 : z170 < 7 := Int.not_le.mp (fun h => c_171 ((iI_le (by decide) (by decide) (Int.le_trans (by decide) z170_a) (Int.le_trans z170_b (by decide))).mpr h))
                                    refine lv_aload_n hx hb dX12_go_287 rfl (lv_at hl 4 rfl) ?_
                                    refine lv_ldc2 (v := 27) hx hb M.1.2.2.2.1 (M.1.2.2.2.2 _ G1641) dX12_go_288 ?_
                                    refine lv_aload_n hx hb dX12_go_291 rfl (lv_at hl 4 rfl) ?_
                                    refine r_get (v := .long fy23) M w 0 12 clX12 rfl (by decide) G1475 rfl rfl dX12_go_292 ?_
                                    refine r_lmul (v := _) M rfl dX12_go_295 ?_
                                    refine b_anyl (fun fy178 => ?_)
                                    refine lv_iload hx hb dX12_go_296 (lv_at hl 1 rfl) ?_
                                    refine lv_i2l (v := _) hx hb dX12_go_298 rfl ?_
                                    refine b_anyl (fun fy179 => ?_)
                                    refine r_ladd (v := _) M rfl dX12_go_299 ?_
                                    refine b_anyl (fun fy180 => ?_)
                                    refine lv_ldc2 (v := 96) hx hb M.1.2.2.2.1 (M.1.2.2.2.2 _ G1642) dX12_go_300 ?_
                                    refine r_lsub (v := _) M rfl dX12_go_303 ?_
                                    refine b_anyl (fun fy181 => ?_)
                                    refine r_put (ws' := [(a0, .inr (11, [.int r0, .ref a1, .int (iI x0), .int (iI x1), .int r1, .int (iI z24), .int (iI z1), .int (iI x3), .int (iI z25), .int r3, .int r4, .int r5, .long fy181, .int (iI x5), .ref a2, .ref a3, .ref a4, .ref a5, .ref a6, .ref a7, .ref a8, .ref a9, .ref a10, .ref a11, .int (iI x6), .ref a12, .ref a13, .ref a14, .ref a15, .int (iI x7), .int r6, .int r7, .ref a16, .int r8, .int r9, .ref a17, .ref a18, .int (iI x8), .ref a19, .int (iI x9), .int r10, .ref a20, .ref a21, .int (iI x10), .int r11, .ref a22, .int (iI x11), .int (iI x12), .int (iI x13), .int (iI x14)])), (a1, .inl (T 0, 940, .inl f0))]) M w 0 12 clX12 rfl (by decide) G1475 rfl rfl rfl rfl (Nat.le_of_ble_eq_true rfl) rfl dX12_go_304 (fun H locs w => ?_)
                                    refine lv_aload_n hx hb dX12_go_307 rfl (lv_at hl 4 rfl) ?_
                                    refine r_get (v := .int (iI z24)) M w 0 5 clX12 rfl (by decide) G1468 rfl rfl dX12_go_308 ?_
                                    refine lv_aload_n hx hb dX12_go_311 rfl (lv_at hl 4 rfl) ?_
                                    refine r_get (v := .int (iI z1)) M w 0 6 clX12 rfl (by decide) G1469 rfl rfl dX12_go_312 ?_
                                    refine b_any (fun z182 z182_a z182_b => ?_)
                                    refine r_isub (v := _) M rfl dX12_go_315 ?_
                                    refine b_any (fun z183 z183_a z183_b => ?_)
                                    refine lv_iconst (v := iI 3) hx hb dX12_go_316 (by decide +kernel) ?_
                                    refine lv_icmp_ge (tgt := 337) hx hb dX12_go_317 (by decide) (fun c_184 => ?_) (fun c_184 => ?_)
                                    · replace c_184 := (iI_le (by decide) (by decide) (Int.le_trans (by decide) z183_a) (Int.le_trans z183_b (by decide))).mp c_184
                                      refine lv_aload_n hx hb dX12_go_337 rfl (lv_at hl 4 rfl) ?_
                                      refine lv_dup hx hb dX12_go_338 rfl ?_
                                      refine r_get (v := .int (iI z24)) M w 0 5 clX12 rfl (by decide) G1468 rfl rfl dX12_go_339 ?_
                                      refine lv_iconst (v := iI 1) hx hb dX12_go_342 (by decide +kernel) ?_
                                      refine r_iadd (v := iI (z24 + 1)) M (iI_add _ _) dX12_go_343 ?_
                                      refine r_put (ws' := [(a0, .inr (11, [.int r0, .ref a1, .int (iI x0), .int (iI x1), .int r1, .int (iI (z24 + 1)), .int (iI z1), .int (iI x3), .int (iI z25), .int r3, .int r4, .int r5, .long fy181, .int (iI x5), .ref a2, .ref a3, .ref a4, .ref a5, .ref a6, .ref a7, .ref a8, .ref a9, .ref a10, .ref a11, .int (iI x6), .ref a12, .ref a13, .ref a14, .ref a15, .int (iI x7), .int r6, .int r7, .ref a16, .int r8, .int r9, .ref a17, .ref a18, .int (iI x8), .ref a19, .int (iI x9), .int r10, .ref a20, .ref a21, .int (iI x10), .int r11, .ref a22, .int (iI x11), .int (iI x12), .int (iI x13), .int (iI x14)])), (a1, .inl (T 0, 940, .inl f0))]) M w 0 5 clX12 rfl (by decide) G1468 rfl rfl rfl rfl (Nat.le_of_ble_eq_true rfl) rfl dX12_go_344 (fun H locs w => ?_)
                                      refine lv_goto (tgt := 215) hx hb dX12_go_347 (by decide) ?_
                                      exact ih2 fy181 (z24 + 1) z25 1 _ _ _ (by omega) (by omega) z25_a z25_b (by decide) (by decide) (by omega) (by omega) w (lv_sub hl [0, 2, 3, 4] rfl)
                                    · replace c_184 : z183 < 3 := Int.not_le.mp (fun h => c_184 ((iI_le (by decide) (by decide) (Int.le_trans (by decide) z183_a) (Int.le_trans z183_b (by decide))).mpr h))
                                      refine lv_aload_n hx hb dX12_go_320 rfl (lv_at hl 4 rfl) ?_
                                      refine lv_bipush (v := iI 10) hx hb dX12_go_321 (by decide +kernel) ?_
                                      refine lv_aload_n hx hb dX12_go_323 rfl (lv_at hl 4 rfl) ?_
                                      refine r_get (v := .int (iI z25)) M w 0 8 clX12 rfl (by decide) G1471 rfl rfl dX12_go_324 ?_
                                      refine r_imul (v := _) M rfl dX12_go_327 ?_
                                      refine b_any (fun z185 z185_a z185_b => ?_)
                                      refine lv_iload hx hb dX12_go_328 (lv_at hl 1 rfl) ?_
                                      refine r_iadd (v := _) M rfl dX12_go_330 ?_
                                      refine b_any (fun z186 z186_a z186_b => ?_)
                                      refine lv_bipush (v := iI 48) hx hb dX12_go_331 (by decide +kernel) ?_
                                      refine r_isub (v := _) M rfl dX12_go_333 ?_
                                      refine b_any (fun z187 z187_a z187_b => ?_)
                                      refine r_put (ws' := [(a0, .inr (11, [.int r0, .ref a1, .int (iI x0), .int (iI x1), .int r1, .int (iI z24), .int (iI z1), .int (iI x3), .int (iI z187), .int r3, .int r4, .int r5, .long fy181, .int (iI x5), .ref a2, .ref a3, .ref a4, .ref a5, .ref a6, .ref a7, .ref a8, .ref a9, .ref a10, .ref a11, .int (iI x6), .ref a12, .ref a13, .ref a14, .ref a15, .int (iI x7), .int r6, .int r7, .ref a16, .int r8, .int r9, .ref a17, .ref a18, .int (iI x8), .ref a19, .int (iI x9), .int r10, .ref a20, .ref a21, .int (iI x10), .int r11, .ref a22, .int (iI x11), .int (iI x12), .int (iI x13), .int (iI x14)])), (a1, .inl (T 0, 940, .inl f0))]) M w 0 8 clX12 rfl (by decide) G1471 rfl rfl rfl rfl (Nat.le_of_ble_eq_true rfl) rfl dX12_go_334 (fun H locs w => ?_)
                                      refine lv_aload_n hx hb dX12_go_337 rfl (lv_at hl 4 rfl) ?_
                                      refine lv_dup hx hb dX12_go_338 rfl ?_
                                      refine r_get (v := .int (iI z24)) M w 0 5 clX12 rfl (by decide) G1468 rfl rfl dX12_go_339 ?_
                                      refine lv_iconst (v := iI 1) hx hb dX12_go_342 (by decide +kernel) ?_
                                      refine r_iadd (v := iI (z24 + 1)) M (iI_add _ _) dX12_go_343 ?_
                                      refine r_put (ws' := [(a0, .inr (11, [.int r0, .ref a1, .int (iI x0), .int (iI x1), .int r1, .int (iI (z24 + 1)), .int (iI z1), .int (iI x3), .int (iI z187), .int r3, .int r4, .int r5, .long fy181, .int (iI x5), .ref a2, .ref a3, .ref a4, .ref a5, .ref a6, .ref a7, .ref a8, .ref a9, .ref a10, .ref a11, .int (iI x6), .ref a12, .ref a13, .ref a14, .ref a15, .int (iI x7), .int r6, .int r7, .ref a16, .int r8, .int r9, .ref a17, .ref a18, .int (iI x8), .ref a19, .int (iI x9), .int r10, .ref a20, .ref a21, .int (iI x10), .int r11, .ref a22, .int (iI x11), .int (iI x12), .int (iI x13), .int (iI x14)])), (a1, .inl (T 0, 940, .inl f0))]) M w 0 5 clX12 rfl (by decide) G1468 rfl rfl rfl rfl (Nat.le_of_ble_eq_true rfl) rfl dX12_go_344 (fun H locs w => ?_)
                                      refine lv_goto (tgt := 215) hx hb dX12_go_347 (by decide) ?_
                                      exact ih2 fy181 (z24 + 1) z187 1 _ _ _ (by omega) (by omega) z187_a z187_b (by decide) (by decide) (by omega) (by omega) w (lv_sub hl [0, 2, 3, 4] rfl)
                  exact loop2 (((x1 - z1) : Int).toNat + 1) 0 z1 0 1 _ _ _ z1_a z1_b (by decide) (by decide) (by decide) (by decide) (by omega) (Nat.lt_succ_self _) w (lv_sub hl [0, 1, 2, 3] rfl)
                · replace c_20 := (iz_eq (Int.le_trans (by decide) z18_a) (Int.le_trans z18_b (by decide))).mp c_20
                  refine lv_iload_n hx hb dX12_go_130 rfl (lv_at hl 0 rfl) ?_
                  refine k_I (ce := 0) (sl := 0) (rest := []) (wr := [(a0, .inr (11, [.int r0, .ref a1, .int (iI x0), .int (iI x1), .int r1, .int (iI z1), .int (iI z1), .int (iI x3), .int (iI x4), .int r3, .int r4, .int r5, .long y0, .int (iI x5), .ref a2, .ref a3, .ref a4, .ref a5, .ref a6, .ref a7, .ref a8, .ref a9, .ref a10, .ref a11, .int (iI x6), .ref a12, .ref a13, .ref a14, .ref a15, .int (iI x7), .int r6, .int r7, .ref a16, .int r8, .int r9, .ref a17, .ref a18, .int (iI x8), .ref a19, .int (iI x9), .int r10, .ref a20, .ref a21, .int (iI x10), .int r11, .ref a22, .int (iI x11), .int (iI x12), .int (iI x13), .int (iI x14)])), (a1, .inl (T 0, 940, .inl f0))]) (r_S (f := 0) [] M w V_HookedCityModel_37 G1635 (c10_X12_isDigit l D T _ z17 z17_a z17_b) rfl (by decide) rfl hl.1 rfl (Nat.le_of_ble_eq_true rfl) dX12_go_131 (by decide) (by decide) (by decide) (by decide)) w [] [0, 1] rfl rfl (by decide) (by decide) rfl rfl (fun v z188 H locs hp w => ?_)
                  have hv : iI z188 = v := hp.1
                  subst hv
                  have z188_a : 0 ≤ z188 := hp.2.1
                  have z188_b : z188 ≤ 1 := hp.2.2.1
                  have ee189 : 0 ≤ ((z17 + 4294967296) - (z188 * 4294967344)) := hp.2.2.2
                  have w : WD D A s.heap [(a0, .inr (11, [.int r0, .ref a1, .int (iI x0), .int (iI x1), .int r1, .int (iI z1), .int (iI z1), .int (iI x3), .int (iI x4), .int r3, .int r4, .int r5, .long y0, .int (iI x5), .ref a2, .ref a3, .ref a4, .ref a5, .ref a6, .ref a7, .ref a8, .ref a9, .ref a10, .ref a11, .int (iI x6), .ref a12, .ref a13, .ref a14, .ref a15, .int (iI x7), .int r6, .int r7, .ref a16, .int r8, .int r9, .ref a17, .ref a18, .int (iI x8), .ref a19, .int (iI x9), .int r10, .ref a20, .ref a21, .int (iI x10), .int r11, .ref a22, .int (iI x11), .int (iI x12), .int (iI x13), .int (iI x14)])), (a1, .inl (T 0, 940, .inl f0))] H locs := w
                  refine lv_if_ne (tgt := 198) hx hb dX12_go_134 (by decide) (fun c_190 => ?_) (fun c_190 => ?_)
                  · replace c_190 : ¬ z188 = 0 := fun h => c_190 ((iz_eq (Int.le_trans (by decide) z188_a) (Int.le_trans z188_b (by decide))).mpr h)
                    refine lv_iload_n hx hb dX12_go_198 rfl (lv_at hl 0 rfl) ?_
                    refine k_I (ce := 0) (sl := 0) (rest := []) (wr := [(a0, .inr (11, [.int r0, .ref a1, .int (iI x0), .int (iI x1), .int r1, .int (iI z1), .int (iI z1), .int (iI x3), .int (iI x4), .int r3, .int r4, .int r5, .long y0, .int (iI x5), .ref a2, .ref a3, .ref a4, .ref a5, .ref a6, .ref a7, .ref a8, .ref a9, .ref a10, .ref a11, .int (iI x6), .ref a12, .ref a13, .ref a14, .ref a15, .int (iI x7), .int r6, .int r7, .ref a16, .int r8, .int r9, .ref a17, .ref a18, .int (iI x8), .ref a19, .int (iI x9), .int r10, .ref a20, .ref a21, .int (iI x10), .int r11, .ref a22, .int (iI x11), .int (iI x12), .int (iI x13), .int (iI x14)])), (a1, .inl (T 0, 940, .inl f0))]) (r_S (f := 0) [] M w V_HookedCityModel_33 G1632 (c11_X12_isLetter l D T _ z17 z17_a z17_b) rfl (by decide) rfl hl.1 rfl (Nat.le_of_ble_eq_true rfl) dX12_go_199 (by decide) (by decide) (by decide) (by decide)) w [] [0, 1] rfl rfl (by decide) (by decide) rfl rfl (fun v z191 H locs hp w => ?_)
                    have hv : iI z191 = v := hp.1
                    subst hv
                    have z191_a : 0 ≤ z191 := hp.2.1
                    have z191_b : z191 ≤ 1 := hp.2.2.1
                    have ee192 : 0 ≤ ((z17 + 4294967296) - (z191 * 4294967393)) := hp.2.2.2
                    have w : WD D A s.heap [(a0, .inr (11, [.int r0, .ref a1, .int (iI x0), .int (iI x1), .int r1, .int (iI z1), .int (iI z1), .int (iI x3), .int (iI x4), .int r3, .int r4, .int r5, .long y0, .int (iI x5), .ref a2, .ref a3, .ref a4, .ref a5, .ref a6, .ref a7, .ref a8, .ref a9, .ref a10, .ref a11, .int (iI x6), .ref a12, .ref a13, .ref a14, .ref a15, .int (iI x7), .int r6, .int r7, .ref a16, .int r8, .int r9, .ref a17, .ref a18, .int (iI x8), .ref a19, .int (iI x9), .int r10, .ref a20, .ref a21, .int (iI x10), .int r11, .ref a22, .int (iI x11), .int (iI x12), .int (iI x13), .int (iI x14)])), (a1, .inl (T 0, 940, .inl f0))] H locs := w
                    refine lv_istore_n (lv' := [(2, .int (iI z191)), (1, .int (iI z17)), (0, .ref a0)]) hx hb dX12_go_202 rfl hl (by decide) rfl (fun ls hl => ?_)
                    refine lv_iconst (v := iI 1) hx hb dX12_go_203 (by decide +kernel) ?_
                    refine lv_istore_n (lv' := [(3, .int (iI 1)), (2, .int (iI z191)), (1, .int (iI z17)), (0, .ref a0)]) hx hb dX12_go_204 rfl hl (by decide) rfl (fun ls hl => ?_)
                    refine lv_aload_n hx hb dX12_go_205 rfl (lv_at hl 3 rfl) ?_
                    refine lv_lconst (v := 0) hx hb dX12_go_206 (by decide) ?_
                    refine r_put (ws' := [(a0, .inr (11, [.int r0, .ref a1, .int (iI x0), .int (iI x1), .int r1, .int (iI z1), .int (iI z1), .int (iI x3), .int (iI x4), .int r3, .int r4, .int r5, .long 0, .int (iI x5), .ref a2, .ref a3, .ref a4, .ref a5, .ref a6, .ref a7, .ref a8, .ref a9, .ref a10, .ref a11, .int (iI x6), .ref a12, .ref a13, .ref a14, .ref a15, .int (iI x7), .int r6, .int r7, .ref a16, .int r8, .int r9, .ref a17, .ref a18, .int (iI x8), .ref a19, .int (iI x9), .int r10, .ref a20, .ref a21, .int (iI x10), .int r11, .ref a22, .int (iI x11), .int (iI x12), .int (iI x13), .int (iI x14)])), (a1, .inl (T 0, 940, .inl f0))]) M w 0 12 clX12 rfl (by decide) G1475 rfl rfl rfl rfl (Nat.le_of_ble_eq_true rfl) rfl dX12_go_207 (fun H locs w => ?_)
                    refine lv_aload_n hx hb dX12_go_210 rfl (lv_at hl 3 rfl) ?_
                    refine lv_iconst (v := iI 0) hx hb dX12_go_211 (by decide +kernel) ?_
                    refine r_put (ws' := [(a0, .inr (11, [.int r0, .ref a1, .int (iI x0), .int (iI x1), .int r1, .int (iI z1), .int (iI z1), .int (iI x3), .int (iI 0), .int r3, .int r4, .int r5, .long 0, .int (iI x5), .ref a2, .ref a3, .ref a4, .ref a5, .ref a6, .ref a7, .ref a8, .ref a9, .ref a10, .ref a11, .int (iI x6), .ref a12, .ref a13, .ref a14, .ref a15, .int (iI x7), .int r6, .int r7, .ref a16, .int r8, .int r9, .ref a17, .ref a18, .int (iI x8), .ref a19, .int (iI x9), .int r10, .ref a20, .ref a21, .int (iI x10), .int r11, .ref a22, .int (iI x11), .int (iI x12), .int (iI x13), .int (iI x14)])), (a1, .inl (T 0, 940, .inl f0))]) M w 0 8 clX12 rfl (by decide) G1471 rfl rfl rfl rfl (Nat.le_of_ble_eq_true rfl) rfl dX12_go_212 (fun H locs w => ?_)
                    have loop2 : ∀ (k2 : Nat) (fy193 : Int64) (z194 : Int) (z195 : Int) (z196 : Int) (H : Heap) (locs : List Loc) (ls : Array Slot), 0 ≤ z194 → z194 ≤ 940 → (-2147483648) ≤ z195 → z195 ≤ 2147483647 → (-2147483648) ≤ z196 → z196 ≤ 2147483647 → 0 ≤ (z194 - x2) → ((x1 - z194) : Int).toNat < k2 → WD D A s.heap [(a0, .inr (11, [.int r0, .ref a1, .int (iI x0), .int (iI x1), .int r1, .int (iI z194), .int (iI z1), .int (iI x3), .int (iI z195), .int r3, .int r4, .int r5, .long fy193, .int (iI x5), .ref a2, .ref a3, .ref a4, .ref a5, .ref a6, .ref a7, .ref a8, .ref a9, .ref a10, .ref a11, .int (iI x6), .ref a12, .ref a13, .ref a14, .ref a15, .int (iI x7), .int r6, .int r7, .ref a16, .int r8, .int r9, .ref a17, .ref a18, .int (iI x8), .ref a19, .int (iI x9), .int r10, .ref a20, .ref a21, .int (iI x10), .int r11, .ref a22, .int (iI x11), .int (iI x12), .int (iI x13), .int (iI x14)])), (a1, .inl (T 0, 940, .inl f0))] H locs → lv_has ls 5 [(3, .int (iI z196)), (2, .int (iI z191)), (1, .int (iI z17)), (0, .ref a0)] → W p l e (Rm 1 0 0) s m args below meth c H locs 0 0 Q (F0 m 215 ls []) := by
                      intro k2
                      induction k2 with
                      | zero => intro fy193 z194 z195 z196 H locs ls z194_a z194_b z195_a z195_b z196_a z196_b q2_0 hm; exact absurd hm (Nat.not_lt_zero _)
                      | succ k2 ih2 =>
                        intro fy193 z194 z195 z196 H locs ls z194_a z194_b z195_a z195_b z196_a z196_b q2_0 hm2 w hl
                        refine lv_aload_n hx hb dX12_go_215 rfl (lv_at hl 3 rfl) ?_
                        refine lv_aload_n hx hb dX12_go_216 rfl (lv_at hl 3 rfl) ?_
                        refine r_get (v := .int (iI z194)) M w 0 5 clX12 rfl (by decide) G1468 rfl rfl dX12_go_217 ?_
                        refine k_I (ce := 0) (sl := 0) (rest := []) (wr := []) (r_V (f := 0) [0, 1] M w V_HookedCityModel_50 G1639 G50 (c9_X12_tapeAt l D T _ a0 z194 r0 a1 x0 x1 r1 z194 (iI z1) x3 z195 r3 r4 r5 fy193 x5 a2 a3 a4 a5 a6 a7 a8 a9 a10 a11 x6 a12 a13 a14 a15 x7 r6 r7 a16 r8 r9 a17 a18 x8 a19 x9 r10 a20 a21 x10 r11 a22 x11 x12 x13 x14 f0 z194_a z194_b x0_a x0_b x1_a x1_b z194_a z194_b x3_a x3_b z195_a z195_b x5_a x5_b x6_a x6_b x7_a x7_b x8_a x8_b x9_a x9_b x10_a x10_b x11_a x11_b x12_a x12_b x13_a x13_b x14_a x14_b) 0 clX12 rfl rfl (by decide) rfl hl.1 rfl (Nat.le_of_ble_eq_true rfl) dX12_go_220 (by decide) (by decide) (by decide) (by decide)) w [0, 1] [] rfl rfl (by decide) (by decide) rfl rfl (fun v z197 H locs hp w => ?_)
                        have hv : iI z197 = v := hp.1
                        subst hv
                        have z197_a : (-2147483648) ≤ z197 := hp.2.1
                        have z197_b : z197 ≤ 2147483647 := hp.2.2.1
                        have w : WD D A s.heap [(a0, .inr (11, [.int r0, .ref a1, .int (iI x0), .int (iI x1), .int r1, .int (iI z194), .int (iI z1), .int (iI x3), .int (iI z195), .int r3, .int r4, .int r5, .long fy193, .int (iI x5), .ref a2, .ref a3, .ref a4, .ref a5, .ref a6, .ref a7, .ref a8, .ref a9, .ref a10, .ref a11, .int (iI x6), .ref a12, .ref a13, .ref a14, .ref a15, .int (iI x7), .int r6, .int r7, .ref a16, .int r8, .int r9, .ref a17, .ref a18, .int (iI x8), .ref a19, .int (iI x9), .int r10, .ref a20, .ref a21, .int (iI x10), .int r11, .ref a22, .int (iI x11), .int (iI x12), .int (iI x13), .int (iI x14)])), (a1, .inl (T 0, 940, .inl f0))] H locs := w
                        rcases hp.2.2.2 with ⟨c_198, hr⟩ | c_199
                        · subst hr
                          refine k_I (ce := 0) (sl := 0) (rest := []) (wr := [(a0, .inr (11, [.int r0, .ref a1, .int (iI x0), .int (iI x1), .int r1, .int (iI z194), .int (iI z1), .int (iI x3), .int (iI z195), .int r3, .int r4, .int r5, .long fy193, .int (iI x5), .ref a2, .ref a3, .ref a4, .ref a5, .ref a6, .ref a7, .ref a8, .ref a9, .ref a10, .ref a11, .int (iI x6), .ref a12, .ref a13, .ref a14, .ref a15, .int (iI x7), .int r6, .int r7, .ref a16, .int r8, .int r9, .ref a17, .ref a18, .int (iI x8), .ref a19, .int (iI x9), .int r10, .ref a20, .ref a21, .int (iI x10), .int r11, .ref a22, .int (iI x11), .int (iI x12), .int (iI x13), .int (iI x14)])), (a1, .inl (T 0, 940, .inl f0))]) (r_S (f := 0) [] M w V_HookedCityModel_33 G1632 (c11_X12_isLetter l D T _ 0 (by decide) (by decide)) rfl (by decide) rfl hl.1 rfl (Nat.le_of_ble_eq_true rfl) dX12_go_223 (by decide) (by decide) (by decide) (by decide)) w [] [0, 1] rfl rfl (by decide) (by decide) rfl rfl (fun v z200 H locs hp w => ?_)
                          have hv : iI z200 = v := hp.1
                          subst hv
                          have z200_a : 0 ≤ z200 := hp.2.1
                          have z200_b : z200 ≤ 1 := hp.2.2.1
                          have ee201 : 0 ≤ ((0 + 4294967296) - (z200 * 4294967393)) := hp.2.2.2
                          have w : WD D A s.heap [(a0, .inr (11, [.int r0, .ref a1, .int (iI x0), .int (iI x1), .int r1, .int (iI z194), .int (iI z1), .int (iI x3), .int (iI z195), .int r3, .int r4, .int r5, .long fy193, .int (iI x5), .ref a2, .ref a3, .ref a4, .ref a5, .ref a6, .ref a7, .ref a8, .ref a9, .ref a10, .ref a11, .int (iI x6), .ref a12, .ref a13, .ref a14, .ref a15, .int (iI x7), .int r6, .int r7, .ref a16, .int r8, .int r9, .ref a17, .ref a18, .int (iI x8), .ref a19, .int (iI x9), .int r10, .ref a20, .ref a21, .int (iI x10), .int r11, .ref a22, .int (iI x11), .int (iI x12), .int (iI x13), .int (iI x14)])), (a1, .inl (T 0, 940, .inl f0))] H locs := w
                          refine lv_if_ne (tgt := 243) hx hb dX12_go_226 (by decide) (fun c_202 => ?_) (fun c_202 => ?_)
                          · replace c_202 : ¬ z200 = 0 := fun h => c_202 ((iz_eq (Int.le_trans (by decide) z200_a) (Int.le_trans z200_b (by decide))).mpr h)
                            exfalso; omega
                          · replace c_202 := (iz_eq (Int.le_trans (by decide) z200_a) (Int.le_trans z200_b (by decide))).mp c_202
                            refine lv_aload_n hx hb dX12_go_229 rfl (lv_at hl 3 rfl) ?_
                            refine lv_aload_n hx hb dX12_go_230 rfl (lv_at hl 3 rfl) ?_
                            refine r_get (v := .int (iI z194)) M w 0 5 clX12 rfl (by decide) G1468 rfl rfl dX12_go_231 ?_
                            refine k_I (ce := 0) (sl := 0) (rest := []) (wr := []) (r_V (f := 0) [0, 1] M w V_HookedCityModel_50 G1639 G50 (c9_X12_tapeAt l D T _ a0 z194 r0 a1 x0 x1 r1 z194 (iI z1) x3 z195 r3 r4 r5 fy193 x5 a2 a3 a4 a5 a6 a7 a8 a9 a10 a11 x6 a12 a13 a14 a15 x7 r6 r7 a16 r8 r9 a17 a18 x8 a19 x9 r10 a20 a21 x10 r11 a22 x11 x12 x13 x14 f0 z194_a z194_b x0_a x0_b x1_a x1_b z194_a z194_b x3_a x3_b z195_a z195_b x5_a x5_b x6_a x6_b x7_a x7_b x8_a x8_b x9_a x9_b x10_a x10_b x11_a x11_b x12_a x12_b x13_a x13_b x14_a x14_b) 0 clX12 rfl rfl (by decide) rfl hl.1 rfl (Nat.le_of_ble_eq_true rfl) dX12_go_234 (by decide) (by decide) (by decide) (by decide)) w [0, 1] [] rfl rfl (by decide) (by decide) rfl rfl (fun v z203 H locs hp w => ?_)
                            have hv : iI z203 = v := hp.1
                            subst hv
                            have z203_a : (-2147483648) ≤ z203 := hp.2.1
                            have z203_b : z203 ≤ 2147483647 := hp.2.2.1
                            have w : WD D A s.heap [(a0, .inr (11, [.int r0, .ref a1, .int (iI x0), .int (iI x1), .int r1, .int (iI z194), .int (iI z1), .int (iI x3), .int (iI z195), .int r3, .int r4, .int r5, .long fy193, .int (iI x5), .ref a2, .ref a3, .ref a4, .ref a5, .ref a6, .ref a7, .ref a8, .ref a9, .ref a10, .ref a11, .int (iI x6), .ref a12, .ref a13, .ref a14, .ref a15, .int (iI x7), .int r6, .int r7, .ref a16, .int r8, .int r9, .ref a17, .ref a18, .int (iI x8), .ref a19, .int (iI x9), .int r10, .ref a20, .ref a21, .int (iI x10), .int r11, .ref a22, .int (iI x11), .int (iI x12), .int (iI x13), .int (iI x14)])), (a1, .inl (T 0, 940, .inl f0))] H locs := w
                            rcases hp.2.2.2 with ⟨c_204, hr⟩ | c_205
                            · subst hr
                              refine k_I (ce := 0) (sl := 0) (rest := []) (wr := [(a0, .inr (11, [.int r0, .ref a1, .int (iI x0), .int (iI x1), .int r1, .int (iI z194), .int (iI z1), .int (iI x3), .int (iI z195), .int r3, .int r4, .int r5, .long fy193, .int (iI x5), .ref a2, .ref a3, .ref a4, .ref a5, .ref a6, .ref a7, .ref a8, .ref a9, .ref a10, .ref a11, .int (iI x6), .ref a12, .ref a13, .ref a14, .ref a15, .int (iI x7), .int r6, .int r7, .ref a16, .int r8, .int r9, .ref a17, .ref a18, .int (iI x8), .ref a19, .int (iI x9), .int r10, .ref a20, .ref a21, .int (iI x10), .int r11, .ref a22, .int (iI x11), .int (iI x12), .int (iI x13), .int (iI x14)])), (a1, .inl (T 0, 940, .inl f0))]) (r_S (f := 0) [] M w V_HookedCityModel_37 G1635 (c10_X12_isDigit l D T _ 0 (by decide) (by decide)) rfl (by decide) rfl hl.1 rfl (Nat.le_of_ble_eq_true rfl) dX12_go_237 (by decide) (by decide) (by decide) (by decide)) w [] [0, 1] rfl rfl (by decide) (by decide) rfl rfl (fun v z206 H locs hp w => ?_)
                              have hv : iI z206 = v := hp.1
                              subst hv
                              have z206_a : 0 ≤ z206 := hp.2.1
                              have z206_b : z206 ≤ 1 := hp.2.2.1
                              have ee207 : 0 ≤ ((0 + 4294967296) - (z206 * 4294967344)) := hp.2.2.2
                              have w : WD D A s.heap [(a0, .inr (11, [.int r0, .ref a1, .int (iI x0), .int (iI x1), .int r1, .int (iI z194), .int (iI z1), .int (iI x3), .int (iI z195), .int r3, .int r4, .int r5, .long fy193, .int (iI x5), .ref a2, .ref a3, .ref a4, .ref a5, .ref a6, .ref a7, .ref a8, .ref a9, .ref a10, .ref a11, .int (iI x6), .ref a12, .ref a13, .ref a14, .ref a15, .int (iI x7), .int r6, .int r7, .ref a16, .int r8, .int r9, .ref a17, .ref a18, .int (iI x8), .ref a19, .int (iI x9), .int r10, .ref a20, .ref a21, .int (iI x10), .int r11, .ref a22, .int (iI x11), .int (iI x12), .int (iI x13), .int (iI x14)])), (a1, .inl (T 0, 940, .inl f0))] H locs := w
                              refine lv_if_eq (tgt := 350) hx hb dX12_go_240 (by decide) (fun c_208 => ?_) (fun c_208 => ?_)
                              · replace c_208 := (iz_eq (Int.le_trans (by decide) z206_a) (Int.le_trans z206_b (by decide))).mp c_208
                                refine lv_aload_n hx hb dX12_go_350 rfl (lv_at hl 3 rfl) ?_
                                refine lv_iload_n hx hb dX12_go_351 rfl (lv_at hl 0 rfl) ?_
                                refine lv_if_eq (tgt := 377) hx hb dX12_go_352 (by decide) (fun c_209 => ?_) (fun c_209 => ?_)
                                · replace c_209 := (iz_eq (Int.le_trans (by decide) z196_a) (Int.le_trans z196_b (by decide))).mp c_209
                                  refine lv_iconst (v := iI 1) hx hb dX12_go_377 (by decide +kernel) ?_
                                  refine lv_goto (tgt := 390) hx hb dX12_go_378 (by decide) ?_
                                  refine r_put (ws' := [(a0, .inr (11, [.int r0, .ref a1, .int (iI x0), .int (iI x1), .int r1, .int (iI z194), .int (iI z1), .int (iI 1), .int (iI z195), .int r3, .int r4, .int r5, .long fy193, .int (iI x5), .ref a2, .ref a3, .ref a4, .ref a5, .ref a6, .ref a7, .ref a8, .ref a9, .ref a10, .ref a11, .int (iI x6), .ref a12, .ref a13, .ref a14, .ref a15, .int (iI x7), .int r6, .int r7, .ref a16, .int r8, .int r9, .ref a17, .ref a18, .int (iI x8), .ref a19, .int (iI x9), .int r10, .ref a20, .ref a21, .int (iI x10), .int r11, .ref a22, .int (iI x11), .int (iI x12), .int (iI x13), .int (iI x14)])), (a1, .inl (T 0, 940, .inl f0))]) M w 0 7 clX12 rfl (by decide) G1470 rfl rfl rfl rfl (Nat.le_of_ble_eq_true rfl) rfl dX12_go_390 (fun H locs w => ?_)
                                  exact ret (z194, (iI z1), 1, z195, r3, fy193) _ _ _ _ _ [0, 1] dX12_go_393 ⟨z194_a, z194_b, (show (0 : Int) ≤ 1 from by decide), (show (1 : Int) ≤ 4 from by decide), z195_a, z195_b, (show 0 ≤ (z194 - x2) from by omega), (show 0 ≤ (((z194 - x2) - 1) + 3) from by omega)⟩ w (by decide) rfl
                                · replace c_209 : ¬ z196 = 0 := fun h => c_209 ((iz_eq (Int.le_trans (by decide) z196_a) (Int.le_trans z196_b (by decide))).mpr h)
                                  refine lv_aload_n hx hb dX12_go_355 rfl (lv_at hl 3 rfl) ?_
                                  refine r_get (v := .int (iI z194)) M w 0 5 clX12 rfl (by decide) G1468 rfl rfl dX12_go_356 ?_
                                  refine lv_aload_n hx hb dX12_go_359 rfl (lv_at hl 3 rfl) ?_
                                  refine r_get (v := .int (iI z1)) M w 0 6 clX12 rfl (by decide) G1469 rfl rfl dX12_go_360 ?_
                                  refine b_any (fun z210 z210_a z210_b => ?_)
                                  refine r_isub (v := _) M rfl dX12_go_363 ?_
                                  refine b_any (fun z211 z211_a z211_b => ?_)
                                  refine lv_iload_n hx hb dX12_go_364 rfl (lv_at hl 1 rfl) ?_
                                  refine lv_if_eq (tgt := 373) hx hb dX12_go_365 (by decide) (fun c_212 => ?_) (fun c_212 => ?_)
                                  · replace c_212 := (iz_eq (Int.le_trans (by decide) z191_a) (Int.le_trans z191_b (by decide))).mp c_212
                                    refine lv_iconst (v := iI 3) hx hb dX12_go_373 (by decide +kernel) ?_
                                    refine lv_icmp_le (tgt := 381) hx hb dX12_go_374 (by decide) (fun c_213 => ?_) (fun c_213 => ?_)
                                    · replace c_213 := (iI_le (Int.le_trans (by decide) z211_a) (Int.le_trans z211_b (by decide)) (by decide) (by decide)).mp c_213
                                      refine lv_iload_n hx hb dX12_go_381 rfl (lv_at hl 1 rfl) ?_
                                      refine lv_if_eq (tgt := 389) hx hb dX12_go_382 (by decide) (fun c_214 => ?_) (fun c_214 => ?_)
                                      · replace c_214 := (iz_eq (Int.le_trans (by decide) z191_a) (Int.le_trans z191_b (by decide))).mp c_214
                                        refine lv_iconst (v := iI 3) hx hb dX12_go_389 (by decide +kernel) ?_
                                        refine r_put (ws' := [(a0, .inr (11, [.int r0, .ref a1, .int (iI x0), .int (iI x1), .int r1, .int (iI z194), .int (iI z1), .int (iI 3), .int (iI z195), .int r3, .int r4, .int r5, .long fy193, .int (iI x5), .ref a2, .ref a3, .ref a4, .ref a5, .ref a6, .ref a7, .ref a8, .ref a9, .ref a10, .ref a11, .int (iI x6), .ref a12, .ref a13, .ref a14, .ref a15, .int (iI x7), .int r6, .int r7, .ref a16, .int r8, .int r9, .ref a17, .ref a18, .int (iI x8), .ref a19, .int (iI x9), .int r10, .ref a20, .ref a21, .int (iI x10), .int r11, .ref a22, .int (iI x11), .int (iI x12), .int (iI x13), .int (iI x14)])), (a1, .inl (T 0, 940, .inl f0))]) M w 0 7 clX12 rfl (by decide) G1470 rfl rfl rfl rfl (Nat.le_of_ble_eq_true rfl) rfl dX12_go_390 (fun H locs w => ?_)
                                        exact ret (z194, (iI z1), 3, z195, r3, fy193) _ _ _ _ _ [0, 1] dX12_go_393 ⟨z194_a, z194_b, (show (0 : Int) ≤ 3 from by decide), (show (3 : Int) ≤ 4 from by decide), z195_a, z195_b, (show 0 ≤ (z194 - x2) from by omega), (show 0 ≤ (((z194 - x2) - 3) + 3) from by omega)⟩ w (by decide) rfl
                                      · replace c_214 : ¬ z191 = 0 := fun h => c_214 ((iz_eq (Int.le_trans (by decide) z191_a) (Int.le_trans z191_b (by decide))).mpr h)
                                        exfalso; omega
                                    · replace c_213 : 3 < z211 := Int.not_le.mp (fun h => c_213 ((iI_le (Int.le_trans (by decide) z211_a) (Int.le_trans z211_b (by decide)) (by decide) (by decide)).mpr h))
                                      refine lv_iconst (v := iI 1) hx hb dX12_go_377 (by decide +kernel) ?_
                                      refine lv_goto (tgt := 390) hx hb dX12_go_378 (by decide) ?_
                                      refine r_put (ws' := [(a0, .inr (11, [.int r0, .ref a1, .int (iI x0), .int (iI x1), .int r1, .int (iI z194), .int (iI z1), .int (iI 1), .int (iI z195), .int r3, .int r4, .int r5, .long fy193, .int (iI x5), .ref a2, .ref a3, .ref a4, .ref a5, .ref a6, .ref a7, .ref a8, .ref a9, .ref a10, .ref a11, .int (iI x6), .ref a12, .ref a13, .ref a14, .ref a15, .int (iI x7), .int r6, .int r7, .ref a16, .int r8, .int r9, .ref a17, .ref a18, .int (iI x8), .ref a19, .int (iI x9), .int r10, .ref a20, .ref a21, .int (iI x10), .int r11, .ref a22, .int (iI x11), .int (iI x12), .int (iI x13), .int (iI x14)])), (a1, .inl (T 0, 940, .inl f0))]) M w 0 7 clX12 rfl (by decide) G1470 rfl rfl rfl rfl (Nat.le_of_ble_eq_true rfl) rfl dX12_go_390 (fun H locs w => ?_)
                                      exact ret (z194, (iI z1), 1, z195, r3, fy193) _ _ _ _ _ [0, 1] dX12_go_393 ⟨z194_a, z194_b, (show (0 : Int) ≤ 1 from by decide), (show (1 : Int) ≤ 4 from by decide), z195_a, z195_b, (show 0 ≤ (z194 - x2) from by omega), (show 0 ≤ (((z194 - x2) - 1) + 3) from by omega)⟩ w (by decide) rfl
                                  · replace c_212 : ¬ z191 = 0 := fun h => c_212 ((iz_eq (Int.le_trans (by decide) z191_a) (Int.le_trans z191_b (by decide))).mpr h)
                                    refine lv_bipush (v := iI 7) hx hb dX12_go_368 (by decide +kernel) ?_
                                    refine lv_goto (tgt := 374) hx hb dX12_go_370 (by decide) ?_
                                    refine lv_icmp_le (tgt := 381) hx hb dX12_go_374 (by decide) (fun c_215 => ?_) (fun c_215 => ?_)
                                    · replace c_215 := (iI_le (Int.le_trans (by decide) z211_a) (Int.le_trans z211_b (by decide)) (by decide) (by decide)).mp c_215
                                      refine lv_iload_n hx hb dX12_go_381 rfl (lv_at hl 1 rfl) ?_
                                      refine lv_if_eq (tgt := 389) hx hb dX12_go_382 (by decide) (fun c_216 => ?_) (fun c_216 => ?_)
                                      · replace c_216 := (iz_eq (Int.le_trans (by decide) z191_a) (Int.le_trans z191_b (by decide))).mp c_216
                                        exfalso; omega
                                      · replace c_216 : ¬ z191 = 0 := fun h => c_216 ((iz_eq (Int.le_trans (by decide) z191_a) (Int.le_trans z191_b (by decide))).mpr h)
                                        refine lv_iconst (v := iI 2) hx hb dX12_go_385 (by decide +kernel) ?_
                                        refine lv_goto (tgt := 390) hx hb dX12_go_386 (by decide) ?_
                                        refine r_put (ws' := [(a0, .inr (11, [.int r0, .ref a1, .int (iI x0), .int (iI x1), .int r1, .int (iI z194), .int (iI z1), .int (iI 2), .int (iI z195), .int r3, .int r4, .int r5, .long fy193, .int (iI x5), .ref a2, .ref a3, .ref a4, .ref a5, .ref a6, .ref a7, .ref a8, .ref a9, .ref a10, .ref a11, .int (iI x6), .ref a12, .ref a13, .ref a14, .ref a15, .int (iI x7), .int r6, .int r7, .ref a16, .int r8, .int r9, .ref a17, .ref a18, .int (iI x8), .ref a19, .int (iI x9), .int r10, .ref a20, .ref a21, .int (iI x10), .int r11, .ref a22, .int (iI x11), .int (iI x12), .int (iI x13), .int (iI x14)])), (a1, .inl (T 0, 940, .inl f0))]) M w 0 7 clX12 rfl (by decide) G1470 rfl rfl rfl rfl (Nat.le_of_ble_eq_true rfl) rfl dX12_go_390 (fun H locs w => ?_)
                                        exact ret (z194, (iI z1), 2, z195, r3, fy193) _ _ _ _ _ [0, 1] dX12_go_393 ⟨z194_a, z194_b, (show (0 : Int) ≤ 2 from by decide), (show (2 : Int) ≤ 4 from by decide), z195_a, z195_b, (show 0 ≤ (z194 - x2) from by omega), (show 0 ≤ (((z194 - x2) - 2) + 3) from by omega)⟩ w (by decide) rfl
                                    · replace c_215 : 7 < z211 := Int.not_le.mp (fun h => c_215 ((iI_le (Int.le_trans (by decide) z211_a) (Int.le_trans z211_b (by decide)) (by decide) (by decide)).mpr h))
                                      refine lv_iconst (v := iI 1) hx hb dX12_go_377 (by decide +kernel) ?_
                                      refine lv_goto (tgt := 390) hx hb dX12_go_378 (by decide) ?_
                                      refine r_put (ws' := [(a0, .inr (11, [.int r0, .ref a1, .int (iI x0), .int (iI x1), .int r1, .int (iI z194), .int (iI z1), .int (iI 1), .int (iI z195), .int r3, .int r4, .int r5, .long fy193, .int (iI x5), .ref a2, .ref a3, .ref a4, .ref a5, .ref a6, .ref a7, .ref a8, .ref a9, .ref a10, .ref a11, .int (iI x6), .ref a12, .ref a13, .ref a14, .ref a15, .int (iI x7), .int r6, .int r7, .ref a16, .int r8, .int r9, .ref a17, .ref a18, .int (iI x8), .ref a19, .int (iI x9), .int r10, .ref a20, .ref a21, .int (iI x10), .int r11, .ref a22, .int (iI x11), .int (iI x12), .int (iI x13), .int (iI x14)])), (a1, .inl (T 0, 940, .inl f0))]) M w 0 7 clX12 rfl (by decide) G1470 rfl rfl rfl rfl (Nat.le_of_ble_eq_true rfl) rfl dX12_go_390 (fun H locs w => ?_)
                                      exact ret (z194, (iI z1), 1, z195, r3, fy193) _ _ _ _ _ [0, 1] dX12_go_393 ⟨z194_a, z194_b, (show (0 : Int) ≤ 1 from by decide), (show (1 : Int) ≤ 4 from by decide), z195_a, z195_b, (show 0 ≤ (z194 - x2) from by omega), (show 0 ≤ (((z194 - x2) - 1) + 3) from by omega)⟩ w (by decide) rfl
                              · replace c_208 : ¬ z206 = 0 := fun h => c_208 ((iz_eq (Int.le_trans (by decide) z206_a) (Int.le_trans z206_b (by decide))).mpr h)
                                exfalso; omega
                            · exfalso; omega
                        · refine k_I (ce := 0) (sl := 0) (rest := []) (wr := [(a0, .inr (11, [.int r0, .ref a1, .int (iI x0), .int (iI x1), .int r1, .int (iI z194), .int (iI z1), .int (iI x3), .int (iI z195), .int r3, .int r4, .int r5, .long fy193, .int (iI x5), .ref a2, .ref a3, .ref a4, .ref a5, .ref a6, .ref a7, .ref a8, .ref a9, .ref a10, .ref a11, .int (iI x6), .ref a12, .ref a13, .ref a14, .ref a15, .int (iI x7), .int r6, .int r7, .ref a16, .int r8, .int r9, .ref a17, .ref a18, .int (iI x8), .ref a19, .int (iI x9), .int r10, .ref a20, .ref a21, .int (iI x10), .int r11, .ref a22, .int (iI x11), .int (iI x12), .int (iI x13), .int (iI x14)])), (a1, .inl (T 0, 940, .inl f0))]) (r_S (f := 0) [] M w V_HookedCityModel_33 G1632 (c11_X12_isLetter l D T _ z197 z197_a z197_b) rfl (by decide) rfl hl.1 rfl (Nat.le_of_ble_eq_true rfl) dX12_go_223 (by decide) (by decide) (by decide) (by decide)) w [] [0, 1] rfl rfl (by decide) (by decide) rfl rfl (fun v z217 H locs hp w => ?_)
                          have hv : iI z217 = v := hp.1
                          subst hv
                          have z217_a : 0 ≤ z217 := hp.2.1
                          have z217_b : z217 ≤ 1 := hp.2.2.1
                          have ee218 : 0 ≤ ((z197 + 4294967296) - (z217 * 4294967393)) := hp.2.2.2
                          have w : WD D A s.heap [(a0, .inr (11, [.int r0, .ref a1, .int (iI x0), .int (iI x1), .int r1, .int (iI z194), .int (iI z1), .int (iI x3), .int (iI z195), .int r3, .int r4, .int r5, .long fy193, .int (iI x5), .ref a2, .ref a3, .ref a4, .ref a5, .ref a6, .ref a7, .ref a8, .ref a9, .ref a10, .ref a11, .int (iI x6), .ref a12, .ref a13, .ref a14, .ref a15, .int (iI x7), .int r6, .int r7, .ref a16, .int r8, .int r9, .ref a17, .ref a18, .int (iI x8), .ref a19, .int (iI x9), .int r10, .ref a20, .ref a21, .int (iI x10), .int r11, .ref a22, .int (iI x11), .int (iI x12), .int (iI x13), .int (iI x14)])), (a1, .inl (T 0, 940, .inl f0))] H locs := w
                          refine lv_if_ne (tgt := 243) hx hb dX12_go_226 (by decide) (fun c_219 => ?_) (fun c_219 => ?_)
                          · replace c_219 : ¬ z217 = 0 := fun h => c_219 ((iz_eq (Int.le_trans (by decide) z217_a) (Int.le_trans z217_b (by decide))).mpr h)
                            refine lv_aload_n hx hb dX12_go_243 rfl (lv_at hl 3 rfl) ?_
                            refine r_get (v := .ref a1) M w 0 1 clX12 rfl (by decide) G1464 rfl rfl dX12_go_244 ?_
                            refine lv_aload_n hx hb dX12_go_247 rfl (lv_at hl 3 rfl) ?_
                            refine r_get (v := .int (iI z194)) M w 0 5 clX12 rfl (by decide) G1468 rfl rfl dX12_go_248 ?_
                            refine r_iald (v := _) M w 1 rfl (iI_in (by omega) (by omega) (by decide)) rfl dX12_go_251 ?_
                            refine b_any (fun z220 z220_a z220_b => ?_)
                            refine lv_istore (lv' := [(4, .int (iI z220)), (3, .int (iI z196)), (2, .int (iI z191)), (1, .int (iI z17)), (0, .ref a0)]) hx hb dX12_go_252 hl (by decide) rfl (fun ls hl => ?_)
                            refine lv_iload_n hx hb dX12_go_254 rfl (lv_at hl 1 rfl) ?_
                            refine lv_if_eq (tgt := 271) hx hb dX12_go_255 (by decide) (fun c_221 => ?_) (fun c_221 => ?_)
                            · replace c_221 := (iz_eq (Int.le_trans (by decide) z196_a) (Int.le_trans z196_b (by decide))).mp c_221
                              refine lv_iconst (v := iI 0) hx hb dX12_go_271 (by decide +kernel) ?_
                              refine lv_istore_n (lv' := [(3, .int (iI 0)), (4, .int (iI z220)), (2, .int (iI z191)), (1, .int (iI z17)), (0, .ref a0)]) hx hb dX12_go_272 rfl hl (by decide) rfl (fun ls hl => ?_)
                              refine lv_aload_n hx hb dX12_go_273 rfl (lv_at hl 4 rfl) ?_
                              refine r_get (v := .int (iI z194)) M w 0 5 clX12 rfl (by decide) G1468 rfl rfl dX12_go_274 ?_
                              refine lv_aload_n hx hb dX12_go_277 rfl (lv_at hl 4 rfl) ?_
                              refine r_get (v := .int (iI z1)) M w 0 6 clX12 rfl (by decide) G1469 rfl rfl dX12_go_278 ?_
                              refine b_any (fun z222 z222_a z222_b => ?_)
                              refine r_isub (v := _) M rfl dX12_go_281 ?_
                              refine b_any (fun z223 z223_a z223_b => ?_)
                              refine lv_bipush (v := iI 7) hx hb dX12_go_282 (by decide +kernel) ?_
                              refine lv_icmp_ge (tgt := 307) hx hb dX12_go_284 (by decide) (fun c_224 => ?_) (fun c_224 => ?_)
                              · replace c_224 := (iI_le (by decide) (by decide) (Int.le_trans (by decide) z223_a) (Int.le_trans z223_b (by decide))).mp c_224
                                refine lv_aload_n hx hb dX12_go_307 rfl (lv_at hl 4 rfl) ?_
                                refine r_get (v := .int (iI z194)) M w 0 5 clX12 rfl (by decide) G1468 rfl rfl dX12_go_308 ?_
                                refine lv_aload_n hx hb dX12_go_311 rfl (lv_at hl 4 rfl) ?_
                                refine r_get (v := .int (iI z1)) M w 0 6 clX12 rfl (by decide) G1469 rfl rfl dX12_go_312 ?_
                                refine b_any (fun z225 z225_a z225_b => ?_)
                                refine r_isub (v := _) M rfl dX12_go_315 ?_
                                refine b_any (fun z226 z226_a z226_b => ?_)
                                refine lv_iconst (v := iI 3) hx hb dX12_go_316 (by decide +kernel) ?_
                                refine lv_icmp_ge (tgt := 337) hx hb dX12_go_317 (by decide) (fun c_227 => ?_) (fun c_227 => ?_)
                                · replace c_227 := (iI_le (by decide) (by decide) (Int.le_trans (by decide) z226_a) (Int.le_trans z226_b (by decide))).mp c_227
                                  refine lv_aload_n hx hb dX12_go_337 rfl (lv_at hl 4 rfl) ?_
                                  refine lv_dup hx hb dX12_go_338 rfl ?_
                                  refine r_get (v := .int (iI z194)) M w 0 5 clX12 rfl (by decide) G1468 rfl rfl dX12_go_339 ?_
                                  refine lv_iconst (v := iI 1) hx hb dX12_go_342 (by decide +kernel) ?_
                                  refine r_iadd (v := iI (z194 + 1)) M (iI_add _ _) dX12_go_343 ?_
                                  refine r_put (ws' := [(a0, .inr (11, [.int r0, .ref a1, .int (iI x0), .int (iI x1), .int r1, .int (iI (z194 + 1)), .int (iI z1), .int (iI x3), .int (iI z195), .int r3, .int r4, .int r5, .long fy193, .int (iI x5), .ref a2, .ref a3, .ref a4, .ref a5, .ref a6, .ref a7, .ref a8, .ref a9, .ref a10, .ref a11, .int (iI x6), .ref a12, .ref a13, .ref a14, .ref a15, .int (iI x7), .int r6, .int r7, .ref a16, .int r8, .int r9, .ref a17, .ref a18, .int (iI x8), .ref a19, .int (iI x9), .int r10, .ref a20, .ref a21, .int (iI x10), .int r11, .ref a22, .int (iI x11), .int (iI x12), .int (iI x13), .int (iI x14)])), (a1, .inl (T 0, 940, .inl f0))]) M w 0 5 clX12 rfl (by decide) G1468 rfl rfl rfl rfl (Nat.le_of_ble_eq_true rfl) rfl dX12_go_344 (fun H locs w => ?_)
                                  refine lv_goto (tgt := 215) hx hb dX12_go_347 (by decide) ?_
                                  exact ih2 fy193 (z194 + 1) z195 0 _ _ _ (by omega) (by omega) z195_a z195_b (by decide) (by decide) (by omega) (by omega) w (lv_sub hl [0, 2, 3, 4] rfl)
                                · replace c_227 : z226 < 3 := Int.not_le.mp (fun h => c_227 ((iI_le (by decide) (by decide) (Int.le_trans (by decide) z226_a) (Int.le_trans z226_b (by decide))).mpr h))
                                  refine lv_aload_n hx hb dX12_go_320 rfl (lv_at hl 4 rfl) ?_
                                  refine lv_bipush (v := iI 10) hx hb dX12_go_321 (by decide +kernel) ?_
                                  refine lv_aload_n hx hb dX12_go_323 rfl (lv_at hl 4 rfl) ?_
                                  refine r_get (v := .int (iI z195)) M w 0 8 clX12 rfl (by decide) G1471 rfl rfl dX12_go_324 ?_
                                  refine r_imul (v := _) M rfl dX12_go_327 ?_
                                  refine b_any (fun z228 z228_a z228_b => ?_)
                                  refine lv_iload hx hb dX12_go_328 (lv_at hl 1 rfl) ?_
                                  refine r_iadd (v := _) M rfl dX12_go_330 ?_
                                  refine b_any (fun z229 z229_a z229_b => ?_)
                                  refine lv_bipush (v := iI 48) hx hb dX12_go_331 (by decide +kernel) ?_
                                  refine r_isub (v := _) M rfl dX12_go_333 ?_
                                  refine b_any (fun z230 z230_a z230_b => ?_)
                                  refine r_put (ws' := [(a0, .inr (11, [.int r0, .ref a1, .int (iI x0), .int (iI x1), .int r1, .int (iI z194), .int (iI z1), .int (iI x3), .int (iI z230), .int r3, .int r4, .int r5, .long fy193, .int (iI x5), .ref a2, .ref a3, .ref a4, .ref a5, .ref a6, .ref a7, .ref a8, .ref a9, .ref a10, .ref a11, .int (iI x6), .ref a12, .ref a13, .ref a14, .ref a15, .int (iI x7), .int r6, .int r7, .ref a16, .int r8, .int r9, .ref a17, .ref a18, .int (iI x8), .ref a19, .int (iI x9), .int r10, .ref a20, .ref a21, .int (iI x10), .int r11, .ref a22, .int (iI x11), .int (iI x12), .int (iI x13), .int (iI x14)])), (a1, .inl (T 0, 940, .inl f0))]) M w 0 8 clX12 rfl (by decide) G1471 rfl rfl rfl rfl (Nat.le_of_ble_eq_true rfl) rfl dX12_go_334 (fun H locs w => ?_)
                                  refine lv_aload_n hx hb dX12_go_337 rfl (lv_at hl 4 rfl) ?_
                                  refine lv_dup hx hb dX12_go_338 rfl ?_
                                  refine r_get (v := .int (iI z194)) M w 0 5 clX12 rfl (by decide) G1468 rfl rfl dX12_go_339 ?_
                                  refine lv_iconst (v := iI 1) hx hb dX12_go_342 (by decide +kernel) ?_
                                  refine r_iadd (v := iI (z194 + 1)) M (iI_add _ _) dX12_go_343 ?_
                                  refine r_put (ws' := [(a0, .inr (11, [.int r0, .ref a1, .int (iI x0), .int (iI x1), .int r1, .int (iI (z194 + 1)), .int (iI z1), .int (iI x3), .int (iI z230), .int r3, .int r4, .int r5, .long fy193, .int (iI x5), .ref a2, .ref a3, .ref a4, .ref a5, .ref a6, .ref a7, .ref a8, .ref a9, .ref a10, .ref a11, .int (iI x6), .ref a12, .ref a13, .ref a14, .ref a15, .int (iI x7), .int r6, .int r7, .ref a16, .int r8, .int r9, .ref a17, .ref a18, .int (iI x8), .ref a19, .int (iI x9), .int r10, .ref a20, .ref a21, .int (iI x10), .int r11, .ref a22, .int (iI x11), .int (iI x12), .int (iI x13), .int (iI x14)])), (a1, .inl (T 0, 940, .inl f0))]) M w 0 5 clX12 rfl (by decide) G1468 rfl rfl rfl rfl (Nat.le_of_ble_eq_true rfl) rfl dX12_go_344 (fun H locs w => ?_)
                                  refine lv_goto (tgt := 215) hx hb dX12_go_347 (by decide) ?_
                                  exact ih2 fy193 (z194 + 1) z230 0 _ _ _ (by omega) (by omega) z230_a z230_b (by decide) (by decide) (by omega) (by omega) w (lv_sub hl [0, 2, 3, 4] rfl)
                              · replace c_224 : z223 < 7 := Int.not_le.mp (fun h => c_224 ((iI_le (by decide) (by decide) (Int.le_trans (by decide) z223_a) (Int.le_trans z223_b (by decide))).mpr h))
                                refine lv_aload_n hx hb dX12_go_287 rfl (lv_at hl 4 rfl) ?_
                                refine lv_ldc2 (v := 27) hx hb M.1.2.2.2.1 (M.1.2.2.2.2 _ G1641) dX12_go_288 ?_
                                refine lv_aload_n hx hb dX12_go_291 rfl (lv_at hl 4 rfl) ?_
                                refine r_get (v := .long fy193) M w 0 12 clX12 rfl (by decide) G1475 rfl rfl dX12_go_292 ?_
                                refine r_lmul (v := _) M rfl dX12_go_295 ?_
                                refine b_anyl (fun fy231 => ?_)
                                refine lv_iload hx hb dX12_go_296 (lv_at hl 1 rfl) ?_
                                refine lv_i2l (v := _) hx hb dX12_go_298 rfl ?_
                                refine b_anyl (fun fy232 => ?_)
                                refine r_ladd (v := _) M rfl dX12_go_299 ?_
                                refine b_anyl (fun fy233 => ?_)
                                refine lv_ldc2 (v := 96) hx hb M.1.2.2.2.1 (M.1.2.2.2.2 _ G1642) dX12_go_300 ?_
                                refine r_lsub (v := _) M rfl dX12_go_303 ?_
                                refine b_anyl (fun fy234 => ?_)
                                refine r_put (ws' := [(a0, .inr (11, [.int r0, .ref a1, .int (iI x0), .int (iI x1), .int r1, .int (iI z194), .int (iI z1), .int (iI x3), .int (iI z195), .int r3, .int r4, .int r5, .long fy234, .int (iI x5), .ref a2, .ref a3, .ref a4, .ref a5, .ref a6, .ref a7, .ref a8, .ref a9, .ref a10, .ref a11, .int (iI x6), .ref a12, .ref a13, .ref a14, .ref a15, .int (iI x7), .int r6, .int r7, .ref a16, .int r8, .int r9, .ref a17, .ref a18, .int (iI x8), .ref a19, .int (iI x9), .int r10, .ref a20, .ref a21, .int (iI x10), .int r11, .ref a22, .int (iI x11), .int (iI x12), .int (iI x13), .int (iI x14)])), (a1, .inl (T 0, 940, .inl f0))]) M w 0 12 clX12 rfl (by decide) G1475 rfl rfl rfl rfl (Nat.le_of_ble_eq_true rfl) rfl dX12_go_304 (fun H locs w => ?_)
                                refine lv_aload_n hx hb dX12_go_307 rfl (lv_at hl 4 rfl) ?_
                                refine r_get (v := .int (iI z194)) M w 0 5 clX12 rfl (by decide) G1468 rfl rfl dX12_go_308 ?_
                                refine lv_aload_n hx hb dX12_go_311 rfl (lv_at hl 4 rfl) ?_
                                refine r_get (v := .int (iI z1)) M w 0 6 clX12 rfl (by decide) G1469 rfl rfl dX12_go_312 ?_
                                refine b_any (fun z235 z235_a z235_b => ?_)
                                refine r_isub (v := _) M rfl dX12_go_315 ?_
                                refine b_any (fun z236 z236_a z236_b => ?_)
                                refine lv_iconst (v := iI 3) hx hb dX12_go_316 (by decide +kernel) ?_
                                refine lv_icmp_ge (tgt := 337) hx hb dX12_go_317 (by decide) (fun c_237 => ?_) (fun c_237 => ?_)
                                · replace c_237 := (iI_le (by decide) (by decide) (Int.le_trans (by decide) z236_a) (Int.le_trans z236_b (by decide))).mp c_237
                                  refine lv_aload_n hx hb dX12_go_337 rfl (lv_at hl 4 rfl) ?_
                                  refine lv_dup hx hb dX12_go_338 rfl ?_
                                  refine r_get (v := .int (iI z194)) M w 0 5 clX12 rfl (by decide) G1468 rfl rfl dX12_go_339 ?_
                                  refine lv_iconst (v := iI 1) hx hb dX12_go_342 (by decide +kernel) ?_
                                  refine r_iadd (v := iI (z194 + 1)) M (iI_add _ _) dX12_go_343 ?_
                                  refine r_put (ws' := [(a0, .inr (11, [.int r0, .ref a1, .int (iI x0), .int (iI x1), .int r1, .int (iI (z194 + 1)), .int (iI z1), .int (iI x3), .int (iI z195), .int r3, .int r4, .int r5, .long fy234, .int (iI x5), .ref a2, .ref a3, .ref a4, .ref a5, .ref a6, .ref a7, .ref a8, .ref a9, .ref a10, .ref a11, .int (iI x6), .ref a12, .ref a13, .ref a14, .ref a15, .int (iI x7), .int r6, .int r7, .ref a16, .int r8, .int r9, .ref a17, .ref a18, .int (iI x8), .ref a19, .int (iI x9), .int r10, .ref a20, .ref a21, .int (iI x10), .int r11, .ref a22, .int (iI x11), .int (iI x12), .int (iI x13), .int (iI x14)])), (a1, .inl (T 0, 940, .inl f0))]) M w 0 5 clX12 rfl (by decide) G1468 rfl rfl rfl rfl (Nat.le_of_ble_eq_true rfl) rfl dX12_go_344 (fun H locs w => ?_)
                                  refine lv_goto (tgt := 215) hx hb dX12_go_347 (by decide) ?_
                                  exact ih2 fy234 (z194 + 1) z195 0 _ _ _ (by omega) (by omega) z195_a z195_b (by decide) (by decide) (by omega) (by omega) w (lv_sub hl [0, 2, 3, 4] rfl)
                                · replace c_237 : z236 < 3 := Int.not_le.mp (fun h => c_237 ((iI_le (by decide) (by decide) (Int.le_trans (by decide) z236_a) (Int.le_trans z236_b (by decide))).mpr h))
                                  refine lv_aload_n hx hb dX12_go_320 rfl (lv_at hl 4 rfl) ?_
                                  refine lv_bipush (v := iI 10) hx hb dX12_go_321 (by decide +kernel) ?_
                                  refine lv_aload_n hx hb dX12_go_323 rfl (lv_at hl 4 rfl) ?_
                                  refine r_get (v := .int (iI z195)) M w 0 8 clX12 rfl (by decide) G1471 rfl rfl dX12_go_324 ?_
                                  refine r_imul (v := _) M rfl dX12_go_327 ?_
                                  refine b_any (fun z238 z238_a z238_b => ?_)
                                  refine lv_iload hx hb dX12_go_328 (lv_at hl 1 rfl) ?_
                                  refine r_iadd (v := _) M rfl dX12_go_330 ?_
                                  refine b_any (fun z239 z239_a z239_b => ?_)
                                  refine lv_bipush (v := iI 48) hx hb dX12_go_331 (by decide +kernel) ?_
                                  refine r_isub (v := _) M rfl dX12_go_333 ?_
                                  refine b_any (fun z240 z240_a z240_b => ?_)
                                  refine r_put (ws' := [(a0, .inr (11, [.int r0, .ref a1, .int (iI x0), .int (iI x1), .int r1, .int (iI z194), .int (iI z1), .int (iI x3), .int (iI z240), .int r3, .int r4, .int r5, .long fy234, .int (iI x5), .ref a2, .ref a3, .ref a4, .ref a5, .ref a6, .ref a7, .ref a8, .ref a9, .ref a10, .ref a11, .int (iI x6), .ref a12, .ref a13, .ref a14, .ref a15, .int (iI x7), .int r6, .int r7, .ref a16, .int r8, .int r9, .ref a17, .ref a18, .int (iI x8), .ref a19, .int (iI x9), .int r10, .ref a20, .ref a21, .int (iI x10), .int r11, .ref a22, .int (iI x11), .int (iI x12), .int (iI x13), .int (iI x14)])), (a1, .inl (T 0, 940, .inl f0))]) M w 0 8 clX12 rfl (by decide) G1471 rfl rfl rfl rfl (Nat.le_of_ble_eq_true rfl) rfl dX12_go_334 (fun H locs w => ?_)
                                  refine lv_aload_n hx hb dX12_go_337 rfl (lv_at hl 4 rfl) ?_
                                  refine lv_dup hx hb dX12_go_338 rfl ?_
                                  refine r_get (v := .int (iI z194)) M w 0 5 clX12 rfl (by decide) G1468 rfl rfl dX12_go_339 ?_
                                  refine lv_iconst (v := iI 1) hx hb dX12_go_342 (by decide +kernel) ?_
                                  refine r_iadd (v := iI (z194 + 1)) M (iI_add _ _) dX12_go_343 ?_
                                  refine r_put (ws' := [(a0, .inr (11, [.int r0, .ref a1, .int (iI x0), .int (iI x1), .int r1, .int (iI (z194 + 1)), .int (iI z1), .int (iI x3), .int (iI z240), .int r3, .int r4, .int r5, .long fy234, .int (iI x5), .ref a2, .ref a3, .ref a4, .ref a5, .ref a6, .ref a7, .ref a8, .ref a9, .ref a10, .ref a11, .int (iI x6), .ref a12, .ref a13, .ref a14, .ref a15, .int (iI x7), .int r6, .int r7, .ref a16, .int r8, .int r9, .ref a17, .ref a18, .int (iI x8), .ref a19, .int (iI x9), .int r10, .ref a20, .ref a21, .int (iI x10), .int r11, .ref a22, .int (iI x11), .int (iI x12), .int (iI x13), .int (iI x14)])), (a1, .inl (T 0, 940, .inl f0))]) M w 0 5 clX12 rfl (by decide) G1468 rfl rfl rfl rfl (Nat.le_of_ble_eq_true rfl) rfl dX12_go_344 (fun H locs w => ?_)
                                  refine lv_goto (tgt := 215) hx hb dX12_go_347 (by decide) ?_
                                  exact ih2 fy234 (z194 + 1) z240 0 _ _ _ (by omega) (by omega) z240_a z240_b (by decide) (by decide) (by omega) (by omega) w (lv_sub hl [0, 2, 3, 4] rfl)
                            · replace c_221 : ¬ z196 = 0 := fun h => c_221 ((iz_eq (Int.le_trans (by decide) z196_a) (Int.le_trans z196_b (by decide))).mpr h)
                              refine lv_iload hx hb dX12_go_258 (lv_at hl 0 rfl) ?_
                              refine k_I (ce := 0) (sl := 0) (rest := []) (wr := [(a0, .inr (11, [.int r0, .ref a1, .int (iI x0), .int (iI x1), .int r1, .int (iI z194), .int (iI z1), .int (iI x3), .int (iI z195), .int r3, .int r4, .int r5, .long fy193, .int (iI x5), .ref a2, .ref a3, .ref a4, .ref a5, .ref a6, .ref a7, .ref a8, .ref a9, .ref a10, .ref a11, .int (iI x6), .ref a12, .ref a13, .ref a14, .ref a15, .int (iI x7), .int r6, .int r7, .ref a16, .int r8, .int r9, .ref a17, .ref a18, .int (iI x8), .ref a19, .int (iI x9), .int r10, .ref a20, .ref a21, .int (iI x10), .int r11, .ref a22, .int (iI x11), .int (iI x12), .int (iI x13), .int (iI x14)])), (a1, .inl (T 0, 940, .inl f0))]) (r_S (f := 0) [] M w V_HookedCityModel_33 G1632 (c11_X12_isLetter l D T _ z220 z220_a z220_b) rfl (by decide) rfl hl.1 rfl (Nat.le_of_ble_eq_true rfl) dX12_go_260 (by decide) (by decide) (by decide) (by decide)) w [] [0, 1] rfl rfl (by decide) (by decide) rfl rfl (fun v z241 H locs hp w => ?_)
                              have hv : iI z241 = v := hp.1
                              subst hv
                              have z241_a : 0 ≤ z241 := hp.2.1
                              have z241_b : z241 ≤ 1 := hp.2.2.1
                              have ee242 : 0 ≤ ((z220 + 4294967296) - (z241 * 4294967393)) := hp.2.2.2
                              have w : WD D A s.heap [(a0, .inr (11, [.int r0, .ref a1, .int (iI x0), .int (iI x1), .int r1, .int (iI z194), .int (iI z1), .int (iI x3), .int (iI z195), .int r3, .int r4, .int r5, .long fy193, .int (iI x5), .ref a2, .ref a3, .ref a4, .ref a5, .ref a6, .ref a7, .ref a8, .ref a9, .ref a10, .ref a11, .int (iI x6), .ref a12, .ref a13, .ref a14, .ref a15, .int (iI x7), .int r6, .int r7, .ref a16, .int r8, .int r9, .ref a17, .ref a18, .int (iI x8), .ref a19, .int (iI x9), .int r10, .ref a20, .ref a21, .int (iI x10), .int r11, .ref a22, .int (iI x11), .int (iI x12), .int (iI x13), .int (iI x14)])), (a1, .inl (T 0, 940, .inl f0))] H locs := w
                              refine lv_iload_n hx hb dX12_go_263 rfl (lv_at hl 2 rfl) ?_
                              refine lv_icmp_ne (tgt := 271) hx hb dX12_go_264 (by decide) (fun c_243 => ?_) (fun c_243 => ?_)
                              · replace c_243 : ¬ z241 = z191 := fun h => c_243 ((iI_eq (Int.le_trans (by decide) z241_a) (Int.le_trans z241_b (by decide)) (Int.le_trans (by decide) z191_a) (Int.le_trans z191_b (by decide))).mpr h)
                                refine lv_iconst (v := iI 0) hx hb dX12_go_271 (by decide +kernel) ?_
                                refine lv_istore_n (lv' := [(3, .int (iI 0)), (4, .int (iI z220)), (2, .int (iI z191)), (1, .int (iI z17)), (0, .ref a0)]) hx hb dX12_go_272 rfl hl (by decide) rfl (fun ls hl => ?_)
                                refine lv_aload_n hx hb dX12_go_273 rfl (lv_at hl 4 rfl) ?_
                                refine r_get (v := .int (iI z194)) M w 0 5 clX12 rfl (by decide) G1468 rfl rfl dX12_go_274 ?_
                                refine lv_aload_n hx hb dX12_go_277 rfl (lv_at hl 4 rfl) ?_
                                refine r_get (v := .int (iI z1)) M w 0 6 clX12 rfl (by decide) G1469 rfl rfl dX12_go_278 ?_
                                refine b_any (fun z244 z244_a z244_b => ?_)
                                refine r_isub (v := _) M rfl dX12_go_281 ?_
                                refine b_any (fun z245 z245_a z245_b => ?_)
                                refine lv_bipush (v := iI 7) hx hb dX12_go_282 (by decide +kernel) ?_
                                refine lv_icmp_ge (tgt := 307) hx hb dX12_go_284 (by decide) (fun c_246 => ?_) (fun c_246 => ?_)
                                · replace c_246 := (iI_le (by decide) (by decide) (Int.le_trans (by decide) z245_a) (Int.le_trans z245_b (by decide))).mp c_246
                                  refine lv_aload_n hx hb dX12_go_307 rfl (lv_at hl 4 rfl) ?_
                                  refine r_get (v := .int (iI z194)) M w 0 5 clX12 rfl (by decide) G1468 rfl rfl dX12_go_308 ?_
                                  refine lv_aload_n hx hb dX12_go_311 rfl (lv_at hl 4 rfl) ?_
                                  refine r_get (v := .int (iI z1)) M w 0 6 clX12 rfl (by decide) G1469 rfl rfl dX12_go_312 ?_
                                  refine b_any (fun z247 z247_a z247_b => ?_)
                                  refine r_isub (v := _) M rfl dX12_go_315 ?_
                                  refine b_any (fun z248 z248_a z248_b => ?_)
                                  refine lv_iconst (v := iI 3) hx hb dX12_go_316 (by decide +kernel) ?_
                                  refine lv_icmp_ge (tgt := 337) hx hb dX12_go_317 (by decide) (fun c_249 => ?_) (fun c_249 => ?_)
                                  · replace c_249 := (iI_le (by decide) (by decide) (Int.le_trans (by decide) z248_a) (Int.le_trans z248_b (by decide))).mp c_249
                                    refine lv_aload_n hx hb dX12_go_337 rfl (lv_at hl 4 rfl) ?_
                                    refine lv_dup hx hb dX12_go_338 rfl ?_
                                    refine r_get (v := .int (iI z194)) M w 0 5 clX12 rfl (by decide) G1468 rfl rfl dX12_go_339 ?_
                                    refine lv_iconst (v := iI 1) hx hb dX12_go_342 (by decide +kernel) ?_
                                    refine r_iadd (v := iI (z194 + 1)) M (iI_add _ _) dX12_go_343 ?_
                                    refine r_put (ws' := [(a0, .inr (11, [.int r0, .ref a1, .int (iI x0), .int (iI x1), .int r1, .int (iI (z194 + 1)), .int (iI z1), .int (iI x3), .int (iI z195), .int r3, .int r4, .int r5, .long fy193, .int (iI x5), .ref a2, .ref a3, .ref a4, .ref a5, .ref a6, .ref a7, .ref a8, .ref a9, .ref a10, .ref a11, .int (iI x6), .ref a12, .ref a13, .ref a14, .ref a15, .int (iI x7), .int r6, .int r7, .ref a16, .int r8, .int r9, .ref a17, .ref a18, .int (iI x8), .ref a19, .int (iI x9), .int r10, .ref a20, .ref a21, .int (iI x10), .int r11, .ref a22, .int (iI x11), .int (iI x12), .int (iI x13), .int (iI x14)])), (a1, .inl (T 0, 940, .inl f0))]) M w 0 5 clX12 rfl (by decide) G1468 rfl rfl rfl rfl (Nat.le_of_ble_eq_true rfl) rfl dX12_go_344 (fun H locs w => ?_)
                                    refine lv_goto (tgt := 215) hx hb dX12_go_347 (by decide) ?_
                                    exact ih2 fy193 (z194 + 1) z195 0 _ _ _ (by omega) (by omega) z195_a z195_b (by decide) (by decide) (by omega) (by omega) w (lv_sub hl [0, 2, 3, 4] rfl)
                                  · replace c_249 : z248 < 3 := Int.not_le.mp (fun h => c_249 ((iI_le (by decide) (by decide) (Int.le_trans (by decide) z248_a) (Int.le_trans z248_b (by decide))).mpr h))
                                    refine lv_aload_n hx hb dX12_go_320 rfl (lv_at hl 4 rfl) ?_
                                    refine lv_bipush (v := iI 10) hx hb dX12_go_321 (by decide +kernel) ?_
                                    refine lv_aload_n hx hb dX12_go_323 rfl (lv_at hl 4 rfl) ?_
                                    refine r_get (v := .int (iI z195)) M w 0 8 clX12 rfl (by decide) G1471 rfl rfl dX12_go_324 ?_
                                    refine r_imul (v := _) M rfl dX12_go_327 ?_
                                    refine b_any (fun z250 z250_a z250_b => ?_)
                                    refine lv_iload hx hb dX12_go_328 (lv_at hl 1 rfl) ?_
                                    refine r_iadd (v := _) M rfl dX12_go_330 ?_
                                    refine b_any (fun z251 z251_a z251_b => ?_)
                                    refine lv_bipush (v := iI 48) hx hb dX12_go_331 (by decide +kernel) ?_
                                    refine r_isub (v := _) M rfl dX12_go_333 ?_
                                    refine b_any (fun z252 z252_a z252_b => ?_)
                                    refine r_put (ws' := [(a0, .inr (11, [.int r0, .ref a1, .int (iI x0), .int (iI x1), .int r1, .int (iI z194), .int (iI z1), .int (iI x3), .int (iI z252), .int r3, .int r4, .int r5, .long fy193, .int (iI x5), .ref a2, .ref a3, .ref a4, .ref a5, .ref a6, .ref a7, .ref a8, .ref a9, .ref a10, .ref a11, .int (iI x6), .ref a12, .ref a13, .ref a14, .ref a15, .int (iI x7), .int r6, .int r7, .ref a16, .int r8, .int r9, .ref a17, .ref a18, .int (iI x8), .ref a19, .int (iI x9), .int r10, .ref a20, .ref a21, .int (iI x10), .int r11, .ref a22, .int (iI x11), .int (iI x12), .int (iI x13), .int (iI x14)])), (a1, .inl (T 0, 940, .inl f0))]) M w 0 8 clX12 rfl (by decide) G1471 rfl rfl rfl rfl (Nat.le_of_ble_eq_true rfl) rfl dX12_go_334 (fun H locs w => ?_)
                                    refine lv_aload_n hx hb dX12_go_337 rfl (lv_at hl 4 rfl) ?_
                                    refine lv_dup hx hb dX12_go_338 rfl ?_
                                    refine r_get (v := .int (iI z194)) M w 0 5 clX12 rfl (by decide) G1468 rfl rfl dX12_go_339 ?_
                                    refine lv_iconst (v := iI 1) hx hb dX12_go_342 (by decide +kernel) ?_
                                    refine r_iadd (v := iI (z194 + 1)) M (iI_add _ _) dX12_go_343 ?_
                                    refine r_put (ws' := [(a0, .inr (11, [.int r0, .ref a1, .int (iI x0), .int (iI x1), .int r1, .int (iI (z194 + 1)), .int (iI z1), .int (iI x3), .int (iI z252), .int r3, .int r4, .int r5, .long fy193, .int (iI x5), .ref a2, .ref a3, .ref a4, .ref a5, .ref a6, .ref a7, .ref a8, .ref a9, .ref a10, .ref a11, .int (iI x6), .ref a12, .ref a13, .ref a14, .ref a15, .int (iI x7), .int r6, .int r7, .ref a16, .int r8, .int r9, .ref a17, .ref a18, .int (iI x8), .ref a19, .int (iI x9), .int r10, .ref a20, .ref a21, .int (iI x10), .int r11, .ref a22, .int (iI x11), .int (iI x12), .int (iI x13), .int (iI x14)])), (a1, .inl (T 0, 940, .inl f0))]) M w 0 5 clX12 rfl (by decide) G1468 rfl rfl rfl rfl (Nat.le_of_ble_eq_true rfl) rfl dX12_go_344 (fun H locs w => ?_)
                                    refine lv_goto (tgt := 215) hx hb dX12_go_347 (by decide) ?_
                                    exact ih2 fy193 (z194 + 1) z252 0 _ _ _ (by omega) (by omega) z252_a z252_b (by decide) (by decide) (by omega) (by omega) w (lv_sub hl [0, 2, 3, 4] rfl)
                                · replace c_246 : z245 < 7 := Int.not_le.mp (fun h => c_246 ((iI_le (by decide) (by decide) (Int.le_trans (by decide) z245_a) (Int.le_trans z245_b (by decide))).mpr h))
                                  refine lv_aload_n hx hb dX12_go_287 rfl (lv_at hl 4 rfl) ?_
                                  refine lv_ldc2 (v := 27) hx hb M.1.2.2.2.1 (M.1.2.2.2.2 _ G1641) dX12_go_288 ?_
                                  refine lv_aload_n hx hb dX12_go_291 rfl (lv_at hl 4 rfl) ?_
                                  refine r_get (v := .long fy193) M w 0 12 clX12 rfl (by decide) G1475 rfl rfl dX12_go_292 ?_
                                  refine r_lmul (v := _) M rfl dX12_go_295 ?_
                                  refine b_anyl (fun fy253 => ?_)
                                  refine lv_iload hx hb dX12_go_296 (lv_at hl 1 rfl) ?_
                                  refine lv_i2l (v := _) hx hb dX12_go_298 rfl ?_
                                  refine b_anyl (fun fy254 => ?_)
                                  refine r_ladd (v := _) M rfl dX12_go_299 ?_
                                  refine b_anyl (fun fy255 => ?_)
                                  refine lv_ldc2 (v := 96) hx hb M.1.2.2.2.1 (M.1.2.2.2.2 _ G1642) dX12_go_300 ?_
                                  refine r_lsub (v := _) M rfl dX12_go_303 ?_
                                  refine b_anyl (fun fy256 => ?_)
                                  refine r_put (ws' := [(a0, .inr (11, [.int r0, .ref a1, .int (iI x0), .int (iI x1), .int r1, .int (iI z194), .int (iI z1), .int (iI x3), .int (iI z195), .int r3, .int r4, .int r5, .long fy256, .int (iI x5), .ref a2, .ref a3, .ref a4, .ref a5, .ref a6, .ref a7, .ref a8, .ref a9, .ref a10, .ref a11, .int (iI x6), .ref a12, .ref a13, .ref a14, .ref a15, .int (iI x7), .int r6, .int r7, .ref a16, .int r8, .int r9, .ref a17, .ref a18, .int (iI x8), .ref a19, .int (iI x9), .int r10, .ref a20, .ref a21, .int (iI x10), .int r11, .ref a22, .int (iI x11), .int (iI x12), .int (iI x13), .int (iI x14)])), (a1, .inl (T 0, 940, .inl f0))]) M w 0 12 clX12 rfl (by decide) G1475 rfl rfl rfl rfl (Nat.le_of_ble_eq_true rfl) rfl dX12_go_304 (fun H locs w => ?_)
                                  refine lv_aload_n hx hb dX12_go_307 rfl (lv_at hl 4 rfl) ?_
                                  refine r_get (v := .int (iI z194)) M w 0 5 clX12 rfl (by decide) G1468 rfl rfl dX12_go_308 ?_
                                  refine lv_aload_n hx hb dX12_go_311 rfl (lv_at hl 4 rfl) ?_
                                  refine r_get (v := .int (iI z1)) M w 0 6 clX12 rfl (by decide) G1469 rfl rfl dX12_go_312 ?_
                                  refine b_any (fun z257 z257_a z257_b => ?_)
                                  refine r_isub (v := _) M rfl dX12_go_315 ?_
                                  refine b_any (fun z258 z258_a z258_b => ?_)
                                  refine lv_iconst (v := iI 3) hx hb dX12_go_316 (by decide +kernel) ?_
                                  refine lv_icmp_ge (tgt := 337) hx hb dX12_go_317 (by decide) (fun c_259 => ?_) (fun c_259 => ?_)
                                  · replace c_259 := (iI_le (by decide) (by decide) (Int.le_trans (by decide) z258_a) (Int.le_trans z258_b (by decide))).mp c_259
                                    refine lv_aload_n hx hb dX12_go_337 rfl (lv_at hl 4 rfl) ?_
                                    refine lv_dup hx hb dX12_go_338 rfl ?_
                                    refine r_get (v := .int (iI z194)) M w 0 5 clX12 rfl (by decide) G1468 rfl rfl dX12_go_339 ?_
                                    refine lv_iconst (v := iI 1) hx hb dX12_go_342 (by decide +kernel) ?_
                                    refine r_iadd (v := iI (z194 + 1)) M (iI_add _ _) dX12_go_343 ?_
                                    refine r_put (ws' := [(a0, .inr (11, [.int r0, .ref a1, .int (iI x0), .int (iI x1), .int r1, .int (iI (z194 + 1)), .int (iI z1), .int (iI x3), .int (iI z195), .int r3, .int r4, .int r5, .long fy256, .int (iI x5), .ref a2, .ref a3, .ref a4, .ref a5, .ref a6, .ref a7, .ref a8, .ref a9, .ref a10, .ref a11, .int (iI x6), .ref a12, .ref a13, .ref a14, .ref a15, .int (iI x7), .int r6, .int r7, .ref a16, .int r8, .int r9, .ref a17, .ref a18, .int (iI x8), .ref a19, .int (iI x9), .int r10, .ref a20, .ref a21, .int (iI x10), .int r11, .ref a22, .int (iI x11), .int (iI x12), .int (iI x13), .int (iI x14)])), (a1, .inl (T 0, 940, .inl f0))]) M w 0 5 clX12 rfl (by decide) G1468 rfl rfl rfl rfl (Nat.le_of_ble_eq_true rfl) rfl dX12_go_344 (fun H locs w => ?_)
                                    refine lv_goto (tgt := 215) hx hb dX12_go_347 (by decide) ?_
                                    exact ih2 fy256 (z194 + 1) z195 0 _ _ _ (by omega) (by omega) z195_a z195_b (by decide) (by decide) (by omega) (by omega) w (lv_sub hl [0, 2, 3, 4] rfl)
                                  · replace c_259 : z258 < 3 := Int.not_le.mp (fun h => c_259 ((iI_le (by decide) (by decide) (Int.le_trans (by decide) z258_a) (Int.le_trans z258_b (by decide))).mpr h))
                                    refine lv_aload_n hx hb dX12_go_320 rfl (lv_at hl 4 rfl) ?_
                                    refine lv_bipush (v := iI 10) hx hb dX12_go_321 (by decide +kernel) ?_
                                    refine lv_aload_n hx hb dX12_go_323 rfl (lv_at hl 4 rfl) ?_
                                    refine r_get (v := .int (iI z195)) M w 0 8 clX12 rfl (by decide) G1471 rfl rfl dX12_go_324 ?_
                                    refine r_imul (v := _) M rfl dX12_go_327 ?_
                                    refine b_any (fun z260 z260_a z260_b => ?_)
                                    refine lv_iload hx hb dX12_go_328 (lv_at hl 1 rfl) ?_
                                    refine r_iadd (v := _) M rfl dX12_go_330 ?_
                                    refine b_any (fun z261 z261_a z261_b => ?_)
                                    refine lv_bipush (v := iI 48) hx hb dX12_go_331 (by decide +kernel) ?_
                                    refine r_isub (v := _) M rfl dX12_go_333 ?_
                                    refine b_any (fun z262 z262_a z262_b => ?_)
                                    refine r_put (ws' := [(a0, .inr (11, [.int r0, .ref a1, .int (iI x0), .int (iI x1), .int r1, .int (iI z194), .int (iI z1), .int (iI x3), .int (iI z262), .int r3, .int r4, .int r5, .long fy256, .int (iI x5), .ref a2, .ref a3, .ref a4, .ref a5, .ref a6, .ref a7, .ref a8, .ref a9, .ref a10, .ref a11, .int (iI x6), .ref a12, .ref a13, .ref a14, .ref a15, .int (iI x7), .int r6, .int r7, .ref a16, .int r8, .int r9, .ref a17, .ref a18, .int (iI x8), .ref a19, .int (iI x9), .int r10, .ref a20, .ref a21, .int (iI x10), .int r11, .ref a22, .int (iI x11), .int (iI x12), .int (iI x13), .int (iI x14)])), (a1, .inl (T 0, 940, .inl f0))]) M w 0 8 clX12 rfl (by decide) G1471 rfl rfl rfl rfl (Nat.le_of_ble_eq_true rfl) rfl dX12_go_334 (fun H locs w => ?_)
                                    refine lv_aload_n hx hb dX12_go_337 rfl (lv_at hl 4 rfl) ?_
                                    refine lv_dup hx hb dX12_go_338 rfl ?_
                                    refine r_get (v := .int (iI z194)) M w 0 5 clX12 rfl (by decide) G1468 rfl rfl dX12_go_339 ?_
                                    refine lv_iconst (v := iI 1) hx hb dX12_go_342 (by decide +kernel) ?_
                                    refine r_iadd (v := iI (z194 + 1)) M (iI_add _ _) dX12_go_343 ?_
                                    refine r_put (ws' := [(a0, .inr (11, [.int r0, .ref a1, .int (iI x0), .int (iI x1), .int r1, .int (iI (z194 + 1)), .int (iI z1), .int (iI x3), .int (iI z262), .int r3, .int r4, .int r5, .long fy256, .int (iI x5), .ref a2, .ref a3, .ref a4, .ref a5, .ref a6, .ref a7, .ref a8, .ref a9, .ref a10, .ref a11, .int (iI x6), .ref a12, .ref a13, .ref a14, .ref a15, .int (iI x7), .int r6, .int r7, .ref a16, .int r8, .int r9, .ref a17, .ref a18, .int (iI x8), .ref a19, .int (iI x9), .int r10, .ref a20, .ref a21, .int (iI x10), .int r11, .ref a22, .int (iI x11), .int (iI x12), .int (iI x13), .int (iI x14)])), (a1, .inl (T 0, 940, .inl f0))]) M w 0 5 clX12 rfl (by decide) G1468 rfl rfl rfl rfl (Nat.le_of_ble_eq_true rfl) rfl dX12_go_344 (fun H locs w => ?_)
                                    refine lv_goto (tgt := 215) hx hb dX12_go_347 (by decide) ?_
                                    exact ih2 fy256 (z194 + 1) z262 0 _ _ _ (by omega) (by omega) z262_a z262_b (by decide) (by decide) (by omega) (by omega) w (lv_sub hl [0, 2, 3, 4] rfl)
                              · replace c_243 := (iI_eq (Int.le_trans (by decide) z241_a) (Int.le_trans z241_b (by decide)) (Int.le_trans (by decide) z191_a) (Int.le_trans z191_b (by decide))).mp c_243
                                refine lv_iconst (v := iI 1) hx hb dX12_go_267 (by decide +kernel) ?_
                                refine lv_goto (tgt := 272) hx hb dX12_go_268 (by decide) ?_
                                refine lv_istore_n (lv' := [(3, .int (iI 1)), (4, .int (iI z220)), (2, .int (iI z191)), (1, .int (iI z17)), (0, .ref a0)]) hx hb dX12_go_272 rfl hl (by decide) rfl (fun ls hl => ?_)
                                refine lv_aload_n hx hb dX12_go_273 rfl (lv_at hl 4 rfl) ?_
                                refine r_get (v := .int (iI z194)) M w 0 5 clX12 rfl (by decide) G1468 rfl rfl dX12_go_274 ?_
                                refine lv_aload_n hx hb dX12_go_277 rfl (lv_at hl 4 rfl) ?_
                                refine r_get (v := .int (iI z1)) M w 0 6 clX12 rfl (by decide) G1469 rfl rfl dX12_go_278 ?_
                                refine b_any (fun z263 z263_a z263_b => ?_)
                                refine r_isub (v := _) M rfl dX12_go_281 ?_
                                refine b_any (fun z264 z264_a z264_b => ?_)
                                refine lv_bipush (v := iI 7) hx hb dX12_go_282 (by decide +kernel) ?_
                                refine lv_icmp_ge (tgt := 307) hx hb dX12_go_284 (by decide) (fun c_265 => ?_) (fun c_265 => ?_)
                                · replace c_265 := (iI_le (by decide) (by decide) (Int.le_trans (by decide) z264_a) (Int.le_trans z264_b (by decide))).mp c_265
                                  refine lv_aload_n hx hb dX12_go_307 rfl (lv_at hl 4 rfl) ?_
                                  refine r_get (v := .int (iI z194)) M w 0 5 clX12 rfl (by decide) G1468 rfl rfl dX12_go_308 ?_
                                  refine lv_aload_n hx hb dX12_go_311 rfl (lv_at hl 4 rfl) ?_
                                  refine r_get (v := .int (iI z1)) M w 0 6 clX12 rfl (by decide) G1469 rfl rfl dX12_go_312 ?_
                                  refine b_any (fun z266 z266_a z266_b => ?_)
                                  refine r_isub (v := _) M rfl dX12_go_315 ?_
                                  refine b_any (fun z267 z267_a z267_b => ?_)
                                  refine lv_iconst (v := iI 3) hx hb dX12_go_316 (by decide +kernel) ?_
                                  refine lv_icmp_ge (tgt := 337) hx hb dX12_go_317 (by decide) (fun c_268 => ?_) (fun c_268 => ?_)
                                  · replace c_268 := (iI_le (by decide) (by decide) (Int.le_trans (by decide) z267_a) (Int.le_trans z267_b (by decide))).mp c_268
                                    refine lv_aload_n hx hb dX12_go_337 rfl (lv_at hl 4 rfl) ?_
                                    refine lv_dup hx hb dX12_go_338 rfl ?_
                                    refine r_get (v := .int (iI z194)) M w 0 5 clX12 rfl (by decide) G1468 rfl rfl dX12_go_339 ?_
                                    refine lv_iconst (v := iI 1) hx hb dX12_go_342 (by decide +kernel) ?_
                                    refine r_iadd (v := iI (z194 + 1)) M (iI_add _ _) dX12_go_343 ?_
                                    refine r_put (ws' := [(a0, .inr (11, [.int r0, .ref a1, .int (iI x0), .int (iI x1), .int r1, .int (iI (z194 + 1)), .int (iI z1), .int (iI x3), .int (iI z195), .int r3, .int r4, .int r5, .long fy193, .int (iI x5), .ref a2, .ref a3, .ref a4, .ref a5, .ref a6, .ref a7, .ref a8, .ref a9, .ref a10, .ref a11, .int (iI x6), .ref a12, .ref a13, .ref a14, .ref a15, .int (iI x7), .int r6, .int r7, .ref a16, .int r8, .int r9, .ref a17, .ref a18, .int (iI x8), .ref a19, .int (iI x9), .int r10, .ref a20, .ref a21, .int (iI x10), .int r11, .ref a22, .int (iI x11), .int (iI x12), .int (iI x13), .int (iI x14)])), (a1, .inl (T 0, 940, .inl f0))]) M w 0 5 clX12 rfl (by decide) G1468 rfl rfl rfl rfl (Nat.le_of_ble_eq_true rfl) rfl dX12_go_344 (fun H locs w => ?_)
                                    refine lv_goto (tgt := 215) hx hb dX12_go_347 (by decide) ?_
                                    exact ih2 fy193 (z194 + 1) z195 1 _ _ _ (by omega) (by omega) z195_a z195_b (by decide) (by decide) (by omega) (by omega) w (lv_sub hl [0, 2, 3, 4] rfl)
                                  · replace c_268 : z267 < 3 := Int.not_le.mp (fun h => c_268 ((iI_le (by decide) (by decide) (Int.le_trans (by decide) z267_a) (Int.le_trans z267_b (by decide))).mpr h))
                                    refine lv_aload_n hx hb dX12_go_320 rfl (lv_at hl 4 rfl) ?_
                                    refine lv_bipush (v := iI 10) hx hb dX12_go_321 (by decide +kernel) ?_
                                    refine lv_aload_n hx hb dX12_go_323 rfl (lv_at hl 4 rfl) ?_
                                    refine r_get (v := .int (iI z195)) M w 0 8 clX12 rfl (by decide) G1471 rfl rfl dX12_go_324 ?_
                                    refine r_imul (v := _) M rfl dX12_go_327 ?_
                                    refine b_any (fun z269 z269_a z269_b => ?_)
                                    refine lv_iload hx hb dX12_go_328 (lv_at hl 1 rfl) ?_
                                    refine r_iadd (v := _) M rfl dX12_go_330 ?_
                                    refine b_any (fun z270 z270_a z270_b => ?_)
                                    refine lv_bipush (v := iI 48) hx hb dX12_go_331 (by decide +kernel) ?_
                                    refine r_isub (v := _) M rfl dX12_go_333 ?_
                                    refine b_any (fun z271 z271_a z271_b => ?_)
                                    refine r_put (ws' := [(a0, .inr (11, [.int r0, .ref a1, .int (iI x0), .int (iI x1), .int r1, .int (iI z194), .int (iI z1), .int (iI x3), .int (iI z271), .int r3, .int r4, .int r5, .long fy193, .int (iI x5), .ref a2, .ref a3, .ref a4, .ref a5, .ref a6, .ref a7, .ref a8, .ref a9, .ref a10, .ref a11, .int (iI x6), .ref a12, .ref a13, .ref a14, .ref a15, .int (iI x7), .int r6, .int r7, .ref a16, .int r8, .int r9, .ref a17, .ref a18, .int (iI x8), .ref a19, .int (iI x9), .int r10, .ref a20, .ref a21, .int (iI x10), .int r11, .ref a22, .int (iI x11), .int (iI x12), .int (iI x13), .int (iI x14)])), (a1, .inl (T 0, 940, .inl f0))]) M w 0 8 clX12 rfl (by decide) G1471 rfl rfl rfl rfl (Nat.le_of_ble_eq_true rfl) rfl dX12_go_334 (fun H locs w => ?_)
                                    refine lv_aload_n hx hb dX12_go_337 rfl (lv_at hl 4 rfl) ?_
                                    refine lv_dup hx hb dX12_go_338 rfl ?_
                                    refine r_get (v := .int (iI z194)) M w 0 5 clX12 rfl (by decide) G1468 rfl rfl dX12_go_339 ?_
                                    refine lv_iconst (v := iI 1) hx hb dX12_go_342 (by decide +kernel) ?_
                                    refine r_iadd (v := iI (z194 + 1)) M (iI_add _ _) dX12_go_343 ?_
                                    refine r_put (ws' := [(a0, .inr (11, [.int r0, .ref a1, .int (iI x0), .int (iI x1), .int r1, .int (iI (z194 + 1)), .int (iI z1), .int (iI x3), .int (iI z271), .int r3, .int r4, .int r5, .long fy193, .int (iI x5), .ref a2, .ref a3, .ref a4, .ref a5, .ref a6, .ref a7, .ref a8, .ref a9, .ref a10, .ref a11, .int (iI x6), .ref a12, .ref a13, .ref a14, .ref a15, .int (iI x7), .int r6, .int r7, .ref a16, .int r8, .int r9, .ref a17, .ref a18, .int (iI x8), .ref a19, .int (iI x9), .int r10, .ref a20, .ref a21, .int (iI x10), .int r11, .ref a22, .int (iI x11), .int (iI x12), .int (iI x13), .int (iI x14)])), (a1, .inl (T 0, 940, .inl f0))]) M w 0 5 clX12 rfl (by decide) G1468 rfl rfl rfl rfl (Nat.le_of_ble_eq_true rfl) rfl dX12_go_344 (fun H locs w => ?_)
                                    refine lv_goto (tgt := 215) hx hb dX12_go_347 (by decide) ?_
                                    exact ih2 fy193 (z194 + 1) z271 1 _ _ _ (by omega) (by omega) z271_a z271_b (by decide) (by decide) (by omega) (by omega) w (lv_sub hl [0, 2, 3, 4] rfl)
                                · replace c_265 : z264 < 7 := Int.not_le.mp (fun h => c_265 ((iI_le (by decide) (by decide) (Int.le_trans (by decide) z264_a) (Int.le_trans z264_b (by decide))).mpr h))
                                  refine lv_aload_n hx hb dX12_go_287 rfl (lv_at hl 4 rfl) ?_
                                  refine lv_ldc2 (v := 27) hx hb M.1.2.2.2.1 (M.1.2.2.2.2 _ G1641) dX12_go_288 ?_
                                  refine lv_aload_n hx hb dX12_go_291 rfl (lv_at hl 4 rfl) ?_
                                  refine r_get (v := .long fy193) M w 0 12 clX12 rfl (by decide) G1475 rfl rfl dX12_go_292 ?_
                                  refine r_lmul (v := _) M rfl dX12_go_295 ?_
                                  refine b_anyl (fun fy272 => ?_)
                                  refine lv_iload hx hb dX12_go_296 (lv_at hl 1 rfl) ?_
                                  refine lv_i2l (v := _) hx hb dX12_go_298 rfl ?_
                                  refine b_anyl (fun fy273 => ?_)
                                  refine r_ladd (v := _) M rfl dX12_go_299 ?_
                                  refine b_anyl (fun fy274 => ?_)
                                  refine lv_ldc2 (v := 96) hx hb M.1.2.2.2.1 (M.1.2.2.2.2 _ G1642) dX12_go_300 ?_
                                  refine r_lsub (v := _) M rfl dX12_go_303 ?_
                                  refine b_anyl (fun fy275 => ?_)
                                  refine r_put (ws' := [(a0, .inr (11, [.int r0, .ref a1, .int (iI x0), .int (iI x1), .int r1, .int (iI z194), .int (iI z1), .int (iI x3), .int (iI z195), .int r3, .int r4, .int r5, .long fy275, .int (iI x5), .ref a2, .ref a3, .ref a4, .ref a5, .ref a6, .ref a7, .ref a8, .ref a9, .ref a10, .ref a11, .int (iI x6), .ref a12, .ref a13, .ref a14, .ref a15, .int (iI x7), .int r6, .int r7, .ref a16, .int r8, .int r9, .ref a17, .ref a18, .int (iI x8), .ref a19, .int (iI x9), .int r10, .ref a20, .ref a21, .int (iI x10), .int r11, .ref a22, .int (iI x11), .int (iI x12), .int (iI x13), .int (iI x14)])), (a1, .inl (T 0, 940, .inl f0))]) M w 0 12 clX12 rfl (by decide) G1475 rfl rfl rfl rfl (Nat.le_of_ble_eq_true rfl) rfl dX12_go_304 (fun H locs w => ?_)
                                  refine lv_aload_n hx hb dX12_go_307 rfl (lv_at hl 4 rfl) ?_
                                  refine r_get (v := .int (iI z194)) M w 0 5 clX12 rfl (by decide) G1468 rfl rfl dX12_go_308 ?_
                                  refine lv_aload_n hx hb dX12_go_311 rfl (lv_at hl 4 rfl) ?_
                                  refine r_get (v := .int (iI z1)) M w 0 6 clX12 rfl (by decide) G1469 rfl rfl dX12_go_312 ?_
                                  refine b_any (fun z276 z276_a z276_b => ?_)
                                  refine r_isub (v := _) M rfl dX12_go_315 ?_
                                  refine b_any (fun z277 z277_a z277_b => ?_)
                                  refine lv_iconst (v := iI 3) hx hb dX12_go_316 (by decide +kernel) ?_
                                  refine lv_icmp_ge (tgt := 337) hx hb dX12_go_317 (by decide) (fun c_278 => ?_) (fun c_278 => ?_)
                                  · replace c_278 := (iI_le (by decide) (by decide) (Int.le_trans (by decide) z277_a) (Int.le_trans z277_b (by decide))).mp c_278
                                    refine lv_aload_n hx hb dX12_go_337 rfl (lv_at hl 4 rfl) ?_
                                    refine lv_dup hx hb dX12_go_338 rfl ?_
                                    refine r_get (v := .int (iI z194)) M w 0 5 clX12 rfl (by decide) G1468 rfl rfl dX12_go_339 ?_
                                    refine lv_iconst (v := iI 1) hx hb dX12_go_342 (by decide +kernel) ?_
                                    refine r_iadd (v := iI (z194 + 1)) M (iI_add _ _) dX12_go_343 ?_
                                    refine r_put (ws' := [(a0, .inr (11, [.int r0, .ref a1, .int (iI x0), .int (iI x1), .int r1, .int (iI (z194 + 1)), .int (iI z1), .int (iI x3), .int (iI z195), .int r3, .int r4, .int r5, .long fy275, .int (iI x5), .ref a2, .ref a3, .ref a4, .ref a5, .ref a6, .ref a7, .ref a8, .ref a9, .ref a10, .ref a11, .int (iI x6), .ref a12, .ref a13, .ref a14, .ref a15, .int (iI x7), .int r6, .int r7, .ref a16, .int r8, .int r9, .ref a17, .ref a18, .int (iI x8), .ref a19, .int (iI x9), .int r10, .ref a20, .ref a21, .int (iI x10), .int r11, .ref a22, .int (iI x11), .int (iI x12), .int (iI x13), .int (iI x14)])), (a1, .inl (T 0, 940, .inl f0))]) M w 0 5 clX12 rfl (by decide) G1468 rfl rfl rfl rfl (Nat.le_of_ble_eq_true rfl) rfl dX12_go_344 (fun H locs w => ?_)
                                    refine lv_goto (tgt := 215) hx hb dX12_go_347 (by decide) ?_
                                    exact ih2 fy275 (z194 + 1) z195 1 _ _ _ (by omega) (by omega) z195_a z195_b (by decide) (by decide) (by omega) (by omega) w (lv_sub hl [0, 2, 3, 4] rfl)
                                  · replace c_278 : z277 < 3 := Int.not_le.mp (fun h => c_278 ((iI_le (by decide) (by decide) (Int.le_trans (by decide) z277_a) (Int.le_trans z277_b (by decide))).mpr h))
                                    refine lv_aload_n hx hb dX12_go_320 rfl (lv_at hl 4 rfl) ?_
                                    refine lv_bipush (v := iI 10) hx hb dX12_go_321 (by decide +kernel) ?_
                                    refine lv_aload_n hx hb dX12_go_323 rfl (lv_at hl 4 rfl) ?_
                                    refine r_get (v := .int (iI z195)) M w 0 8 clX12 rfl (by decide) G1471 rfl rfl dX12_go_324 ?_
                                    refine r_imul (v := _) M rfl dX12_go_327 ?_
                                    refine b_any (fun z279 z279_a z279_b => ?_)
                                    refine lv_iload hx hb dX12_go_328 (lv_at hl 1 rfl) ?_
                                    refine r_iadd (v := _) M rfl dX12_go_330 ?_
                                    refine b_any (fun z280 z280_a z280_b => ?_)
                                    refine lv_bipush (v := iI 48) hx hb dX12_go_331 (by decide +kernel) ?_
                                    refine r_isub (v := _) M rfl dX12_go_333 ?_
                                    refine b_any (fun z281 z281_a z281_b => ?_)
                                    refine r_put (ws' := [(a0, .inr (11, [.int r0, .ref a1, .int (iI x0), .int (iI x1), .int r1, .int (iI z194), .int (iI z1), .int (iI x3), .int (iI z281), .int r3, .int r4, .int r5, .long fy275, .int (iI x5), .ref a2, .ref a3, .ref a4, .ref a5, .ref a6, .ref a7, .ref a8, .ref a9, .ref a10, .ref a11, .int (iI x6), .ref a12, .ref a13, .ref a14, .ref a15, .int (iI x7), .int r6, .int r7, .ref a16, .int r8, .int r9, .ref a17, .ref a18, .int (iI x8), .ref a19, .int (iI x9), .int r10, .ref a20, .ref a21, .int (iI x10), .int r11, .ref a22, .int (iI x11), .int (iI x12), .int (iI x13), .int (iI x14)])), (a1, .inl (T 0, 940, .inl f0))]) M w 0 8 clX12 rfl (by decide) G1471 rfl rfl rfl rfl (Nat.le_of_ble_eq_true rfl) rfl dX12_go_334 (fun H locs w => ?_)
                                    refine lv_aload_n hx hb dX12_go_337 rfl (lv_at hl 4 rfl) ?_
                                    refine lv_dup hx hb dX12_go_338 rfl ?_
                                    refine r_get (v := .int (iI z194)) M w 0 5 clX12 rfl (by decide) G1468 rfl rfl dX12_go_339 ?_
                                    refine lv_iconst (v := iI 1) hx hb dX12_go_342 (by decide +kernel) ?_
                                    refine r_iadd (v := iI (z194 + 1)) M (iI_add _ _) dX12_go_343 ?_
                                    refine r_put (ws' := [(a0, .inr (11, [.int r0, .ref a1, .int (iI x0), .int (iI x1), .int r1, .int (iI (z194 + 1)), .int (iI z1), .int (iI x3), .int (iI z281), .int r3, .int r4, .int r5, .long fy275, .int (iI x5), .ref a2, .ref a3, .ref a4, .ref a5, .ref a6, .ref a7, .ref a8, .ref a9, .ref a10, .ref a11, .int (iI x6), .ref a12, .ref a13, .ref a14, .ref a15, .int (iI x7), .int r6, .int r7, .ref a16, .int r8, .int r9, .ref a17, .ref a18, .int (iI x8), .ref a19, .int (iI x9), .int r10, .ref a20, .ref a21, .int (iI x10), .int r11, .ref a22, .int (iI x11), .int (iI x12), .int (iI x13), .int (iI x14)])), (a1, .inl (T 0, 940, .inl f0))]) M w 0 5 clX12 rfl (by decide) G1468 rfl rfl rfl rfl (Nat.le_of_ble_eq_true rfl) rfl dX12_go_344 (fun H locs w => ?_)
                                    refine lv_goto (tgt := 215) hx hb dX12_go_347 (by decide) ?_
                                    exact ih2 fy275 (z194 + 1) z281 1 _ _ _ (by omega) (by omega) z281_a z281_b (by decide) (by decide) (by omega) (by omega) w (lv_sub hl [0, 2, 3, 4] rfl)
                          · replace c_219 := (iz_eq (Int.le_trans (by decide) z217_a) (Int.le_trans z217_b (by decide))).mp c_219
                            refine lv_aload_n hx hb dX12_go_229 rfl (lv_at hl 3 rfl) ?_
                            refine lv_aload_n hx hb dX12_go_230 rfl (lv_at hl 3 rfl) ?_
                            refine r_get (v := .int (iI z194)) M w 0 5 clX12 rfl (by decide) G1468 rfl rfl dX12_go_231 ?_
                            refine k_I (ce := 0) (sl := 0) (rest := []) (wr := []) (r_V (f := 0) [0, 1] M w V_HookedCityModel_50 G1639 G50 (c9_X12_tapeAt l D T _ a0 z194 r0 a1 x0 x1 r1 z194 (iI z1) x3 z195 r3 r4 r5 fy193 x5 a2 a3 a4 a5 a6 a7 a8 a9 a10 a11 x6 a12 a13 a14 a15 x7 r6 r7 a16 r8 r9 a17 a18 x8 a19 x9 r10 a20 a21 x10 r11 a22 x11 x12 x13 x14 f0 z194_a z194_b x0_a x0_b x1_a x1_b z194_a z194_b x3_a x3_b z195_a z195_b x5_a x5_b x6_a x6_b x7_a x7_b x8_a x8_b x9_a x9_b x10_a x10_b x11_a x11_b x12_a x12_b x13_a x13_b x14_a x14_b) 0 clX12 rfl rfl (by decide) rfl hl.1 rfl (Nat.le_of_ble_eq_true rfl) dX12_go_234 (by decide) (by decide) (by decide) (by decide)) w [0, 1] [] rfl rfl (by decide) (by decide) rfl rfl (fun v z282 H locs hp w => ?_)
                            have hv : iI z282 = v := hp.1
                            subst hv
                            have z282_a : (-2147483648) ≤ z282 := hp.2.1
                            have z282_b : z282 ≤ 2147483647 := hp.2.2.1
                            have w : WD D A s.heap [(a0, .inr (11, [.int r0, .ref a1, .int (iI x0), .int (iI x1), .int r1, .int (iI z194), .int (iI z1), .int (iI x3), .int (iI z195), .int r3, .int r4, .int r5, .long fy193, .int (iI x5), .ref a2, .ref a3, .ref a4, .ref a5, .ref a6, .ref a7, .ref a8, .ref a9, .ref a10, .ref a11, .int (iI x6), .ref a12, .ref a13, .ref a14, .ref a15, .int (iI x7), .int r6, .int r7, .ref a16, .int r8, .int r9, .ref a17, .ref a18, .int (iI x8), .ref a19, .int (iI x9), .int r10, .ref a20, .ref a21, .int (iI x10), .int r11, .ref a22, .int (iI x11), .int (iI x12), .int (iI x13), .int (iI x14)])), (a1, .inl (T 0, 940, .inl f0))] H locs := w
                            rcases hp.2.2.2 with ⟨c_283, hr⟩ | c_284
                            · exfalso; omega
                            · refine k_I (ce := 0) (sl := 0) (rest := []) (wr := [(a0, .inr (11, [.int r0, .ref a1, .int (iI x0), .int (iI x1), .int r1, .int (iI z194), .int (iI z1), .int (iI x3), .int (iI z195), .int r3, .int r4, .int r5, .long fy193, .int (iI x5), .ref a2, .ref a3, .ref a4, .ref a5, .ref a6, .ref a7, .ref a8, .ref a9, .ref a10, .ref a11, .int (iI x6), .ref a12, .ref a13, .ref a14, .ref a15, .int (iI x7), .int r6, .int r7, .ref a16, .int r8, .int r9, .ref a17, .ref a18, .int (iI x8), .ref a19, .int (iI x9), .int r10, .ref a20, .ref a21, .int (iI x10), .int r11, .ref a22, .int (iI x11), .int (iI x12), .int (iI x13), .int (iI x14)])), (a1, .inl (T 0, 940, .inl f0))]) (r_S (f := 0) [] M w V_HookedCityModel_37 G1635 (c10_X12_isDigit l D T _ z282 z282_a z282_b) rfl (by decide) rfl hl.1 rfl (Nat.le_of_ble_eq_true rfl) dX12_go_237 (by decide) (by decide) (by decide) (by decide)) w [] [0, 1] rfl rfl (by decide) (by decide) rfl rfl (fun v z285 H locs hp w => ?_)
                              have hv : iI z285 = v := hp.1
                              subst hv
                              have z285_a : 0 ≤ z285 := hp.2.1
                              have z285_b : z285 ≤ 1 := hp.2.2.1
                              have ee286 : 0 ≤ ((z282 + 4294967296) - (z285 * 4294967344)) := hp.2.2.2
                              have w : WD D A s.heap [(a0, .inr (11, [.int r0, .ref a1, .int (iI x0), .int (iI x1), .int r1, .int (iI z194), .int (iI z1), .int (iI x3), .int (iI z195), .int r3, .int r4, .int r5, .long fy193, .int (iI x5), .ref a2, .ref a3, .ref a4, .ref a5, .ref a6, .ref a7, .ref a8, .ref a9, .ref a10, .ref a11, .int (iI x6), .ref a12, .ref a13, .ref a14, .ref a15, .int (iI x7), .int r6, .int r7, .ref a16, .int r8, .int r9, .ref a17, .ref a18, .int (iI x8), .ref a19, .int (iI x9), .int r10, .ref a20, .ref a21, .int (iI x10), .int r11, .ref a22, .int (iI x11), .int (iI x12), .int (iI x13), .int (iI x14)])), (a1, .inl (T 0, 940, .inl f0))] H locs := w
                              refine lv_if_eq (tgt := 350) hx hb dX12_go_240 (by decide) (fun c_287 => ?_) (fun c_287 => ?_)
                              · replace c_287 := (iz_eq (Int.le_trans (by decide) z285_a) (Int.le_trans z285_b (by decide))).mp c_287
                                refine lv_aload_n hx hb dX12_go_350 rfl (lv_at hl 3 rfl) ?_
                                refine lv_iload_n hx hb dX12_go_351 rfl (lv_at hl 0 rfl) ?_
                                refine lv_if_eq (tgt := 377) hx hb dX12_go_352 (by decide) (fun c_288 => ?_) (fun c_288 => ?_)
                                · replace c_288 := (iz_eq (Int.le_trans (by decide) z196_a) (Int.le_trans z196_b (by decide))).mp c_288
                                  refine lv_iconst (v := iI 1) hx hb dX12_go_377 (by decide +kernel) ?_
                                  refine lv_goto (tgt := 390) hx hb dX12_go_378 (by decide) ?_
                                  refine r_put (ws' := [(a0, .inr (11, [.int r0, .ref a1, .int (iI x0), .int (iI x1), .int r1, .int (iI z194), .int (iI z1), .int (iI 1), .int (iI z195), .int r3, .int r4, .int r5, .long fy193, .int (iI x5), .ref a2, .ref a3, .ref a4, .ref a5, .ref a6, .ref a7, .ref a8, .ref a9, .ref a10, .ref a11, .int (iI x6), .ref a12, .ref a13, .ref a14, .ref a15, .int (iI x7), .int r6, .int r7, .ref a16, .int r8, .int r9, .ref a17, .ref a18, .int (iI x8), .ref a19, .int (iI x9), .int r10, .ref a20, .ref a21, .int (iI x10), .int r11, .ref a22, .int (iI x11), .int (iI x12), .int (iI x13), .int (iI x14)])), (a1, .inl (T 0, 940, .inl f0))]) M w 0 7 clX12 rfl (by decide) G1470 rfl rfl rfl rfl (Nat.le_of_ble_eq_true rfl) rfl dX12_go_390 (fun H locs w => ?_)
                                  exact ret (z194, (iI z1), 1, z195, r3, fy193) _ _ _ _ _ [0, 1] dX12_go_393 ⟨z194_a, z194_b, (show (0 : Int) ≤ 1 from by decide), (show (1 : Int) ≤ 4 from by decide), z195_a, z195_b, (show 0 ≤ (z194 - x2) from by omega), (show 0 ≤ (((z194 - x2) - 1) + 3) from by omega)⟩ w (by decide) rfl
                                · replace c_288 : ¬ z196 = 0 := fun h => c_288 ((iz_eq (Int.le_trans (by decide) z196_a) (Int.le_trans z196_b (by decide))).mpr h)
                                  refine lv_aload_n hx hb dX12_go_355 rfl (lv_at hl 3 rfl) ?_
                                  refine r_get (v := .int (iI z194)) M w 0 5 clX12 rfl (by decide) G1468 rfl rfl dX12_go_356 ?_
                                  refine lv_aload_n hx hb dX12_go_359 rfl (lv_at hl 3 rfl) ?_
                                  refine r_get (v := .int (iI z1)) M w 0 6 clX12 rfl (by decide) G1469 rfl rfl dX12_go_360 ?_
                                  refine b_any (fun z289 z289_a z289_b => ?_)
                                  refine r_isub (v := _) M rfl dX12_go_363 ?_
                                  refine b_any (fun z290 z290_a z290_b => ?_)
                                  refine lv_iload_n hx hb dX12_go_364 rfl (lv_at hl 1 rfl) ?_
                                  refine lv_if_eq (tgt := 373) hx hb dX12_go_365 (by decide) (fun c_291 => ?_) (fun c_291 => ?_)
                                  · replace c_291 := (iz_eq (Int.le_trans (by decide) z191_a) (Int.le_trans z191_b (by decide))).mp c_291
                                    refine lv_iconst (v := iI 3) hx hb dX12_go_373 (by decide +kernel) ?_
                                    refine lv_icmp_le (tgt := 381) hx hb dX12_go_374 (by decide) (fun c_292 => ?_) (fun c_292 => ?_)
                                    · replace c_292 := (iI_le (Int.le_trans (by decide) z290_a) (Int.le_trans z290_b (by decide)) (by decide) (by decide)).mp c_292
                                      refine lv_iload_n hx hb dX12_go_381 rfl (lv_at hl 1 rfl) ?_
                                      refine lv_if_eq (tgt := 389) hx hb dX12_go_382 (by decide) (fun c_293 => ?_) (fun c_293 => ?_)
                                      · replace c_293 := (iz_eq (Int.le_trans (by decide) z191_a) (Int.le_trans z191_b (by decide))).mp c_293
                                        refine lv_iconst (v := iI 3) hx hb dX12_go_389 (by decide +kernel) ?_
                                        refine r_put (ws' := [(a0, .inr (11, [.int r0, .ref a1, .int (iI x0), .int (iI x1), .int r1, .int (iI z194), .int (iI z1), .int (iI 3), .int (iI z195), .int r3, .int r4, .int r5, .long fy193, .int (iI x5), .ref a2, .ref a3, .ref a4, .ref a5, .ref a6, .ref a7, .ref a8, .ref a9, .ref a10, .ref a11, .int (iI x6), .ref a12, .ref a13, .ref a14, .ref a15, .int (iI x7), .int r6, .int r7, .ref a16, .int r8, .int r9, .ref a17, .ref a18, .int (iI x8), .ref a19, .int (iI x9), .int r10, .ref a20, .ref a21, .int (iI x10), .int r11, .ref a22, .int (iI x11), .int (iI x12), .int (iI x13), .int (iI x14)])), (a1, .inl (T 0, 940, .inl f0))]) M w 0 7 clX12 rfl (by decide) G1470 rfl rfl rfl rfl (Nat.le_of_ble_eq_true rfl) rfl dX12_go_390 (fun H locs w => ?_)
                                        exact ret (z194, (iI z1), 3, z195, r3, fy193) _ _ _ _ _ [0, 1] dX12_go_393 ⟨z194_a, z194_b, (show (0 : Int) ≤ 3 from by decide), (show (3 : Int) ≤ 4 from by decide), z195_a, z195_b, (show 0 ≤ (z194 - x2) from by omega), (show 0 ≤ (((z194 - x2) - 3) + 3) from by omega)⟩ w (by decide) rfl
                                      · replace c_293 : ¬ z191 = 0 := fun h => c_293 ((iz_eq (Int.le_trans (by decide) z191_a) (Int.le_trans z191_b (by decide))).mpr h)
                                        exfalso; omega
                                    · replace c_292 : 3 < z290 := Int.not_le.mp (fun h => c_292 ((iI_le (Int.le_trans (by decide) z290_a) (Int.le_trans z290_b (by decide)) (by decide) (by decide)).mpr h))
                                      refine lv_iconst (v := iI 1) hx hb dX12_go_377 (by decide +kernel) ?_
                                      refine lv_goto (tgt := 390) hx hb dX12_go_378 (by decide) ?_
                                      refine r_put (ws' := [(a0, .inr (11, [.int r0, .ref a1, .int (iI x0), .int (iI x1), .int r1, .int (iI z194), .int (iI z1), .int (iI 1), .int (iI z195), .int r3, .int r4, .int r5, .long fy193, .int (iI x5), .ref a2, .ref a3, .ref a4, .ref a5, .ref a6, .ref a7, .ref a8, .ref a9, .ref a10, .ref a11, .int (iI x6), .ref a12, .ref a13, .ref a14, .ref a15, .int (iI x7), .int r6, .int r7, .ref a16, .int r8, .int r9, .ref a17, .ref a18, .int (iI x8), .ref a19, .int (iI x9), .int r10, .ref a20, .ref a21, .int (iI x10), .int r11, .ref a22, .int (iI x11), .int (iI x12), .int (iI x13), .int (iI x14)])), (a1, .inl (T 0, 940, .inl f0))]) M w 0 7 clX12 rfl (by decide) G1470 rfl rfl rfl rfl (Nat.le_of_ble_eq_true rfl) rfl dX12_go_390 (fun H locs w => ?_)
                                      exact ret (z194, (iI z1), 1, z195, r3, fy193) _ _ _ _ _ [0, 1] dX12_go_393 ⟨z194_a, z194_b, (show (0 : Int) ≤ 1 from by decide), (show (1 : Int) ≤ 4 from by decide), z195_a, z195_b, (show 0 ≤ (z194 - x2) from by omega), (show 0 ≤ (((z194 - x2) - 1) + 3) from by omega)⟩ w (by decide) rfl
                                  · replace c_291 : ¬ z191 = 0 := fun h => c_291 ((iz_eq (Int.le_trans (by decide) z191_a) (Int.le_trans z191_b (by decide))).mpr h)
                                    refine lv_bipush (v := iI 7) hx hb dX12_go_368 (by decide +kernel) ?_
                                    refine lv_goto (tgt := 374) hx hb dX12_go_370 (by decide) ?_
                                    refine lv_icmp_le (tgt := 381) hx hb dX12_go_374 (by decide) (fun c_294 => ?_) (fun c_294 => ?_)
                                    · replace c_294 := (iI_le (Int.le_trans (by decide) z290_a) (Int.le_trans z290_b (by decide)) (by decide) (by decide)).mp c_294
                                      refine lv_iload_n hx hb dX12_go_381 rfl (lv_at hl 1 rfl) ?_
                                      refine lv_if_eq (tgt := 389) hx hb dX12_go_382 (by decide) (fun c_295 => ?_) (fun c_295 => ?_)
                                      · replace c_295 := (iz_eq (Int.le_trans (by decide) z191_a) (Int.le_trans z191_b (by decide))).mp c_295
                                        exfalso; omega
                                      · replace c_295 : ¬ z191 = 0 := fun h => c_295 ((iz_eq (Int.le_trans (by decide) z191_a) (Int.le_trans z191_b (by decide))).mpr h)
                                        refine lv_iconst (v := iI 2) hx hb dX12_go_385 (by decide +kernel) ?_
                                        refine lv_goto (tgt := 390) hx hb dX12_go_386 (by decide) ?_
                                        refine r_put (ws' := [(a0, .inr (11, [.int r0, .ref a1, .int (iI x0), .int (iI x1), .int r1, .int (iI z194), .int (iI z1), .int (iI 2), .int (iI z195), .int r3, .int r4, .int r5, .long fy193, .int (iI x5), .ref a2, .ref a3, .ref a4, .ref a5, .ref a6, .ref a7, .ref a8, .ref a9, .ref a10, .ref a11, .int (iI x6), .ref a12, .ref a13, .ref a14, .ref a15, .int (iI x7), .int r6, .int r7, .ref a16, .int r8, .int r9, .ref a17, .ref a18, .int (iI x8), .ref a19, .int (iI x9), .int r10, .ref a20, .ref a21, .int (iI x10), .int r11, .ref a22, .int (iI x11), .int (iI x12), .int (iI x13), .int (iI x14)])), (a1, .inl (T 0, 940, .inl f0))]) M w 0 7 clX12 rfl (by decide) G1470 rfl rfl rfl rfl (Nat.le_of_ble_eq_true rfl) rfl dX12_go_390 (fun H locs w => ?_)
                                        exact ret (z194, (iI z1), 2, z195, r3, fy193) _ _ _ _ _ [0, 1] dX12_go_393 ⟨z194_a, z194_b, (show (0 : Int) ≤ 2 from by decide), (show (2 : Int) ≤ 4 from by decide), z195_a, z195_b, (show 0 ≤ (z194 - x2) from by omega), (show 0 ≤ (((z194 - x2) - 2) + 3) from by omega)⟩ w (by decide) rfl
                                    · replace c_294 : 7 < z290 := Int.not_le.mp (fun h => c_294 ((iI_le (Int.le_trans (by decide) z290_a) (Int.le_trans z290_b (by decide)) (by decide) (by decide)).mpr h))
                                      refine lv_iconst (v := iI 1) hx hb dX12_go_377 (by decide +kernel) ?_
                                      refine lv_goto (tgt := 390) hx hb dX12_go_378 (by decide) ?_
                                      refine r_put (ws' := [(a0, .inr (11, [.int r0, .ref a1, .int (iI x0), .int (iI x1), .int r1, .int (iI z194), .int (iI z1), .int (iI 1), .int (iI z195), .int r3, .int r4, .int r5, .long fy193, .int (iI x5), .ref a2, .ref a3, .ref a4, .ref a5, .ref a6, .ref a7, .ref a8, .ref a9, .ref a10, .ref a11, .int (iI x6), .ref a12, .ref a13, .ref a14, .ref a15, .int (iI x7), .int r6, .int r7, .ref a16, .int r8, .int r9, .ref a17, .ref a18, .int (iI x8), .ref a19, .int (iI x9), .int r10, .ref a20, .ref a21, .int (iI x10), .int r11, .ref a22, .int (iI x11), .int (iI x12), .int (iI x13), .int (iI x14)])), (a1, .inl (T 0, 940, .inl f0))]) M w 0 7 clX12 rfl (by decide) G1470 rfl rfl rfl rfl (Nat.le_of_ble_eq_true rfl) rfl dX12_go_390 (fun H locs w => ?_)
                                      exact ret (z194, (iI z1), 1, z195, r3, fy193) _ _ _ _ _ [0, 1] dX12_go_393 ⟨z194_a, z194_b, (show (0 : Int) ≤ 1 from by decide), (show (1 : Int) ≤ 4 from by decide), z195_a, z195_b, (show 0 ≤ (z194 - x2) from by omega), (show 0 ≤ (((z194 - x2) - 1) + 3) from by omega)⟩ w (by decide) rfl
                              · replace c_287 : ¬ z285 = 0 := fun h => c_287 ((iz_eq (Int.le_trans (by decide) z285_a) (Int.le_trans z285_b (by decide))).mpr h)
                                refine lv_aload_n hx hb dX12_go_243 rfl (lv_at hl 3 rfl) ?_
                                refine r_get (v := .ref a1) M w 0 1 clX12 rfl (by decide) G1464 rfl rfl dX12_go_244 ?_
                                refine lv_aload_n hx hb dX12_go_247 rfl (lv_at hl 3 rfl) ?_
                                refine r_get (v := .int (iI z194)) M w 0 5 clX12 rfl (by decide) G1468 rfl rfl dX12_go_248 ?_
                                refine r_iald (v := _) M w 1 rfl (iI_in (by omega) (by omega) (by decide)) rfl dX12_go_251 ?_
                                refine b_any (fun z296 z296_a z296_b => ?_)
                                refine lv_istore (lv' := [(4, .int (iI z296)), (3, .int (iI z196)), (2, .int (iI z191)), (1, .int (iI z17)), (0, .ref a0)]) hx hb dX12_go_252 hl (by decide) rfl (fun ls hl => ?_)
                                refine lv_iload_n hx hb dX12_go_254 rfl (lv_at hl 1 rfl) ?_
                                refine lv_if_eq (tgt := 271) hx hb dX12_go_255 (by decide) (fun c_297 => ?_) (fun c_297 => ?_)
                                · replace c_297 := (iz_eq (Int.le_trans (by decide) z196_a) (Int.le_trans z196_b (by decide))).mp c_297
                                  refine lv_iconst (v := iI 0) hx hb dX12_go_271 (by decide +kernel) ?_
                                  refine lv_istore_n (lv' := [(3, .int (iI 0)), (4, .int (iI z296)), (2, .int (iI z191)), (1, .int (iI z17)), (0, .ref a0)]) hx hb dX12_go_272 rfl hl (by decide) rfl (fun ls hl => ?_)
                                  refine lv_aload_n hx hb dX12_go_273 rfl (lv_at hl 4 rfl) ?_
                                  refine r_get (v := .int (iI z194)) M w 0 5 clX12 rfl (by decide) G1468 rfl rfl dX12_go_274 ?_
                                  refine lv_aload_n hx hb dX12_go_277 rfl (lv_at hl 4 rfl) ?_
                                  refine r_get (v := .int (iI z1)) M w 0 6 clX12 rfl (by decide) G1469 rfl rfl dX12_go_278 ?_
                                  refine b_any (fun z298 z298_a z298_b => ?_)
                                  refine r_isub (v := _) M rfl dX12_go_281 ?_
                                  refine b_any (fun z299 z299_a z299_b => ?_)
                                  refine lv_bipush (v := iI 7) hx hb dX12_go_282 (by decide +kernel) ?_
                                  refine lv_icmp_ge (tgt := 307) hx hb dX12_go_284 (by decide) (fun c_300 => ?_) (fun c_300 => ?_)
                                  · replace c_300 := (iI_le (by decide) (by decide) (Int.le_trans (by decide) z299_a) (Int.le_trans z299_b (by decide))).mp c_300
                                    refine lv_aload_n hx hb dX12_go_307 rfl (lv_at hl 4 rfl) ?_
                                    refine r_get (v := .int (iI z194)) M w 0 5 clX12 rfl (by decide) G1468 rfl rfl dX12_go_308 ?_
                                    refine lv_aload_n hx hb dX12_go_311 rfl (lv_at hl 4 rfl) ?_
                                    refine r_get (v := .int (iI z1)) M w 0 6 clX12 rfl (by decide) G1469 rfl rfl dX12_go_312 ?_
                                    refine b_any (fun z301 z301_a z301_b => ?_)
                                    refine r_isub (v := _) M rfl dX12_go_315 ?_
                                    refine b_any (fun z302 z302_a z302_b => ?_)
                                    refine lv_iconst (v := iI 3) hx hb dX12_go_316 (by decide +kernel) ?_
                                    refine lv_icmp_ge (tgt := 337) hx hb dX12_go_317 (by decide) (fun c_303 => ?_) (fun c_303 => ?_)
                                    · replace c_303 := (iI_le (by decide) (by decide) (Int.le_trans (by decide) z302_a) (Int.le_trans z302_b (by decide))).mp c_303
                                      refine lv_aload_n hx hb dX12_go_337 rfl (lv_at hl 4 rfl) ?_
                                      refine lv_dup hx hb dX12_go_338 rfl ?_
                                      refine r_get (v := .int (iI z194)) M w 0 5 clX12 rfl (by decide) G1468 rfl rfl dX12_go_339 ?_
                                      refine lv_iconst (v := iI 1) hx hb dX12_go_342 (by decide +kernel) ?_
                                      refine r_iadd (v := iI (z194 + 1)) M (iI_add _ _) dX12_go_343 ?_
                                      refine r_put (ws' := [(a0, .inr (11, [.int r0, .ref a1, .int (iI x0), .int (iI x1), .int r1, .int (iI (z194 + 1)), .int (iI z1), .int (iI x3), .int (iI z195), .int r3, .int r4, .int r5, .long fy193, .int (iI x5), .ref a2, .ref a3, .ref a4, .ref a5, .ref a6, .ref a7, .ref a8, .ref a9, .ref a10, .ref a11, .int (iI x6), .ref a12, .ref a13, .ref a14, .ref a15, .int (iI x7), .int r6, .int r7, .ref a16, .int r8, .int r9, .ref a17, .ref a18, .int (iI x8), .ref a19, .int (iI x9), .int r10, .ref a20, .ref a21, .int (iI x10), .int r11, .ref a22, .int (iI x11), .int (iI x12), .int (iI x13), .int (iI x14)])), (a1, .inl (T 0, 940, .inl f0))]) M w 0 5 clX12 rfl (by decide) G1468 rfl rfl rfl rfl (Nat.le_of_ble_eq_true rfl) rfl dX12_go_344 (fun H locs w => ?_)
                                      refine lv_goto (tgt := 215) hx hb dX12_go_347 (by decide) ?_
                                      exact ih2 fy193 (z194 + 1) z195 0 _ _ _ (by omega) (by omega) z195_a z195_b (by decide) (by decide) (by omega) (by omega) w (lv_sub hl [0, 2, 3, 4] rfl)
                                    · replace c_303 : z302 < 3 := Int.not_le.mp (fun h => c_303 ((iI_le (by decide) (by decide) (Int.le_trans (by decide) z302_a) (Int.le_trans z302_b (by decide))).mpr h))
                                      refine lv_aload_n hx hb dX12_go_320 rfl (lv_at hl 4 rfl) ?_
                                      refine lv_bipush (v := iI 10) hx hb dX12_go_321 (by decide +kernel) ?_
                                      refine lv_aload_n hx hb dX12_go_323 rfl (lv_at hl 4 rfl) ?_
                                      refine r_get (v := .int (iI z195)) M w 0 8 clX12 rfl (by decide) G1471 rfl rfl dX12_go_324 ?_
                                      refine r_imul (v := _) M rfl dX12_go_327 ?_
                                      refine b_any (fun z304 z304_a z304_b => ?_)
                                      refine lv_iload hx hb dX12_go_328 (lv_at hl 1 rfl) ?_
                                      refine r_iadd (v := _) M rfl dX12_go_330 ?_
                                      refine b_any (fun z305 z305_a z305_b => ?_)
                                      refine lv_bipush (v := iI 48) hx hb dX12_go_331 (by decide +kernel) ?_
                                      refine r_isub (v := _) M rfl dX12_go_333 ?_
                                      refine b_any (fun z306 z306_a z306_b => ?_)
                                      refine r_put (ws' := [(a0, .inr (11, [.int r0, .ref a1, .int (iI x0), .int (iI x1), .int r1, .int (iI z194), .int (iI z1), .int (iI x3), .int (iI z306), .int r3, .int r4, .int r5, .long fy193, .int (iI x5), .ref a2, .ref a3, .ref a4, .ref a5, .ref a6, .ref a7, .ref a8, .ref a9, .ref a10, .ref a11, .int (iI x6), .ref a12, .ref a13, .ref a14, .ref a15, .int (iI x7), .int r6, .int r7, .ref a16, .int r8, .int r9, .ref a17, .ref a18, .int (iI x8), .ref a19, .int (iI x9), .int r10, .ref a20, .ref a21, .int (iI x10), .int r11, .ref a22, .int (iI x11), .int (iI x12), .int (iI x13), .int (iI x14)])), (a1, .inl (T 0, 940, .inl f0))]) M w 0 8 clX12 rfl (by decide) G1471 rfl rfl rfl rfl (Nat.le_of_ble_eq_true rfl) rfl dX12_go_334 (fun H locs w => ?_)
                                      refine lv_aload_n hx hb dX12_go_337 rfl (lv_at hl 4 rfl) ?_
                                      refine lv_dup hx hb dX12_go_338 rfl ?_
                                      refine r_get (v := .int (iI z194)) M w 0 5 clX12 rfl (by decide) G1468 rfl rfl dX12_go_339 ?_
                                      refine lv_iconst (v := iI 1) hx hb dX12_go_342 (by decide +kernel) ?_
                                      refine r_iadd (v := iI (z194 + 1)) M (iI_add _ _) dX12_go_343 ?_
                                      refine r_put (ws' := [(a0, .inr (11, [.int r0, .ref a1, .int (iI x0), .int (iI x1), .int r1, .int (iI (z194 + 1)), .int (iI z1), .int (iI x3), .int (iI z306), .int r3, .int r4, .int r5, .long fy193, .int (iI x5), .ref a2, .ref a3, .ref a4, .ref a5, .ref a6, .ref a7, .ref a8, .ref a9, .ref a10, .ref a11, .int (iI x6), .ref a12, .ref a13, .ref a14, .ref a15, .int (iI x7), .int r6, .int r7, .ref a16, .int r8, .int r9, .ref a17, .ref a18, .int (iI x8), .ref a19, .int (iI x9), .int r10, .ref a20, .ref a21, .int (iI x10), .int r11, .ref a22, .int (iI x11), .int (iI x12), .int (iI x13), .int (iI x14)])), (a1, .inl (T 0, 940, .inl f0))]) M w 0 5 clX12 rfl (by decide) G1468 rfl rfl rfl rfl (Nat.le_of_ble_eq_true rfl) rfl dX12_go_344 (fun H locs w => ?_)
                                      refine lv_goto (tgt := 215) hx hb dX12_go_347 (by decide) ?_
                                      exact ih2 fy193 (z194 + 1) z306 0 _ _ _ (by omega) (by omega) z306_a z306_b (by decide) (by decide) (by omega) (by omega) w (lv_sub hl [0, 2, 3, 4] rfl)
                                  · replace c_300 : z299 < 7 := Int.not_le.mp (fun h => c_300 ((iI_le (by decide) (by decide) (Int.le_trans (by decide) z299_a) (Int.le_trans z299_b (by decide))).mpr h))
                                    refine lv_aload_n hx hb dX12_go_287 rfl (lv_at hl 4 rfl) ?_
                                    refine lv_ldc2 (v := 27) hx hb M.1.2.2.2.1 (M.1.2.2.2.2 _ G1641) dX12_go_288 ?_
                                    refine lv_aload_n hx hb dX12_go_291 rfl (lv_at hl 4 rfl) ?_
                                    refine r_get (v := .long fy193) M w 0 12 clX12 rfl (by decide) G1475 rfl rfl dX12_go_292 ?_
                                    refine r_lmul (v := _) M rfl dX12_go_295 ?_
                                    refine b_anyl (fun fy307 => ?_)
                                    refine lv_iload hx hb dX12_go_296 (lv_at hl 1 rfl) ?_
                                    refine lv_i2l (v := _) hx hb dX12_go_298 rfl ?_
                                    refine b_anyl (fun fy308 => ?_)
                                    refine r_ladd (v := _) M rfl dX12_go_299 ?_
                                    refine b_anyl (fun fy309 => ?_)
                                    refine lv_ldc2 (v := 96) hx hb M.1.2.2.2.1 (M.1.2.2.2.2 _ G1642) dX12_go_300 ?_
                                    refine r_lsub (v := _) M rfl dX12_go_303 ?_
                                    refine b_anyl (fun fy310 => ?_)
                                    refine r_put (ws' := [(a0, .inr (11, [.int r0, .ref a1, .int (iI x0), .int (iI x1), .int r1, .int (iI z194), .int (iI z1), .int (iI x3), .int (iI z195), .int r3, .int r4, .int r5, .long fy310, .int (iI x5), .ref a2, .ref a3, .ref a4, .ref a5, .ref a6, .ref a7, .ref a8, .ref a9, .ref a10, .ref a11, .int (iI x6), .ref a12, .ref a13, .ref a14, .ref a15, .int (iI x7), .int r6, .int r7, .ref a16, .int r8, .int r9, .ref a17, .ref a18, .int (iI x8), .ref a19, .int (iI x9), .int r10, .ref a20, .ref a21, .int (iI x10), .int r11, .ref a22, .int (iI x11), .int (iI x12), .int (iI x13), .int (iI x14)])), (a1, .inl (T 0, 940, .inl f0))]) M w 0 12 clX12 rfl (by decide) G1475 rfl rfl rfl rfl (Nat.le_of_ble_eq_true rfl) rfl dX12_go_304 (fun H locs w => ?_)
                                    refine lv_aload_n hx hb dX12_go_307 rfl (lv_at hl 4 rfl) ?_
                                    refine r_get (v := .int (iI z194)) M w 0 5 clX12 rfl (by decide) G1468 rfl rfl dX12_go_308 ?_
                                    refine lv_aload_n hx hb dX12_go_311 rfl (lv_at hl 4 rfl) ?_
                                    refine r_get (v := .int (iI z1)) M w 0 6 clX12 rfl (by decide) G1469 rfl rfl dX12_go_312 ?_
                                    refine b_any (fun z311 z311_a z311_b => ?_)
                                    refine r_isub (v := _) M rfl dX12_go_315 ?_
                                    refine b_any (fun z312 z312_a z312_b => ?_)
                                    refine lv_iconst (v := iI 3) hx hb dX12_go_316 (by decide +kernel) ?_
                                    refine lv_icmp_ge (tgt := 337) hx hb dX12_go_317 (by decide) (fun c_313 => ?_) (fun c_313 => ?_)
                                    · replace c_313 := (iI_le (by decide) (by decide) (Int.le_trans (by decide) z312_a) (Int.le_trans z312_b (by decide))).mp c_313
                                      refine lv_aload_n hx hb dX12_go_337 rfl (lv_at hl 4 rfl) ?_
                                      refine lv_dup hx hb dX12_go_338 rfl ?_
                                      refine r_get (v := .int (iI z194)) M w 0 5 clX12 rfl (by decide) G1468 rfl rfl dX12_go_339 ?_
                                      refine lv_iconst (v := iI 1) hx hb dX12_go_342 (by decide +kernel) ?_
                                      refine r_iadd (v := iI (z194 + 1)) M (iI_add _ _) dX12_go_343 ?_
                                      refine r_put (ws' := [(a0, .inr (11, [.int r0, .ref a1, .int (iI x0), .int (iI x1), .int r1, .int (iI (z194 + 1)), .int (iI z1), .int (iI x3), .int (iI z195), .int r3, .int r4, .int r5, .long fy310, .int (iI x5), .ref a2, .ref a3, .ref a4, .ref a5, .ref a6, .ref a7, .ref a8, .ref a9, .ref a10, .ref a11, .int (iI x6), .ref a12, .ref a13, .ref a14, .ref a15, .int (iI x7), .int r6, .int r7, .ref a16, .int r8, .int r9, .ref a17, .ref a18, .int (iI x8), .ref a19, .int (iI x9), .int r10, .ref a20, .ref a21, .int (iI x10), .int r11, .ref a22, .int (iI x11), .int (iI x12), .int (iI x13), .int (iI x14)])), (a1, .inl (T 0, 940, .inl f0))]) M w 0 5 clX12 rfl (by decide) G1468 rfl rfl rfl rfl (Nat.le_of_ble_eq_true rfl) rfl dX12_go_344 (fun H locs w => ?_)
                                      refine lv_goto (tgt := 215) hx hb dX12_go_347 (by decide) ?_
                                      exact ih2 fy310 (z194 + 1) z195 0 _ _ _ (by omega) (by omega) z195_a z195_b (by decide) (by decide) (by omega) (by omega) w (lv_sub hl [0, 2, 3, 4] rfl)
                                    · replace c_313 : z312 < 3 := Int.not_le.mp (fun h => c_313 ((iI_le (by decide) (by decide) (Int.le_trans (by decide) z312_a) (Int.le_trans z312_b (by decide))).mpr h))
                                      refine lv_aload_n hx hb dX12_go_320 rfl (lv_at hl 4 rfl) ?_
                                      refine lv_bipush (v := iI 10) hx hb dX12_go_321 (by decide +kernel) ?_
                                      refine lv_aload_n hx hb dX12_go_323 rfl (lv_at hl 4 rfl) ?_
                                      refine r_get (v := .int (iI z195)) M w 0 8 clX12 rfl (by decide) G1471 rfl rfl dX12_go_324 ?_
                                      refine r_imul (v := _) M rfl dX12_go_327 ?_
                                      refine b_any (fun z314 z314_a z314_b => ?_)
                                      refine lv_iload hx hb dX12_go_328 (lv_at hl 1 rfl) ?_
                                      refine r_iadd (v := _) M rfl dX12_go_330 ?_
                                      refine b_any (fun z315 z315_a z315_b => ?_)
                                      refine lv_bipush (v := iI 48) hx hb dX12_go_331 (by decide +kernel) ?_
                                      refine r_isub (v := _) M rfl dX12_go_333 ?_
                                      refine b_any (fun z316 z316_a z316_b => ?_)
                                      refine r_put (ws' := [(a0, .inr (11, [.int r0, .ref a1, .int (iI x0), .int (iI x1), .int r1, .int (iI z194), .int (iI z1), .int (iI x3), .int (iI z316), .int r3, .int r4, .int r5, .long fy310, .int (iI x5), .ref a2, .ref a3, .ref a4, .ref a5, .ref a6, .ref a7, .ref a8, .ref a9, .ref a10, .ref a11, .int (iI x6), .ref a12, .ref a13, .ref a14, .ref a15, .int (iI x7), .int r6, .int r7, .ref a16, .int r8, .int r9, .ref a17, .ref a18, .int (iI x8), .ref a19, .int (iI x9), .int r10, .ref a20, .ref a21, .int (iI x10), .int r11, .ref a22, .int (iI x11), .int (iI x12), .int (iI x13), .int (iI x14)])), (a1, .inl (T 0, 940, .inl f0))]) M w 0 8 clX12 rfl (by decide) G1471 rfl rfl rfl rfl (Nat.le_of_ble_eq_true rfl) rfl dX12_go_334 (fun H locs w => ?_)
                                      refine lv_aload_n hx hb dX12_go_337 rfl (lv_at hl 4 rfl) ?_
                                      refine lv_dup hx hb dX12_go_338 rfl ?_
                                      refine r_get (v := .int (iI z194)) M w 0 5 clX12 rfl (by decide) G1468 rfl rfl dX12_go_339 ?_
                                      refine lv_iconst (v := iI 1) hx hb dX12_go_342 (by decide +kernel) ?_
                                      refine r_iadd (v := iI (z194 + 1)) M (iI_add _ _) dX12_go_343 ?_
                                      refine r_put (ws' := [(a0, .inr (11, [.int r0, .ref a1, .int (iI x0), .int (iI x1), .int r1, .int (iI (z194 + 1)), .int (iI z1), .int (iI x3), .int (iI z316), .int r3, .int r4, .int r5, .long fy310, .int (iI x5), .ref a2, .ref a3, .ref a4, .ref a5, .ref a6, .ref a7, .ref a8, .ref a9, .ref a10, .ref a11, .int (iI x6), .ref a12, .ref a13, .ref a14, .ref a15, .int (iI x7), .int r6, .int r7, .ref a16, .int r8, .int r9, .ref a17, .ref a18, .int (iI x8), .ref a19, .int (iI x9), .int r10, .ref a20, .ref a21, .int (iI x10), .int r11, .ref a22, .int (iI x11), .int (iI x12), .int (iI x13), .int (iI x14)])), (a1, .inl (T 0, 940, .inl f0))]) M w 0 5 clX12 rfl (by decide) G1468 rfl rfl rfl rfl (Nat.le_of_ble_eq_true rfl) rfl dX12_go_344 (fun H locs w => ?_)
                                      refine lv_goto (tgt := 215) hx hb dX12_go_347 (by decide) ?_
                                      exact ih2 fy310 (z194 + 1) z316 0 _ _ _ (by omega) (by omega) z316_a z316_b (by decide) (by decide) (by omega) (by omega) w (lv_sub hl [0, 2, 3, 4] rfl)
                                · replace c_297 : ¬ z196 = 0 := fun h => c_297 ((iz_eq (Int.le_trans (by decide) z196_a) (Int.le_trans z196_b (by decide))).mpr h)
                                  refine lv_iload hx hb dX12_go_258 (lv_at hl 0 rfl) ?_
                                  refine k_I (ce := 0) (sl := 0) (rest := []) (wr := [(a0, .inr (11, [.int r0, .ref a1, .int (iI x0), .int (iI x1), .int r1, .int (iI z194), .int (iI z1), .int (iI x3), .int (iI z195), .int r3, .int r4, .int r5, .long fy193, .int (iI x5), .ref a2, .ref a3, .ref a4, .ref a5, .ref a6, .ref a7, .ref a8, .ref a9, .ref a10, .ref a11, .int (iI x6), .ref a12, .ref a13, .ref a14, .ref a15, .int (iI x7), .int r6, .int r7, .ref a16, .int r8, .int r9, .ref a17, .ref a18, .int (iI x8), .ref a19, .int (iI x9), .int r10, .ref a20, .ref a21, .int (iI x10), .int r11, .ref a22, .int (iI x11), .int (iI x12), .int (iI x13), .int (iI x14)])), (a1, .inl (T 0, 940, .inl f0))]) (r_S (f := 0) [] M w V_HookedCityModel_33 G1632 (c11_X12_isLetter l D T _ z296 z296_a z296_b) rfl (by decide) rfl hl.1 rfl (Nat.le_of_ble_eq_true rfl) dX12_go_260 (by decide) (by decide) (by decide) (by decide)) w [] [0, 1] rfl rfl (by decide) (by decide) rfl rfl (fun v z317 H locs hp w => ?_)
                                  have hv : iI z317 = v := hp.1
                                  subst hv
                                  have z317_a : 0 ≤ z317 := hp.2.1
                                  have z317_b : z317 ≤ 1 := hp.2.2.1
                                  have ee318 : 0 ≤ ((z296 + 4294967296) - (z317 * 4294967393)) := hp.2.2.2
                                  have w : WD D A s.heap [(a0, .inr (11, [.int r0, .ref a1, .int (iI x0), .int (iI x1), .int r1, .int (iI z194), .int (iI z1), .int (iI x3), .int (iI z195), .int r3, .int r4, .int r5, .long fy193, .int (iI x5), .ref a2, .ref a3, .ref a4, .ref a5, .ref a6, .ref a7, .ref a8, .ref a9, .ref a10, .ref a11, .int (iI x6), .ref a12, .ref a13, .ref a14, .ref a15, .int (iI x7), .int r6, .int r7, .ref a16, .int r8, .int r9, .ref a17, .ref a18, .int (iI x8), .ref a19, .int (iI x9), .int r10, .ref a20, .ref a21, .int (iI x10), .int r11, .ref a22, .int (iI x11), .int (iI x12), .int (iI x13), .int (iI x14)])), (a1, .inl (T 0, 940, .inl f0))] H locs := w
                                  refine lv_iload_n hx hb dX12_go_263 rfl (lv_at hl 2 rfl) ?_
                                  refine lv_icmp_ne (tgt := 271) hx hb dX12_go_264 (by decide) (fun c_319 => ?_) (fun c_319 => ?_)
                                  · replace c_319 : ¬ z317 = z191 := fun h => c_319 ((iI_eq (Int.le_trans (by decide) z317_a) (Int.le_trans z317_b (by decide)) (Int.le_trans (by decide) z191_a) (Int.le_trans z191_b (by decide))).mpr h)
                                    refine lv_iconst (v := iI 0) hx hb dX12_go_271 (by decide +kernel) ?_
                                    refine lv_istore_n (lv' := [(3, .int (iI 0)), (4, .int (iI z296)), (2, .int (iI z191)), (1, .int (iI z17)), (0, .ref a0)]) hx hb dX12_go_272 rfl hl (by decide) rfl (fun ls hl => ?_)
                                    refine lv_aload_n hx hb dX12_go_273 rfl (lv_at hl 4 rfl) ?_
                                    refine r_get (v := .int (iI z194)) M w 0 5 clX12 rfl (by decide) G1468 rfl rfl dX12_go_274 ?_
                                    refine lv_aload_n hx hb dX12_go_277 rfl (lv_at hl 4 rfl) ?_
                                    refine r_get (v := .int (iI z1)) M w 0 6 clX12 rfl (by decide) G1469 rfl rfl dX12_go_278 ?_
                                    refine b_any (fun z320 z320_a z320_b => ?_)
                                    refine r_isub (v := _) M rfl dX12_go_281 ?_
                                    refine b_any (fun z321 z321_a z321_b => ?_)
                                    refine lv_bipush (v := iI 7) hx hb dX12_go_282 (by decide +kernel) ?_
                                    refine lv_icmp_ge (tgt := 307) hx hb dX12_go_284 (by decide) (fun c_322 => ?_) (fun c_322 => ?_)
                                    · replace c_322 := (iI_le (by decide) (by decide) (Int.le_trans (by decide) z321_a) (Int.le_trans z321_b (by decide))).mp c_322
                                      refine lv_aload_n hx hb dX12_go_307 rfl (lv_at hl 4 rfl) ?_
                                      refine r_get (v := .int (iI z194)) M w 0 5 clX12 rfl (by decide) G1468 rfl rfl dX12_go_308 ?_
                                      refine lv_aload_n hx hb dX12_go_311 rfl (lv_at hl 4 rfl) ?_
                                      refine r_get (v := .int (iI z1)) M w 0 6 clX12 rfl (by decide) G1469 rfl rfl dX12_go_312 ?_
                                      refine b_any (fun z323 z323_a z323_b => ?_)
                                      refine r_isub (v := _) M rfl dX12_go_315 ?_
                                      refine b_any (fun z324 z324_a z324_b => ?_)
                                      refine lv_iconst (v := iI 3) hx hb dX12_go_316 (by decide +kernel) ?_
                                      refine lv_icmp_ge (tgt := 337) hx hb dX12_go_317 (by decide) (fun c_325 => ?_) (fun c_325 => ?_)
                                      · replace c_325 := (iI_le (by decide) (by decide) (Int.le_trans (by decide) z324_a) (Int.le_trans z324_b (by decide))).mp c_325
                                        refine lv_aload_n hx hb dX12_go_337 rfl (lv_at hl 4 rfl) ?_
                                        refine lv_dup hx hb dX12_go_338 rfl ?_
                                        refine r_get (v := .int (iI z194)) M w 0 5 clX12 rfl (by decide) G1468 rfl rfl dX12_go_339 ?_
                                        refine lv_iconst (v := iI 1) hx hb dX12_go_342 (by decide +kernel) ?_
                                        refine r_iadd (v := iI (z194 + 1)) M (iI_add _ _) dX12_go_343 ?_
                                        refine r_put (ws' := [(a0, .inr (11, [.int r0, .ref a1, .int (iI x0), .int (iI x1), .int r1, .int (iI (z194 + 1)), .int (iI z1), .int (iI x3), .int (iI z195), .int r3, .int r4, .int r5, .long fy193, .int (iI x5), .ref a2, .ref a3, .ref a4, .ref a5, .ref a6, .ref a7, .ref a8, .ref a9, .ref a10, .ref a11, .int (iI x6), .ref a12, .ref a13, .ref a14, .ref a15, .int (iI x7), .int r6, .int r7, .ref a16, .int r8, .int r9, .ref a17, .ref a18, .int (iI x8), .ref a19, .int (iI x9), .int r10, .ref a20, .ref a21, .int (iI x10), .int r11, .ref a22, .int (iI x11), .int (iI x12), .int (iI x13), .int (iI x14)])), (a1, .inl (T 0, 940, .inl f0))]) M w 0 5 clX12 rfl (by decide) G1468 rfl rfl rfl rfl (Nat.le_of_ble_eq_true rfl) rfl dX12_go_344 (fun H locs w => ?_)
                                        refine lv_goto (tgt := 215) hx hb dX12_go_347 (by decide) ?_
                                        exact ih2 fy193 (z194 + 1) z195 0 _ _ _ (by omega) (by omega) z195_a z195_b (by decide) (by decide) (by omega) (by omega) w (lv_sub hl [0, 2, 3, 4] rfl)
                                      · replace c_325 : z324 < 3 := Int.not_le.mp (fun h => c_325 ((iI_le (by decide) (by decide) (Int.le_trans (by decide) z324_a) (Int.le_trans z324_b (by decide))).mpr h))
                                        refine lv_aload_n hx hb dX12_go_320 rfl (lv_at hl 4 rfl) ?_
                                        refine lv_bipush (v := iI 10) hx hb dX12_go_321 (by decide +kernel) ?_
                                        refine lv_aload_n hx hb dX12_go_323 rfl (lv_at hl 4 rfl) ?_
                                        refine r_get (v := .int (iI z195)) M w 0 8 clX12 rfl (by decide) G1471 rfl rfl dX12_go_324 ?_
                                        refine r_imul (v := _) M rfl dX12_go_327 ?_
                                        refine b_any (fun z326 z326_a z326_b => ?_)
                                        refine lv_iload hx hb dX12_go_328 (lv_at hl 1 rfl) ?_
                                        refine r_iadd (v := _) M rfl dX12_go_330 ?_
                                        refine b_any (fun z327 z327_a z327_b => ?_)
                                        refine lv_bipush (v := iI 48) hx hb dX12_go_331 (by decide +kernel) ?_
                                        refine r_isub (v := _) M rfl dX12_go_333 ?_
                                        refine b_any (fun z328 z328_a z328_b => ?_)
                                        refine r_put (ws' := [(a0, .inr (11, [.int r0, .ref a1, .int (iI x0), .int (iI x1), .int r1, .int (iI z194), .int (iI z1), .int (iI x3), .int (iI z328), .int r3, .int r4, .int r5, .long fy193, .int (iI x5), .ref a2, .ref a3, .ref a4, .ref a5, .ref a6, .ref a7, .ref a8, .ref a9, .ref a10, .ref a11, .int (iI x6), .ref a12, .ref a13, .ref a14, .ref a15, .int (iI x7), .int r6, .int r7, .ref a16, .int r8, .int r9, .ref a17, .ref a18, .int (iI x8), .ref a19, .int (iI x9), .int r10, .ref a20, .ref a21, .int (iI x10), .int r11, .ref a22, .int (iI x11), .int (iI x12), .int (iI x13), .int (iI x14)])), (a1, .inl (T 0, 940, .inl f0))]) M w 0 8 clX12 rfl (by decide) G1471 rfl rfl rfl rfl (Nat.le_of_ble_eq_true rfl) rfl dX12_go_334 (fun H locs w => ?_)
                                        refine lv_aload_n hx hb dX12_go_337 rfl (lv_at hl 4 rfl) ?_
                                        refine lv_dup hx hb dX12_go_338 rfl ?_
                                        refine r_get (v := .int (iI z194)) M w 0 5 clX12 rfl (by decide) G1468 rfl rfl dX12_go_339 ?_
                                        refine lv_iconst (v := iI 1) hx hb dX12_go_342 (by decide +kernel) ?_
                                        refine r_iadd (v := iI (z194 + 1)) M (iI_add _ _) dX12_go_343 ?_
                                        refine r_put (ws' := [(a0, .inr (11, [.int r0, .ref a1, .int (iI x0), .int (iI x1), .int r1, .int (iI (z194 + 1)), .int (iI z1), .int (iI x3), .int (iI z328), .int r3, .int r4, .int r5, .long fy193, .int (iI x5), .ref a2, .ref a3, .ref a4, .ref a5, .ref a6, .ref a7, .ref a8, .ref a9, .ref a10, .ref a11, .int (iI x6), .ref a12, .ref a13, .ref a14, .ref a15, .int (iI x7), .int r6, .int r7, .ref a16, .int r8, .int r9, .ref a17, .ref a18, .int (iI x8), .ref a19, .int (iI x9), .int r10, .ref a20, .ref a21, .int (iI x10), .int r11, .ref a22, .int (iI x11), .int (iI x12), .int (iI x13), .int (iI x14)])), (a1, .inl (T 0, 940, .inl f0))]) M w 0 5 clX12 rfl (by decide) G1468 rfl rfl rfl rfl (Nat.le_of_ble_eq_true rfl) rfl dX12_go_344 (fun H locs w => ?_)
                                        refine lv_goto (tgt := 215) hx hb dX12_go_347 (by decide) ?_
                                        exact ih2 fy193 (z194 + 1) z328 0 _ _ _ (by omega) (by omega) z328_a z328_b (by decide) (by decide) (by omega) (by omega) w (lv_sub hl [0, 2, 3, 4] rfl)
                                    · replace c_322 : z321 < 7 := Int.not_le.mp (fun h => c_322 ((iI_le (by decide) (by decide) (Int.le_trans (by decide) z321_a) (Int.le_trans z321_b (by decide))).mpr h))
                                      refine lv_aload_n hx hb dX12_go_287 rfl (lv_at hl 4 rfl) ?_
                                      refine lv_ldc2 (v := 27) hx hb M.1.2.2.2.1 (M.1.2.2.2.2 _ G1641) dX12_go_288 ?_
                                      refine lv_aload_n hx hb dX12_go_291 rfl (lv_at hl 4 rfl) ?_
                                      refine r_get (v := .long fy193) M w 0 12 clX12 rfl (by decide) G1475 rfl rfl dX12_go_292 ?_
                                      refine r_lmul (v := _) M rfl dX12_go_295 ?_
                                      refine b_anyl (fun fy329 => ?_)
                                      refine lv_iload hx hb dX12_go_296 (lv_at hl 1 rfl) ?_
                                      refine lv_i2l (v := _) hx hb dX12_go_298 rfl ?_
                                      refine b_anyl (fun fy330 => ?_)
                                      refine r_ladd (v := _) M rfl dX12_go_299 ?_
                                      refine b_anyl (fun fy331 => ?_)
                                      refine lv_ldc2 (v := 96) hx hb M.1.2.2.2.1 (M.1.2.2.2.2 _ G1642) dX12_go_300 ?_
                                      refine r_lsub (v := _) M rfl dX12_go_303 ?_
                                      refine b_anyl (fun fy332 => ?_)
                                      refine r_put (ws' := [(a0, .inr (11, [.int r0, .ref a1, .int (iI x0), .int (iI x1), .int r1, .int (iI z194), .int (iI z1), .int (iI x3), .int (iI z195), .int r3, .int r4, .int r5, .long fy332, .int (iI x5), .ref a2, .ref a3, .ref a4, .ref a5, .ref a6, .ref a7, .ref a8, .ref a9, .ref a10, .ref a11, .int (iI x6), .ref a12, .ref a13, .ref a14, .ref a15, .int (iI x7), .int r6, .int r7, .ref a16, .int r8, .int r9, .ref a17, .ref a18, .int (iI x8), .ref a19, .int (iI x9), .int r10, .ref a20, .ref a21, .int (iI x10), .int r11, .ref a22, .int (iI x11), .int (iI x12), .int (iI x13), .int (iI x14)])), (a1, .inl (T 0, 940, .inl f0))]) M w 0 12 clX12 rfl (by decide) G1475 rfl rfl rfl rfl (Nat.le_of_ble_eq_true rfl) rfl dX12_go_304 (fun H locs w => ?_)
                                      refine lv_aload_n hx hb dX12_go_307 rfl (lv_at hl 4 rfl) ?_
                                      refine r_get (v := .int (iI z194)) M w 0 5 clX12 rfl (by decide) G1468 rfl rfl dX12_go_308 ?_
                                      refine lv_aload_n hx hb dX12_go_311 rfl (lv_at hl 4 rfl) ?_
                                      refine r_get (v := .int (iI z1)) M w 0 6 clX12 rfl (by decide) G1469 rfl rfl dX12_go_312 ?_
                                      refine b_any (fun z333 z333_a z333_b => ?_)
                                      refine r_isub (v := _) M rfl dX12_go_315 ?_
                                      refine b_any (fun z334 z334_a z334_b => ?_)
                                      refine lv_iconst (v := iI 3) hx hb dX12_go_316 (by decide +kernel) ?_
                                      refine lv_icmp_ge (tgt := 337) hx hb dX12_go_317 (by decide) (fun c_335 => ?_) (fun c_335 => ?_)
                                      · replace c_335 := (iI_le (by decide) (by decide) (Int.le_trans (by decide) z334_a) (Int.le_trans z334_b (by decide))).mp c_335
                                        refine lv_aload_n hx hb dX12_go_337 rfl (lv_at hl 4 rfl) ?_
                                        refine lv_dup hx hb dX12_go_338 rfl ?_
                                        refine r_get (v := .int (iI z194)) M w 0 5 clX12 rfl (by decide) G1468 rfl rfl dX12_go_339 ?_
                                        refine lv_iconst (v := iI 1) hx hb dX12_go_342 (by decide +kernel) ?_
                                        refine r_iadd (v := iI (z194 + 1)) M (iI_add _ _) dX12_go_343 ?_
                                        refine r_put (ws' := [(a0, .inr (11, [.int r0, .ref a1, .int (iI x0), .int (iI x1), .int r1, .int (iI (z194 + 1)), .int (iI z1), .int (iI x3), .int (iI z195), .int r3, .int r4, .int r5, .long fy332, .int (iI x5), .ref a2, .ref a3, .ref a4, .ref a5, .ref a6, .ref a7, .ref a8, .ref a9, .ref a10, .ref a11, .int (iI x6), .ref a12, .ref a13, .ref a14, .ref a15, .int (iI x7), .int r6, .int r7, .ref a16, .int r8, .int r9, .ref a17, .ref a18, .int (iI x8), .ref a19, .int (iI x9), .int r10, .ref a20, .ref a21, .int (iI x10), .int r11, .ref a22, .int (iI x11), .int (iI x12), .int (iI x13), .int (iI x14)])), (a1, .inl (T 0, 940, .inl f0))]) M w 0 5 clX12 rfl (by decide) G1468 rfl rfl rfl rfl (Nat.le_of_ble_eq_true rfl) rfl dX12_go_344 (fun H locs w => ?_)
                                        refine lv_goto (tgt := 215) hx hb dX12_go_347 (by decide) ?_
                                        exact ih2 fy332 (z194 + 1) z195 0 _ _ _ (by omega) (by omega) z195_a z195_b (by decide) (by decide) (by omega) (by omega) w (lv_sub hl [0, 2, 3, 4] rfl)
                                      · replace c_335 : z334 < 3 := Int.not_le.mp (fun h => c_335 ((iI_le (by decide) (by decide) (Int.le_trans (by decide) z334_a) (Int.le_trans z334_b (by decide))).mpr h))
                                        refine lv_aload_n hx hb dX12_go_320 rfl (lv_at hl 4 rfl) ?_
                                        refine lv_bipush (v := iI 10) hx hb dX12_go_321 (by decide +kernel) ?_
                                        refine lv_aload_n hx hb dX12_go_323 rfl (lv_at hl 4 rfl) ?_
                                        refine r_get (v := .int (iI z195)) M w 0 8 clX12 rfl (by decide) G1471 rfl rfl dX12_go_324 ?_
                                        refine r_imul (v := _) M rfl dX12_go_327 ?_
                                        refine b_any (fun z336 z336_a z336_b => ?_)
                                        refine lv_iload hx hb dX12_go_328 (lv_at hl 1 rfl) ?_
                                        refine r_iadd (v := _) M rfl dX12_go_330 ?_
                                        refine b_any (fun z337 z337_a z337_b => ?_)
                                        refine lv_bipush (v := iI 48) hx hb dX12_go_331 (by decide +kernel) ?_
                                        refine r_isub (v := _) M rfl dX12_go_333 ?_
                                        refine b_any (fun z338 z338_a z338_b => ?_)
                                        refine r_put (ws' := [(a0, .inr (11, [.int r0, .ref a1, .int (iI x0), .int (iI x1), .int r1, .int (iI z194), .int (iI z1), .int (iI x3), .int (iI z338), .int r3, .int r4, .int r5, .long fy332, .int (iI x5), .ref a2, .ref a3, .ref a4, .ref a5, .ref a6, .ref a7, .ref a8, .ref a9, .ref a10, .ref a11, .int (iI x6), .ref a12, .ref a13, .ref a14, .ref a15, .int (iI x7), .int r6, .int r7, .ref a16, .int r8, .int r9, .ref a17, .ref a18, .int (iI x8), .ref a19, .int (iI x9), .int r10, .ref a20, .ref a21, .int (iI x10), .int r11, .ref a22, .int (iI x11), .int (iI x12), .int (iI x13), .int (iI x14)])), (a1, .inl (T 0, 940, .inl f0))]) M w 0 8 clX12 rfl (by decide) G1471 rfl rfl rfl rfl (Nat.le_of_ble_eq_true rfl) rfl dX12_go_334 (fun H locs w => ?_)
                                        refine lv_aload_n hx hb dX12_go_337 rfl (lv_at hl 4 rfl) ?_
                                        refine lv_dup hx hb dX12_go_338 rfl ?_
                                        refine r_get (v := .int (iI z194)) M w 0 5 clX12 rfl (by decide) G1468 rfl rfl dX12_go_339 ?_
                                        refine lv_iconst (v := iI 1) hx hb dX12_go_342 (by decide +kernel) ?_
                                        refine r_iadd (v := iI (z194 + 1)) M (iI_add _ _) dX12_go_343 ?_
                                        refine r_put (ws' := [(a0, .inr (11, [.int r0, .ref a1, .int (iI x0), .int (iI x1), .int r1, .int (iI (z194 + 1)), .int (iI z1), .int (iI x3), .int (iI z338), .int r3, .int r4, .int r5, .long fy332, .int (iI x5), .ref a2, .ref a3, .ref a4, .ref a5, .ref a6, .ref a7, .ref a8, .ref a9, .ref a10, .ref a11, .int (iI x6), .ref a12, .ref a13, .ref a14, .ref a15, .int (iI x7), .int r6, .int r7, .ref a16, .int r8, .int r9, .ref a17, .ref a18, .int (iI x8), .ref a19, .int (iI x9), .int r10, .ref a20, .ref a21, .int (iI x10), .int r11, .ref a22, .int (iI x11), .int (iI x12), .int (iI x13), .int (iI x14)])), (a1, .inl (T 0, 940, .inl f0))]) M w 0 5 clX12 rfl (by decide) G1468 rfl rfl rfl rfl (Nat.le_of_ble_eq_true rfl) rfl dX12_go_344 (fun H locs w => ?_)
                                        refine lv_goto (tgt := 215) hx hb dX12_go_347 (by decide) ?_
                                        exact ih2 fy332 (z194 + 1) z338 0 _ _ _ (by omega) (by omega) z338_a z338_b (by decide) (by decide) (by omega) (by omega) w (lv_sub hl [0, 2, 3, 4] rfl)
                                  · replace c_319 := (iI_eq (Int.le_trans (by decide) z317_a) (Int.le_trans z317_b (by decide)) (Int.le_trans (by decide) z191_a) (Int.le_trans z191_b (by decide))).mp c_319
                                    refine lv_iconst (v := iI 1) hx hb dX12_go_267 (by decide +kernel) ?_
                                    refine lv_goto (tgt := 272) hx hb dX12_go_268 (by decide) ?_
                                    refine lv_istore_n (lv' := [(3, .int (iI 1)), (4, .int (iI z296)), (2, .int (iI z191)), (1, .int (iI z17)), (0, .ref a0)]) hx hb dX12_go_272 rfl hl (by decide) rfl (fun ls hl => ?_)
                                    refine lv_aload_n hx hb dX12_go_273 rfl (lv_at hl 4 rfl) ?_
                                    refine r_get (v := .int (iI z194)) M w 0 5 clX12 rfl (by decide) G1468 rfl rfl dX12_go_274 ?_
                                    refine lv_aload_n hx hb dX12_go_277 rfl (lv_at hl 4 rfl) ?_
                                    refine r_get (v := .int (iI z1)) M w 0 6 clX12 rfl (by decide) G1469 rfl rfl dX12_go_278 ?_
                                    refine b_any (fun z339 z339_a z339_b => ?_)
                                    refine r_isub (v := _) M rfl dX12_go_281 ?_
                                    refine b_any (fun z340 z340_a z340_b => ?_)
                                    refine lv_bipush (v := iI 7) hx hb dX12_go_282 (by decide +kernel) ?_
                                    refine lv_icmp_ge (tgt := 307) hx hb dX12_go_284 (by decide) (fun c_341 => ?_) (fun c_341 => ?_)
                                    · replace c_341 := (iI_le (by decide) (by decide) (Int.le_trans (by decide) z340_a) (Int.le_trans z340_b (by decide))).mp c_341
                                      refine lv_aload_n hx hb dX12_go_307 rfl (lv_at hl 4 rfl) ?_
                                      refine r_get (v := .int (iI z194)) M w 0 5 clX12 rfl (by decide) G1468 rfl rfl dX12_go_308 ?_
                                      refine lv_aload_n hx hb dX12_go_311 rfl (lv_at hl 4 rfl) ?_
                                      refine r_get (v := .int (iI z1)) M w 0 6 clX12 rfl (by decide) G1469 rfl rfl dX12_go_312 ?_
                                      refine b_any (fun z342 z342_a z342_b => ?_)
                                      refine r_isub (v := _) M rfl dX12_go_315 ?_
                                      refine b_any (fun z343 z343_a z343_b => ?_)
                                      refine lv_iconst (v := iI 3) hx hb dX12_go_316 (by decide +kernel) ?_
                                      refine lv_icmp_ge (tgt := 337) hx hb dX12_go_317 (by decide) (fun c_344 => ?_) (fun c_344 => ?_)
                                      · replace c_344 := (iI_le (by decide) (by decide) (Int.le_trans (by decide) z343_a) (Int.le_trans z343_b (by decide))).mp c_344
                                        refine lv_aload_n hx hb dX12_go_337 rfl (lv_at hl 4 rfl) ?_
                                        refine lv_dup hx hb dX12_go_338 rfl ?_
                                        refine r_get (v := .int (iI z194)) M w 0 5 clX12 rfl (by decide) G1468 rfl rfl dX12_go_339 ?_
                                        refine lv_iconst (v := iI 1) hx hb dX12_go_342 (by decide +kernel) ?_
                                        refine r_iadd (v := iI (z194 + 1)) M (iI_add _ _) dX12_go_343 ?_
                                        refine r_put (ws' := [(a0, .inr (11, [.int r0, .ref a1, .int (iI x0), .int (iI x1), .int r1, .int (iI (z194 + 1)), .int (iI z1), .int (iI x3), .int (iI z195), .int r3, .int r4, .int r5, .long fy193, .int (iI x5), .ref a2, .ref a3, .ref a4, .ref a5, .ref a6, .ref a7, .ref a8, .ref a9, .ref a10, .ref a11, .int (iI x6), .ref a12, .ref a13, .ref a14, .ref a15, .int (iI x7), .int r6, .int r7, .ref a16, .int r8, .int r9, .ref a17, .ref a18, .int (iI x8), .ref a19, .int (iI x9), .int r10, .ref a20, .ref a21, .int (iI x10), .int r11, .ref a22, .int (iI x11), .int (iI x12), .int (iI x13), .int (iI x14)])), (a1, .inl (T 0, 940, .inl f0))]) M w 0 5 clX12 rfl (by decide) G1468 rfl rfl rfl rfl (Nat.le_of_ble_eq_true rfl) rfl dX12_go_344 (fun H locs w => ?_)
                                        refine lv_goto (tgt := 215) hx hb dX12_go_347 (by decide) ?_
                                        exact ih2 fy193 (z194 + 1) z195 1 _ _ _ (by omega) (by omega) z195_a z195_b (by decide) (by decide) (by omega) (by omega) w (lv_sub hl [0, 2, 3, 4] rfl)
                                      · replace c_344 : z343 < 3 := Int.not_le.mp (fun h => c_344 ((iI_le (by decide) (by decide) (Int.le_trans (by decide) z343_a) (Int.le_trans z343_b (by decide))).mpr h))
                                        refine lv_aload_n hx hb dX12_go_320 rfl (lv_at hl 4 rfl) ?_
                                        refine lv_bipush (v := iI 10) hx hb dX12_go_321 (by decide +kernel) ?_
                                        refine lv_aload_n hx hb dX12_go_323 rfl (lv_at hl 4 rfl) ?_
                                        refine r_get (v := .int (iI z195)) M w 0 8 clX12 rfl (by decide) G1471 rfl rfl dX12_go_324 ?_
                                        refine r_imul (v := _) M rfl dX12_go_327 ?_
                                        refine b_any (fun z345 z345_a z345_b => ?_)
                                        refine lv_iload hx hb dX12_go_328 (lv_at hl 1 rfl) ?_
                                        refine r_iadd (v := _) M rfl dX12_go_330 ?_
                                        refine b_any (fun z346 z346_a z346_b => ?_)
                                        refine lv_bipush (v := iI 48) hx hb dX12_go_331 (by decide +kernel) ?_
                                        refine r_isub (v := _) M rfl dX12_go_333 ?_
                                        refine b_any (fun z347 z347_a z347_b => ?_)
                                        refine r_put (ws' := [(a0, .inr (11, [.int r0, .ref a1, .int (iI x0), .int (iI x1), .int r1, .int (iI z194), .int (iI z1), .int (iI x3), .int (iI z347), .int r3, .int r4, .int r5, .long fy193, .int (iI x5), .ref a2, .ref a3, .ref a4, .ref a5, .ref a6, .ref a7, .ref a8, .ref a9, .ref a10, .ref a11, .int (iI x6), .ref a12, .ref a13, .ref a14, .ref a15, .int (iI x7), .int r6, .int r7, .ref a16, .int r8, .int r9, .ref a17, .ref a18, .int (iI x8), .ref a19, .int (iI x9), .int r10, .ref a20, .ref a21, .int (iI x10), .int r11, .ref a22, .int (iI x11), .int (iI x12), .int (iI x13), .int (iI x14)])), (a1, .inl (T 0, 940, .inl f0))]) M w 0 8 clX12 rfl (by decide) G1471 rfl rfl rfl rfl (Nat.le_of_ble_eq_true rfl) rfl dX12_go_334 (fun H locs w => ?_)
                                        refine lv_aload_n hx hb dX12_go_337 rfl (lv_at hl 4 rfl) ?_
                                        refine lv_dup hx hb dX12_go_338 rfl ?_
                                        refine r_get (v := .int (iI z194)) M w 0 5 clX12 rfl (by decide) G1468 rfl rfl dX12_go_339 ?_
                                        refine lv_iconst (v := iI 1) hx hb dX12_go_342 (by decide +kernel) ?_
                                        refine r_iadd (v := iI (z194 + 1)) M (iI_add _ _) dX12_go_343 ?_
                                        refine r_put (ws' := [(a0, .inr (11, [.int r0, .ref a1, .int (iI x0), .int (iI x1), .int r1, .int (iI (z194 + 1)), .int (iI z1), .int (iI x3), .int (iI z347), .int r3, .int r4, .int r5, .long fy193, .int (iI x5), .ref a2, .ref a3, .ref a4, .ref a5, .ref a6, .ref a7, .ref a8, .ref a9, .ref a10, .ref a11, .int (iI x6), .ref a12, .ref a13, .ref a14, .ref a15, .int (iI x7), .int r6, .int r7, .ref a16, .int r8, .int r9, .ref a17, .ref a18, .int (iI x8), .ref a19, .int (iI x9), .int r10, .ref a20, .ref a21, .int (iI x10), .int r11, .ref a22, .int (iI x11), .int (iI x12), .int (iI x13), .int (iI x14)])), (a1, .inl (T 0, 940, .inl f0))]) M w 0 5 clX12 rfl (by decide) G1468 rfl rfl rfl rfl (Nat.le_of_ble_eq_true rfl) rfl dX12_go_344 (fun H locs w => ?_)
                                        refine lv_goto (tgt := 215) hx hb dX12_go_347 (by decide) ?_
                                        exact ih2 fy193 (z194 + 1) z347 1 _ _ _ (by omega) (by omega) z347_a z347_b (by decide) (by decide) (by omega) (by omega) w (lv_sub hl [0, 2, 3, 4] rfl)
                                    · replace c_341 : z340 < 7 := Int.not_le.mp (fun h => c_341 ((iI_le (by decide) (by decide) (Int.le_trans (by decide) z340_a) (Int.le_trans z340_b (by decide))).mpr h))
                                      refine lv_aload_n hx hb dX12_go_287 rfl (lv_at hl 4 rfl) ?_
                                      refine lv_ldc2 (v := 27) hx hb M.1.2.2.2.1 (M.1.2.2.2.2 _ G1641) dX12_go_288 ?_
                                      refine lv_aload_n hx hb dX12_go_291 rfl (lv_at hl 4 rfl) ?_
                                      refine r_get (v := .long fy193) M w 0 12 clX12 rfl (by decide) G1475 rfl rfl dX12_go_292 ?_
                                      refine r_lmul (v := _) M rfl dX12_go_295 ?_
                                      refine b_anyl (fun fy348 => ?_)
                                      refine lv_iload hx hb dX12_go_296 (lv_at hl 1 rfl) ?_
                                      refine lv_i2l (v := _) hx hb dX12_go_298 rfl ?_
                                      refine b_anyl (fun fy349 => ?_)
                                      refine r_ladd (v := _) M rfl dX12_go_299 ?_
                                      refine b_anyl (fun fy350 => ?_)
                                      refine lv_ldc2 (v := 96) hx hb M.1.2.2.2.1 (M.1.2.2.2.2 _ G1642) dX12_go_300 ?_
                                      refine r_lsub (v := _) M rfl dX12_go_303 ?_
                                      refine b_anyl (fun fy351 => ?_)
                                      refine r_put (ws' := [(a0, .inr (11, [.int r0, .ref a1, .int (iI x0), .int (iI x1), .int r1, .int (iI z194), .int (iI z1), .int (iI x3), .int (iI z195), .int r3, .int r4, .int r5, .long fy351, .int (iI x5), .ref a2, .ref a3, .ref a4, .ref a5, .ref a6, .ref a7, .ref a8, .ref a9, .ref a10, .ref a11, .int (iI x6), .ref a12, .ref a13, .ref a14, .ref a15, .int (iI x7), .int r6, .int r7, .ref a16, .int r8, .int r9, .ref a17, .ref a18, .int (iI x8), .ref a19, .int (iI x9), .int r10, .ref a20, .ref a21, .int (iI x10), .int r11, .ref a22, .int (iI x11), .int (iI x12), .int (iI x13), .int (iI x14)])), (a1, .inl (T 0, 940, .inl f0))]) M w 0 12 clX12 rfl (by decide) G1475 rfl rfl rfl rfl (Nat.le_of_ble_eq_true rfl) rfl dX12_go_304 (fun H locs w => ?_)
                                      refine lv_aload_n hx hb dX12_go_307 rfl (lv_at hl 4 rfl) ?_
                                      refine r_get (v := .int (iI z194)) M w 0 5 clX12 rfl (by decide) G1468 rfl rfl dX12_go_308 ?_
                                      refine lv_aload_n hx hb dX12_go_311 rfl (lv_at hl 4 rfl) ?_
                                      refine r_get (v := .int (iI z1)) M w 0 6 clX12 rfl (by decide) G1469 rfl rfl dX12_go_312 ?_
                                      refine b_any (fun z352 z352_a z352_b => ?_)
                                      refine r_isub (v := _) M rfl dX12_go_315 ?_
                                      refine b_any (fun z353 z353_a z353_b => ?_)
                                      refine lv_iconst (v := iI 3) hx hb dX12_go_316 (by decide +kernel) ?_
                                      refine lv_icmp_ge (tgt := 337) hx hb dX12_go_317 (by decide) (fun c_354 => ?_) (fun c_354 => ?_)
                                      · replace c_354 := (iI_le (by decide) (by decide) (Int.le_trans (by decide) z353_a) (Int.le_trans z353_b (by decide))).mp c_354
                                        refine lv_aload_n hx hb dX12_go_337 rfl (lv_at hl 4 rfl) ?_
                                        refine lv_dup hx hb dX12_go_338 rfl ?_
                                        refine r_get (v := .int (iI z194)) M w 0 5 clX12 rfl (by decide) G1468 rfl rfl dX12_go_339 ?_
                                        refine lv_iconst (v := iI 1) hx hb dX12_go_342 (by decide +kernel) ?_
                                        refine r_iadd (v := iI (z194 + 1)) M (iI_add _ _) dX12_go_343 ?_
                                        refine r_put (ws' := [(a0, .inr (11, [.int r0, .ref a1, .int (iI x0), .int (iI x1), .int r1, .int (iI (z194 + 1)), .int (iI z1), .int (iI x3), .int (iI z195), .int r3, .int r4, .int r5, .long fy351, .int (iI x5), .ref a2, .ref a3, .ref a4, .ref a5, .ref a6, .ref a7, .ref a8, .ref a9, .ref a10, .ref a11, .int (iI x6), .ref a12, .ref a13, .ref a14, .ref a15, .int (iI x7), .int r6, .int r7, .ref a16, .int r8, .int r9, .ref a17, .ref a18, .int (iI x8), .ref a19, .int (iI x9), .int r10, .ref a20, .ref a21, .int (iI x10), .int r11, .ref a22, .int (iI x11), .int (iI x12), .int (iI x13), .int (iI x14)])), (a1, .inl (T 0, 940, .inl f0))]) M w 0 5 clX12 rfl (by decide) G1468 rfl rfl rfl rfl (Nat.le_of_ble_eq_true rfl) rfl dX12_go_344 (fun H locs w => ?_)
                                        refine lv_goto (tgt := 215) hx hb dX12_go_347 (by decide) ?_
                                        exact ih2 fy351 (z194 + 1) z195 1 _ _ _ (by omega) (by omega) z195_a z195_b (by decide) (by decide) (by omega) (by omega) w (lv_sub hl [0, 2, 3, 4] rfl)
                                      · replace c_354 : z353 < 3 := Int.not_le.mp (fun h => c_354 ((iI_le (by decide) (by decide) (Int.le_trans (by decide) z353_a) (Int.le_trans z353_b (by decide))).mpr h))
                                        refine lv_aload_n hx hb dX12_go_320 rfl (lv_at hl 4 rfl) ?_
                                        refine lv_bipush (v := iI 10) hx hb dX12_go_321 (by decide +kernel) ?_
                                        refine lv_aload_n hx hb dX12_go_323 rfl (lv_at hl 4 rfl) ?_
                                        refine r_get (v := .int (iI z195)) M w 0 8 clX12 rfl (by decide) G1471 rfl rfl dX12_go_324 ?_
                                        refine r_imul (v := _) M rfl dX12_go_327 ?_
                                        refine b_any (fun z355 z355_a z355_b => ?_)
                                        refine lv_iload hx hb dX12_go_328 (lv_at hl 1 rfl) ?_
                                        refine r_iadd (v := _) M rfl dX12_go_330 ?_
                                        refine b_any (fun z356 z356_a z356_b => ?_)
                                        refine lv_bipush (v := iI 48) hx hb dX12_go_331 (by decide +kernel) ?_
                                        refine r_isub (v := _) M rfl dX12_go_333 ?_
                                        refine b_any (fun z357 z357_a z357_b => ?_)
                                        refine r_put (ws' := [(a0, .inr (11, [.int r0, .ref a1, .int (iI x0), .int (iI x1), .int r1, .int (iI z194), .int (iI z1), .int (iI x3), .int (iI z357), .int r3, .int r4, .int r5, .long fy351, .int (iI x5), .ref a2, .ref a3, .ref a4, .ref a5, .ref a6, .ref a7, .ref a8, .ref a9, .ref a10, .ref a11, .int (iI x6), .ref a12, .ref a13, .ref a14, .ref a15, .int (iI x7), .int r6, .int r7, .ref a16, .int r8, .int r9, .ref a17, .ref a18, .int (iI x8), .ref a19, .int (iI x9), .int r10, .ref a20, .ref a21, .int (iI x10), .int r11, .ref a22, .int (iI x11), .int (iI x12), .int (iI x13), .int (iI x14)])), (a1, .inl (T 0, 940, .inl f0))]) M w 0 8 clX12 rfl (by decide) G1471 rfl rfl rfl rfl (Nat.le_of_ble_eq_true rfl) rfl dX12_go_334 (fun H locs w => ?_)
                                        refine lv_aload_n hx hb dX12_go_337 rfl (lv_at hl 4 rfl) ?_
                                        refine lv_dup hx hb dX12_go_338 rfl ?_
                                        refine r_get (v := .int (iI z194)) M w 0 5 clX12 rfl (by decide) G1468 rfl rfl dX12_go_339 ?_
                                        refine lv_iconst (v := iI 1) hx hb dX12_go_342 (by decide +kernel) ?_
                                        refine r_iadd (v := iI (z194 + 1)) M (iI_add _ _) dX12_go_343 ?_
                                        refine r_put (ws' := [(a0, .inr (11, [.int r0, .ref a1, .int (iI x0), .int (iI x1), .int r1, .int (iI (z194 + 1)), .int (iI z1), .int (iI x3), .int (iI z357), .int r3, .int r4, .int r5, .long fy351, .int (iI x5), .ref a2, .ref a3, .ref a4, .ref a5, .ref a6, .ref a7, .ref a8, .ref a9, .ref a10, .ref a11, .int (iI x6), .ref a12, .ref a13, .ref a14, .ref a15, .int (iI x7), .int r6, .int r7, .ref a16, .int r8, .int r9, .ref a17, .ref a18, .int (iI x8), .ref a19, .int (iI x9), .int r10, .ref a20, .ref a21, .int (iI x10), .int r11, .ref a22, .int (iI x11), .int (iI x12), .int (iI x13), .int (iI x14)])), (a1, .inl (T 0, 940, .inl f0))]) M w 0 5 clX12 rfl (by decide) G1468 rfl rfl rfl rfl (Nat.le_of_ble_eq_true rfl) rfl dX12_go_344 (fun H locs w => ?_)
                                        refine lv_goto (tgt := 215) hx hb dX12_go_347 (by decide) ?_
                                        exact ih2 fy351 (z194 + 1) z357 1 _ _ _ (by omega) (by omega) z357_a z357_b (by decide) (by decide) (by omega) (by omega) w (lv_sub hl [0, 2, 3, 4] rfl)
                    exact loop2 (((x1 - z1) : Int).toNat + 1) 0 z1 0 1 _ _ _ z1_a z1_b (by decide) (by decide) (by decide) (by decide) (by omega) (Nat.lt_succ_self _) w (lv_sub hl [0, 1, 2, 3] rfl)
                  · replace c_190 := (iz_eq (Int.le_trans (by decide) z188_a) (Int.le_trans z188_b (by decide))).mp c_190
                    refine lv_aload_n hx hb dX12_go_137 rfl (lv_at hl 1 rfl) ?_
                    refine lv_iload_n hx hb dX12_go_138 rfl (lv_at hl 0 rfl) ?_
                    refine lv_bipush (v := iI 59) hx hb dX12_go_139 (by decide +kernel) ?_
                    refine lv_icmp_eq (tgt := 174) hx hb dX12_go_141 (by decide) (fun c_358 => ?_) (fun c_358 => ?_)
                    · replace c_358 := (iI_eq (Int.le_trans (by decide) z17_a) (Int.le_trans z17_b (by decide)) (by decide) (by decide)).mp c_358
                      refine lv_iconst (v := iI 4) hx hb dX12_go_174 (by decide +kernel) ?_
                      refine lv_goto (tgt := 179) hx hb dX12_go_175 (by decide) ?_
                      refine r_put (ws' := [(a0, .inr (11, [.int r0, .ref a1, .int (iI x0), .int (iI x1), .int r1, .int (iI z1), .int (iI z1), .int (iI 4), .int (iI x4), .int r3, .int r4, .int r5, .long y0, .int (iI x5), .ref a2, .ref a3, .ref a4, .ref a5, .ref a6, .ref a7, .ref a8, .ref a9, .ref a10, .ref a11, .int (iI x6), .ref a12, .ref a13, .ref a14, .ref a15, .int (iI x7), .int r6, .int r7, .ref a16, .int r8, .int r9, .ref a17, .ref a18, .int (iI x8), .ref a19, .int (iI x9), .int r10, .ref a20, .ref a21, .int (iI x10), .int r11, .ref a22, .int (iI x11), .int (iI x12), .int (iI x13), .int (iI x14)])), (a1, .inl (T 0, 940, .inl f0))]) M w 0 7 clX12 rfl (by decide) G1470 rfl rfl rfl rfl (Nat.le_of_ble_eq_true rfl) rfl dX12_go_179 (fun H locs w => ?_)
                      refine lv_aload_n hx hb dX12_go_182 rfl (lv_at hl 1 rfl) ?_
                      refine lv_iload_n hx hb dX12_go_183 rfl (lv_at hl 0 rfl) ?_
                      refine r_put (ws' := [(a0, .inr (11, [.int r0, .ref a1, .int (iI x0), .int (iI x1), .int r1, .int (iI z1), .int (iI z1), .int (iI 4), .int (iI x4), .int (iI z17), .int r4, .int r5, .long y0, .int (iI x5), .ref a2, .ref a3, .ref a4, .ref a5, .ref a6, .ref a7, .ref a8, .ref a9, .ref a10, .ref a11, .int (iI x6), .ref a12, .ref a13, .ref a14, .ref a15, .int (iI x7), .int r6, .int r7, .ref a16, .int r8, .int r9, .ref a17, .ref a18, .int (iI x8), .ref a19, .int (iI x9), .int r10, .ref a20, .ref a21, .int (iI x10), .int r11, .ref a22, .int (iI x11), .int (iI x12), .int (iI x13), .int (iI x14)])), (a1, .inl (T 0, 940, .inl f0))]) M w 0 9 clX12 rfl (by decide) G1472 rfl rfl rfl rfl (Nat.le_of_ble_eq_true rfl) rfl dX12_go_184 (fun H locs w => ?_)
                      refine lv_aload_n hx hb dX12_go_187 rfl (lv_at hl 1 rfl) ?_
                      refine lv_dup hx hb dX12_go_188 rfl ?_
                      refine r_get (v := .int (iI z1)) M w 0 5 clX12 rfl (by decide) G1468 rfl rfl dX12_go_189 ?_
                      refine lv_iconst (v := iI 1) hx hb dX12_go_192 (by decide +kernel) ?_
                      refine r_iadd (v := iI (z1 + 1)) M (iI_add _ _) dX12_go_193 ?_
                      refine r_put (ws' := [(a0, .inr (11, [.int r0, .ref a1, .int (iI x0), .int (iI x1), .int r1, .int (iI (z1 + 1)), .int (iI z1), .int (iI 4), .int (iI x4), .int (iI z17), .int r4, .int r5, .long y0, .int (iI x5), .ref a2, .ref a3, .ref a4, .ref a5, .ref a6, .ref a7, .ref a8, .ref a9, .ref a10, .ref a11, .int (iI x6), .ref a12, .ref a13, .ref a14, .ref a15, .int (iI x7), .int r6, .int r7, .ref a16, .int r8, .int r9, .ref a17, .ref a18, .int (iI x8), .ref a19, .int (iI x9), .int r10, .ref a20, .ref a21, .int (iI x10), .int r11, .ref a22, .int (iI x11), .int (iI x12), .int (iI x13), .int (iI x14)])), (a1, .inl (T 0, 940, .inl f0))]) M w 0 5 clX12 rfl (by decide) G1468 rfl rfl rfl rfl (Nat.le_of_ble_eq_true rfl) rfl dX12_go_194 (fun H locs w => ?_)
                      exact ret ((z1 + 1), (iI z1), 4, x4, (iI z17), y0) _ _ _ _ _ [0, 1] dX12_go_197 ⟨(show 0 ≤ (z1 + 1) from by omega), (show (z1 + 1) ≤ 940 from by omega), (show (0 : Int) ≤ 4 from by decide), (show (4 : Int) ≤ 4 from by decide), x4_a, x4_b, (show 0 ≤ ((z1 + 1) - x2) from by omega), (show 0 ≤ ((((z1 + 1) - x2) - 4) + 3) from by omega)⟩ w (by decide) rfl
                    · replace c_358 : ¬ z17 = 59 := fun h => c_358 ((iI_eq (Int.le_trans (by decide) z17_a) (Int.le_trans z17_b (by decide)) (by decide) (by decide)).mpr h)
                      refine lv_iload_n hx hb dX12_go_144 rfl (lv_at hl 0 rfl) ?_
                      refine lv_bipush (v := iI 60) hx hb dX12_go_145 (by decide +kernel) ?_
                      refine lv_icmp_eq (tgt := 174) hx hb dX12_go_147 (by decide) (fun c_359 => ?_) (fun c_359 => ?_)
                      · replace c_359 := (iI_eq (Int.le_trans (by decide) z17_a) (Int.le_trans z17_b (by decide)) (by decide) (by decide)).mp c_359
                        refine lv_iconst (v := iI 4) hx hb dX12_go_174 (by decide +kernel) ?_
                        refine lv_goto (tgt := 179) hx hb dX12_go_175 (by decide) ?_
                        refine r_put (ws' := [(a0, .inr (11, [.int r0, .ref a1, .int (iI x0), .int (iI x1), .int r1, .int (iI z1), .int (iI z1), .int (iI 4), .int (iI x4), .int r3, .int r4, .int r5, .long y0, .int (iI x5), .ref a2, .ref a3, .ref a4, .ref a5, .ref a6, .ref a7, .ref a8, .ref a9, .ref a10, .ref a11, .int (iI x6), .ref a12, .ref a13, .ref a14, .ref a15, .int (iI x7), .int r6, .int r7, .ref a16, .int r8, .int r9, .ref a17, .ref a18, .int (iI x8), .ref a19, .int (iI x9), .int r10, .ref a20, .ref a21, .int (iI x10), .int r11, .ref a22, .int (iI x11), .int (iI x12), .int (iI x13), .int (iI x14)])), (a1, .inl (T 0, 940, .inl f0))]) M w 0 7 clX12 rfl (by decide) G1470 rfl rfl rfl rfl (Nat.le_of_ble_eq_true rfl) rfl dX12_go_179 (fun H locs w => ?_)
                        refine lv_aload_n hx hb dX12_go_182 rfl (lv_at hl 1 rfl) ?_
                        refine lv_iload_n hx hb dX12_go_183 rfl (lv_at hl 0 rfl) ?_
                        refine r_put (ws' := [(a0, .inr (11, [.int r0, .ref a1, .int (iI x0), .int (iI x1), .int r1, .int (iI z1), .int (iI z1), .int (iI 4), .int (iI x4), .int (iI z17), .int r4, .int r5, .long y0, .int (iI x5), .ref a2, .ref a3, .ref a4, .ref a5, .ref a6, .ref a7, .ref a8, .ref a9, .ref a10, .ref a11, .int (iI x6), .ref a12, .ref a13, .ref a14, .ref a15, .int (iI x7), .int r6, .int r7, .ref a16, .int r8, .int r9, .ref a17, .ref a18, .int (iI x8), .ref a19, .int (iI x9), .int r10, .ref a20, .ref a21, .int (iI x10), .int r11, .ref a22, .int (iI x11), .int (iI x12), .int (iI x13), .int (iI x14)])), (a1, .inl (T 0, 940, .inl f0))]) M w 0 9 clX12 rfl (by decide) G1472 rfl rfl rfl rfl (Nat.le_of_ble_eq_true rfl) rfl dX12_go_184 (fun H locs w => ?_)
                        refine lv_aload_n hx hb dX12_go_187 rfl (lv_at hl 1 rfl) ?_
                        refine lv_dup hx hb dX12_go_188 rfl ?_
                        refine r_get (v := .int (iI z1)) M w 0 5 clX12 rfl (by decide) G1468 rfl rfl dX12_go_189 ?_
                        refine lv_iconst (v := iI 1) hx hb dX12_go_192 (by decide +kernel) ?_
                        refine r_iadd (v := iI (z1 + 1)) M (iI_add _ _) dX12_go_193 ?_
                        refine r_put (ws' := [(a0, .inr (11, [.int r0, .ref a1, .int (iI x0), .int (iI x1), .int r1, .int (iI (z1 + 1)), .int (iI z1), .int (iI 4), .int (iI x4), .int (iI z17), .int r4, .int r5, .long y0, .int (iI x5), .ref a2, .ref a3, .ref a4, .ref a5, .ref a6, .ref a7, .ref a8, .ref a9, .ref a10, .ref a11, .int (iI x6), .ref a12, .ref a13, .ref a14, .ref a15, .int (iI x7), .int r6, .int r7, .ref a16, .int r8, .int r9, .ref a17, .ref a18, .int (iI x8), .ref a19, .int (iI x9), .int r10, .ref a20, .ref a21, .int (iI x10), .int r11, .ref a22, .int (iI x11), .int (iI x12), .int (iI x13), .int (iI x14)])), (a1, .inl (T 0, 940, .inl f0))]) M w 0 5 clX12 rfl (by decide) G1468 rfl rfl rfl rfl (Nat.le_of_ble_eq_true rfl) rfl dX12_go_194 (fun H locs w => ?_)
                        exact ret ((z1 + 1), (iI z1), 4, x4, (iI z17), y0) _ _ _ _ _ [0, 1] dX12_go_197 ⟨(show 0 ≤ (z1 + 1) from by omega), (show (z1 + 1) ≤ 940 from by omega), (show (0 : Int) ≤ 4 from by decide), (show (4 : Int) ≤ 4 from by decide), x4_a, x4_b, (show 0 ≤ ((z1 + 1) - x2) from by omega), (show 0 ≤ ((((z1 + 1) - x2) - 4) + 3) from by omega)⟩ w (by decide) rfl
                      · replace c_359 : ¬ z17 = 60 := fun h => c_359 ((iI_eq (Int.le_trans (by decide) z17_a) (Int.le_trans z17_b (by decide)) (by decide) (by decide)).mpr h)
                        refine lv_iload_n hx hb dX12_go_150 rfl (lv_at hl 0 rfl) ?_
                        refine lv_bipush (v := iI 61) hx hb dX12_go_151 (by decide +kernel) ?_
                        refine lv_icmp_eq (tgt := 174) hx hb dX12_go_153 (by decide) (fun c_360 => ?_) (fun c_360 => ?_)
                        · replace c_360 := (iI_eq (Int.le_trans (by decide) z17_a) (Int.le_trans z17_b (by decide)) (by decide) (by decide)).mp c_360
                          refine lv_iconst (v := iI 4) hx hb dX12_go_174 (by decide +kernel) ?_
                          refine lv_goto (tgt := 179) hx hb dX12_go_175 (by decide) ?_
                          refine r_put (ws' := [(a0, .inr (11, [.int r0, .ref a1, .int (iI x0), .int (iI x1), .int r1, .int (iI z1), .int (iI z1), .int (iI 4), .int (iI x4), .int r3, .int r4, .int r5, .long y0, .int (iI x5), .ref a2, .ref a3, .ref a4, .ref a5, .ref a6, .ref a7, .ref a8, .ref a9, .ref a10, .ref a11, .int (iI x6), .ref a12, .ref a13, .ref a14, .ref a15, .int (iI x7), .int r6, .int r7, .ref a16, .int r8, .int r9, .ref a17, .ref a18, .int (iI x8), .ref a19, .int (iI x9), .int r10, .ref a20, .ref a21, .int (iI x10), .int r11, .ref a22, .int (iI x11), .int (iI x12), .int (iI x13), .int (iI x14)])), (a1, .inl (T 0, 940, .inl f0))]) M w 0 7 clX12 rfl (by decide) G1470 rfl rfl rfl rfl (Nat.le_of_ble_eq_true rfl) rfl dX12_go_179 (fun H locs w => ?_)
                          refine lv_aload_n hx hb dX12_go_182 rfl (lv_at hl 1 rfl) ?_
                          refine lv_iload_n hx hb dX12_go_183 rfl (lv_at hl 0 rfl) ?_
                          refine r_put (ws' := [(a0, .inr (11, [.int r0, .ref a1, .int (iI x0), .int (iI x1), .int r1, .int (iI z1), .int (iI z1), .int (iI 4), .int (iI x4), .int (iI z17), .int r4, .int r5, .long y0, .int (iI x5), .ref a2, .ref a3, .ref a4, .ref a5, .ref a6, .ref a7, .ref a8, .ref a9, .ref a10, .ref a11, .int (iI x6), .ref a12, .ref a13, .ref a14, .ref a15, .int (iI x7), .int r6, .int r7, .ref a16, .int r8, .int r9, .ref a17, .ref a18, .int (iI x8), .ref a19, .int (iI x9), .int r10, .ref a20, .ref a21, .int (iI x10), .int r11, .ref a22, .int (iI x11), .int (iI x12), .int (iI x13), .int (iI x14)])), (a1, .inl (T 0, 940, .inl f0))]) M w 0 9 clX12 rfl (by decide) G1472 rfl rfl rfl rfl (Nat.le_of_ble_eq_true rfl) rfl dX12_go_184 (fun H locs w => ?_)
                          refine lv_aload_n hx hb dX12_go_187 rfl (lv_at hl 1 rfl) ?_
                          refine lv_dup hx hb dX12_go_188 rfl ?_
                          refine r_get (v := .int (iI z1)) M w 0 5 clX12 rfl (by decide) G1468 rfl rfl dX12_go_189 ?_
                          refine lv_iconst (v := iI 1) hx hb dX12_go_192 (by decide +kernel) ?_
                          refine r_iadd (v := iI (z1 + 1)) M (iI_add _ _) dX12_go_193 ?_
                          refine r_put (ws' := [(a0, .inr (11, [.int r0, .ref a1, .int (iI x0), .int (iI x1), .int r1, .int (iI (z1 + 1)), .int (iI z1), .int (iI 4), .int (iI x4), .int (iI z17), .int r4, .int r5, .long y0, .int (iI x5), .ref a2, .ref a3, .ref a4, .ref a5, .ref a6, .ref a7, .ref a8, .ref a9, .ref a10, .ref a11, .int (iI x6), .ref a12, .ref a13, .ref a14, .ref a15, .int (iI x7), .int r6, .int r7, .ref a16, .int r8, .int r9, .ref a17, .ref a18, .int (iI x8), .ref a19, .int (iI x9), .int r10, .ref a20, .ref a21, .int (iI x10), .int r11, .ref a22, .int (iI x11), .int (iI x12), .int (iI x13), .int (iI x14)])), (a1, .inl (T 0, 940, .inl f0))]) M w 0 5 clX12 rfl (by decide) G1468 rfl rfl rfl rfl (Nat.le_of_ble_eq_true rfl) rfl dX12_go_194 (fun H locs w => ?_)
                          exact ret ((z1 + 1), (iI z1), 4, x4, (iI z17), y0) _ _ _ _ _ [0, 1] dX12_go_197 ⟨(show 0 ≤ (z1 + 1) from by omega), (show (z1 + 1) ≤ 940 from by omega), (show (0 : Int) ≤ 4 from by decide), (show (4 : Int) ≤ 4 from by decide), x4_a, x4_b, (show 0 ≤ ((z1 + 1) - x2) from by omega), (show 0 ≤ ((((z1 + 1) - x2) - 4) + 3) from by omega)⟩ w (by decide) rfl
                        · replace c_360 : ¬ z17 = 61 := fun h => c_360 ((iI_eq (Int.le_trans (by decide) z17_a) (Int.le_trans z17_b (by decide)) (by decide) (by decide)).mpr h)
                          refine lv_iload_n hx hb dX12_go_156 rfl (lv_at hl 0 rfl) ?_
                          refine lv_bipush (v := iI 62) hx hb dX12_go_157 (by decide +kernel) ?_
                          refine lv_icmp_eq (tgt := 174) hx hb dX12_go_159 (by decide) (fun c_361 => ?_) (fun c_361 => ?_)
                          · replace c_361 := (iI_eq (Int.le_trans (by decide) z17_a) (Int.le_trans z17_b (by decide)) (by decide) (by decide)).mp c_361
                            refine lv_iconst (v := iI 4) hx hb dX12_go_174 (by decide +kernel) ?_
                            refine lv_goto (tgt := 179) hx hb dX12_go_175 (by decide) ?_
                            refine r_put (ws' := [(a0, .inr (11, [.int r0, .ref a1, .int (iI x0), .int (iI x1), .int r1, .int (iI z1), .int (iI z1), .int (iI 4), .int (iI x4), .int r3, .int r4, .int r5, .long y0, .int (iI x5), .ref a2, .ref a3, .ref a4, .ref a5, .ref a6, .ref a7, .ref a8, .ref a9, .ref a10, .ref a11, .int (iI x6), .ref a12, .ref a13, .ref a14, .ref a15, .int (iI x7), .int r6, .int r7, .ref a16, .int r8, .int r9, .ref a17, .ref a18, .int (iI x8), .ref a19, .int (iI x9), .int r10, .ref a20, .ref a21, .int (iI x10), .int r11, .ref a22, .int (iI x11), .int (iI x12), .int (iI x13), .int (iI x14)])), (a1, .inl (T 0, 940, .inl f0))]) M w 0 7 clX12 rfl (by decide) G1470 rfl rfl rfl rfl (Nat.le_of_ble_eq_true rfl) rfl dX12_go_179 (fun H locs w => ?_)
                            refine lv_aload_n hx hb dX12_go_182 rfl (lv_at hl 1 rfl) ?_
                            refine lv_iload_n hx hb dX12_go_183 rfl (lv_at hl 0 rfl) ?_
                            refine r_put (ws' := [(a0, .inr (11, [.int r0, .ref a1, .int (iI x0), .int (iI x1), .int r1, .int (iI z1), .int (iI z1), .int (iI 4), .int (iI x4), .int (iI z17), .int r4, .int r5, .long y0, .int (iI x5), .ref a2, .ref a3, .ref a4, .ref a5, .ref a6, .ref a7, .ref a8, .ref a9, .ref a10, .ref a11, .int (iI x6), .ref a12, .ref a13, .ref a14, .ref a15, .int (iI x7), .int r6, .int r7, .ref a16, .int r8, .int r9, .ref a17, .ref a18, .int (iI x8), .ref a19, .int (iI x9), .int r10, .ref a20, .ref a21, .int (iI x10), .int r11, .ref a22, .int (iI x11), .int (iI x12), .int (iI x13), .int (iI x14)])), (a1, .inl (T 0, 940, .inl f0))]) M w 0 9 clX12 rfl (by decide) G1472 rfl rfl rfl rfl (Nat.le_of_ble_eq_true rfl) rfl dX12_go_184 (fun H locs w => ?_)
                            refine lv_aload_n hx hb dX12_go_187 rfl (lv_at hl 1 rfl) ?_
                            refine lv_dup hx hb dX12_go_188 rfl ?_
                            refine r_get (v := .int (iI z1)) M w 0 5 clX12 rfl (by decide) G1468 rfl rfl dX12_go_189 ?_
                            refine lv_iconst (v := iI 1) hx hb dX12_go_192 (by decide +kernel) ?_
                            refine r_iadd (v := iI (z1 + 1)) M (iI_add _ _) dX12_go_193 ?_
                            refine r_put (ws' := [(a0, .inr (11, [.int r0, .ref a1, .int (iI x0), .int (iI x1), .int r1, .int (iI (z1 + 1)), .int (iI z1), .int (iI 4), .int (iI x4), .int (iI z17), .int r4, .int r5, .long y0, .int (iI x5), .ref a2, .ref a3, .ref a4, .ref a5, .ref a6, .ref a7, .ref a8, .ref a9, .ref a10, .ref a11, .int (iI x6), .ref a12, .ref a13, .ref a14, .ref a15, .int (iI x7), .int r6, .int r7, .ref a16, .int r8, .int r9, .ref a17, .ref a18, .int (iI x8), .ref a19, .int (iI x9), .int r10, .ref a20, .ref a21, .int (iI x10), .int r11, .ref a22, .int (iI x11), .int (iI x12), .int (iI x13), .int (iI x14)])), (a1, .inl (T 0, 940, .inl f0))]) M w 0 5 clX12 rfl (by decide) G1468 rfl rfl rfl rfl (Nat.le_of_ble_eq_true rfl) rfl dX12_go_194 (fun H locs w => ?_)
                            exact ret ((z1 + 1), (iI z1), 4, x4, (iI z17), y0) _ _ _ _ _ [0, 1] dX12_go_197 ⟨(show 0 ≤ (z1 + 1) from by omega), (show (z1 + 1) ≤ 940 from by omega), (show (0 : Int) ≤ 4 from by decide), (show (4 : Int) ≤ 4 from by decide), x4_a, x4_b, (show 0 ≤ ((z1 + 1) - x2) from by omega), (show 0 ≤ ((((z1 + 1) - x2) - 4) + 3) from by omega)⟩ w (by decide) rfl
                          · replace c_361 : ¬ z17 = 62 := fun h => c_361 ((iI_eq (Int.le_trans (by decide) z17_a) (Int.le_trans z17_b (by decide)) (by decide) (by decide)).mpr h)
                            refine lv_iload_n hx hb dX12_go_162 rfl (lv_at hl 0 rfl) ?_
                            refine lv_bipush (v := iI 40) hx hb dX12_go_163 (by decide +kernel) ?_
                            refine lv_icmp_eq (tgt := 174) hx hb dX12_go_165 (by decide) (fun c_362 => ?_) (fun c_362 => ?_)
                            · replace c_362 := (iI_eq (Int.le_trans (by decide) z17_a) (Int.le_trans z17_b (by decide)) (by decide) (by decide)).mp c_362
                              refine lv_iconst (v := iI 4) hx hb dX12_go_174 (by decide +kernel) ?_
                              refine lv_goto (tgt := 179) hx hb dX12_go_175 (by decide) ?_
                              refine r_put (ws' := [(a0, .inr (11, [.int r0, .ref a1, .int (iI x0), .int (iI x1), .int r1, .int (iI z1), .int (iI z1), .int (iI 4), .int (iI x4), .int r3, .int r4, .int r5, .long y0, .int (iI x5), .ref a2, .ref a3, .ref a4, .ref a5, .ref a6, .ref a7, .ref a8, .ref a9, .ref a10, .ref a11, .int (iI x6), .ref a12, .ref a13, .ref a14, .ref a15, .int (iI x7), .int r6, .int r7, .ref a16, .int r8, .int r9, .ref a17, .ref a18, .int (iI x8), .ref a19, .int (iI x9), .int r10, .ref a20, .ref a21, .int (iI x10), .int r11, .ref a22, .int (iI x11), .int (iI x12), .int (iI x13), .int (iI x14)])), (a1, .inl (T 0, 940, .inl f0))]) M w 0 7 clX12 rfl (by decide) G1470 rfl rfl rfl rfl (Nat.le_of_ble_eq_true rfl) rfl dX12_go_179 (fun H locs w => ?_)
                              refine lv_aload_n hx hb dX12_go_182 rfl (lv_at hl 1 rfl) ?_
                              refine lv_iload_n hx hb dX12_go_183 rfl (lv_at hl 0 rfl) ?_
                              refine r_put (ws' := [(a0, .inr (11, [.int r0, .ref a1, .int (iI x0), .int (iI x1), .int r1, .int (iI z1), .int (iI z1), .int (iI 4), .int (iI x4), .int (iI z17), .int r4, .int r5, .long y0, .int (iI x5), .ref a2, .ref a3, .ref a4, .ref a5, .ref a6, .ref a7, .ref a8, .ref a9, .ref a10, .ref a11, .int (iI x6), .ref a12, .ref a13, .ref a14, .ref a15, .int (iI x7), .int r6, .int r7, .ref a16, .int r8, .int r9, .ref a17, .ref a18, .int (iI x8), .ref a19, .int (iI x9), .int r10, .ref a20, .ref a21, .int (iI x10), .int r11, .ref a22, .int (iI x11), .int (iI x12), .int (iI x13), .int (iI x14)])), (a1, .inl (T 0, 940, .inl f0))]) M w 0 9 clX12 rfl (by decide) G1472 rfl rfl rfl rfl (Nat.le_of_ble_eq_true rfl) rfl dX12_go_184 (fun H locs w => ?_)
                              refine lv_aload_n hx hb dX12_go_187 rfl (lv_at hl 1 rfl) ?_
                              refine lv_dup hx hb dX12_go_188 rfl ?_
                              refine r_get (v := .int (iI z1)) M w 0 5 clX12 rfl (by decide) G1468 rfl rfl dX12_go_189 ?_
                              refine lv_iconst (v := iI 1) hx hb dX12_go_192 (by decide +kernel) ?_
                              refine r_iadd (v := iI (z1 + 1)) M (iI_add _ _) dX12_go_193 ?_
                              refine r_put (ws' := [(a0, .inr (11, [.int r0, .ref a1, .int (iI x0), .int (iI x1), .int r1, .int (iI (z1 + 1)), .int (iI z1), .int (iI 4), .int (iI x4), .int (iI z17), .int r4, .int r5, .long y0, .int (iI x5), .ref a2, .ref a3, .ref a4, .ref a5, .ref a6, .ref a7, .ref a8, .ref a9, .ref a10, .ref a11, .int (iI x6), .ref a12, .ref a13, .ref a14, .ref a15, .int (iI x7), .int r6, .int r7, .ref a16, .int r8, .int r9, .ref a17, .ref a18, .int (iI x8), .ref a19, .int (iI x9), .int r10, .ref a20, .ref a21, .int (iI x10), .int r11, .ref a22, .int (iI x11), .int (iI x12), .int (iI x13), .int (iI x14)])), (a1, .inl (T 0, 940, .inl f0))]) M w 0 5 clX12 rfl (by decide) G1468 rfl rfl rfl rfl (Nat.le_of_ble_eq_true rfl) rfl dX12_go_194 (fun H locs w => ?_)
                              exact ret ((z1 + 1), (iI z1), 4, x4, (iI z17), y0) _ _ _ _ _ [0, 1] dX12_go_197 ⟨(show 0 ≤ (z1 + 1) from by omega), (show (z1 + 1) ≤ 940 from by omega), (show (0 : Int) ≤ 4 from by decide), (show (4 : Int) ≤ 4 from by decide), x4_a, x4_b, (show 0 ≤ ((z1 + 1) - x2) from by omega), (show 0 ≤ ((((z1 + 1) - x2) - 4) + 3) from by omega)⟩ w (by decide) rfl
                            · replace c_362 : ¬ z17 = 40 := fun h => c_362 ((iI_eq (Int.le_trans (by decide) z17_a) (Int.le_trans z17_b (by decide)) (by decide) (by decide)).mpr h)
                              refine lv_iload_n hx hb dX12_go_168 rfl (lv_at hl 0 rfl) ?_
                              refine lv_bipush (v := iI 41) hx hb dX12_go_169 (by decide +kernel) ?_
                              refine lv_icmp_ne (tgt := 178) hx hb dX12_go_171 (by decide) (fun c_363 => ?_) (fun c_363 => ?_)
                              · replace c_363 : ¬ z17 = 41 := fun h => c_363 ((iI_eq (Int.le_trans (by decide) z17_a) (Int.le_trans z17_b (by decide)) (by decide) (by decide)).mpr h)
                                refine lv_iconst (v := iI 1) hx hb dX12_go_178 (by decide +kernel) ?_
                                refine r_put (ws' := [(a0, .inr (11, [.int r0, .ref a1, .int (iI x0), .int (iI x1), .int r1, .int (iI z1), .int (iI z1), .int (iI 1), .int (iI x4), .int r3, .int r4, .int r5, .long y0, .int (iI x5), .ref a2, .ref a3, .ref a4, .ref a5, .ref a6, .ref a7, .ref a8, .ref a9, .ref a10, .ref a11, .int (iI x6), .ref a12, .ref a13, .ref a14, .ref a15, .int (iI x7), .int r6, .int r7, .ref a16, .int r8, .int r9, .ref a17, .ref a18, .int (iI x8), .ref a19, .int (iI x9), .int r10, .ref a20, .ref a21, .int (iI x10), .int r11, .ref a22, .int (iI x11), .int (iI x12), .int (iI x13), .int (iI x14)])), (a1, .inl (T 0, 940, .inl f0))]) M w 0 7 clX12 rfl (by decide) G1470 rfl rfl rfl rfl (Nat.le_of_ble_eq_true rfl) rfl dX12_go_179 (fun H locs w => ?_)
                                refine lv_aload_n hx hb dX12_go_182 rfl (lv_at hl 1 rfl) ?_
                                refine lv_iload_n hx hb dX12_go_183 rfl (lv_at hl 0 rfl) ?_
                                refine r_put (ws' := [(a0, .inr (11, [.int r0, .ref a1, .int (iI x0), .int (iI x1), .int r1, .int (iI z1), .int (iI z1), .int (iI 1), .int (iI x4), .int (iI z17), .int r4, .int r5, .long y0, .int (iI x5), .ref a2, .ref a3, .ref a4, .ref a5, .ref a6, .ref a7, .ref a8, .ref a9, .ref a10, .ref a11, .int (iI x6), .ref a12, .ref a13, .ref a14, .ref a15, .int (iI x7), .int r6, .int r7, .ref a16, .int r8, .int r9, .ref a17, .ref a18, .int (iI x8), .ref a19, .int (iI x9), .int r10, .ref a20, .ref a21, .int (iI x10), .int r11, .ref a22, .int (iI x11), .int (iI x12), .int (iI x13), .int (iI x14)])), (a1, .inl (T 0, 940, .inl f0))]) M w 0 9 clX12 rfl (by decide) G1472 rfl rfl rfl rfl (Nat.le_of_ble_eq_true rfl) rfl dX12_go_184 (fun H locs w => ?_)
                                refine lv_aload_n hx hb dX12_go_187 rfl (lv_at hl 1 rfl) ?_
                                refine lv_dup hx hb dX12_go_188 rfl ?_
                                refine r_get (v := .int (iI z1)) M w 0 5 clX12 rfl (by decide) G1468 rfl rfl dX12_go_189 ?_
                                refine lv_iconst (v := iI 1) hx hb dX12_go_192 (by decide +kernel) ?_
                                refine r_iadd (v := iI (z1 + 1)) M (iI_add _ _) dX12_go_193 ?_
                                refine r_put (ws' := [(a0, .inr (11, [.int r0, .ref a1, .int (iI x0), .int (iI x1), .int r1, .int (iI (z1 + 1)), .int (iI z1), .int (iI 1), .int (iI x4), .int (iI z17), .int r4, .int r5, .long y0, .int (iI x5), .ref a2, .ref a3, .ref a4, .ref a5, .ref a6, .ref a7, .ref a8, .ref a9, .ref a10, .ref a11, .int (iI x6), .ref a12, .ref a13, .ref a14, .ref a15, .int (iI x7), .int r6, .int r7, .ref a16, .int r8, .int r9, .ref a17, .ref a18, .int (iI x8), .ref a19, .int (iI x9), .int r10, .ref a20, .ref a21, .int (iI x10), .int r11, .ref a22, .int (iI x11), .int (iI x12), .int (iI x13), .int (iI x14)])), (a1, .inl (T 0, 940, .inl f0))]) M w 0 5 clX12 rfl (by decide) G1468 rfl rfl rfl rfl (Nat.le_of_ble_eq_true rfl) rfl dX12_go_194 (fun H locs w => ?_)
                                exact ret ((z1 + 1), (iI z1), 1, x4, (iI z17), y0) _ _ _ _ _ [0, 1] dX12_go_197 ⟨(show 0 ≤ (z1 + 1) from by omega), (show (z1 + 1) ≤ 940 from by omega), (show (0 : Int) ≤ 1 from by decide), (show (1 : Int) ≤ 4 from by decide), x4_a, x4_b, (show 0 ≤ ((z1 + 1) - x2) from by omega), (show 0 ≤ ((((z1 + 1) - x2) - 1) + 3) from by omega)⟩ w (by decide) rfl
                              · replace c_363 := (iI_eq (Int.le_trans (by decide) z17_a) (Int.le_trans z17_b (by decide)) (by decide) (by decide)).mp c_363
                                refine lv_iconst (v := iI 4) hx hb dX12_go_174 (by decide +kernel) ?_
                                refine lv_goto (tgt := 179) hx hb dX12_go_175 (by decide) ?_
                                refine r_put (ws' := [(a0, .inr (11, [.int r0, .ref a1, .int (iI x0), .int (iI x1), .int r1, .int (iI z1), .int (iI z1), .int (iI 4), .int (iI x4), .int r3, .int r4, .int r5, .long y0, .int (iI x5), .ref a2, .ref a3, .ref a4, .ref a5, .ref a6, .ref a7, .ref a8, .ref a9, .ref a10, .ref a11, .int (iI x6), .ref a12, .ref a13, .ref a14, .ref a15, .int (iI x7), .int r6, .int r7, .ref a16, .int r8, .int r9, .ref a17, .ref a18, .int (iI x8), .ref a19, .int (iI x9), .int r10, .ref a20, .ref a21, .int (iI x10), .int r11, .ref a22, .int (iI x11), .int (iI x12), .int (iI x13), .int (iI x14)])), (a1, .inl (T 0, 940, .inl f0))]) M w 0 7 clX12 rfl (by decide) G1470 rfl rfl rfl rfl (Nat.le_of_ble_eq_true rfl) rfl dX12_go_179 (fun H locs w => ?_)
                                refine lv_aload_n hx hb dX12_go_182 rfl (lv_at hl 1 rfl) ?_
                                refine lv_iload_n hx hb dX12_go_183 rfl (lv_at hl 0 rfl) ?_
                                refine r_put (ws' := [(a0, .inr (11, [.int r0, .ref a1, .int (iI x0), .int (iI x1), .int r1, .int (iI z1), .int (iI z1), .int (iI 4), .int (iI x4), .int (iI z17), .int r4, .int r5, .long y0, .int (iI x5), .ref a2, .ref a3, .ref a4, .ref a5, .ref a6, .ref a7, .ref a8, .ref a9, .ref a10, .ref a11, .int (iI x6), .ref a12, .ref a13, .ref a14, .ref a15, .int (iI x7), .int r6, .int r7, .ref a16, .int r8, .int r9, .ref a17, .ref a18, .int (iI x8), .ref a19, .int (iI x9), .int r10, .ref a20, .ref a21, .int (iI x10), .int r11, .ref a22, .int (iI x11), .int (iI x12), .int (iI x13), .int (iI x14)])), (a1, .inl (T 0, 940, .inl f0))]) M w 0 9 clX12 rfl (by decide) G1472 rfl rfl rfl rfl (Nat.le_of_ble_eq_true rfl) rfl dX12_go_184 (fun H locs w => ?_)
                                refine lv_aload_n hx hb dX12_go_187 rfl (lv_at hl 1 rfl) ?_
                                refine lv_dup hx hb dX12_go_188 rfl ?_
                                refine r_get (v := .int (iI z1)) M w 0 5 clX12 rfl (by decide) G1468 rfl rfl dX12_go_189 ?_
                                refine lv_iconst (v := iI 1) hx hb dX12_go_192 (by decide +kernel) ?_
                                refine r_iadd (v := iI (z1 + 1)) M (iI_add _ _) dX12_go_193 ?_
                                refine r_put (ws' := [(a0, .inr (11, [.int r0, .ref a1, .int (iI x0), .int (iI x1), .int r1, .int (iI (z1 + 1)), .int (iI z1), .int (iI 4), .int (iI x4), .int (iI z17), .int r4, .int r5, .long y0, .int (iI x5), .ref a2, .ref a3, .ref a4, .ref a5, .ref a6, .ref a7, .ref a8, .ref a9, .ref a10, .ref a11, .int (iI x6), .ref a12, .ref a13, .ref a14, .ref a15, .int (iI x7), .int r6, .int r7, .ref a16, .int r8, .int r9, .ref a17, .ref a18, .int (iI x8), .ref a19, .int (iI x9), .int r10, .ref a20, .ref a21, .int (iI x10), .int r11, .ref a22, .int (iI x11), .int (iI x12), .int (iI x13), .int (iI x14)])), (a1, .inl (T 0, 940, .inl f0))]) M w 0 5 clX12 rfl (by decide) G1468 rfl rfl rfl rfl (Nat.le_of_ble_eq_true rfl) rfl dX12_go_194 (fun H locs w => ?_)
                                exact ret ((z1 + 1), (iI z1), 4, x4, (iI z17), y0) _ _ _ _ _ [0, 1] dX12_go_197 ⟨(show 0 ≤ (z1 + 1) from by omega), (show (z1 + 1) ≤ 940 from by omega), (show (0 : Int) ≤ 4 from by decide), (show (4 : Int) ≤ 4 from by decide), x4_a, x4_b, (show 0 ≤ ((z1 + 1) - x2) from by omega), (show 0 ≤ ((((z1 + 1) - x2) - 4) + 3) from by omega)⟩ w (by decide) rfl
              · replace c_16 : x1 ≤ z1 := Int.not_lt.mp (fun h => c_16 ((iI_lt (Int.le_trans (by decide) z1_a) (Int.le_trans z1_b (by decide)) (Int.le_trans (by decide) x1_a) (Int.le_trans x1_b (by decide))).mpr h))
                exfalso; omega
            · replace c_15 : z14 < x1 := Int.not_le.mp (fun h => c_15 ((iI_le (Int.le_trans (by decide) x1_a) (Int.le_trans x1_b (by decide)) (Int.le_trans (by decide) z14_a) (Int.le_trans z14_b (by decide))).mpr h))
              refine lv_aload_n hx hb dX12_go_71 rfl (lv_at hl 0 rfl) ?_
              refine r_get (v := .int (iI z1)) M w 0 6 clX12 rfl (by decide) G1469 rfl rfl dX12_go_72 ?_
              refine lv_aload_n hx hb dX12_go_75 rfl (lv_at hl 0 rfl) ?_
              refine r_get (v := .int r1) M w 0 4 clX12 rfl (by decide) G1467 rfl rfl dX12_go_76 ?_
              refine b_any (fun z364 z364_a z364_b => ?_)
              refine lv_icmp_lt (tgt := 96) hx hb dX12_go_79 (by decide) (fun c_365 => ?_) (fun c_365 => ?_)
              · replace c_365 := (iI_lt (Int.le_trans (by decide) z1_a) (Int.le_trans z1_b (by decide)) (Int.le_trans (by decide) z364_a) (Int.le_trans z364_b (by decide))).mp c_365
                refine lv_aload_n hx hb dX12_go_96 rfl (lv_at hl 0 rfl) ?_
                refine r_get (v := .int (iI z1)) M w 0 5 clX12 rfl (by decide) G1468 rfl rfl dX12_go_97 ?_
                refine lv_aload_n hx hb dX12_go_100 rfl (lv_at hl 0 rfl) ?_
                refine r_get (v := .int (iI x1)) M w 0 3 clX12 rfl (by decide) G1466 rfl rfl dX12_go_101 ?_
                refine lv_icmp_lt (tgt := 113) hx hb dX12_go_104 (by decide) (fun c_366 => ?_) (fun c_366 => ?_)
                · replace c_366 := (iI_lt (Int.le_trans (by decide) z1_a) (Int.le_trans z1_b (by decide)) (Int.le_trans (by decide) x1_a) (Int.le_trans x1_b (by decide))).mp c_366
                  refine lv_aload_n hx hb dX12_go_113 rfl (lv_at hl 0 rfl) ?_
                  refine r_get (v := .ref a1) M w 0 1 clX12 rfl (by decide) G1464 rfl rfl dX12_go_114 ?_
                  refine lv_aload_n hx hb dX12_go_117 rfl (lv_at hl 0 rfl) ?_
                  refine r_get (v := .int (iI z1)) M w 0 5 clX12 rfl (by decide) G1468 rfl rfl dX12_go_118 ?_
                  refine r_iald (v := _) M w 1 rfl (iI_in (by omega) (by omega) (by decide)) rfl dX12_go_121 ?_
                  refine b_any (fun z367 z367_a z367_b => ?_)
                  refine lv_istore_n (lv' := [(1, .int (iI z367)), (0, .ref a0)]) hx hb dX12_go_122 rfl hl (by decide) rfl (fun ls hl => ?_)
                  refine lv_iload_n hx hb dX12_go_123 rfl (lv_at hl 0 rfl) ?_
                  refine k_I (ce := 0) (sl := 0) (rest := []) (wr := [(a0, .inr (11, [.int r0, .ref a1, .int (iI x0), .int (iI x1), .int r1, .int (iI z1), .int (iI z1), .int (iI x3), .int (iI x4), .int r3, .int r4, .int r5, .long y0, .int (iI x5), .ref a2, .ref a3, .ref a4, .ref a5, .ref a6, .ref a7, .ref a8, .ref a9, .ref a10, .ref a11, .int (iI x6), .ref a12, .ref a13, .ref a14, .ref a15, .int (iI x7), .int r6, .int r7, .ref a16, .int r8, .int r9, .ref a17, .ref a18, .int (iI x8), .ref a19, .int (iI x9), .int r10, .ref a20, .ref a21, .int (iI x10), .int r11, .ref a22, .int (iI x11), .int (iI x12), .int (iI x13), .int (iI x14)])), (a1, .inl (T 0, 940, .inl f0))]) (r_S (f := 0) [] M w V_HookedCityModel_33 G1632 (c11_X12_isLetter l D T _ z367 z367_a z367_b) rfl (by decide) rfl hl.1 rfl (Nat.le_of_ble_eq_true rfl) dX12_go_124 (by decide) (by decide) (by decide) (by decide)) w [] [0, 1] rfl rfl (by decide) (by decide) rfl rfl (fun v z368 H locs hp w => ?_)
                  have hv : iI z368 = v := hp.1
                  subst hv
                  have z368_a : 0 ≤ z368 := hp.2.1
                  have z368_b : z368 ≤ 1 := hp.2.2.1
                  have ee369 : 0 ≤ ((z367 + 4294967296) - (z368 * 4294967393)) := hp.2.2.2
                  have w : WD D A s.heap [(a0, .inr (11, [.int r0, .ref a1, .int (iI x0), .int (iI x1), .int r1, .int (iI z1), .int (iI z1), .int (iI x3), .int (iI x4), .int r3, .int r4, .int r5, .long y0, .int (iI x5), .ref a2, .ref a3, .ref a4, .ref a5, .ref a6, .ref a7, .ref a8, .ref a9, .ref a10, .ref a11, .int (iI x6), .ref a12, .ref a13, .ref a14, .ref a15, .int (iI x7), .int r6, .int r7, .ref a16, .int r8, .int r9, .ref a17, .ref a18, .int (iI x8), .ref a19, .int (iI x9), .int r10, .ref a20, .ref a21, .int (iI x10), .int r11, .ref a22, .int (iI x11), .int (iI x12), .int (iI x13), .int (iI x14)])), (a1, .inl (T 0, 940, .inl f0))] H locs := w
                  refine lv_if_ne (tgt := 198) hx hb dX12_go_127 (by decide) (fun c_370 => ?_) (fun c_370 => ?_)
                  · replace c_370 : ¬ z368 = 0 := fun h => c_370 ((iz_eq (Int.le_trans (by decide) z368_a) (Int.le_trans z368_b (by decide))).mpr h)
                    refine lv_iload_n hx hb dX12_go_198 rfl (lv_at hl 0 rfl) ?_
                    refine k_I (ce := 0) (sl := 0) (rest := []) (wr := [(a0, .inr (11, [.int r0, .ref a1, .int (iI x0), .int (iI x1), .int r1, .int (iI z1), .int (iI z1), .int (iI x3), .int (iI x4), .int r3, .int r4, .int r5, .long y0, .int (iI x5), .ref a2, .ref a3, .ref a4, .ref a5, .ref a6, .ref a7, .ref a8, .ref a9, .ref a10, .ref a11, .int (iI x6), .ref a12, .ref a13, .ref a14, .ref a15, .int (iI x7), .int r6, .int r7, .ref a16, .int r8, .int r9, .ref a17, .ref a18, .int (iI x8), .ref a19, .int (iI x9), .int r10, .ref a20, .ref a21, .int (iI x10), .int r11, .ref a22, .int (iI x11), .int (iI x12), .int (iI x13), .int (iI x14)])), (a1, .inl (T 0, 940, .inl f0))]) (r_S (f := 0) [] M w V_HookedCityModel_33 G1632 (c11_X12_isLetter l D T _ z367 z367_a z367_b) rfl (by decide) rfl hl.1 rfl (Nat.le_of_ble_eq_true rfl) dX12_go_199 (by decide) (by decide) (by decide) (by decide)) w [] [0, 1] rfl rfl (by decide) (by decide) rfl rfl (fun v z371 H locs hp w => ?_)
                    have hv : iI z371 = v := hp.1
                    subst hv
                    have z371_a : 0 ≤ z371 := hp.2.1
                    have z371_b : z371 ≤ 1 := hp.2.2.1
                    have ee372 : 0 ≤ ((z367 + 4294967296) - (z371 * 4294967393)) := hp.2.2.2
                    have w : WD D A s.heap [(a0, .inr (11, [.int r0, .ref a1, .int (iI x0), .int (iI x1), .int r1, .int (iI z1), .int (iI z1), .int (iI x3), .int (iI x4), .int r3, .int r4, .int r5, .long y0, .int (iI x5), .ref a2, .ref a3, .ref a4, .ref a5, .ref a6, .ref a7, .ref a8, .ref a9, .ref a10, .ref a11, .int (iI x6), .ref a12, .ref a13, .ref a14, .ref a15, .int (iI x7), .int r6, .int r7, .ref a16, .int r8, .int r9, .ref a17, .ref a18, .int (iI x8), .ref a19, .int (iI x9), .int r10, .ref a20, .ref a21, .int (iI x10), .int r11, .ref a22, .int (iI x11), .int (iI x12), .int (iI x13), .int (iI x14)])), (a1, .inl (T 0, 940, .inl f0))] H locs := w
                    refine lv_istore_n (lv' := [(2, .int (iI z371)), (1, .int (iI z367)), (0, .ref a0)]) hx hb dX12_go_202 rfl hl (by decide) rfl (fun ls hl => ?_)
                    refine lv_iconst (v := iI 1) hx hb dX12_go_203 (by decide +kernel) ?_
                    refine lv_istore_n (lv' := [(3, .int (iI 1)), (2, .int (iI z371)), (1, .int (iI z367)), (0, .ref a0)]) hx hb dX12_go_204 rfl hl (by decide) rfl (fun ls hl => ?_)
                    refine lv_aload_n hx hb dX12_go_205 rfl (lv_at hl 3 rfl) ?_
                    refine lv_lconst (v := 0) hx hb dX12_go_206 (by decide) ?_
                    refine r_put (ws' := [(a0, .inr (11, [.int r0, .ref a1, .int (iI x0), .int (iI x1), .int r1, .int (iI z1), .int (iI z1), .int (iI x3), .int (iI x4), .int r3, .int r4, .int r5, .long 0, .int (iI x5), .ref a2, .ref a3, .ref a4, .ref a5, .ref a6, .ref a7, .ref a8, .ref a9, .ref a10, .ref a11, .int (iI x6), .ref a12, .ref a13, .ref a14, .ref a15, .int (iI x7), .int r6, .int r7, .ref a16, .int r8, .int r9, .ref a17, .ref a18, .int (iI x8), .ref a19, .int (iI x9), .int r10, .ref a20, .ref a21, .int (iI x10), .int r11, .ref a22, .int (iI x11), .int (iI x12), .int (iI x13), .int (iI x14)])), (a1, .inl (T 0, 940, .inl f0))]) M w 0 12 clX12 rfl (by decide) G1475 rfl rfl rfl rfl (Nat.le_of_ble_eq_true rfl) rfl dX12_go_207 (fun H locs w => ?_)
                    refine lv_aload_n hx hb dX12_go_210 rfl (lv_at hl 3 rfl) ?_
                    refine lv_iconst (v := iI 0) hx hb dX12_go_211 (by decide +kernel) ?_
                    refine r_put (ws' := [(a0, .inr (11, [.int r0, .ref a1, .int (iI x0), .int (iI x1), .int r1, .int (iI z1), .int (iI z1), .int (iI x3), .int (iI 0), .int r3, .int r4, .int r5, .long 0, .int (iI x5), .ref a2, .ref a3, .ref a4, .ref a5, .ref a6, .ref a7, .ref a8, .ref a9, .ref a10, .ref a11, .int (iI x6), .ref a12, .ref a13, .ref a14, .ref a15, .int (iI x7), .int r6, .int r7, .ref a16, .int r8, .int r9, .ref a17, .ref a18, .int (iI x8), .ref a19, .int (iI x9), .int r10, .ref a20, .ref a21, .int (iI x10), .int r11, .ref a22, .int (iI x11), .int (iI x12), .int (iI x13), .int (iI x14)])), (a1, .inl (T 0, 940, .inl f0))]) M w 0 8 clX12 rfl (by decide) G1471 rfl rfl rfl rfl (Nat.le_of_ble_eq_true rfl) rfl dX12_go_212 (fun H locs w => ?_)
                    have loop2 : ∀ (k2 : Nat) (fy373 : Int64) (z374 : Int) (z375 : Int) (z376 : Int) (H : Heap) (locs : List Loc) (ls : Array Slot), 0 ≤ z374 → z374 ≤ 940 → (-2147483648) ≤ z375 → z375 ≤ 2147483647 → (-2147483648) ≤ z376 → z376 ≤ 2147483647 → 0 ≤ (z374 - x2) → ((x1 - z374) : Int).toNat < k2 → WD D A s.heap [(a0, .inr (11, [.int r0, .ref a1, .int (iI x0), .int (iI x1), .int r1, .int (iI z374), .int (iI z1), .int (iI x3), .int (iI z375), .int r3, .int r4, .int r5, .long fy373, .int (iI x5), .ref a2, .ref a3, .ref a4, .ref a5, .ref a6, .ref a7, .ref a8, .ref a9, .ref a10, .ref a11, .int (iI x6), .ref a12, .ref a13, .ref a14, .ref a15, .int (iI x7), .int r6, .int r7, .ref a16, .int r8, .int r9, .ref a17, .ref a18, .int (iI x8), .ref a19, .int (iI x9), .int r10, .ref a20, .ref a21, .int (iI x10), .int r11, .ref a22, .int (iI x11), .int (iI x12), .int (iI x13), .int (iI x14)])), (a1, .inl (T 0, 940, .inl f0))] H locs → lv_has ls 5 [(3, .int (iI z376)), (2, .int (iI z371)), (1, .int (iI z367)), (0, .ref a0)] → W p l e (Rm 1 0 0) s m args below meth c H locs 0 0 Q (F0 m 215 ls []) := by
                      intro k2
                      induction k2 with
                      | zero => intro fy373 z374 z375 z376 H locs ls z374_a z374_b z375_a z375_b z376_a z376_b q2_0 hm; exact absurd hm (Nat.not_lt_zero _)
                      | succ k2 ih2 =>
                        intro fy373 z374 z375 z376 H locs ls z374_a z374_b z375_a z375_b z376_a z376_b q2_0 hm2 w hl
                        refine lv_aload_n hx hb dX12_go_215 rfl (lv_at hl 3 rfl) ?_
                        refine lv_aload_n hx hb dX12_go_216 rfl (lv_at hl 3 rfl) ?_
                        refine r_get (v := .int (iI z374)) M w 0 5 clX12 rfl (by decide) G1468 rfl rfl dX12_go_217 ?_
                        refine k_I (ce := 0) (sl := 0) (rest := []) (wr := []) (r_V (f := 0) [0, 1] M w V_HookedCityModel_50 G1639 G50 (c9_X12_tapeAt l D T _ a0 z374 r0 a1 x0 x1 r1 z374 (iI z1) x3 z375 r3 r4 r5 fy373 x5 a2 a3 a4 a5 a6 a7 a8 a9 a10 a11 x6 a12 a13 a14 a15 x7 r6 r7 a16 r8 r9 a17 a18 x8 a19 x9 r10 a20 a21 x10 r11 a22 x11 x12 x13 x14 f0 z374_a z374_b x0_a x0_b x1_a x1_b z374_a z374_b x3_a x3_b z375_a z375_b x5_a x5_b x6_a x6_b x7_a x7_b x8_a x8_b x9_a x9_b x10_a x10_b x11_a x11_b x12_a x12_b x13_a x13_b x14_a x14_b) 0 clX12 rfl rfl (by decide) rfl hl.1 rfl (Nat.le_of_ble_eq_true rfl) dX12_go_220 (by decide) (by decide) (by decide) (by decide)) w [0, 1] [] rfl rfl (by decide) (by decide) rfl rfl (fun v z377 H locs hp w => ?_)
                        have hv : iI z377 = v := hp.1
                        subst hv
                        have z377_a : (-2147483648) ≤ z377 := hp.2.1
                        have z377_b : z377 ≤ 2147483647 := hp.2.2.1
                        have w : WD D A s.heap [(a0, .inr (11, [.int r0, .ref a1, .int (iI x0), .int (iI x1), .int r1, .int (iI z374), .int (iI z1), .int (iI x3), .int (iI z375), .int r3, .int r4, .int r5, .long fy373, .int (iI x5), .ref a2, .ref a3, .ref a4, .ref a5, .ref a6, .ref a7, .ref a8, .ref a9, .ref a10, .ref a11, .int (iI x6), .ref a12, .ref a13, .ref a14, .ref a15, .int (iI x7), .int r6, .int r7, .ref a16, .int r8, .int r9, .ref a17, .ref a18, .int (iI x8), .ref a19, .int (iI x9), .int r10, .ref a20, .ref a21, .int (iI x10), .int r11, .ref a22, .int (iI x11), .int (iI x12), .int (iI x13), .int (iI x14)])), (a1, .inl (T 0, 940, .inl f0))] H locs := w
                        rcases hp.2.2.2 with ⟨c_378, hr⟩ | c_379
                        · subst hr
                          refine k_I (ce := 0) (sl := 0) (rest := []) (wr := [(a0, .inr (11, [.int r0, .ref a1, .int (iI x0), .int (iI x1), .int r1, .int (iI z374), .int (iI z1), .int (iI x3), .int (iI z375), .int r3, .int r4, .int r5, .long fy373, .int (iI x5), .ref a2, .ref a3, .ref a4, .ref a5, .ref a6, .ref a7, .ref a8, .ref a9, .ref a10, .ref a11, .int (iI x6), .ref a12, .ref a13, .ref a14, .ref a15, .int (iI x7), .int r6, .int r7, .ref a16, .int r8, .int r9, .ref a17, .ref a18, .int (iI x8), .ref a19, .int (iI x9), .int r10, .ref a20, .ref a21, .int (iI x10), .int r11, .ref a22, .int (iI x11), .int (iI x12), .int (iI x13), .int (iI x14)])), (a1, .inl (T 0, 940, .inl f0))]) (r_S (f := 0) [] M w V_HookedCityModel_33 G1632 (c11_X12_isLetter l D T _ 0 (by decide) (by decide)) rfl (by decide) rfl hl.1 rfl (Nat.le_of_ble_eq_true rfl) dX12_go_223 (by decide) (by decide) (by decide) (by decide)) w [] [0, 1] rfl rfl (by decide) (by decide) rfl rfl (fun v z380 H locs hp w => ?_)
                          have hv : iI z380 = v := hp.1
                          subst hv
                          have z380_a : 0 ≤ z380 := hp.2.1
                          have z380_b : z380 ≤ 1 := hp.2.2.1
                          have ee381 : 0 ≤ ((0 + 4294967296) - (z380 * 4294967393)) := hp.2.2.2
                          have w : WD D A s.heap [(a0, .inr (11, [.int r0, .ref a1, .int (iI x0), .int (iI x1), .int r1, .int (iI z374), .int (iI z1), .int (iI x3), .int (iI z375), .int r3, .int r4, .int r5, .long fy373, .int (iI x5), .ref a2, .ref a3, .ref a4, .ref a5, .ref a6, .ref a7, .ref a8, .ref a9, .ref a10, .ref a11, .int (iI x6), .ref a12, .ref a13, .ref a14, .ref a15, .int (iI x7), .int r6, .int r7, .ref a16, .int r8, .int r9, .ref a17, .ref a18, .int (iI x8), .ref a19, .int (iI x9), .int r10, .ref a20, .ref a21, .int (iI x10), .int r11, .ref a22, .int (iI x11), .int (iI x12), .int (iI x13), .int (iI x14)])), (a1, .inl (T 0, 940, .inl f0))] H locs := w
                          refine lv_if_ne (tgt := 243) hx hb dX12_go_226 (by decide) (fun c_382 => ?_) (fun c_382 => ?_)
                          · replace c_382 : ¬ z380 = 0 := fun h => c_382 ((iz_eq (Int.le_trans (by decide) z380_a) (Int.le_trans z380_b (by decide))).mpr h)
                            exfalso; omega
                          · replace c_382 := (iz_eq (Int.le_trans (by decide) z380_a) (Int.le_trans z380_b (by decide))).mp c_382
                            refine lv_aload_n hx hb dX12_go_229 rfl (lv_at hl 3 rfl) ?_
                            refine lv_aload_n hx hb dX12_go_230 rfl (lv_at hl 3 rfl) ?_
                            refine r_get (v := .int (iI z374)) M w 0 5 clX12 rfl (by decide) G1468 rfl rfl dX12_go_231 ?_
                            refine k_I (ce := 0) (sl := 0) (rest := []) (wr := []) (r_V (f := 0) [0, 1] M w V_HookedCityModel_50 G1639 G50 (c9_X12_tapeAt l D T _ a0 z374 r0 a1 x0 x1 r1 z374 (iI z1) x3 z375 r3 r4 r5 fy373 x5 a2 a3 a4 a5 a6 a7 a8 a9 a10 a11 x6 a12 a13 a14 a15 x7 r6 r7 a16 r8 r9 a17 a18 x8 a19 x9 r10 a20 a21 x10 r11 a22 x11 x12 x13 x14 f0 z374_a z374_b x0_a x0_b x1_a x1_b z374_a z374_b x3_a x3_b z375_a z375_b x5_a x5_b x6_a x6_b x7_a x7_b x8_a x8_b x9_a x9_b x10_a x10_b x11_a x11_b x12_a x12_b x13_a x13_b x14_a x14_b) 0 clX12 rfl rfl (by decide) rfl hl.1 rfl (Nat.le_of_ble_eq_true rfl) dX12_go_234 (by decide) (by decide) (by decide) (by decide)) w [0, 1] [] rfl rfl (by decide) (by decide) rfl rfl (fun v z383 H locs hp w => ?_)
                            have hv : iI z383 = v := hp.1
                            subst hv
                            have z383_a : (-2147483648) ≤ z383 := hp.2.1
                            have z383_b : z383 ≤ 2147483647 := hp.2.2.1
                            have w : WD D A s.heap [(a0, .inr (11, [.int r0, .ref a1, .int (iI x0), .int (iI x1), .int r1, .int (iI z374), .int (iI z1), .int (iI x3), .int (iI z375), .int r3, .int r4, .int r5, .long fy373, .int (iI x5), .ref a2, .ref a3, .ref a4, .ref a5, .ref a6, .ref a7, .ref a8, .ref a9, .ref a10, .ref a11, .int (iI x6), .ref a12, .ref a13, .ref a14, .ref a15, .int (iI x7), .int r6, .int r7, .ref a16, .int r8, .int r9, .ref a17, .ref a18, .int (iI x8), .ref a19, .int (iI x9), .int r10, .ref a20, .ref a21, .int (iI x10), .int r11, .ref a22, .int (iI x11), .int (iI x12), .int (iI x13), .int (iI x14)])), (a1, .inl (T 0, 940, .inl f0))] H locs := w
                            rcases hp.2.2.2 with ⟨c_384, hr⟩ | c_385
                            · subst hr
                              refine k_I (ce := 0) (sl := 0) (rest := []) (wr := [(a0, .inr (11, [.int r0, .ref a1, .int (iI x0), .int (iI x1), .int r1, .int (iI z374), .int (iI z1), .int (iI x3), .int (iI z375), .int r3, .int r4, .int r5, .long fy373, .int (iI x5), .ref a2, .ref a3, .ref a4, .ref a5, .ref a6, .ref a7, .ref a8, .ref a9, .ref a10, .ref a11, .int (iI x6), .ref a12, .ref a13, .ref a14, .ref a15, .int (iI x7), .int r6, .int r7, .ref a16, .int r8, .int r9, .ref a17, .ref a18, .int (iI x8), .ref a19, .int (iI x9), .int r10, .ref a20, .ref a21, .int (iI x10), .int r11, .ref a22, .int (iI x11), .int (iI x12), .int (iI x13), .int (iI x14)])), (a1, .inl (T 0, 940, .inl f0))]) (r_S (f := 0) [] M w V_HookedCityModel_37 G1635 (c10_X12_isDigit l D T _ 0 (by decide) (by decide)) rfl (by decide) rfl hl.1 rfl (Nat.le_of_ble_eq_true rfl) dX12_go_237 (by decide) (by decide) (by decide) (by decide)) w [] [0, 1] rfl rfl (by decide) (by decide) rfl rfl (fun v z386 H locs hp w => ?_)
                              have hv : iI z386 = v := hp.1
                              subst hv
                              have z386_a : 0 ≤ z386 := hp.2.1
                              have z386_b : z386 ≤ 1 := hp.2.2.1
                              have ee387 : 0 ≤ ((0 + 4294967296) - (z386 * 4294967344)) := hp.2.2.2
                              have w : WD D A s.heap [(a0, .inr (11, [.int r0, .ref a1, .int (iI x0), .int (iI x1), .int r1, .int (iI z374), .int (iI z1), .int (iI x3), .int (iI z375), .int r3, .int r4, .int r5, .long fy373, .int (iI x5), .ref a2, .ref a3, .ref a4, .ref a5, .ref a6, .ref a7, .ref a8, .ref a9, .ref a10, .ref a11, .int (iI x6), .ref a12, .ref a13, .ref a14, .ref a15, .int (iI x7), .int r6, .int r7, .ref a16, .int r8, .int r9, .ref a17, .ref a18, .int (iI x8), .ref a19, .int (iI x9), .int r10, .ref a20, .ref a21, .int (iI x10), .int r11, .ref a22, .int (iI x11), .int (iI x12), .int (iI x13), .int (iI x14)])), (a1, .inl (T 0, 940, .inl f0))] H locs := w
                              refine lv_if_eq (tgt := 350) hx hb dX12_go_240 (by decide) (fun c_388 => ?_) (fun c_388 => ?_)
                              · replace c_388 := (iz_eq (Int.le_trans (by decide) z386_a) (Int.le_trans z386_b (by decide))).mp c_388
                                refine lv_aload_n hx hb dX12_go_350 rfl (lv_at hl 3 rfl) ?_
                                refine lv_iload_n hx hb dX12_go_351 rfl (lv_at hl 0 rfl) ?_
                                refine lv_if_eq (tgt := 377) hx hb dX12_go_352 (by decide) (fun c_389 => ?_) (fun c_389 => ?_)
                                · replace c_389 := (iz_eq (Int.le_trans (by decide) z376_a) (Int.le_trans z376_b (by decide))).mp c_389
                                  refine lv_iconst (v := iI 1) hx hb dX12_go_377 (by decide +kernel) ?_
                                  refine lv_goto (tgt := 390) hx hb dX12_go_378 (by decide) ?_
                                  refine r_put (ws' := [(a0, .inr (11, [.int r0, .ref a1, .int (iI x0), .int (iI x1), .int r1, .int (iI z374), .int (iI z1), .int (iI 1), .int (iI z375), .int r3, .int r4, .int r5, .long fy373, .int (iI x5), .ref a2, .ref a3, .ref a4, .ref a5, .ref a6, .ref a7, .ref a8, .ref a9, .ref a10, .ref a11, .int (iI x6), .ref a12, .ref a13, .ref a14, .ref a15, .int (iI x7), .int r6, .int r7, .ref a16, .int r8, .int r9, .ref a17, .ref a18, .int (iI x8), .ref a19, .int (iI x9), .int r10, .ref a20, .ref a21, .int (iI x10), .int r11, .ref a22, .int (iI x11), .int (iI x12), .int (iI x13), .int (iI x14)])), (a1, .inl (T 0, 940, .inl f0))]) M w 0 7 clX12 rfl (by decide) G1470 rfl rfl rfl rfl (Nat.le_of_ble_eq_true rfl) rfl dX12_go_390 (fun H locs w => ?_)
                                  exact ret (z374, (iI z1), 1, z375, r3, fy373) _ _ _ _ _ [0, 1] dX12_go_393 ⟨z374_a, z374_b, (show (0 : Int) ≤ 1 from by decide), (show (1 : Int) ≤ 4 from by decide), z375_a, z375_b, (show 0 ≤ (z374 - x2) from by omega), (show 0 ≤ (((z374 - x2) - 1) + 3) from by omega)⟩ w (by decide) rfl
                                · replace c_389 : ¬ z376 = 0 := fun h => c_389 ((iz_eq (Int.le_trans (by decide) z376_a) (Int.le_trans z376_b (by decide))).mpr h)
                                  refine lv_aload_n hx hb dX12_go_355 rfl (lv_at hl 3 rfl) ?_
                                  refine r_get (v := .int (iI z374)) M w 0 5 clX12 rfl (by decide) G1468 rfl rfl dX12_go_356 ?_
                                  refine lv_aload_n hx hb dX12_go_359 rfl (lv_at hl 3 rfl) ?_
                                  refine r_get (v := .int (iI z1)) M w 0 6 clX12 rfl (by decide) G1469 rfl rfl dX12_go_360 ?_
                                  refine b_any (fun z390 z390_a z390_b => ?_)
                                  refine r_isub (v := _) M rfl dX12_go_363 ?_
                                  refine b_any (fun z391 z391_a z391_b => ?_)
                                  refine lv_iload_n hx hb dX12_go_364 rfl (lv_at hl 1 rfl) ?_
                                  refine lv_if_eq (tgt := 373) hx hb dX12_go_365 (by decide) (fun c_392 => ?_) (fun c_392 => ?_)
                                  · replace c_392 := (iz_eq (Int.le_trans (by decide) z371_a) (Int.le_trans z371_b (by decide))).mp c_392
                                    refine lv_iconst (v := iI 3) hx hb dX12_go_373 (by decide +kernel) ?_
                                    refine lv_icmp_le (tgt := 381) hx hb dX12_go_374 (by decide) (fun c_393 => ?_) (fun c_393 => ?_)
                                    · replace c_393 := (iI_le (Int.le_trans (by decide) z391_a) (Int.le_trans z391_b (by decide)) (by decide) (by decide)).mp c_393
                                      refine lv_iload_n hx hb dX12_go_381 rfl (lv_at hl 1 rfl) ?_
                                      refine lv_if_eq (tgt := 389) hx hb dX12_go_382 (by decide) (fun c_394 => ?_) (fun c_394 => ?_)
                                      · replace c_394 := (iz_eq (Int.le_trans (by decide) z371_a) (Int.le_trans z371_b (by decide))).mp c_394
                                        refine lv_iconst (v := iI 3) hx hb dX12_go_389 (by decide +kernel) ?_
                                        refine r_put (ws' := [(a0, .inr (11, [.int r0, .ref a1, .int (iI x0), .int (iI x1), .int r1, .int (iI z374), .int (iI z1), .int (iI 3), .int (iI z375), .int r3, .int r4, .int r5, .long fy373, .int (iI x5), .ref a2, .ref a3, .ref a4, .ref a5, .ref a6, .ref a7, .ref a8, .ref a9, .ref a10, .ref a11, .int (iI x6), .ref a12, .ref a13, .ref a14, .ref a15, .int (iI x7), .int r6, .int r7, .ref a16, .int r8, .int r9, .ref a17, .ref a18, .int (iI x8), .ref a19, .int (iI x9), .int r10, .ref a20, .ref a21, .int (iI x10), .int r11, .ref a22, .int (iI x11), .int (iI x12), .int (iI x13), .int (iI x14)])), (a1, .inl (T 0, 940, .inl f0))]) M w 0 7 clX12 rfl (by decide) G1470 rfl rfl rfl rfl (Nat.le_of_ble_eq_true rfl) rfl dX12_go_390 (fun H locs w => ?_)
                                        exact ret (z374, (iI z1), 3, z375, r3, fy373) _ _ _ _ _ [0, 1] dX12_go_393 ⟨z374_a, z374_b, (show (0 : Int) ≤ 3 from by decide), (show (3 : Int) ≤ 4 from by decide), z375_a, z375_b, (show 0 ≤ (z374 - x2) from by omega), (show 0 ≤ (((z374 - x2) - 3) + 3) from by omega)⟩ w (by decide) rfl
                                      · replace c_394 : ¬ z371 = 0 := fun h => c_394 ((iz_eq (Int.le_trans (by decide) z371_a) (Int.le_trans z371_b (by decide))).mpr h)
                                        exfalso; omega
                                    · replace c_393 : 3 < z391 := Int.not_le.mp (fun h => c_393 ((iI_le (Int.le_trans (by decide) z391_a) (Int.le_trans z391_b (by decide)) (by decide) (by decide)).mpr h))
                                      refine lv_iconst (v := iI 1) hx hb dX12_go_377 (by decide +kernel) ?_
                                      refine lv_goto (tgt := 390) hx hb dX12_go_378 (by decide) ?_
                                      refine r_put (ws' := [(a0, .inr (11, [.int r0, .ref a1, .int (iI x0), .int (iI x1), .int r1, .int (iI z374), .int (iI z1), .int (iI 1), .int (iI z375), .int r3, .int r4, .int r5, .long fy373, .int (iI x5), .ref a2, .ref a3, .ref a4, .ref a5, .ref a6, .ref a7, .ref a8, .ref a9, .ref a10, .ref a11, .int (iI x6), .ref a12, .ref a13, .ref a14, .ref a15, .int (iI x7), .int r6, .int r7, .ref a16, .int r8, .int r9, .ref a17, .ref a18, .int (iI x8), .ref a19, .int (iI x9), .int r10, .ref a20, .ref a21, .int (iI x10), .int r11, .ref a22, .int (iI x11), .int (iI x12), .int (iI x13), .int (iI x14)])), (a1, .inl (T 0, 940, .inl f0))]) M w 0 7 clX12 rfl (by decide) G1470 rfl rfl rfl rfl (Nat.le_of_ble_eq_true rfl) rfl dX12_go_390 (fun H locs w => ?_)
                                      exact ret (z374, (iI z1), 1, z375, r3, fy373) _ _ _ _ _ [0, 1] dX12_go_393 ⟨z374_a, z374_b, (show (0 : Int) ≤ 1 from by decide), (show (1 : Int) ≤ 4 from by decide), z375_a, z375_b, (show 0 ≤ (z374 - x2) from by omega), (show 0 ≤ (((z374 - x2) - 1) + 3) from by omega)⟩ w (by decide) rfl
                                  · replace c_392 : ¬ z371 = 0 := fun h => c_392 ((iz_eq (Int.le_trans (by decide) z371_a) (Int.le_trans z371_b (by decide))).mpr h)
                                    refine lv_bipush (v := iI 7) hx hb dX12_go_368 (by decide +kernel) ?_
                                    refine lv_goto (tgt := 374) hx hb dX12_go_370 (by decide) ?_
                                    refine lv_icmp_le (tgt := 381) hx hb dX12_go_374 (by decide) (fun c_395 => ?_) (fun c_395 => ?_)
                                    · replace c_395 := (iI_le (Int.le_trans (by decide) z391_a) (Int.le_trans z391_b (by decide)) (by decide) (by decide)).mp c_395
                                      refine lv_iload_n hx hb dX12_go_381 rfl (lv_at hl 1 rfl) ?_
                                      refine lv_if_eq (tgt := 389) hx hb dX12_go_382 (by decide) (fun c_396 => ?_) (fun c_396 => ?_)
                                      · replace c_396 := (iz_eq (Int.le_trans (by decide) z371_a) (Int.le_trans z371_b (by decide))).mp c_396
                                        exfalso; omega
                                      · replace c_396 : ¬ z371 = 0 := fun h => c_396 ((iz_eq (Int.le_trans (by decide) z371_a) (Int.le_trans z371_b (by decide))).mpr h)
                                        refine lv_iconst (v := iI 2) hx hb dX12_go_385 (by decide +kernel) ?_
                                        refine lv_goto (tgt := 390) hx hb dX12_go_386 (by decide) ?_
                                        refine r_put (ws' := [(a0, .inr (11, [.int r0, .ref a1, .int (iI x0), .int (iI x1), .int r1, .int (iI z374), .int (iI z1), .int (iI 2), .int (iI z375), .int r3, .int r4, .int r5, .long fy373, .int (iI x5), .ref a2, .ref a3, .ref a4, .ref a5, .ref a6, .ref a7, .ref a8, .ref a9, .ref a10, .ref a11, .int (iI x6), .ref a12, .ref a13, .ref a14, .ref a15, .int (iI x7), .int r6, .int r7, .ref a16, .int r8, .int r9, .ref a17, .ref a18, .int (iI x8), .ref a19, .int (iI x9), .int r10, .ref a20, .ref a21, .int (iI x10), .int r11, .ref a22, .int (iI x11), .int (iI x12), .int (iI x13), .int (iI x14)])), (a1, .inl (T 0, 940, .inl f0))]) M w 0 7 clX12 rfl (by decide) G1470 rfl rfl rfl rfl (Nat.le_of_ble_eq_true rfl) rfl dX12_go_390 (fun H locs w => ?_)
                                        exact ret (z374, (iI z1), 2, z375, r3, fy373) _ _ _ _ _ [0, 1] dX12_go_393 ⟨z374_a, z374_b, (show (0 : Int) ≤ 2 from by decide), (show (2 : Int) ≤ 4 from by decide), z375_a, z375_b, (show 0 ≤ (z374 - x2) from by omega), (show 0 ≤ (((z374 - x2) - 2) + 3) from by omega)⟩ w (by decide) rfl
                                    · replace c_395 : 7 < z391 := Int.not_le.mp (fun h => c_395 ((iI_le (Int.le_trans (by decide) z391_a) (Int.le_trans z391_b (by decide)) (by decide) (by decide)).mpr h))
                                      refine lv_iconst (v := iI 1) hx hb dX12_go_377 (by decide +kernel) ?_
                                      refine lv_goto (tgt := 390) hx hb dX12_go_378 (by decide) ?_
                                      refine r_put (ws' := [(a0, .inr (11, [.int r0, .ref a1, .int (iI x0), .int (iI x1), .int r1, .int (iI z374), .int (iI z1), .int (iI 1), .int (iI z375), .int r3, .int r4, .int r5, .long fy373, .int (iI x5), .ref a2, .ref a3, .ref a4, .ref a5, .ref a6, .ref a7, .ref a8, .ref a9, .ref a10, .ref a11, .int (iI x6), .ref a12, .ref a13, .ref a14, .ref a15, .int (iI x7), .int r6, .int r7, .ref a16, .int r8, .int r9, .ref a17, .ref a18, .int (iI x8), .ref a19, .int (iI x9), .int r10, .ref a20, .ref a21, .int (iI x10), .int r11, .ref a22, .int (iI x11), .int (iI x12), .int (iI x13), .int (iI x14)])), (a1, .inl (T 0, 940, .inl f0))]) M w 0 7 clX12 rfl (by decide) G1470 rfl rfl rfl rfl (Nat.le_of_ble_eq_true rfl) rfl dX12_go_390 (fun H locs w => ?_)
                                      exact ret (z374, (iI z1), 1, z375, r3, fy373) _ _ _ _ _ [0, 1] dX12_go_393 ⟨z374_a, z374_b, (show (0 : Int) ≤ 1 from by decide), (show (1 : Int) ≤ 4 from by decide), z375_a, z375_b, (show 0 ≤ (z374 - x2) from by omega), (show 0 ≤ (((z374 - x2) - 1) + 3) from by omega)⟩ w (by decide) rfl
                              · replace c_388 : ¬ z386 = 0 := fun h => c_388 ((iz_eq (Int.le_trans (by decide) z386_a) (Int.le_trans z386_b (by decide))).mpr h)
                                exfalso; omega
                            · exfalso; omega
                        · refine k_I (ce := 0) (sl := 0) (rest := []) (wr := [(a0, .inr (11, [.int r0, .ref a1, .int (iI x0), .int (iI x1), .int r1, .int (iI z374), .int (iI z1), .int (iI x3), .int (iI z375), .int r3, .int r4, .int r5, .long fy373, .int (iI x5), .ref a2, .ref a3, .ref a4, .ref a5, .ref a6, .ref a7, .ref a8, .ref a9, .ref a10, .ref a11, .int (iI x6), .ref a12, .ref a13, .ref a14, .ref a15, .int (iI x7), .int r6, .int r7, .ref a16, .int r8, .int r9, .ref a17, .ref a18, .int (iI x8), .ref a19, .int (iI x9), .int r10, .ref a20, .ref a21, .int (iI x10), .int r11, .ref a22, .int (iI x11), .int (iI x12), .int (iI x13), .int (iI x14)])), (a1, .inl (T 0, 940, .inl f0))]) (r_S (f := 0) [] M w V_HookedCityModel_33 G1632 (c11_X12_isLetter l D T _ z377 z377_a z377_b) rfl (by decide) rfl hl.1 rfl (Nat.le_of_ble_eq_true rfl) dX12_go_223 (by decide) (by decide) (by decide) (by decide)) w [] [0, 1] rfl rfl (by decide) (by decide) rfl rfl (fun v z397 H locs hp w => ?_)
                          have hv : iI z397 = v := hp.1
                          subst hv
                          have z397_a : 0 ≤ z397 := hp.2.1
                          have z397_b : z397 ≤ 1 := hp.2.2.1
                          have ee398 : 0 ≤ ((z377 + 4294967296) - (z397 * 4294967393)) := hp.2.2.2
                          have w : WD D A s.heap [(a0, .inr (11, [.int r0, .ref a1, .int (iI x0), .int (iI x1), .int r1, .int (iI z374), .int (iI z1), .int (iI x3), .int (iI z375), .int r3, .int r4, .int r5, .long fy373, .int (iI x5), .ref a2, .ref a3, .ref a4, .ref a5, .ref a6, .ref a7, .ref a8, .ref a9, .ref a10, .ref a11, .int (iI x6), .ref a12, .ref a13, .ref a14, .ref a15, .int (iI x7), .int r6, .int r7, .ref a16, .int r8, .int r9, .ref a17, .ref a18, .int (iI x8), .ref a19, .int (iI x9), .int r10, .ref a20, .ref a21, .int (iI x10), .int r11, .ref a22, .int (iI x11), .int (iI x12), .int (iI x13), .int (iI x14)])), (a1, .inl (T 0, 940, .inl f0))] H locs := w
                          refine lv_if_ne (tgt := 243) hx hb dX12_go_226 (by decide) (fun c_399 => ?_) (fun c_399 => ?_)
                          · replace c_399 : ¬ z397 = 0 := fun h => c_399 ((iz_eq (Int.le_trans (by decide) z397_a) (Int.le_trans z397_b (by decide))).mpr h)
                            refine lv_aload_n hx hb dX12_go_243 rfl (lv_at hl 3 rfl) ?_
                            refine r_get (v := .ref a1) M w 0 1 clX12 rfl (by decide) G1464 rfl rfl dX12_go_244 ?_
                            refine lv_aload_n hx hb dX12_go_247 rfl (lv_at hl 3 rfl) ?_
                            refine r_get (v := .int (iI z374)) M w 0 5 clX12 rfl (by decide) G1468 rfl rfl dX12_go_248 ?_
                            refine r_iald (v := _) M w 1 rfl (iI_in (by omega) (by omega) (by decide)) rfl dX12_go_251 ?_
                            refine b_any (fun z400 z400_a z400_b => ?_)
                            refine lv_istore (lv' := [(4, .int (iI z400)), (3, .int (iI z376)), (2, .int (iI z371)), (1, .int (iI z367)), (0, .ref a0)]) hx hb dX12_go_252 hl (by decide) rfl (fun ls hl => ?_)
                            refine lv_iload_n hx hb dX12_go_254 rfl (lv_at hl 1 rfl) ?_
                            refine lv_if_eq (tgt := 271) hx hb dX12_go_255 (by decide) (fun c_401 => ?_) (fun c_401 => ?_)
                            · replace c_401 := (iz_eq (Int.le_trans (by decide) z376_a) (Int.le_trans z376_b (by decide))).mp c_401
                              refine lv_iconst (v := iI 0) hx hb dX12_go_271 (by decide +kernel) ?_
                              refine lv_istore_n (lv' := [(3, .int (iI 0)), (4, .int (iI z400)), (2, .int (iI z371)), (1, .int (iI z367)), (0, .ref a0)]) hx hb dX12_go_272 rfl hl (by decide) rfl (fun ls hl => ?_)
                              refine lv_aload_n hx hb dX12_go_273 rfl (lv_at hl 4 rfl) ?_
                              refine r_get (v := .int (iI z374)) M w 0 5 clX12 rfl (by decide) G1468 rfl rfl dX12_go_274 ?_
                              refine lv_aload_n hx hb dX12_go_277 rfl (lv_at hl 4 rfl) ?_
                              refine r_get (v := .int (iI z1)) M w 0 6 clX12 rfl (by decide) G1469 rfl rfl dX12_go_278 ?_
                              refine b_any (fun z402 z402_a z402_b => ?_)
                              refine r_isub (v := _) M rfl dX12_go_281 ?_
                              refine b_any (fun z403 z403_a z403_b => ?_)
                              refine lv_bipush (v := iI 7) hx hb dX12_go_282 (by decide +kernel) ?_
                              refine lv_icmp_ge (tgt := 307) hx hb dX12_go_284 (by decide) (fun c_404 => ?_) (fun c_404 => ?_)
                              · replace c_404 := (iI_le (by decide) (by decide) (Int.le_trans (by decide) z403_a) (Int.le_trans z403_b (by decide))).mp c_404
                                refine lv_aload_n hx hb dX12_go_307 rfl (lv_at hl 4 rfl) ?_
                                refine r_get (v := .int (iI z374)) M w 0 5 clX12 rfl (by decide) G1468 rfl rfl dX12_go_308 ?_
                                refine lv_aload_n hx hb dX12_go_311 rfl (lv_at hl 4 rfl) ?_
                                refine r_get (v := .int (iI z1)) M w 0 6 clX12 rfl (by decide) G1469 rfl rfl dX12_go_312 ?_
                                refine b_any (fun z405 z405_a z405_b => ?_)
                                refine r_isub (v := _) M rfl dX12_go_315 ?_
                                refine b_any (fun z406 z406_a z406_b => ?_)
                                refine lv_iconst (v := iI 3) hx hb dX12_go_316 (by decide +kernel) ?_
                                refine lv_icmp_ge (tgt := 337) hx hb dX12_go_317 (by decide) (fun c_407 => ?_) (fun c_407 => ?_)
                                · replace c_407 := (iI_le (by decide) (by decide) (Int.le_trans (by decide) z406_a) (Int.le_trans z406_b (by decide))).mp c_407
                                  refine lv_aload_n hx hb dX12_go_337 rfl (lv_at hl 4 rfl) ?_
                                  refine lv_dup hx hb dX12_go_338 rfl ?_
                                  refine r_get (v := .int (iI z374)) M w 0 5 clX12 rfl (by decide) G1468 rfl rfl dX12_go_339 ?_
                                  refine lv_iconst (v := iI 1) hx hb dX12_go_342 (by decide +kernel) ?_
                                  refine r_iadd (v := iI (z374 + 1)) M (iI_add _ _) dX12_go_343 ?_
                                  refine r_put (ws' := [(a0, .inr (11, [.int r0, .ref a1, .int (iI x0), .int (iI x1), .int r1, .int (iI (z374 + 1)), .int (iI z1), .int (iI x3), .int (iI z375), .int r3, .int r4, .int r5, .long fy373, .int (iI x5), .ref a2, .ref a3, .ref a4, .ref a5, .ref a6, .ref a7, .ref a8, .ref a9, .ref a10, .ref a11, .int (iI x6), .ref a12, .ref a13, .ref a14, .ref a15, .int (iI x7), .int r6, .int r7, .ref a16, .int r8, .int r9, .ref a17, .ref a18, .int (iI x8), .ref a19, .int (iI x9), .int r10, .ref a20, .ref a21, .int (iI x10), .int r11, .ref a22, .int (iI x11), .int (iI x12), .int (iI x13), .int (iI x14)])), (a1, .inl (T 0, 940, .inl f0))]) M w 0 5 clX12 rfl (by decide) G1468 rfl rfl rfl rfl (Nat.le_of_ble_eq_true rfl) rfl dX12_go_344 (fun H locs w => ?_)
                                  refine lv_goto (tgt := 215) hx hb dX12_go_347 (by decide) ?_
                                  exact ih2 fy373 (z374 + 1) z375 0 _ _ _ (by omega) (by omega) z375_a z375_b (by decide) (by decide) (by omega) (by omega) w (lv_sub hl [0, 2, 3, 4] rfl)
                                · replace c_407 : z406 < 3 := Int.not_le.mp (fun h => c_407 ((iI_le (by decide) (by decide) (Int.le_trans (by decide) z406_a) (Int.le_trans z406_b (by decide))).mpr h))
                                  refine lv_aload_n hx hb dX12_go_320 rfl (lv_at hl 4 rfl) ?_
                                  refine lv_bipush (v := iI 10) hx hb dX12_go_321 (by decide +kernel) ?_
                                  refine lv_aload_n hx hb dX12_go_323 rfl (lv_at hl 4 rfl) ?_
                                  refine r_get (v := .int (iI z375)) M w 0 8 clX12 rfl (by decide) G1471 rfl rfl dX12_go_324 ?_
                                  refine r_imul (v := _) M rfl dX12_go_327 ?_
                                  refine b_any (fun z408 z408_a z408_b => ?_)
                                  refine lv_iload hx hb dX12_go_328 (lv_at hl 1 rfl) ?_
                                  refine r_iadd (v := _) M rfl dX12_go_330 ?_
                                  refine b_any (fun z409 z409_a z409_b => ?_)
                                  refine lv_bipush (v := iI 48) hx hb dX12_go_331 (by decide +kernel) ?_
                                  refine r_isub (v := _) M rfl dX12_go_333 ?_
                                  refine b_any (fun z410 z410_a z410_b => ?_)
                                  refine r_put (ws' := [(a0, .inr (11, [.int r0, .ref a1, .int (iI x0), .int (iI x1), .int r1, .int (iI z374), .int (iI z1), .int (iI x3), .int (iI z410), .int r3, .int r4, .int r5, .long fy373, .int (iI x5), .ref a2, .ref a3, .ref a4, .ref a5, .ref a6, .ref a7, .ref a8, .ref a9, .ref a10, .ref a11, .int (iI x6), .ref a12, .ref a13, .ref a14, .ref a15, .int (iI x7), .int r6, .int r7, .ref a16, .int r8, .int r9, .ref a17, .ref a18, .int (iI x8), .ref a19, .int (iI x9), .int r10, .ref a20, .ref a21, .int (iI x10), .int r11, .ref a22, .int (iI x11), .int (iI x12), .int (iI x13), .int (iI x14)])), (a1, .inl (T 0, 940, .inl f0))]) M w 0 8 clX12 rfl (by decide) G1471 rfl rfl rfl rfl (Nat.le_of_ble_eq_true rfl) rfl dX12_go_334 (fun H locs w => ?_)
                                  refine lv_aload_n hx hb dX12_go_337 rfl (lv_at hl 4 rfl) ?_
                                  refine lv_dup hx hb dX12_go_338 rfl ?_
                                  refine r_get (v := .int (iI z374)) M w 0 5 clX12 rfl (by decide) G1468 rfl rfl dX12_go_339 ?_
                                  refine lv_iconst (v := iI 1) hx hb dX12_go_342 (by decide +kernel) ?_
                                  refine r_iadd (v := iI (z374 + 1)) M (iI_add _ _) dX12_go_343 ?_
                                  refine r_put (ws' := [(a0, .inr (11, [.int r0, .ref a1, .int (iI x0), .int (iI x1), .int r1, .int (iI (z374 + 1)), .int (iI z1), .int (iI x3), .int (iI z410), .int r3, .int r4, .int r5, .long fy373, .int (iI x5), .ref a2, .ref a3, .ref a4, .ref a5, .ref a6, .ref a7, .ref a8, .ref a9, .ref a10, .ref a11, .int (iI x6), .ref a12, .ref a13, .ref a14, .ref a15, .int (iI x7), .int r6, .int r7, .ref a16, .int r8, .int r9, .ref a17, .ref a18, .int (iI x8), .ref a19, .int (iI x9), .int r10, .ref a20, .ref a21, .int (iI x10), .int r11, .ref a22, .int (iI x11), .int (iI x12), .int (iI x13), .int (iI x14)])), (a1, .inl (T 0, 940, .inl f0))]) M w 0 5 clX12 rfl (by decide) G1468 rfl rfl rfl rfl (Nat.le_of_ble_eq_true rfl) rfl dX12_go_344 (fun H locs w => ?_)
                                  refine lv_goto (tgt := 215) hx hb dX12_go_347 (by decide) ?_
                                  exact ih2 fy373 (z374 + 1) z410 0 _ _ _ (by omega) (by omega) z410_a z410_b (by decide) (by decide) (by omega) (by omega) w (lv_sub hl [0, 2, 3, 4] rfl)
                              · replace c_404 : z403 < 7 := Int.not_le.mp (fun h => c_404 ((iI_le (by decide) (by decide) (Int.le_trans (by decide) z403_a) (Int.le_trans z403_b (by decide))).mpr h))
                                refine lv_aload_n hx hb dX12_go_287 rfl (lv_at hl 4 rfl) ?_
                                refine lv_ldc2 (v := 27) hx hb M.1.2.2.2.1 (M.1.2.2.2.2 _ G1641) dX12_go_288 ?_
                                refine lv_aload_n hx hb dX12_go_291 rfl (lv_at hl 4 rfl) ?_
                                refine r_get (v := .long fy373) M w 0 12 clX12 rfl (by decide) G1475 rfl rfl dX12_go_292 ?_
                                refine r_lmul (v := _) M rfl dX12_go_295 ?_
                                refine b_anyl (fun fy411 => ?_)
                                refine lv_iload hx hb dX12_go_296 (lv_at hl 1 rfl) ?_
                                refine lv_i2l (v := _) hx hb dX12_go_298 rfl ?_
                                refine b_anyl (fun fy412 => ?_)
                                refine r_ladd (v := _) M rfl dX12_go_299 ?_
                                refine b_anyl (fun fy413 => ?_)
                                refine lv_ldc2 (v := 96) hx hb M.1.2.2.2.1 (M.1.2.2.2.2 _ G1642) dX12_go_300 ?_
                                refine r_lsub (v := _) M rfl dX12_go_303 ?_
                                refine b_anyl (fun fy414 => ?_)
                                refine r_put (ws' := [(a0, .inr (11, [.int r0, .ref a1, .int (iI x0), .int (iI x1), .int r1, .int (iI z374), .int (iI z1), .int (iI x3), .int (iI z375), .int r3, .int r4, .int r5, .long fy414, .int (iI x5), .ref a2, .ref a3, .ref a4, .ref a5, .ref a6, .ref a7, .ref a8, .ref a9, .ref a10, .ref a11, .int (iI x6), .ref a12, .ref a13, .ref a14, .ref a15, .int (iI x7), .int r6, .int r7, .ref a16, .int r8, .int r9, .ref a17, .ref a18, .int (iI x8), .ref a19, .int (iI x9), .int r10, .ref a20, .ref a21, .int (iI x10), .int r11, .ref a22, .int (iI x11), .int (iI x12), .int (iI x13), .int (iI x14)])), (a1, .inl (T 0, 940, .inl f0))]) M w 0 12 clX12 rfl (by decide) G1475 rfl rfl rfl rfl (Nat.le_of_ble_eq_true rfl) rfl dX12_go_304 (fun H locs w => ?_)
                                refine lv_aload_n hx hb dX12_go_307 rfl (lv_at hl 4 rfl) ?_
                                refine r_get (v := .int (iI z374)) M w 0 5 clX12 rfl (by decide) G1468 rfl rfl dX12_go_308 ?_
                                refine lv_aload_n hx hb dX12_go_311 rfl (lv_at hl 4 rfl) ?_
                                refine r_get (v := .int (iI z1)) M w 0 6 clX12 rfl (by decide) G1469 rfl rfl dX12_go_312 ?_
                                refine b_any (fun z415 z415_a z415_b => ?_)
                                refine r_isub (v := _) M rfl dX12_go_315 ?_
                                refine b_any (fun z416 z416_a z416_b => ?_)
                                refine lv_iconst (v := iI 3) hx hb dX12_go_316 (by decide +kernel) ?_
                                refine lv_icmp_ge (tgt := 337) hx hb dX12_go_317 (by decide) (fun c_417 => ?_) (fun c_417 => ?_)
                                · replace c_417 := (iI_le (by decide) (by decide) (Int.le_trans (by decide) z416_a) (Int.le_trans z416_b (by decide))).mp c_417
                                  refine lv_aload_n hx hb dX12_go_337 rfl (lv_at hl 4 rfl) ?_
                                  refine lv_dup hx hb dX12_go_338 rfl ?_
                                  refine r_get (v := .int (iI z374)) M w 0 5 clX12 rfl (by decide) G1468 rfl rfl dX12_go_339 ?_
                                  refine lv_iconst (v := iI 1) hx hb dX12_go_342 (by decide +kernel) ?_
                                  refine r_iadd (v := iI (z374 + 1)) M (iI_add _ _) dX12_go_343 ?_
                                  refine r_put (ws' := [(a0, .inr (11, [.int r0, .ref a1, .int (iI x0), .int (iI x1), .int r1, .int (iI (z374 + 1)), .int (iI z1), .int (iI x3), .int (iI z375), .int r3, .int r4, .int r5, .long fy414, .int (iI x5), .ref a2, .ref a3, .ref a4, .ref a5, .ref a6, .ref a7, .ref a8, .ref a9, .ref a10, .ref a11, .int (iI x6), .ref a12, .ref a13, .ref a14, .ref a15, .int (iI x7), .int r6, .int r7, .ref a16, .int r8, .int r9, .ref a17, .ref a18, .int (iI x8), .ref a19, .int (iI x9), .int r10, .ref a20, .ref a21, .int (iI x10), .int r11, .ref a22, .int (iI x11), .int (iI x12), .int (iI x13), .int (iI x14)])), (a1, .inl (T 0, 940, .inl f0))]) M w 0 5 clX12 rfl (by decide) G1468 rfl rfl rfl rfl (Nat.le_of_ble_eq_true rfl) rfl dX12_go_344 (fun H locs w => ?_)
                                  refine lv_goto (tgt := 215) hx hb dX12_go_347 (by decide) ?_
                                  exact ih2 fy414 (z374 + 1) z375 0 _ _ _ (by omega) (by omega) z375_a z375_b (by decide) (by decide) (by omega) (by omega) w (lv_sub hl [0, 2, 3, 4] rfl)
                                · replace c_417 : z416 < 3 := Int.not_le.mp (fun h => c_417 ((iI_le (by decide) (by decide) (Int.le_trans (by decide) z416_a) (Int.le_trans z416_b (by decide))).mpr h))
                                  refine lv_aload_n hx hb dX12_go_320 rfl (lv_at hl 4 rfl) ?_
                                  refine lv_bipush (v := iI 10) hx hb dX12_go_321 (by decide +kernel) ?_
                                  refine lv_aload_n hx hb dX12_go_323 rfl (lv_at hl 4 rfl) ?_
                                  refine r_get (v := .int (iI z375)) M w 0 8 clX12 rfl (by decide) G1471 rfl rfl dX12_go_324 ?_
                                  refine r_imul (v := _) M rfl dX12_go_327 ?_
                                  refine b_any (fun z418 z418_a z418_b => ?_)
                                  refine lv_iload hx hb dX12_go_328 (lv_at hl 1 rfl) ?_
                                  refine r_iadd (v := _) M rfl dX12_go_330 ?_
                                  refine b_any (fun z419 z419_a z419_b => ?_)
                                  refine lv_bipush (v := iI 48) hx hb dX12_go_331 (by decide +kernel) ?_
                                  refine r_isub (v := _) M rfl dX12_go_333 ?_
                                  refine b_any (fun z420 z420_a z420_b => ?_)
                                  refine r_put (ws' := [(a0, .inr (11, [.int r0, .ref a1, .int (iI x0), .int (iI x1), .int r1, .int (iI z374), .int (iI z1), .int (iI x3), .int (iI z420), .int r3, .int r4, .int r5, .long fy414, .int (iI x5), .ref a2, .ref a3, .ref a4, .ref a5, .ref a6, .ref a7, .ref a8, .ref a9, .ref a10, .ref a11, .int (iI x6), .ref a12, .ref a13, .ref a14, .ref a15, .int (iI x7), .int r6, .int r7, .ref a16, .int r8, .int r9, .ref a17, .ref a18, .int (iI x8), .ref a19, .int (iI x9), .int r10, .ref a20, .ref a21, .int (iI x10), .int r11, .ref a22, .int (iI x11), .int (iI x12), .int (iI x13), .int (iI x14)])), (a1, .inl (T 0, 940, .inl f0))]) M w 0 8 clX12 rfl (by decide) G1471 rfl rfl rfl rfl (Nat.le_of_ble_eq_true rfl) rfl dX12_go_334 (fun H locs w => ?_)
                                  refine lv_aload_n hx hb dX12_go_337 rfl (lv_at hl 4 rfl) ?_
                                  refine lv_dup hx hb dX12_go_338 rfl ?_
                                  refine r_get (v := .int (iI z374)) M w 0 5 clX12 rfl (by decide) G1468 rfl rfl dX12_go_339 ?_
                                  refine lv_iconst (v := iI 1) hx hb dX12_go_342 (by decide +kernel) ?_
                                  refine r_iadd (v := iI (z374 + 1)) M (iI_add _ _) dX12_go_343 ?_
                                  refine r_put (ws' := [(a0, .inr (11, [.int r0, .ref a1, .int (iI x0), .int (iI x1), .int r1, .int (iI (z374 + 1)), .int (iI z1), .int (iI x3), .int (iI z420), .int r3, .int r4, .int r5, .long fy414, .int (iI x5), .ref a2, .ref a3, .ref a4, .ref a5, .ref a6, .ref a7, .ref a8, .ref a9, .ref a10, .ref a11, .int (iI x6), .ref a12, .ref a13, .ref a14, .ref a15, .int (iI x7), .int r6, .int r7, .ref a16, .int r8, .int r9, .ref a17, .ref a18, .int (iI x8), .ref a19, .int (iI x9), .int r10, .ref a20, .ref a21, .int (iI x10), .int r11, .ref a22, .int (iI x11), .int (iI x12), .int (iI x13), .int (iI x14)])), (a1, .inl (T 0, 940, .inl f0))]) M w 0 5 clX12 rfl (by decide) G1468 rfl rfl rfl rfl (Nat.le_of_ble_eq_true rfl) rfl dX12_go_344 (fun H locs w => ?_)
                                  refine lv_goto (tgt := 215) hx hb dX12_go_347 (by decide) ?_
                                  exact ih2 fy414 (z374 + 1) z420 0 _ _ _ (by omega) (by omega) z420_a z420_b (by decide) (by decide) (by omega) (by omega) w (lv_sub hl [0, 2, 3, 4] rfl)
                            · replace c_401 : ¬ z376 = 0 := fun h => c_401 ((iz_eq (Int.le_trans (by decide) z376_a) (Int.le_trans z376_b (by decide))).mpr h)
                              refine lv_iload hx hb dX12_go_258 (lv_at hl 0 rfl) ?_
                              refine k_I (ce := 0) (sl := 0) (rest := []) (wr := [(a0, .inr (11, [.int r0, .ref a1, .int (iI x0), .int (iI x1), .int r1, .int (iI z374), .int (iI z1), .int (iI x3), .int (iI z375), .int r3, .int r4, .int r5, .long fy373, .int (iI x5), .ref a2, .ref a3, .ref a4, .ref a5, .ref a6, .ref a7, .ref a8, .ref a9, .ref a10, .ref a11, .int (iI x6), .ref a12, .ref a13, .ref a14, .ref a15, .int (iI x7), .int r6, .int r7, .ref a16, .int r8, .int r9, .ref a17, .ref a18, .int (iI x8), .ref a19, .int (iI x9), .int r10, .ref a20, .ref a21, .int (iI x10), .int r11, .ref a22, .int (iI x11), .int (iI x12), .int (iI x13), .int (iI x14)])), (a1, .inl (T 0, 940, .inl f0))]) (r_S (f := 0) [] M w V_HookedCityModel_33 G1632 (c11_X12_isLetter l D T _ z400 z400_a z400_b) rfl (by decide) rfl hl.1 rfl (Nat.le_of_ble_eq_true rfl) dX12_go_260 (by decide) (by decide) (by decide) (by decide)) w [] [0, 1] rfl rfl (by decide) (by decide) rfl rfl (fun v z421 H locs hp w => ?_)
                              have hv : iI z421 = v := hp.1
                              subst hv
                              have z421_a : 0 ≤ z421 := hp.2.1
                              have z421_b : z421 ≤ 1 := hp.2.2.1
                              have ee422 : 0 ≤ ((z400 + 4294967296) - (z421 * 4294967393)) := hp.2.2.2
                              have w : WD D A s.heap [(a0, .inr (11, [.int r0, .ref a1, .int (iI x0), .int (iI x1), .int r1, .int (iI z374), .int (iI z1), .int (iI x3), .int (iI z375), .int r3, .int r4, .int r5, .long fy373, .int (iI x5), .ref a2, .ref a3, .ref a4, .ref a5, .ref a6, .ref a7, .ref a8, .ref a9, .ref a10, .ref a11, .int (iI x6), .ref a12, .ref a13, .ref a14, .ref a15, .int (iI x7), .int r6, .int r7, .ref a16, .int r8, .int r9, .ref a17, .ref a18, .int (iI x8), .ref a19, .int (iI x9), .int r10, .ref a20, .ref a21, .int (iI x10), .int r11, .ref a22, .int (iI x11), .int (iI x12), .int (iI x13), .int (iI x14)])), (a1, .inl (T 0, 940, .inl f0))] H locs := w
                              refine lv_iload_n hx hb dX12_go_263 rfl (lv_at hl 2 rfl) ?_
                              refine lv_icmp_ne (tgt := 271) hx hb dX12_go_264 (by decide) (fun c_423 => ?_) (fun c_423 => ?_)
                              · replace c_423 : ¬ z421 = z371 := fun h => c_423 ((iI_eq (Int.le_trans (by decide) z421_a) (Int.le_trans z421_b (by decide)) (Int.le_trans (by decide) z371_a) (Int.le_trans z371_b (by decide))).mpr h)
                                refine lv_iconst (v := iI 0) hx hb dX12_go_271 (by decide +kernel) ?_
                                refine lv_istore_n (lv' := [(3, .int (iI 0)), (4, .int (iI z400)), (2, .int (iI z371)), (1, .int (iI z367)), (0, .ref a0)]) hx hb dX12_go_272 rfl hl (by decide) rfl (fun ls hl => ?_)
                                refine lv_aload_n hx hb dX12_go_273 rfl (lv_at hl 4 rfl) ?_
                                refine r_get (v := .int (iI z374)) M w 0 5 clX12 rfl (by decide) G1468 rfl rfl dX12_go_274 ?_
                                refine lv_aload_n hx hb dX12_go_277 rfl (lv_at hl 4 rfl) ?_
                                refine r_get (v := .int (iI z1)) M w 0 6 clX12 rfl (by decide) G1469 rfl rfl dX12_go_278 ?_
                                refine b_any (fun z424 z424_a z424_b => ?_)
                                refine r_isub (v := _) M rfl dX12_go_281 ?_
                                refine b_any (fun z425 z425_a z425_b => ?_)
                                refine lv_bipush (v := iI 7) hx hb dX12_go_282 (by decide +kernel) ?_
                                refine lv_icmp_ge (tgt := 307) hx hb dX12_go_284 (by decide) (fun c_426 => ?_) (fun c_426 => ?_)
                                · replace c_426 := (iI_le (by decide) (by decide) (Int.le_trans (by decide) z425_a) (Int.le_trans z425_b (by decide))).mp c_426
                                  refine lv_aload_n hx hb dX12_go_307 rfl (lv_at hl 4 rfl) ?_
                                  refine r_get (v := .int (iI z374)) M w 0 5 clX12 rfl (by decide) G1468 rfl rfl dX12_go_308 ?_
                                  refine lv_aload_n hx hb dX12_go_311 rfl (lv_at hl 4 rfl) ?_
                                  refine r_get (v := .int (iI z1)) M w 0 6 clX12 rfl (by decide) G1469 rfl rfl dX12_go_312 ?_
                                  refine b_any (fun z427 z427_a z427_b => ?_)
                                  refine r_isub (v := _) M rfl dX12_go_315 ?_
                                  refine b_any (fun z428 z428_a z428_b => ?_)
                                  refine lv_iconst (v := iI 3) hx hb dX12_go_316 (by decide +kernel) ?_
                                  refine lv_icmp_ge (tgt := 337) hx hb dX12_go_317 (by decide) (fun c_429 => ?_) (fun c_429 => ?_)
                                  · replace c_429 := (iI_le (by decide) (by decide) (Int.le_trans (by decide) z428_a) (Int.le_trans z428_b (by decide))).mp c_429
                                    refine lv_aload_n hx hb dX12_go_337 rfl (lv_at hl 4 rfl) ?_
                                    refine lv_dup hx hb dX12_go_338 rfl ?_
                                    refine r_get (v := .int (iI z374)) M w 0 5 clX12 rfl (by decide) G1468 rfl rfl dX12_go_339 ?_
                                    refine lv_iconst (v := iI 1) hx hb dX12_go_342 (by decide +kernel) ?_
                                    refine r_iadd (v := iI (z374 + 1)) M (iI_add _ _) dX12_go_343 ?_
                                    refine r_put (ws' := [(a0, .inr (11, [.int r0, .ref a1, .int (iI x0), .int (iI x1), .int r1, .int (iI (z374 + 1)), .int (iI z1), .int (iI x3), .int (iI z375), .int r3, .int r4, .int r5, .long fy373, .int (iI x5), .ref a2, .ref a3, .ref a4, .ref a5, .ref a6, .ref a7, .ref a8, .ref a9, .ref a10, .ref a11, .int (iI x6), .ref a12, .ref a13, .ref a14, .ref a15, .int (iI x7), .int r6, .int r7, .ref a16, .int r8, .int r9, .ref a17, .ref a18, .int (iI x8), .ref a19, .int (iI x9), .int r10, .ref a20, .ref a21, .int (iI x10), .int r11, .ref a22, .int (iI x11), .int (iI x12), .int (iI x13), .int (iI x14)])), (a1, .inl (T 0, 940, .inl f0))]) M w 0 5 clX12 rfl (by decide) G1468 rfl rfl rfl rfl (Nat.le_of_ble_eq_true rfl) rfl dX12_go_344 (fun H locs w => ?_)
                                    refine lv_goto (tgt := 215) hx hb dX12_go_347 (by decide) ?_
                                    exact ih2 fy373 (z374 + 1) z375 0 _ _ _ (by omega) (by omega) z375_a z375_b (by decide) (by decide) (by omega) (by omega) w (lv_sub hl [0, 2, 3, 4] rfl)
                                  · replace c_429 : z428 < 3 := Int.not_le.mp (fun h => c_429 ((iI_le (by decide) (by decide) (Int.le_trans (by decide) z428_a) (Int.le_trans z428_b (by decide))).mpr h))
                                    refine lv_aload_n hx hb dX12_go_320 rfl (lv_at hl 4 rfl) ?_
                                    refine lv_bipush (v := iI 10) hx hb dX12_go_321 (by decide +kernel) ?_
                                    refine lv_aload_n hx hb dX12_go_323 rfl (lv_at hl 4 rfl) ?_
                                    refine r_get (v := .int (iI z375)) M w 0 8 clX12 rfl (by decide) G1471 rfl rfl dX12_go_324 ?_
                                    refine r_imul (v := _) M rfl dX12_go_327 ?_
                                    refine b_any (fun z430 z430_a z430_b => ?_)
                                    refine lv_iload hx hb dX12_go_328 (lv_at hl 1 rfl) ?_
                                    refine r_iadd (v := _) M rfl dX12_go_330 ?_
                                    refine b_any (fun z431 z431_a z431_b => ?_)
                                    refine lv_bipush (v := iI 48) hx hb dX12_go_331 (by decide +kernel) ?_
                                    refine r_isub (v := _) M rfl dX12_go_333 ?_
                                    refine b_any (fun z432 z432_a z432_b => ?_)
                                    refine r_put (ws' := [(a0, .inr (11, [.int r0, .ref a1, .int (iI x0), .int (iI x1), .int r1, .int (iI z374), .int (iI z1), .int (iI x3), .int (iI z432), .int r3, .int r4, .int r5, .long fy373, .int (iI x5), .ref a2, .ref a3, .ref a4, .ref a5, .ref a6, .ref a7, .ref a8, .ref a9, .ref a10, .ref a11, .int (iI x6), .ref a12, .ref a13, .ref a14, .ref a15, .int (iI x7), .int r6, .int r7, .ref a16, .int r8, .int r9, .ref a17, .ref a18, .int (iI x8), .ref a19, .int (iI x9), .int r10, .ref a20, .ref a21, .int (iI x10), .int r11, .ref a22, .int (iI x11), .int (iI x12), .int (iI x13), .int (iI x14)])), (a1, .inl (T 0, 940, .inl f0))]) M w 0 8 clX12 rfl (by decide) G1471 rfl rfl rfl rfl (Nat.le_of_ble_eq_true rfl) rfl dX12_go_334 (fun H locs w => ?_)
                                    refine lv_aload_n hx hb dX12_go_337 rfl (lv_at hl 4 rfl) ?_
                                    refine lv_dup hx hb dX12_go_338 rfl ?_
                                    refine r_get (v := .int (iI z374)) M w 0 5 clX12 rfl (by decide) G1468 rfl rfl dX12_go_339 ?_
                                    refine lv_iconst (v := iI 1) hx hb dX12_go_342 (by decide +kernel) ?_
                                    refine r_iadd (v := iI (z374 + 1)) M (iI_add _ _) dX12_go_343 ?_
                                    refine r_put (ws' := [(a0, .inr (11, [.int r0, .ref a1, .int (iI x0), .int (iI x1), .int r1, .int (iI (z374 + 1)), .int (iI z1), .int (iI x3), .int (iI z432), .int r3, .int r4, .int r5, .long fy373, .int (iI x5), .ref a2, .ref a3, .ref a4, .ref a5, .ref a6, .ref a7, .ref a8, .ref a9, .ref a10, .ref a11, .int (iI x6), .ref a12, .ref a13, .ref a14, .ref a15, .int (iI x7), .int r6, .int r7, .ref a16, .int r8, .int r9, .ref a17, .ref a18, .int (iI x8), .ref a19, .int (iI x9), .int r10, .ref a20, .ref a21, .int (iI x10), .int r11, .ref a22, .int (iI x11), .int (iI x12), .int (iI x13), .int (iI x14)])), (a1, .inl (T 0, 940, .inl f0))]) M w 0 5 clX12 rfl (by decide) G1468 rfl rfl rfl rfl (Nat.le_of_ble_eq_true rfl) rfl dX12_go_344 (fun H locs w => ?_)
                                    refine lv_goto (tgt := 215) hx hb dX12_go_347 (by decide) ?_
                                    exact ih2 fy373 (z374 + 1) z432 0 _ _ _ (by omega) (by omega) z432_a z432_b (by decide) (by decide) (by omega) (by omega) w (lv_sub hl [0, 2, 3, 4] rfl)
                                · replace c_426 : z425 < 7 := Int.not_le.mp (fun h => c_426 ((iI_le (by decide) (by decide) (Int.le_trans (by decide) z425_a) (Int.le_trans z425_b (by decide))).mpr h))
                                  refine lv_aload_n hx hb dX12_go_287 rfl (lv_at hl 4 rfl) ?_
                                  refine lv_ldc2 (v := 27) hx hb M.1.2.2.2.1 (M.1.2.2.2.2 _ G1641) dX12_go_288 ?_
                                  refine lv_aload_n hx hb dX12_go_291 rfl (lv_at hl 4 rfl) ?_
                                  refine r_get (v := .long fy373) M w 0 12 clX12 rfl (by decide) G1475 rfl rfl dX12_go_292 ?_
                                  refine r_lmul (v := _) M rfl dX12_go_295 ?_
                                  refine b_anyl (fun fy433 => ?_)
                                  refine lv_iload hx hb dX12_go_296 (lv_at hl 1 rfl) ?_
                                  refine lv_i2l (v := _) hx hb dX12_go_298 rfl ?_
                                  refine b_anyl (fun fy434 => ?_)
                                  refine r_ladd (v := _) M rfl dX12_go_299 ?_
                                  refine b_anyl (fun fy435 => ?_)
                                  refine lv_ldc2 (v := 96) hx hb M.1.2.2.2.1 (M.1.2.2.2.2 _ G1642) dX12_go_300 ?_
                                  refine r_lsub (v := _) M rfl dX12_go_303 ?_
                                  refine b_anyl (fun fy436 => ?_)
                                  refine r_put (ws' := [(a0, .inr (11, [.int r0, .ref a1, .int (iI x0), .int (iI x1), .int r1, .int (iI z374), .int (iI z1), .int (iI x3), .int (iI z375), .int r3, .int r4, .int r5, .long fy436, .int (iI x5), .ref a2, .ref a3, .ref a4, .ref a5, .ref a6, .ref a7, .ref a8, .ref a9, .ref a10, .ref a11, .int (iI x6), .ref a12, .ref a13, .ref a14, .ref a15, .int (iI x7), .int r6, .int r7, .ref a16, .int r8, .int r9, .ref a17, .ref a18, .int (iI x8), .ref a19, .int (iI x9), .int r10, .ref a20, .ref a21, .int (iI x10), .int r11, .ref a22, .int (iI x11), .int (iI x12), .int (iI x13), .int (iI x14)])), (a1, .inl (T 0, 940, .inl f0))]) M w 0 12 clX12 rfl (by decide) G1475 rfl rfl rfl rfl (Nat.le_of_ble_eq_true rfl) rfl dX12_go_304 (fun H locs w => ?_)
                                  refine lv_aload_n hx hb dX12_go_307 rfl (lv_at hl 4 rfl) ?_
                                  refine r_get (v := .int (iI z374)) M w 0 5 clX12 rfl (by decide) G1468 rfl rfl dX12_go_308 ?_
                                  refine lv_aload_n hx hb dX12_go_311 rfl (lv_at hl 4 rfl) ?_
                                  refine r_get (v := .int (iI z1)) M w 0 6 clX12 rfl (by decide) G1469 rfl rfl dX12_go_312 ?_
                                  refine b_any (fun z437 z437_a z437_b => ?_)
                                  refine r_isub (v := _) M rfl dX12_go_315 ?_
                                  refine b_any (fun z438 z438_a z438_b => ?_)
                                  refine lv_iconst (v := iI 3) hx hb dX12_go_316 (by decide +kernel) ?_
                                  refine lv_icmp_ge (tgt := 337) hx hb dX12_go_317 (by decide) (fun c_439 => ?_) (fun c_439 => ?_)
                                  · replace c_439 := (iI_le (by decide) (by decide) (Int.le_trans (by decide) z438_a) (Int.le_trans z438_b (by decide))).mp c_439
                                    refine lv_aload_n hx hb dX12_go_337 rfl (lv_at hl 4 rfl) ?_
                                    refine lv_dup hx hb dX12_go_338 rfl ?_
                                    refine r_get (v := .int (iI z374)) M w 0 5 clX12 rfl (by decide) G1468 rfl rfl dX12_go_339 ?_
                                    refine lv_iconst (v := iI 1) hx hb dX12_go_342 (by decide +kernel) ?_
                                    refine r_iadd (v := iI (z374 + 1)) M (iI_add _ _) dX12_go_343 ?_
                                    refine r_put (ws' := [(a0, .inr (11, [.int r0, .ref a1, .int (iI x0), .int (iI x1), .int r1, .int (iI (z374 + 1)), .int (iI z1), .int (iI x3), .int (iI z375), .int r3, .int r4, .int r5, .long fy436, .int (iI x5), .ref a2, .ref a3, .ref a4, .ref a5, .ref a6, .ref a7, .ref a8, .ref a9, .ref a10, .ref a11, .int (iI x6), .ref a12, .ref a13, .ref a14, .ref a15, .int (iI x7), .int r6, .int r7, .ref a16, .int r8, .int r9, .ref a17, .ref a18, .int (iI x8), .ref a19, .int (iI x9), .int r10, .ref a20, .ref a21, .int (iI x10), .int r11, .ref a22, .int (iI x11), .int (iI x12), .int (iI x13), .int (iI x14)])), (a1, .inl (T 0, 940, .inl f0))]) M w 0 5 clX12 rfl (by decide) G1468 rfl rfl rfl rfl (Nat.le_of_ble_eq_true rfl) rfl dX12_go_344 (fun H locs w => ?_)
                                    refine lv_goto (tgt := 215) hx hb dX12_go_347 (by decide) ?_
                                    exact ih2 fy436 (z374 + 1) z375 0 _ _ _ (by omega) (by omega) z375_a z375_b (by decide) (by decide) (by omega) (by omega) w (lv_sub hl [0, 2, 3, 4] rfl)
                                  · replace c_439 : z438 < 3 := Int.not_le.mp (fun h => c_439 ((iI_le (by decide) (by decide) (Int.le_trans (by decide) z438_a) (Int.le_trans z438_b (by decide))).mpr h))
                                    refine lv_aload_n hx hb dX12_go_320 rfl (lv_at hl 4 rfl) ?_
                                    refine lv_bipush (v := iI 10) hx hb dX12_go_321 (by decide +kernel) ?_
                                    refine lv_aload_n hx hb dX12_go_323 rfl (lv_at hl 4 rfl) ?_
                                    refine r_get (v := .int (iI z375)) M w 0 8 clX12 rfl (by decide) G1471 rfl rfl dX12_go_324 ?_
                                    refine r_imul (v := _) M rfl dX12_go_327 ?_
                                    refine b_any (fun z440 z440_a z440_b => ?_)
                                    refine lv_iload hx hb dX12_go_328 (lv_at hl 1 rfl) ?_
                                    refine r_iadd (v := _) M rfl dX12_go_330 ?_
                                    refine b_any (fun z441 z441_a z441_b => ?_)
                                    refine lv_bipush (v := iI 48) hx hb dX12_go_331 (by decide +kernel) ?_
                                    refine r_isub (v := _) M rfl dX12_go_333 ?_
                                    refine b_any (fun z442 z442_a z442_b => ?_)
                                    refine r_put (ws' := [(a0, .inr (11, [.int r0, .ref a1, .int (iI x0), .int (iI x1), .int r1, .int (iI z374), .int (iI z1), .int (iI x3), .int (iI z442), .int r3, .int r4, .int r5, .long fy436, .int (iI x5), .ref a2, .ref a3, .ref a4, .ref a5, .ref a6, .ref a7, .ref a8, .ref a9, .ref a10, .ref a11, .int (iI x6), .ref a12, .ref a13, .ref a14, .ref a15, .int (iI x7), .int r6, .int r7, .ref a16, .int r8, .int r9, .ref a17, .ref a18, .int (iI x8), .ref a19, .int (iI x9), .int r10, .ref a20, .ref a21, .int (iI x10), .int r11, .ref a22, .int (iI x11), .int (iI x12), .int (iI x13), .int (iI x14)])), (a1, .inl (T 0, 940, .inl f0))]) M w 0 8 clX12 rfl (by decide) G1471 rfl rfl rfl rfl (Nat.le_of_ble_eq_true rfl) rfl dX12_go_334 (fun H locs w => ?_)
                                    refine lv_aload_n hx hb dX12_go_337 rfl (lv_at hl 4 rfl) ?_
                                    refine lv_dup hx hb dX12_go_338 rfl ?_
                                    refine r_get (v := .int (iI z374)) M w 0 5 clX12 rfl (by decide) G1468 rfl rfl dX12_go_339 ?_
                                    refine lv_iconst (v := iI 1) hx hb dX12_go_342 (by decide +kernel) ?_
                                    refine r_iadd (v := iI (z374 + 1)) M (iI_add _ _) dX12_go_343 ?_
                                    refine r_put (ws' := [(a0, .inr (11, [.int r0, .ref a1, .int (iI x0), .int (iI x1), .int r1, .int (iI (z374 + 1)), .int (iI z1), .int (iI x3), .int (iI z442), .int r3, .int r4, .int r5, .long fy436, .int (iI x5), .ref a2, .ref a3, .ref a4, .ref a5, .ref a6, .ref a7, .ref a8, .ref a9, .ref a10, .ref a11, .int (iI x6), .ref a12, .ref a13, .ref a14, .ref a15, .int (iI x7), .int r6, .int r7, .ref a16, .int r8, .int r9, .ref a17, .ref a18, .int (iI x8), .ref a19, .int (iI x9), .int r10, .ref a20, .ref a21, .int (iI x10), .int r11, .ref a22, .int (iI x11), .int (iI x12), .int (iI x13), .int (iI x14)])), (a1, .inl (T 0, 940, .inl f0))]) M w 0 5 clX12 rfl (by decide) G1468 rfl rfl rfl rfl (Nat.le_of_ble_eq_true rfl) rfl dX12_go_344 (fun H locs w => ?_)
                                    refine lv_goto (tgt := 215) hx hb dX12_go_347 (by decide) ?_
                                    exact ih2 fy436 (z374 + 1) z442 0 _ _ _ (by omega) (by omega) z442_a z442_b (by decide) (by decide) (by omega) (by omega) w (lv_sub hl [0, 2, 3, 4] rfl)
                              · replace c_423 := (iI_eq (Int.le_trans (by decide) z421_a) (Int.le_trans z421_b (by decide)) (Int.le_trans (by decide) z371_a) (Int.le_trans z371_b (by decide))).mp c_423
                                refine lv_iconst (v := iI 1) hx hb dX12_go_267 (by decide +kernel) ?_
                                refine lv_goto (tgt := 272) hx hb dX12_go_268 (by decide) ?_
                                refine lv_istore_n (lv' := [(3, .int (iI 1)), (4, .int (iI z400)), (2, .int (iI z371)), (1, .int (iI z367)), (0, .ref a0)]) hx hb dX12_go_272 rfl hl (by decide) rfl (fun ls hl => ?_)
                                refine lv_aload_n hx hb dX12_go_273 rfl (lv_at hl 4 rfl) ?_
                                refine r_get (v := .int (iI z374)) M w 0 5 clX12 rfl (by decide) G1468 rfl rfl dX12_go_274 ?_
                                refine lv_aload_n hx hb dX12_go_277 rfl (lv_at hl 4 rfl) ?_
                                refine r_get (v := .int (iI z1)) M w 0 6 clX12 rfl (by decide) G1469 rfl rfl dX12_go_278 ?_
                                refine b_any (fun z443 z443_a z443_b => ?_)
                                refine r_isub (v := _) M rfl dX12_go_281 ?_
                                refine b_any (fun z444 z444_a z444_b => ?_)
                                refine lv_bipush (v := iI 7) hx hb dX12_go_282 (by decide +kernel) ?_
                                refine lv_icmp_ge (tgt := 307) hx hb dX12_go_284 (by decide) (fun c_445 => ?_) (fun c_445 => ?_)
                                · replace c_445 := (iI_le (by decide) (by decide) (Int.le_trans (by decide) z444_a) (Int.le_trans z444_b (by decide))).mp c_445
                                  refine lv_aload_n hx hb dX12_go_307 rfl (lv_at hl 4 rfl) ?_
                                  refine r_get (v := .int (iI z374)) M w 0 5 clX12 rfl (by decide) G1468 rfl rfl dX12_go_308 ?_
                                  refine lv_aload_n hx hb dX12_go_311 rfl (lv_at hl 4 rfl) ?_
                                  refine r_get (v := .int (iI z1)) M w 0 6 clX12 rfl (by decide) G1469 rfl rfl dX12_go_312 ?_
                                  refine b_any (fun z446 z446_a z446_b => ?_)
                                  refine r_isub (v := _) M rfl dX12_go_315 ?_
                                  refine b_any (fun z447 z447_a z447_b => ?_)
                                  refine lv_iconst (v := iI 3) hx hb dX12_go_316 (by decide +kernel) ?_
                                  refine lv_icmp_ge (tgt := 337) hx hb dX12_go_317 (by decide) (fun c_448 => ?_) (fun c_448 => ?_)
                                  · replace c_448 := (iI_le (by decide) (by decide) (Int.le_trans (by decide) z447_a) (Int.le_trans z447_b (by decide))).mp c_448
                                    refine lv_aload_n hx hb dX12_go_337 rfl (lv_at hl 4 rfl) ?_
                                    refine lv_dup hx hb dX12_go_338 rfl ?_
                                    refine r_get (v := .int (iI z374)) M w 0 5 clX12 rfl (by decide) G1468 rfl rfl dX12_go_339 ?_
                                    refine lv_iconst (v := iI 1) hx hb dX12_go_342 (by decide +kernel) ?_
                                    refine r_iadd (v := iI (z374 + 1)) M (iI_add _ _) dX12_go_343 ?_
                                    refine r_put (ws' := [(a0, .inr (11, [.int r0, .ref a1, .int (iI x0), .int (iI x1), .int r1, .int (iI (z374 + 1)), .int (iI z1), .int (iI x3), .int (iI z375), .int r3, .int r4, .int r5, .long fy373, .int (iI x5), .ref a2, .ref a3, .ref a4, .ref a5, .ref a6, .ref a7, .ref a8, .ref a9, .ref a10, .ref a11, .int (iI x6), .ref a12, .ref a13, .ref a14, .ref a15, .int (iI x7), .int r6, .int r7, .ref a16, .int r8, .int r9, .ref a17, .ref a18, .int (iI x8), .ref a19, .int (iI x9), .int r10, .ref a20, .ref a21, .int (iI x10), .int r11, .ref a22, .int (iI x11), .int (iI x12), .int (iI x13), .int (iI x14)])), (a1, .inl (T 0, 940, .inl f0))]) M w 0 5 clX12 rfl (by decide) G1468 rfl rfl rfl rfl (Nat.le_of_ble_eq_true rfl) rfl dX12_go_344 (fun H locs w => ?_)
                                    refine lv_goto (tgt := 215) hx hb dX12_go_347 (by decide) ?_
                                    exact ih2 fy373 (z374 + 1) z375 1 _ _ _ (by omega) (by omega) z375_a z375_b (by decide) (by decide) (by omega) (by omega) w (lv_sub hl [0, 2, 3, 4] rfl)
                                  · replace c_448 : z447 < 3 := Int.not_le.mp (fun h => c_448 ((iI_le (by decide) (by decide) (Int.le_trans (by decide) z447_a) (Int.le_trans z447_b (by decide))).mpr h))
                                    refine lv_aload_n hx hb dX12_go_320 rfl (lv_at hl 4 rfl) ?_
                                    refine lv_bipush (v := iI 10) hx hb dX12_go_321 (by decide +kernel) ?_
                                    refine lv_aload_n hx hb dX12_go_323 rfl (lv_at hl 4 rfl) ?_
                                    refine r_get (v := .int (iI z375)) M w 0 8 clX12 rfl (by decide) G1471 rfl rfl dX12_go_324 ?_
                                    refine r_imul (v := _) M rfl dX12_go_327 ?_
                                    refine b_any (fun z449 z449_a z449_b => ?_)
                                    refine lv_iload hx hb dX12_go_328 (lv_at hl 1 rfl) ?_
                                    refine r_iadd (v := _) M rfl dX12_go_330 ?_
                                    refine b_any (fun z450 z450_a z450_b => ?_)
                                    refine lv_bipush (v := iI 48) hx hb dX12_go_331 (by decide +kernel) ?_
                                    refine r_isub (v := _) M rfl dX12_go_333 ?_
                                    refine b_any (fun z451 z451_a z451_b => ?_)
                                    refine r_put (ws' := [(a0, .inr (11, [.int r0, .ref a1, .int (iI x0), .int (iI x1), .int r1, .int (iI z374), .int (iI z1), .int (iI x3), .int (iI z451), .int r3, .int r4, .int r5, .long fy373, .int (iI x5), .ref a2, .ref a3, .ref a4, .ref a5, .ref a6, .ref a7, .ref a8, .ref a9, .ref a10, .ref a11, .int (iI x6), .ref a12, .ref a13, .ref a14, .ref a15, .int (iI x7), .int r6, .int r7, .ref a16, .int r8, .int r9, .ref a17, .ref a18, .int (iI x8), .ref a19, .int (iI x9), .int r10, .ref a20, .ref a21, .int (iI x10), .int r11, .ref a22, .int (iI x11), .int (iI x12), .int (iI x13), .int (iI x14)])), (a1, .inl (T 0, 940, .inl f0))]) M w 0 8 clX12 rfl (by decide) G1471 rfl rfl rfl rfl (Nat.le_of_ble_eq_true rfl) rfl dX12_go_334 (fun H locs w => ?_)
                                    refine lv_aload_n hx hb dX12_go_337 rfl (lv_at hl 4 rfl) ?_
                                    refine lv_dup hx hb dX12_go_338 rfl ?_
                                    refine r_get (v := .int (iI z374)) M w 0 5 clX12 rfl (by decide) G1468 rfl rfl dX12_go_339 ?_
                                    refine lv_iconst (v := iI 1) hx hb dX12_go_342 (by decide +kernel) ?_
                                    refine r_iadd (v := iI (z374 + 1)) M (iI_add _ _) dX12_go_343 ?_
                                    refine r_put (ws' := [(a0, .inr (11, [.int r0, .ref a1, .int (iI x0), .int (iI x1), .int r1, .int (iI (z374 + 1)), .int (iI z1), .int (iI x3), .int (iI z451), .int r3, .int r4, .int r5, .long fy373, .int (iI x5), .ref a2, .ref a3, .ref a4, .ref a5, .ref a6, .ref a7, .ref a8, .ref a9, .ref a10, .ref a11, .int (iI x6), .ref a12, .ref a13, .ref a14, .ref a15, .int (iI x7), .int r6, .int r7, .ref a16, .int r8, .int r9, .ref a17, .ref a18, .int (iI x8), .ref a19, .int (iI x9), .int r10, .ref a20, .ref a21, .int (iI x10), .int r11, .ref a22, .int (iI x11), .int (iI x12), .int (iI x13), .int (iI x14)])), (a1, .inl (T 0, 940, .inl f0))]) M w 0 5 clX12 rfl (by decide) G1468 rfl rfl rfl rfl (Nat.le_of_ble_eq_true rfl) rfl dX12_go_344 (fun H locs w => ?_)
                                    refine lv_goto (tgt := 215) hx hb dX12_go_347 (by decide) ?_
                                    exact ih2 fy373 (z374 + 1) z451 1 _ _ _ (by omega) (by omega) z451_a z451_b (by decide) (by decide) (by omega) (by omega) w (lv_sub hl [0, 2, 3, 4] rfl)
                                · replace c_445 : z444 < 7 := Int.not_le.mp (fun h => c_445 ((iI_le (by decide) (by decide) (Int.le_trans (by decide) z444_a) (Int.le_trans z444_b (by decide))).mpr h))
                                  refine lv_aload_n hx hb dX12_go_287 rfl (lv_at hl 4 rfl) ?_
                                  refine lv_ldc2 (v := 27) hx hb M.1.2.2.2.1 (M.1.2.2.2.2 _ G1641) dX12_go_288 ?_
                                  refine lv_aload_n hx hb dX12_go_291 rfl (lv_at hl 4 rfl) ?_
                                  refine r_get (v := .long fy373) M w 0 12 clX12 rfl (by decide) G1475 rfl rfl dX12_go_292 ?_
                                  refine r_lmul (v := _) M rfl dX12_go_295 ?_
                                  refine b_anyl (fun fy452 => ?_)
                                  refine lv_iload hx hb dX12_go_296 (lv_at hl 1 rfl) ?_
                                  refine lv_i2l (v := _) hx hb dX12_go_298 rfl ?_
                                  refine b_anyl (fun fy453 => ?_)
                                  refine r_ladd (v := _) M rfl dX12_go_299 ?_
                                  refine b_anyl (fun fy454 => ?_)
                                  refine lv_ldc2 (v := 96) hx hb M.1.2.2.2.1 (M.1.2.2.2.2 _ G1642) dX12_go_300 ?_
                                  refine r_lsub (v := _) M rfl dX12_go_303 ?_
                                  refine b_anyl (fun fy455 => ?_)
                                  refine r_put (ws' := [(a0, .inr (11, [.int r0, .ref a1, .int (iI x0), .int (iI x1), .int r1, .int (iI z374), .int (iI z1), .int (iI x3), .int (iI z375), .int r3, .int r4, .int r5, .long fy455, .int (iI x5), .ref a2, .ref a3, .ref a4, .ref a5, .ref a6, .ref a7, .ref a8, .ref a9, .ref a10, .ref a11, .int (iI x6), .ref a12, .ref a13, .ref a14, .ref a15, .int (iI x7), .int r6, .int r7, .ref a16, .int r8, .int r9, .ref a17, .ref a18, .int (iI x8), .ref a19, .int (iI x9), .int r10, .ref a20, .ref a21, .int (iI x10), .int r11, .ref a22, .int (iI x11), .int (iI x12), .int (iI x13), .int (iI x14)])), (a1, .inl (T 0, 940, .inl f0))]) M w 0 12 clX12 rfl (by decide) G1475 rfl rfl rfl rfl (Nat.le_of_ble_eq_true rfl) rfl dX12_go_304 (fun H locs w => ?_)
                                  refine lv_aload_n hx hb dX12_go_307 rfl (lv_at hl 4 rfl) ?_
                                  refine r_get (v := .int (iI z374)) M w 0 5 clX12 rfl (by decide) G1468 rfl rfl dX12_go_308 ?_
                                  refine lv_aload_n hx hb dX12_go_311 rfl (lv_at hl 4 rfl) ?_
                                  refine r_get (v := .int (iI z1)) M w 0 6 clX12 rfl (by decide) G1469 rfl rfl dX12_go_312 ?_
                                  refine b_any (fun z456 z456_a z456_b => ?_)
                                  refine r_isub (v := _) M rfl dX12_go_315 ?_
                                  refine b_any (fun z457 z457_a z457_b => ?_)
                                  refine lv_iconst (v := iI 3) hx hb dX12_go_316 (by decide +kernel) ?_
                                  refine lv_icmp_ge (tgt := 337) hx hb dX12_go_317 (by decide) (fun c_458 => ?_) (fun c_458 => ?_)
                                  · replace c_458 := (iI_le (by decide) (by decide) (Int.le_trans (by decide) z457_a) (Int.le_trans z457_b (by decide))).mp c_458
                                    refine lv_aload_n hx hb dX12_go_337 rfl (lv_at hl 4 rfl) ?_
                                    refine lv_dup hx hb dX12_go_338 rfl ?_
                                    refine r_get (v := .int (iI z374)) M w 0 5 clX12 rfl (by decide) G1468 rfl rfl dX12_go_339 ?_
                                    refine lv_iconst (v := iI 1) hx hb dX12_go_342 (by decide +kernel) ?_
                                    refine r_iadd (v := iI (z374 + 1)) M (iI_add _ _) dX12_go_343 ?_
                                    refine r_put (ws' := [(a0, .inr (11, [.int r0, .ref a1, .int (iI x0), .int (iI x1), .int r1, .int (iI (z374 + 1)), .int (iI z1), .int (iI x3), .int (iI z375), .int r3, .int r4, .int r5, .long fy455, .int (iI x5), .ref a2, .ref a3, .ref a4, .ref a5, .ref a6, .ref a7, .ref a8, .ref a9, .ref a10, .ref a11, .int (iI x6), .ref a12, .ref a13, .ref a14, .ref a15, .int (iI x7), .int r6, .int r7, .ref a16, .int r8, .int r9, .ref a17, .ref a18, .int (iI x8), .ref a19, .int (iI x9), .int r10, .ref a20, .ref a21, .int (iI x10), .int r11, .ref a22, .int (iI x11), .int (iI x12), .int (iI x13), .int (iI x14)])), (a1, .inl (T 0, 940, .inl f0))]) M w 0 5 clX12 rfl (by decide) G1468 rfl rfl rfl rfl (Nat.le_of_ble_eq_true rfl) rfl dX12_go_344 (fun H locs w => ?_)
                                    refine lv_goto (tgt := 215) hx hb dX12_go_347 (by decide) ?_
                                    exact ih2 fy455 (z374 + 1) z375 1 _ _ _ (by omega) (by omega) z375_a z375_b (by decide) (by decide) (by omega) (by omega) w (lv_sub hl [0, 2, 3, 4] rfl)
                                  · replace c_458 : z457 < 3 := Int.not_le.mp (fun h => c_458 ((iI_le (by decide) (by decide) (Int.le_trans (by decide) z457_a) (Int.le_trans z457_b (by decide))).mpr h))
                                    refine lv_aload_n hx hb dX12_go_320 rfl (lv_at hl 4 rfl) ?_
                                    refine lv_bipush (v := iI 10) hx hb dX12_go_321 (by decide +kernel) ?_
                                    refine lv_aload_n hx hb dX12_go_323 rfl (lv_at hl 4 rfl) ?_
                                    refine r_get (v := .int (iI z375)) M w 0 8 clX12 rfl (by decide) G1471 rfl rfl dX12_go_324 ?_
                                    refine r_imul (v := _) M rfl dX12_go_327 ?_
                                    refine b_any (fun z459 z459_a z459_b => ?_)
                                    refine lv_iload hx hb dX12_go_328 (lv_at hl 1 rfl) ?_
                                    refine r_iadd (v := _) M rfl dX12_go_330 ?_
                                    refine b_any (fun z460 z460_a z460_b => ?_)
                                    refine lv_bipush (v := iI 48) hx hb dX12_go_331 (by decide +kernel) ?_
                                    refine r_isub (v := _) M rfl dX12_go_333 ?_
                                    refine b_any (fun z461 z461_a z461_b => ?_)
                                    refine r_put (ws' := [(a0, .inr (11, [.int r0, .ref a1, .int (iI x0), .int (iI x1), .int r1, .int (iI z374), .int (iI z1), .int (iI x3), .int (iI z461), .int r3, .int r4, .int r5, .long fy455, .int (iI x5), .ref a2, .ref a3, .ref a4, .ref a5, .ref a6, .ref a7, .ref a8, .ref a9, .ref a10, .ref a11, .int (iI x6), .ref a12, .ref a13, .ref a14, .ref a15, .int (iI x7), .int r6, .int r7, .ref a16, .int r8, .int r9, .ref a17, .ref a18, .int (iI x8), .ref a19, .int (iI x9), .int r10, .ref a20, .ref a21, .int (iI x10), .int r11, .ref a22, .int (iI x11), .int (iI x12), .int (iI x13), .int (iI x14)])), (a1, .inl (T 0, 940, .inl f0))]) M w 0 8 clX12 rfl (by decide) G1471 rfl rfl rfl rfl (Nat.le_of_ble_eq_true rfl) rfl dX12_go_334 (fun H locs w => ?_)
                                    refine lv_aload_n hx hb dX12_go_337 rfl (lv_at hl 4 rfl) ?_
                                    refine lv_dup hx hb dX12_go_338 rfl ?_
                                    refine r_get (v := .int (iI z374)) M w 0 5 clX12 rfl (by decide) G1468 rfl rfl dX12_go_339 ?_
                                    refine lv_iconst (v := iI 1) hx hb dX12_go_342 (by decide +kernel) ?_
                                    refine r_iadd (v := iI (z374 + 1)) M (iI_add _ _) dX12_go_343 ?_
                                    refine r_put (ws' := [(a0, .inr (11, [.int r0, .ref a1, .int (iI x0), .int (iI x1), .int r1, .int (iI (z374 + 1)), .int (iI z1), .int (iI x3), .int (iI z461), .int r3, .int r4, .int r5, .long fy455, .int (iI x5), .ref a2, .ref a3, .ref a4, .ref a5, .ref a6, .ref a7, .ref a8, .ref a9, .ref a10, .ref a11, .int (iI x6), .ref a12, .ref a13, .ref a14, .ref a15, .int (iI x7), .int r6, .int r7, .ref a16, .int r8, .int r9, .ref a17, .ref a18, .int (iI x8), .ref a19, .int (iI x9), .int r10, .ref a20, .ref a21, .int (iI x10), .int r11, .ref a22, .int (iI x11), .int (iI x12), .int (iI x13), .int (iI x14)])), (a1, .inl (T 0, 940, .inl f0))]) M w 0 5 clX12 rfl (by decide) G1468 rfl rfl rfl rfl (Nat.le_of_ble_eq_true rfl) rfl dX12_go_344 (fun H locs w => ?_)
                                    refine lv_goto (tgt := 215) hx hb dX12_go_347 (by decide) ?_
                                    exact ih2 fy455 (z374 + 1) z461 1 _ _ _ (by omega) (by omega) z461_a z461_b (by decide) (by decide) (by omega) (by omega) w (lv_sub hl [0, 2, 3, 4] rfl)
                          · replace c_399 := (iz_eq (Int.le_trans (by decide) z397_a) (Int.le_trans z397_b (by decide))).mp c_399
                            refine lv_aload_n hx hb dX12_go_229 rfl (lv_at hl 3 rfl) ?_
                            refine lv_aload_n hx hb dX12_go_230 rfl (lv_at hl 3 rfl) ?_
                            refine r_get (v := .int (iI z374)) M w 0 5 clX12 rfl (by decide) G1468 rfl rfl dX12_go_231 ?_
                            refine k_I (ce := 0) (sl := 0) (rest := []) (wr := []) (r_V (f := 0) [0, 1] M w V_HookedCityModel_50 G1639 G50 (c9_X12_tapeAt l D T _ a0 z374 r0 a1 x0 x1 r1 z374 (iI z1) x3 z375 r3 r4 r5 fy373 x5 a2 a3 a4 a5 a6 a7 a8 a9 a10 a11 x6 a12 a13 a14 a15 x7 r6 r7 a16 r8 r9 a17 a18 x8 a19 x9 r10 a20 a21 x10 r11 a22 x11 x12 x13 x14 f0 z374_a z374_b x0_a x0_b x1_a x1_b z374_a z374_b x3_a x3_b z375_a z375_b x5_a x5_b x6_a x6_b x7_a x7_b x8_a x8_b x9_a x9_b x10_a x10_b x11_a x11_b x12_a x12_b x13_a x13_b x14_a x14_b) 0 clX12 rfl rfl (by decide) rfl hl.1 rfl (Nat.le_of_ble_eq_true rfl) dX12_go_234 (by decide) (by decide) (by decide) (by decide)) w [0, 1] [] rfl rfl (by decide) (by decide) rfl rfl (fun v z462 H locs hp w => ?_)
                            have hv : iI z462 = v := hp.1
                            subst hv
                            have z462_a : (-2147483648) ≤ z462 := hp.2.1
                            have z462_b : z462 ≤ 2147483647 := hp.2.2.1
                            have w : WD D A s.heap [(a0, .inr (11, [.int r0, .ref a1, .int (iI x0), .int (iI x1), .int r1, .int (iI z374), .int (iI z1), .int (iI x3), .int (iI z375), .int r3, .int r4, .int r5, .long fy373, .int (iI x5), .ref a2, .ref a3, .ref a4, .ref a5, .ref a6, .ref a7, .ref a8, .ref a9, .ref a10, .ref a11, .int (iI x6), .ref a12, .ref a13, .ref a14, .ref a15, .int (iI x7), .int r6, .int r7, .ref a16, .int r8, .int r9, .ref a17, .ref a18, .int (iI x8), .ref a19, .int (iI x9), .int r10, .ref a20, .ref a21, .int (iI x10), .int r11, .ref a22, .int (iI x11), .int (iI x12), .int (iI x13), .int (iI x14)])), (a1, .inl (T 0, 940, .inl f0))] H locs := w
                            rcases hp.2.2.2 with ⟨c_463, hr⟩ | c_464
                            · exfalso; omega
                            · refine k_I (ce := 0) (sl := 0) (rest := []) (wr := [(a0, .inr (11, [.int r0, .ref a1, .int (iI x0), .int (iI x1), .int r1, .int (iI z374), .int (iI z1), .int (iI x3), .int (iI z375), .int r3, .int r4, .int r5, .long fy373, .int (iI x5), .ref a2, .ref a3, .ref a4, .ref a5, .ref a6, .ref a7, .ref a8, .ref a9, .ref a10, .ref a11, .int (iI x6), .ref a12, .ref a13, .ref a14, .ref a15, .int (iI x7), .int r6, .int r7, .ref a16, .int r8, .int r9, .ref a17, .ref a18, .int (iI x8), .ref a19, .int (iI x9), .int r10, .ref a20, .ref a21, .int (iI x10), .int r11, .ref a22, .int (iI x11), .int (iI x12), .int (iI x13), .int (iI x14)])), (a1, .inl (T 0, 940, .inl f0))]) (r_S (f := 0) [] M w V_HookedCityModel_37 G1635 (c10_X12_isDigit l D T _ z462 z462_a z462_b) rfl (by decide) rfl hl.1 rfl (Nat.le_of_ble_eq_true rfl) dX12_go_237 (by decide) (by decide) (by decide) (by decide)) w [] [0, 1] rfl rfl (by decide) (by decide) rfl rfl (fun v z465 H locs hp w => ?_)
                              have hv : iI z465 = v := hp.1
                              subst hv
                              have z465_a : 0 ≤ z465 := hp.2.1
                              have z465_b : z465 ≤ 1 := hp.2.2.1
                              have ee466 : 0 ≤ ((z462 + 4294967296) - (z465 * 4294967344)) := hp.2.2.2
                              have w : WD D A s.heap [(a0, .inr (11, [.int r0, .ref a1, .int (iI x0), .int (iI x1), .int r1, .int (iI z374), .int (iI z1), .int (iI x3), .int (iI z375), .int r3, .int r4, .int r5, .long fy373, .int (iI x5), .ref a2, .ref a3, .ref a4, .ref a5, .ref a6, .ref a7, .ref a8, .ref a9, .ref a10, .ref a11, .int (iI x6), .ref a12, .ref a13, .ref a14, .ref a15, .int (iI x7), .int r6, .int r7, .ref a16, .int r8, .int r9, .ref a17, .ref a18, .int (iI x8), .ref a19, .int (iI x9), .int r10, .ref a20, .ref a21, .int (iI x10), .int r11, .ref a22, .int (iI x11), .int (iI x12), .int (iI x13), .int (iI x14)])), (a1, .inl (T 0, 940, .inl f0))] H locs := w
                              refine lv_if_eq (tgt := 350) hx hb dX12_go_240 (by decide) (fun c_467 => ?_) (fun c_467 => ?_)
                              · replace c_467 := (iz_eq (Int.le_trans (by decide) z465_a) (Int.le_trans z465_b (by decide))).mp c_467
                                refine lv_aload_n hx hb dX12_go_350 rfl (lv_at hl 3 rfl) ?_
                                refine lv_iload_n hx hb dX12_go_351 rfl (lv_at hl 0 rfl) ?_
                                refine lv_if_eq (tgt := 377) hx hb dX12_go_352 (by decide) (fun c_468 => ?_) (fun c_468 => ?_)
                                · replace c_468 := (iz_eq (Int.le_trans (by decide) z376_a) (Int.le_trans z376_b (by decide))).mp c_468
                                  refine lv_iconst (v := iI 1) hx hb dX12_go_377 (by decide +kernel) ?_
                                  refine lv_goto (tgt := 390) hx hb dX12_go_378 (by decide) ?_
                                  refine r_put (ws' := [(a0, .inr (11, [.int r0, .ref a1, .int (iI x0), .int (iI x1), .int r1, .int (iI z374), .int (iI z1), .int (iI 1), .int (iI z375), .int r3, .int r4, .int r5, .long fy373, .int (iI x5), .ref a2, .ref a3, .ref a4, .ref a5, .ref a6, .ref a7, .ref a8, .ref a9, .ref a10, .ref a11, .int (iI x6), .ref a12, .ref a13, .ref a14, .ref a15, .int (iI x7), .int r6, .int r7, .ref a16, .int r8, .int r9, .ref a17, .ref a18, .int (iI x8), .ref a19, .int (iI x9), .int r10, .ref a20, .ref a21, .int (iI x10), .int r11, .ref a22, .int (iI x11), .int (iI x12), .int (iI x13), .int (iI x14)])), (a1, .inl (T 0, 940, .inl f0))]) M w 0 7 clX12 rfl (by decide) G1470 rfl rfl rfl rfl (Nat.le_of_ble_eq_true rfl) rfl dX12_go_390 (fun H locs w => ?_)
                                  exact ret (z374, (iI z1), 1, z375, r3, fy373) _ _ _ _ _ [0, 1] dX12_go_393 ⟨z374_a, z374_b, (show (0 : Int) ≤ 1 from by decide), (show (1 : Int) ≤ 4 from by decide), z375_a, z375_b, (show 0 ≤ (z374 - x2) from by omega), (show 0 ≤ (((z374 - x2) - 1) + 3) from by omega)⟩ w (by decide) rfl
                                · replace c_468 : ¬ z376 = 0 := fun h => c_468 ((iz_eq (Int.le_trans (by decide) z376_a) (Int.le_trans z376_b (by decide))).mpr h)
                                  refine lv_aload_n hx hb dX12_go_355 rfl (lv_at hl 3 rfl) ?_
                                  refine r_get (v := .int (iI z374)) M w 0 5 clX12 rfl (by decide) G1468 rfl rfl dX12_go_356 ?_
                                  refine lv_aload_n hx hb dX12_go_359 rfl (lv_at hl 3 rfl) ?_
                                  refine r_get (v := .int (iI z1)) M w 0 6 clX12 rfl (by decide) G1469 rfl rfl dX12_go_360 ?_
                                  refine b_any (fun z469 z469_a z469_b => ?_)
                                  refine r_isub (v := _) M rfl dX12_go_363 ?_
                                  refine b_any (fun z470 z470_a z470_b => ?_)
                                  refine lv_iload_n hx hb dX12_go_364 rfl (lv_at hl 1 rfl) ?_
                                  refine lv_if_eq (tgt := 373) hx hb dX12_go_365 (by decide) (fun c_471 => ?_) (fun c_471 => ?_)
                                  · replace c_471 := (iz_eq (Int.le_trans (by decide) z371_a) (Int.le_trans z371_b (by decide))).mp c_471
                                    refine lv_iconst (v := iI 3) hx hb dX12_go_373 (by decide +kernel) ?_
                                    refine lv_icmp_le (tgt := 381) hx hb dX12_go_374 (by decide) (fun c_472 => ?_) (fun c_472 => ?_)
                                    · replace c_472 := (iI_le (Int.le_trans (by decide) z470_a) (Int.le_trans z470_b (by decide)) (by decide) (by decide)).mp c_472
                                      refine lv_iload_n hx hb dX12_go_381 rfl (lv_at hl 1 rfl) ?_
                                      refine lv_if_eq (tgt := 389) hx hb dX12_go_382 (by decide) (fun c_473 => ?_) (fun c_473 => ?_)
                                      · replace c_473 := (iz_eq (Int.le_trans (by decide) z371_a) (Int.le_trans z371_b (by decide))).mp c_473
                                        refine lv_iconst (v := iI 3) hx hb dX12_go_389 (by decide +kernel) ?_
                                        refine r_put (ws' := [(a0, .inr (11, [.int r0, .ref a1, .int (iI x0), .int (iI x1), .int r1, .int (iI z374), .int (iI z1), .int (iI 3), .int (iI z375), .int r3, .int r4, .int r5, .long fy373, .int (iI x5), .ref a2, .ref a3, .ref a4, .ref a5, .ref a6, .ref a7, .ref a8, .ref a9, .ref a10, .ref a11, .int (iI x6), .ref a12, .ref a13, .ref a14, .ref a15, .int (iI x7), .int r6, .int r7, .ref a16, .int r8, .int r9, .ref a17, .ref a18, .int (iI x8), .ref a19, .int (iI x9), .int r10, .ref a20, .ref a21, .int (iI x10), .int r11, .ref a22, .int (iI x11), .int (iI x12), .int (iI x13), .int (iI x14)])), (a1, .inl (T 0, 940, .inl f0))]) M w 0 7 clX12 rfl (by decide) G1470 rfl rfl rfl rfl (Nat.le_of_ble_eq_true rfl) rfl dX12_go_390 (fun H locs w => ?_)
                                        exact ret (z374, (iI z1), 3, z375, r3, fy373) _ _ _ _ _ [0, 1] dX12_go_393 ⟨z374_a, z374_b, (show (0 : Int) ≤ 3 from by decide), (show (3 : Int) ≤ 4 from by decide), z375_a, z375_b, (show 0 ≤ (z374 - x2) from by omega), (show 0 ≤ (((z374 - x2) - 3) + 3) from by omega)⟩ w (by decide) rfl
                                      · replace c_473 : ¬ z371 = 0 := fun h => c_473 ((iz_eq (Int.le_trans (by decide) z371_a) (Int.le_trans z371_b (by decide))).mpr h)
                                        exfalso; omega
                                    · replace c_472 : 3 < z470 := Int.not_le.mp (fun h => c_472 ((iI_le (Int.le_trans (by decide) z470_a) (Int.le_trans z470_b (by decide)) (by decide) (by decide)).mpr h))
                                      refine lv_iconst (v := iI 1) hx hb dX12_go_377 (by decide +kernel) ?_
                                      refine lv_goto (tgt := 390) hx hb dX12_go_378 (by decide) ?_
                                      refine r_put (ws' := [(a0, .inr (11, [.int r0, .ref a1, .int (iI x0), .int (iI x1), .int r1, .int (iI z374), .int (iI z1), .int (iI 1), .int (iI z375), .int r3, .int r4, .int r5, .long fy373, .int (iI x5), .ref a2, .ref a3, .ref a4, .ref a5, .ref a6, .ref a7, .ref a8, .ref a9, .ref a10, .ref a11, .int (iI x6), .ref a12, .ref a13, .ref a14, .ref a15, .int (iI x7), .int r6, .int r7, .ref a16, .int r8, .int r9, .ref a17, .ref a18, .int (iI x8), .ref a19, .int (iI x9), .int r10, .ref a20, .ref a21, .int (iI x10), .int r11, .ref a22, .int (iI x11), .int (iI x12), .int (iI x13), .int (iI x14)])), (a1, .inl (T 0, 940, .inl f0))]) M w 0 7 clX12 rfl (by decide) G1470 rfl rfl rfl rfl (Nat.le_of_ble_eq_true rfl) rfl dX12_go_390 (fun H locs w => ?_)
                                      exact ret (z374, (iI z1), 1, z375, r3, fy373) _ _ _ _ _ [0, 1] dX12_go_393 ⟨z374_a, z374_b, (show (0 : Int) ≤ 1 from by decide), (show (1 : Int) ≤ 4 from by decide), z375_a, z375_b, (show 0 ≤ (z374 - x2) from by omega), (show 0 ≤ (((z374 - x2) - 1) + 3) from by omega)⟩ w (by decide) rfl
                                  · replace c_471 : ¬ z371 = 0 := fun h => c_471 ((iz_eq (Int.le_trans (by decide) z371_a) (Int.le_trans z371_b (by decide))).mpr h)
                                    refine lv_bipush (v := iI 7) hx hb dX12_go_368 (by decide +kernel) ?_
                                    refine lv_goto (tgt := 374) hx hb dX12_go_370 (by decide) ?_
                                    refine lv_icmp_le (tgt := 381) hx hb dX12_go_374 (by decide) (fun c_474 => ?_) (fun c_474 => ?_)
                                    · replace c_474 := (iI_le (Int.le_trans (by decide) z470_a) (Int.le_trans z470_b (by decide)) (by decide) (by decide)).mp c_474
                                      refine lv_iload_n hx hb dX12_go_381 rfl (lv_at hl 1 rfl) ?_
                                      refine lv_if_eq (tgt := 389) hx hb dX12_go_382 (by decide) (fun c_475 => ?_) (fun c_475 => ?_)
                                      · replace c_475 := (iz_eq (Int.le_trans (by decide) z371_a) (Int.le_trans z371_b (by decide))).mp c_475
                                        exfalso; omega
                                      · replace c_475 : ¬ z371 = 0 := fun h => c_475 ((iz_eq (Int.le_trans (by decide) z371_a) (Int.le_trans z371_b (by decide))).mpr h)
                                        refine lv_iconst (v := iI 2) hx hb dX12_go_385 (by decide +kernel) ?_
                                        refine lv_goto (tgt := 390) hx hb dX12_go_386 (by decide) ?_
                                        refine r_put (ws' := [(a0, .inr (11, [.int r0, .ref a1, .int (iI x0), .int (iI x1), .int r1, .int (iI z374), .int (iI z1), .int (iI 2), .int (iI z375), .int r3, .int r4, .int r5, .long fy373, .int (iI x5), .ref a2, .ref a3, .ref a4, .ref a5, .ref a6, .ref a7, .ref a8, .ref a9, .ref a10, .ref a11, .int (iI x6), .ref a12, .ref a13, .ref a14, .ref a15, .int (iI x7), .int r6, .int r7, .ref a16, .int r8, .int r9, .ref a17, .ref a18, .int (iI x8), .ref a19, .int (iI x9), .int r10, .ref a20, .ref a21, .int (iI x10), .int r11, .ref a22, .int (iI x11), .int (iI x12), .int (iI x13), .int (iI x14)])), (a1, .inl (T 0, 940, .inl f0))]) M w 0 7 clX12 rfl (by decide) G1470 rfl rfl rfl rfl (Nat.le_of_ble_eq_true rfl) rfl dX12_go_390 (fun H locs w => ?_)
                                        exact ret (z374, (iI z1), 2, z375, r3, fy373) _ _ _ _ _ [0, 1] dX12_go_393 ⟨z374_a, z374_b, (show (0 : Int) ≤ 2 from by decide), (show (2 : Int) ≤ 4 from by decide), z375_a, z375_b, (show 0 ≤ (z374 - x2) from by omega), (show 0 ≤ (((z374 - x2) - 2) + 3) from by omega)⟩ w (by decide) rfl
                                    · replace c_474 : 7 < z470 := Int.not_le.mp (fun h => c_474 ((iI_le (Int.le_trans (by decide) z470_a) (Int.le_trans z470_b (by decide)) (by decide) (by decide)).mpr h))
                                      refine lv_iconst (v := iI 1) hx hb dX12_go_377 (by decide +kernel) ?_
                                      refine lv_goto (tgt := 390) hx hb dX12_go_378 (by decide) ?_
                                      refine r_put (ws' := [(a0, .inr (11, [.int r0, .ref a1, .int (iI x0), .int (iI x1), .int r1, .int (iI z374), .int (iI z1), .int (iI 1), .int (iI z375), .int r3, .int r4, .int r5, .long fy373, .int (iI x5), .ref a2, .ref a3, .ref a4, .ref a5, .ref a6, .ref a7, .ref a8, .ref a9, .ref a10, .ref a11, .int (iI x6), .ref a12, .ref a13, .ref a14, .ref a15, .int (iI x7), .int r6, .int r7, .ref a16, .int r8, .int r9, .ref a17, .ref a18, .int (iI x8), .ref a19, .int (iI x9), .int r10, .ref a20, .ref a21, .int (iI x10), .int r11, .ref a22, .int (iI x11), .int (iI x12), .int (iI x13), .int (iI x14)])), (a1, .inl (T 0, 940, .inl f0))]) M w 0 7 clX12 rfl (by decide) G1470 rfl rfl rfl rfl (Nat.le_of_ble_eq_true rfl) rfl dX12_go_390 (fun H locs w => ?_)
                                      exact ret (z374, (iI z1), 1, z375, r3, fy373) _ _ _ _ _ [0, 1] dX12_go_393 ⟨z374_a, z374_b, (show (0 : Int) ≤ 1 from by decide), (show (1 : Int) ≤ 4 from by decide), z375_a, z375_b, (show 0 ≤ (z374 - x2) from by omega), (show 0 ≤ (((z374 - x2) - 1) + 3) from by omega)⟩ w (by decide) rfl
                              · replace c_467 : ¬ z465 = 0 := fun h => c_467 ((iz_eq (Int.le_trans (by decide) z465_a) (Int.le_trans z465_b (by decide))).mpr h)
                                refine lv_aload_n hx hb dX12_go_243 rfl (lv_at hl 3 rfl) ?_
                                refine r_get (v := .ref a1) M w 0 1 clX12 rfl (by decide) G1464 rfl rfl dX12_go_244 ?_
                                refine lv_aload_n hx hb dX12_go_247 rfl (lv_at hl 3 rfl) ?_
                                refine r_get (v := .int (iI z374)) M w 0 5 clX12 rfl (by decide) G1468 rfl rfl dX12_go_248 ?_
                                refine r_iald (v := _) M w 1 rfl (iI_in (by omega) (by omega) (by decide)) rfl dX12_go_251 ?_
                                refine b_any (fun z476 z476_a z476_b => ?_)
                                refine lv_istore (lv' := [(4, .int (iI z476)), (3, .int (iI z376)), (2, .int (iI z371)), (1, .int (iI z367)), (0, .ref a0)]) hx hb dX12_go_252 hl (by decide) rfl (fun ls hl => ?_)
                                refine lv_iload_n hx hb dX12_go_254 rfl (lv_at hl 1 rfl) ?_
                                refine lv_if_eq (tgt := 271) hx hb dX12_go_255 (by decide) (fun c_477 => ?_) (fun c_477 => ?_)
                                · replace c_477 := (iz_eq (Int.le_trans (by decide) z376_a) (Int.le_trans z376_b (by decide))).mp c_477
                                  refine lv_iconst (v := iI 0) hx hb dX12_go_271 (by decide +kernel) ?_
                                  refine lv_istore_n (lv' := [(3, .int (iI 0)), (4, .int (iI z476)), (2, .int (iI z371)), (1, .int (iI z367)), (0, .ref a0)]) hx hb dX12_go_272 rfl hl (by decide) rfl (fun ls hl => ?_)
                                  refine lv_aload_n hx hb dX12_go_273 rfl (lv_at hl 4 rfl) ?_
                                  refine r_get (v := .int (iI z374)) M w 0 5 clX12 rfl (by decide) G1468 rfl rfl dX12_go_274 ?_
                                  refine lv_aload_n hx hb dX12_go_277 rfl (lv_at hl 4 rfl) ?_
                                  refine r_get (v := .int (iI z1)) M w 0 6 clX12 rfl (by decide) G1469 rfl rfl dX12_go_278 ?_
                                  refine b_any (fun z478 z478_a z478_b => ?_)
                                  refine r_isub (v := _) M rfl dX12_go_281 ?_
                                  refine b_any (fun z479 z479_a z479_b => ?_)
                                  refine lv_bipush (v := iI 7) hx hb dX12_go_282 (by decide +kernel) ?_
                                  refine lv_icmp_ge (tgt := 307) hx hb dX12_go_284 (by decide) (fun c_480 => ?_) (fun c_480 => ?_)
                                  · replace c_480 := (iI_le (by decide) (by decide) (Int.le_trans (by decide) z479_a) (Int.le_trans z479_b (by decide))).mp c_480
                                    refine lv_aload_n hx hb dX12_go_307 rfl (lv_at hl 4 rfl) ?_
                                    refine r_get (v := .int (iI z374)) M w 0 5 clX12 rfl (by decide) G1468 rfl rfl dX12_go_308 ?_
                                    refine lv_aload_n hx hb dX12_go_311 rfl (lv_at hl 4 rfl) ?_
                                    refine r_get (v := .int (iI z1)) M w 0 6 clX12 rfl (by decide) G1469 rfl rfl dX12_go_312 ?_
                                    refine b_any (fun z481 z481_a z481_b => ?_)
                                    refine r_isub (v := _) M rfl dX12_go_315 ?_
                                    refine b_any (fun z482 z482_a z482_b => ?_)
                                    refine lv_iconst (v := iI 3) hx hb dX12_go_316 (by decide +kernel) ?_
                                    refine lv_icmp_ge (tgt := 337) hx hb dX12_go_317 (by decide) (fun c_483 => ?_) (fun c_483 => ?_)
                                    · replace c_483 := (iI_le (by decide) (by decide) (Int.le_trans (by decide) z482_a) (Int.le_trans z482_b (by decide))).mp c_483
                                      refine lv_aload_n hx hb dX12_go_337 rfl (lv_at hl 4 rfl) ?_
                                      refine lv_dup hx hb dX12_go_338 rfl ?_
                                      refine r_get (v := .int (iI z374)) M w 0 5 clX12 rfl (by decide) G1468 rfl rfl dX12_go_339 ?_
                                      refine lv_iconst (v := iI 1) hx hb dX12_go_342 (by decide +kernel) ?_
                                      refine r_iadd (v := iI (z374 + 1)) M (iI_add _ _) dX12_go_343 ?_
                                      refine r_put (ws' := [(a0, .inr (11, [.int r0, .ref a1, .int (iI x0), .int (iI x1), .int r1, .int (iI (z374 + 1)), .int (iI z1), .int (iI x3), .int (iI z375), .int r3, .int r4, .int r5, .long fy373, .int (iI x5), .ref a2, .ref a3, .ref a4, .ref a5, .ref a6, .ref a7, .ref a8, .ref a9, .ref a10, .ref a11, .int (iI x6), .ref a12, .ref a13, .ref a14, .ref a15, .int (iI x7), .int r6, .int r7, .ref a16, .int r8, .int r9, .ref a17, .ref a18, .int (iI x8), .ref a19, .int (iI x9), .int r10, .ref a20, .ref a21, .int (iI x10), .int r11, .ref a22, .int (iI x11), .int (iI x12), .int (iI x13), .int (iI x14)])), (a1, .inl (T 0, 940, .inl f0))]) M w 0 5 clX12 rfl (by decide) G1468 rfl rfl rfl rfl (Nat.le_of_ble_eq_true rfl) rfl dX12_go_344 (fun H locs w => ?_)
                                      refine lv_goto (tgt := 215) hx hb dX12_go_347 (by decide) ?_
                                      exact ih2 fy373 (z374 + 1) z375 0 _ _ _ (by omega) (by omega) z375_a z375_b (by decide) (by decide) (by omega) (by omega) w (lv_sub hl [0, 2, 3, 4] rfl)
                                    · replace c_483 : z482 < 3 := Int.not_le.mp (fun h => c_483 ((iI_le (by decide) (by decide) (Int.le_trans (by decide) z482_a) (Int.le_trans z482_b (by decide))).mpr h))
                                      refine lv_aload_n hx hb dX12_go_320 rfl (lv_at hl 4 rfl) ?_
                                      refine lv_bipush (v := iI 10) hx hb dX12_go_321 (by decide +kernel) ?_
                                      refine lv_aload_n hx hb dX12_go_323 rfl (lv_at hl 4 rfl) ?_
                                      refine r_get (v := .int (iI z375)) M w 0 8 clX12 rfl (by decide) G1471 rfl rfl dX12_go_324 ?_
                                      refine r_imul (v := _) M rfl dX12_go_327 ?_
                                      refine b_any (fun z484 z484_a z484_b => ?_)
                                      refine lv_iload hx hb dX12_go_328 (lv_at hl 1 rfl) ?_
                                      refine r_iadd (v := _) M rfl dX12_go_330 ?_
                                      refine b_any (fun z485 z485_a z485_b => ?_)
                                      refine lv_bipush (v := iI 48) hx hb dX12_go_331 (by decide +kernel) ?_
                                      refine r_isub (v := _) M rfl dX12_go_333 ?_
                                      refine b_any (fun z486 z486_a z486_b => ?_)
                                      refine r_put (ws' := [(a0, .inr (11, [.int r0, .ref a1, .int (iI x0), .int (iI x1), .int r1, .int (iI z374), .int (iI z1), .int (iI x3), .int (iI z486), .int r3, .int r4, .int r5, .long fy373, .int (iI x5), .ref a2, .ref a3, .ref a4, .ref a5, .ref a6, .ref a7, .ref a8, .ref a9, .ref a10, .ref a11, .int (iI x6), .ref a12, .ref a13, .ref a14, .ref a15, .int (iI x7), .int r6, .int r7, .ref a16, .int r8, .int r9, .ref a17, .ref a18, .int (iI x8), .ref a19, .int (iI x9), .int r10, .ref a20, .ref a21, .int (iI x10), .int r11, .ref a22, .int (iI x11), .int (iI x12), .int (iI x13), .int (iI x14)])), (a1, .inl (T 0, 940, .inl f0))]) M w 0 8 clX12 rfl (by decide) G1471 rfl rfl rfl rfl (Nat.le_of_ble_eq_true rfl) rfl dX12_go_334 (fun H locs w => ?_)
                                      refine lv_aload_n hx hb dX12_go_337 rfl (lv_at hl 4 rfl) ?_
                                      refine lv_dup hx hb dX12_go_338 rfl ?_
                                      refine r_get (v := .int (iI z374)) M w 0 5 clX12 rfl (by decide) G1468 rfl rfl dX12_go_339 ?_
                                      refine lv_iconst (v := iI 1) hx hb dX12_go_342 (by decide +kernel) ?_
                                      refine r_iadd (v := iI (z374 + 1)) M (iI_add _ _) dX12_go_343 ?_
                                      refine r_put (ws' := [(a0, .inr (11, [.int r0, .ref a1, .int (iI x0), .int (iI x1), .int r1, .int (iI (z374 + 1)), .int (iI z1), .int (iI x3), .int (iI z486), .int r3, .int r4, .int r5, .long fy373, .int (iI x5), .ref a2, .ref a3, .ref a4, .ref a5, .ref a6, .ref a7, .ref a8, .ref a9, .ref a10, .ref a11, .int (iI x6), .ref a12, .ref a13, .ref a14, .ref a15, .int (iI x7), .int r6, .int r7, .ref a16, .int r8, .int r9, .ref a17, .ref a18, .int (iI x8), .ref a19, .int (iI x9), .int r10, .ref a20, .ref a21, .int (iI x10), .int r11, .ref a22, .int (iI x11), .int (iI x12), .int (iI x13), .int (iI x14)])), (a1, .inl (T 0, 940, .inl f0))]) M w 0 5 clX12 rfl (by decide) G1468 rfl rfl rfl rfl (Nat.le_of_ble_eq_true rfl) rfl dX12_go_344 (fun H locs w => ?_)
                                      refine lv_goto (tgt := 215) hx hb dX12_go_347 (by decide) ?_
                                      exact ih2 fy373 (z374 + 1) z486 0 _ _ _ (by omega) (by omega) z486_a z486_b (by decide) (by decide) (by omega) (by omega) w (lv_sub hl [0, 2, 3, 4] rfl)
                                  · replace c_480 : z479 < 7 := Int.not_le.mp (fun h => c_480 ((iI_le (by decide) (by decide) (Int.le_trans (by decide) z479_a) (Int.le_trans z479_b (by decide))).mpr h))
                                    refine lv_aload_n hx hb dX12_go_287 rfl (lv_at hl 4 rfl) ?_
                                    refine lv_ldc2 (v := 27) hx hb M.1.2.2.2.1 (M.1.2.2.2.2 _ G1641) dX12_go_288 ?_
                                    refine lv_aload_n hx hb dX12_go_291 rfl (lv_at hl 4 rfl) ?_
                                    refine r_get (v := .long fy373) M w 0 12 clX12 rfl (by decide) G1475 rfl rfl dX12_go_292 ?_
                                    refine r_lmul (v := _) M rfl dX12_go_295 ?_
                                    refine b_anyl (fun fy487 => ?_)
                                    refine lv_iload hx hb dX12_go_296 (lv_at hl 1 rfl) ?_
                                    refine lv_i2l (v := _) hx hb dX12_go_298 rfl ?_
                                    refine b_anyl (fun fy488 => ?_)
                                    refine r_ladd (v := _) M rfl dX12_go_299 ?_
                                    refine b_anyl (fun fy489 => ?_)
                                    refine lv_ldc2 (v := 96) hx hb M.1.2.2.2.1 (M.1.2.2.2.2 _ G1642) dX12_go_300 ?_
                                    refine r_lsub (v := _) M rfl dX12_go_303 ?_
                                    refine b_anyl (fun fy490 => ?_)
                                    refine r_put (ws' := [(a0, .inr (11, [.int r0, .ref a1, .int (iI x0), .int (iI x1), .int r1, .int (iI z374), .int (iI z1), .int (iI x3), .int (iI z375), .int r3, .int r4, .int r5, .long fy490, .int (iI x5), .ref a2, .ref a3, .ref a4, .ref a5, .ref a6, .ref a7, .ref a8, .ref a9, .ref a10, .ref a11, .int (iI x6), .ref a12, .ref a13, .ref a14, .ref a15, .int (iI x7), .int r6, .int r7, .ref a16, .int r8, .int r9, .ref a17, .ref a18, .int (iI x8), .ref a19, .int (iI x9), .int r10, .ref a20, .ref a21, .int (iI x10), .int r11, .ref a22, .int (iI x11), .int (iI x12), .int (iI x13), .int (iI x14)])), (a1, .inl (T 0, 940, .inl f0))]) M w 0 12 clX12 rfl (by decide) G1475 rfl rfl rfl rfl (Nat.le_of_ble_eq_true rfl) rfl dX12_go_304 (fun H locs w => ?_)
                                    refine lv_aload_n hx hb dX12_go_307 rfl (lv_at hl 4 rfl) ?_
                                    refine r_get (v := .int (iI z374)) M w 0 5 clX12 rfl (by decide) G1468 rfl rfl dX12_go_308 ?_
                                    refine lv_aload_n hx hb dX12_go_311 rfl (lv_at hl 4 rfl) ?_
                                    refine r_get (v := .int (iI z1)) M w 0 6 clX12 rfl (by decide) G1469 rfl rfl dX12_go_312 ?_
                                    refine b_any (fun z491 z491_a z491_b => ?_)
                                    refine r_isub (v := _) M rfl dX12_go_315 ?_
                                    refine b_any (fun z492 z492_a z492_b => ?_)
                                    refine lv_iconst (v := iI 3) hx hb dX12_go_316 (by decide +kernel) ?_
                                    refine lv_icmp_ge (tgt := 337) hx hb dX12_go_317 (by decide) (fun c_493 => ?_) (fun c_493 => ?_)
                                    · replace c_493 := (iI_le (by decide) (by decide) (Int.le_trans (by decide) z492_a) (Int.le_trans z492_b (by decide))).mp c_493
                                      refine lv_aload_n hx hb dX12_go_337 rfl (lv_at hl 4 rfl) ?_
                                      refine lv_dup hx hb dX12_go_338 rfl ?_
                                      refine r_get (v := .int (iI z374)) M w 0 5 clX12 rfl (by decide) G1468 rfl rfl dX12_go_339 ?_
                                      refine lv_iconst (v := iI 1) hx hb dX12_go_342 (by decide +kernel) ?_
                                      refine r_iadd (v := iI (z374 + 1)) M (iI_add _ _) dX12_go_343 ?_
                                      refine r_put (ws' := [(a0, .inr (11, [.int r0, .ref a1, .int (iI x0), .int (iI x1), .int r1, .int (iI (z374 + 1)), .int (iI z1), .int (iI x3), .int (iI z375), .int r3, .int r4, .int r5, .long fy490, .int (iI x5), .ref a2, .ref a3, .ref a4, .ref a5, .ref a6, .ref a7, .ref a8, .ref a9, .ref a10, .ref a11, .int (iI x6), .ref a12, .ref a13, .ref a14, .ref a15, .int (iI x7), .int r6, .int r7, .ref a16, .int r8, .int r9, .ref a17, .ref a18, .int (iI x8), .ref a19, .int (iI x9), .int r10, .ref a20, .ref a21, .int (iI x10), .int r11, .ref a22, .int (iI x11), .int (iI x12), .int (iI x13), .int (iI x14)])), (a1, .inl (T 0, 940, .inl f0))]) M w 0 5 clX12 rfl (by decide) G1468 rfl rfl rfl rfl (Nat.le_of_ble_eq_true rfl) rfl dX12_go_344 (fun H locs w => ?_)
                                      refine lv_goto (tgt := 215) hx hb dX12_go_347 (by decide) ?_
                                      exact ih2 fy490 (z374 + 1) z375 0 _ _ _ (by omega) (by omega) z375_a z375_b (by decide) (by decide) (by omega) (by omega) w (lv_sub hl [0, 2, 3, 4] rfl)
                                    · replace c_493 : z492 < 3 := Int.not_le.mp (fun h => c_493 ((iI_le (by decide) (by decide) (Int.le_trans (by decide) z492_a) (Int.le_trans z492_b (by decide))).mpr h))
                                      refine lv_aload_n hx hb dX12_go_320 rfl (lv_at hl 4 rfl) ?_
                                      refine lv_bipush (v := iI 10) hx hb dX12_go_321 (by decide +kernel) ?_
                                      refine lv_aload_n hx hb dX12_go_323 rfl (lv_at hl 4 rfl) ?_
                                      refine r_get (v := .int (iI z375)) M w 0 8 clX12 rfl (by decide) G1471 rfl rfl dX12_go_324 ?_
                                      refine r_imul (v := _) M rfl dX12_go_327 ?_
                                      refine b_any (fun z494 z494_a z494_b => ?_)
                                      refine lv_iload hx hb dX12_go_328 (lv_at hl 1 rfl) ?_
                                      refine r_iadd (v := _) M rfl dX12_go_330 ?_
                                      refine b_any (fun z495 z495_a z495_b => ?_)
                                      refine lv_bipush (v := iI 48) hx hb dX12_go_331 (by decide +kernel) ?_
                                      refine r_isub (v := _) M rfl dX12_go_333 ?_
                                      refine b_any (fun z496 z496_a z496_b => ?_)
                                      refine r_put (ws' := [(a0, .inr (11, [.int r0, .ref a1, .int (iI x0), .int (iI x1), .int r1, .int (iI z374), .int (iI z1), .int (iI x3), .int (iI z496), .int r3, .int r4, .int r5, .long fy490, .int (iI x5), .ref a2, .ref a3, .ref a4, .ref a5, .ref a6, .ref a7, .ref a8, .ref a9, .ref a10, .ref a11, .int (iI x6), .ref a12, .ref a13, .ref a14, .ref a15, .int (iI x7), .int r6, .int r7, .ref a16, .int r8, .int r9, .ref a17, .ref a18, .int (iI x8), .ref a19, .int (iI x9), .int r10, .ref a20, .ref a21, .int (iI x10), .int r11, .ref a22, .int (iI x11), .int (iI x12), .int (iI x13), .int (iI x14)])), (a1, .inl (T 0, 940, .inl f0))]) M w 0 8 clX12 rfl (by decide) G1471 rfl rfl rfl rfl (Nat.le_of_ble_eq_true rfl) rfl dX12_go_334 (fun H locs w => ?_)
                                      refine lv_aload_n hx hb dX12_go_337 rfl (lv_at hl 4 rfl) ?_
                                      refine lv_dup hx hb dX12_go_338 rfl ?_
                                      refine r_get (v := .int (iI z374)) M w 0 5 clX12 rfl (by decide) G1468 rfl rfl dX12_go_339 ?_
                                      refine lv_iconst (v := iI 1) hx hb dX12_go_342 (by decide +kernel) ?_
                                      refine r_iadd (v := iI (z374 + 1)) M (iI_add _ _) dX12_go_343 ?_
                                      refine r_put (ws' := [(a0, .inr (11, [.int r0, .ref a1, .int (iI x0), .int (iI x1), .int r1, .int (iI (z374 + 1)), .int (iI z1), .int (iI x3), .int (iI z496), .int r3, .int r4, .int r5, .long fy490, .int (iI x5), .ref a2, .ref a3, .ref a4, .ref a5, .ref a6, .ref a7, .ref a8, .ref a9, .ref a10, .ref a11, .int (iI x6), .ref a12, .ref a13, .ref a14, .ref a15, .int (iI x7), .int r6, .int r7, .ref a16, .int r8, .int r9, .ref a17, .ref a18, .int (iI x8), .ref a19, .int (iI x9), .int r10, .ref a20, .ref a21, .int (iI x10), .int r11, .ref a22, .int (iI x11), .int (iI x12), .int (iI x13), .int (iI x14)])), (a1, .inl (T 0, 940, .inl f0))]) M w 0 5 clX12 rfl (by decide) G1468 rfl rfl rfl rfl (Nat.le_of_ble_eq_true rfl) rfl dX12_go_344 (fun H locs w => ?_)
                                      refine lv_goto (tgt := 215) hx hb dX12_go_347 (by decide) ?_
                                      exact ih2 fy490 (z374 + 1) z496 0 _ _ _ (by omega) (by omega) z496_a z496_b (by decide) (by decide) (by omega) (by omega) w (lv_sub hl [0, 2, 3, 4] rfl)
                                · replace c_477 : ¬ z376 = 0 := fun h => c_477 ((iz_eq (Int.le_trans (by decide) z376_a) (Int.le_trans z376_b (by decide))).mpr h)
                                  refine lv_iload hx hb dX12_go_258 (lv_at hl 0 rfl) ?_
                                  refine k_I (ce := 0) (sl := 0) (rest := []) (wr := [(a0, .inr (11, [.int r0, .ref a1, .int (iI x0), .int (iI x1), .int r1, .int (iI z374), .int (iI z1), .int (iI x3), .int (iI z375), .int r3, .int r4, .int r5, .long fy373, .int (iI x5), .ref a2, .ref a3, .ref a4, .ref a5, .ref a6, .ref a7, .ref a8, .ref a9, .ref a10, .ref a11, .int (iI x6), .ref a12, .ref a13, .ref a14, .ref a15, .int (iI x7), .int r6, .int r7, .ref a16, .int r8, .int r9, .ref a17, .ref a18, .int (iI x8), .ref a19, .int (iI x9), .int r10, .ref a20, .ref a21, .int (iI x10), .int r11, .ref a22, .int (iI x11), .int (iI x12), .int (iI x13), .int (iI x14)])), (a1, .inl (T 0, 940, .inl f0))]) (r_S (f := 0) [] M w V_HookedCityModel_33 G1632 (c11_X12_isLetter l D T _ z476 z476_a z476_b) rfl (by decide) rfl hl.1 rfl (Nat.le_of_ble_eq_true rfl) dX12_go_260 (by decide) (by decide) (by decide) (by decide)) w [] [0, 1] rfl rfl (by decide) (by decide) rfl rfl (fun v z497 H locs hp w => ?_)
                                  have hv : iI z497 = v := hp.1
                                  subst hv
                                  have z497_a : 0 ≤ z497 := hp.2.1
                                  have z497_b : z497 ≤ 1 := hp.2.2.1
                                  have ee498 : 0 ≤ ((z476 + 4294967296) - (z497 * 4294967393)) := hp.2.2.2
                                  have w : WD D A s.heap [(a0, .inr (11, [.int r0, .ref a1, .int (iI x0), .int (iI x1), .int r1, .int (iI z374), .int (iI z1), .int (iI x3), .int (iI z375), .int r3, .int r4, .int r5, .long fy373, .int (iI x5), .ref a2, .ref a3, .ref a4, .ref a5, .ref a6, .ref a7, .ref a8, .ref a9, .ref a10, .ref a11, .int (iI x6), .ref a12, .ref a13, .ref a14, .ref a15, .int (iI x7), .int r6, .int r7, .ref a16, .int r8, .int r9, .ref a17, .ref a18, .int (iI x8), .ref a19, .int (iI x9), .int r10, .ref a20, .ref a21, .int (iI x10), .int r11, .ref a22, .int (iI x11), .int (iI x12), .int (iI x13), .int (iI x14)])), (a1, .inl (T 0, 940, .inl f0))] H locs := w
                                  refine lv_iload_n hx hb dX12_go_263 rfl (lv_at hl 2 rfl) ?_
                                  refine lv_icmp_ne (tgt := 271) hx hb dX12_go_264 (by decide) (fun c_499 => ?_) (fun c_499 => ?_)
                                  · replace c_499 : ¬ z497 = z371 := fun h => c_499 ((iI_eq (Int.le_trans (by decide) z497_a) (Int.le_trans z497_b (by decide)) (Int.le_trans (by decide) z371_a) (Int.le_trans z371_b (by decide))).mpr h)
                                    refine lv_iconst (v := iI 0) hx hb dX12_go_271 (by decide +kernel) ?_
                                    refine lv_istore_n (lv' := [(3, .int (iI 0)), (4, .int (iI z476)), (2, .int (iI z371)), (1, .int (iI z367)), (0, .ref a0)]) hx hb dX12_go_272 rfl hl (by decide) rfl (fun ls hl => ?_)
                                    refine lv_aload_n hx hb dX12_go_273 rfl (lv_at hl 4 rfl) ?_
                                    refine r_get (v := .int (iI z374)) M w 0 5 clX12 rfl (by decide) G1468 rfl rfl dX12_go_274 ?_
                                    refine lv_aload_n hx hb dX12_go_277 rfl (lv_at hl 4 rfl) ?_
                                    refine r_get (v := .int (iI z1)) M w 0 6 clX12 rfl (by decide) G1469 rfl rfl dX12_go_278 ?_
                                    refine b_any (fun z500 z500_a z500_b => ?_)
                                    refine r_isub (v := _) M rfl dX12_go_281 ?_
                                    refine b_any (fun z501 z501_a z501_b => ?_)
                                    refine lv_bipush (v := iI 7) hx hb dX12_go_282 (by decide +kernel) ?_
                                    refine lv_icmp_ge (tgt := 307) hx hb dX12_go_284 (by decide) (fun c_502 => ?_) (fun c_502 => ?_)
                                    · replace c_502 := (iI_le (by decide) (by decide) (Int.le_trans (by decide) z501_a) (Int.le_trans z501_b (by decide))).mp c_502
                                      refine lv_aload_n hx hb dX12_go_307 rfl (lv_at hl 4 rfl) ?_
                                      refine r_get (v := .int (iI z374)) M w 0 5 clX12 rfl (by decide) G1468 rfl rfl dX12_go_308 ?_
                                      refine lv_aload_n hx hb dX12_go_311 rfl (lv_at hl 4 rfl) ?_
                                      refine r_get (v := .int (iI z1)) M w 0 6 clX12 rfl (by decide) G1469 rfl rfl dX12_go_312 ?_
                                      refine b_any (fun z503 z503_a z503_b => ?_)
                                      refine r_isub (v := _) M rfl dX12_go_315 ?_
                                      refine b_any (fun z504 z504_a z504_b => ?_)
                                      refine lv_iconst (v := iI 3) hx hb dX12_go_316 (by decide +kernel) ?_
                                      refine lv_icmp_ge (tgt := 337) hx hb dX12_go_317 (by decide) (fun c_505 => ?_) (fun c_505 => ?_)
                                      · replace c_505 := (iI_le (by decide) (by decide) (Int.le_trans (by decide) z504_a) (Int.le_trans z504_b (by decide))).mp c_505
                                        refine lv_aload_n hx hb dX12_go_337 rfl (lv_at hl 4 rfl) ?_
                                        refine lv_dup hx hb dX12_go_338 rfl ?_
                                        refine r_get (v := .int (iI z374)) M w 0 5 clX12 rfl (by decide) G1468 rfl rfl dX12_go_339 ?_
                                        refine lv_iconst (v := iI 1) hx hb dX12_go_342 (by decide +kernel) ?_
                                        refine r_iadd (v := iI (z374 + 1)) M (iI_add _ _) dX12_go_343 ?_
                                        refine r_put (ws' := [(a0, .inr (11, [.int r0, .ref a1, .int (iI x0), .int (iI x1), .int r1, .int (iI (z374 + 1)), .int (iI z1), .int (iI x3), .int (iI z375), .int r3, .int r4, .int r5, .long fy373, .int (iI x5), .ref a2, .ref a3, .ref a4, .ref a5, .ref a6, .ref a7, .ref a8, .ref a9, .ref a10, .ref a11, .int (iI x6), .ref a12, .ref a13, .ref a14, .ref a15, .int (iI x7), .int r6, .int r7, .ref a16, .int r8, .int r9, .ref a17, .ref a18, .int (iI x8), .ref a19, .int (iI x9), .int r10, .ref a20, .ref a21, .int (iI x10), .int r11, .ref a22, .int (iI x11), .int (iI x12), .int (iI x13), .int (iI x14)])), (a1, .inl (T 0, 940, .inl f0))]) M w 0 5 clX12 rfl (by decide) G1468 rfl rfl rfl rfl (Nat.le_of_ble_eq_true rfl) rfl dX12_go_344 (fun H locs w => ?_)
                                        refine lv_goto (tgt := 215) hx hb dX12_go_347 (by decide) ?_
                                        exact ih2 fy373 (z374 + 1) z375 0 _ _ _ (by omega) (by omega) z375_a z375_b (by decide) (by decide) (by omega) (by omega) w (lv_sub hl [0, 2, 3, 4] rfl)
                                      · replace c_505 : z504 < 3 := Int.not_le.mp (fun h => c_505 ((iI_le (by decide) (by decide) (Int.le_trans (by decide) z504_a) (Int.le_trans z504_b (by decide))).mpr h))
                                        refine lv_aload_n hx hb dX12_go_320 rfl (lv_at hl 4 rfl) ?_
                                        refine lv_bipush (v := iI 10) hx hb dX12_go_321 (by decide +kernel) ?_
                                        refine lv_aload_n hx hb dX12_go_323 rfl (lv_at hl 4 rfl) ?_
                                        refine r_get (v := .int (iI z375)) M w 0 8 clX12 rfl (by decide) G1471 rfl rfl dX12_go_324 ?_
                                        refine r_imul (v := _) M rfl dX12_go_327 ?_
                                        refine b_any (fun z506 z506_a z506_b => ?_)
                                        refine lv_iload hx hb dX12_go_328 (lv_at hl 1 rfl) ?_
                                        refine r_iadd (v := _) M rfl dX12_go_330 ?_
                                        refine b_any (fun z507 z507_a z507_b => ?_)
                                        refine lv_bipush (v := iI 48) hx hb dX12_go_331 (by decide +kernel) ?_
                                        refine r_isub (v := _) M rfl dX12_go_333 ?_
                                        refine b_any (fun z508 z508_a z508_b => ?_)
                                        refine r_put (ws' := [(a0, .inr (11, [.int r0, .ref a1, .int (iI x0), .int (iI x1), .int r1, .int (iI z374), .int (iI z1), .int (iI x3), .int (iI z508), .int r3, .int r4, .int r5, .long fy373, .int (iI x5), .ref a2, .ref a3, .ref a4, .ref a5, .ref a6, .ref a7, .ref a8, .ref a9, .ref a10, .ref a11, .int (iI x6), .ref a12, .ref a13, .ref a14, .ref a15, .int (iI x7), .int r6, .int r7, .ref a16, .int r8, .int r9, .ref a17, .ref a18, .int (iI x8), .ref a19, .int (iI x9), .int r10, .ref a20, .ref a21, .int (iI x10), .int r11, .ref a22, .int (iI x11), .int (iI x12), .int (iI x13), .int (iI x14)])), (a1, .inl (T 0, 940, .inl f0))]) M w 0 8 clX12 rfl (by decide) G1471 rfl rfl rfl rfl (Nat.le_of_ble_eq_true rfl) rfl dX12_go_334 (fun H locs w => ?_)
                                        refine lv_aload_n hx hb dX12_go_337 rfl (lv_at hl 4 rfl) ?_
                                        refine lv_dup hx hb dX12_go_338 rfl ?_
                                        refine r_get (v := .int (iI z374)) M w 0 5 clX12 rfl (by decide) G1468 rfl rfl dX12_go_339 ?_
                                        refine lv_iconst (v := iI 1) hx hb dX12_go_342 (by decide +kernel) ?_
                                        refine r_iadd (v := iI (z374 + 1)) M (iI_add _ _) dX12_go_343 ?_
                                        refine r_put (ws' := [(a0, .inr (11, [.int r0, .ref a1, .int (iI x0), .int (iI x1), .int r1, .int (iI (z374 + 1)), .int (iI z1), .int (iI x3), .int (iI z508), .int r3, .int r4, .int r5, .long fy373, .int (iI x5), .ref a2, .ref a3, .ref a4, .ref a5, .ref a6, .ref a7, .ref a8, .ref a9, .ref a10, .ref a11, .int (iI x6), .ref a12, .ref a13, .ref a14, .ref a15, .int (iI x7), .int r6, .int r7, .ref a16, .int r8, .int r9, .ref a17, .ref a18, .int (iI x8), .ref a19, .int (iI x9), .int r10, .ref a20, .ref a21, .int (iI x10), .int r11, .ref a22, .int (iI x11), .int (iI x12), .int (iI x13), .int (iI x14)])), (a1, .inl (T 0, 940, .inl f0))]) M w 0 5 clX12 rfl (by decide) G1468 rfl rfl rfl rfl (Nat.le_of_ble_eq_true rfl) rfl dX12_go_344 (fun H locs w => ?_)
                                        refine lv_goto (tgt := 215) hx hb dX12_go_347 (by decide) ?_
                                        exact ih2 fy373 (z374 + 1) z508 0 _ _ _ (by omega) (by omega) z508_a z508_b (by decide) (by decide) (by omega) (by omega) w (lv_sub hl [0, 2, 3, 4] rfl)
                                    · replace c_502 : z501 < 7 := Int.not_le.mp (fun h => c_502 ((iI_le (by decide) (by decide) (Int.le_trans (by decide) z501_a) (Int.le_trans z501_b (by decide))).mpr h))
                                      refine lv_aload_n hx hb dX12_go_287 rfl (lv_at hl 4 rfl) ?_
                                      refine lv_ldc2 (v := 27) hx hb M.1.2.2.2.1 (M.1.2.2.2.2 _ G1641) dX12_go_288 ?_
                                      refine lv_aload_n hx hb dX12_go_291 rfl (lv_at hl 4 rfl) ?_
                                      refine r_get (v := .long fy373) M w 0 12 clX12 rfl (by decide) G1475 rfl rfl dX12_go_292 ?_
                                      refine r_lmul (v := _) M rfl dX12_go_295 ?_
                                      refine b_anyl (fun fy509 => ?_)
                                      refine lv_iload hx hb dX12_go_296 (lv_at hl 1 rfl) ?_
                                      refine lv_i2l (v := _) hx hb dX12_go_298 rfl ?_
                                      refine b_anyl (fun fy510 => ?_)
                                      refine r_ladd (v := _) M rfl dX12_go_299 ?_
                                      refine b_anyl (fun fy511 => ?_)
                                      refine lv_ldc2 (v := 96) hx hb M.1.2.2.2.1 (M.1.2.2.2.2 _ G1642) dX12_go_300 ?_
                                      refine r_lsub (v := _) M rfl dX12_go_303 ?_
                                      refine b_anyl (fun fy512 => ?_)
                                      refine r_put (ws' := [(a0, .inr (11, [.int r0, .ref a1, .int (iI x0), .int (iI x1), .int r1, .int (iI z374), .int (iI z1), .int (iI x3), .int (iI z375), .int r3, .int r4, .int r5, .long fy512, .int (iI x5), .ref a2, .ref a3, .ref a4, .ref a5, .ref a6, .ref a7, .ref a8, .ref a9, .ref a10, .ref a11, .int (iI x6), .ref a12, .ref a13, .ref a14, .ref a15, .int (iI x7), .int r6, .int r7, .ref a16, .int r8, .int r9, .ref a17, .ref a18, .int (iI x8), .ref a19, .int (iI x9), .int r10, .ref a20, .ref a21, .int (iI x10), .int r11, .ref a22, .int (iI x11), .int (iI x12), .int (iI x13), .int (iI x14)])), (a1, .inl (T 0, 940, .inl f0))]) M w 0 12 clX12 rfl (by decide) G1475 rfl rfl rfl rfl (Nat.le_of_ble_eq_true rfl) rfl dX12_go_304 (fun H locs w => ?_)
                                      refine lv_aload_n hx hb dX12_go_307 rfl (lv_at hl 4 rfl) ?_
                                      refine r_get (v := .int (iI z374)) M w 0 5 clX12 rfl (by decide) G1468 rfl rfl dX12_go_308 ?_
                                      refine lv_aload_n hx hb dX12_go_311 rfl (lv_at hl 4 rfl) ?_
                                      refine r_get (v := .int (iI z1)) M w 0 6 clX12 rfl (by decide) G1469 rfl rfl dX12_go_312 ?_
                                      refine b_any (fun z513 z513_a z513_b => ?_)
                                      refine r_isub (v := _) M rfl dX12_go_315 ?_
                                      refine b_any (fun z514 z514_a z514_b => ?_)
                                      refine lv_iconst (v := iI 3) hx hb dX12_go_316 (by decide +kernel) ?_
                                      refine lv_icmp_ge (tgt := 337) hx hb dX12_go_317 (by decide) (fun c_515 => ?_) (fun c_515 => ?_)
                                      · replace c_515 := (iI_le (by decide) (by decide) (Int.le_trans (by decide) z514_a) (Int.le_trans z514_b (by decide))).mp c_515
                                        refine lv_aload_n hx hb dX12_go_337 rfl (lv_at hl 4 rfl) ?_
                                        refine lv_dup hx hb dX12_go_338 rfl ?_
                                        refine r_get (v := .int (iI z374)) M w 0 5 clX12 rfl (by decide) G1468 rfl rfl dX12_go_339 ?_
                                        refine lv_iconst (v := iI 1) hx hb dX12_go_342 (by decide +kernel) ?_
                                        refine r_iadd (v := iI (z374 + 1)) M (iI_add _ _) dX12_go_343 ?_
                                        refine r_put (ws' := [(a0, .inr (11, [.int r0, .ref a1, .int (iI x0), .int (iI x1), .int r1, .int (iI (z374 + 1)), .int (iI z1), .int (iI x3), .int (iI z375), .int r3, .int r4, .int r5, .long fy512, .int (iI x5), .ref a2, .ref a3, .ref a4, .ref a5, .ref a6, .ref a7, .ref a8, .ref a9, .ref a10, .ref a11, .int (iI x6), .ref a12, .ref a13, .ref a14, .ref a15, .int (iI x7), .int r6, .int r7, .ref a16, .int r8, .int r9, .ref a17, .ref a18, .int (iI x8), .ref a19, .int (iI x9), .int r10, .ref a20, .ref a21, .int (iI x10), .int r11, .ref a22, .int (iI x11), .int (iI x12), .int (iI x13), .int (iI x14)])), (a1, .inl (T 0, 940, .inl f0))]) M w 0 5 clX12 rfl (by decide) G1468 rfl rfl rfl rfl (Nat.le_of_ble_eq_true rfl) rfl dX12_go_344 (fun H locs w => ?_)
                                        refine lv_goto (tgt := 215) hx hb dX12_go_347 (by decide) ?_
                                        exact ih2 fy512 (z374 + 1) z375 0 _ _ _ (by omega) (by omega) z375_a z375_b (by decide) (by decide) (by omega) (by omega) w (lv_sub hl [0, 2, 3, 4] rfl)
                                      · replace c_515 : z514 < 3 := Int.not_le.mp (fun h => c_515 ((iI_le (by decide) (by decide) (Int.le_trans (by decide) z514_a) (Int.le_trans z514_b (by decide))).mpr h))
                                        refine lv_aload_n hx hb dX12_go_320 rfl (lv_at hl 4 rfl) ?_
                                        refine lv_bipush (v := iI 10) hx hb dX12_go_321 (by decide +kernel) ?_
                                        refine lv_aload_n hx hb dX12_go_323 rfl (lv_at hl 4 rfl) ?_
                                        refine r_get (v := .int (iI z375)) M w 0 8 clX12 rfl (by decide) G1471 rfl rfl dX12_go_324 ?_
                                        refine r_imul (v := _) M rfl dX12_go_327 ?_
                                        refine b_any (fun z516 z516_a z516_b => ?_)
                                        refine lv_iload hx hb dX12_go_328 (lv_at hl 1 rfl) ?_
                                        refine r_iadd (v := _) M rfl dX12_go_330 ?_
                                        refine b_any (fun z517 z517_a z517_b => ?_)
                                        refine lv_bipush (v := iI 48) hx hb dX12_go_331 (by decide +kernel) ?_
                                        refine r_isub (v := _) M rfl dX12_go_333 ?_
                                        refine b_any (fun z518 z518_a z518_b => ?_)
                                        refine r_put (ws' := [(a0, .inr (11, [.int r0, .ref a1, .int (iI x0), .int (iI x1), .int r1, .int (iI z374), .int (iI z1), .int (iI x3), .int (iI z518), .int r3, .int r4, .int r5, .long fy512, .int (iI x5), .ref a2, .ref a3, .ref a4, .ref a5, .ref a6, .ref a7, .ref a8, .ref a9, .ref a10, .ref a11, .int (iI x6), .ref a12, .ref a13, .ref a14, .ref a15, .int (iI x7), .int r6, .int r7, .ref a16, .int r8, .int r9, .ref a17, .ref a18, .int (iI x8), .ref a19, .int (iI x9), .int r10, .ref a20, .ref a21, .int (iI x10), .int r11, .ref a22, .int (iI x11), .int (iI x12), .int (iI x13), .int (iI x14)])), (a1, .inl (T 0, 940, .inl f0))]) M w 0 8 clX12 rfl (by decide) G1471 rfl rfl rfl rfl (Nat.le_of_ble_eq_true rfl) rfl dX12_go_334 (fun H locs w => ?_)
                                        refine lv_aload_n hx hb dX12_go_337 rfl (lv_at hl 4 rfl) ?_
                                        refine lv_dup hx hb dX12_go_338 rfl ?_
                                        refine r_get (v := .int (iI z374)) M w 0 5 clX12 rfl (by decide) G1468 rfl rfl dX12_go_339 ?_
                                        refine lv_iconst (v := iI 1) hx hb dX12_go_342 (by decide +kernel) ?_
                                        refine r_iadd (v := iI (z374 + 1)) M (iI_add _ _) dX12_go_343 ?_
                                        refine r_put (ws' := [(a0, .inr (11, [.int r0, .ref a1, .int (iI x0), .int (iI x1), .int r1, .int (iI (z374 + 1)), .int (iI z1), .int (iI x3), .int (iI z518), .int r3, .int r4, .int r5, .long fy512, .int (iI x5), .ref a2, .ref a3, .ref a4, .ref a5, .ref a6, .ref a7, .ref a8, .ref a9, .ref a10, .ref a11, .int (iI x6), .ref a12, .ref a13, .ref a14, .ref a15, .int (iI x7), .int r6, .int r7, .ref a16, .int r8, .int r9, .ref a17, .ref a18, .int (iI x8), .ref a19, .int (iI x9), .int r10, .ref a20, .ref a21, .int (iI x10), .int r11, .ref a22, .int (iI x11), .int (iI x12), .int (iI x13), .int (iI x14)])), (a1, .inl (T 0, 940, .inl f0))]) M w 0 5 clX12 rfl (by decide) G1468 rfl rfl rfl rfl (Nat.le_of_ble_eq_true rfl) rfl dX12_go_344 (fun H locs w => ?_)
                                        refine lv_goto (tgt := 215) hx hb dX12_go_347 (by decide) ?_
                                        exact ih2 fy512 (z374 + 1) z518 0 _ _ _ (by omega) (by omega) z518_a z518_b (by decide) (by decide) (by omega) (by omega) w (lv_sub hl [0, 2, 3, 4] rfl)
                                  · replace c_499 := (iI_eq (Int.le_trans (by decide) z497_a) (Int.le_trans z497_b (by decide)) (Int.le_trans (by decide) z371_a) (Int.le_trans z371_b (by decide))).mp c_499
                                    refine lv_iconst (v := iI 1) hx hb dX12_go_267 (by decide +kernel) ?_
                                    refine lv_goto (tgt := 272) hx hb dX12_go_268 (by decide) ?_
                                    refine lv_istore_n (lv' := [(3, .int (iI 1)), (4, .int (iI z476)), (2, .int (iI z371)), (1, .int (iI z367)), (0, .ref a0)]) hx hb dX12_go_272 rfl hl (by decide) rfl (fun ls hl => ?_)
                                    refine lv_aload_n hx hb dX12_go_273 rfl (lv_at hl 4 rfl) ?_
                                    refine r_get (v := .int (iI z374)) M w 0 5 clX12 rfl (by decide) G1468 rfl rfl dX12_go_274 ?_
                                    refine lv_aload_n hx hb dX12_go_277 rfl (lv_at hl 4 rfl) ?_
                                    refine r_get (v := .int (iI z1)) M w 0 6 clX12 rfl (by decide) G1469 rfl rfl dX12_go_278 ?_
                                    refine b_any (fun z519 z519_a z519_b => ?_)
                                    refine r_isub (v := _) M rfl dX12_go_281 ?_
                                    refine b_any (fun z520 z520_a z520_b => ?_)
                                    refine lv_bipush (v := iI 7) hx hb dX12_go_282 (by decide +kernel) ?_
                                    refine lv_icmp_ge (tgt := 307) hx hb dX12_go_284 (by decide) (fun c_521 => ?_) (fun c_521 => ?_)
                                    · replace c_521 := (iI_le (by decide) (by decide) (Int.le_trans (by decide) z520_a) (Int.le_trans z520_b (by decide))).mp c_521
                                      refine lv_aload_n hx hb dX12_go_307 rfl (lv_at hl 4 rfl) ?_
                                      refine r_get (v := .int (iI z374)) M w 0 5 clX12 rfl (by decide) G1468 rfl rfl dX12_go_308 ?_
                                      refine lv_aload_n hx hb dX12_go_311 rfl (lv_at hl 4 rfl) ?_
                                      refine r_get (v := .int (iI z1)) M w 0 6 clX12 rfl (by decide) G1469 rfl rfl dX12_go_312 ?_
                                      refine b_any (fun z522 z522_a z522_b => ?_)
                                      refine r_isub (v := _) M rfl dX12_go_315 ?_
                                      refine b_any (fun z523 z523_a z523_b => ?_)
                                      refine lv_iconst (v := iI 3) hx hb dX12_go_316 (by decide +kernel) ?_
                                      refine lv_icmp_ge (tgt := 337) hx hb dX12_go_317 (by decide) (fun c_524 => ?_) (fun c_524 => ?_)
                                      · replace c_524 := (iI_le (by decide) (by decide) (Int.le_trans (by decide) z523_a) (Int.le_trans z523_b (by decide))).mp c_524
                                        refine lv_aload_n hx hb dX12_go_337 rfl (lv_at hl 4 rfl) ?_
                                        refine lv_dup hx hb dX12_go_338 rfl ?_
                                        refine r_get (v := .int (iI z374)) M w 0 5 clX12 rfl (by decide) G1468 rfl rfl dX12_go_339 ?_
                                        refine lv_iconst (v := iI 1) hx hb dX12_go_342 (by decide +kernel) ?_
                                        refine r_iadd (v := iI (z374 + 1)) M (iI_add _ _) dX12_go_343 ?_
                                        refine r_put (ws' := [(a0, .inr (11, [.int r0, .ref a1, .int (iI x0), .int (iI x1), .int r1, .int (iI (z374 + 1)), .int (iI z1), .int (iI x3), .int (iI z375), .int r3, .int r4, .int r5, .long fy373, .int (iI x5), .ref a2, .ref a3, .ref a4, .ref a5, .ref a6, .ref a7, .ref a8, .ref a9, .ref a10, .ref a11, .int (iI x6), .ref a12, .ref a13, .ref a14, .ref a15, .int (iI x7), .int r6, .int r7, .ref a16, .int r8, .int r9, .ref a17, .ref a18, .int (iI x8), .ref a19, .int (iI x9), .int r10, .ref a20, .ref a21, .int (iI x10), .int r11, .ref a22, .int (iI x11), .int (iI x12), .int (iI x13), .int (iI x14)])), (a1, .inl (T 0, 940, .inl f0))]) M w 0 5 clX12 rfl (by decide) G1468 rfl rfl rfl rfl (Nat.le_of_ble_eq_true rfl) rfl dX12_go_344 (fun H locs w => ?_)
                                        refine lv_goto (tgt := 215) hx hb dX12_go_347 (by decide) ?_
                                        exact ih2 fy373 (z374 + 1) z375 1 _ _ _ (by omega) (by omega) z375_a z375_b (by decide) (by decide) (by omega) (by omega) w (lv_sub hl [0, 2, 3, 4] rfl)
                                      · replace c_524 : z523 < 3 := Int.not_le.mp (fun h => c_524 ((iI_le (by decide) (by decide) (Int.le_trans (by decide) z523_a) (Int.le_trans z523_b (by decide))).mpr h))
                                        refine lv_aload_n hx hb dX12_go_320 rfl (lv_at hl 4 rfl) ?_
                                        refine lv_bipush (v := iI 10) hx hb dX12_go_321 (by decide +kernel) ?_
                                        refine lv_aload_n hx hb dX12_go_323 rfl (lv_at hl 4 rfl) ?_
                                        refine r_get (v := .int (iI z375)) M w 0 8 clX12 rfl (by decide) G1471 rfl rfl dX12_go_324 ?_
                                        refine r_imul (v := _) M rfl dX12_go_327 ?_
                                        refine b_any (fun z525 z525_a z525_b => ?_)
                                        refine lv_iload hx hb dX12_go_328 (lv_at hl 1 rfl) ?_
                                        refine r_iadd (v := _) M rfl dX12_go_330 ?_
                                        refine b_any (fun z526 z526_a z526_b => ?_)
                                        refine lv_bipush (v := iI 48) hx hb dX12_go_331 (by decide +kernel) ?_
                                        refine r_isub (v := _) M rfl dX12_go_333 ?_
                                        refine b_any (fun z527 z527_a z527_b => ?_)
                                        refine r_put (ws' := [(a0, .inr (11, [.int r0, .ref a1, .int (iI x0), .int (iI x1), .int r1, .int (iI z374), .int (iI z1), .int (iI x3), .int (iI z527), .int r3, .int r4, .int r5, .long fy373, .int (iI x5), .ref a2, .ref a3, .ref a4, .ref a5, .ref a6, .ref a7, .ref a8, .ref a9, .ref a10, .ref a11, .int (iI x6), .ref a12, .ref a13, .ref a14, .ref a15, .int (iI x7), .int r6, .int r7, .ref a16, .int r8, .int r9, .ref a17, .ref a18, .int (iI x8), .ref a19, .int (iI x9), .int r10, .ref a20, .ref a21, .int (iI x10), .int r11, .ref a22, .int (iI x11), .int (iI x12), .int (iI x13), .int (iI x14)])), (a1, .inl (T 0, 940, .inl f0))]) M w 0 8 clX12 rfl (by decide) G1471 rfl rfl rfl rfl (Nat.le_of_ble_eq_true rfl) rfl dX12_go_334 (fun H locs w => ?_)
                                        refine lv_aload_n hx hb dX12_go_337 rfl (lv_at hl 4 rfl) ?_
                                        refine lv_dup hx hb dX12_go_338 rfl ?_
                                        refine r_get (v := .int (iI z374)) M w 0 5 clX12 rfl (by decide) G1468 rfl rfl dX12_go_339 ?_
                                        refine lv_iconst (v := iI 1) hx hb dX12_go_342 (by decide +kernel) ?_
                                        refine r_iadd (v := iI (z374 + 1)) M (iI_add _ _) dX12_go_343 ?_
                                        refine r_put (ws' := [(a0, .inr (11, [.int r0, .ref a1, .int (iI x0), .int (iI x1), .int r1, .int (iI (z374 + 1)), .int (iI z1), .int (iI x3), .int (iI z527), .int r3, .int r4, .int r5, .long fy373, .int (iI x5), .ref a2, .ref a3, .ref a4, .ref a5, .ref a6, .ref a7, .ref a8, .ref a9, .ref a10, .ref a11, .int (iI x6), .ref a12, .ref a13, .ref a14, .ref a15, .int (iI x7), .int r6, .int r7, .ref a16, .int r8, .int r9, .ref a17, .ref a18, .int (iI x8), .ref a19, .int (iI x9), .int r10, .ref a20, .ref a21, .int (iI x10), .int r11, .ref a22, .int (iI x11), .int (iI x12), .int (iI x13), .int (iI x14)])), (a1, .inl (T 0, 940, .inl f0))]) M w 0 5 clX12 rfl (by decide) G1468 rfl rfl rfl rfl (Nat.le_of_ble_eq_true rfl) rfl dX12_go_344 (fun H locs w => ?_)
                                        refine lv_goto (tgt := 215) hx hb dX12_go_347 (by decide) ?_
                                        exact ih2 fy373 (z374 + 1) z527 1 _ _ _ (by omega) (by omega) z527_a z527_b (by decide) (by decide) (by omega) (by omega) w (lv_sub hl [0, 2, 3, 4] rfl)
                                    · replace c_521 : z520 < 7 := Int.not_le.mp (fun h => c_521 ((iI_le (by decide) (by decide) (Int.le_trans (by decide) z520_a) (Int.le_trans z520_b (by decide))).mpr h))
                                      refine lv_aload_n hx hb dX12_go_287 rfl (lv_at hl 4 rfl) ?_
                                      refine lv_ldc2 (v := 27) hx hb M.1.2.2.2.1 (M.1.2.2.2.2 _ G1641) dX12_go_288 ?_
                                      refine lv_aload_n hx hb dX12_go_291 rfl (lv_at hl 4 rfl) ?_
                                      refine r_get (v := .long fy373) M w 0 12 clX12 rfl (by decide) G1475 rfl rfl dX12_go_292 ?_
                                      refine r_lmul (v := _) M rfl dX12_go_295 ?_
                                      refine b_anyl (fun fy528 => ?_)
                                      refine lv_iload hx hb dX12_go_296 (lv_at hl 1 rfl) ?_
                                      refine lv_i2l (v := _) hx hb dX12_go_298 rfl ?_
                                      refine b_anyl (fun fy529 => ?_)
                                      refine r_ladd (v := _) M rfl dX12_go_299 ?_
                                      refine b_anyl (fun fy530 => ?_)
                                      refine lv_ldc2 (v := 96) hx hb M.1.2.2.2.1 (M.1.2.2.2.2 _ G1642) dX12_go_300 ?_
                                      refine r_lsub (v := _) M rfl dX12_go_303 ?_
                                      refine b_anyl (fun fy531 => ?_)
                                      refine r_put (ws' := [(a0, .inr (11, [.int r0, .ref a1, .int (iI x0), .int (iI x1), .int r1, .int (iI z374), .int (iI z1), .int (iI x3), .int (iI z375), .int r3, .int r4, .int r5, .long fy531, .int (iI x5), .ref a2, .ref a3, .ref a4, .ref a5, .ref a6, .ref a7, .ref a8, .ref a9, .ref a10, .ref a11, .int (iI x6), .ref a12, .ref a13, .ref a14, .ref a15, .int (iI x7), .int r6, .int r7, .ref a16, .int r8, .int r9, .ref a17, .ref a18, .int (iI x8), .ref a19, .int (iI x9), .int r10, .ref a20, .ref a21, .int (iI x10), .int r11, .ref a22, .int (iI x11), .int (iI x12), .int (iI x13), .int (iI x14)])), (a1, .inl (T 0, 940, .inl f0))]) M w 0 12 clX12 rfl (by decide) G1475 rfl rfl rfl rfl (Nat.le_of_ble_eq_true rfl) rfl dX12_go_304 (fun H locs w => ?_)
                                      refine lv_aload_n hx hb dX12_go_307 rfl (lv_at hl 4 rfl) ?_
                                      refine r_get (v := .int (iI z374)) M w 0 5 clX12 rfl (by decide) G1468 rfl rfl dX12_go_308 ?_
                                      refine lv_aload_n hx hb dX12_go_311 rfl (lv_at hl 4 rfl) ?_
                                      refine r_get (v := .int (iI z1)) M w 0 6 clX12 rfl (by decide) G1469 rfl rfl dX12_go_312 ?_
                                      refine b_any (fun z532 z532_a z532_b => ?_)
                                      refine r_isub (v := _) M rfl dX12_go_315 ?_
                                      refine b_any (fun z533 z533_a z533_b => ?_)
                                      refine lv_iconst (v := iI 3) hx hb dX12_go_316 (by decide +kernel) ?_
                                      refine lv_icmp_ge (tgt := 337) hx hb dX12_go_317 (by decide) (fun c_534 => ?_) (fun c_534 => ?_)
                                      · replace c_534 := (iI_le (by decide) (by decide) (Int.le_trans (by decide) z533_a) (Int.le_trans z533_b (by decide))).mp c_534
                                        refine lv_aload_n hx hb dX12_go_337 rfl (lv_at hl 4 rfl) ?_
                                        refine lv_dup hx hb dX12_go_338 rfl ?_
                                        refine r_get (v := .int (iI z374)) M w 0 5 clX12 rfl (by decide) G1468 rfl rfl dX12_go_339 ?_
                                        refine lv_iconst (v := iI 1) hx hb dX12_go_342 (by decide +kernel) ?_
                                        refine r_iadd (v := iI (z374 + 1)) M (iI_add _ _) dX12_go_343 ?_
                                        refine r_put (ws' := [(a0, .inr (11, [.int r0, .ref a1, .int (iI x0), .int (iI x1), .int r1, .int (iI (z374 + 1)), .int (iI z1), .int (iI x3), .int (iI z375), .int r3, .int r4, .int r5, .long fy531, .int (iI x5), .ref a2, .ref a3, .ref a4, .ref a5, .ref a6, .ref a7, .ref a8, .ref a9, .ref a10, .ref a11, .int (iI x6), .ref a12, .ref a13, .ref a14, .ref a15, .int (iI x7), .int r6, .int r7, .ref a16, .int r8, .int r9, .ref a17, .ref a18, .int (iI x8), .ref a19, .int (iI x9), .int r10, .ref a20, .ref a21, .int (iI x10), .int r11, .ref a22, .int (iI x11), .int (iI x12), .int (iI x13), .int (iI x14)])), (a1, .inl (T 0, 940, .inl f0))]) M w 0 5 clX12 rfl (by decide) G1468 rfl rfl rfl rfl (Nat.le_of_ble_eq_true rfl) rfl dX12_go_344 (fun H locs w => ?_)
                                        refine lv_goto (tgt := 215) hx hb dX12_go_347 (by decide) ?_
                                        exact ih2 fy531 (z374 + 1) z375 1 _ _ _ (by omega) (by omega) z375_a z375_b (by decide) (by decide) (by omega) (by omega) w (lv_sub hl [0, 2, 3, 4] rfl)
                                      · replace c_534 : z533 < 3 := Int.not_le.mp (fun h => c_534 ((iI_le (by decide) (by decide) (Int.le_trans (by decide) z533_a) (Int.le_trans z533_b (by decide))).mpr h))
                                        refine lv_aload_n hx hb dX12_go_320 rfl (lv_at hl 4 rfl) ?_
                                        refine lv_bipush (v := iI 10) hx hb dX12_go_321 (by decide +kernel) ?_
                                        refine lv_aload_n hx hb dX12_go_323 rfl (lv_at hl 4 rfl) ?_
                                        refine r_get (v := .int (iI z375)) M w 0 8 clX12 rfl (by decide) G1471 rfl rfl dX12_go_324 ?_
                                        refine r_imul (v := _) M rfl dX12_go_327 ?_
                                        refine b_any (fun z535 z535_a z535_b => ?_)
                                        refine lv_iload hx hb dX12_go_328 (lv_at hl 1 rfl) ?_
                                        refine r_iadd (v := _) M rfl dX12_go_330 ?_
                                        refine b_any (fun z536 z536_a z536_b => ?_)
                                        refine lv_bipush (v := iI 48) hx hb dX12_go_331 (by decide +kernel) ?_
                                        refine r_isub (v := _) M rfl dX12_go_333 ?_
                                        refine b_any (fun z537 z537_a z537_b => ?_)
                                        refine r_put (ws' := [(a0, .inr (11, [.int r0, .ref a1, .int (iI x0), .int (iI x1), .int r1, .int (iI z374), .int (iI z1), .int (iI x3), .int (iI z537), .int r3, .int r4, .int r5, .long fy531, .int (iI x5), .ref a2, .ref a3, .ref a4, .ref a5, .ref a6, .ref a7, .ref a8, .ref a9, .ref a10, .ref a11, .int (iI x6), .ref a12, .ref a13, .ref a14, .ref a15, .int (iI x7), .int r6, .int r7, .ref a16, .int r8, .int r9, .ref a17, .ref a18, .int (iI x8), .ref a19, .int (iI x9), .int r10, .ref a20, .ref a21, .int (iI x10), .int r11, .ref a22, .int (iI x11), .int (iI x12), .int (iI x13), .int (iI x14)])), (a1, .inl (T 0, 940, .inl f0))]) M w 0 8 clX12 rfl (by decide) G1471 rfl rfl rfl rfl (Nat.le_of_ble_eq_true rfl) rfl dX12_go_334 (fun H locs w => ?_)
                                        refine lv_aload_n hx hb dX12_go_337 rfl (lv_at hl 4 rfl) ?_
                                        refine lv_dup hx hb dX12_go_338 rfl ?_
                                        refine r_get (v := .int (iI z374)) M w 0 5 clX12 rfl (by decide) G1468 rfl rfl dX12_go_339 ?_
                                        refine lv_iconst (v := iI 1) hx hb dX12_go_342 (by decide +kernel) ?_
                                        refine r_iadd (v := iI (z374 + 1)) M (iI_add _ _) dX12_go_343 ?_
                                        refine r_put (ws' := [(a0, .inr (11, [.int r0, .ref a1, .int (iI x0), .int (iI x1), .int r1, .int (iI (z374 + 1)), .int (iI z1), .int (iI x3), .int (iI z537), .int r3, .int r4, .int r5, .long fy531, .int (iI x5), .ref a2, .ref a3, .ref a4, .ref a5, .ref a6, .ref a7, .ref a8, .ref a9, .ref a10, .ref a11, .int (iI x6), .ref a12, .ref a13, .ref a14, .ref a15, .int (iI x7), .int r6, .int r7, .ref a16, .int r8, .int r9, .ref a17, .ref a18, .int (iI x8), .ref a19, .int (iI x9), .int r10, .ref a20, .ref a21, .int (iI x10), .int r11, .ref a22, .int (iI x11), .int (iI x12), .int (iI x13), .int (iI x14)])), (a1, .inl (T 0, 940, .inl f0))]) M w 0 5 clX12 rfl (by decide) G1468 rfl rfl rfl rfl (Nat.le_of_ble_eq_true rfl) rfl dX12_go_344 (fun H locs w => ?_)
                                        refine lv_goto (tgt := 215) hx hb dX12_go_347 (by decide) ?_
                                        exact ih2 fy531 (z374 + 1) z537 1 _ _ _ (by omega) (by omega) z537_a z537_b (by decide) (by decide) (by omega) (by omega) w (lv_sub hl [0, 2, 3, 4] rfl)
                    exact loop2 (((x1 - z1) : Int).toNat + 1) 0 z1 0 1 _ _ _ z1_a z1_b (by decide) (by decide) (by decide) (by decide) (by omega) (Nat.lt_succ_self _) w (lv_sub hl [0, 1, 2, 3] rfl)
                  · replace c_370 := (iz_eq (Int.le_trans (by decide) z368_a) (Int.le_trans z368_b (by decide))).mp c_370
                    refine lv_iload_n hx hb dX12_go_130 rfl (lv_at hl 0 rfl) ?_
                    refine k_I (ce := 0) (sl := 0) (rest := []) (wr := [(a0, .inr (11, [.int r0, .ref a1, .int (iI x0), .int (iI x1), .int r1, .int (iI z1), .int (iI z1), .int (iI x3), .int (iI x4), .int r3, .int r4, .int r5, .long y0, .int (iI x5), .ref a2, .ref a3, .ref a4, .ref a5, .ref a6, .ref a7, .ref a8, .ref a9, .ref a10, .ref a11, .int (iI x6), .ref a12, .ref a13, .ref a14, .ref a15, .int (iI x7), .int r6, .int r7, .ref a16, .int r8, .int r9, .ref a17, .ref a18, .int (iI x8), .ref a19, .int (iI x9), .int r10, .ref a20, .ref a21, .int (iI x10), .int r11, .ref a22, .int (iI x11), .int (iI x12), .int (iI x13), .int (iI x14)])), (a1, .inl (T 0, 940, .inl f0))]) (r_S (f := 0) [] M w V_HookedCityModel_37 G1635 (c10_X12_isDigit l D T _ z367 z367_a z367_b) rfl (by decide) rfl hl.1 rfl (Nat.le_of_ble_eq_true rfl) dX12_go_131 (by decide) (by decide) (by decide) (by decide)) w [] [0, 1] rfl rfl (by decide) (by decide) rfl rfl (fun v z538 H locs hp w => ?_)
                    have hv : iI z538 = v := hp.1
                    subst hv
                    have z538_a : 0 ≤ z538 := hp.2.1
                    have z538_b : z538 ≤ 1 := hp.2.2.1
                    have ee539 : 0 ≤ ((z367 + 4294967296) - (z538 * 4294967344)) := hp.2.2.2
                    have w : WD D A s.heap [(a0, .inr (11, [.int r0, .ref a1, .int (iI x0), .int (iI x1), .int r1, .int (iI z1), .int (iI z1), .int (iI x3), .int (iI x4), .int r3, .int r4, .int r5, .long y0, .int (iI x5), .ref a2, .ref a3, .ref a4, .ref a5, .ref a6, .ref a7, .ref a8, .ref a9, .ref a10, .ref a11, .int (iI x6), .ref a12, .ref a13, .ref a14, .ref a15, .int (iI x7), .int r6, .int r7, .ref a16, .int r8, .int r9, .ref a17, .ref a18, .int (iI x8), .ref a19, .int (iI x9), .int r10, .ref a20, .ref a21, .int (iI x10), .int r11, .ref a22, .int (iI x11), .int (iI x12), .int (iI x13), .int (iI x14)])), (a1, .inl (T 0, 940, .inl f0))] H locs := w
                    refine lv_if_ne (tgt := 198) hx hb dX12_go_134 (by decide) (fun c_540 => ?_) (fun c_540 => ?_)
                    · replace c_540 : ¬ z538 = 0 := fun h => c_540 ((iz_eq (Int.le_trans (by decide) z538_a) (Int.le_trans z538_b (by decide))).mpr h)
                      refine lv_iload_n hx hb dX12_go_198 rfl (lv_at hl 0 rfl) ?_
                      refine k_I (ce := 0) (sl := 0) (rest := []) (wr := [(a0, .inr (11, [.int r0, .ref a1, .int (iI x0), .int (iI x1), .int r1, .int (iI z1), .int (iI z1), .int (iI x3), .int (iI x4), .int r3, .int r4, .int r5, .long y0, .int (iI x5), .ref a2, .ref a3, .ref a4, .ref a5, .ref a6, .ref a7, .ref a8, .ref a9, .ref a10, .ref a11, .int (iI x6), .ref a12, .ref a13, .ref a14, .ref a15, .int (iI x7), .int r6, .int r7, .ref a16, .int r8, .int r9, .ref a17, .ref a18, .int (iI x8), .ref a19, .int (iI x9), .int r10, .ref a20, .ref a21, .int (iI x10), .int r11, .ref a22, .int (iI x11), .int (iI x12), .int (iI x13), .int (iI x14)])), (a1, .inl (T 0, 940, .inl f0))]) (r_S (f := 0) [] M w V_HookedCityModel_33 G1632 (c11_X12_isLetter l D T _ z367 z367_a z367_b) rfl (by decide) rfl hl.1 rfl (Nat.le_of_ble_eq_true rfl) dX12_go_199 (by decide) (by decide) (by decide) (by decide)) w [] [0, 1] rfl rfl (by decide) (by decide) rfl rfl (fun v z541 H locs hp w => ?_)
                      have hv : iI z541 = v := hp.1
                      subst hv
                      have z541_a : 0 ≤ z541 := hp.2.1
                      have z541_b : z541 ≤ 1 := hp.2.2.1
                      have ee542 : 0 ≤ ((z367 + 4294967296) - (z541 * 4294967393)) := hp.2.2.2
                      have w : WD D A s.heap [(a0, .inr (11, [.int r0, .ref a1, .int (iI x0), .int (iI x1), .int r1, .int (iI z1), .int (iI z1), .int (iI x3), .int (iI x4), .int r3, .int r4, .int r5, .long y0, .int (iI x5), .ref a2, .ref a3, .ref a4, .ref a5, .ref a6, .ref a7, .ref a8, .ref a9, .ref a10, .ref a11, .int (iI x6), .ref a12, .ref a13, .ref a14, .ref a15, .int (iI x7), .int r6, .int r7, .ref a16, .int r8, .int r9, .ref a17, .ref a18, .int (iI x8), .ref a19, .int (iI x9), .int r10, .ref a20, .ref a21, .int (iI x10), .int r11, .ref a22, .int (iI x11), .int (iI x12), .int (iI x13), .int (iI x14)])), (a1, .inl (T 0, 940, .inl f0))] H locs := w
                      refine lv_istore_n (lv' := [(2, .int (iI z541)), (1, .int (iI z367)), (0, .ref a0)]) hx hb dX12_go_202 rfl hl (by decide) rfl (fun ls hl => ?_)
                      refine lv_iconst (v := iI 1) hx hb dX12_go_203 (by decide +kernel) ?_
                      refine lv_istore_n (lv' := [(3, .int (iI 1)), (2, .int (iI z541)), (1, .int (iI z367)), (0, .ref a0)]) hx hb dX12_go_204 rfl hl (by decide) rfl (fun ls hl => ?_)
                      refine lv_aload_n hx hb dX12_go_205 rfl (lv_at hl 3 rfl) ?_
                      refine lv_lconst (v := 0) hx hb dX12_go_206 (by decide) ?_
                      refine r_put (ws' := [(a0, .inr (11, [.int r0, .ref a1, .int (iI x0), .int (iI x1), .int r1, .int (iI z1), .int (iI z1), .int (iI x3), .int (iI x4), .int r3, .int r4, .int r5, .long 0, .int (iI x5), .ref a2, .ref a3, .ref a4, .ref a5, .ref a6, .ref a7, .ref a8, .ref a9, .ref a10, .ref a11, .int (iI x6), .ref a12, .ref a13, .ref a14, .ref a15, .int (iI x7), .int r6, .int r7, .ref a16, .int r8, .int r9, .ref a17, .ref a18, .int (iI x8), .ref a19, .int (iI x9), .int r10, .ref a20, .ref a21, .int (iI x10), .int r11, .ref a22, .int (iI x11), .int (iI x12), .int (iI x13), .int (iI x14)])), (a1, .inl (T 0, 940, .inl f0))]) M w 0 12 clX12 rfl (by decide) G1475 rfl rfl rfl rfl (Nat.le_of_ble_eq_true rfl) rfl dX12_go_207 (fun H locs w => ?_)
                      refine lv_aload_n hx hb dX12_go_210 rfl (lv_at hl 3 rfl) ?_
                      refine lv_iconst (v := iI 0) hx hb dX12_go_211 (by decide +kernel) ?_
                      refine r_put (ws' := [(a0, .inr (11, [.int r0, .ref a1, .int (iI x0), .int (iI x1), .int r1, .int (iI z1), .int (iI z1), .int (iI x3), .int (iI 0), .int r3, .int r4, .int r5, .long 0, .int (iI x5), .ref a2, .ref a3, .ref a4, .ref a5, .ref a6, .ref a7, .ref a8, .ref a9, .ref a10, .ref a11, .int (iI x6), .ref a12, .ref a13, .ref a14, .ref a15, .int (iI x7), .int r6, .int r7, .ref a16, .int r8, .int r9, .ref a17, .ref a18, .int (iI x8), .ref a19, .int (iI x9), .int r10, .ref a20, .ref a21, .int (iI x10), .int r11, .ref a22, .int (iI x11), .int (iI x12), .int (iI x13), .int (iI x14)])), (a1, .inl (T 0, 940, .inl f0))]) M w 0 8 clX12 rfl (by decide) G1471 rfl rfl rfl rfl (Nat.le_of_ble_eq_true rfl) rfl dX12_go_212 (fun H locs w => ?_)
                      have loop2 : ∀ (k2 : Nat) (fy543 : Int64) (z544 : Int) (z545 : Int) (z546 : Int) (H : Heap) (locs : List Loc) (ls : Array Slot), 0 ≤ z544 → z544 ≤ 940 → (-2147483648) ≤ z545 → z545 ≤ 2147483647 → (-2147483648) ≤ z546 → z546 ≤ 2147483647 → 0 ≤ (z544 - x2) → ((x1 - z544) : Int).toNat < k2 → WD D A s.heap [(a0, .inr (11, [.int r0, .ref a1, .int (iI x0), .int (iI x1), .int r1, .int (iI z544), .int (iI z1), .int (iI x3), .int (iI z545), .int r3, .int r4, .int r5, .long fy543, .int (iI x5), .ref a2, .ref a3, .ref a4, .ref a5, .ref a6, .ref a7, .ref a8, .ref a9, .ref a10, .ref a11, .int (iI x6), .ref a12, .ref a13, .ref a14, .ref a15, .int (iI x7), .int r6, .int r7, .ref a16, .int r8, .int r9, .ref a17, .ref a18, .int (iI x8), .ref a19, .int (iI x9), .int r10, .ref a20, .ref a21, .int (iI x10), .int r11, .ref a22, .int (iI x11), .int (iI x12), .int (iI x13), .int (iI x14)])), (a1, .inl (T 0, 940, .inl f0))] H locs → lv_has ls 5 [(3, .int (iI z546)), (2, .int (iI z541)), (1, .int (iI z367)), (0, .ref a0)] → W p l e (Rm 1 0 0) s m args below meth c H locs 0 0 Q (F0 m 215 ls []) := by
                        intro k2
                        induction k2 with
                        | zero => intro fy543 z544 z545 z546 H locs ls z544_a z544_b z545_a z545_b z546_a z546_b q2_0 hm; exact absurd hm (Nat.not_lt_zero _)
                        | succ k2 ih2 =>
                          intro fy543 z544 z545 z546 H locs ls z544_a z544_b z545_a z545_b z546_a z546_b q2_0 hm2 w hl
                          refine lv_aload_n hx hb dX12_go_215 rfl (lv_at hl 3 rfl) ?_
                          refine lv_aload_n hx hb dX12_go_216 rfl (lv_at hl 3 rfl) ?_
                          refine r_get (v := .int (iI z544)) M w 0 5 clX12 rfl (by decide) G1468 rfl rfl dX12_go_217 ?_
                          refine k_I (ce := 0) (sl := 0) (rest := []) (wr := []) (r_V (f := 0) [0, 1] M w V_HookedCityModel_50 G1639 G50 (c9_X12_tapeAt l D T _ a0 z544 r0 a1 x0 x1 r1 z544 (iI z1) x3 z545 r3 r4 r5 fy543 x5 a2 a3 a4 a5 a6 a7 a8 a9 a10 a11 x6 a12 a13 a14 a15 x7 r6 r7 a16 r8 r9 a17 a18 x8 a19 x9 r10 a20 a21 x10 r11 a22 x11 x12 x13 x14 f0 z544_a z544_b x0_a x0_b x1_a x1_b z544_a z544_b x3_a x3_b z545_a z545_b x5_a x5_b x6_a x6_b x7_a x7_b x8_a x8_b x9_a x9_b x10_a x10_b x11_a x11_b x12_a x12_b x13_a x13_b x14_a x14_b) 0 clX12 rfl rfl (by decide) rfl hl.1 rfl (Nat.le_of_ble_eq_true rfl) dX12_go_220 (by decide) (by decide) (by decide) (by decide)) w [0, 1] [] rfl rfl (by decide) (by decide) rfl rfl (fun v z547 H locs hp w => ?_)
                          have hv : iI z547 = v := hp.1
                          subst hv
                          have z547_a : (-2147483648) ≤ z547 := hp.2.1
                          have z547_b : z547 ≤ 2147483647 := hp.2.2.1
                          have w : WD D A s.heap [(a0, .inr (11, [.int r0, .ref a1, .int (iI x0), .int (iI x1), .int r1, .int (iI z544), .int (iI z1), .int (iI x3), .int (iI z545), .int r3, .int r4, .int r5, .long fy543, .int (iI x5), .ref a2, .ref a3, .ref a4, .ref a5, .ref a6, .ref a7, .ref a8, .ref a9, .ref a10, .ref a11, .int (iI x6), .ref a12, .ref a13, .ref a14, .ref a15, .int (iI x7), .int r6, .int r7, .ref a16, .int r8, .int r9, .ref a17, .ref a18, .int (iI x8), .ref a19, .int (iI x9), .int r10, .ref a20, .ref a21, .int (iI x10), .int r11, .ref a22, .int (iI x11), .int (iI x12), .int (iI x13), .int (iI x14)])), (a1, .inl (T 0, 940, .inl f0))] H locs := w
                          rcases hp.2.2.2 with ⟨c_548, hr⟩ | c_549
                          · subst hr
                            refine k_I (ce := 0) (sl := 0) (rest := []) (wr := [(a0, .inr (11, [.int r0, .ref a1, .int (iI x0), .int (iI x1), .int r1, .int (iI z544), .int (iI z1), .int (iI x3), .int (iI z545), .int r3, .int r4, .int r5, .long fy543, .int (iI x5), .ref a2, .ref a3, .ref a4, .ref a5, .ref a6, .ref a7, .ref a8, .ref a9, .ref a10, .ref a11, .int (iI x6), .ref a12, .ref a13, .ref a14, .ref a15, .int (iI x7), .int r6, .int r7, .ref a16, .int r8, .int r9, .ref a17, .ref a18, .int (iI x8), .ref a19, .int (iI x9), .int r10, .ref a20, .ref a21, .int (iI x10), .int r11, .ref a22, .int (iI x11), .int (iI x12), .int (iI x13), .int (iI x14)])), (a1, .inl (T 0, 940, .inl f0))]) (r_S (f := 0) [] M w V_HookedCityModel_33 G1632 (c11_X12_isLetter l D T _ 0 (by decide) (by decide)) rfl (by decide) rfl hl.1 rfl (Nat.le_of_ble_eq_true rfl) dX12_go_223 (by decide) (by decide) (by decide) (by decide)) w [] [0, 1] rfl rfl (by decide) (by decide) rfl rfl (fun v z550 H locs hp w => ?_)
                            have hv : iI z550 = v := hp.1
                            subst hv
                            have z550_a : 0 ≤ z550 := hp.2.1
                            have z550_b : z550 ≤ 1 := hp.2.2.1
                            have ee551 : 0 ≤ ((0 + 4294967296) - (z550 * 4294967393)) := hp.2.2.2
                            have w : WD D A s.heap [(a0, .inr (11, [.int r0, .ref a1, .int (iI x0), .int (iI x1), .int r1, .int (iI z544), .int (iI z1), .int (iI x3), .int (iI z545), .int r3, .int r4, .int r5, .long fy543, .int (iI x5), .ref a2, .ref a3, .ref a4, .ref a5, .ref a6, .ref a7, .ref a8, .ref a9, .ref a10, .ref a11, .int (iI x6), .ref a12, .ref a13, .ref a14, .ref a15, .int (iI x7), .int r6, .int r7, .ref a16, .int r8, .int r9, .ref a17, .ref a18, .int (iI x8), .ref a19, .int (iI x9), .int r10, .ref a20, .ref a21, .int (iI x10), .int r11, .ref a22, .int (iI x11), .int (iI x12), .int (iI x13), .int (iI x14)])), (a1, .inl (T 0, 940, .inl f0))] H locs := w
                            refine lv_if_ne (tgt := 243) hx hb dX12_go_226 (by decide) (fun c_552 => ?_) (fun c_552 => ?_)
                            · replace c_552 : ¬ z550 = 0 := fun h => c_552 ((iz_eq (Int.le_trans (by decide) z550_a) (Int.le_trans z550_b (by decide))).mpr h)
                              exfalso; omega
                            · replace c_552 := (iz_eq (Int.le_trans (by decide) z550_a) (Int.le_trans z550_b (by decide))).mp c_552
                              refine lv_aload_n hx hb dX12_go_229 rfl (lv_at hl 3 rfl) ?_
                              refine lv_aload_n hx hb dX12_go_230 rfl (lv_at hl 3 rfl) ?_
                              refine r_get (v := .int (iI z544)) M w 0 5 clX12 rfl (by decide) G1468 rfl rfl dX12_go_231 ?_
                              refine k_I (ce := 0) (sl := 0) (rest := []) (wr := []) (r_V (f := 0) [0, 1] M w V_HookedCityModel_50 G1639 G50 (c9_X12_tapeAt l D T _ a0 z544 r0 a1 x0 x1 r1 z544 (iI z1) x3 z545 r3 r4 r5 fy543 x5 a2 a3 a4 a5 a6 a7 a8 a9 a10 a11 x6 a12 a13 a14 a15 x7 r6 r7 a16 r8 r9 a17 a18 x8 a19 x9 r10 a20 a21 x10 r11 a22 x11 x12 x13 x14 f0 z544_a z544_b x0_a x0_b x1_a x1_b z544_a z544_b x3_a x3_b z545_a z545_b x5_a x5_b x6_a x6_b x7_a x7_b x8_a x8_b x9_a x9_b x10_a x10_b x11_a x11_b x12_a x12_b x13_a x13_b x14_a x14_b) 0 clX12 rfl rfl (by decide) rfl hl.1 rfl (Nat.le_of_ble_eq_true rfl) dX12_go_234 (by decide) (by decide) (by decide) (by decide)) w [0, 1] [] rfl rfl (by decide) (by decide) rfl rfl (fun v z553 H locs hp w => ?_)
                              have hv : iI z553 = v := hp.1
                              subst hv
                              have z553_a : (-2147483648) ≤ z553 := hp.2.1
                              have z553_b : z553 ≤ 2147483647 := hp.2.2.1
                              have w : WD D A s.heap [(a0, .inr (11, [.int r0, .ref a1, .int (iI x0), .int (iI x1), .int r1, .int (iI z544), .int (iI z1), .int (iI x3), .int (iI z545), .int r3, .int r4, .int r5, .long fy543, .int (iI x5), .ref a2, .ref a3, .ref a4, .ref a5, .ref a6, .ref a7, .ref a8, .ref a9, .ref a10, .ref a11, .int (iI x6), .ref a12, .ref a13, .ref a14, .ref a15, .int (iI x7), .int r6, .int r7, .ref a16, .int r8, .int r9, .ref a17, .ref a18, .int (iI x8), .ref a19, .int (iI x9), .int r10, .ref a20, .ref a21, .int (iI x10), .int r11, .ref a22, .int (iI x11), .int (iI x12), .int (iI x13), .int (iI x14)])), (a1, .inl (T 0, 940, .inl f0))] H locs := w
                              rcases hp.2.2.2 with ⟨c_554, hr⟩ | c_555
                              · subst hr
                                refine k_I (ce := 0) (sl := 0) (rest := []) (wr := [(a0, .inr (11, [.int r0, .ref a1, .int (iI x0), .int (iI x1), .int r1, .int (iI z544), .int (iI z1), .int (iI x3), .int (iI z545), .int r3, .int r4, .int r5, .long fy543, .int (iI x5), .ref a2, .ref a3, .ref a4, .ref a5, .ref a6, .ref a7, .ref a8, .ref a9, .ref a10, .ref a11, .int (iI x6), .ref a12, .ref a13, .ref a14, .ref a15, .int (iI x7), .int r6, .int r7, .ref a16, .int r8, .int r9, .ref a17, .ref a18, .int (iI x8), .ref a19, .int (iI x9), .int r10, .ref a20, .ref a21, .int (iI x10), .int r11, .ref a22, .int (iI x11), .int (iI x12), .int (iI x13), .int (iI x14)])), (a1, .inl (T 0, 940, .inl f0))]) (r_S (f := 0) [] M w V_HookedCityModel_37 G1635 (c10_X12_isDigit l D T _ 0 (by decide) (by decide)) rfl (by decide) rfl hl.1 rfl (Nat.le_of_ble_eq_true rfl) dX12_go_237 (by decide) (by decide) (by decide) (by decide)) w [] [0, 1] rfl rfl (by decide) (by decide) rfl rfl (fun v z556 H locs hp w => ?_)
                                have hv : iI z556 = v := hp.1
                                subst hv
                                have z556_a : 0 ≤ z556 := hp.2.1
                                have z556_b : z556 ≤ 1 := hp.2.2.1
                                have ee557 : 0 ≤ ((0 + 4294967296) - (z556 * 4294967344)) := hp.2.2.2
                                have w : WD D A s.heap [(a0, .inr (11, [.int r0, .ref a1, .int (iI x0), .int (iI x1), .int r1, .int (iI z544), .int (iI z1), .int (iI x3), .int (iI z545), .int r3, .int r4, .int r5, .long fy543, .int (iI x5), .ref a2, .ref a3, .ref a4, .ref a5, .ref a6, .ref a7, .ref a8, .ref a9, .ref a10, .ref a11, .int (iI x6), .ref a12, .ref a13, .ref a14, .ref a15, .int (iI x7), .int r6, .int r7, .ref a16, .int r8, .int r9, .ref a17, .ref a18, .int (iI x8), .ref a19, .int (iI x9), .int r10, .ref a20, .ref a21, .int (iI x10), .int r11, .ref a22, .int (iI x11), .int (iI x12), .int (iI x13), .int (iI x14)])), (a1, .inl (T 0, 940, .inl f0))] H locs := w
                                refine lv_if_eq (tgt := 350) hx hb dX12_go_240 (by decide) (fun c_558 => ?_) (fun c_558 => ?_)
                                · replace c_558 := (iz_eq (Int.le_trans (by decide) z556_a) (Int.le_trans z556_b (by decide))).mp c_558
                                  refine lv_aload_n hx hb dX12_go_350 rfl (lv_at hl 3 rfl) ?_
                                  refine lv_iload_n hx hb dX12_go_351 rfl (lv_at hl 0 rfl) ?_
                                  refine lv_if_eq (tgt := 377) hx hb dX12_go_352 (by decide) (fun c_559 => ?_) (fun c_559 => ?_)
                                  · replace c_559 := (iz_eq (Int.le_trans (by decide) z546_a) (Int.le_trans z546_b (by decide))).mp c_559
                                    refine lv_iconst (v := iI 1) hx hb dX12_go_377 (by decide +kernel) ?_
                                    refine lv_goto (tgt := 390) hx hb dX12_go_378 (by decide) ?_
                                    refine r_put (ws' := [(a0, .inr (11, [.int r0, .ref a1, .int (iI x0), .int (iI x1), .int r1, .int (iI z544), .int (iI z1), .int (iI 1), .int (iI z545), .int r3, .int r4, .int r5, .long fy543, .int (iI x5), .ref a2, .ref a3, .ref a4, .ref a5, .ref a6, .ref a7, .ref a8, .ref a9, .ref a10, .ref a11, .int (iI x6), .ref a12, .ref a13, .ref a14, .ref a15, .int (iI x7), .int r6, .int r7, .ref a16, .int r8, .int r9, .ref a17, .ref a18, .int (iI x8), .ref a19, .int (iI x9), .int r10, .ref a20, .ref a21, .int (iI x10), .int r11, .ref a22, .int (iI x11), .int (iI x12), .int (iI x13), .int (iI x14)])), (a1, .inl (T 0, 940, .inl f0))]) M w 0 7 clX12 rfl (by decide) G1470 rfl rfl rfl rfl (Nat.le_of_ble_eq_true rfl) rfl dX12_go_390 (fun H locs w => ?_)
                                    exact ret (z544, (iI z1), 1, z545, r3, fy543) _ _ _ _ _ [0, 1] dX12_go_393 ⟨z544_a, z544_b, (show (0 : Int) ≤ 1 from by decide), (show (1 : Int) ≤ 4 from by decide), z545_a, z545_b, (show 0 ≤ (z544 - x2) from by omega), (show 0 ≤ (((z544 - x2) - 1) + 3) from by omega)⟩ w (by decide) rfl
                                  · replace c_559 : ¬ z546 = 0 := fun h => c_559 ((iz_eq (Int.le_trans (by decide) z546_a) (Int.le_trans z546_b (by decide))).mpr h)
                                    refine lv_aload_n hx hb dX12_go_355 rfl (lv_at hl 3 rfl) ?_
                                    refine r_get (v := .int (iI z544)) M w 0 5 clX12 rfl (by decide) G1468 rfl rfl dX12_go_356 ?_
                                    refine lv_aload_n hx hb dX12_go_359 rfl (lv_at hl 3 rfl) ?_
                                    refine r_get (v := .int (iI z1)) M w 0 6 clX12 rfl (by decide) G1469 rfl rfl dX12_go_360 ?_
                                    refine b_any (fun z560 z560_a z560_b => ?_)
                                    refine r_isub (v := _) M rfl dX12_go_363 ?_
                                    refine b_any (fun z561 z561_a z561_b => ?_)
                                    refine lv_iload_n hx hb dX12_go_364 rfl (lv_at hl 1 rfl) ?_
                                    refine lv_if_eq (tgt := 373) hx hb dX12_go_365 (by decide) (fun c_562 => ?_) (fun c_562 => ?_)
                                    · replace c_562 := (iz_eq (Int.le_trans (by decide) z541_a) (Int.le_trans z541_b (by decide))).mp c_562
                                      refine lv_iconst (v := iI 3) hx hb dX12_go_373 (by decide +kernel) ?_
                                      refine lv_icmp_le (tgt := 381) hx hb dX12_go_374 (by decide) (fun c_563 => ?_) (fun c_563 => ?_)
                                      · replace c_563 := (iI_le (Int.le_trans (by decide) z561_a) (Int.le_trans z561_b (by decide)) (by decide) (by decide)).mp c_563
                                        refine lv_iload_n hx hb dX12_go_381 rfl (lv_at hl 1 rfl) ?_
                                        refine lv_if_eq (tgt := 389) hx hb dX12_go_382 (by decide) (fun c_564 => ?_) (fun c_564 => ?_)
                                        · replace c_564 := (iz_eq (Int.le_trans (by decide) z541_a) (Int.le_trans z541_b (by decide))).mp c_564
                                          refine lv_iconst (v := iI 3) hx hb dX12_go_389 (by decide +kernel) ?_
                                          refine r_put (ws' := [(a0, .inr (11, [.int r0, .ref a1, .int (iI x0), .int (iI x1), .int r1, .int (iI z544), .int (iI z1), .int (iI 3), .int (iI z545), .int r3, .int r4, .int r5, .long fy543, .int (iI x5), .ref a2, .ref a3, .ref a4, .ref a5, .ref a6, .ref a7, .ref a8, .ref a9, .ref a10, .ref a11, .int (iI x6), .ref a12, .ref a13, .ref a14, .ref a15, .int (iI x7), .int r6, .int r7, .ref a16, .int r8, .int r9, .ref a17, .ref a18, .int (iI x8), .ref a19, .int (iI x9), .int r10, .ref a20, .ref a21, .int (iI x10), .int r11, .ref a22, .int (iI x11), .int (iI x12), .int (iI x13), .int (iI x14)])), (a1, .inl (T 0, 940, .inl f0))]) M w 0 7 clX12 rfl (by decide) G1470 rfl rfl rfl rfl (Nat.le_of_ble_eq_true rfl) rfl dX12_go_390 (fun H locs w => ?_)
                                          exact ret (z544, (iI z1), 3, z545, r3, fy543) _ _ _ _ _ [0, 1] dX12_go_393 ⟨z544_a, z544_b, (show (0 : Int) ≤ 3 from by decide), (show (3 : Int) ≤ 4 from by decide), z545_a, z545_b, (show 0 ≤ (z544 - x2) from by omega), (show 0 ≤ (((z544 - x2) - 3) + 3) from by omega)⟩ w (by decide) rfl
                                        · replace c_564 : ¬ z541 = 0 := fun h => c_564 ((iz_eq (Int.le_trans (by decide) z541_a) (Int.le_trans z541_b (by decide))).mpr h)
                                          exfalso; omega
                                      · replace c_563 : 3 < z561 := Int.not_le.mp (fun h => c_563 ((iI_le (Int.le_trans (by decide) z561_a) (Int.le_trans z561_b (by decide)) (by decide) (by decide)).mpr h))
                                        refine lv_iconst (v := iI 1) hx hb dX12_go_377 (by decide +kernel) ?_
                                        refine lv_goto (tgt := 390) hx hb dX12_go_378 (by decide) ?_
                                        refine r_put (ws' := [(a0, .inr (11, [.int r0, .ref a1, .int (iI x0), .int (iI x1), .int r1, .int (iI z544), .int (iI z1), .int (iI 1), .int (iI z545), .int r3, .int r4, .int r5, .long fy543, .int (iI x5), .ref a2, .ref a3, .ref a4, .ref a5, .ref a6, .ref a7, .ref a8, .ref a9, .ref a10, .ref a11, .int (iI x6), .ref a12, .ref a13, .ref a14, .ref a15, .int (iI x7), .int r6, .int r7, .ref a16, .int r8, .int r9, .ref a17, .ref a18, .int (iI x8), .ref a19, .int (iI x9), .int r10, .ref a20, .ref a21, .int (iI x10), .int r11, .ref a22, .int (iI x11), .int (iI x12), .int (iI x13), .int (iI x14)])), (a1, .inl (T 0, 940, .inl f0))]) M w 0 7 clX12 rfl (by decide) G1470 rfl rfl rfl rfl (Nat.le_of_ble_eq_true rfl) rfl dX12_go_390 (fun H locs w => ?_)
                                        exact ret (z544, (iI z1), 1, z545, r3, fy543) _ _ _ _ _ [0, 1] dX12_go_393 ⟨z544_a, z544_b, (show (0 : Int) ≤ 1 from by decide), (show (1 : Int) ≤ 4 from by decide), z545_a, z545_b, (show 0 ≤ (z544 - x2) from by omega), (show 0 ≤ (((z544 - x2) - 1) + 3) from by omega)⟩ w (by decide) rfl
                                    · replace c_562 : ¬ z541 = 0 := fun h => c_562 ((iz_eq (Int.le_trans (by decide) z541_a) (Int.le_trans z541_b (by decide))).mpr h)
                                      refine lv_bipush (v := iI 7) hx hb dX12_go_368 (by decide +kernel) ?_
                                      refine lv_goto (tgt := 374) hx hb dX12_go_370 (by decide) ?_
                                      refine lv_icmp_le (tgt := 381) hx hb dX12_go_374 (by decide) (fun c_565 => ?_) (fun c_565 => ?_)
                                      · replace c_565 := (iI_le (Int.le_trans (by decide) z561_a) (Int.le_trans z561_b (by decide)) (by decide) (by decide)).mp c_565
                                        refine lv_iload_n hx hb dX12_go_381 rfl (lv_at hl 1 rfl) ?_
                                        refine lv_if_eq (tgt := 389) hx hb dX12_go_382 (by decide) (fun c_566 => ?_) (fun c_566 => ?_)
                                        · replace c_566 := (iz_eq (Int.le_trans (by decide) z541_a) (Int.le_trans z541_b (by decide))).mp c_566
                                          exfalso; omega
                                        · replace c_566 : ¬ z541 = 0 := fun h => c_566 ((iz_eq (Int.le_trans (by decide) z541_a) (Int.le_trans z541_b (by decide))).mpr h)
                                          refine lv_iconst (v := iI 2) hx hb dX12_go_385 (by decide +kernel) ?_
                                          refine lv_goto (tgt := 390) hx hb dX12_go_386 (by decide) ?_
                                          refine r_put (ws' := [(a0, .inr (11, [.int r0, .ref a1, .int (iI x0), .int (iI x1), .int r1, .int (iI z544), .int (iI z1), .int (iI 2), .int (iI z545), .int r3, .int r4, .int r5, .long fy543, .int (iI x5), .ref a2, .ref a3, .ref a4, .ref a5, .ref a6, .ref a7, .ref a8, .ref a9, .ref a10, .ref a11, .int (iI x6), .ref a12, .ref a13, .ref a14, .ref a15, .int (iI x7), .int r6, .int r7, .ref a16, .int r8, .int r9, .ref a17, .ref a18, .int (iI x8), .ref a19, .int (iI x9), .int r10, .ref a20, .ref a21, .int (iI x10), .int r11, .ref a22, .int (iI x11), .int (iI x12), .int (iI x13), .int (iI x14)])), (a1, .inl (T 0, 940, .inl f0))]) M w 0 7 clX12 rfl (by decide) G1470 rfl rfl rfl rfl (Nat.le_of_ble_eq_true rfl) rfl dX12_go_390 (fun H locs w => ?_)
                                          exact ret (z544, (iI z1), 2, z545, r3, fy543) _ _ _ _ _ [0, 1] dX12_go_393 ⟨z544_a, z544_b, (show (0 : Int) ≤ 2 from by decide), (show (2 : Int) ≤ 4 from by decide), z545_a, z545_b, (show 0 ≤ (z544 - x2) from by omega), (show 0 ≤ (((z544 - x2) - 2) + 3) from by omega)⟩ w (by decide) rfl
                                      · replace c_565 : 7 < z561 := Int.not_le.mp (fun h => c_565 ((iI_le (Int.le_trans (by decide) z561_a) (Int.le_trans z561_b (by decide)) (by decide) (by decide)).mpr h))
                                        refine lv_iconst (v := iI 1) hx hb dX12_go_377 (by decide +kernel) ?_
                                        refine lv_goto (tgt := 390) hx hb dX12_go_378 (by decide) ?_
                                        refine r_put (ws' := [(a0, .inr (11, [.int r0, .ref a1, .int (iI x0), .int (iI x1), .int r1, .int (iI z544), .int (iI z1), .int (iI 1), .int (iI z545), .int r3, .int r4, .int r5, .long fy543, .int (iI x5), .ref a2, .ref a3, .ref a4, .ref a5, .ref a6, .ref a7, .ref a8, .ref a9, .ref a10, .ref a11, .int (iI x6), .ref a12, .ref a13, .ref a14, .ref a15, .int (iI x7), .int r6, .int r7, .ref a16, .int r8, .int r9, .ref a17, .ref a18, .int (iI x8), .ref a19, .int (iI x9), .int r10, .ref a20, .ref a21, .int (iI x10), .int r11, .ref a22, .int (iI x11), .int (iI x12), .int (iI x13), .int (iI x14)])), (a1, .inl (T 0, 940, .inl f0))]) M w 0 7 clX12 rfl (by decide) G1470 rfl rfl rfl rfl (Nat.le_of_ble_eq_true rfl) rfl dX12_go_390 (fun H locs w => ?_)
                                        exact ret (z544, (iI z1), 1, z545, r3, fy543) _ _ _ _ _ [0, 1] dX12_go_393 ⟨z544_a, z544_b, (show (0 : Int) ≤ 1 from by decide), (show (1 : Int) ≤ 4 from by decide), z545_a, z545_b, (show 0 ≤ (z544 - x2) from by omega), (show 0 ≤ (((z544 - x2) - 1) + 3) from by omega)⟩ w (by decide) rfl
                                · replace c_558 : ¬ z556 = 0 := fun h => c_558 ((iz_eq (Int.le_trans (by decide) z556_a) (Int.le_trans z556_b (by decide))).mpr h)
                                  exfalso; omega
                              · exfalso; omega
                          · refine k_I (ce := 0) (sl := 0) (rest := []) (wr := [(a0, .inr (11, [.int r0, .ref a1, .int (iI x0), .int (iI x1), .int r1, .int (iI z544), .int (iI z1), .int (iI x3), .int (iI z545), .int r3, .int r4, .int r5, .long fy543, .int (iI x5), .ref a2, .ref a3, .ref a4, .ref a5, .ref a6, .ref a7, .ref a8, .ref a9, .ref a10, .ref a11, .int (iI x6), .ref a12, .ref a13, .ref a14, .ref a15, .int (iI x7), .int r6, .int r7, .ref a16, .int r8, .int r9, .ref a17, .ref a18, .int (iI x8), .ref a19, .int (iI x9), .int r10, .ref a20, .ref a21, .int (iI x10), .int r11, .ref a22, .int (iI x11), .int (iI x12), .int (iI x13), .int (iI x14)])), (a1, .inl (T 0, 940, .inl f0))]) (r_S (f := 0) [] M w V_HookedCityModel_33 G1632 (c11_X12_isLetter l D T _ z547 z547_a z547_b) rfl (by decide) rfl hl.1 rfl (Nat.le_of_ble_eq_true rfl) dX12_go_223 (by decide) (by decide) (by decide) (by decide)) w [] [0, 1] rfl rfl (by decide) (by decide) rfl rfl (fun v z567 H locs hp w => ?_)
                            have hv : iI z567 = v := hp.1
                            subst hv
                            have z567_a : 0 ≤ z567 := hp.2.1
                            have z567_b : z567 ≤ 1 := hp.2.2.1
                            have ee568 : 0 ≤ ((z547 + 4294967296) - (z567 * 4294967393)) := hp.2.2.2
                            have w : WD D A s.heap [(a0, .inr (11, [.int r0, .ref a1, .int (iI x0), .int (iI x1), .int r1, .int (iI z544), .int (iI z1), .int (iI x3), .int (iI z545), .int r3, .int r4, .int r5, .long fy543, .int (iI x5), .ref a2, .ref a3, .ref a4, .ref a5, .ref a6, .ref a7, .ref a8, .ref a9, .ref a10, .ref a11, .int (iI x6), .ref a12, .ref a13, .ref a14, .ref a15, .int (iI x7), .int r6, .int r7, .ref a16, .int r8, .int r9, .ref a17, .ref a18, .int (iI x8), .ref a19, .int (iI x9), .int r10, .ref a20, .ref a21, .int (iI x10), .int r11, .ref a22, .int (iI x11), .int (iI x12), .int (iI x13), .int (iI x14)])), (a1, .inl (T 0, 940, .inl f0))] H locs := w
                            refine lv_if_ne (tgt := 243) hx hb dX12_go_226 (by decide) (fun c_569 => ?_) (fun c_569 => ?_)
                            · replace c_569 : ¬ z567 = 0 := fun h => c_569 ((iz_eq (Int.le_trans (by decide) z567_a) (Int.le_trans z567_b (by decide))).mpr h)
                              refine lv_aload_n hx hb dX12_go_243 rfl (lv_at hl 3 rfl) ?_
                              refine r_get (v := .ref a1) M w 0 1 clX12 rfl (by decide) G1464 rfl rfl dX12_go_244 ?_
                              refine lv_aload_n hx hb dX12_go_247 rfl (lv_at hl 3 rfl) ?_
                              refine r_get (v := .int (iI z544)) M w 0 5 clX12 rfl (by decide) G1468 rfl rfl dX12_go_248 ?_
                              refine r_iald (v := _) M w 1 rfl (iI_in (by omega) (by omega) (by decide)) rfl dX12_go_251 ?_
                              refine b_any (fun z570 z570_a z570_b => ?_)
                              refine lv_istore (lv' := [(4, .int (iI z570)), (3, .int (iI z546)), (2, .int (iI z541)), (1, .int (iI z367)), (0, .ref a0)]) hx hb dX12_go_252 hl (by decide) rfl (fun ls hl => ?_)
                              refine lv_iload_n hx hb dX12_go_254 rfl (lv_at hl 1 rfl) ?_
                              refine lv_if_eq (tgt := 271) hx hb dX12_go_255 (by decide) (fun c_571 => ?_) (fun c_571 => ?_)
                              · replace c_571 := (iz_eq (Int.le_trans (by decide) z546_a) (Int.le_trans z546_b (by decide))).mp c_571
                                refine lv_iconst (v := iI 0) hx hb dX12_go_271 (by decide +kernel) ?_
                                refine lv_istore_n (lv' := [(3, .int (iI 0)), (4, .int (iI z570)), (2, .int (iI z541)), (1, .int (iI z367)), (0, .ref a0)]) hx hb dX12_go_272 rfl hl (by decide) rfl (fun ls hl => ?_)
                                refine lv_aload_n hx hb dX12_go_273 rfl (lv_at hl 4 rfl) ?_
                                refine r_get (v := .int (iI z544)) M w 0 5 clX12 rfl (by decide) G1468 rfl rfl dX12_go_274 ?_
                                refine lv_aload_n hx hb dX12_go_277 rfl (lv_at hl 4 rfl) ?_
                                refine r_get (v := .int (iI z1)) M w 0 6 clX12 rfl (by decide) G1469 rfl rfl dX12_go_278 ?_
                                refine b_any (fun z572 z572_a z572_b => ?_)
                                refine r_isub (v := _) M rfl dX12_go_281 ?_
                                refine b_any (fun z573 z573_a z573_b => ?_)
                                refine lv_bipush (v := iI 7) hx hb dX12_go_282 (by decide +kernel) ?_
                                refine lv_icmp_ge (tgt := 307) hx hb dX12_go_284 (by decide) (fun c_574 => ?_) (fun c_574 => ?_)
                                · replace c_574 := (iI_le (by decide) (by decide) (Int.le_trans (by decide) z573_a) (Int.le_trans z573_b (by decide))).mp c_574
                                  refine lv_aload_n hx hb dX12_go_307 rfl (lv_at hl 4 rfl) ?_
                                  refine r_get (v := .int (iI z544)) M w 0 5 clX12 rfl (by decide) G1468 rfl rfl dX12_go_308 ?_
                                  refine lv_aload_n hx hb dX12_go_311 rfl (lv_at hl 4 rfl) ?_
                                  refine r_get (v := .int (iI z1)) M w 0 6 clX12 rfl (by decide) G1469 rfl rfl dX12_go_312 ?_
                                  refine b_any (fun z575 z575_a z575_b => ?_)
                                  refine r_isub (v := _) M rfl dX12_go_315 ?_
                                  refine b_any (fun z576 z576_a z576_b => ?_)
                                  refine lv_iconst (v := iI 3) hx hb dX12_go_316 (by decide +kernel) ?_
                                  refine lv_icmp_ge (tgt := 337) hx hb dX12_go_317 (by decide) (fun c_577 => ?_) (fun c_577 => ?_)
                                  · replace c_577 := (iI_le (by decide) (by decide) (Int.le_trans (by decide) z576_a) (Int.le_trans z576_b (by decide))).mp c_577
                                    refine lv_aload_n hx hb dX12_go_337 rfl (lv_at hl 4 rfl) ?_
                                    refine lv_dup hx hb dX12_go_338 rfl ?_
                                    refine r_get (v := .int (iI z544)) M w 0 5 clX12 rfl (by decide) G1468 rfl rfl dX12_go_339 ?_
                                    refine lv_iconst (v := iI 1) hx hb dX12_go_342 (by decide +kernel) ?_
                                    refine r_iadd (v := iI (z544 + 1)) M (iI_add _ _) dX12_go_343 ?_
                                    refine r_put (ws' := [(a0, .inr (11, [.int r0, .ref a1, .int (iI x0), .int (iI x1), .int r1, .int (iI (z544 + 1)), .int (iI z1), .int (iI x3), .int (iI z545), .int r3, .int r4, .int r5, .long fy543, .int (iI x5), .ref a2, .ref a3, .ref a4, .ref a5, .ref a6, .ref a7, .ref a8, .ref a9, .ref a10, .ref a11, .int (iI x6), .ref a12, .ref a13, .ref a14, .ref a15, .int (iI x7), .int r6, .int r7, .ref a16, .int r8, .int r9, .ref a17, .ref a18, .int (iI x8), .ref a19, .int (iI x9), .int r10, .ref a20, .ref a21, .int (iI x10), .int r11, .ref a22, .int (iI x11), .int (iI x12), .int (iI x13), .int (iI x14)])), (a1, .inl (T 0, 940, .inl f0))]) M w 0 5 clX12 rfl (by decide) G1468 rfl rfl rfl rfl (Nat.le_of_ble_eq_true rfl) rfl dX12_go_344 (fun H locs w => ?_)
                                    refine lv_goto (tgt := 215) hx hb dX12_go_347 (by decide) ?_
                                    exact ih2 fy543 (z544 + 1) z545 0 _ _ _ (by omega) (by omega) z545_a z545_b (by decide) (by decide) (by omega) (by omega) w (lv_sub hl [0, 2, 3, 4] rfl)
                                  · replace c_577 : z576 < 3 := Int.not_le.mp (fun h => c_577 ((iI_le (by decide) (by decide) (Int.le_trans (by decide) z576_a) (Int.le_trans z576_b (by decide))).mpr h))
                                    refine lv_aload_n hx hb dX12_go_320 rfl (lv_at hl 4 rfl) ?_
                                    refine lv_bipush (v := iI 10) hx hb dX12_go_321 (by decide +kernel) ?_
                                    refine lv_aload_n hx hb dX12_go_323 rfl (lv_at hl 4 rfl) ?_
                                    refine r_get (v := .int (iI z545)) M w 0 8 clX12 rfl (by decide) G1471 rfl rfl dX12_go_324 ?_
                                    refine r_imul (v := _) M rfl dX12_go_327 ?_
                                    refine b_any (fun z578 z578_a z578_b => ?_)
                                    refine lv_iload hx hb dX12_go_328 (lv_at hl 1 rfl) ?_
                                    refine r_iadd (v := _) M rfl dX12_go_330 ?_
                                    refine b_any (fun z579 z579_a z579_b => ?_)
                                    refine lv_bipush (v := iI 48) hx hb dX12_go_331 (by decide +kernel) ?_
                                    refine r_isub (v := _) M rfl dX12_go_333 ?_
                                    refine b_any (fun z580 z580_a z580_b => ?_)
                                    refine r_put (ws' := [(a0, .inr (11, [.int r0, .ref a1, .int (iI x0), .int (iI x1), .int r1, .int (iI z544), .int (iI z1), .int (iI x3), .int (iI z580), .int r3, .int r4, .int r5, .long fy543, .int (iI x5), .ref a2, .ref a3, .ref a4, .ref a5, .ref a6, .ref a7, .ref a8, .ref a9, .ref a10, .ref a11, .int (iI x6), .ref a12, .ref a13, .ref a14, .ref a15, .int (iI x7), .int r6, .int r7, .ref a16, .int r8, .int r9, .ref a17, .ref a18, .int (iI x8), .ref a19, .int (iI x9), .int r10, .ref a20, .ref a21, .int (iI x10), .int r11, .ref a22, .int (iI x11), .int (iI x12), .int (iI x13), .int (iI x14)])), (a1, .inl (T 0, 940, .inl f0))]) M w 0 8 clX12 rfl (by decide) G1471 rfl rfl rfl rfl (Nat.le_of_ble_eq_true rfl) rfl dX12_go_334 (fun H locs w => ?_)
                                    refine lv_aload_n hx hb dX12_go_337 rfl (lv_at hl 4 rfl) ?_
                                    refine lv_dup hx hb dX12_go_338 rfl ?_
                                    refine r_get (v := .int (iI z544)) M w 0 5 clX12 rfl (by decide) G1468 rfl rfl dX12_go_339 ?_
                                    refine lv_iconst (v := iI 1) hx hb dX12_go_342 (by decide +kernel) ?_
                                    refine r_iadd (v := iI (z544 + 1)) M (iI_add _ _) dX12_go_343 ?_
                                    refine r_put (ws' := [(a0, .inr (11, [.int r0, .ref a1, .int (iI x0), .int (iI x1), .int r1, .int (iI (z544 + 1)), .int (iI z1), .int (iI x3), .int (iI z580), .int r3, .int r4, .int r5, .long fy543, .int (iI x5), .ref a2, .ref a3, .ref a4, .ref a5, .ref a6, .ref a7, .ref a8, .ref a9, .ref a10, .ref a11, .int (iI x6), .ref a12, .ref a13, .ref a14, .ref a15, .int (iI x7), .int r6, .int r7, .ref a16, .int r8, .int r9, .ref a17, .ref a18, .int (iI x8), .ref a19, .int (iI x9), .int r10, .ref a20, .ref a21, .int (iI x10), .int r11, .ref a22, .int (iI x11), .int (iI x12), .int (iI x13), .int (iI x14)])), (a1, .inl (T 0, 940, .inl f0))]) M w 0 5 clX12 rfl (by decide) G1468 rfl rfl rfl rfl (Nat.le_of_ble_eq_true rfl) rfl dX12_go_344 (fun H locs w => ?_)
                                    refine lv_goto (tgt := 215) hx hb dX12_go_347 (by decide) ?_
                                    exact ih2 fy543 (z544 + 1) z580 0 _ _ _ (by omega) (by omega) z580_a z580_b (by decide) (by decide) (by omega) (by omega) w (lv_sub hl [0, 2, 3, 4] rfl)
                                · replace c_574 : z573 < 7 := Int.not_le.mp (fun h => c_574 ((iI_le (by decide) (by decide) (Int.le_trans (by decide) z573_a) (Int.le_trans z573_b (by decide))).mpr h))
                                  refine lv_aload_n hx hb dX12_go_287 rfl (lv_at hl 4 rfl) ?_
                                  refine lv_ldc2 (v := 27) hx hb M.1.2.2.2.1 (M.1.2.2.2.2 _ G1641) dX12_go_288 ?_
                                  refine lv_aload_n hx hb dX12_go_291 rfl (lv_at hl 4 rfl) ?_
                                  refine r_get (v := .long fy543) M w 0 12 clX12 rfl (by decide) G1475 rfl rfl dX12_go_292 ?_
                                  refine r_lmul (v := _) M rfl dX12_go_295 ?_
                                  refine b_anyl (fun fy581 => ?_)
                                  refine lv_iload hx hb dX12_go_296 (lv_at hl 1 rfl) ?_
                                  refine lv_i2l (v := _) hx hb dX12_go_298 rfl ?_
                                  refine b_anyl (fun fy582 => ?_)
                                  refine r_ladd (v := _) M rfl dX12_go_299 ?_
                                  refine b_anyl (fun fy583 => ?_)
                                  refine lv_ldc2 (v := 96) hx hb M.1.2.2.2.1 (M.1.2.2.2.2 _ G1642) dX12_go_300 ?_
                                  refine r_lsub (v := _) M rfl dX12_go_303 ?_
                                  refine b_anyl (fun fy584 => ?_)
                                  refine r_put (ws' := [(a0, .inr (11, [.int r0, .ref a1, .int (iI x0), .int (iI x1), .int r1, .int (iI z544), .int (iI z1), .int (iI x3), .int (iI z545), .int r3, .int r4, .int r5, .long fy584, .int (iI x5), .ref a2, .ref a3, .ref a4, .ref a5, .ref a6, .ref a7, .ref a8, .ref a9, .ref a10, .ref a11, .int (iI x6), .ref a12, .ref a13, .ref a14, .ref a15, .int (iI x7), .int r6, .int r7, .ref a16, .int r8, .int r9, .ref a17, .ref a18, .int (iI x8), .ref a19, .int (iI x9), .int r10, .ref a20, .ref a21, .int (iI x10), .int r11, .ref a22, .int (iI x11), .int (iI x12), .int (iI x13), .int (iI x14)])), (a1, .inl (T 0, 940, .inl f0))]) M w 0 12 clX12 rfl (by decide) G1475 rfl rfl rfl rfl (Nat.le_of_ble_eq_true rfl) rfl dX12_go_304 (fun H locs w => ?_)
                                  refine lv_aload_n hx hb dX12_go_307 rfl (lv_at hl 4 rfl) ?_
                                  refine r_get (v := .int (iI z544)) M w 0 5 clX12 rfl (by decide) G1468 rfl rfl dX12_go_308 ?_
                                  refine lv_aload_n hx hb dX12_go_311 rfl (lv_at hl 4 rfl) ?_
                                  refine r_get (v := .int (iI z1)) M w 0 6 clX12 rfl (by decide) G1469 rfl rfl dX12_go_312 ?_
                                  refine b_any (fun z585 z585_a z585_b => ?_)
                                  refine r_isub (v := _) M rfl dX12_go_315 ?_
                                  refine b_any (fun z586 z586_a z586_b => ?_)
                                  refine lv_iconst (v := iI 3) hx hb dX12_go_316 (by decide +kernel) ?_
                                  refine lv_icmp_ge (tgt := 337) hx hb dX12_go_317 (by decide) (fun c_587 => ?_) (fun c_587 => ?_)
                                  · replace c_587 := (iI_le (by decide) (by decide) (Int.le_trans (by decide) z586_a) (Int.le_trans z586_b (by decide))).mp c_587
                                    refine lv_aload_n hx hb dX12_go_337 rfl (lv_at hl 4 rfl) ?_
                                    refine lv_dup hx hb dX12_go_338 rfl ?_
                                    refine r_get (v := .int (iI z544)) M w 0 5 clX12 rfl (by decide) G1468 rfl rfl dX12_go_339 ?_
                                    refine lv_iconst (v := iI 1) hx hb dX12_go_342 (by decide +kernel) ?_
                                    refine r_iadd (v := iI (z544 + 1)) M (iI_add _ _) dX12_go_343 ?_
                                    refine r_put (ws' := [(a0, .inr (11, [.int r0, .ref a1, .int (iI x0), .int (iI x1), .int r1, .int (iI (z544 + 1)), .int (iI z1), .int (iI x3), .int (iI z545), .int r3, .int r4, .int r5, .long fy584, .int (iI x5), .ref a2, .ref a3, .ref a4, .ref a5, .ref a6, .ref a7, .ref a8, .ref a9, .ref a10, .ref a11, .int (iI x6), .ref a12, .ref a13, .ref a14, .ref a15, .int (iI x7), .int r6, .int r7, .ref a16, .int r8, .int r9, .ref a17, .ref a18, .int (iI x8), .ref a19, .int (iI x9), .int r10, .ref a20, .ref a21, .int (iI x10), .int r11, .ref a22, .int (iI x11), .int (iI x12), .int (iI x13), .int (iI x14)])), (a1, .inl (T 0, 940, .inl f0))]) M w 0 5 clX12 rfl (by decide) G1468 rfl rfl rfl rfl (Nat.le_of_ble_eq_true rfl) rfl dX12_go_344 (fun H locs w => ?_)
                                    refine lv_goto (tgt := 215) hx hb dX12_go_347 (by decide) ?_
                                    exact ih2 fy584 (z544 + 1) z545 0 _ _ _ (by omega) (by omega) z545_a z545_b (by decide) (by decide) (by omega) (by omega) w (lv_sub hl [0, 2, 3, 4] rfl)
                                  · replace c_587 : z586 < 3 := Int.not_le.mp (fun h => c_587 ((iI_le (by decide) (by decide) (Int.le_trans (by decide) z586_a) (Int.le_trans z586_b (by decide))).mpr h))
                                    refine lv_aload_n hx hb dX12_go_320 rfl (lv_at hl 4 rfl) ?_
                                    refine lv_bipush (v := iI 10) hx hb dX12_go_321 (by decide +kernel) ?_
                                    refine lv_aload_n hx hb dX12_go_323 rfl (lv_at hl 4 rfl) ?_
                                    refine r_get (v := .int (iI z545)) M w 0 8 clX12 rfl (by decide) G1471 rfl rfl dX12_go_324 ?_
                                    refine r_imul (v := _) M rfl dX12_go_327 ?_
                                    refine b_any (fun z588 z588_a z588_b => ?_)
                                    refine lv_iload hx hb dX12_go_328 (lv_at hl 1 rfl) ?_
                                    refine r_iadd (v := _) M rfl dX12_go_330 ?_
                                    refine b_any (fun z589 z589_a z589_b => ?_)
                                    refine lv_bipush (v := iI 48) hx hb dX12_go_331 (by decide +kernel) ?_
                                    refine r_isub (v := _) M rfl dX12_go_333 ?_
                                    refine b_any (fun z590 z590_a z590_b => ?_)
                                    refine r_put (ws' := [(a0, .inr (11, [.int r0, .ref a1, .int (iI x0), .int (iI x1), .int r1, .int (iI z544), .int (iI z1), .int (iI x3), .int (iI z590), .int r3, .int r4, .int r5, .long fy584, .int (iI x5), .ref a2, .ref a3, .ref a4, .ref a5, .ref a6, .ref a7, .ref a8, .ref a9, .ref a10, .ref a11, .int (iI x6), .ref a12, .ref a13, .ref a14, .ref a15, .int (iI x7), .int r6, .int r7, .ref a16, .int r8, .int r9, .ref a17, .ref a18, .int (iI x8), .ref a19, .int (iI x9), .int r10, .ref a20, .ref a21, .int (iI x10), .int r11, .ref a22, .int (iI x11), .int (iI x12), .int (iI x13), .int (iI x14)])), (a1, .inl (T 0, 940, .inl f0))]) M w 0 8 clX12 rfl (by decide) G1471 rfl rfl rfl rfl (Nat.le_of_ble_eq_true rfl) rfl dX12_go_334 (fun H locs w => ?_)
                                    refine lv_aload_n hx hb dX12_go_337 rfl (lv_at hl 4 rfl) ?_
                                    refine lv_dup hx hb dX12_go_338 rfl ?_
                                    refine r_get (v := .int (iI z544)) M w 0 5 clX12 rfl (by decide) G1468 rfl rfl dX12_go_339 ?_
                                    refine lv_iconst (v := iI 1) hx hb dX12_go_342 (by decide +kernel) ?_
                                    refine r_iadd (v := iI (z544 + 1)) M (iI_add _ _) dX12_go_343 ?_
                                    refine r_put (ws' := [(a0, .inr (11, [.int r0, .ref a1, .int (iI x0), .int (iI x1), .int r1, .int (iI (z544 + 1)), .int (iI z1), .int (iI x3), .int (iI z590), .int r3, .int r4, .int r5, .long fy584, .int (iI x5), .ref a2, .ref a3, .ref a4, .ref a5, .ref a6, .ref a7, .ref a8, .ref a9, .ref a10, .ref a11, .int (iI x6), .ref a12, .ref a13, .ref a14, .ref a15, .int (iI x7), .int r6, .int r7, .ref a16, .int r8, .int r9, .ref a17, .ref a18, .int (iI x8), .ref a19, .int (iI x9), .int r10, .ref a20, .ref a21, .int (iI x10), .int r11, .ref a22, .int (iI x11), .int (iI x12), .int (iI x13), .int (iI x14)])), (a1, .inl (T 0, 940, .inl f0))]) M w 0 5 clX12 rfl (by decide) G1468 rfl rfl rfl rfl (Nat.le_of_ble_eq_true rfl) rfl dX12_go_344 (fun H locs w => ?_)
                                    refine lv_goto (tgt := 215) hx hb dX12_go_347 (by decide) ?_
                                    exact ih2 fy584 (z544 + 1) z590 0 _ _ _ (by omega) (by omega) z590_a z590_b (by decide) (by decide) (by omega) (by omega) w (lv_sub hl [0, 2, 3, 4] rfl)
                              · replace c_571 : ¬ z546 = 0 := fun h => c_571 ((iz_eq (Int.le_trans (by decide) z546_a) (Int.le_trans z546_b (by decide))).mpr h)
                                refine lv_iload hx hb dX12_go_258 (lv_at hl 0 rfl) ?_
                                refine k_I (ce := 0) (sl := 0) (rest := []) (wr := [(a0, .inr (11, [.int r0, .ref a1, .int (iI x0), .int (iI x1), .int r1, .int (iI z544), .int (iI z1), .int (iI x3), .int (iI z545), .int r3, .int r4, .int r5, .long fy543, .int (iI x5), .ref a2, .ref a3, .ref a4, .ref a5, .ref a6, .ref a7, .ref a8, .ref a9, .ref a10, .ref a11, .int (iI x6), .ref a12, .ref a13, .ref a14, .ref a15, .int (iI x7), .int r6, .int r7, .ref a16, .int r8, .int r9, .ref a17, .ref a18, .int (iI x8), .ref a19, .int (iI x9), .int r10, .ref a20, .ref a21, .int (iI x10), .int r11, .ref a22, .int (iI x11), .int (iI x12), .int (iI x13), .int (iI x14)])), (a1, .inl (T 0, 940, .inl f0))]) (r_S (f := 0) [] M w V_HookedCityModel_33 G1632 (c11_X12_isLetter l D T _ z570 z570_a z570_b) rfl (by decide) rfl hl.1 rfl (Nat.le_of_ble_eq_true rfl) dX12_go_260 (by decide) (by decide) (by decide) (by decide)) w [] [0, 1] rfl rfl (by decide) (by decide) rfl rfl (fun v z591 H locs hp w => ?_)
                                have hv : iI z591 = v := hp.1
                                subst hv
                                have z591_a : 0 ≤ z591 := hp.2.1
                                have z591_b : z591 ≤ 1 := hp.2.2.1
                                have ee592 : 0 ≤ ((z570 + 4294967296) - (z591 * 4294967393)) := hp.2.2.2
                                have w : WD D A s.heap [(a0, .inr (11, [.int r0, .ref a1, .int (iI x0), .int (iI x1), .int r1, .int (iI z544), .int (iI z1), .int (iI x3), .int (iI z545), .int r3, .int r4, .int r5, .long fy543, .int (iI x5), .ref a2, .ref a3, .ref a4, .ref a5, .ref a6, .ref a7, .ref a8, .ref a9, .ref a10, .ref a11, .int (iI x6), .ref a12, .ref a13, .ref a14, .ref a15, .int (iI x7), .int r6, .int r7, .ref a16, .int r8, .int r9, .ref a17, .ref a18, .int (iI x8), .ref a19, .int (iI x9), .int r10, .ref a20, .ref a21, .int (iI x10), .int r11, .ref a22, .int (iI x11), .int (iI x12), .int (iI x13), .int (iI x14)])), (a1, .inl (T 0, 940, .inl f0))] H locs := w
                                refine lv_iload_n hx hb dX12_go_263 rfl (lv_at hl 2 rfl) ?_
                                refine lv_icmp_ne (tgt := 271) hx hb dX12_go_264 (by decide) (fun c_593 => ?_) (fun c_593 => ?_)
                                · replace c_593 : ¬ z591 = z541 := fun h => c_593 ((iI_eq (Int.le_trans (by decide) z591_a) (Int.le_trans z591_b (by decide)) (Int.le_trans (by decide) z541_a) (Int.le_trans z541_b (by decide))).mpr h)
                                  refine lv_iconst (v := iI 0) hx hb dX12_go_271 (by decide +kernel) ?_
                                  refine lv_istore_n (lv' := [(3, .int (iI 0)), (4, .int (iI z570)), (2, .int (iI z541)), (1, .int (iI z367)), (0, .ref a0)]) hx hb dX12_go_272 rfl hl (by decide) rfl (fun ls hl => ?_)
                                  refine lv_aload_n hx hb dX12_go_273 rfl (lv_at hl 4 rfl) ?_
                                  refine r_get (v := .int (iI z544)) M w 0 5 clX12 rfl (by decide) G1468 rfl rfl dX12_go_274 ?_
                                  refine lv_aload_n hx hb dX12_go_277 rfl (lv_at hl 4 rfl) ?_
                                  refine r_get (v := .int (iI z1)) M w 0 6 clX12 rfl (by decide) G1469 rfl rfl dX12_go_278 ?_
                                  refine b_any (fun z594 z594_a z594_b => ?_)
                                  refine r_isub (v := _) M rfl dX12_go_281 ?_
                                  refine b_any (fun z595 z595_a z595_b => ?_)
                                  refine lv_bipush (v := iI 7) hx hb dX12_go_282 (by decide +kernel) ?_
                                  refine lv_icmp_ge (tgt := 307) hx hb dX12_go_284 (by decide) (fun c_596 => ?_) (fun c_596 => ?_)
                                  · replace c_596 := (iI_le (by decide) (by decide) (Int.le_trans (by decide) z595_a) (Int.le_trans z595_b (by decide))).mp c_596
                                    refine lv_aload_n hx hb dX12_go_307 rfl (lv_at hl 4 rfl) ?_
                                    refine r_get (v := .int (iI z544)) M w 0 5 clX12 rfl (by decide) G1468 rfl rfl dX12_go_308 ?_
                                    refine lv_aload_n hx hb dX12_go_311 rfl (lv_at hl 4 rfl) ?_
                                    refine r_get (v := .int (iI z1)) M w 0 6 clX12 rfl (by decide) G1469 rfl rfl dX12_go_312 ?_
                                    refine b_any (fun z597 z597_a z597_b => ?_)
                                    refine r_isub (v := _) M rfl dX12_go_315 ?_
                                    refine b_any (fun z598 z598_a z598_b => ?_)
                                    refine lv_iconst (v := iI 3) hx hb dX12_go_316 (by decide +kernel) ?_
                                    refine lv_icmp_ge (tgt := 337) hx hb dX12_go_317 (by decide) (fun c_599 => ?_) (fun c_599 => ?_)
                                    · replace c_599 := (iI_le (by decide) (by decide) (Int.le_trans (by decide) z598_a) (Int.le_trans z598_b (by decide))).mp c_599
                                      refine lv_aload_n hx hb dX12_go_337 rfl (lv_at hl 4 rfl) ?_
                                      refine lv_dup hx hb dX12_go_338 rfl ?_
                                      refine r_get (v := .int (iI z544)) M w 0 5 clX12 rfl (by decide) G1468 rfl rfl dX12_go_339 ?_
                                      refine lv_iconst (v := iI 1) hx hb dX12_go_342 (by decide +kernel) ?_
                                      refine r_iadd (v := iI (z544 + 1)) M (iI_add _ _) dX12_go_343 ?_
                                      refine r_put (ws' := [(a0, .inr (11, [.int r0, .ref a1, .int (iI x0), .int (iI x1), .int r1, .int (iI (z544 + 1)), .int (iI z1), .int (iI x3), .int (iI z545), .int r3, .int r4, .int r5, .long fy543, .int (iI x5), .ref a2, .ref a3, .ref a4, .ref a5, .ref a6, .ref a7, .ref a8, .ref a9, .ref a10, .ref a11, .int (iI x6), .ref a12, .ref a13, .ref a14, .ref a15, .int (iI x7), .int r6, .int r7, .ref a16, .int r8, .int r9, .ref a17, .ref a18, .int (iI x8), .ref a19, .int (iI x9), .int r10, .ref a20, .ref a21, .int (iI x10), .int r11, .ref a22, .int (iI x11), .int (iI x12), .int (iI x13), .int (iI x14)])), (a1, .inl (T 0, 940, .inl f0))]) M w 0 5 clX12 rfl (by decide) G1468 rfl rfl rfl rfl (Nat.le_of_ble_eq_true rfl) rfl dX12_go_344 (fun H locs w => ?_)
                                      refine lv_goto (tgt := 215) hx hb dX12_go_347 (by decide) ?_
                                      exact ih2 fy543 (z544 + 1) z545 0 _ _ _ (by omega) (by omega) z545_a z545_b (by decide) (by decide) (by omega) (by omega) w (lv_sub hl [0, 2, 3, 4] rfl)
                                    · replace c_599 : z598 < 3 := Int.not_le.mp (fun h => c_599 ((iI_le (by decide) (by decide) (Int.le_trans (by decide) z598_a) (Int.le_trans z598_b (by decide))).mpr h))
                                      refine lv_aload_n hx hb dX12_go_320 rfl (lv_at hl 4 rfl) ?_
                                      refine lv_bipush (v := iI 10) hx hb dX12_go_321 (by decide +kernel) ?_
                                      refine lv_aload_n hx hb dX12_go_323 rfl (lv_at hl 4 rfl) ?_
                                      refine r_get (v := .int (iI z545)) M w 0 8 clX12 rfl (by decide) G1471 rfl rfl dX12_go_324 ?_
                                      refine r_imul (v := _) M rfl dX12_go_327 ?_
                                      refine b_any (fun z600 z600_a z600_b => ?_)
                                      refine lv_iload hx hb dX12_go_328 (lv_at hl 1 rfl) ?_
                                      refine r_iadd (v := _) M rfl dX12_go_330 ?_
                                      refine b_any (fun z601 z601_a z601_b => ?_)
                                      refine lv_bipush (v := iI 48) hx hb dX12_go_331 (by decide +kernel) ?_
                                      refine r_isub (v := _) M rfl dX12_go_333 ?_
                                      refine b_any (fun z602 z602_a z602_b => ?_)
                                      refine r_put (ws' := [(a0, .inr (11, [.int r0, .ref a1, .int (iI x0), .int (iI x1), .int r1, .int (iI z544), .int (iI z1), .int (iI x3), .int (iI z602), .int r3, .int r4, .int r5, .long fy543, .int (iI x5), .ref a2, .ref a3, .ref a4, .ref a5, .ref a6, .ref a7, .ref a8, .ref a9, .ref a10, .ref a11, .int (iI x6), .ref a12, .ref a13, .ref a14, .ref a15, .int (iI x7), .int r6, .int r7, .ref a16, .int r8, .int r9, .ref a17, .ref a18, .int (iI x8), .ref a19, .int (iI x9), .int r10, .ref a20, .ref a21, .int (iI x10), .int r11, .ref a22, .int (iI x11), .int (iI x12), .int (iI x13), .int (iI x14)])), (a1, .inl (T 0, 940, .inl f0))]) M w 0 8 clX12 rfl (by decide) G1471 rfl rfl rfl rfl (Nat.le_of_ble_eq_true rfl) rfl dX12_go_334 (fun H locs w => ?_)
                                      refine lv_aload_n hx hb dX12_go_337 rfl (lv_at hl 4 rfl) ?_
                                      refine lv_dup hx hb dX12_go_338 rfl ?_
                                      refine r_get (v := .int (iI z544)) M w 0 5 clX12 rfl (by decide) G1468 rfl rfl dX12_go_339 ?_
                                      refine lv_iconst (v := iI 1) hx hb dX12_go_342 (by decide +kernel) ?_
                                      refine r_iadd (v := iI (z544 + 1)) M (iI_add _ _) dX12_go_343 ?_
                                      refine r_put (ws' := [(a0, .inr (11, [.int r0, .ref a1, .int (iI x0), .int (iI x1), .int r1, .int (iI (z544 + 1)), .int (iI z1), .int (iI x3), .int (iI z602), .int r3, .int r4, .int r5, .long fy543, .int (iI x5), .ref a2, .ref a3, .ref a4, .ref a5, .ref a6, .ref a7, .ref a8, .ref a9, .ref a10, .ref a11, .int (iI x6), .ref a12, .ref a13, .ref a14, .ref a15, .int (iI x7), .int r6, .int r7, .ref a16, .int r8, .int r9, .ref a17, .ref a18, .int (iI x8), .ref a19, .int (iI x9), .int r10, .ref a20, .ref a21, .int (iI x10), .int r11, .ref a22, .int (iI x11), .int (iI x12), .int (iI x13), .int (iI x14)])), (a1, .inl (T 0, 940, .inl f0))]) M w 0 5 clX12 rfl (by decide) G1468 rfl rfl rfl rfl (Nat.le_of_ble_eq_true rfl) rfl dX12_go_344 (fun H locs w => ?_)
                                      refine lv_goto (tgt := 215) hx hb dX12_go_347 (by decide) ?_
                                      exact ih2 fy543 (z544 + 1) z602 0 _ _ _ (by omega) (by omega) z602_a z602_b (by decide) (by decide) (by omega) (by omega) w (lv_sub hl [0, 2, 3, 4] rfl)
                                  · replace c_596 : z595 < 7 := Int.not_le.mp (fun h => c_596 ((iI_le (by decide) (by decide) (Int.le_trans (by decide) z595_a) (Int.le_trans z595_b (by decide))).mpr h))
                                    refine lv_aload_n hx hb dX12_go_287 rfl (lv_at hl 4 rfl) ?_
                                    refine lv_ldc2 (v := 27) hx hb M.1.2.2.2.1 (M.1.2.2.2.2 _ G1641) dX12_go_288 ?_
                                    refine lv_aload_n hx hb dX12_go_291 rfl (lv_at hl 4 rfl) ?_
                                    refine r_get (v := .long fy543) M w 0 12 clX12 rfl (by decide) G1475 rfl rfl dX12_go_292 ?_
                                    refine r_lmul (v := _) M rfl dX12_go_295 ?_
                                    refine b_anyl (fun fy603 => ?_)
                                    refine lv_iload hx hb dX12_go_296 (lv_at hl 1 rfl) ?_
                                    refine lv_i2l (v := _) hx hb dX12_go_298 rfl ?_
                                    refine b_anyl (fun fy604 => ?_)
                                    refine r_ladd (v := _) M rfl dX12_go_299 ?_
                                    refine b_anyl (fun fy605 => ?_)
                                    refine lv_ldc2 (v := 96) hx hb M.1.2.2.2.1 (M.1.2.2.2.2 _ G1642) dX12_go_300 ?_
                                    refine r_lsub (v := _) M rfl dX12_go_303 ?_
                                    refine b_anyl (fun fy606 => ?_)
                                    refine r_put (ws' := [(a0, .inr (11, [.int r0, .ref a1, .int (iI x0), .int (iI x1), .int r1, .int (iI z544), .int (iI z1), .int (iI x3), .int (iI z545), .int r3, .int r4, .int r5, .long fy606, .int (iI x5), .ref a2, .ref a3, .ref a4, .ref a5, .ref a6, .ref a7, .ref a8, .ref a9, .ref a10, .ref a11, .int (iI x6), .ref a12, .ref a13, .ref a14, .ref a15, .int (iI x7), .int r6, .int r7, .ref a16, .int r8, .int r9, .ref a17, .ref a18, .int (iI x8), .ref a19, .int (iI x9), .int r10, .ref a20, .ref a21, .int (iI x10), .int r11, .ref a22, .int (iI x11), .int (iI x12), .int (iI x13), .int (iI x14)])), (a1, .inl (T 0, 940, .inl f0))]) M w 0 12 clX12 rfl (by decide) G1475 rfl rfl rfl rfl (Nat.le_of_ble_eq_true rfl) rfl dX12_go_304 (fun H locs w => ?_)
                                    refine lv_aload_n hx hb dX12_go_307 rfl (lv_at hl 4 rfl) ?_
                                    refine r_get (v := .int (iI z544)) M w 0 5 clX12 rfl (by decide) G1468 rfl rfl dX12_go_308 ?_
                                    refine lv_aload_n hx hb dX12_go_311 rfl (lv_at hl 4 rfl) ?_
                                    refine r_get (v := .int (iI z1)) M w 0 6 clX12 rfl (by decide) G1469 rfl rfl dX12_go_312 ?_
                                    refine b_any (fun z607 z607_a z607_b => ?_)
                                    refine r_isub (v := _) M rfl dX12_go_315 ?_
                                    refine b_any (fun z608 z608_a z608_b => ?_)
                                    refine lv_iconst (v := iI 3) hx hb dX12_go_316 (by decide +kernel) ?_
                                    refine lv_icmp_ge (tgt := 337) hx hb dX12_go_317 (by decide) (fun c_609 => ?_) (fun c_609 => ?_)
                                    · replace c_609 := (iI_le (by decide) (by decide) (Int.le_trans (by decide) z608_a) (Int.le_trans z608_b (by decide))).mp c_609
                                      refine lv_aload_n hx hb dX12_go_337 rfl (lv_at hl 4 rfl) ?_
                                      refine lv_dup hx hb dX12_go_338 rfl ?_
                                      refine r_get (v := .int (iI z544)) M w 0 5 clX12 rfl (by decide) G1468 rfl rfl dX12_go_339 ?_
                                      refine lv_iconst (v := iI 1) hx hb dX12_go_342 (by decide +kernel) ?_
                                      refine r_iadd (v := iI (z544 + 1)) M (iI_add _ _) dX12_go_343 ?_
                                      refine r_put (ws' := [(a0, .inr (11, [.int r0, .ref a1, .int (iI x0), .int (iI x1), .int r1, .int (iI (z544 + 1)), .int (iI z1), .int (iI x3), .int (iI z545), .int r3, .int r4, .int r5, .long fy606, .int (iI x5), .ref a2, .ref a3, .ref a4, .ref a5, .ref a6, .ref a7, .ref a8, .ref a9, .ref a10, .ref a11, .int (iI x6), .ref a12, .ref a13, .ref a14, .ref a15, .int (iI x7), .int r6, .int r7, .ref a16, .int r8, .int r9, .ref a17, .ref a18, .int (iI x8), .ref a19, .int (iI x9), .int r10, .ref a20, .ref a21, .int (iI x10), .int r11, .ref a22, .int (iI x11), .int (iI x12), .int (iI x13), .int (iI x14)])), (a1, .inl (T 0, 940, .inl f0))]) M w 0 5 clX12 rfl (by decide) G1468 rfl rfl rfl rfl (Nat.le_of_ble_eq_true rfl) rfl dX12_go_344 (fun H locs w => ?_)
                                      refine lv_goto (tgt := 215) hx hb dX12_go_347 (by decide) ?_
                                      exact ih2 fy606 (z544 + 1) z545 0 _ _ _ (by omega) (by omega) z545_a z545_b (by decide) (by decide) (by omega) (by omega) w (lv_sub hl [0, 2, 3, 4] rfl)
                                    · replace c_609 : z608 < 3 := Int.not_le.mp (fun h => c_609 ((iI_le (by decide) (by decide) (Int.le_trans (by decide) z608_a) (Int.le_trans z608_b (by decide))).mpr h))
                                      refine lv_aload_n hx hb dX12_go_320 rfl (lv_at hl 4 rfl) ?_
                                      refine lv_bipush (v := iI 10) hx hb dX12_go_321 (by decide +kernel) ?_
                                      refine lv_aload_n hx hb dX12_go_323 rfl (lv_at hl 4 rfl) ?_
                                      refine r_get (v := .int (iI z545)) M w 0 8 clX12 rfl (by decide) G1471 rfl rfl dX12_go_324 ?_
                                      refine r_imul (v := _) M rfl dX12_go_327 ?_
                                      refine b_any (fun z610 z610_a z610_b => ?_)
                                      refine lv_iload hx hb dX12_go_328 (lv_at hl 1 rfl) ?_
                                      refine r_iadd (v := _) M rfl dX12_go_330 ?_
                                      refine b_any (fun z611 z611_a z611_b => ?_)
                                      refine lv_bipush (v := iI 48) hx hb dX12_go_331 (by decide +kernel) ?_
                                      refine r_isub (v := _) M rfl dX12_go_333 ?_
                                      refine b_any (fun z612 z612_a z612_b => ?_)
                                      refine r_put (ws' := [(a0, .inr (11, [.int r0, .ref a1, .int (iI x0), .int (iI x1), .int r1, .int (iI z544), .int (iI z1), .int (iI x3), .int (iI z612), .int r3, .int r4, .int r5, .long fy606, .int (iI x5), .ref a2, .ref a3, .ref a4, .ref a5, .ref a6, .ref a7, .ref a8, .ref a9, .ref a10, .ref a11, .int (iI x6), .ref a12, .ref a13, .ref a14, .ref a15, .int (iI x7), .int r6, .int r7, .ref a16, .int r8, .int r9, .ref a17, .ref a18, .int (iI x8), .ref a19, .int (iI x9), .int r10, .ref a20, .ref a21, .int (iI x10), .int r11, .ref a22, .int (iI x11), .int (iI x12), .int (iI x13), .int (iI x14)])), (a1, .inl (T 0, 940, .inl f0))]) M w 0 8 clX12 rfl (by decide) G1471 rfl rfl rfl rfl (Nat.le_of_ble_eq_true rfl) rfl dX12_go_334 (fun H locs w => ?_)
                                      refine lv_aload_n hx hb dX12_go_337 rfl (lv_at hl 4 rfl) ?_
                                      refine lv_dup hx hb dX12_go_338 rfl ?_
                                      refine r_get (v := .int (iI z544)) M w 0 5 clX12 rfl (by decide) G1468 rfl rfl dX12_go_339 ?_
                                      refine lv_iconst (v := iI 1) hx hb dX12_go_342 (by decide +kernel) ?_
                                      refine r_iadd (v := iI (z544 + 1)) M (iI_add _ _) dX12_go_343 ?_
                                      refine r_put (ws' := [(a0, .inr (11, [.int r0, .ref a1, .int (iI x0), .int (iI x1), .int r1, .int (iI (z544 + 1)), .int (iI z1), .int (iI x3), .int (iI z612), .int r3, .int r4, .int r5, .long fy606, .int (iI x5), .ref a2, .ref a3, .ref a4, .ref a5, .ref a6, .ref a7, .ref a8, .ref a9, .ref a10, .ref a11, .int (iI x6), .ref a12, .ref a13, .ref a14, .ref a15, .int (iI x7), .int r6, .int r7, .ref a16, .int r8, .int r9, .ref a17, .ref a18, .int (iI x8), .ref a19, .int (iI x9), .int r10, .ref a20, .ref a21, .int (iI x10), .int r11, .ref a22, .int (iI x11), .int (iI x12), .int (iI x13), .int (iI x14)])), (a1, .inl (T 0, 940, .inl f0))]) M w 0 5 clX12 rfl (by decide) G1468 rfl rfl rfl rfl (Nat.le_of_ble_eq_true rfl) rfl dX12_go_344 (fun H locs w => ?_)
                                      refine lv_goto (tgt := 215) hx hb dX12_go_347 (by decide) ?_
                                      exact ih2 fy606 (z544 + 1) z612 0 _ _ _ (by omega) (by omega) z612_a z612_b (by decide) (by decide) (by omega) (by omega) w (lv_sub hl [0, 2, 3, 4] rfl)
                                · replace c_593 := (iI_eq (Int.le_trans (by decide) z591_a) (Int.le_trans z591_b (by decide)) (Int.le_trans (by decide) z541_a) (Int.le_trans z541_b (by decide))).mp c_593
                                  refine lv_iconst (v := iI 1) hx hb dX12_go_267 (by decide +kernel) ?_
                                  refine lv_goto (tgt := 272) hx hb dX12_go_268 (by decide) ?_
                                  refine lv_istore_n (lv' := [(3, .int (iI 1)), (4, .int (iI z570)), (2, .int (iI z541)), (1, .int (iI z367)), (0, .ref a0)]) hx hb dX12_go_272 rfl hl (by decide) rfl (fun ls hl => ?_)
                                  refine lv_aload_n hx hb dX12_go_273 rfl (lv_at hl 4 rfl) ?_
                                  refine r_get (v := .int (iI z544)) M w 0 5 clX12 rfl (by decide) G1468 rfl rfl dX12_go_274 ?_
                                  refine lv_aload_n hx hb dX12_go_277 rfl (lv_at hl 4 rfl) ?_
                                  refine r_get (v := .int (iI z1)) M w 0 6 clX12 rfl (by decide) G1469 rfl rfl dX12_go_278 ?_
                                  refine b_any (fun z613 z613_a z613_b => ?_)
                                  refine r_isub (v := _) M rfl dX12_go_281 ?_
                                  refine b_any (fun z614 z614_a z614_b => ?_)
                                  refine lv_bipush (v := iI 7) hx hb dX12_go_282 (by decide +kernel) ?_
                                  refine lv_icmp_ge (tgt := 307) hx hb dX12_go_284 (by decide) (fun c_615 => ?_) (fun c_615 => ?_)
                                  · replace c_615 := (iI_le (by decide) (by decide) (Int.le_trans (by decide) z614_a) (Int.le_trans z614_b (by decide))).mp c_615
                                    refine lv_aload_n hx hb dX12_go_307 rfl (lv_at hl 4 rfl) ?_
                                    refine r_get (v := .int (iI z544)) M w 0 5 clX12 rfl (by decide) G1468 rfl rfl dX12_go_308 ?_
                                    refine lv_aload_n hx hb dX12_go_311 rfl (lv_at hl 4 rfl) ?_
                                    refine r_get (v := .int (iI z1)) M w 0 6 clX12 rfl (by decide) G1469 rfl rfl dX12_go_312 ?_
                                    refine b_any (fun z616 z616_a z616_b => ?_)
                                    refine r_isub (v := _) M rfl dX12_go_315 ?_
                                    refine b_any (fun z617 z617_a z617_b => ?_)
                                    refine lv_iconst (v := iI 3) hx hb dX12_go_316 (by decide +kernel) ?_
                                    refine lv_icmp_ge (tgt := 337) hx hb dX12_go_317 (by decide) (fun c_618 => ?_) (fun c_618 => ?_)
                                    · replace c_618 := (iI_le (by decide) (by decide) (Int.le_trans (by decide) z617_a) (Int.le_trans z617_b (by decide))).mp c_618
                                      refine lv_aload_n hx hb dX12_go_337 rfl (lv_at hl 4 rfl) ?_
                                      refine lv_dup hx hb dX12_go_338 rfl ?_
                                      refine r_get (v := .int (iI z544)) M w 0 5 clX12 rfl (by decide) G1468 rfl rfl dX12_go_339 ?_
                                      refine lv_iconst (v := iI 1) hx hb dX12_go_342 (by decide +kernel) ?_
                                      refine r_iadd (v := iI (z544 + 1)) M (iI_add _ _) dX12_go_343 ?_
                                      refine r_put (ws' := [(a0, .inr (11, [.int r0, .ref a1, .int (iI x0), .int (iI x1), .int r1, .int (iI (z544 + 1)), .int (iI z1), .int (iI x3), .int (iI z545), .int r3, .int r4, .int r5, .long fy543, .int (iI x5), .ref a2, .ref a3, .ref a4, .ref a5, .ref a6, .ref a7, .ref a8, .ref a9, .ref a10, .ref a11, .int (iI x6), .ref a12, .ref a13, .ref a14, .ref a15, .int (iI x7), .int r6, .int r7, .ref a16, .int r8, .int r9, .ref a17, .ref a18, .int (iI x8), .ref a19, .int (iI x9), .int r10, .ref a20, .ref a21, .int (iI x10), .int r11, .ref a22, .int (iI x11), .int (iI x12), .int (iI x13), .int (iI x14)])), (a1, .inl (T 0, 940, .inl f0))]) M w 0 5 clX12 rfl (by decide) G1468 rfl rfl rfl rfl (Nat.le_of_ble_eq_true rfl) rfl dX12_go_344 (fun H locs w => ?_)
                                      refine lv_goto (tgt := 215) hx hb dX12_go_347 (by decide) ?_
                                      exact ih2 fy543 (z544 + 1) z545 1 _ _ _ (by omega) (by omega) z545_a z545_b (by decide) (by decide) (by omega) (by omega) w (lv_sub hl [0, 2, 3, 4] rfl)
                                    · replace c_618 : z617 < 3 := Int.not_le.mp (fun h => c_618 ((iI_le (by decide) (by decide) (Int.le_trans (by decide) z617_a) (Int.le_trans z617_b (by decide))).mpr h))
                                      refine lv_aload_n hx hb dX12_go_320 rfl (lv_at hl 4 rfl) ?_
                                      refine lv_bipush (v := iI 10) hx hb dX12_go_321 (by decide +kernel) ?_
                                      refine lv_aload_n hx hb dX12_go_323 rfl (lv_at hl 4 rfl) ?_
                                      refine r_get (v := .int (iI z545)) M w 0 8 clX12 rfl (by decide) G1471 rfl rfl dX12_go_324 ?_
                                      refine r_imul (v := _) M rfl dX12_go_327 ?_
                                      refine b_any (fun z619 z619_a z619_b => ?_)
                                      refine lv_iload hx hb dX12_go_328 (lv_at hl 1 rfl) ?_
                                      refine r_iadd (v := _) M rfl dX12_go_330 ?_
                                      refine b_any (fun z620 z620_a z620_b => ?_)
                                      refine lv_bipush (v := iI 48) hx hb dX12_go_331 (by decide +kernel) ?_
                                      refine r_isub (v := _) M rfl dX12_go_333 ?_
                                      refine b_any (fun z621 z621_a z621_b => ?_)
                                      refine r_put (ws' := [(a0, .inr (11, [.int r0, .ref a1, .int (iI x0), .int (iI x1), .int r1, .int (iI z544), .int (iI z1), .int (iI x3), .int (iI z621), .int r3, .int r4, .int r5, .long fy543, .int (iI x5), .ref a2, .ref a3, .ref a4, .ref a5, .ref a6, .ref a7, .ref a8, .ref a9, .ref a10, .ref a11, .int (iI x6), .ref a12, .ref a13, .ref a14, .ref a15, .int (iI x7), .int r6, .int r7, .ref a16, .int r8, .int r9, .ref a17, .ref a18, .int (iI x8), .ref a19, .int (iI x9), .int r10, .ref a20, .ref a21, .int (iI x10), .int r11, .ref a22, .int (iI x11), .int (iI x12), .int (iI x13), .int (iI x14)])), (a1, .inl (T 0, 940, .inl f0))]) M w 0 8 clX12 rfl (by decide) G1471 rfl rfl rfl rfl (Nat.le_of_ble_eq_true rfl) rfl dX12_go_334 (fun H locs w => ?_)
                                      refine lv_aload_n hx hb dX12_go_337 rfl (lv_at hl 4 rfl) ?_
                                      refine lv_dup hx hb dX12_go_338 rfl ?_
                                      refine r_get (v := .int (iI z544)) M w 0 5 clX12 rfl (by decide) G1468 rfl rfl dX12_go_339 ?_
                                      refine lv_iconst (v := iI 1) hx hb dX12_go_342 (by decide +kernel) ?_
                                      refine r_iadd (v := iI (z544 + 1)) M (iI_add _ _) dX12_go_343 ?_
                                      refine r_put (ws' := [(a0, .inr (11, [.int r0, .ref a1, .int (iI x0), .int (iI x1), .int r1, .int (iI (z544 + 1)), .int (iI z1), .int (iI x3), .int (iI z621), .int r3, .int r4, .int r5, .long fy543, .int (iI x5), .ref a2, .ref a3, .ref a4, .ref a5, .ref a6, .ref a7, .ref a8, .ref a9, .ref a10, .ref a11, .int (iI x6), .ref a12, .ref a13, .ref a14, .ref a15, .int (iI x7), .int r6, .int r7, .ref a16, .int r8, .int r9, .ref a17, .ref a18, .int (iI x8), .ref a19, .int (iI x9), .int r10, .ref a20, .ref a21, .int (iI x10), .int r11, .ref a22, .int (iI x11), .int (iI x12), .int (iI x13), .int (iI x14)])), (a1, .inl (T 0, 940, .inl f0))]) M w 0 5 clX12 rfl (by decide) G1468 rfl rfl rfl rfl (Nat.le_of_ble_eq_true rfl) rfl dX12_go_344 (fun H locs w => ?_)
                                      refine lv_goto (tgt := 215) hx hb dX12_go_347 (by decide) ?_
                                      exact ih2 fy543 (z544 + 1) z621 1 _ _ _ (by omega) (by omega) z621_a z621_b (by decide) (by decide) (by omega) (by omega) w (lv_sub hl [0, 2, 3, 4] rfl)
                                  · replace c_615 : z614 < 7 := Int.not_le.mp (fun h => c_615 ((iI_le (by decide) (by decide) (Int.le_trans (by decide) z614_a) (Int.le_trans z614_b (by decide))).mpr h))
                                    refine lv_aload_n hx hb dX12_go_287 rfl (lv_at hl 4 rfl) ?_
                                    refine lv_ldc2 (v := 27) hx hb M.1.2.2.2.1 (M.1.2.2.2.2 _ G1641) dX12_go_288 ?_
                                    refine lv_aload_n hx hb dX12_go_291 rfl (lv_at hl 4 rfl) ?_
                                    refine r_get (v := .long fy543) M w 0 12 clX12 rfl (by decide) G1475 rfl rfl dX12_go_292 ?_
                                    refine r_lmul (v := _) M rfl dX12_go_295 ?_
                                    refine b_anyl (fun fy622 => ?_)
                                    refine lv_iload hx hb dX12_go_296 (lv_at hl 1 rfl) ?_
                                    refine lv_i2l (v := _) hx hb dX12_go_298 rfl ?_
                                    refine b_anyl (fun fy623 => ?_)
                                    refine r_ladd (v := _) M rfl dX12_go_299 ?_
                                    refine b_anyl (fun fy624 => ?_)
                                    refine lv_ldc2 (v := 96) hx hb M.1.2.2.2.1 (M.1.2.2.2.2 _ G1642) dX12_go_300 ?_
                                    refine r_lsub (v := _) M rfl dX12_go_303 ?_
                                    refine b_anyl (fun fy625 => ?_)
                                    refine r_put (ws' := [(a0, .inr (11, [.int r0, .ref a1, .int (iI x0), .int (iI x1), .int r1, .int (iI z544), .int (iI z1), .int (iI x3), .int (iI z545), .int r3, .int r4, .int r5, .long fy625, .int (iI x5), .ref a2, .ref a3, .ref a4, .ref a5, .ref a6, .ref a7, .ref a8, .ref a9, .ref a10, .ref a11, .int (iI x6), .ref a12, .ref a13, .ref a14, .ref a15, .int (iI x7), .int r6, .int r7, .ref a16, .int r8, .int r9, .ref a17, .ref a18, .int (iI x8), .ref a19, .int (iI x9), .int r10, .ref a20, .ref a21, .int (iI x10), .int r11, .ref a22, .int (iI x11), .int (iI x12), .int (iI x13), .int (iI x14)])), (a1, .inl (T 0, 940, .inl f0))]) M w 0 12 clX12 rfl (by decide) G1475 rfl rfl rfl rfl (Nat.le_of_ble_eq_true rfl) rfl dX12_go_304 (fun H locs w => ?_)
                                    refine lv_aload_n hx hb dX12_go_307 rfl (lv_at hl 4 rfl) ?_
                                    refine r_get (v := .int (iI z544)) M w 0 5 clX12 rfl (by decide) G1468 rfl rfl dX12_go_308 ?_
                                    refine lv_aload_n hx hb dX12_go_311 rfl (lv_at hl 4 rfl) ?_
                                    refine r_get (v := .int (iI z1)) M w 0 6 clX12 rfl (by decide) G1469 rfl rfl dX12_go_312 ?_
                                    refine b_any (fun z626 z626_a z626_b => ?_)
                                    refine r_isub (v := _) M rfl dX12_go_315 ?_
                                    refine b_any (fun z627 z627_a z627_b => ?_)
                                    refine lv_iconst (v := iI 3) hx hb dX12_go_316 (by decide +kernel) ?_
                                    refine lv_icmp_ge (tgt := 337) hx hb dX12_go_317 (by decide) (fun c_628 => ?_) (fun c_628 => ?_)
                                    · replace c_628 := (iI_le (by decide) (by decide) (Int.le_trans (by decide) z627_a) (Int.le_trans z627_b (by decide))).mp c_628
                                      refine lv_aload_n hx hb dX12_go_337 rfl (lv_at hl 4 rfl) ?_
                                      refine lv_dup hx hb dX12_go_338 rfl ?_
                                      refine r_get (v := .int (iI z544)) M w 0 5 clX12 rfl (by decide) G1468 rfl rfl dX12_go_339 ?_
                                      refine lv_iconst (v := iI 1) hx hb dX12_go_342 (by decide +kernel) ?_
                                      refine r_iadd (v := iI (z544 + 1)) M (iI_add _ _) dX12_go_343 ?_
                                      refine r_put (ws' := [(a0, .inr (11, [.int r0, .ref a1, .int (iI x0), .int (iI x1), .int r1, .int (iI (z544 + 1)), .int (iI z1), .int (iI x3), .int (iI z545), .int r3, .int r4, .int r5, .long fy625, .int (iI x5), .ref a2, .ref a3, .ref a4, .ref a5, .ref a6, .ref a7, .ref a8, .ref a9, .ref a10, .ref a11, .int (iI x6), .ref a12, .ref a13, .ref a14, .ref a15, .int (iI x7), .int r6, .int r7, .ref a16, .int r8, .int r9, .ref a17, .ref a18, .int (iI x8), .ref a19, .int (iI x9), .int r10, .ref a20, .ref a21, .int (iI x10), .int r11, .ref a22, .int (iI x11), .int (iI x12), .int (iI x13), .int (iI x14)])), (a1, .inl (T 0, 940, .inl f0))]) M w 0 5 clX12 rfl (by decide) G1468 rfl rfl rfl rfl (Nat.le_of_ble_eq_true rfl) rfl dX12_go_344 (fun H locs w => ?_)
                                      refine lv_goto (tgt := 215) hx hb dX12_go_347 (by decide) ?_
                                      exact ih2 fy625 (z544 + 1) z545 1 _ _ _ (by omega) (by omega) z545_a z545_b (by decide) (by decide) (by omega) (by omega) w (lv_sub hl [0, 2, 3, 4] rfl)
                                    · replace c_628 : z627 < 3 := Int.not_le.mp (fun h => c_628 ((iI_le (by decide) (by decide) (Int.le_trans (by decide) z627_a) (Int.le_trans z627_b (by decide))).mpr h))
                                      refine lv_aload_n hx hb dX12_go_320 rfl (lv_at hl 4 rfl) ?_
                                      refine lv_bipush (v := iI 10) hx hb dX12_go_321 (by decide +kernel) ?_
                                      refine lv_aload_n hx hb dX12_go_323 rfl (lv_at hl 4 rfl) ?_
                                      refine r_get (v := .int (iI z545)) M w 0 8 clX12 rfl (by decide) G1471 rfl rfl dX12_go_324 ?_
                                      refine r_imul (v := _) M rfl dX12_go_327 ?_
                                      refine b_any (fun z629 z629_a z629_b => ?_)
                                      refine lv_iload hx hb dX12_go_328 (lv_at hl 1 rfl) ?_
                                      refine r_iadd (v := _) M rfl dX12_go_330 ?_
                                      refine b_any (fun z630 z630_a z630_b => ?_)
                                      refine lv_bipush (v := iI 48) hx hb dX12_go_331 (by decide +kernel) ?_
                                      refine r_isub (v := _) M rfl dX12_go_333 ?_
                                      refine b_any (fun z631 z631_a z631_b => ?_)
                                      refine r_put (ws' := [(a0, .inr (11, [.int r0, .ref a1, .int (iI x0), .int (iI x1), .int r1, .int (iI z544), .int (iI z1), .int (iI x3), .int (iI z631), .int r3, .int r4, .int r5, .long fy625, .int (iI x5), .ref a2, .ref a3, .ref a4, .ref a5, .ref a6, .ref a7, .ref a8, .ref a9, .ref a10, .ref a11, .int (iI x6), .ref a12, .ref a13, .ref a14, .ref a15, .int (iI x7), .int r6, .int r7, .ref a16, .int r8, .int r9, .ref a17, .ref a18, .int (iI x8), .ref a19, .int (iI x9), .int r10, .ref a20, .ref a21, .int (iI x10), .int r11, .ref a22, .int (iI x11), .int (iI x12), .int (iI x13), .int (iI x14)])), (a1, .inl (T 0, 940, .inl f0))]) M w 0 8 clX12 rfl (by decide) G1471 rfl rfl rfl rfl (Nat.le_of_ble_eq_true rfl) rfl dX12_go_334 (fun H locs w => ?_)
                                      refine lv_aload_n hx hb dX12_go_337 rfl (lv_at hl 4 rfl) ?_
                                      refine lv_dup hx hb dX12_go_338 rfl ?_
                                      refine r_get (v := .int (iI z544)) M w 0 5 clX12 rfl (by decide) G1468 rfl rfl dX12_go_339 ?_
                                      refine lv_iconst (v := iI 1) hx hb dX12_go_342 (by decide +kernel) ?_
                                      refine r_iadd (v := iI (z544 + 1)) M (iI_add _ _) dX12_go_343 ?_
                                      refine r_put (ws' := [(a0, .inr (11, [.int r0, .ref a1, .int (iI x0), .int (iI x1), .int r1, .int (iI (z544 + 1)), .int (iI z1), .int (iI x3), .int (iI z631), .int r3, .int r4, .int r5, .long fy625, .int (iI x5), .ref a2, .ref a3, .ref a4, .ref a5, .ref a6, .ref a7, .ref a8, .ref a9, .ref a10, .ref a11, .int (iI x6), .ref a12, .ref a13, .ref a14, .ref a15, .int (iI x7), .int r6, .int r7, .ref a16, .int r8, .int r9, .ref a17, .ref a18, .int (iI x8), .ref a19, .int (iI x9), .int r10, .ref a20, .ref a21, .int (iI x10), .int r11, .ref a22, .int (iI x11), .int (iI x12), .int (iI x13), .int (iI x14)])), (a1, .inl (T 0, 940, .inl f0))]) M w 0 5 clX12 rfl (by decide) G1468 rfl rfl rfl rfl (Nat.le_of_ble_eq_true rfl) rfl dX12_go_344 (fun H locs w => ?_)
                                      refine lv_goto (tgt := 215) hx hb dX12_go_347 (by decide) ?_
                                      exact ih2 fy625 (z544 + 1) z631 1 _ _ _ (by omega) (by omega) z631_a z631_b (by decide) (by decide) (by omega) (by omega) w (lv_sub hl [0, 2, 3, 4] rfl)
                            · replace c_569 := (iz_eq (Int.le_trans (by decide) z567_a) (Int.le_trans z567_b (by decide))).mp c_569
                              refine lv_aload_n hx hb dX12_go_229 rfl (lv_at hl 3 rfl) ?_
                              refine lv_aload_n hx hb dX12_go_230 rfl (lv_at hl 3 rfl) ?_
                              refine r_get (v := .int (iI z544)) M w 0 5 clX12 rfl (by decide) G1468 rfl rfl dX12_go_231 ?_
                              refine k_I (ce := 0) (sl := 0) (rest := []) (wr := []) (r_V (f := 0) [0, 1] M w V_HookedCityModel_50 G1639 G50 (c9_X12_tapeAt l D T _ a0 z544 r0 a1 x0 x1 r1 z544 (iI z1) x3 z545 r3 r4 r5 fy543 x5 a2 a3 a4 a5 a6 a7 a8 a9 a10 a11 x6 a12 a13 a14 a15 x7 r6 r7 a16 r8 r9 a17 a18 x8 a19 x9 r10 a20 a21 x10 r11 a22 x11 x12 x13 x14 f0 z544_a z544_b x0_a x0_b x1_a x1_b z544_a z544_b x3_a x3_b z545_a z545_b x5_a x5_b x6_a x6_b x7_a x7_b x8_a x8_b x9_a x9_b x10_a x10_b x11_a x11_b x12_a x12_b x13_a x13_b x14_a x14_b) 0 clX12 rfl rfl (by decide) rfl hl.1 rfl (Nat.le_of_ble_eq_true rfl) dX12_go_234 (by decide) (by decide) (by decide) (by decide)) w [0, 1] [] rfl rfl (by decide) (by decide) rfl rfl (fun v z632 H locs hp w => ?_)
                              have hv : iI z632 = v := hp.1
                              subst hv
                              have z632_a : (-2147483648) ≤ z632 := hp.2.1
                              have z632_b : z632 ≤ 2147483647 := hp.2.2.1
                              have w : WD D A s.heap [(a0, .inr (11, [.int r0, .ref a1, .int (iI x0), .int (iI x1), .int r1, .int (iI z544), .int (iI z1), .int (iI x3), .int (iI z545), .int r3, .int r4, .int r5, .long fy543, .int (iI x5), .ref a2, .ref a3, .ref a4, .ref a5, .ref a6, .ref a7, .ref a8, .ref a9, .ref a10, .ref a11, .int (iI x6), .ref a12, .ref a13, .ref a14, .ref a15, .int (iI x7), .int r6, .int r7, .ref a16, .int r8, .int r9, .ref a17, .ref a18, .int (iI x8), .ref a19, .int (iI x9), .int r10, .ref a20, .ref a21, .int (iI x10), .int r11, .ref a22, .int (iI x11), .int (iI x12), .int (iI x13), .int (iI x14)])), (a1, .inl (T 0, 940, .inl f0))] H locs := w
                              rcases hp.2.2.2 with ⟨c_633, hr⟩ | c_634
                              · exfalso; omega
                              · refine k_I (ce := 0) (sl := 0) (rest := []) (wr := [(a0, .inr (11, [.int r0, .ref a1, .int (iI x0), .int (iI x1), .int r1, .int (iI z544), .int (iI z1), .int (iI x3), .int (iI z545), .int r3, .int r4, .int r5, .long fy543, .int (iI x5), .ref a2, .ref a3, .ref a4, .ref a5, .ref a6, .ref a7, .ref a8, .ref a9, .ref a10, .ref a11, .int (iI x6), .ref a12, .ref a13, .ref a14, .ref a15, .int (iI x7), .int r6, .int r7, .ref a16, .int r8, .int r9, .ref a17, .ref a18, .int (iI x8), .ref a19, .int (iI x9), .int r10, .ref a20, .ref a21, .int (iI x10), .int r11, .ref a22, .int (iI x11), .int (iI x12), .int (iI x13), .int (iI x14)])), (a1, .inl (T 0, 940, .inl f0))]) (r_S (f := 0) [] M w V_HookedCityModel_37 G1635 (c10_X12_isDigit l D T _ z632 z632_a z632_b) rfl (by decide) rfl hl.1 rfl (Nat.le_of_ble_eq_true rfl) dX12_go_237 (by decide) (by decide) (by decide) (by decide)) w [] [0, 1] rfl rfl (by decide) (by decide) rfl rfl (fun v z635 H locs hp w => ?_)
                                have hv : iI z635 = v := hp.1
                                subst hv
                                have z635_a : 0 ≤ z635 := hp.2.1
                                have z635_b : z635 ≤ 1 := hp.2.2.1
                                have ee636 : 0 ≤ ((z632 + 4294967296) - (z635 * 4294967344)) := hp.2.2.2
                                have w : WD D A s.heap [(a0, .inr (11, [.int r0, .ref a1, .int (iI x0), .int (iI x1), .int r1, .int (iI z544), .int (iI z1), .int (iI x3), .int (iI z545), .int r3, .int r4, .int r5, .long fy543, .int (iI x5), .ref a2, .ref a3, .ref a4, .ref a5, .ref a6, .ref a7, .ref a8, .ref a9, .ref a10, .ref a11, .int (iI x6), .ref a12, .ref a13, .ref a14, .ref a15, .int (iI x7), .int r6, .int r7, .ref a16, .int r8, .int r9, .ref a17, .ref a18, .int (iI x8), .ref a19, .int (iI x9), .int r10, .ref a20, .ref a21, .int (iI x10), .int r11, .ref a22, .int (iI x11), .int (iI x12), .int (iI x13), .int (iI x14)])), (a1, .inl (T 0, 940, .inl f0))] H locs := w
                                refine lv_if_eq (tgt := 350) hx hb dX12_go_240 (by decide) (fun c_637 => ?_) (fun c_637 => ?_)
                                · replace c_637 := (iz_eq (Int.le_trans (by decide) z635_a) (Int.le_trans z635_b (by decide))).mp c_637
                                  refine lv_aload_n hx hb dX12_go_350 rfl (lv_at hl 3 rfl) ?_
                                  refine lv_iload_n hx hb dX12_go_351 rfl (lv_at hl 0 rfl) ?_
                                  refine lv_if_eq (tgt := 377) hx hb dX12_go_352 (by decide) (fun c_638 => ?_) (fun c_638 => ?_)
                                  · replace c_638 := (iz_eq (Int.le_trans (by decide) z546_a) (Int.le_trans z546_b (by decide))).mp c_638
                                    refine lv_iconst (v := iI 1) hx hb dX12_go_377 (by decide +kernel) ?_
                                    refine lv_goto (tgt := 390) hx hb dX12_go_378 (by decide) ?_
                                    refine r_put (ws' := [(a0, .inr (11, [.int r0, .ref a1, .int (iI x0), .int (iI x1), .int r1, .int (iI z544), .int (iI z1), .int (iI 1), .int (iI z545), .int r3, .int r4, .int r5, .long fy543, .int (iI x5), .ref a2, .ref a3, .ref a4, .ref a5, .ref a6, .ref a7, .ref a8, .ref a9, .ref a10, .ref a11, .int (iI x6), .ref a12, .ref a13, .ref a14, .ref a15, .int (iI x7), .int r6, .int r7, .ref a16, .int r8, .int r9, .ref a17, .ref a18, .int (iI x8), .ref a19, .int (iI x9), .int r10, .ref a20, .ref a21, .int (iI x10), .int r11, .ref a22, .int (iI x11), .int (iI x12), .int (iI x13), .int (iI x14)])), (a1, .inl (T 0, 940, .inl f0))]) M w 0 7 clX12 rfl (by decide) G1470 rfl rfl rfl rfl (Nat.le_of_ble_eq_true rfl) rfl dX12_go_390 (fun H locs w => ?_)
                                    exact ret (z544, (iI z1), 1, z545, r3, fy543) _ _ _ _ _ [0, 1] dX12_go_393 ⟨z544_a, z544_b, (show (0 : Int) ≤ 1 from by decide), (show (1 : Int) ≤ 4 from by decide), z545_a, z545_b, (show 0 ≤ (z544 - x2) from by omega), (show 0 ≤ (((z544 - x2) - 1) + 3) from by omega)⟩ w (by decide) rfl
                                  · replace c_638 : ¬ z546 = 0 := fun h => c_638 ((iz_eq (Int.le_trans (by decide) z546_a) (Int.le_trans z546_b (by decide))).mpr h)
                                    refine lv_aload_n hx hb dX12_go_355 rfl (lv_at hl 3 rfl) ?_
                                    refine r_get (v := .int (iI z544)) M w 0 5 clX12 rfl (by decide) G1468 rfl rfl dX12_go_356 ?_
                                    refine lv_aload_n hx hb dX12_go_359 rfl (lv_at hl 3 rfl) ?_
                                    refine r_get (v := .int (iI z1)) M w 0 6 clX12 rfl (by decide) G1469 rfl rfl dX12_go_360 ?_
                                    refine b_any (fun z639 z639_a z639_b => ?_)
                                    refine r_isub (v := _) M rfl dX12_go_363 ?_
                                    refine b_any (fun z640 z640_a z640_b => ?_)
                                    refine lv_iload_n hx hb dX12_go_364 rfl (lv_at hl 1 rfl) ?_
                                    refine lv_if_eq (tgt := 373) hx hb dX12_go_365 (by decide) (fun c_641 => ?_) (fun c_641 => ?_)
                                    · replace c_641 := (iz_eq (Int.le_trans (by decide) z541_a) (Int.le_trans z541_b (by decide))).mp c_641
                                      refine lv_iconst (v := iI 3) hx hb dX12_go_373 (by decide +kernel) ?_
                                      refine lv_icmp_le (tgt := 381) hx hb dX12_go_374 (by decide) (fun c_642 => ?_) (fun c_642 => ?_)
                                      · replace c_642 := (iI_le (Int.le_trans (by decide) z640_a) (Int.le_trans z640_b (by decide)) (by decide) (by decide)).mp c_642
                                        refine lv_iload_n hx hb dX12_go_381 rfl (lv_at hl 1 rfl) ?_
                                        refine lv_if_eq (tgt := 389) hx hb dX12_go_382 (by decide) (fun c_643 => ?_) (fun c_643 => ?_)
                                        · replace c_643 := (iz_eq (Int.le_trans (by decide) z541_a) (Int.le_trans z541_b (by decide))).mp c_643
                                          refine lv_iconst (v := iI 3) hx hb dX12_go_389 (by decide +kernel) ?_
                                          refine r_put (ws' := [(a0, .inr (11, [.int r0, .ref a1, .int (iI x0), .int (iI x1), .int r1, .int (iI z544), .int (iI z1), .int (iI 3), .int (iI z545), .int r3, .int r4, .int r5, .long fy543, .int (iI x5), .ref a2, .ref a3, .ref a4, .ref a5, .ref a6, .ref a7, .ref a8, .ref a9, .ref a10, .ref a11, .int (iI x6), .ref a12, .ref a13, .ref a14, .ref a15, .int (iI x7), .int r6, .int r7, .ref a16, .int r8, .int r9, .ref a17, .ref a18, .int (iI x8), .ref a19, .int (iI x9), .int r10, .ref a20, .ref a21, .int (iI x10), .int r11, .ref a22, .int (iI x11), .int (iI x12), .int (iI x13), .int (iI x14)])), (a1, .inl (T 0, 940, .inl f0))]) M w 0 7 clX12 rfl (by decide) G1470 rfl rfl rfl rfl (Nat.le_of_ble_eq_true rfl) rfl dX12_go_390 (fun H locs w => ?_)
                                          exact ret (z544, (iI z1), 3, z545, r3, fy543) _ _ _ _ _ [0, 1] dX12_go_393 ⟨z544_a, z544_b, (show (0 : Int) ≤ 3 from by decide), (show (3 : Int) ≤ 4 from by decide), z545_a, z545_b, (show 0 ≤ (z544 - x2) from by omega), (show 0 ≤ (((z544 - x2) - 3) + 3) from by omega)⟩ w (by decide) rfl
                                        · replace c_643 : ¬ z541 = 0 := fun h => c_643 ((iz_eq (Int.le_trans (by decide) z541_a) (Int.le_trans z541_b (by decide))).mpr h)
                                          exfalso; omega
                                      · replace c_642 : 3 < z640 := Int.not_le.mp (fun h => c_642 ((iI_le (Int.le_trans (by decide) z640_a) (Int.le_trans z640_b (by decide)) (by decide) (by decide)).mpr h))
                                        refine lv_iconst (v := iI 1) hx hb dX12_go_377 (by decide +kernel) ?_
                                        refine lv_goto (tgt := 390) hx hb dX12_go_378 (by decide) ?_
                                        refine r_put (ws' := [(a0, .inr (11, [.int r0, .ref a1, .int (iI x0), .int (iI x1), .int r1, .int (iI z544), .int (iI z1), .int (iI 1), .int (iI z545), .int r3, .int r4, .int r5, .long fy543, .int (iI x5), .ref a2, .ref a3, .ref a4, .ref a5, .ref a6, .ref a7, .ref a8, .ref a9, .ref a10, .ref a11, .int (iI x6), .ref a12, .ref a13, .ref a14, .ref a15, .int (iI x7), .int r6, .int r7, .ref a16, .int r8, .int r9, .ref a17, .ref a18, .int (iI x8), .ref a19, .int (iI x9), .int r10, .ref a20, .ref a21, .int (iI x10), .int r11, .ref a22, .int (iI x11), .int (iI x12), .int (iI x13), .int (iI x14)])), (a1, .inl (T 0, 940, .inl f0))]) M w 0 7 clX12 rfl (by decide) G1470 rfl rfl rfl rfl (Nat.le_of_ble_eq_true rfl) rfl dX12_go_390 (fun H locs w => ?_)
                                        exact ret (z544, (iI z1), 1, z545, r3, fy543) _ _ _ _ _ [0, 1] dX12_go_393 ⟨z544_a, z544_b, (show (0 : Int) ≤ 1 from by decide), (show (1 : Int) ≤ 4 from by decide), z545_a, z545_b, (show 0 ≤ (z544 - x2) from by omega), (show 0 ≤ (((z544 - x2) - 1) + 3) from by omega)⟩ w (by decide) rfl
                                    · replace c_641 : ¬ z541 = 0 := fun h => c_641 ((iz_eq (Int.le_trans (by decide) z541_a) (Int.le_trans z541_b (by decide))).mpr h)
                                      refine lv_bipush (v := iI 7) hx hb dX12_go_368 (by decide +kernel) ?_
                                      refine lv_goto (tgt := 374) hx hb dX12_go_370 (by decide) ?_
                                      refine lv_icmp_le (tgt := 381) hx hb dX12_go_374 (by decide) (fun c_644 => ?_) (fun c_644 => ?_)
                                      · replace c_644 := (iI_le (Int.le_trans (by decide) z640_a) (Int.le_trans z640_b (by decide)) (by decide) (by decide)).mp c_644
                                        refine lv_iload_n hx hb dX12_go_381 rfl (lv_at hl 1 rfl) ?_
                                        refine lv_if_eq (tgt := 389) hx hb dX12_go_382 (by decide) (fun c_645 => ?_) (fun c_645 => ?_)
                                        · replace c_645 := (iz_eq (Int.le_trans (by decide) z541_a) (Int.le_trans z541_b (by decide))).mp c_645
                                          exfalso; omega
                                        · replace c_645 : ¬ z541 = 0 := fun h => c_645 ((iz_eq (Int.le_trans (by decide) z541_a) (Int.le_trans z541_b (by decide))).mpr h)
                                          refine lv_iconst (v := iI 2) hx hb dX12_go_385 (by decide +kernel) ?_
                                          refine lv_goto (tgt := 390) hx hb dX12_go_386 (by decide) ?_
                                          refine r_put (ws' := [(a0, .inr (11, [.int r0, .ref a1, .int (iI x0), .int (iI x1), .int r1, .int (iI z544), .int (iI z1), .int (iI 2), .int (iI z545), .int r3, .int r4, .int r5, .long fy543, .int (iI x5), .ref a2, .ref a3, .ref a4, .ref a5, .ref a6, .ref a7, .ref a8, .ref a9, .ref a10, .ref a11, .int (iI x6), .ref a12, .ref a13, .ref a14, .ref a15, .int (iI x7), .int r6, .int r7, .ref a16, .int r8, .int r9, .ref a17, .ref a18, .int (iI x8), .ref a19, .int (iI x9), .int r10, .ref a20, .ref a21, .int (iI x10), .int r11, .ref a22, .int (iI x11), .int (iI x12), .int (iI x13), .int (iI x14)])), (a1, .inl (T 0, 940, .inl f0))]) M w 0 7 clX12 rfl (by decide) G1470 rfl rfl rfl rfl (Nat.le_of_ble_eq_true rfl) rfl dX12_go_390 (fun H locs w => ?_)
                                          exact ret (z544, (iI z1), 2, z545, r3, fy543) _ _ _ _ _ [0, 1] dX12_go_393 ⟨z544_a, z544_b, (show (0 : Int) ≤ 2 from by decide), (show (2 : Int) ≤ 4 from by decide), z545_a, z545_b, (show 0 ≤ (z544 - x2) from by omega), (show 0 ≤ (((z544 - x2) - 2) + 3) from by omega)⟩ w (by decide) rfl
                                      · replace c_644 : 7 < z640 := Int.not_le.mp (fun h => c_644 ((iI_le (Int.le_trans (by decide) z640_a) (Int.le_trans z640_b (by decide)) (by decide) (by decide)).mpr h))
                                        refine lv_iconst (v := iI 1) hx hb dX12_go_377 (by decide +kernel) ?_
                                        refine lv_goto (tgt := 390) hx hb dX12_go_378 (by decide) ?_
                                        refine r_put (ws' := [(a0, .inr (11, [.int r0, .ref a1, .int (iI x0), .int (iI x1), .int r1, .int (iI z544), .int (iI z1), .int (iI 1), .int (iI z545), .int r3, .int r4, .int r5, .long fy543, .int (iI x5), .ref a2, .ref a3, .ref a4, .ref a5, .ref a6, .ref a7, .ref a8, .ref a9, .ref a10, .ref a11, .int (iI x6), .ref a12, .ref a13, .ref a14, .ref a15, .int (iI x7), .int r6, .int r7, .ref a16, .int r8, .int r9, .ref a17, .ref a18, .int (iI x8), .ref a19, .int (iI x9), .int r10, .ref a20, .ref a21, .int (iI x10), .int r11, .ref a22, .int (iI x11), .int (iI x12), .int (iI x13), .int (iI x14)])), (a1, .inl (T 0, 940, .inl f0))]) M w 0 7 clX12 rfl (by decide) G1470 rfl rfl rfl rfl (Nat.le_of_ble_eq_true rfl) rfl dX12_go_390 (fun H locs w => ?_)
                                        exact ret (z544, (iI z1), 1, z545, r3, fy543) _ _ _ _ _ [0, 1] dX12_go_393 ⟨z544_a, z544_b, (show (0 : Int) ≤ 1 from by decide), (show (1 : Int) ≤ 4 from by decide), z545_a, z545_b, (show 0 ≤ (z544 - x2) from by omega), (show 0 ≤ (((z544 - x2) - 1) + 3) from by omega)⟩ w (by decide) rfl
                                · replace c_637 : ¬ z635 = 0 := fun h => c_637 ((iz_eq (Int.le_trans (by decide) z635_a) (Int.le_trans z635_b (by decide))).mpr h)
                                  refine lv_aload_n hx hb dX12_go_243 rfl (lv_at hl 3 rfl) ?_
                                  refine r_get (v := .ref a1) M w 0 1 clX12 rfl (by decide) G1464 rfl rfl dX12_go_244 ?_
                                  refine lv_aload_n hx hb dX12_go_247 rfl (lv_at hl 3 rfl) ?_
                                  refine r_get (v := .int (iI z544)) M w 0 5 clX12 rfl (by decide) G1468 rfl rfl dX12_go_248 ?_
                                  refine r_iald (v := _) M w 1 rfl (iI_in (by omega) (by omega) (by decide)) rfl dX12_go_251 ?_
                                  refine b_any (fun z646 z646_a z646_b => ?_)
                                  refine lv_istore (lv' := [(4, .int (iI z646)), (3, .int (iI z546)), (2, .int (iI z541)), (1, .int (iI z367)), (0, .ref a0)]) hx hb dX12_go_252 hl (by decide) rfl (fun ls hl => ?_)
                                  refine lv_iload_n hx hb dX12_go_254 rfl (lv_at hl 1 rfl) ?_
                                  refine lv_if_eq (tgt := 271) hx hb dX12_go_255 (by decide) (fun c_647 => ?_) (fun c_647 => ?_)
                                  · replace c_647 := (iz_eq (Int.le_trans (by decide) z546_a) (Int.le_trans z546_b (by decide))).mp c_647
                                    refine lv_iconst (v := iI 0) hx hb dX12_go_271 (by decide +kernel) ?_
                                    refine lv_istore_n (lv' := [(3, .int (iI 0)), (4, .int (iI z646)), (2, .int (iI z541)), (1, .int (iI z367)), (0, .ref a0)]) hx hb dX12_go_272 rfl hl (by decide) rfl (fun ls hl => ?_)
                                    refine lv_aload_n hx hb dX12_go_273 rfl (lv_at hl 4 rfl) ?_
                                    refine r_get (v := .int (iI z544)) M w 0 5 clX12 rfl (by decide) G1468 rfl rfl dX12_go_274 ?_
                                    refine lv_aload_n hx hb dX12_go_277 rfl (lv_at hl 4 rfl) ?_
                                    refine r_get (v := .int (iI z1)) M w 0 6 clX12 rfl (by decide) G1469 rfl rfl dX12_go_278 ?_
                                    refine b_any (fun z648 z648_a z648_b => ?_)
                                    refine r_isub (v := _) M rfl dX12_go_281 ?_
                                    refine b_any (fun z649 z649_a z649_b => ?_)
                                    refine lv_bipush (v := iI 7) hx hb dX12_go_282 (by decide +kernel) ?_
                                    refine lv_icmp_ge (tgt := 307) hx hb dX12_go_284 (by decide) (fun c_650 => ?_) (fun c_650 => ?_)
                                    · replace c_650 := (iI_le (by decide) (by decide) (Int.le_trans (by decide) z649_a) (Int.le_trans z649_b (by decide))).mp c_650
                                      refine lv_aload_n hx hb dX12_go_307 rfl (lv_at hl 4 rfl) ?_
                                      refine r_get (v := .int (iI z544)) M w 0 5 clX12 rfl (by decide) G1468 rfl rfl dX12_go_308 ?_
                                      refine lv_aload_n hx hb dX12_go_311 rfl (lv_at hl 4 rfl) ?_
                                      refine r_get (v := .int (iI z1)) M w 0 6 clX12 rfl (by decide) G1469 rfl rfl dX12_go_312 ?_
                                      refine b_any (fun z651 z651_a z651_b => ?_)
                                      refine r_isub (v := _) M rfl dX12_go_315 ?_
                                      refine b_any (fun z652 z652_a z652_b => ?_)
                                      refine lv_iconst (v := iI 3) hx hb dX12_go_316 (by decide +kernel) ?_
                                      refine lv_icmp_ge (tgt := 337) hx hb dX12_go_317 (by decide) (fun c_653 => ?_) (fun c_653 => ?_)
                                      · replace c_653 := (iI_le (by decide) (by decide) (Int.le_trans (by decide) z652_a) (Int.le_trans z652_b (by decide))).mp c_653
                                        refine lv_aload_n hx hb dX12_go_337 rfl (lv_at hl 4 rfl) ?_
                                        refine lv_dup hx hb dX12_go_338 rfl ?_
                                        refine r_get (v := .int (iI z544)) M w 0 5 clX12 rfl (by decide) G1468 rfl rfl dX12_go_339 ?_
                                        refine lv_iconst (v := iI 1) hx hb dX12_go_342 (by decide +kernel) ?_
                                        refine r_iadd (v := iI (z544 + 1)) M (iI_add _ _) dX12_go_343 ?_
                                        refine r_put (ws' := [(a0, .inr (11, [.int r0, .ref a1, .int (iI x0), .int (iI x1), .int r1, .int (iI (z544 + 1)), .int (iI z1), .int (iI x3), .int (iI z545), .int r3, .int r4, .int r5, .long fy543, .int (iI x5), .ref a2, .ref a3, .ref a4, .ref a5, .ref a6, .ref a7, .ref a8, .ref a9, .ref a10, .ref a11, .int (iI x6), .ref a12, .ref a13, .ref a14, .ref a15, .int (iI x7), .int r6, .int r7, .ref a16, .int r8, .int r9, .ref a17, .ref a18, .int (iI x8), .ref a19, .int (iI x9), .int r10, .ref a20, .ref a21, .int (iI x10), .int r11, .ref a22, .int (iI x11), .int (iI x12), .int (iI x13), .int (iI x14)])), (a1, .inl (T 0, 940, .inl f0))]) M w 0 5 clX12 rfl (by decide) G1468 rfl rfl rfl rfl (Nat.le_of_ble_eq_true rfl) rfl dX12_go_344 (fun H locs w => ?_)
                                        refine lv_goto (tgt := 215) hx hb dX12_go_347 (by decide) ?_
                                        exact ih2 fy543 (z544 + 1) z545 0 _ _ _ (by omega) (by omega) z545_a z545_b (by decide) (by decide) (by omega) (by omega) w (lv_sub hl [0, 2, 3, 4] rfl)
                                      · replace c_653 : z652 < 3 := Int.not_le.mp (fun h => c_653 ((iI_le (by decide) (by decide) (Int.le_trans (by decide) z652_a) (Int.le_trans z652_b (by decide))).mpr h))
                                        refine lv_aload_n hx hb dX12_go_320 rfl (lv_at hl 4 rfl) ?_
                                        refine lv_bipush (v := iI 10) hx hb dX12_go_321 (by decide +kernel) ?_
                                        refine lv_aload_n hx hb dX12_go_323 rfl (lv_at hl 4 rfl) ?_
                                        refine r_get (v := .int (iI z545)) M w 0 8 clX12 rfl (by decide) G1471 rfl rfl dX12_go_324 ?_
                                        refine r_imul (v := _) M rfl dX12_go_327 ?_
                                        refine b_any (fun z654 z654_a z654_b => ?_)
                                        refine lv_iload hx hb dX12_go_328 (lv_at hl 1 rfl) ?_
                                        refine r_iadd (v := _) M rfl dX12_go_330 ?_
                                        refine b_any (fun z655 z655_a z655_b => ?_)
                                        refine lv_bipush (v := iI 48) hx hb dX12_go_331 (by decide +kernel) ?_
                                        refine r_isub (v := _) M rfl dX12_go_333 ?_
                                        refine b_any (fun z656 z656_a z656_b => ?_)
                                        refine r_put (ws' := [(a0, .inr (11, [.int r0, .ref a1, .int (iI x0), .int (iI x1), .int r1, .int (iI z544), .int (iI z1), .int (iI x3), .int (iI z656), .int r3, .int r4, .int r5, .long fy543, .int (iI x5), .ref a2, .ref a3, .ref a4, .ref a5, .ref a6, .ref a7, .ref a8, .ref a9, .ref a10, .ref a11, .int (iI x6), .ref a12, .ref a13, .ref a14, .ref a15, .int (iI x7), .int r6, .int r7, .ref a16, .int r8, .int r9, .ref a17, .ref a18, .int (iI x8), .ref a19, .int (iI x9), .int r10, .ref a20, .ref a21, .int (iI x10), .int r11, .ref a22, .int (iI x11), .int (iI x12), .int (iI x13), .int (iI x14)])), (a1, .inl (T 0, 940, .inl f0))]) M w 0 8 clX12 rfl (by decide) G1471 rfl rfl rfl rfl (Nat.le_of_ble_eq_true rfl) rfl dX12_go_334 (fun H locs w => ?_)
                                        refine lv_aload_n hx hb dX12_go_337 rfl (lv_at hl 4 rfl) ?_
                                        refine lv_dup hx hb dX12_go_338 rfl ?_
                                        refine r_get (v := .int (iI z544)) M w 0 5 clX12 rfl (by decide) G1468 rfl rfl dX12_go_339 ?_
                                        refine lv_iconst (v := iI 1) hx hb dX12_go_342 (by decide +kernel) ?_
                                        refine r_iadd (v := iI (z544 + 1)) M (iI_add _ _) dX12_go_343 ?_
                                        refine r_put (ws' := [(a0, .inr (11, [.int r0, .ref a1, .int (iI x0), .int (iI x1), .int r1, .int (iI (z544 + 1)), .int (iI z1), .int (iI x3), .int (iI z656), .int r3, .int r4, .int r5, .long fy543, .int (iI x5), .ref a2, .ref a3, .ref a4, .ref a5, .ref a6, .ref a7, .ref a8, .ref a9, .ref a10, .ref a11, .int (iI x6), .ref a12, .ref a13, .ref a14, .ref a15, .int (iI x7), .int r6, .int r7, .ref a16, .int r8, .int r9, .ref a17, .ref a18, .int (iI x8), .ref a19, .int (iI x9), .int r10, .ref a20, .ref a21, .int (iI x10), .int r11, .ref a22, .int (iI x11), .int (iI x12), .int (iI x13), .int (iI x14)])), (a1, .inl (T 0, 940, .inl f0))]) M w 0 5 clX12 rfl (by decide) G1468 rfl rfl rfl rfl (Nat.le_of_ble_eq_true rfl) rfl dX12_go_344 (fun H locs w => ?_)
                                        refine lv_goto (tgt := 215) hx hb dX12_go_347 (by decide) ?_
                                        exact ih2 fy543 (z544 + 1) z656 0 _ _ _ (by omega) (by omega) z656_a z656_b (by decide) (by decide) (by omega) (by omega) w (lv_sub hl [0, 2, 3, 4] rfl)
                                    · replace c_650 : z649 < 7 := Int.not_le.mp (fun h => c_650 ((iI_le (by decide) (by decide) (Int.le_trans (by decide) z649_a) (Int.le_trans z649_b (by decide))).mpr h))
                                      refine lv_aload_n hx hb dX12_go_287 rfl (lv_at hl 4 rfl) ?_
                                      refine lv_ldc2 (v := 27) hx hb M.1.2.2.2.1 (M.1.2.2.2.2 _ G1641) dX12_go_288 ?_
                                      refine lv_aload_n hx hb dX12_go_291 rfl (lv_at hl 4 rfl) ?_
                                      refine r_get (v := .long fy543) M w 0 12 clX12 rfl (by decide) G1475 rfl rfl dX12_go_292 ?_
                                      refine r_lmul (v := _) M rfl dX12_go_295 ?_
                                      refine b_anyl (fun fy657 => ?_)
                                      refine lv_iload hx hb dX12_go_296 (lv_at hl 1 rfl) ?_
                                      refine lv_i2l (v := _) hx hb dX12_go_298 rfl ?_
                                      refine b_anyl (fun fy658 => ?_)
                                      refine r_ladd (v := _) M rfl dX12_go_299 ?_
                                      refine b_anyl (fun fy659 => ?_)
                                      refine lv_ldc2 (v := 96) hx hb M.1.2.2.2.1 (M.1.2.2.2.2 _ G1642) dX12_go_300 ?_
                                      refine r_lsub (v := _) M rfl dX12_go_303 ?_
                                      refine b_anyl (fun fy660 => ?_)
                                      refine r_put (ws' := [(a0, .inr (11, [.int r0, .ref a1, .int (iI x0), .int (iI x1), .int r1, .int (iI z544), .int (iI z1), .int (iI x3), .int (iI z545), .int r3, .int r4, .int r5, .long fy660, .int (iI x5), .ref a2, .ref a3, .ref a4, .ref a5, .ref a6, .ref a7, .ref a8, .ref a9, .ref a10, .ref a11, .int (iI x6), .ref a12, .ref a13, .ref a14, .ref a15, .int (iI x7), .int r6, .int r7, .ref a16, .int r8, .int r9, .ref a17, .ref a18, .int (iI x8), .ref a19, .int (iI x9), .int r10, .ref a20, .ref a21, .int (iI x10), .int r11, .ref a22, .int (iI x11), .int (iI x12), .int (iI x13), .int (iI x14)])), (a1, .inl (T 0, 940, .inl f0))]) M w 0 12 clX12 rfl (by decide) G1475 rfl rfl rfl rfl (Nat.le_of_ble_eq_true rfl) rfl dX12_go_304 (fun H locs w => ?_)
                                      refine lv_aload_n hx hb dX12_go_307 rfl (lv_at hl 4 rfl) ?_
                                      refine r_get (v := .int (iI z544)) M w 0 5 clX12 rfl (by decide) G1468 rfl rfl dX12_go_308 ?_
                                      refine lv_aload_n hx hb dX12_go_311 rfl (lv_at hl 4 rfl) ?_
                                      refine r_get (v := .int (iI z1)) M w 0 6 clX12 rfl (by decide) G1469 rfl rfl dX12_go_312 ?_
                                      refine b_any (fun z661 z661_a z661_b => ?_)
                                      refine r_isub (v := _) M rfl dX12_go_315 ?_
                                      refine b_any (fun z662 z662_a z662_b => ?_)
                                      refine lv_iconst (v := iI 3) hx hb dX12_go_316 (by decide +kernel) ?_
                                      refine lv_icmp_ge (tgt := 337) hx hb dX12_go_317 (by decide) (fun c_663 => ?_) (fun c_663 => ?_)
                                      · replace c_663 := (iI_le (by decide) (by decide) (Int.le_trans (by decide) z662_a) (Int.le_trans z662_b (by decide))).mp c_663
                                        refine lv_aload_n hx hb dX12_go_337 rfl (lv_at hl 4 rfl) ?_
                                        refine lv_dup hx hb dX12_go_338 rfl ?_
                                        refine r_get (v := .int (iI z544)) M w 0 5 clX12 rfl (by decide) G1468 rfl rfl dX12_go_339 ?_
                                        refine lv_iconst (v := iI 1) hx hb dX12_go_342 (by decide +kernel) ?_
                                        refine r_iadd (v := iI (z544 + 1)) M (iI_add _ _) dX12_go_343 ?_
                                        refine r_put (ws' := [(a0, .inr (11, [.int r0, .ref a1, .int (iI x0), .int (iI x1), .int r1, .int (iI (z544 + 1)), .int (iI z1), .int (iI x3), .int (iI z545), .int r3, .int r4, .int r5, .long fy660, .int (iI x5), .ref a2, .ref a3, .ref a4, .ref a5, .ref a6, .ref a7, .ref a8, .ref a9, .ref a10, .ref a11, .int (iI x6), .ref a12, .ref a13, .ref a14, .ref a15, .int (iI x7), .int r6, .int r7, .ref a16, .int r8, .int r9, .ref a17, .ref a18, .int (iI x8), .ref a19, .int (iI x9), .int r10, .ref a20, .ref a21, .int (iI x10), .int r11, .ref a22, .int (iI x11), .int (iI x12), .int (iI x13), .int (iI x14)])), (a1, .inl (T 0, 940, .inl f0))]) M w 0 5 clX12 rfl (by decide) G1468 rfl rfl rfl rfl (Nat.le_of_ble_eq_true rfl) rfl dX12_go_344 (fun H locs w => ?_)
                                        refine lv_goto (tgt := 215) hx hb dX12_go_347 (by decide) ?_
                                        exact ih2 fy660 (z544 + 1) z545 0 _ _ _ (by omega) (by omega) z545_a z545_b (by decide) (by decide) (by omega) (by omega) w (lv_sub hl [0, 2, 3, 4] rfl)
                                      · replace c_663 : z662 < 3 := Int.not_le.mp (fun h => c_663 ((iI_le (by decide) (by decide) (Int.le_trans (by decide) z662_a) (Int.le_trans z662_b (by decide))).mpr h))
                                        refine lv_aload_n hx hb dX12_go_320 rfl (lv_at hl 4 rfl) ?_
                                        refine lv_bipush (v := iI 10) hx hb dX12_go_321 (by decide +kernel) ?_
                                        refine lv_aload_n hx hb dX12_go_323 rfl (lv_at hl 4 rfl) ?_
                                        refine r_get (v := .int (iI z545)) M w 0 8 clX12 rfl (by decide) G1471 rfl rfl dX12_go_324 ?_
                                        refine r_imul (v := _) M rfl dX12_go_327 ?_
                                        refine b_any (fun z664 z664_a z664_b => ?_)
                                        refine lv_iload hx hb dX12_go_328 (lv_at hl 1 rfl) ?_
                                        refine r_iadd (v := _) M rfl dX12_go_330 ?_
                                        refine b_any (fun z665 z665_a z665_b => ?_)
                                        refine lv_bipush (v := iI 48) hx hb dX12_go_331 (by decide +kernel) ?_
                                        refine r_isub (v := _) M rfl dX12_go_333 ?_
                                        refine b_any (fun z666 z666_a z666_b => ?_)
                                        refine r_put (ws' := [(a0, .inr (11, [.int r0, .ref a1, .int (iI x0), .int (iI x1), .int r1, .int (iI z544), .int (iI z1), .int (iI x3), .int (iI z666), .int r3, .int r4, .int r5, .long fy660, .int (iI x5), .ref a2, .ref a3, .ref a4, .ref a5, .ref a6, .ref a7, .ref a8, .ref a9, .ref a10, .ref a11, .int (iI x6), .ref a12, .ref a13, .ref a14, .ref a15, .int (iI x7), .int r6, .int r7, .ref a16, .int r8, .int r9, .ref a17, .ref a18, .int (iI x8), .ref a19, .int (iI x9), .int r10, .ref a20, .ref a21, .int (iI x10), .int r11, .ref a22, .int (iI x11), .int (iI x12), .int (iI x13), .int (iI x14)])), (a1, .inl (T 0, 940, .inl f0))]) M w 0 8 clX12 rfl (by decide) G1471 rfl rfl rfl rfl (Nat.le_of_ble_eq_true rfl) rfl dX12_go_334 (fun H locs w => ?_)
                                        refine lv_aload_n hx hb dX12_go_337 rfl (lv_at hl 4 rfl) ?_
                                        refine lv_dup hx hb dX12_go_338 rfl ?_
                                        refine r_get (v := .int (iI z544)) M w 0 5 clX12 rfl (by decide) G1468 rfl rfl dX12_go_339 ?_
                                        refine lv_iconst (v := iI 1) hx hb dX12_go_342 (by decide +kernel) ?_
                                        refine r_iadd (v := iI (z544 + 1)) M (iI_add _ _) dX12_go_343 ?_
                                        refine r_put (ws' := [(a0, .inr (11, [.int r0, .ref a1, .int (iI x0), .int (iI x1), .int r1, .int (iI (z544 + 1)), .int (iI z1), .int (iI x3), .int (iI z666), .int r3, .int r4, .int r5, .long fy660, .int (iI x5), .ref a2, .ref a3, .ref a4, .ref a5, .ref a6, .ref a7, .ref a8, .ref a9, .ref a10, .ref a11, .int (iI x6), .ref a12, .ref a13, .ref a14, .ref a15, .int (iI x7), .int r6, .int r7, .ref a16, .int r8, .int r9, .ref a17, .ref a18, .int (iI x8), .ref a19, .int (iI x9), .int r10, .ref a20, .ref a21, .int (iI x10), .int r11, .ref a22, .int (iI x11), .int (iI x12), .int (iI x13), .int (iI x14)])), (a1, .inl (T 0, 940, .inl f0))]) M w 0 5 clX12 rfl (by decide) G1468 rfl rfl rfl rfl (Nat.le_of_ble_eq_true rfl) rfl dX12_go_344 (fun H locs w => ?_)
                                        refine lv_goto (tgt := 215) hx hb dX12_go_347 (by decide) ?_
                                        exact ih2 fy660 (z544 + 1) z666 0 _ _ _ (by omega) (by omega) z666_a z666_b (by decide) (by decide) (by omega) (by omega) w (lv_sub hl [0, 2, 3, 4] rfl)
                                  · replace c_647 : ¬ z546 = 0 := fun h => c_647 ((iz_eq (Int.le_trans (by decide) z546_a) (Int.le_trans z546_b (by decide))).mpr h)
                                    refine lv_iload hx hb dX12_go_258 (lv_at hl 0 rfl) ?_
                                    refine k_I (ce := 0) (sl := 0) (rest := []) (wr := [(a0, .inr (11, [.int r0, .ref a1, .int (iI x0), .int (iI x1), .int r1, .int (iI z544), .int (iI z1), .int (iI x3), .int (iI z545), .int r3, .int r4, .int r5, .long fy543, .int (iI x5), .ref a2, .ref a3, .ref a4, .ref a5, .ref a6, .ref a7, .ref a8, .ref a9, .ref a10, .ref a11, .int (iI x6), .ref a12, .ref a13, .ref a14, .ref a15, .int (iI x7), .int r6, .int r7, .ref a16, .int r8, .int r9, .ref a17, .ref a18, .int (iI x8), .ref a19, .int (iI x9), .int r10, .ref a20, .ref a21, .int (iI x10), .int r11, .ref a22, .int (iI x11), .int (iI x12), .int (iI x13), .int (iI x14)])), (a1, .inl (T 0, 940, .inl f0))]) (r_S (f := 0) [] M w V_HookedCityModel_33 G1632 (c11_X12_isLetter l D T _ z646 z646_a z646_b) rfl (by decide) rfl hl.1 rfl (Nat.le_of_ble_eq_true rfl) dX12_go_260 (by decide) (by decide) (by decide) (by decide)) w [] [0, 1] rfl rfl (by decide) (by decide) rfl rfl (fun v z667 H locs hp w => ?_)
                                    have hv : iI z667 = v := hp.1
                                    subst hv
                                    have z667_a : 0 ≤ z667 := hp.2.1
                                    have z667_b : z667 ≤ 1 := hp.2.2.1
                                    have ee668 : 0 ≤ ((z646 + 4294967296) - (z667 * 4294967393)) := hp.2.2.2
                                    have w : WD D A s.heap [(a0, .inr (11, [.int r0, .ref a1, .int (iI x0), .int (iI x1), .int r1, .int (iI z544), .int (iI z1), .int (iI x3), .int (iI z545), .int r3, .int r4, .int r5, .long fy543, .int (iI x5), .ref a2, .ref a3, .ref a4, .ref a5, .ref a6, .ref a7, .ref a8, .ref a9, .ref a10, .ref a11, .int (iI x6), .ref a12, .ref a13, .ref a14, .ref a15, .int (iI x7), .int r6, .int r7, .ref a16, .int r8, .int r9, .ref a17, .ref a18, .int (iI x8), .ref a19, .int (iI x9), .int r10, .ref a20, .ref a21, .int (iI x10), .int r11, .ref a22, .int (iI x11), .int (iI x12), .int (iI x13), .int (iI x14)])), (a1, .inl (T 0, 940, .inl f0))] H locs := w
                                    refine lv_iload_n hx hb dX12_go_263 rfl (lv_at hl 2 rfl) ?_
                                    refine lv_icmp_ne (tgt := 271) hx hb dX12_go_264 (by decide) (fun c_669 => ?_) (fun c_669 => ?_)
                                    · replace c_669 : ¬ z667 = z541 := fun h => c_669 ((iI_eq (Int.le_trans (by decide) z667_a) (Int.le_trans z667_b (by decide)) (Int.le_trans (by decide) z541_a) (Int.le_trans z541_b (by decide))).mpr h)
                                      refine lv_iconst (v := iI 0) hx hb dX12_go_271 (by decide +kernel) ?_
                                      refine lv_istore_n (lv' := [(3, .int (iI 0)), (4, .int (iI z646)), (2, .int (iI z541)), (1, .int (iI z367)), (0, .ref a0)]) hx hb dX12_go_272 rfl hl (by decide) rfl (fun ls hl => ?_)
                                      refine lv_aload_n hx hb dX12_go_273 rfl (lv_at hl 4 rfl) ?_
                                      refine r_get (v := .int (iI z544)) M w 0 5 clX12 rfl (by decide) G1468 rfl rfl dX12_go_274 ?_
                                      refine lv_aload_n hx hb dX12_go_277 rfl (lv_at hl 4 rfl) ?_
                                      refine r_get (v := .int (iI z1)) M w 0 6 clX12 rfl (by decide) G1469 rfl rfl dX12_go_278 ?_
                                      refine b_any (fun z670 z670_a z670_b => ?_)
                                      refine r_isub (v := _) M rfl dX12_go_281 ?_
                                      refine b_any (fun z671 z671_a z671_b => ?_)
                                      refine lv_bipush (v := iI 7) hx hb dX12_go_282 (by decide +kernel) ?_
                                      refine lv_icmp_ge (tgt := 307) hx hb dX12_go_284 (by decide) (fun c_672 => ?_) (fun c_672 => ?_)
                                      · replace c_672 := (iI_le (by decide) (by decide) (Int.le_trans (by decide) z671_a) (Int.le_trans z671_b (by decide))).mp c_672
                                        refine lv_aload_n hx hb dX12_go_307 rfl (lv_at hl 4 rfl) ?_
                                        refine r_get (v := .int (iI z544)) M w 0 5 clX12 rfl (by decide) G1468 rfl rfl dX12_go_308 ?_
                                        refine lv_aload_n hx hb dX12_go_311 rfl (lv_at hl 4 rfl) ?_
                                        refine r_get (v := .int (iI z1)) M w 0 6 clX12 rfl (by decide) G1469 rfl rfl dX12_go_312 ?_
                                        refine b_any (fun z673 z673_a z673_b => ?_)
                                        refine r_isub (v := _) M rfl dX12_go_315 ?_
                                        refine b_any (fun z674 z674_a z674_b => ?_)
                                        refine lv_iconst (v := iI 3) hx hb dX12_go_316 (by decide +kernel) ?_
                                        refine lv_icmp_ge (tgt := 337) hx hb dX12_go_317 (by decide) (fun c_675 => ?_) (fun c_675 => ?_)
                                        · replace c_675 := (iI_le (by decide) (by decide) (Int.le_trans (by decide) z674_a) (Int.le_trans z674_b (by decide))).mp c_675
                                          refine lv_aload_n hx hb dX12_go_337 rfl (lv_at hl 4 rfl) ?_
                                          refine lv_dup hx hb dX12_go_338 rfl ?_
                                          refine r_get (v := .int (iI z544)) M w 0 5 clX12 rfl (by decide) G1468 rfl rfl dX12_go_339 ?_
                                          refine lv_iconst (v := iI 1) hx hb dX12_go_342 (by decide +kernel) ?_
                                          refine r_iadd (v := iI (z544 + 1)) M (iI_add _ _) dX12_go_343 ?_
                                          refine r_put (ws' := [(a0, .inr (11, [.int r0, .ref a1, .int (iI x0), .int (iI x1), .int r1, .int (iI (z544 + 1)), .int (iI z1), .int (iI x3), .int (iI z545), .int r3, .int r4, .int r5, .long fy543, .int (iI x5), .ref a2, .ref a3, .ref a4, .ref a5, .ref a6, .ref a7, .ref a8, .ref a9, .ref a10, .ref a11, .int (iI x6), .ref a12, .ref a13, .ref a14, .ref a15, .int (iI x7), .int r6, .int r7, .ref a16, .int r8, .int r9, .ref a17, .ref a18, .int (iI x8), .ref a19, .int (iI x9), .int r10, .ref a20, .ref a21, .int (iI x10), .int r11, .ref a22, .int (iI x11), .int (iI x12), .int (iI x13), .int (iI x14)])), (a1, .inl (T 0, 940, .inl f0))]) M w 0 5 clX12 rfl (by decide) G1468 rfl rfl rfl rfl (Nat.le_of_ble_eq_true rfl) rfl dX12_go_344 (fun H locs w => ?_)
                                          refine lv_goto (tgt := 215) hx hb dX12_go_347 (by decide) ?_
                                          exact ih2 fy543 (z544 + 1) z545 0 _ _ _ (by omega) (by omega) z545_a z545_b (by decide) (by decide) (by omega) (by omega) w (lv_sub hl [0, 2, 3, 4] rfl)
                                        · replace c_675 : z674 < 3 := Int.not_le.mp (fun h => c_675 ((iI_le (by decide) (by decide) (Int.le_trans (by decide) z674_a) (Int.le_trans z674_b (by decide))).mpr h))
                                          refine lv_aload_n hx hb dX12_go_320 rfl (lv_at hl 4 rfl) ?_
                                          refine lv_bipush (v := iI 10) hx hb dX12_go_321 (by decide +kernel) ?_
                                          refine lv_aload_n hx hb dX12_go_323 rfl (lv_at hl 4 rfl) ?_
                                          refine r_get (v := .int (iI z545)) M w 0 8 clX12 rfl (by decide) G1471 rfl rfl dX12_go_324 ?_
                                          refine r_imul (v := _) M rfl dX12_go_327 ?_
                                          refine b_any (fun z676 z676_a z676_b => ?_)
                                          refine lv_iload hx hb dX12_go_328 (lv_at hl 1 rfl) ?_
                                          refine r_iadd (v := _) M rfl dX12_go_330 ?_
                                          refine b_any (fun z677 z677_a z677_b => ?_)
                                          refine lv_bipush (v := iI 48) hx hb dX12_go_331 (by decide +kernel) ?_
                                          refine r_isub (v := _) M rfl dX12_go_333 ?_
                                          refine b_any (fun z678 z678_a z678_b => ?_)
                                          refine r_put (ws' := [(a0, .inr (11, [.int r0, .ref a1, .int (iI x0), .int (iI x1), .int r1, .int (iI z544), .int (iI z1), .int (iI x3), .int (iI z678), .int r3, .int r4, .int r5, .long fy543, .int (iI x5), .ref a2, .ref a3, .ref a4, .ref a5, .ref a6, .ref a7, .ref a8, .ref a9, .ref a10, .ref a11, .int (iI x6), .ref a12, .ref a13, .ref a14, .ref a15, .int (iI x7), .int r6, .int r7, .ref a16, .int r8, .int r9, .ref a17, .ref a18, .int (iI x8), .ref a19, .int (iI x9), .int r10, .ref a20, .ref a21, .int (iI x10), .int r11, .ref a22, .int (iI x11), .int (iI x12), .int (iI x13), .int (iI x14)])), (a1, .inl (T 0, 940, .inl f0))]) M w 0 8 clX12 rfl (by decide) G1471 rfl rfl rfl rfl (Nat.le_of_ble_eq_true rfl) rfl dX12_go_334 (fun H locs w => ?_)
                                          refine lv_aload_n hx hb dX12_go_337 rfl (lv_at hl 4 rfl) ?_
                                          refine lv_dup hx hb dX12_go_338 rfl ?_
                                          refine r_get (v := .int (iI z544)) M w 0 5 clX12 rfl (by decide) G1468 rfl rfl dX12_go_339 ?_
                                          refine lv_iconst (v := iI 1) hx hb dX12_go_342 (by decide +kernel) ?_
                                          refine r_iadd (v := iI (z544 + 1)) M (iI_add _ _) dX12_go_343 ?_
                                          refine r_put (ws' := [(a0, .inr (11, [.int r0, .ref a1, .int (iI x0), .int (iI x1), .int r1, .int (iI (z544 + 1)), .int (iI z1), .int (iI x3), .int (iI z678), .int r3, .int r4, .int r5, .long fy543, .int (iI x5), .ref a2, .ref a3, .ref a4, .ref a5, .ref a6, .ref a7, .ref a8, .ref a9, .ref a10, .ref a11, .int (iI x6), .ref a12, .ref a13, .ref a14, .ref a15, .int (iI x7), .int r6, .int r7, .ref a16, .int r8, .int r9, .ref a17, .ref a18, .int (iI x8), .ref a19, .int (iI x9), .int r10, .ref a20, .ref a21, .int (iI x10), .int r11, .ref a22, .int (iI x11), .int (iI x12), .int (iI x13), .int (iI x14)])), (a1, .inl (T 0, 940, .inl f0))]) M w 0 5 clX12 rfl (by decide) G1468 rfl rfl rfl rfl (Nat.le_of_ble_eq_true rfl) rfl dX12_go_344 (fun H locs w => ?_)
                                          refine lv_goto (tgt := 215) hx hb dX12_go_347 (by decide) ?_
                                          exact ih2 fy543 (z544 + 1) z678 0 _ _ _ (by omega) (by omega) z678_a z678_b (by decide) (by decide) (by omega) (by omega) w (lv_sub hl [0, 2, 3, 4] rfl)
                                      · replace c_672 : z671 < 7 := Int.not_le.mp (fun h => c_672 ((iI_le (by decide) (by decide) (Int.le_trans (by decide) z671_a) (Int.le_trans z671_b (by decide))).mpr h))
                                        refine lv_aload_n hx hb dX12_go_287 rfl (lv_at hl 4 rfl) ?_
                                        refine lv_ldc2 (v := 27) hx hb M.1.2.2.2.1 (M.1.2.2.2.2 _ G1641) dX12_go_288 ?_
                                        refine lv_aload_n hx hb dX12_go_291 rfl (lv_at hl 4 rfl) ?_
                                        refine r_get (v := .long fy543) M w 0 12 clX12 rfl (by decide) G1475 rfl rfl dX12_go_292 ?_
                                        refine r_lmul (v := _) M rfl dX12_go_295 ?_
                                        refine b_anyl (fun fy679 => ?_)
                                        refine lv_iload hx hb dX12_go_296 (lv_at hl 1 rfl) ?_
                                        refine lv_i2l (v := _) hx hb dX12_go_298 rfl ?_
                                        refine b_anyl (fun fy680 => ?_)
                                        refine r_ladd (v := _) M rfl dX12_go_299 ?_
                                        refine b_anyl (fun fy681 => ?_)
                                        refine lv_ldc2 (v := 96) hx hb M.1.2.2.2.1 (M.1.2.2.2.2 _ G1642) dX12_go_300 ?_
                                        refine r_lsub (v := _) M rfl dX12_go_303 ?_
                                        refine b_anyl (fun fy682 => ?_)
                                        refine r_put (ws' := [(a0, .inr (11, [.int r0, .ref a1, .int (iI x0), .int (iI x1), .int r1, .int (iI z544), .int (iI z1), .int (iI x3), .int (iI z545), .int r3, .int r4, .int r5, .long fy682, .int (iI x5), .ref a2, .ref a3, .ref a4, .ref a5, .ref a6, .ref a7, .ref a8, .ref a9, .ref a10, .ref a11, .int (iI x6), .ref a12, .ref a13, .ref a14, .ref a15, .int (iI x7), .int r6, .int r7, .ref a16, .int r8, .int r9, .ref a17, .ref a18, .int (iI x8), .ref a19, .int (iI x9), .int r10, .ref a20, .ref a21, .int (iI x10), .int r11, .ref a22, .int (iI x11), .int (iI x12), .int (iI x13), .int (iI x14)])), (a1, .inl (T 0, 940, .inl f0))]) M w 0 12 clX12 rfl (by decide) G1475 rfl rfl rfl rfl (Nat.le_of_ble_eq_true rfl) rfl dX12_go_304 (fun H locs w => ?_)
                                        refine lv_aload_n hx hb dX12_go_307 rfl (lv_at hl 4 rfl) ?_
                                        refine r_get (v := .int (iI z544)) M w 0 5 clX12 rfl (by decide) G1468 rfl rfl dX12_go_308 ?_
                                        refine lv_aload_n hx hb dX12_go_311 rfl (lv_at hl 4 rfl) ?_
                                        refine r_get (v := .int (iI z1)) M w 0 6 clX12 rfl (by decide) G1469 rfl rfl dX12_go_312 ?_
                                        refine b_any (fun z683 z683_a z683_b => ?_)
                                        refine r_isub (v := _) M rfl dX12_go_315 ?_
                                        refine b_any (fun z684 z684_a z684_b => ?_)
                                        refine lv_iconst (v := iI 3) hx hb dX12_go_316 (by decide +kernel) ?_
                                        refine lv_icmp_ge (tgt := 337) hx hb dX12_go_317 (by decide) (fun c_685 => ?_) (fun c_685 => ?_)
                                        · replace c_685 := (iI_le (by decide) (by decide) (Int.le_trans (by decide) z684_a) (Int.le_trans z684_b (by decide))).mp c_685
                                          refine lv_aload_n hx hb dX12_go_337 rfl (lv_at hl 4 rfl) ?_
                                          refine lv_dup hx hb dX12_go_338 rfl ?_
                                          refine r_get (v := .int (iI z544)) M w 0 5 clX12 rfl (by decide) G1468 rfl rfl dX12_go_339 ?_
                                          refine lv_iconst (v := iI 1) hx hb dX12_go_342 (by decide +kernel) ?_
                                          refine r_iadd (v := iI (z544 + 1)) M (iI_add _ _) dX12_go_343 ?_
                                          refine r_put (ws' := [(a0, .inr (11, [.int r0, .ref a1, .int (iI x0), .int (iI x1), .int r1, .int (iI (z544 + 1)), .int (iI z1), .int (iI x3), .int (iI z545), .int r3, .int r4, .int r5, .long fy682, .int (iI x5), .ref a2, .ref a3, .ref a4, .ref a5, .ref a6, .ref a7, .ref a8, .ref a9, .ref a10, .ref a11, .int (iI x6), .ref a12, .ref a13, .ref a14, .ref a15, .int (iI x7), .int r6, .int r7, .ref a16, .int r8, .int r9, .ref a17, .ref a18, .int (iI x8), .ref a19, .int (iI x9), .int r10, .ref a20, .ref a21, .int (iI x10), .int r11, .ref a22, .int (iI x11), .int (iI x12), .int (iI x13), .int (iI x14)])), (a1, .inl (T 0, 940, .inl f0))]) M w 0 5 clX12 rfl (by decide) G1468 rfl rfl rfl rfl (Nat.le_of_ble_eq_true rfl) rfl dX12_go_344 (fun H locs w => ?_)
                                          refine lv_goto (tgt := 215) hx hb dX12_go_347 (by decide) ?_
                                          exact ih2 fy682 (z544 + 1) z545 0 _ _ _ (by omega) (by omega) z545_a z545_b (by decide) (by decide) (by omega) (by omega) w (lv_sub hl [0, 2, 3, 4] rfl)
                                        · replace c_685 : z684 < 3 := Int.not_le.mp (fun h => c_685 ((iI_le (by decide) (by decide) (Int.le_trans (by decide) z684_a) (Int.le_trans z684_b (by decide))).mpr h))
                                          refine lv_aload_n hx hb dX12_go_320 rfl (lv_at hl 4 rfl) ?_
                                          refine lv_bipush (v := iI 10) hx hb dX12_go_321 (by decide +kernel) ?_
                                          refine lv_aload_n hx hb dX12_go_323 rfl (lv_at hl 4 rfl) ?_
                                          refine r_get (v := .int (iI z545)) M w 0 8 clX12 rfl (by decide) G1471 rfl rfl dX12_go_324 ?_
                                          refine r_imul (v := _) M rfl dX12_go_327 ?_
                                          refine b_any (fun z686 z686_a z686_b => ?_)
                                          refine lv_iload hx hb dX12_go_328 (lv_at hl 1 rfl) ?_
                                          refine r_iadd (v := _) M rfl dX12_go_330 ?_
                                          refine b_any (fun z687 z687_a z687_b => ?_)
                                          refine lv_bipush (v := iI 48) hx hb dX12_go_331 (by decide +kernel) ?_
                                          refine r_isub (v := _) M rfl dX12_go_333 ?_
                                          refine b_any (fun z688 z688_a z688_b => ?_)
                                          refine r_put (ws' := [(a0, .inr (11, [.int r0, .ref a1, .int (iI x0), .int (iI x1), .int r1, .int (iI z544), .int (iI z1), .int (iI x3), .int (iI z688), .int r3, .int r4, .int r5, .long fy682, .int (iI x5), .ref a2, .ref a3, .ref a4, .ref a5, .ref a6, .ref a7, .ref a8, .ref a9, .ref a10, .ref a11, .int (iI x6), .ref a12, .ref a13, .ref a14, .ref a15, .int (iI x7), .int r6, .int r7, .ref a16, .int r8, .int r9, .ref a17, .ref a18, .int (iI x8), .ref a19, .int (iI x9), .int r10, .ref a20, .ref a21, .int (iI x10), .int r11, .ref a22, .int (iI x11), .int (iI x12), .int (iI x13), .int (iI x14)])), (a1, .inl (T 0, 940, .inl f0))]) M w 0 8 clX12 rfl (by decide) G1471 rfl rfl rfl rfl (Nat.le_of_ble_eq_true rfl) rfl dX12_go_334 (fun H locs w => ?_)
                                          refine lv_aload_n hx hb dX12_go_337 rfl (lv_at hl 4 rfl) ?_
                                          refine lv_dup hx hb dX12_go_338 rfl ?_
                                          refine r_get (v := .int (iI z544)) M w 0 5 clX12 rfl (by decide) G1468 rfl rfl dX12_go_339 ?_
                                          refine lv_iconst (v := iI 1) hx hb dX12_go_342 (by decide +kernel) ?_
                                          refine r_iadd (v := iI (z544 + 1)) M (iI_add _ _) dX12_go_343 ?_
                                          refine r_put (ws' := [(a0, .inr (11, [.int r0, .ref a1, .int (iI x0), .int (iI x1), .int r1, .int (iI (z544 + 1)), .int (iI z1), .int (iI x3), .int (iI z688), .int r3, .int r4, .int r5, .long fy682, .int (iI x5), .ref a2, .ref a3, .ref a4, .ref a5, .ref a6, .ref a7, .ref a8, .ref a9, .ref a10, .ref a11, .int (iI x6), .ref a12, .ref a13, .ref a14, .ref a15, .int (iI x7), .int r6, .int r7, .ref a16, .int r8, .int r9, .ref a17, .ref a18, .int (iI x8), .ref a19, .int (iI x9), .int r10, .ref a20, .ref a21, .int (iI x10), .int r11, .ref a22, .int (iI x11), .int (iI x12), .int (iI x13), .int (iI x14)])), (a1, .inl (T 0, 940, .inl f0))]) M w 0 5 clX12 rfl (by decide) G1468 rfl rfl rfl rfl (Nat.le_of_ble_eq_true rfl) rfl dX12_go_344 (fun H locs w => ?_)
                                          refine lv_goto (tgt := 215) hx hb dX12_go_347 (by decide) ?_
                                          exact ih2 fy682 (z544 + 1) z688 0 _ _ _ (by omega) (by omega) z688_a z688_b (by decide) (by decide) (by omega) (by omega) w (lv_sub hl [0, 2, 3, 4] rfl)
                                    · replace c_669 := (iI_eq (Int.le_trans (by decide) z667_a) (Int.le_trans z667_b (by decide)) (Int.le_trans (by decide) z541_a) (Int.le_trans z541_b (by decide))).mp c_669
                                      refine lv_iconst (v := iI 1) hx hb dX12_go_267 (by decide +kernel) ?_
                                      refine lv_goto (tgt := 272) hx hb dX12_go_268 (by decide) ?_
                                      refine lv_istore_n (lv' := [(3, .int (iI 1)), (4, .int (iI z646)), (2, .int (iI z541)), (1, .int (iI z367)), (0, .ref a0)]) hx hb dX12_go_272 rfl hl (by decide) rfl (fun ls hl => ?_)
                                      refine lv_aload_n hx hb dX12_go_273 rfl (lv_at hl 4 rfl) ?_
                                      refine r_get (v := .int (iI z544)) M w 0 5 clX12 rfl (by decide) G1468 rfl rfl dX12_go_274 ?_
                                      refine lv_aload_n hx hb dX12_go_277 rfl (lv_at hl 4 rfl) ?_
                                      refine r_get (v := .int (iI z1)) M w 0 6 clX12 rfl (by decide) G1469 rfl rfl dX12_go_278 ?_
                                      refine b_any (fun z689 z689_a z689_b => ?_)
                                      refine r_isub (v := _) M rfl dX12_go_281 ?_
                                      refine b_any (fun z690 z690_a z690_b => ?_)
                                      refine lv_bipush (v := iI 7) hx hb dX12_go_282 (by decide +kernel) ?_
                                      refine lv_icmp_ge (tgt := 307) hx hb dX12_go_284 (by decide) (fun c_691 => ?_) (fun c_691 => ?_)
                                      · replace c_691 := (iI_le (by decide) (by decide) (Int.le_trans (by decide) z690_a) (Int.le_trans z690_b (by decide))).mp c_691
                                        refine lv_aload_n hx hb dX12_go_307 rfl (lv_at hl 4 rfl) ?_
                                        refine r_get (v := .int (iI z544)) M w 0 5 clX12 rfl (by decide) G1468 rfl rfl dX12_go_308 ?_
                                        refine lv_aload_n hx hb dX12_go_311 rfl (lv_at hl 4 rfl) ?_
                                        refine r_get (v := .int (iI z1)) M w 0 6 clX12 rfl (by decide) G1469 rfl rfl dX12_go_312 ?_
                                        refine b_any (fun z692 z692_a z692_b => ?_)
                                        refine r_isub (v := _) M rfl dX12_go_315 ?_
                                        refine b_any (fun z693 z693_a z693_b => ?_)
                                        refine lv_iconst (v := iI 3) hx hb dX12_go_316 (by decide +kernel) ?_
                                        refine lv_icmp_ge (tgt := 337) hx hb dX12_go_317 (by decide) (fun c_694 => ?_) (fun c_694 => ?_)
                                        · replace c_694 := (iI_le (by decide) (by decide) (Int.le_trans (by decide) z693_a) (Int.le_trans z693_b (by decide))).mp c_694
                                          refine lv_aload_n hx hb dX12_go_337 rfl (lv_at hl 4 rfl) ?_
                                          refine lv_dup hx hb dX12_go_338 rfl ?_
                                          refine r_get (v := .int (iI z544)) M w 0 5 clX12 rfl (by decide) G1468 rfl rfl dX12_go_339 ?_
                                          refine lv_iconst (v := iI 1) hx hb dX12_go_342 (by decide +kernel) ?_
                                          refine r_iadd (v := iI (z544 + 1)) M (iI_add _ _) dX12_go_343 ?_
                                          refine r_put (ws' := [(a0, .inr (11, [.int r0, .ref a1, .int (iI x0), .int (iI x1), .int r1, .int (iI (z544 + 1)), .int (iI z1), .int (iI x3), .int (iI z545), .int r3, .int r4, .int r5, .long fy543, .int (iI x5), .ref a2, .ref a3, .ref a4, .ref a5, .ref a6, .ref a7, .ref a8, .ref a9, .ref a10, .ref a11, .int (iI x6), .ref a12, .ref a13, .ref a14, .ref a15, .int (iI x7), .int r6, .int r7, .ref a16, .int r8, .int r9, .ref a17, .ref a18, .int (iI x8), .ref a19, .int (iI x9), .int r10, .ref a20, .ref a21, .int (iI x10), .int r11, .ref a22, .int (iI x11), .int (iI x12), .int (iI x13), .int (iI x14)])), (a1, .inl (T 0, 940, .inl f0))]) M w 0 5 clX12 rfl (by decide) G1468 rfl rfl rfl rfl (Nat.le_of_ble_eq_true rfl) rfl dX12_go_344 (fun H locs w => ?_)
                                          refine lv_goto (tgt := 215) hx hb dX12_go_347 (by decide) ?_
                                          exact ih2 fy543 (z544 + 1) z545 1 _ _ _ (by omega) (by omega) z545_a z545_b (by decide) (by decide) (by omega) (by omega) w (lv_sub hl [0, 2, 3, 4] rfl)
                                        · replace c_694 : z693 < 3 := Int.not_le.mp (fun h => c_694 ((iI_le (by decide) (by decide) (Int.le_trans (by decide) z693_a) (Int.le_trans z693_b (by decide))).mpr h))
                                          refine lv_aload_n hx hb dX12_go_320 rfl (lv_at hl 4 rfl) ?_
                                          refine lv_bipush (v := iI 10) hx hb dX12_go_321 (by decide +kernel) ?_
                                          refine lv_aload_n hx hb dX12_go_323 rfl (lv_at hl 4 rfl) ?_
                                          refine r_get (v := .int (iI z545)) M w 0 8 clX12 rfl (by decide) G1471 rfl rfl dX12_go_324 ?_
                                          refine r_imul (v := _) M rfl dX12_go_327 ?_
                                          refine b_any (fun z695 z695_a z695_b => ?_)
                                          refine lv_iload hx hb dX12_go_328 (lv_at hl 1 rfl) ?_
                                          refine r_iadd (v := _) M rfl dX12_go_330 ?_
                                          refine b_any (fun z696 z696_a z696_b => ?_)
                                          refine lv_bipush (v := iI 48) hx hb dX12_go_331 (by decide +kernel) ?_
                                          refine r_isub (v := _) M rfl dX12_go_333 ?_
                                          refine b_any (fun z697 z697_a z697_b => ?_)
                                          refine r_put (ws' := [(a0, .inr (11, [.int r0, .ref a1, .int (iI x0), .int (iI x1), .int r1, .int (iI z544), .int (iI z1), .int (iI x3), .int (iI z697), .int r3, .int r4, .int r5, .long fy543, .int (iI x5), .ref a2, .ref a3, .ref a4, .ref a5, .ref a6, .ref a7, .ref a8, .ref a9, .ref a10, .ref a11, .int (iI x6), .ref a12, .ref a13, .ref a14, .ref a15, .int (iI x7), .int r6, .int r7, .ref a16, .int r8, .int r9, .ref a17, .ref a18, .int (iI x8), .ref a19, .int (iI x9), .int r10, .ref a20, .ref a21, .int (iI x10), .int r11, .ref a22, .int (iI x11), .int (iI x12), .int (iI x13), .int (iI x14)])), (a1, .inl (T 0, 940, .inl f0))]) M w 0 8 clX12 rfl (by decide) G1471 rfl rfl rfl rfl (Nat.le_of_ble_eq_true rfl) rfl dX12_go_334 (fun H locs w => ?_)
                                          refine lv_aload_n hx hb dX12_go_337 rfl (lv_at hl 4 rfl) ?_
                                          refine lv_dup hx hb dX12_go_338 rfl ?_
                                          refine r_get (v := .int (iI z544)) M w 0 5 clX12 rfl (by decide) G1468 rfl rfl dX12_go_339 ?_
                                          refine lv_iconst (v := iI 1) hx hb dX12_go_342 (by decide +kernel) ?_
                                          refine r_iadd (v := iI (z544 + 1)) M (iI_add _ _) dX12_go_343 ?_
                                          refine r_put (ws' := [(a0, .inr (11, [.int r0, .ref a1, .int (iI x0), .int (iI x1), .int r1, .int (iI (z544 + 1)), .int (iI z1), .int (iI x3), .int (iI z697), .int r3, .int r4, .int r5, .long fy543, .int (iI x5), .ref a2, .ref a3, .ref a4, .ref a5, .ref a6, .ref a7, .ref a8, .ref a9, .ref a10, .ref a11, .int (iI x6), .ref a12, .ref a13, .ref a14, .ref a15, .int (iI x7), .int r6, .int r7, .ref a16, .int r8, .int r9, .ref a17, .ref a18, .int (iI x8), .ref a19, .int (iI x9), .int r10, .ref a20, .ref a21, .int (iI x10), .int r11, .ref a22, .int (iI x11), .int (iI x12), .int (iI x13), .int (iI x14)])), (a1, .inl (T 0, 940, .inl f0))]) M w 0 5 clX12 rfl (by decide) G1468 rfl rfl rfl rfl (Nat.le_of_ble_eq_true rfl) rfl dX12_go_344 (fun H locs w => ?_)
                                          refine lv_goto (tgt := 215) hx hb dX12_go_347 (by decide) ?_
                                          exact ih2 fy543 (z544 + 1) z697 1 _ _ _ (by omega) (by omega) z697_a z697_b (by decide) (by decide) (by omega) (by omega) w (lv_sub hl [0, 2, 3, 4] rfl)
                                      · replace c_691 : z690 < 7 := Int.not_le.mp (fun h => c_691 ((iI_le (by decide) (by decide) (Int.le_trans (by decide) z690_a) (Int.le_trans z690_b (by decide))).mpr h))
                                        refine lv_aload_n hx hb dX12_go_287 rfl (lv_at hl 4 rfl) ?_
                                        refine lv_ldc2 (v := 27) hx hb M.1.2.2.2.1 (M.1.2.2.2.2 _ G1641) dX12_go_288 ?_
                                        refine lv_aload_n hx hb dX12_go_291 rfl (lv_at hl 4 rfl) ?_
                                        refine r_get (v := .long fy543) M w 0 12 clX12 rfl (by decide) G1475 rfl rfl dX12_go_292 ?_
                                        refine r_lmul (v := _) M rfl dX12_go_295 ?_
                                        refine b_anyl (fun fy698 => ?_)
                                        refine lv_iload hx hb dX12_go_296 (lv_at hl 1 rfl) ?_
                                        refine lv_i2l (v := _) hx hb dX12_go_298 rfl ?_
                                        refine b_anyl (fun fy699 => ?_)
                                        refine r_ladd (v := _) M rfl dX12_go_299 ?_
                                        refine b_anyl (fun fy700 => ?_)
                                        refine lv_ldc2 (v := 96) hx hb M.1.2.2.2.1 (M.1.2.2.2.2 _ G1642) dX12_go_300 ?_
                                        refine r_lsub (v := _) M rfl dX12_go_303 ?_
                                        refine b_anyl (fun fy701 => ?_)
                                        refine r_put (ws' := [(a0, .inr (11, [.int r0, .ref a1, .int (iI x0), .int (iI x1), .int r1, .int (iI z544), .int (iI z1), .int (iI x3), .int (iI z545), .int r3, .int r4, .int r5, .long fy701, .int (iI x5), .ref a2, .ref a3, .ref a4, .ref a5, .ref a6, .ref a7, .ref a8, .ref a9, .ref a10, .ref a11, .int (iI x6), .ref a12, .ref a13, .ref a14, .ref a15, .int (iI x7), .int r6, .int r7, .ref a16, .int r8, .int r9, .ref a17, .ref a18, .int (iI x8), .ref a19, .int (iI x9), .int r10, .ref a20, .ref a21, .int (iI x10), .int r11, .ref a22, .int (iI x11), .int (iI x12), .int (iI x13), .int (iI x14)])), (a1, .inl (T 0, 940, .inl f0))]) M w 0 12 clX12 rfl (by decide) G1475 rfl rfl rfl rfl (Nat.le_of_ble_eq_true rfl) rfl dX12_go_304 (fun H locs w => ?_)
                                        refine lv_aload_n hx hb dX12_go_307 rfl (lv_at hl 4 rfl) ?_
                                        refine r_get (v := .int (iI z544)) M w 0 5 clX12 rfl (by decide) G1468 rfl rfl dX12_go_308 ?_
                                        refine lv_aload_n hx hb dX12_go_311 rfl (lv_at hl 4 rfl) ?_
                                        refine r_get (v := .int (iI z1)) M w 0 6 clX12 rfl (by decide) G1469 rfl rfl dX12_go_312 ?_
                                        refine b_any (fun z702 z702_a z702_b => ?_)
                                        refine r_isub (v := _) M rfl dX12_go_315 ?_
                                        refine b_any (fun z703 z703_a z703_b => ?_)
                                        refine lv_iconst (v := iI 3) hx hb dX12_go_316 (by decide +kernel) ?_
                                        refine lv_icmp_ge (tgt := 337) hx hb dX12_go_317 (by decide) (fun c_704 => ?_) (fun c_704 => ?_)
                                        · replace c_704 := (iI_le (by decide) (by decide) (Int.le_trans (by decide) z703_a) (Int.le_trans z703_b (by decide))).mp c_704
                                          refine lv_aload_n hx hb dX12_go_337 rfl (lv_at hl 4 rfl) ?_
                                          refine lv_dup hx hb dX12_go_338 rfl ?_
                                          refine r_get (v := .int (iI z544)) M w 0 5 clX12 rfl (by decide) G1468 rfl rfl dX12_go_339 ?_
                                          refine lv_iconst (v := iI 1) hx hb dX12_go_342 (by decide +kernel) ?_
                                          refine r_iadd (v := iI (z544 + 1)) M (iI_add _ _) dX12_go_343 ?_
                                          refine r_put (ws' := [(a0, .inr (11, [.int r0, .ref a1, .int (iI x0), .int (iI x1), .int r1, .int (iI (z544 + 1)), .int (iI z1), .int (iI x3), .int (iI z545), .int r3, .int r4, .int r5, .long fy701, .int (iI x5), .ref a2, .ref a3, .ref a4, .ref a5, .ref a6, .ref a7, .ref a8, .ref a9, .ref a10, .ref a11, .int (iI x6), .ref a12, .ref a13, .ref a14, .ref a15, .int (iI x7), .int r6, .int r7, .ref a16, .int r8, .int r9, .ref a17, .ref a18, .int (iI x8), .ref a19, .int (iI x9), .int r10, .ref a20, .ref a21, .int (iI x10), .int r11, .ref a22, .int (iI x11), .int (iI x12), .int (iI x13), .int (iI x14)])), (a1, .inl (T 0, 940, .inl f0))]) M w 0 5 clX12 rfl (by decide) G1468 rfl rfl rfl rfl (Nat.le_of_ble_eq_true rfl) rfl dX12_go_344 (fun H locs w => ?_)
                                          refine lv_goto (tgt := 215) hx hb dX12_go_347 (by decide) ?_
                                          exact ih2 fy701 (z544 + 1) z545 1 _ _ _ (by omega) (by omega) z545_a z545_b (by decide) (by decide) (by omega) (by omega) w (lv_sub hl [0, 2, 3, 4] rfl)
                                        · replace c_704 : z703 < 3 := Int.not_le.mp (fun h => c_704 ((iI_le (by decide) (by decide) (Int.le_trans (by decide) z703_a) (Int.le_trans z703_b (by decide))).mpr h))
                                          refine lv_aload_n hx hb dX12_go_320 rfl (lv_at hl 4 rfl) ?_
                                          refine lv_bipush (v := iI 10) hx hb dX12_go_321 (by decide +kernel) ?_
                                          refine lv_aload_n hx hb dX12_go_323 rfl (lv_at hl 4 rfl) ?_
                                          refine r_get (v := .int (iI z545)) M w 0 8 clX12 rfl (by decide) G1471 rfl rfl dX12_go_324 ?_
                                          refine r_imul (v := _) M rfl dX12_go_327 ?_
                                          refine b_any (fun z705 z705_a z705_b => ?_)
                                          refine lv_iload hx hb dX12_go_328 (lv_at hl 1 rfl) ?_
                                          refine r_iadd (v := _) M rfl dX12_go_330 ?_
                                          refine b_any (fun z706 z706_a z706_b => ?_)
                                          refine lv_bipush (v := iI 48) hx hb dX12_go_331 (by decide +kernel) ?_
                                          refine r_isub (v := _) M rfl dX12_go_333 ?_
                                          refine b_any (fun z707 z707_a z707_b => ?_)
                                          refine r_put (ws' := [(a0, .inr (11, [.int r0, .ref a1, .int (iI x0), .int (iI x1), .int r1, .int (iI z544), .int (iI z1), .int (iI x3), .int (iI z707), .int r3, .int r4, .int r5, .long fy701, .int (iI x5), .ref a2, .ref a3, .ref a4, .ref a5, .ref a6, .ref a7, .ref a8, .ref a9, .ref a10, .ref a11, .int (iI x6), .ref a12, .ref a13, .ref a14, .ref a15, .int (iI x7), .int r6, .int r7, .ref a16, .int r8, .int r9, .ref a17, .ref a18, .int (iI x8), .ref a19, .int (iI x9), .int r10, .ref a20, .ref a21, .int (iI x10), .int r11, .ref a22, .int (iI x11), .int (iI x12), .int (iI x13), .int (iI x14)])), (a1, .inl (T 0, 940, .inl f0))]) M w 0 8 clX12 rfl (by decide) G1471 rfl rfl rfl rfl (Nat.le_of_ble_eq_true rfl) rfl dX12_go_334 (fun H locs w => ?_)
                                          refine lv_aload_n hx hb dX12_go_337 rfl (lv_at hl 4 rfl) ?_
                                          refine lv_dup hx hb dX12_go_338 rfl ?_
                                          refine r_get (v := .int (iI z544)) M w 0 5 clX12 rfl (by decide) G1468 rfl rfl dX12_go_339 ?_
                                          refine lv_iconst (v := iI 1) hx hb dX12_go_342 (by decide +kernel) ?_
                                          refine r_iadd (v := iI (z544 + 1)) M (iI_add _ _) dX12_go_343 ?_
                                          refine r_put (ws' := [(a0, .inr (11, [.int r0, .ref a1, .int (iI x0), .int (iI x1), .int r1, .int (iI (z544 + 1)), .int (iI z1), .int (iI x3), .int (iI z707), .int r3, .int r4, .int r5, .long fy701, .int (iI x5), .ref a2, .ref a3, .ref a4, .ref a5, .ref a6, .ref a7, .ref a8, .ref a9, .ref a10, .ref a11, .int (iI x6), .ref a12, .ref a13, .ref a14, .ref a15, .int (iI x7), .int r6, .int r7, .ref a16, .int r8, .int r9, .ref a17, .ref a18, .int (iI x8), .ref a19, .int (iI x9), .int r10, .ref a20, .ref a21, .int (iI x10), .int r11, .ref a22, .int (iI x11), .int (iI x12), .int (iI x13), .int (iI x14)])), (a1, .inl (T 0, 940, .inl f0))]) M w 0 5 clX12 rfl (by decide) G1468 rfl rfl rfl rfl (Nat.le_of_ble_eq_true rfl) rfl dX12_go_344 (fun H locs w => ?_)
                                          refine lv_goto (tgt := 215) hx hb dX12_go_347 (by decide) ?_
                                          exact ih2 fy701 (z544 + 1) z707 1 _ _ _ (by omega) (by omega) z707_a z707_b (by decide) (by decide) (by omega) (by omega) w (lv_sub hl [0, 2, 3, 4] rfl)
                      exact loop2 (((x1 - z1) : Int).toNat + 1) 0 z1 0 1 _ _ _ z1_a z1_b (by decide) (by decide) (by decide) (by decide) (by omega) (Nat.lt_succ_self _) w (lv_sub hl [0, 1, 2, 3] rfl)
                    · replace c_540 := (iz_eq (Int.le_trans (by decide) z538_a) (Int.le_trans z538_b (by decide))).mp c_540
                      refine lv_aload_n hx hb dX12_go_137 rfl (lv_at hl 1 rfl) ?_
                      refine lv_iload_n hx hb dX12_go_138 rfl (lv_at hl 0 rfl) ?_
                      refine lv_bipush (v := iI 59) hx hb dX12_go_139 (by decide +kernel) ?_
                      refine lv_icmp_eq (tgt := 174) hx hb dX12_go_141 (by decide) (fun c_708 => ?_) (fun c_708 => ?_)
                      · replace c_708 := (iI_eq (Int.le_trans (by decide) z367_a) (Int.le_trans z367_b (by decide)) (by decide) (by decide)).mp c_708
                        refine lv_iconst (v := iI 4) hx hb dX12_go_174 (by decide +kernel) ?_
                        refine lv_goto (tgt := 179) hx hb dX12_go_175 (by decide) ?_
                        refine r_put (ws' := [(a0, .inr (11, [.int r0, .ref a1, .int (iI x0), .int (iI x1), .int r1, .int (iI z1), .int (iI z1), .int (iI 4), .int (iI x4), .int r3, .int r4, .int r5, .long y0, .int (iI x5), .ref a2, .ref a3, .ref a4, .ref a5, .ref a6, .ref a7, .ref a8, .ref a9, .ref a10, .ref a11, .int (iI x6), .ref a12, .ref a13, .ref a14, .ref a15, .int (iI x7), .int r6, .int r7, .ref a16, .int r8, .int r9, .ref a17, .ref a18, .int (iI x8), .ref a19, .int (iI x9), .int r10, .ref a20, .ref a21, .int (iI x10), .int r11, .ref a22, .int (iI x11), .int (iI x12), .int (iI x13), .int (iI x14)])), (a1, .inl (T 0, 940, .inl f0))]) M w 0 7 clX12 rfl (by decide) G1470 rfl rfl rfl rfl (Nat.le_of_ble_eq_true rfl) rfl dX12_go_179 (fun H locs w => ?_)
                        refine lv_aload_n hx hb dX12_go_182 rfl (lv_at hl 1 rfl) ?_
                        refine lv_iload_n hx hb dX12_go_183 rfl (lv_at hl 0 rfl) ?_
                        refine r_put (ws' := [(a0, .inr (11, [.int r0, .ref a1, .int (iI x0), .int (iI x1), .int r1, .int (iI z1), .int (iI z1), .int (iI 4), .int (iI x4), .int (iI z367), .int r4, .int r5, .long y0, .int (iI x5), .ref a2, .ref a3, .ref a4, .ref a5, .ref a6, .ref a7, .ref a8, .ref a9, .ref a10, .ref a11, .int (iI x6), .ref a12, .ref a13, .ref a14, .ref a15, .int (iI x7), .int r6, .int r7, .ref a16, .int r8, .int r9, .ref a17, .ref a18, .int (iI x8), .ref a19, .int (iI x9), .int r10, .ref a20, .ref a21, .int (iI x10), .int r11, .ref a22, .int (iI x11), .int (iI x12), .int (iI x13), .int (iI x14)])), (a1, .inl (T 0, 940, .inl f0))]) M w 0 9 clX12 rfl (by decide) G1472 rfl rfl rfl rfl (Nat.le_of_ble_eq_true rfl) rfl dX12_go_184 (fun H locs w => ?_)
                        refine lv_aload_n hx hb dX12_go_187 rfl (lv_at hl 1 rfl) ?_
                        refine lv_dup hx hb dX12_go_188 rfl ?_
                        refine r_get (v := .int (iI z1)) M w 0 5 clX12 rfl (by decide) G1468 rfl rfl dX12_go_189 ?_
                        refine lv_iconst (v := iI 1) hx hb dX12_go_192 (by decide +kernel) ?_
                        refine r_iadd (v := iI (z1 + 1)) M (iI_add _ _) dX12_go_193 ?_
                        refine r_put (ws' := [(a0, .inr (11, [.int r0, .ref a1, .int (iI x0), .int (iI x1), .int r1, .int (iI (z1 + 1)), .int (iI z1), .int (iI 4), .int (iI x4), .int (iI z367), .int r4, .int r5, .long y0, .int (iI x5), .ref a2, .ref a3, .ref a4, .ref a5, .ref a6, .ref a7, .ref a8, .ref a9, .ref a10, .ref a11, .int (iI x6), .ref a12, .ref a13, .ref a14, .ref a15, .int (iI x7), .int r6, .int r7, .ref a16, .int r8, .int r9, .ref a17, .ref a18, .int (iI x8), .ref a19, .int (iI x9), .int r10, .ref a20, .ref a21, .int (iI x10), .int r11, .ref a22, .int (iI x11), .int (iI x12), .int (iI x13), .int (iI x14)])), (a1, .inl (T 0, 940, .inl f0))]) M w 0 5 clX12 rfl (by decide) G1468 rfl rfl rfl rfl (Nat.le_of_ble_eq_true rfl) rfl dX12_go_194 (fun H locs w => ?_)
                        exact ret ((z1 + 1), (iI z1), 4, x4, (iI z367), y0) _ _ _ _ _ [0, 1] dX12_go_197 ⟨(show 0 ≤ (z1 + 1) from by omega), (show (z1 + 1) ≤ 940 from by omega), (show (0 : Int) ≤ 4 from by decide), (show (4 : Int) ≤ 4 from by decide), x4_a, x4_b, (show 0 ≤ ((z1 + 1) - x2) from by omega), (show 0 ≤ ((((z1 + 1) - x2) - 4) + 3) from by omega)⟩ w (by decide) rfl
                      · replace c_708 : ¬ z367 = 59 := fun h => c_708 ((iI_eq (Int.le_trans (by decide) z367_a) (Int.le_trans z367_b (by decide)) (by decide) (by decide)).mpr h)
                        refine lv_iload_n hx hb dX12_go_144 rfl (lv_at hl 0 rfl) ?_
                        refine lv_bipush (v := iI 60) hx hb dX12_go_145 (by decide +kernel) ?_
                        refine lv_icmp_eq (tgt := 174) hx hb dX12_go_147 (by decide) (fun c_709 => ?_) (fun c_709 => ?_)
                        · replace c_709 := (iI_eq (Int.le_trans (by decide) z367_a) (Int.le_trans z367_b (by decide)) (by decide) (by decide)).mp c_709
                          refine lv_iconst (v := iI 4) hx hb dX12_go_174 (by decide +kernel) ?_
                          refine lv_goto (tgt := 179) hx hb dX12_go_175 (by decide) ?_
                          refine r_put (ws' := [(a0, .inr (11, [.int r0, .ref a1, .int (iI x0), .int (iI x1), .int r1, .int (iI z1), .int (iI z1), .int (iI 4), .int (iI x4), .int r3, .int r4, .int r5, .long y0, .int (iI x5), .ref a2, .ref a3, .ref a4, .ref a5, .ref a6, .ref a7, .ref a8, .ref a9, .ref a10, .ref a11, .int (iI x6), .ref a12, .ref a13, .ref a14, .ref a15, .int (iI x7), .int r6, .int r7, .ref a16, .int r8, .int r9, .ref a17, .ref a18, .int (iI x8), .ref a19, .int (iI x9), .int r10, .ref a20, .ref a21, .int (iI x10), .int r11, .ref a22, .int (iI x11), .int (iI x12), .int (iI x13), .int (iI x14)])), (a1, .inl (T 0, 940, .inl f0))]) M w 0 7 clX12 rfl (by decide) G1470 rfl rfl rfl rfl (Nat.le_of_ble_eq_true rfl) rfl dX12_go_179 (fun H locs w => ?_)
                          refine lv_aload_n hx hb dX12_go_182 rfl (lv_at hl 1 rfl) ?_
                          refine lv_iload_n hx hb dX12_go_183 rfl (lv_at hl 0 rfl) ?_
                          refine r_put (ws' := [(a0, .inr (11, [.int r0, .ref a1, .int (iI x0), .int (iI x1), .int r1, .int (iI z1), .int (iI z1), .int (iI 4), .int (iI x4), .int (iI z367), .int r4, .int r5, .long y0, .int (iI x5), .ref a2, .ref a3, .ref a4, .ref a5, .ref a6, .ref a7, .ref a8, .ref a9, .ref a10, .ref a11, .int (iI x6), .ref a12, .ref a13, .ref a14, .ref a15, .int (iI x7), .int r6, .int r7, .ref a16, .int r8, .int r9, .ref a17, .ref a18, .int (iI x8), .ref a19, .int (iI x9), .int r10, .ref a20, .ref a21, .int (iI x10), .int r11, .ref a22, .int (iI x11), .int (iI x12), .int (iI x13), .int (iI x14)])), (a1, .inl (T 0, 940, .inl f0))]) M w 0 9 clX12 rfl (by decide) G1472 rfl rfl rfl rfl (Nat.le_of_ble_eq_true rfl) rfl dX12_go_184 (fun H locs w => ?_)
                          refine lv_aload_n hx hb dX12_go_187 rfl (lv_at hl 1 rfl) ?_
                          refine lv_dup hx hb dX12_go_188 rfl ?_
                          refine r_get (v := .int (iI z1)) M w 0 5 clX12 rfl (by decide) G1468 rfl rfl dX12_go_189 ?_
                          refine lv_iconst (v := iI 1) hx hb dX12_go_192 (by decide +kernel) ?_
                          refine r_iadd (v := iI (z1 + 1)) M (iI_add _ _) dX12_go_193 ?_
                          refine r_put (ws' := [(a0, .inr (11, [.int r0, .ref a1, .int (iI x0), .int (iI x1), .int r1, .int (iI (z1 + 1)), .int (iI z1), .int (iI 4), .int (iI x4), .int (iI z367), .int r4, .int r5, .long y0, .int (iI x5), .ref a2, .ref a3, .ref a4, .ref a5, .ref a6, .ref a7, .ref a8, .ref a9, .ref a10, .ref a11, .int (iI x6), .ref a12, .ref a13, .ref a14, .ref a15, .int (iI x7), .int r6, .int r7, .ref a16, .int r8, .int r9, .ref a17, .ref a18, .int (iI x8), .ref a19, .int (iI x9), .int r10, .ref a20, .ref a21, .int (iI x10), .int r11, .ref a22, .int (iI x11), .int (iI x12), .int (iI x13), .int (iI x14)])), (a1, .inl (T 0, 940, .inl f0))]) M w 0 5 clX12 rfl (by decide) G1468 rfl rfl rfl rfl (Nat.le_of_ble_eq_true rfl) rfl dX12_go_194 (fun H locs w => ?_)
                          exact ret ((z1 + 1), (iI z1), 4, x4, (iI z367), y0) _ _ _ _ _ [0, 1] dX12_go_197 ⟨(show 0 ≤ (z1 + 1) from by omega), (show (z1 + 1) ≤ 940 from by omega), (show (0 : Int) ≤ 4 from by decide), (show (4 : Int) ≤ 4 from by decide), x4_a, x4_b, (show 0 ≤ ((z1 + 1) - x2) from by omega), (show 0 ≤ ((((z1 + 1) - x2) - 4) + 3) from by omega)⟩ w (by decide) rfl
                        · replace c_709 : ¬ z367 = 60 := fun h => c_709 ((iI_eq (Int.le_trans (by decide) z367_a) (Int.le_trans z367_b (by decide)) (by decide) (by decide)).mpr h)
                          refine lv_iload_n hx hb dX12_go_150 rfl (lv_at hl 0 rfl) ?_
                          refine lv_bipush (v := iI 61) hx hb dX12_go_151 (by decide +kernel) ?_
                          refine lv_icmp_eq (tgt := 174) hx hb dX12_go_153 (by decide) (fun c_710 => ?_) (fun c_710 => ?_)
                          · replace c_710 := (iI_eq (Int.le_trans (by decide) z367_a) (Int.le_trans z367_b (by decide)) (by decide) (by decide)).mp c_710
                            refine lv_iconst (v := iI 4) hx hb dX12_go_174 (by decide +kernel) ?_
                            refine lv_goto (tgt := 179) hx hb dX12_go_175 (by decide) ?_
                            refine r_put (ws' := [(a0, .inr (11, [.int r0, .ref a1, .int (iI x0), .int (iI x1), .int r1, .int (iI z1), .int (iI z1), .int (iI 4), .int (iI x4), .int r3, .int r4, .int r5, .long y0, .int (iI x5), .ref a2, .ref a3, .ref a4, .ref a5, .ref a6, .ref a7, .ref a8, .ref a9, .ref a10, .ref a11, .int (iI x6), .ref a12, .ref a13, .ref a14, .ref a15, .int (iI x7), .int r6, .int r7, .ref a16, .int r8, .int r9, .ref a17, .ref a18, .int (iI x8), .ref a19, .int (iI x9), .int r10, .ref a20, .ref a21, .int (iI x10), .int r11, .ref a22, .int (iI x11), .int (iI x12), .int (iI x13), .int (iI x14)])), (a1, .inl (T 0, 940, .inl f0))]) M w 0 7 clX12 rfl (by decide) G1470 rfl rfl rfl rfl (Nat.le_of_ble_eq_true rfl) rfl dX12_go_179 (fun H locs w => ?_)
                            refine lv_aload_n hx hb dX12_go_182 rfl (lv_at hl 1 rfl) ?_
                            refine lv_iload_n hx hb dX12_go_183 rfl (lv_at hl 0 rfl) ?_
                            refine r_put (ws' := [(a0, .inr (11, [.int r0, .ref a1, .int (iI x0), .int (iI x1), .int r1, .int (iI z1), .int (iI z1), .int (iI 4), .int (iI x4), .int (iI z367), .int r4, .int r5, .long y0, .int (iI x5), .ref a2, .ref a3, .ref a4, .ref a5, .ref a6, .ref a7, .ref a8, .ref a9, .ref a10, .ref a11, .int (iI x6), .ref a12, .ref a13, .ref a14, .ref a15, .int (iI x7), .int r6, .int r7, .ref a16, .int r8, .int r9, .ref a17, .ref a18, .int (iI x8), .ref a19, .int (iI x9), .int r10, .ref a20, .ref a21, .int (iI x10), .int r11, .ref a22, .int (iI x11), .int (iI x12), .int (iI x13), .int (iI x14)])), (a1, .inl (T 0, 940, .inl f0))]) M w 0 9 clX12 rfl (by decide) G1472 rfl rfl rfl rfl (Nat.le_of_ble_eq_true rfl) rfl dX12_go_184 (fun H locs w => ?_)
                            refine lv_aload_n hx hb dX12_go_187 rfl (lv_at hl 1 rfl) ?_
                            refine lv_dup hx hb dX12_go_188 rfl ?_
                            refine r_get (v := .int (iI z1)) M w 0 5 clX12 rfl (by decide) G1468 rfl rfl dX12_go_189 ?_
                            refine lv_iconst (v := iI 1) hx hb dX12_go_192 (by decide +kernel) ?_
                            refine r_iadd (v := iI (z1 + 1)) M (iI_add _ _) dX12_go_193 ?_
                            refine r_put (ws' := [(a0, .inr (11, [.int r0, .ref a1, .int (iI x0), .int (iI x1), .int r1, .int (iI (z1 + 1)), .int (iI z1), .int (iI 4), .int (iI x4), .int (iI z367), .int r4, .int r5, .long y0, .int (iI x5), .ref a2, .ref a3, .ref a4, .ref a5, .ref a6, .ref a7, .ref a8, .ref a9, .ref a10, .ref a11, .int (iI x6), .ref a12, .ref a13, .ref a14, .ref a15, .int (iI x7), .int r6, .int r7, .ref a16, .int r8, .int r9, .ref a17, .ref a18, .int (iI x8), .ref a19, .int (iI x9), .int r10, .ref a20, .ref a21, .int (iI x10), .int r11, .ref a22, .int (iI x11), .int (iI x12), .int (iI x13), .int (iI x14)])), (a1, .inl (T 0, 940, .inl f0))]) M w 0 5 clX12 rfl (by decide) G1468 rfl rfl rfl rfl (Nat.le_of_ble_eq_true rfl) rfl dX12_go_194 (fun H locs w => ?_)
                            exact ret ((z1 + 1), (iI z1), 4, x4, (iI z367), y0) _ _ _ _ _ [0, 1] dX12_go_197 ⟨(show 0 ≤ (z1 + 1) from by omega), (show (z1 + 1) ≤ 940 from by omega), (show (0 : Int) ≤ 4 from by decide), (show (4 : Int) ≤ 4 from by decide), x4_a, x4_b, (show 0 ≤ ((z1 + 1) - x2) from by omega), (show 0 ≤ ((((z1 + 1) - x2) - 4) + 3) from by omega)⟩ w (by decide) rfl
                          · replace c_710 : ¬ z367 = 61 := fun h => c_710 ((iI_eq (Int.le_trans (by decide) z367_a) (Int.le_trans z367_b (by decide)) (by decide) (by decide)).mpr h)
                            refine lv_iload_n hx hb dX12_go_156 rfl (lv_at hl 0 rfl) ?_
                            refine lv_bipush (v := iI 62) hx hb dX12_go_157 (by decide +kernel) ?_
                            refine lv_icmp_eq (tgt := 174) hx hb dX12_go_159 (by decide) (fun c_711 => ?_) (fun c_711 => ?_)
                            · replace c_711 := (iI_eq (Int.le_trans (by decide) z367_a) (Int.le_trans z367_b (by decide)) (by decide) (by decide)).mp c_711
                              refine lv_iconst (v := iI 4) hx hb dX12_go_174 (by decide +kernel) ?_
                              refine lv_goto (tgt := 179) hx hb dX12_go_175 (by decide) ?_
                              refine r_put (ws' := [(a0, .inr (11, [.int r0, .ref a1, .int (iI x0), .int (iI x1), .int r1, .int (iI z1), .int (iI z1), .int (iI 4), .int (iI x4), .int r3, .int r4, .int r5, .long y0, .int (iI x5), .ref a2, .ref a3, .ref a4, .ref a5, .ref a6, .ref a7, .ref a8, .ref a9, .ref a10, .ref a11, .int (iI x6), .ref a12, .ref a13, .ref a14, .ref a15, .int (iI x7), .int r6, .int r7, .ref a16, .int r8, .int r9, .ref a17, .ref a18, .int (iI x8), .ref a19, .int (iI x9), .int r10, .ref a20, .ref a21, .int (iI x10), .int r11, .ref a22, .int (iI x11), .int (iI x12), .int (iI x13), .int (iI x14)])), (a1, .inl (T 0, 940, .inl f0))]) M w 0 7 clX12 rfl (by decide) G1470 rfl rfl rfl rfl (Nat.le_of_ble_eq_true rfl) rfl dX12_go_179 (fun H locs w => ?_)
                              refine lv_aload_n hx hb dX12_go_182 rfl (lv_at hl 1 rfl) ?_
                              refine lv_iload_n hx hb dX12_go_183 rfl (lv_at hl 0 rfl) ?_
                              refine r_put (ws' := [(a0, .inr (11, [.int r0, .ref a1, .int (iI x0), .int (iI x1), .int r1, .int (iI z1), .int (iI z1), .int (iI 4), .int (iI x4), .int (iI z367), .int r4, .int r5, .long y0, .int (iI x5), .ref a2, .ref a3, .ref a4, .ref a5, .ref a6, .ref a7, .ref a8, .ref a9, .ref a10, .ref a11, .int (iI x6), .ref a12, .ref a13, .ref a14, .ref a15, .int (iI x7), .int r6, .int r7, .ref a16, .int r8, .int r9, .ref a17, .ref a18, .int (iI x8), .ref a19, .int (iI x9), .int r10, .ref a20, .ref a21, .int (iI x10), .int r11, .ref a22, .int (iI x11), .int (iI x12), .int (iI x13), .int (iI x14)])), (a1, .inl (T 0, 940, .inl f0))]) M w 0 9 clX12 rfl (by decide) G1472 rfl rfl rfl rfl (Nat.le_of_ble_eq_true rfl) rfl dX12_go_184 (fun H locs w => ?_)
                              refine lv_aload_n hx hb dX12_go_187 rfl (lv_at hl 1 rfl) ?_
                              refine lv_dup hx hb dX12_go_188 rfl ?_
                              refine r_get (v := .int (iI z1)) M w 0 5 clX12 rfl (by decide) G1468 rfl rfl dX12_go_189 ?_
                              refine lv_iconst (v := iI 1) hx hb dX12_go_192 (by decide +kernel) ?_
                              refine r_iadd (v := iI (z1 + 1)) M (iI_add _ _) dX12_go_193 ?_
                              refine r_put (ws' := [(a0, .inr (11, [.int r0, .ref a1, .int (iI x0), .int (iI x1), .int r1, .int (iI (z1 + 1)), .int (iI z1), .int (iI 4), .int (iI x4), .int (iI z367), .int r4, .int r5, .long y0, .int (iI x5), .ref a2, .ref a3, .ref a4, .ref a5, .ref a6, .ref a7, .ref a8, .ref a9, .ref a10, .ref a11, .int (iI x6), .ref a12, .ref a13, .ref a14, .ref a15, .int (iI x7), .int r6, .int r7, .ref a16, .int r8, .int r9, .ref a17, .ref a18, .int (iI x8), .ref a19, .int (iI x9), .int r10, .ref a20, .ref a21, .int (iI x10), .int r11, .ref a22, .int (iI x11), .int (iI x12), .int (iI x13), .int (iI x14)])), (a1, .inl (T 0, 940, .inl f0))]) M w 0 5 clX12 rfl (by decide) G1468 rfl rfl rfl rfl (Nat.le_of_ble_eq_true rfl) rfl dX12_go_194 (fun H locs w => ?_)
                              exact ret ((z1 + 1), (iI z1), 4, x4, (iI z367), y0) _ _ _ _ _ [0, 1] dX12_go_197 ⟨(show 0 ≤ (z1 + 1) from by omega), (show (z1 + 1) ≤ 940 from by omega), (show (0 : Int) ≤ 4 from by decide), (show (4 : Int) ≤ 4 from by decide), x4_a, x4_b, (show 0 ≤ ((z1 + 1) - x2) from by omega), (show 0 ≤ ((((z1 + 1) - x2) - 4) + 3) from by omega)⟩ w (by decide) rfl
                            · replace c_711 : ¬ z367 = 62 := fun h => c_711 ((iI_eq (Int.le_trans (by decide) z367_a) (Int.le_trans z367_b (by decide)) (by decide) (by decide)).mpr h)
                              refine lv_iload_n hx hb dX12_go_162 rfl (lv_at hl 0 rfl) ?_
                              refine lv_bipush (v := iI 40) hx hb dX12_go_163 (by decide +kernel) ?_
                              refine lv_icmp_eq (tgt := 174) hx hb dX12_go_165 (by decide) (fun c_712 => ?_) (fun c_712 => ?_)
                              · replace c_712 := (iI_eq (Int.le_trans (by decide) z367_a) (Int.le_trans z367_b (by decide)) (by decide) (by decide)).mp c_712
                                refine lv_iconst (v := iI 4) hx hb dX12_go_174 (by decide +kernel) ?_
                                refine lv_goto (tgt := 179) hx hb dX12_go_175 (by decide) ?_
                                refine r_put (ws' := [(a0, .inr (11, [.int r0, .ref a1, .int (iI x0), .int (iI x1), .int r1, .int (iI z1), .int (iI z1), .int (iI 4), .int (iI x4), .int r3, .int r4, .int r5, .long y0, .int (iI x5), .ref a2, .ref a3, .ref a4, .ref a5, .ref a6, .ref a7, .ref a8, .ref a9, .ref a10, .ref a11, .int (iI x6), .ref a12, .ref a13, .ref a14, .ref a15, .int (iI x7), .int r6, .int r7, .ref a16, .int r8, .int r9, .ref a17, .ref a18, .int (iI x8), .ref a19, .int (iI x9), .int r10, .ref a20, .ref a21, .int (iI x10), .int r11, .ref a22, .int (iI x11), .int (iI x12), .int (iI x13), .int (iI x14)])), (a1, .inl (T 0, 940, .inl f0))]) M w 0 7 clX12 rfl (by decide) G1470 rfl rfl rfl rfl (Nat.le_of_ble_eq_true rfl) rfl dX12_go_179 (fun H locs w => ?_)
                                refine lv_aload_n hx hb dX12_go_182 rfl (lv_at hl 1 rfl) ?_
                                refine lv_iload_n hx hb dX12_go_183 rfl (lv_at hl 0 rfl) ?_
                                refine r_put (ws' := [(a0, .inr (11, [.int r0, .ref a1, .int (iI x0), .int (iI x1), .int r1, .int (iI z1), .int (iI z1), .int (iI 4), .int (iI x4), .int (iI z367), .int r4, .int r5, .long y0, .int (iI x5), .ref a2, .ref a3, .ref a4, .ref a5, .ref a6, .ref a7, .ref a8, .ref a9, .ref a10, .ref a11, .int (iI x6), .ref a12, .ref a13, .ref a14, .ref a15, .int (iI x7), .int r6, .int r7, .ref a16, .int r8, .int r9, .ref a17, .ref a18, .int (iI x8), .ref a19, .int (iI x9), .int r10, .ref a20, .ref a21, .int (iI x10), .int r11, .ref a22, .int (iI x11), .int (iI x12), .int (iI x13), .int (iI x14)])), (a1, .inl (T 0, 940, .inl f0))]) M w 0 9 clX12 rfl (by decide) G1472 rfl rfl rfl rfl (Nat.le_of_ble_eq_true rfl) rfl dX12_go_184 (fun H locs w => ?_)
                                refine lv_aload_n hx hb dX12_go_187 rfl (lv_at hl 1 rfl) ?_
                                refine lv_dup hx hb dX12_go_188 rfl ?_
                                refine r_get (v := .int (iI z1)) M w 0 5 clX12 rfl (by decide) G1468 rfl rfl dX12_go_189 ?_
                                refine lv_iconst (v := iI 1) hx hb dX12_go_192 (by decide +kernel) ?_
                                refine r_iadd (v := iI (z1 + 1)) M (iI_add _ _) dX12_go_193 ?_
                                refine r_put (ws' := [(a0, .inr (11, [.int r0, .ref a1, .int (iI x0), .int (iI x1), .int r1, .int (iI (z1 + 1)), .int (iI z1), .int (iI 4), .int (iI x4), .int (iI z367), .int r4, .int r5, .long y0, .int (iI x5), .ref a2, .ref a3, .ref a4, .ref a5, .ref a6, .ref a7, .ref a8, .ref a9, .ref a10, .ref a11, .int (iI x6), .ref a12, .ref a13, .ref a14, .ref a15, .int (iI x7), .int r6, .int r7, .ref a16, .int r8, .int r9, .ref a17, .ref a18, .int (iI x8), .ref a19, .int (iI x9), .int r10, .ref a20, .ref a21, .int (iI x10), .int r11, .ref a22, .int (iI x11), .int (iI x12), .int (iI x13), .int (iI x14)])), (a1, .inl (T 0, 940, .inl f0))]) M w 0 5 clX12 rfl (by decide) G1468 rfl rfl rfl rfl (Nat.le_of_ble_eq_true rfl) rfl dX12_go_194 (fun H locs w => ?_)
                                exact ret ((z1 + 1), (iI z1), 4, x4, (iI z367), y0) _ _ _ _ _ [0, 1] dX12_go_197 ⟨(show 0 ≤ (z1 + 1) from by omega), (show (z1 + 1) ≤ 940 from by omega), (show (0 : Int) ≤ 4 from by decide), (show (4 : Int) ≤ 4 from by decide), x4_a, x4_b, (show 0 ≤ ((z1 + 1) - x2) from by omega), (show 0 ≤ ((((z1 + 1) - x2) - 4) + 3) from by omega)⟩ w (by decide) rfl
                              · replace c_712 : ¬ z367 = 40 := fun h => c_712 ((iI_eq (Int.le_trans (by decide) z367_a) (Int.le_trans z367_b (by decide)) (by decide) (by decide)).mpr h)
                                refine lv_iload_n hx hb dX12_go_168 rfl (lv_at hl 0 rfl) ?_
                                refine lv_bipush (v := iI 41) hx hb dX12_go_169 (by decide +kernel) ?_
                                refine lv_icmp_ne (tgt := 178) hx hb dX12_go_171 (by decide) (fun c_713 => ?_) (fun c_713 => ?_)
                                · replace c_713 : ¬ z367 = 41 := fun h => c_713 ((iI_eq (Int.le_trans (by decide) z367_a) (Int.le_trans z367_b (by decide)) (by decide) (by decide)).mpr h)
                                  refine lv_iconst (v := iI 1) hx hb dX12_go_178 (by decide +kernel) ?_
                                  refine r_put (ws' := [(a0, .inr (11, [.int r0, .ref a1, .int (iI x0), .int (iI x1), .int r1, .int (iI z1), .int (iI z1), .int (iI 1), .int (iI x4), .int r3, .int r4, .int r5, .long y0, .int (iI x5), .ref a2, .ref a3, .ref a4, .ref a5, .ref a6, .ref a7, .ref a8, .ref a9, .ref a10, .ref a11, .int (iI x6), .ref a12, .ref a13, .ref a14, .ref a15, .int (iI x7), .int r6, .int r7, .ref a16, .int r8, .int r9, .ref a17, .ref a18, .int (iI x8), .ref a19, .int (iI x9), .int r10, .ref a20, .ref a21, .int (iI x10), .int r11, .ref a22, .int (iI x11), .int (iI x12), .int (iI x13), .int (iI x14)])), (a1, .inl (T 0, 940, .inl f0))]) M w 0 7 clX12 rfl (by decide) G1470 rfl rfl rfl rfl (Nat.le_of_ble_eq_true rfl) rfl dX12_go_179 (fun H locs w => ?_)
                                  refine lv_aload_n hx hb dX12_go_182 rfl (lv_at hl 1 rfl) ?_
                                  refine lv_iload_n hx hb dX12_go_183 rfl (lv_at hl 0 rfl) ?_
                                  refine r_put (ws' := [(a0, .inr (11, [.int r0, .ref a1, .int (iI x0), .int (iI x1), .int r1, .int (iI z1), .int (iI z1), .int (iI 1), .int (iI x4), .int (iI z367), .int r4, .int r5, .long y0, .int (iI x5), .ref a2, .ref a3, .ref a4, .ref a5, .ref a6, .ref a7, .ref a8, .ref a9, .ref a10, .ref a11, .int (iI x6), .ref a12, .ref a13, .ref a14, .ref a15, .int (iI x7), .int r6, .int r7, .ref a16, .int r8, .int r9, .ref a17, .ref a18, .int (iI x8), .ref a19, .int (iI x9), .int r10, .ref a20, .ref a21, .int (iI x10), .int r11, .ref a22, .int (iI x11), .int (iI x12), .int (iI x13), .int (iI x14)])), (a1, .inl (T 0, 940, .inl f0))]) M w 0 9 clX12 rfl (by decide) G1472 rfl rfl rfl rfl (Nat.le_of_ble_eq_true rfl) rfl dX12_go_184 (fun H locs w => ?_)
                                  refine lv_aload_n hx hb dX12_go_187 rfl (lv_at hl 1 rfl) ?_
                                  refine lv_dup hx hb dX12_go_188 rfl ?_
                                  refine r_get (v := .int (iI z1)) M w 0 5 clX12 rfl (by decide) G1468 rfl rfl dX12_go_189 ?_
                                  refine lv_iconst (v := iI 1) hx hb dX12_go_192 (by decide +kernel) ?_
                                  refine r_iadd (v := iI (z1 + 1)) M (iI_add _ _) dX12_go_193 ?_
                                  refine r_put (ws' := [(a0, .inr (11, [.int r0, .ref a1, .int (iI x0), .int (iI x1), .int r1, .int (iI (z1 + 1)), .int (iI z1), .int (iI 1), .int (iI x4), .int (iI z367), .int r4, .int r5, .long y0, .int (iI x5), .ref a2, .ref a3, .ref a4, .ref a5, .ref a6, .ref a7, .ref a8, .ref a9, .ref a10, .ref a11, .int (iI x6), .ref a12, .ref a13, .ref a14, .ref a15, .int (iI x7), .int r6, .int r7, .ref a16, .int r8, .int r9, .ref a17, .ref a18, .int (iI x8), .ref a19, .int (iI x9), .int r10, .ref a20, .ref a21, .int (iI x10), .int r11, .ref a22, .int (iI x11), .int (iI x12), .int (iI x13), .int (iI x14)])), (a1, .inl (T 0, 940, .inl f0))]) M w 0 5 clX12 rfl (by decide) G1468 rfl rfl rfl rfl (Nat.le_of_ble_eq_true rfl) rfl dX12_go_194 (fun H locs w => ?_)
                                  exact ret ((z1 + 1), (iI z1), 1, x4, (iI z367), y0) _ _ _ _ _ [0, 1] dX12_go_197 ⟨(show 0 ≤ (z1 + 1) from by omega), (show (z1 + 1) ≤ 940 from by omega), (show (0 : Int) ≤ 1 from by decide), (show (1 : Int) ≤ 4 from by decide), x4_a, x4_b, (show 0 ≤ ((z1 + 1) - x2) from by omega), (show 0 ≤ ((((z1 + 1) - x2) - 1) + 3) from by omega)⟩ w (by decide) rfl
                                · replace c_713 := (iI_eq (Int.le_trans (by decide) z367_a) (Int.le_trans z367_b (by decide)) (by decide) (by decide)).mp c_713
                                  refine lv_iconst (v := iI 4) hx hb dX12_go_174 (by decide +kernel) ?_
                                  refine lv_goto (tgt := 179) hx hb dX12_go_175 (by decide) ?_
                                  refine r_put (ws' := [(a0, .inr (11, [.int r0, .ref a1, .int (iI x0), .int (iI x1), .int r1, .int (iI z1), .int (iI z1), .int (iI 4), .int (iI x4), .int r3, .int r4, .int r5, .long y0, .int (iI x5), .ref a2, .ref a3, .ref a4, .ref a5, .ref a6, .ref a7, .ref a8, .ref a9, .ref a10, .ref a11, .int (iI x6), .ref a12, .ref a13, .ref a14, .ref a15, .int (iI x7), .int r6, .int r7, .ref a16, .int r8, .int r9, .ref a17, .ref a18, .int (iI x8), .ref a19, .int (iI x9), .int r10, .ref a20, .ref a21, .int (iI x10), .int r11, .ref a22, .int (iI x11), .int (iI x12), .int (iI x13), .int (iI x14)])), (a1, .inl (T 0, 940, .inl f0))]) M w 0 7 clX12 rfl (by decide) G1470 rfl rfl rfl rfl (Nat.le_of_ble_eq_true rfl) rfl dX12_go_179 (fun H locs w => ?_)
                                  refine lv_aload_n hx hb dX12_go_182 rfl (lv_at hl 1 rfl) ?_
                                  refine lv_iload_n hx hb dX12_go_183 rfl (lv_at hl 0 rfl) ?_
                                  refine r_put (ws' := [(a0, .inr (11, [.int r0, .ref a1, .int (iI x0), .int (iI x1), .int r1, .int (iI z1), .int (iI z1), .int (iI 4), .int (iI x4), .int (iI z367), .int r4, .int r5, .long y0, .int (iI x5), .ref a2, .ref a3, .ref a4, .ref a5, .ref a6, .ref a7, .ref a8, .ref a9, .ref a10, .ref a11, .int (iI x6), .ref a12, .ref a13, .ref a14, .ref a15, .int (iI x7), .int r6, .int r7, .ref a16, .int r8, .int r9, .ref a17, .ref a18, .int (iI x8), .ref a19, .int (iI x9), .int r10, .ref a20, .ref a21, .int (iI x10), .int r11, .ref a22, .int (iI x11), .int (iI x12), .int (iI x13), .int (iI x14)])), (a1, .inl (T 0, 940, .inl f0))]) M w 0 9 clX12 rfl (by decide) G1472 rfl rfl rfl rfl (Nat.le_of_ble_eq_true rfl) rfl dX12_go_184 (fun H locs w => ?_)
                                  refine lv_aload_n hx hb dX12_go_187 rfl (lv_at hl 1 rfl) ?_
                                  refine lv_dup hx hb dX12_go_188 rfl ?_
                                  refine r_get (v := .int (iI z1)) M w 0 5 clX12 rfl (by decide) G1468 rfl rfl dX12_go_189 ?_
                                  refine lv_iconst (v := iI 1) hx hb dX12_go_192 (by decide +kernel) ?_
                                  refine r_iadd (v := iI (z1 + 1)) M (iI_add _ _) dX12_go_193 ?_
                                  refine r_put (ws' := [(a0, .inr (11, [.int r0, .ref a1, .int (iI x0), .int (iI x1), .int r1, .int (iI (z1 + 1)), .int (iI z1), .int (iI 4), .int (iI x4), .int (iI z367), .int r4, .int r5, .long y0, .int (iI x5), .ref a2, .ref a3, .ref a4, .ref a5, .ref a6, .ref a7, .ref a8, .ref a9, .ref a10, .ref a11, .int (iI x6), .ref a12, .ref a13, .ref a14, .ref a15, .int (iI x7), .int r6, .int r7, .ref a16, .int r8, .int r9, .ref a17, .ref a18, .int (iI x8), .ref a19, .int (iI x9), .int r10, .ref a20, .ref a21, .int (iI x10), .int r11, .ref a22, .int (iI x11), .int (iI x12), .int (iI x13), .int (iI x14)])), (a1, .inl (T 0, 940, .inl f0))]) M w 0 5 clX12 rfl (by decide) G1468 rfl rfl rfl rfl (Nat.le_of_ble_eq_true rfl) rfl dX12_go_194 (fun H locs w => ?_)
                                  exact ret ((z1 + 1), (iI z1), 4, x4, (iI z367), y0) _ _ _ _ _ [0, 1] dX12_go_197 ⟨(show 0 ≤ (z1 + 1) from by omega), (show (z1 + 1) ≤ 940 from by omega), (show (0 : Int) ≤ 4 from by decide), (show (4 : Int) ≤ 4 from by decide), x4_a, x4_b, (show 0 ≤ ((z1 + 1) - x2) from by omega), (show 0 ≤ ((((z1 + 1) - x2) - 4) + 3) from by omega)⟩ w (by decide) rfl
                · replace c_366 : x1 ≤ z1 := Int.not_lt.mp (fun h => c_366 ((iI_lt (Int.le_trans (by decide) z1_a) (Int.le_trans z1_b (by decide)) (Int.le_trans (by decide) x1_a) (Int.le_trans x1_b (by decide))).mpr h))
                  exfalso; omega
              · replace c_365 : z364 ≤ z1 := Int.not_lt.mp (fun h => c_365 ((iI_lt (Int.le_trans (by decide) z1_a) (Int.le_trans z1_b (by decide)) (Int.le_trans (by decide) z364_a) (Int.le_trans z364_b (by decide))).mpr h))
                refine lv_aload_n hx hb dX12_go_82 rfl (lv_at hl 0 rfl) ?_
                refine lv_aload_n hx hb dX12_go_83 rfl (lv_at hl 0 rfl) ?_
                refine r_get (v := .int r1) M w 0 4 clX12 rfl (by decide) G1467 rfl rfl dX12_go_84 ?_
                refine b_any (fun z714 z714_a z714_b => ?_)
                refine r_put (ws' := [(a0, .inr (11, [.int r0, .ref a1, .int (iI x0), .int (iI x1), .int r1, .int (iI z1), .int (iI z714), .int (iI x3), .int (iI x4), .int r3, .int r4, .int r5, .long y0, .int (iI x5), .ref a2, .ref a3, .ref a4, .ref a5, .ref a6, .ref a7, .ref a8, .ref a9, .ref a10, .ref a11, .int (iI x6), .ref a12, .ref a13, .ref a14, .ref a15, .int (iI x7), .int r6, .int r7, .ref a16, .int r8, .int r9, .ref a17, .ref a18, .int (iI x8), .ref a19, .int (iI x9), .int r10, .ref a20, .ref a21, .int (iI x10), .int r11, .ref a22, .int (iI x11), .int (iI x12), .int (iI x13), .int (iI x14)])), (a1, .inl (T 0, 940, .inl f0))]) M w 0 6 clX12 rfl (by decide) G1469 rfl rfl rfl rfl (Nat.le_of_ble_eq_true rfl) rfl dX12_go_87 (fun H locs w => ?_)
                refine lv_aload_n hx hb dX12_go_90 rfl (lv_at hl 0 rfl) ?_
                refine lv_iconst (v := iI 1) hx hb dX12_go_91 (by decide +kernel) ?_
                refine r_put (ws' := [(a0, .inr (11, [.int r0, .ref a1, .int (iI x0), .int (iI x1), .int r1, .int (iI z1), .int (iI z714), .int (iI 1), .int (iI x4), .int r3, .int r4, .int r5, .long y0, .int (iI x5), .ref a2, .ref a3, .ref a4, .ref a5, .ref a6, .ref a7, .ref a8, .ref a9, .ref a10, .ref a11, .int (iI x6), .ref a12, .ref a13, .ref a14, .ref a15, .int (iI x7), .int r6, .int r7, .ref a16, .int r8, .int r9, .ref a17, .ref a18, .int (iI x8), .ref a19, .int (iI x9), .int r10, .ref a20, .ref a21, .int (iI x10), .int r11, .ref a22, .int (iI x11), .int (iI x12), .int (iI x13), .int (iI x14)])), (a1, .inl (T 0, 940, .inl f0))]) M w 0 7 clX12 rfl (by decide) G1470 rfl rfl rfl rfl (Nat.le_of_ble_eq_true rfl) rfl dX12_go_92 (fun H locs w => ?_)
                exact ret (z1, (iI z714), 1, x4, r3, y0) _ _ _ _ _ [0, 1] dX12_go_95 ⟨z1_a, z1_b, (show (0 : Int) ≤ 1 from by decide), (show (1 : Int) ≤ 4 from by decide), x4_a, x4_b, (show 0 ≤ (z1 - x2) from by omega), (show 0 ≤ (((z1 - x2) - 1) + 3) from by omega)⟩ w (by decide) rfl
          · replace c_13 := (iI_eq (Int.le_trans (by decide) z12_a) (Int.le_trans z12_b (by decide)) (by decide) (by decide)).mp c_13
            refine lv_aload_n hx hb dX12_go_39 rfl (lv_at hl 0 rfl) ?_
            refine lv_dup hx hb dX12_go_40 rfl ?_
            refine r_get (v := .int (iI z1)) M w 0 5 clX12 rfl (by decide) G1468 rfl rfl dX12_go_41 ?_
            refine lv_iconst (v := iI 1) hx hb dX12_go_44 (by decide +kernel) ?_
            refine r_iadd (v := iI (z1 + 1)) M (iI_add _ _) dX12_go_45 ?_
            refine r_put (ws' := [(a0, .inr (11, [.int r0, .ref a1, .int (iI x0), .int (iI x1), .int r1, .int (iI (z1 + 1)), .int r2, .int (iI x3), .int (iI x4), .int r3, .int r4, .int r5, .long y0, .int (iI x5), .ref a2, .ref a3, .ref a4, .ref a5, .ref a6, .ref a7, .ref a8, .ref a9, .ref a10, .ref a11, .int (iI x6), .ref a12, .ref a13, .ref a14, .ref a15, .int (iI x7), .int r6, .int r7, .ref a16, .int r8, .int r9, .ref a17, .ref a18, .int (iI x8), .ref a19, .int (iI x9), .int r10, .ref a20, .ref a21, .int (iI x10), .int r11, .ref a22, .int (iI x11), .int (iI x12), .int (iI x13), .int (iI x14)])), (a1, .inl (T 0, 940, .inl f0))]) M w 0 5 clX12 rfl (by decide) G1468 rfl rfl rfl rfl (Nat.le_of_ble_eq_true rfl) rfl dX12_go_46 (fun H locs w => ?_)
            refine lv_goto (tgt := 0) hx hb dX12_go_49 (by decide) ?_
            exact ih1 (z1 + 1) _ _ _ (by omega) (by omega) (by omega) (by omega) w (lv_sub hl [0] rfl)
  exact loop1 (((x1 - x2) : Int).toNat + 1) x2 _ _ _ x2_a x2_b (by omega) (Nat.lt_succ_self _) w (lv_sub hl [0] rfl)
